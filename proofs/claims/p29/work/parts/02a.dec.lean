theorem dX0_init_0 : decode cX0_init 0 = .ok (.aload_n 0, 1) := by decide +kernel
theorem dX0_init_1 : decode cX0_init 1 = .ok (.invokespecial 3, 3) := by decide +kernel
theorem dX0_init_4 : decode cX0_init 4 = .ok (.aload_n 0, 1) := by decide +kernel
theorem dX0_init_5 : decode cX0_init 5 = .ok (.bipush 8, 2) := by decide +kernel
theorem dX0_init_7 : decode cX0_init 7 = .ok (.newarray .int, 2) := by decide +kernel
theorem dX0_init_9 : decode cX0_init 9 = .ok (.putfield 9, 3) := by decide +kernel
theorem dX0_init_12 : decode cX0_init 12 = .ok (.aload_n 0, 1) := by decide +kernel
theorem dX0_init_13 : decode cX0_init 13 = .ok (.bipush 8, 2) := by decide +kernel
theorem dX0_init_15 : decode cX0_init 15 = .ok (.newarray .int, 2) := by decide +kernel
theorem dX0_init_17 : decode cX0_init 17 = .ok (.putfield 15, 3) := by decide +kernel
theorem dX0_init_20 : decode cX0_init 20 = .ok (.aload_n 0, 1) := by decide +kernel
theorem dX0_init_21 : decode cX0_init 21 = .ok (.bipush 40, 2) := by decide +kernel
theorem dX0_init_23 : decode cX0_init 23 = .ok (.newarray .int, 2) := by decide +kernel
theorem dX0_init_25 : decode cX0_init 25 = .ok (.putfield 18, 3) := by decide +kernel
theorem dX0_init_28 : decode cX0_init 28 = .ok (.return_, 1) := by decide +kernel
theorem dX0_solve_0 : decode cX0_solve 0 = .ok (.aload_n 0, 1) := by decide +kernel
theorem dX0_solve_1 : decode cX0_solve 1 = .ok (.aload_n 1, 1) := by decide +kernel
theorem dX0_solve_2 : decode cX0_solve 2 = .ok (.iload_n 2, 1) := by decide +kernel
theorem dX0_solve_3 : decode cX0_solve 3 = .ok (.invokevirtual 21, 3) := by decide +kernel
theorem dX0_solve_6 : decode cX0_solve 6 = .ok (.aload_n 0, 1) := by decide +kernel
theorem dX0_solve_7 : decode cX0_solve 7 = .ok (.iconst 0, 1) := by decide +kernel
theorem dX0_solve_8 : decode cX0_solve 8 = .ok (.putfield 25, 3) := by decide +kernel
theorem dX0_solve_11 : decode cX0_solve 11 = .ok (.aload_n 0, 1) := by decide +kernel
theorem dX0_solve_12 : decode cX0_solve 12 = .ok (.getfield 29, 3) := by decide +kernel
theorem dX0_solve_15 : decode cX0_solve 15 = .ok (.ifCond .ne 4, 3) := by decide +kernel
theorem dX0_solve_18 : decode cX0_solve 18 = .ok (.return_, 1) := by decide +kernel
theorem dX0_solve_19 : decode cX0_solve 19 = .ok (.aload_n 0, 1) := by decide +kernel
theorem dX0_solve_20 : decode cX0_solve 20 = .ok (.getfield 29, 3) := by decide +kernel
theorem dX0_solve_23 : decode cX0_solve 23 = .ok (.iconst 1, 1) := by decide +kernel
theorem dX0_solve_24 : decode cX0_solve 24 = .ok (.isub, 1) := by decide +kernel
theorem dX0_solve_25 : decode cX0_solve 25 = .ok (.istore_n 3, 1) := by decide +kernel
theorem dX0_solve_26 : decode cX0_solve 26 = .ok (.iload_n 3, 1) := by decide +kernel
theorem dX0_solve_27 : decode cX0_solve 27 = .ok (.ifCond .lt 43, 3) := by decide +kernel
theorem dX0_solve_30 : decode cX0_solve 30 = .ok (.iconst 0, 1) := by decide +kernel
theorem dX0_solve_31 : decode cX0_solve 31 = .ok (.istore 4, 2) := by decide +kernel
theorem dX0_solve_33 : decode cX0_solve 33 = .ok (.iload 4, 2) := by decide +kernel
theorem dX0_solve_35 : decode cX0_solve 35 = .ok (.iconst 5, 1) := by decide +kernel
theorem dX0_solve_36 : decode cX0_solve 36 = .ok (.if_icmp .ge 28, 3) := by decide +kernel
theorem dX0_solve_39 : decode cX0_solve 39 = .ok (.aload_n 0, 1) := by decide +kernel
theorem dX0_solve_40 : decode cX0_solve 40 = .ok (.getfield 18, 3) := by decide +kernel
theorem dX0_solve_43 : decode cX0_solve 43 = .ok (.iload_n 3, 1) := by decide +kernel
theorem dX0_solve_44 : decode cX0_solve 44 = .ok (.iconst 5, 1) := by decide +kernel
theorem dX0_solve_45 : decode cX0_solve 45 = .ok (.imul, 1) := by decide +kernel
theorem dX0_solve_46 : decode cX0_solve 46 = .ok (.iload 4, 2) := by decide +kernel
theorem dX0_solve_48 : decode cX0_solve 48 = .ok (.iadd, 1) := by decide +kernel
theorem dX0_solve_49 : decode cX0_solve 49 = .ok (.aload_n 0, 1) := by decide +kernel
theorem dX0_solve_50 : decode cX0_solve 50 = .ok (.aload_n 1, 1) := by decide +kernel
theorem dX0_solve_51 : decode cX0_solve 51 = .ok (.iload_n 3, 1) := by decide +kernel
theorem dX0_solve_52 : decode cX0_solve 52 = .ok (.iload 4, 2) := by decide +kernel
theorem dX0_solve_54 : decode cX0_solve 54 = .ok (.invokevirtual 32, 3) := by decide +kernel
theorem dX0_solve_57 : decode cX0_solve 57 = .ok (.iastore, 1) := by decide +kernel
theorem dX0_solve_58 : decode cX0_solve 58 = .ok (.iinc 4 1, 3) := by decide +kernel
theorem dX0_solve_61 : decode cX0_solve 61 = .ok (.goto (-28), 3) := by decide +kernel
theorem dX0_solve_64 : decode cX0_solve 64 = .ok (.iinc 3 (-1), 3) := by decide +kernel
theorem dX0_solve_67 : decode cX0_solve 67 = .ok (.goto (-41), 3) := by decide +kernel
theorem dX0_solve_70 : decode cX0_solve 70 = .ok (.aload_n 0, 1) := by decide +kernel
theorem dX0_solve_71 : decode cX0_solve 71 = .ok (.getfield 9, 3) := by decide +kernel
theorem dX0_solve_74 : decode cX0_solve 74 = .ok (.iconst 0, 1) := by decide +kernel
theorem dX0_solve_75 : decode cX0_solve 75 = .ok (.iconst 0, 1) := by decide +kernel
theorem dX0_solve_76 : decode cX0_solve 76 = .ok (.iastore, 1) := by decide +kernel
theorem dX0_solve_77 : decode cX0_solve 77 = .ok (.iconst 1, 1) := by decide +kernel
theorem dX0_solve_78 : decode cX0_solve 78 = .ok (.istore_n 3, 1) := by decide +kernel
theorem dX0_solve_79 : decode cX0_solve 79 = .ok (.iload_n 3, 1) := by decide +kernel
theorem dX0_solve_80 : decode cX0_solve 80 = .ok (.iconst 5, 1) := by decide +kernel
theorem dX0_solve_81 : decode cX0_solve 81 = .ok (.if_icmp .ge 36, 3) := by decide +kernel
theorem dX0_solve_84 : decode cX0_solve 84 = .ok (.aload_n 0, 1) := by decide +kernel
theorem dX0_solve_85 : decode cX0_solve 85 = .ok (.getfield 18, 3) := by decide +kernel
theorem dX0_solve_88 : decode cX0_solve 88 = .ok (.iload_n 3, 1) := by decide +kernel
theorem dX0_solve_89 : decode cX0_solve 89 = .ok (.iaload, 1) := by decide +kernel
theorem dX0_solve_90 : decode cX0_solve 90 = .ok (.aload_n 0, 1) := by decide +kernel
theorem dX0_solve_91 : decode cX0_solve 91 = .ok (.getfield 18, 3) := by decide +kernel
theorem dX0_solve_94 : decode cX0_solve 94 = .ok (.aload_n 0, 1) := by decide +kernel
theorem dX0_solve_95 : decode cX0_solve 95 = .ok (.getfield 9, 3) := by decide +kernel
theorem dX0_solve_98 : decode cX0_solve 98 = .ok (.iconst 0, 1) := by decide +kernel
theorem dX0_solve_99 : decode cX0_solve 99 = .ok (.iaload, 1) := by decide +kernel
theorem dX0_solve_100 : decode cX0_solve 100 = .ok (.iaload, 1) := by decide +kernel
theorem dX0_solve_101 : decode cX0_solve 101 = .ok (.if_icmp .ge 10, 3) := by decide +kernel
theorem dX0_solve_104 : decode cX0_solve 104 = .ok (.aload_n 0, 1) := by decide +kernel
theorem dX0_solve_105 : decode cX0_solve 105 = .ok (.getfield 9, 3) := by decide +kernel
theorem dX0_solve_108 : decode cX0_solve 108 = .ok (.iconst 0, 1) := by decide +kernel
theorem dX0_solve_109 : decode cX0_solve 109 = .ok (.iload_n 3, 1) := by decide +kernel
theorem dX0_solve_110 : decode cX0_solve 110 = .ok (.iastore, 1) := by decide +kernel
theorem dX0_solve_111 : decode cX0_solve 111 = .ok (.iinc 3 1, 3) := by decide +kernel
theorem dX0_solve_114 : decode cX0_solve 114 = .ok (.goto (-35), 3) := by decide +kernel
theorem dX0_solve_117 : decode cX0_solve 117 = .ok (.aload_n 0, 1) := by decide +kernel
theorem dX0_solve_118 : decode cX0_solve 118 = .ok (.aload_n 0, 1) := by decide +kernel
theorem dX0_solve_119 : decode cX0_solve 119 = .ok (.getfield 18, 3) := by decide +kernel
theorem dX0_solve_122 : decode cX0_solve 122 = .ok (.aload_n 0, 1) := by decide +kernel
theorem dX0_solve_123 : decode cX0_solve 123 = .ok (.getfield 9, 3) := by decide +kernel
theorem dX0_solve_126 : decode cX0_solve 126 = .ok (.iconst 0, 1) := by decide +kernel
theorem dX0_solve_127 : decode cX0_solve 127 = .ok (.iaload, 1) := by decide +kernel
theorem dX0_solve_128 : decode cX0_solve 128 = .ok (.iaload, 1) := by decide +kernel
theorem dX0_solve_129 : decode cX0_solve 129 = .ok (.putfield 25, 3) := by decide +kernel
theorem dX0_solve_132 : decode cX0_solve 132 = .ok (.iconst 1, 1) := by decide +kernel
theorem dX0_solve_133 : decode cX0_solve 133 = .ok (.istore_n 3, 1) := by decide +kernel
theorem dX0_solve_134 : decode cX0_solve 134 = .ok (.iload_n 3, 1) := by decide +kernel
theorem dX0_solve_135 : decode cX0_solve 135 = .ok (.aload_n 0, 1) := by decide +kernel
theorem dX0_solve_136 : decode cX0_solve 136 = .ok (.getfield 29, 3) := by decide +kernel
theorem dX0_solve_139 : decode cX0_solve 139 = .ok (.if_icmp .ge 31, 3) := by decide +kernel
theorem dX0_solve_142 : decode cX0_solve 142 = .ok (.aload_n 0, 1) := by decide +kernel
theorem dX0_solve_143 : decode cX0_solve 143 = .ok (.getfield 9, 3) := by decide +kernel
theorem dX0_solve_146 : decode cX0_solve 146 = .ok (.iload_n 3, 1) := by decide +kernel
theorem dX0_solve_147 : decode cX0_solve 147 = .ok (.aload_n 0, 1) := by decide +kernel
theorem dX0_solve_148 : decode cX0_solve 148 = .ok (.aload_n 1, 1) := by decide +kernel
theorem dX0_solve_149 : decode cX0_solve 149 = .ok (.iload_n 3, 1) := by decide +kernel
theorem dX0_solve_150 : decode cX0_solve 150 = .ok (.iconst 1, 1) := by decide +kernel
theorem dX0_solve_151 : decode cX0_solve 151 = .ok (.isub, 1) := by decide +kernel
theorem dX0_solve_152 : decode cX0_solve 152 = .ok (.aload_n 0, 1) := by decide +kernel
theorem dX0_solve_153 : decode cX0_solve 153 = .ok (.getfield 9, 3) := by decide +kernel
theorem dX0_solve_156 : decode cX0_solve 156 = .ok (.iload_n 3, 1) := by decide +kernel
theorem dX0_solve_157 : decode cX0_solve 157 = .ok (.iconst 1, 1) := by decide +kernel
theorem dX0_solve_158 : decode cX0_solve 158 = .ok (.isub, 1) := by decide +kernel
theorem dX0_solve_159 : decode cX0_solve 159 = .ok (.iaload, 1) := by decide +kernel
theorem dX0_solve_160 : decode cX0_solve 160 = .ok (.invokevirtual 36, 3) := by decide +kernel
theorem dX0_solve_163 : decode cX0_solve 163 = .ok (.iastore, 1) := by decide +kernel
theorem dX0_solve_164 : decode cX0_solve 164 = .ok (.iinc 3 1, 3) := by decide +kernel
theorem dX0_solve_167 : decode cX0_solve 167 = .ok (.goto (-33), 3) := by decide +kernel
theorem dX0_solve_170 : decode cX0_solve 170 = .ok (.return_, 1) := by decide +kernel
theorem dX0_sortNotes_0 : decode cX0_sortNotes 0 = .ok (.aload_n 0, 1) := by decide +kernel
theorem dX0_sortNotes_1 : decode cX0_sortNotes 1 = .ok (.iconst 0, 1) := by decide +kernel
theorem dX0_sortNotes_2 : decode cX0_sortNotes 2 = .ok (.putfield 29, 3) := by decide +kernel
theorem dX0_sortNotes_5 : decode cX0_sortNotes 5 = .ok (.iconst 0, 1) := by decide +kernel
theorem dX0_sortNotes_6 : decode cX0_sortNotes 6 = .ok (.istore_n 3, 1) := by decide +kernel
theorem dX0_sortNotes_7 : decode cX0_sortNotes 7 = .ok (.iload_n 3, 1) := by decide +kernel
theorem dX0_sortNotes_8 : decode cX0_sortNotes 8 = .ok (.aload_n 1, 1) := by decide +kernel
theorem dX0_sortNotes_9 : decode cX0_sortNotes 9 = .ok (.getfield 39, 3) := by decide +kernel
theorem dX0_sortNotes_12 : decode cX0_sortNotes 12 = .ok (.if_icmp .ge 100, 3) := by decide +kernel
theorem dX0_sortNotes_15 : decode cX0_sortNotes 15 = .ok (.aload_n 0, 1) := by decide +kernel
theorem dX0_sortNotes_16 : decode cX0_sortNotes 16 = .ok (.getfield 29, 3) := by decide +kernel
theorem dX0_sortNotes_19 : decode cX0_sortNotes 19 = .ok (.bipush 8, 2) := by decide +kernel
theorem dX0_sortNotes_21 : decode cX0_sortNotes 21 = .ok (.if_icmp .ge 91, 3) := by decide +kernel
theorem dX0_sortNotes_24 : decode cX0_sortNotes 24 = .ok (.aload_n 1, 1) := by decide +kernel
theorem dX0_sortNotes_25 : decode cX0_sortNotes 25 = .ok (.getfield 44, 3) := by decide +kernel
theorem dX0_sortNotes_28 : decode cX0_sortNotes 28 = .ok (.iload_n 3, 1) := by decide +kernel
theorem dX0_sortNotes_29 : decode cX0_sortNotes 29 = .ok (.iaload, 1) := by decide +kernel
theorem dX0_sortNotes_30 : decode cX0_sortNotes 30 = .ok (.iload_n 2, 1) := by decide +kernel
theorem dX0_sortNotes_31 : decode cX0_sortNotes 31 = .ok (.if_icmp .eq 6, 3) := by decide +kernel
theorem dX0_sortNotes_34 : decode cX0_sortNotes 34 = .ok (.goto 72, 3) := by decide +kernel
theorem dX0_sortNotes_37 : decode cX0_sortNotes 37 = .ok (.aload_n 0, 1) := by decide +kernel
theorem dX0_sortNotes_38 : decode cX0_sortNotes 38 = .ok (.getfield 29, 3) := by decide +kernel
theorem dX0_sortNotes_41 : decode cX0_sortNotes 41 = .ok (.istore 4, 2) := by decide +kernel
theorem dX0_sortNotes_43 : decode cX0_sortNotes 43 = .ok (.iload 4, 2) := by decide +kernel
theorem dX0_sortNotes_45 : decode cX0_sortNotes 45 = .ok (.ifCond .le 43, 3) := by decide +kernel
theorem dX0_sortNotes_48 : decode cX0_sortNotes 48 = .ok (.aload_n 0, 1) := by decide +kernel
theorem dX0_sortNotes_49 : decode cX0_sortNotes 49 = .ok (.aload_n 1, 1) := by decide +kernel
theorem dX0_sortNotes_50 : decode cX0_sortNotes 50 = .ok (.iload_n 3, 1) := by decide +kernel
theorem dX0_sortNotes_51 : decode cX0_sortNotes 51 = .ok (.aload_n 0, 1) := by decide +kernel
theorem dX0_sortNotes_52 : decode cX0_sortNotes 52 = .ok (.getfield 15, 3) := by decide +kernel
theorem dX0_sortNotes_55 : decode cX0_sortNotes 55 = .ok (.iload 4, 2) := by decide +kernel
theorem dX0_sortNotes_57 : decode cX0_sortNotes 57 = .ok (.iconst 1, 1) := by decide +kernel
theorem dX0_sortNotes_58 : decode cX0_sortNotes 58 = .ok (.isub, 1) := by decide +kernel
theorem dX0_sortNotes_59 : decode cX0_sortNotes 59 = .ok (.iaload, 1) := by decide +kernel
theorem dX0_sortNotes_60 : decode cX0_sortNotes 60 = .ok (.invokevirtual 47, 3) := by decide +kernel
theorem dX0_sortNotes_63 : decode cX0_sortNotes 63 = .ok (.ifCond .eq 25, 3) := by decide +kernel
theorem dX0_sortNotes_66 : decode cX0_sortNotes 66 = .ok (.aload_n 0, 1) := by decide +kernel
theorem dX0_sortNotes_67 : decode cX0_sortNotes 67 = .ok (.getfield 15, 3) := by decide +kernel
theorem dX0_sortNotes_70 : decode cX0_sortNotes 70 = .ok (.iload 4, 2) := by decide +kernel
theorem dX0_sortNotes_72 : decode cX0_sortNotes 72 = .ok (.aload_n 0, 1) := by decide +kernel
theorem dX0_sortNotes_73 : decode cX0_sortNotes 73 = .ok (.getfield 15, 3) := by decide +kernel
theorem dX0_sortNotes_76 : decode cX0_sortNotes 76 = .ok (.iload 4, 2) := by decide +kernel
theorem dX0_sortNotes_78 : decode cX0_sortNotes 78 = .ok (.iconst 1, 1) := by decide +kernel
theorem dX0_sortNotes_79 : decode cX0_sortNotes 79 = .ok (.isub, 1) := by decide +kernel
theorem dX0_sortNotes_80 : decode cX0_sortNotes 80 = .ok (.iaload, 1) := by decide +kernel
theorem dX0_sortNotes_81 : decode cX0_sortNotes 81 = .ok (.iastore, 1) := by decide +kernel
theorem dX0_sortNotes_82 : decode cX0_sortNotes 82 = .ok (.iinc 4 (-1), 3) := by decide +kernel
theorem dX0_sortNotes_85 : decode cX0_sortNotes 85 = .ok (.goto (-42), 3) := by decide +kernel
theorem dX0_sortNotes_88 : decode cX0_sortNotes 88 = .ok (.aload_n 0, 1) := by decide +kernel
theorem dX0_sortNotes_89 : decode cX0_sortNotes 89 = .ok (.getfield 15, 3) := by decide +kernel
theorem dX0_sortNotes_92 : decode cX0_sortNotes 92 = .ok (.iload 4, 2) := by decide +kernel
theorem dX0_sortNotes_94 : decode cX0_sortNotes 94 = .ok (.iload_n 3, 1) := by decide +kernel
theorem dX0_sortNotes_95 : decode cX0_sortNotes 95 = .ok (.iastore, 1) := by decide +kernel
theorem dX0_sortNotes_96 : decode cX0_sortNotes 96 = .ok (.aload_n 0, 1) := by decide +kernel
theorem dX0_sortNotes_97 : decode cX0_sortNotes 97 = .ok (.dup, 1) := by decide +kernel
theorem dX0_sortNotes_98 : decode cX0_sortNotes 98 = .ok (.getfield 29, 3) := by decide +kernel
theorem dX0_sortNotes_101 : decode cX0_sortNotes 101 = .ok (.iconst 1, 1) := by decide +kernel
theorem dX0_sortNotes_102 : decode cX0_sortNotes 102 = .ok (.iadd, 1) := by decide +kernel
theorem dX0_sortNotes_103 : decode cX0_sortNotes 103 = .ok (.putfield 29, 3) := by decide +kernel
theorem dX0_sortNotes_106 : decode cX0_sortNotes 106 = .ok (.iinc 3 1, 3) := by decide +kernel
theorem dX0_sortNotes_109 : decode cX0_sortNotes 109 = .ok (.goto (-102), 3) := by decide +kernel
theorem dX0_sortNotes_112 : decode cX0_sortNotes 112 = .ok (.return_, 1) := by decide +kernel
theorem dX0_isAhead_0 : decode cX0_isAhead 0 = .ok (.aload_n 1, 1) := by decide +kernel
theorem dX0_isAhead_1 : decode cX0_isAhead 1 = .ok (.getfield 51, 3) := by decide +kernel
theorem dX0_isAhead_4 : decode cX0_isAhead 4 = .ok (.iload_n 2, 1) := by decide +kernel
theorem dX0_isAhead_5 : decode cX0_isAhead 5 = .ok (.iaload, 1) := by decide +kernel
theorem dX0_isAhead_6 : decode cX0_isAhead 6 = .ok (.aload_n 1, 1) := by decide +kernel
theorem dX0_isAhead_7 : decode cX0_isAhead 7 = .ok (.getfield 51, 3) := by decide +kernel
theorem dX0_isAhead_10 : decode cX0_isAhead 10 = .ok (.iload_n 3, 1) := by decide +kernel
theorem dX0_isAhead_11 : decode cX0_isAhead 11 = .ok (.iaload, 1) := by decide +kernel
theorem dX0_isAhead_12 : decode cX0_isAhead 12 = .ok (.if_icmp .eq 24, 3) := by decide +kernel
theorem dX0_isAhead_15 : decode cX0_isAhead 15 = .ok (.aload_n 1, 1) := by decide +kernel
theorem dX0_isAhead_16 : decode cX0_isAhead 16 = .ok (.getfield 51, 3) := by decide +kernel
theorem dX0_isAhead_19 : decode cX0_isAhead 19 = .ok (.iload_n 2, 1) := by decide +kernel
theorem dX0_isAhead_20 : decode cX0_isAhead 20 = .ok (.iaload, 1) := by decide +kernel
theorem dX0_isAhead_21 : decode cX0_isAhead 21 = .ok (.aload_n 1, 1) := by decide +kernel
theorem dX0_isAhead_22 : decode cX0_isAhead 22 = .ok (.getfield 51, 3) := by decide +kernel
theorem dX0_isAhead_25 : decode cX0_isAhead 25 = .ok (.iload_n 3, 1) := by decide +kernel
theorem dX0_isAhead_26 : decode cX0_isAhead 26 = .ok (.iaload, 1) := by decide +kernel
theorem dX0_isAhead_27 : decode cX0_isAhead 27 = .ok (.if_icmp .ge 7, 3) := by decide +kernel
theorem dX0_isAhead_30 : decode cX0_isAhead 30 = .ok (.iconst 1, 1) := by decide +kernel
theorem dX0_isAhead_31 : decode cX0_isAhead 31 = .ok (.goto 4, 3) := by decide +kernel
theorem dX0_isAhead_34 : decode cX0_isAhead 34 = .ok (.iconst 0, 1) := by decide +kernel
theorem dX0_isAhead_35 : decode cX0_isAhead 35 = .ok (.ireturn, 1) := by decide +kernel
theorem dX0_isAhead_36 : decode cX0_isAhead 36 = .ok (.aload_n 1, 1) := by decide +kernel
theorem dX0_isAhead_37 : decode cX0_isAhead 37 = .ok (.getfield 54, 3) := by decide +kernel
theorem dX0_isAhead_40 : decode cX0_isAhead 40 = .ok (.iload_n 2, 1) := by decide +kernel
theorem dX0_isAhead_41 : decode cX0_isAhead 41 = .ok (.iaload, 1) := by decide +kernel
theorem dX0_isAhead_42 : decode cX0_isAhead 42 = .ok (.aload_n 1, 1) := by decide +kernel
theorem dX0_isAhead_43 : decode cX0_isAhead 43 = .ok (.getfield 54, 3) := by decide +kernel
theorem dX0_isAhead_46 : decode cX0_isAhead 46 = .ok (.iload_n 3, 1) := by decide +kernel
theorem dX0_isAhead_47 : decode cX0_isAhead 47 = .ok (.iaload, 1) := by decide +kernel
theorem dX0_isAhead_48 : decode cX0_isAhead 48 = .ok (.if_icmp .ge 7, 3) := by decide +kernel
theorem dX0_isAhead_51 : decode cX0_isAhead 51 = .ok (.iconst 1, 1) := by decide +kernel
theorem dX0_isAhead_52 : decode cX0_isAhead 52 = .ok (.goto 4, 3) := by decide +kernel
theorem dX0_isAhead_55 : decode cX0_isAhead 55 = .ok (.iconst 0, 1) := by decide +kernel
theorem dX0_isAhead_56 : decode cX0_isAhead 56 = .ok (.ireturn, 1) := by decide +kernel
theorem dX0_leastFrom_0 : decode cX0_leastFrom 0 = .ok (.iload_n 2, 1) := by decide +kernel
theorem dX0_leastFrom_1 : decode cX0_leastFrom 1 = .ok (.iconst 1, 1) := by decide +kernel
theorem dX0_leastFrom_2 : decode cX0_leastFrom 2 = .ok (.iadd, 1) := by decide +kernel
theorem dX0_leastFrom_3 : decode cX0_leastFrom 3 = .ok (.aload_n 0, 1) := by decide +kernel
theorem dX0_leastFrom_4 : decode cX0_leastFrom 4 = .ok (.getfield 29, 3) := by decide +kernel
theorem dX0_leastFrom_7 : decode cX0_leastFrom 7 = .ok (.if_icmp .lt 5, 3) := by decide +kernel
theorem dX0_leastFrom_10 : decode cX0_leastFrom 10 = .ok (.iconst 0, 1) := by decide +kernel
theorem dX0_leastFrom_11 : decode cX0_leastFrom 11 = .ok (.ireturn, 1) := by decide +kernel
theorem dX0_leastFrom_12 : decode cX0_leastFrom 12 = .ok (.aload_n 0, 1) := by decide +kernel
theorem dX0_leastFrom_13 : decode cX0_leastFrom 13 = .ok (.aload_n 1, 1) := by decide +kernel
theorem dX0_leastFrom_14 : decode cX0_leastFrom 14 = .ok (.iload_n 2, 1) := by decide +kernel
theorem dX0_leastFrom_15 : decode cX0_leastFrom 15 = .ok (.iload_n 3, 1) := by decide +kernel
theorem dX0_leastFrom_16 : decode cX0_leastFrom 16 = .ok (.aload_n 0, 1) := by decide +kernel
theorem dX0_leastFrom_17 : decode cX0_leastFrom 17 = .ok (.aload_n 1, 1) := by decide +kernel
theorem dX0_leastFrom_18 : decode cX0_leastFrom 18 = .ok (.iload_n 2, 1) := by decide +kernel
theorem dX0_leastFrom_19 : decode cX0_leastFrom 19 = .ok (.iload_n 3, 1) := by decide +kernel
theorem dX0_leastFrom_20 : decode cX0_leastFrom 20 = .ok (.invokevirtual 36, 3) := by decide +kernel
theorem dX0_leastFrom_23 : decode cX0_leastFrom 23 = .ok (.invokevirtual 57, 3) := by decide +kernel
theorem dX0_leastFrom_26 : decode cX0_leastFrom 26 = .ok (.ireturn, 1) := by decide +kernel
theorem dX0_nextFinger_0 : decode cX0_nextFinger 0 = .ok (.iconst 0, 1) := by decide +kernel
theorem dX0_nextFinger_1 : decode cX0_nextFinger 1 = .ok (.istore 4, 2) := by decide +kernel
theorem dX0_nextFinger_3 : decode cX0_nextFinger 3 = .ok (.iconst 1, 1) := by decide +kernel
theorem dX0_nextFinger_4 : decode cX0_nextFinger 4 = .ok (.istore 5, 2) := by decide +kernel
theorem dX0_nextFinger_6 : decode cX0_nextFinger 6 = .ok (.iload 5, 2) := by decide +kernel
theorem dX0_nextFinger_8 : decode cX0_nextFinger 8 = .ok (.iconst 5, 1) := by decide +kernel
theorem dX0_nextFinger_9 : decode cX0_nextFinger 9 = .ok (.if_icmp .ge 34, 3) := by decide +kernel
theorem dX0_nextFinger_12 : decode cX0_nextFinger 12 = .ok (.aload_n 0, 1) := by decide +kernel
theorem dX0_nextFinger_13 : decode cX0_nextFinger 13 = .ok (.aload_n 1, 1) := by decide +kernel
theorem dX0_nextFinger_14 : decode cX0_nextFinger 14 = .ok (.iload_n 2, 1) := by decide +kernel
theorem dX0_nextFinger_15 : decode cX0_nextFinger 15 = .ok (.iload_n 3, 1) := by decide +kernel
theorem dX0_nextFinger_16 : decode cX0_nextFinger 16 = .ok (.iload 5, 2) := by decide +kernel
theorem dX0_nextFinger_18 : decode cX0_nextFinger 18 = .ok (.invokevirtual 57, 3) := by decide +kernel
theorem dX0_nextFinger_21 : decode cX0_nextFinger 21 = .ok (.aload_n 0, 1) := by decide +kernel
theorem dX0_nextFinger_22 : decode cX0_nextFinger 22 = .ok (.aload_n 1, 1) := by decide +kernel
theorem dX0_nextFinger_23 : decode cX0_nextFinger 23 = .ok (.iload_n 2, 1) := by decide +kernel
theorem dX0_nextFinger_24 : decode cX0_nextFinger 24 = .ok (.iload_n 3, 1) := by decide +kernel
theorem dX0_nextFinger_25 : decode cX0_nextFinger 25 = .ok (.iload 4, 2) := by decide +kernel
theorem dX0_nextFinger_27 : decode cX0_nextFinger 27 = .ok (.invokevirtual 57, 3) := by decide +kernel
theorem dX0_nextFinger_30 : decode cX0_nextFinger 30 = .ok (.if_icmp .ge 7, 3) := by decide +kernel
theorem dX0_nextFinger_33 : decode cX0_nextFinger 33 = .ok (.iload 5, 2) := by decide +kernel
theorem dX0_nextFinger_35 : decode cX0_nextFinger 35 = .ok (.istore 4, 2) := by decide +kernel
theorem dX0_nextFinger_37 : decode cX0_nextFinger 37 = .ok (.iinc 5 1, 3) := by decide +kernel
theorem dX0_nextFinger_40 : decode cX0_nextFinger 40 = .ok (.goto (-34), 3) := by decide +kernel
theorem dX0_nextFinger_43 : decode cX0_nextFinger 43 = .ok (.iload 4, 2) := by decide +kernel
theorem dX0_nextFinger_45 : decode cX0_nextFinger 45 = .ok (.ireturn, 1) := by decide +kernel
theorem dX0_costBy_0 : decode cX0_costBy 0 = .ok (.aload_n 1, 1) := by decide +kernel
theorem dX0_costBy_1 : decode cX0_costBy 1 = .ok (.getfield 54, 3) := by decide +kernel
theorem dX0_costBy_4 : decode cX0_costBy 4 = .ok (.aload_n 0, 1) := by decide +kernel
theorem dX0_costBy_5 : decode cX0_costBy 5 = .ok (.getfield 15, 3) := by decide +kernel
theorem dX0_costBy_8 : decode cX0_costBy 8 = .ok (.iload_n 2, 1) := by decide +kernel
theorem dX0_costBy_9 : decode cX0_costBy 9 = .ok (.iconst 1, 1) := by decide +kernel
theorem dX0_costBy_10 : decode cX0_costBy 10 = .ok (.iadd, 1) := by decide +kernel
theorem dX0_costBy_11 : decode cX0_costBy 11 = .ok (.iaload, 1) := by decide +kernel
theorem dX0_costBy_12 : decode cX0_costBy 12 = .ok (.iaload, 1) := by decide +kernel
theorem dX0_costBy_13 : decode cX0_costBy 13 = .ok (.aload_n 1, 1) := by decide +kernel
theorem dX0_costBy_14 : decode cX0_costBy 14 = .ok (.getfield 54, 3) := by decide +kernel
theorem dX0_costBy_17 : decode cX0_costBy 17 = .ok (.aload_n 0, 1) := by decide +kernel
theorem dX0_costBy_18 : decode cX0_costBy 18 = .ok (.getfield 15, 3) := by decide +kernel
theorem dX0_costBy_21 : decode cX0_costBy 21 = .ok (.iload_n 2, 1) := by decide +kernel
theorem dX0_costBy_22 : decode cX0_costBy 22 = .ok (.iaload, 1) := by decide +kernel
theorem dX0_costBy_23 : decode cX0_costBy 23 = .ok (.iaload, 1) := by decide +kernel
theorem dX0_costBy_24 : decode cX0_costBy 24 = .ok (.isub, 1) := by decide +kernel
theorem dX0_costBy_25 : decode cX0_costBy 25 = .ok (.istore 5, 2) := by decide +kernel
theorem dX0_costBy_27 : decode cX0_costBy 27 = .ok (.iload 5, 2) := by decide +kernel
theorem dX0_costBy_29 : decode cX0_costBy 29 = .ok (.iload 4, 2) := by decide +kernel
theorem dX0_costBy_31 : decode cX0_costBy 31 = .ok (.iload_n 3, 1) := by decide +kernel
theorem dX0_costBy_32 : decode cX0_costBy 32 = .ok (.isub, 1) := by decide +kernel
theorem dX0_costBy_33 : decode cX0_costBy 33 = .ok (.isub, 1) := by decide +kernel
theorem dX0_costBy_34 : decode cX0_costBy 34 = .ok (.invokestatic 61, 3) := by decide +kernel
theorem dX0_costBy_37 : decode cX0_costBy 37 = .ok (.istore 6, 2) := by decide +kernel
theorem dX0_costBy_39 : decode cX0_costBy 39 = .ok (.iload_n 3, 1) := by decide +kernel
theorem dX0_costBy_40 : decode cX0_costBy 40 = .ok (.iload 4, 2) := by decide +kernel
theorem dX0_costBy_42 : decode cX0_costBy 42 = .ok (.if_icmp .ne 12, 3) := by decide +kernel
theorem dX0_costBy_45 : decode cX0_costBy 45 = .ok (.iload 5, 2) := by decide +kernel
theorem dX0_costBy_47 : decode cX0_costBy 47 = .ok (.ifCond .eq 7, 3) := by decide +kernel
theorem dX0_costBy_50 : decode cX0_costBy 50 = .ok (.iconst 3, 1) := by decide +kernel
theorem dX0_costBy_51 : decode cX0_costBy 51 = .ok (.goto 4, 3) := by decide +kernel
theorem dX0_costBy_54 : decode cX0_costBy 54 = .ok (.iconst 0, 1) := by decide +kernel
theorem dX0_costBy_55 : decode cX0_costBy 55 = .ok (.istore 7, 2) := by decide +kernel
theorem dX0_costBy_57 : decode cX0_costBy 57 = .ok (.iload 6, 2) := by decide +kernel
theorem dX0_costBy_59 : decode cX0_costBy 59 = .ok (.iload 7, 2) := by decide +kernel
theorem dX0_costBy_61 : decode cX0_costBy 61 = .ok (.iadd, 1) := by decide +kernel
theorem dX0_costBy_62 : decode cX0_costBy 62 = .ok (.aload_n 0, 1) := by decide +kernel
theorem dX0_costBy_63 : decode cX0_costBy 63 = .ok (.getfield 18, 3) := by decide +kernel
theorem dX0_costBy_66 : decode cX0_costBy 66 = .ok (.iload_n 2, 1) := by decide +kernel
theorem dX0_costBy_67 : decode cX0_costBy 67 = .ok (.iconst 1, 1) := by decide +kernel
theorem dX0_costBy_68 : decode cX0_costBy 68 = .ok (.iadd, 1) := by decide +kernel
theorem dX0_costBy_69 : decode cX0_costBy 69 = .ok (.iconst 5, 1) := by decide +kernel
theorem dX0_costBy_70 : decode cX0_costBy 70 = .ok (.imul, 1) := by decide +kernel
theorem dX0_costBy_71 : decode cX0_costBy 71 = .ok (.iload 4, 2) := by decide +kernel
theorem dX0_costBy_73 : decode cX0_costBy 73 = .ok (.iadd, 1) := by decide +kernel
theorem dX0_costBy_74 : decode cX0_costBy 74 = .ok (.iaload, 1) := by decide +kernel
theorem dX0_costBy_75 : decode cX0_costBy 75 = .ok (.iadd, 1) := by decide +kernel
theorem dX0_costBy_76 : decode cX0_costBy 76 = .ok (.ireturn, 1) := by decide +kernel
theorem dX1_init_0 : decode cX1_init 0 = .ok (.aload_n 0, 1) := by decide +kernel
theorem dX1_init_1 : decode cX1_init 1 = .ok (.invokespecial 3, 3) := by decide +kernel
theorem dX1_init_4 : decode cX1_init 4 = .ok (.aload_n 0, 1) := by decide +kernel
theorem dX1_init_5 : decode cX1_init 5 = .ok (.iconst 2, 1) := by decide +kernel
theorem dX1_init_6 : decode cX1_init 6 = .ok (.newarray .int, 2) := by decide +kernel
theorem dX1_init_8 : decode cX1_init 8 = .ok (.putfield 9, 3) := by decide +kernel
theorem dX1_init_11 : decode cX1_init 11 = .ok (.aload_n 0, 1) := by decide +kernel
theorem dX1_init_12 : decode cX1_init 12 = .ok (.bipush 48, 2) := by decide +kernel
theorem dX1_init_14 : decode cX1_init 14 = .ok (.newarray .int, 2) := by decide +kernel
theorem dX1_init_16 : decode cX1_init 16 = .ok (.putfield 15, 3) := by decide +kernel
theorem dX1_init_19 : decode cX1_init 19 = .ok (.return_, 1) := by decide +kernel
theorem dX1_solve_0 : decode cX1_solve 0 = .ok (.aload_n 0, 1) := by decide +kernel
theorem dX1_solve_1 : decode cX1_solve 1 = .ok (.aload_n 1, 1) := by decide +kernel
theorem dX1_solve_2 : decode cX1_solve 2 = .ok (.invokevirtual 18, 3) := by decide +kernel
theorem dX1_solve_5 : decode cX1_solve 5 = .ok (.putfield 24, 3) := by decide +kernel
theorem dX1_solve_8 : decode cX1_solve 8 = .ok (.aload_n 0, 1) := by decide +kernel
theorem dX1_solve_9 : decode cX1_solve 9 = .ok (.aload_n 0, 1) := by decide +kernel
theorem dX1_solve_10 : decode cX1_solve 10 = .ok (.getfield 24, 3) := by decide +kernel
theorem dX1_solve_13 : decode cX1_solve 13 = .ok (.putfield 28, 3) := by decide +kernel
theorem dX1_solve_16 : decode cX1_solve 16 = .ok (.aload_n 0, 1) := by decide +kernel
theorem dX1_solve_17 : decode cX1_solve 17 = .ok (.iconst 0, 1) := by decide +kernel
theorem dX1_solve_18 : decode cX1_solve 18 = .ok (.putfield 31, 3) := by decide +kernel
theorem dX1_solve_21 : decode cX1_solve 21 = .ok (.aload_n 0, 1) := by decide +kernel
theorem dX1_solve_22 : decode cX1_solve 22 = .ok (.aload_n 1, 1) := by decide +kernel
theorem dX1_solve_23 : decode cX1_solve 23 = .ok (.invokevirtual 34, 3) := by decide +kernel
theorem dX1_solve_26 : decode cX1_solve 26 = .ok (.iconst 1, 1) := by decide +kernel
theorem dX1_solve_27 : decode cX1_solve 27 = .ok (.istore_n 3, 1) := by decide +kernel
theorem dX1_solve_28 : decode cX1_solve 28 = .ok (.iload_n 3, 1) := by decide +kernel
theorem dX1_solve_29 : decode cX1_solve 29 = .ok (.iload_n 2, 1) := by decide +kernel
theorem dX1_solve_30 : decode cX1_solve 30 = .ok (.if_icmp .gt 64, 3) := by decide +kernel
theorem dX1_solve_33 : decode cX1_solve 33 = .ok (.iconst 0, 1) := by decide +kernel
theorem dX1_solve_34 : decode cX1_solve 34 = .ok (.istore 4, 2) := by decide +kernel
theorem dX1_solve_36 : decode cX1_solve 36 = .ok (.iload 4, 2) := by decide +kernel
theorem dX1_solve_38 : decode cX1_solve 38 = .ok (.aload_n 1, 1) := by decide +kernel
theorem dX1_solve_39 : decode cX1_solve 39 = .ok (.getfield 38, 3) := by decide +kernel
theorem dX1_solve_42 : decode cX1_solve 42 = .ok (.if_icmp .ge 46, 3) := by decide +kernel
theorem dX1_solve_45 : decode cX1_solve 45 = .ok (.iconst 0, 1) := by decide +kernel
theorem dX1_solve_46 : decode cX1_solve 46 = .ok (.istore 5, 2) := by decide +kernel
theorem dX1_solve_48 : decode cX1_solve 48 = .ok (.iload 5, 2) := by decide +kernel
theorem dX1_solve_50 : decode cX1_solve 50 = .ok (.iconst 4, 1) := by decide +kernel
theorem dX1_solve_51 : decode cX1_solve 51 = .ok (.if_icmp .ge 31, 3) := by decide +kernel
theorem dX1_solve_54 : decode cX1_solve 54 = .ok (.aload_n 0, 1) := by decide +kernel
theorem dX1_solve_55 : decode cX1_solve 55 = .ok (.aload_n 1, 1) := by decide +kernel
theorem dX1_solve_56 : decode cX1_solve 56 = .ok (.iload 4, 2) := by decide +kernel
theorem dX1_solve_58 : decode cX1_solve 58 = .ok (.iload 5, 2) := by decide +kernel
theorem dX1_solve_60 : decode cX1_solve 60 = .ok (.invokevirtual 41, 3) := by decide +kernel
theorem dX1_solve_63 : decode cX1_solve 63 = .ok (.ifCond .eq 13, 3) := by decide +kernel
theorem dX1_solve_66 : decode cX1_solve 66 = .ok (.aload_n 0, 1) := by decide +kernel
theorem dX1_solve_67 : decode cX1_solve 67 = .ok (.aload_n 1, 1) := by decide +kernel
theorem dX1_solve_68 : decode cX1_solve 68 = .ok (.iload 4, 2) := by decide +kernel
theorem dX1_solve_70 : decode cX1_solve 70 = .ok (.iload 5, 2) := by decide +kernel
theorem dX1_solve_72 : decode cX1_solve 72 = .ok (.iload_n 3, 1) := by decide +kernel
theorem dX1_solve_73 : decode cX1_solve 73 = .ok (.invokevirtual 45, 3) := by decide +kernel
theorem dX1_solve_76 : decode cX1_solve 76 = .ok (.iinc 5 1, 3) := by decide +kernel
theorem dX1_solve_79 : decode cX1_solve 79 = .ok (.goto (-31), 3) := by decide +kernel
theorem dX1_solve_82 : decode cX1_solve 82 = .ok (.iinc 4 1, 3) := by decide +kernel
theorem dX1_solve_85 : decode cX1_solve 85 = .ok (.goto (-49), 3) := by decide +kernel
theorem dX1_solve_88 : decode cX1_solve 88 = .ok (.iinc 3 1, 3) := by decide +kernel
theorem dX1_solve_91 : decode cX1_solve 91 = .ok (.goto (-63), 3) := by decide +kernel
theorem dX1_solve_94 : decode cX1_solve 94 = .ok (.return_, 1) := by decide +kernel
theorem dX1_countAll_0 : decode cX1_countAll 0 = .ok (.iconst 0, 1) := by decide +kernel
theorem dX1_countAll_1 : decode cX1_countAll 1 = .ok (.istore_n 2, 1) := by decide +kernel
theorem dX1_countAll_2 : decode cX1_countAll 2 = .ok (.iload_n 2, 1) := by decide +kernel
theorem dX1_countAll_3 : decode cX1_countAll 3 = .ok (.aload_n 1, 1) := by decide +kernel
theorem dX1_countAll_4 : decode cX1_countAll 4 = .ok (.getfield 38, 3) := by decide +kernel
theorem dX1_countAll_7 : decode cX1_countAll 7 = .ok (.if_icmp .ge 39, 3) := by decide +kernel
theorem dX1_countAll_10 : decode cX1_countAll 10 = .ok (.iconst 0, 1) := by decide +kernel
theorem dX1_countAll_11 : decode cX1_countAll 11 = .ok (.istore_n 3, 1) := by decide +kernel
theorem dX1_countAll_12 : decode cX1_countAll 12 = .ok (.iload_n 3, 1) := by decide +kernel
theorem dX1_countAll_13 : decode cX1_countAll 13 = .ok (.iconst 4, 1) := by decide +kernel
theorem dX1_countAll_14 : decode cX1_countAll 14 = .ok (.if_icmp .ge 26, 3) := by decide +kernel
theorem dX1_countAll_17 : decode cX1_countAll 17 = .ok (.aload_n 0, 1) := by decide +kernel
theorem dX1_countAll_18 : decode cX1_countAll 18 = .ok (.getfield 15, 3) := by decide +kernel
theorem dX1_countAll_21 : decode cX1_countAll 21 = .ok (.iload_n 2, 1) := by decide +kernel
theorem dX1_countAll_22 : decode cX1_countAll 22 = .ok (.iconst 4, 1) := by decide +kernel
theorem dX1_countAll_23 : decode cX1_countAll 23 = .ok (.imul, 1) := by decide +kernel
theorem dX1_countAll_24 : decode cX1_countAll 24 = .ok (.iload_n 3, 1) := by decide +kernel
theorem dX1_countAll_25 : decode cX1_countAll 25 = .ok (.iadd, 1) := by decide +kernel
theorem dX1_countAll_26 : decode cX1_countAll 26 = .ok (.aload_n 0, 1) := by decide +kernel
theorem dX1_countAll_27 : decode cX1_countAll 27 = .ok (.aload_n 1, 1) := by decide +kernel
theorem dX1_countAll_28 : decode cX1_countAll 28 = .ok (.iload_n 2, 1) := by decide +kernel
theorem dX1_countAll_29 : decode cX1_countAll 29 = .ok (.iload_n 3, 1) := by decide +kernel
theorem dX1_countAll_30 : decode cX1_countAll 30 = .ok (.invokevirtual 49, 3) := by decide +kernel
theorem dX1_countAll_33 : decode cX1_countAll 33 = .ok (.iastore, 1) := by decide +kernel
theorem dX1_countAll_34 : decode cX1_countAll 34 = .ok (.iinc 3 1, 3) := by decide +kernel
theorem dX1_countAll_37 : decode cX1_countAll 37 = .ok (.goto (-25), 3) := by decide +kernel
theorem dX1_countAll_40 : decode cX1_countAll 40 = .ok (.iinc 2 1, 3) := by decide +kernel
theorem dX1_countAll_43 : decode cX1_countAll 43 = .ok (.goto (-41), 3) := by decide +kernel
theorem dX1_countAll_46 : decode cX1_countAll 46 = .ok (.return_, 1) := by decide +kernel
theorem dX1_countWith_0 : decode cX1_countWith 0 = .ok (.iconst 0, 1) := by decide +kernel
theorem dX1_countWith_1 : decode cX1_countWith 1 = .ok (.istore 4, 2) := by decide +kernel
theorem dX1_countWith_3 : decode cX1_countWith 3 = .ok (.iconst 0, 1) := by decide +kernel
theorem dX1_countWith_4 : decode cX1_countWith 4 = .ok (.istore 5, 2) := by decide +kernel
theorem dX1_countWith_6 : decode cX1_countWith 6 = .ok (.iload 5, 2) := by decide +kernel
theorem dX1_countWith_8 : decode cX1_countWith 8 = .ok (.aload_n 1, 1) := by decide +kernel
theorem dX1_countWith_9 : decode cX1_countWith 9 = .ok (.getfield 38, 3) := by decide +kernel
theorem dX1_countWith_12 : decode cX1_countWith 12 = .ok (.if_icmp .ge 37, 3) := by decide +kernel
theorem dX1_countWith_15 : decode cX1_countWith 15 = .ok (.iload 5, 2) := by decide +kernel
theorem dX1_countWith_17 : decode cX1_countWith 17 = .ok (.iload_n 2, 1) := by decide +kernel
theorem dX1_countWith_18 : decode cX1_countWith 18 = .ok (.if_icmp .eq 25, 3) := by decide +kernel
theorem dX1_countWith_21 : decode cX1_countWith 21 = .ok (.aload_n 1, 1) := by decide +kernel
theorem dX1_countWith_22 : decode cX1_countWith 22 = .ok (.iload_n 2, 1) := by decide +kernel
theorem dX1_countWith_23 : decode cX1_countWith 23 = .ok (.iload_n 3, 1) := by decide +kernel
theorem dX1_countWith_24 : decode cX1_countWith 24 = .ok (.iload 5, 2) := by decide +kernel
theorem dX1_countWith_26 : decode cX1_countWith 26 = .ok (.aload_n 1, 1) := by decide +kernel
theorem dX1_countWith_27 : decode cX1_countWith 27 = .ok (.getfield 53, 3) := by decide +kernel
theorem dX1_countWith_30 : decode cX1_countWith 30 = .ok (.iload 5, 2) := by decide +kernel
theorem dX1_countWith_32 : decode cX1_countWith 32 = .ok (.iaload, 1) := by decide +kernel
theorem dX1_countWith_33 : decode cX1_countWith 33 = .ok (.invokevirtual 56, 3) := by decide +kernel
theorem dX1_countWith_36 : decode cX1_countWith 36 = .ok (.iconst (-1), 1) := by decide +kernel
theorem dX1_countWith_37 : decode cX1_countWith 37 = .ok (.if_icmp .eq 6, 3) := by decide +kernel
theorem dX1_countWith_40 : decode cX1_countWith 40 = .ok (.iinc 4 1, 3) := by decide +kernel
theorem dX1_countWith_43 : decode cX1_countWith 43 = .ok (.iinc 5 1, 3) := by decide +kernel
theorem dX1_countWith_46 : decode cX1_countWith 46 = .ok (.goto (-40), 3) := by decide +kernel
theorem dX1_countWith_49 : decode cX1_countWith 49 = .ok (.iload 4, 2) := by decide +kernel
theorem dX1_countWith_51 : decode cX1_countWith 51 = .ok (.ireturn, 1) := by decide +kernel
theorem dX1_isChange_0 : decode cX1_isChange 0 = .ok (.aload_n 1, 1) := by decide +kernel
theorem dX1_isChange_1 : decode cX1_isChange 1 = .ok (.iload_n 2, 1) := by decide +kernel
theorem dX1_isChange_2 : decode cX1_isChange 2 = .ok (.invokevirtual 60, 3) := by decide +kernel
theorem dX1_isChange_5 : decode cX1_isChange 5 = .ok (.ifCond .eq 17, 3) := by decide +kernel
theorem dX1_isChange_8 : decode cX1_isChange 8 = .ok (.aload_n 1, 1) := by decide +kernel
theorem dX1_isChange_9 : decode cX1_isChange 9 = .ok (.getfield 53, 3) := by decide +kernel
theorem dX1_isChange_12 : decode cX1_isChange 12 = .ok (.iload_n 2, 1) := by decide +kernel
theorem dX1_isChange_13 : decode cX1_isChange 13 = .ok (.iaload, 1) := by decide +kernel
theorem dX1_isChange_14 : decode cX1_isChange 14 = .ok (.iload_n 3, 1) := by decide +kernel
theorem dX1_isChange_15 : decode cX1_isChange 15 = .ok (.if_icmp .eq 7, 3) := by decide +kernel
theorem dX1_isChange_18 : decode cX1_isChange 18 = .ok (.iconst 1, 1) := by decide +kernel
theorem dX1_isChange_19 : decode cX1_isChange 19 = .ok (.goto 4, 3) := by decide +kernel
theorem dX1_isChange_22 : decode cX1_isChange 22 = .ok (.iconst 0, 1) := by decide +kernel
theorem dX1_isChange_23 : decode cX1_isChange 23 = .ok (.ireturn, 1) := by decide +kernel
theorem dX1_moreBy_0 : decode cX1_moreBy 0 = .ok (.aload_n 0, 1) := by decide +kernel
theorem dX1_moreBy_1 : decode cX1_moreBy 1 = .ok (.getfield 15, 3) := by decide +kernel
theorem dX1_moreBy_4 : decode cX1_moreBy 4 = .ok (.iload_n 2, 1) := by decide +kernel
theorem dX1_moreBy_5 : decode cX1_moreBy 5 = .ok (.iconst 4, 1) := by decide +kernel
theorem dX1_moreBy_6 : decode cX1_moreBy 6 = .ok (.imul, 1) := by decide +kernel
theorem dX1_moreBy_7 : decode cX1_moreBy 7 = .ok (.iload_n 3, 1) := by decide +kernel
theorem dX1_moreBy_8 : decode cX1_moreBy 8 = .ok (.iadd, 1) := by decide +kernel
theorem dX1_moreBy_9 : decode cX1_moreBy 9 = .ok (.iaload, 1) := by decide +kernel
theorem dX1_moreBy_10 : decode cX1_moreBy 10 = .ok (.aload_n 0, 1) := by decide +kernel
theorem dX1_moreBy_11 : decode cX1_moreBy 11 = .ok (.getfield 15, 3) := by decide +kernel
theorem dX1_moreBy_14 : decode cX1_moreBy 14 = .ok (.iload_n 2, 1) := by decide +kernel
theorem dX1_moreBy_15 : decode cX1_moreBy 15 = .ok (.iconst 4, 1) := by decide +kernel
theorem dX1_moreBy_16 : decode cX1_moreBy 16 = .ok (.imul, 1) := by decide +kernel
theorem dX1_moreBy_17 : decode cX1_moreBy 17 = .ok (.aload_n 1, 1) := by decide +kernel
theorem dX1_moreBy_18 : decode cX1_moreBy 18 = .ok (.getfield 53, 3) := by decide +kernel
theorem dX1_moreBy_21 : decode cX1_moreBy 21 = .ok (.iload_n 2, 1) := by decide +kernel
theorem dX1_moreBy_22 : decode cX1_moreBy 22 = .ok (.iaload, 1) := by decide +kernel
theorem dX1_moreBy_23 : decode cX1_moreBy 23 = .ok (.iadd, 1) := by decide +kernel
theorem dX1_moreBy_24 : decode cX1_moreBy 24 = .ok (.iaload, 1) := by decide +kernel
theorem dX1_moreBy_25 : decode cX1_moreBy 25 = .ok (.isub, 1) := by decide +kernel
theorem dX1_moreBy_26 : decode cX1_moreBy 26 = .ok (.ireturn, 1) := by decide +kernel
theorem dX1_tryRows_0 : decode cX1_tryRows 0 = .ok (.aload_n 0, 1) := by decide +kernel
theorem dX1_tryRows_1 : decode cX1_tryRows 1 = .ok (.getfield 24, 3) := by decide +kernel
theorem dX1_tryRows_4 : decode cX1_tryRows 4 = .ok (.aload_n 0, 1) := by decide +kernel
theorem dX1_tryRows_5 : decode cX1_tryRows 5 = .ok (.aload_n 1, 1) := by decide +kernel
theorem dX1_tryRows_6 : decode cX1_tryRows 6 = .ok (.iload_n 2, 1) := by decide +kernel
theorem dX1_tryRows_7 : decode cX1_tryRows 7 = .ok (.iload_n 3, 1) := by decide +kernel
theorem dX1_tryRows_8 : decode cX1_tryRows 8 = .ok (.invokevirtual 64, 3) := by decide +kernel
theorem dX1_tryRows_11 : decode cX1_tryRows 11 = .ok (.iadd, 1) := by decide +kernel
theorem dX1_tryRows_12 : decode cX1_tryRows 12 = .ok (.istore 5, 2) := by decide +kernel
theorem dX1_tryRows_14 : decode cX1_tryRows 14 = .ok (.iload 4, 2) := by decide +kernel
theorem dX1_tryRows_16 : decode cX1_tryRows 16 = .ok (.iconst 1, 1) := by decide +kernel
theorem dX1_tryRows_17 : decode cX1_tryRows 17 = .ok (.if_icmp .ne 18, 3) := by decide +kernel
theorem dX1_tryRows_20 : decode cX1_tryRows 20 = .ok (.aload_n 0, 1) := by decide +kernel
theorem dX1_tryRows_21 : decode cX1_tryRows 21 = .ok (.iload 5, 2) := by decide +kernel
theorem dX1_tryRows_23 : decode cX1_tryRows 23 = .ok (.iconst 1, 1) := by decide +kernel
theorem dX1_tryRows_24 : decode cX1_tryRows 24 = .ok (.bipush 10, 2) := by decide +kernel
theorem dX1_tryRows_26 : decode cX1_tryRows 26 = .ok (.iload_n 2, 1) := by decide +kernel
theorem dX1_tryRows_27 : decode cX1_tryRows 27 = .ok (.imul, 1) := by decide +kernel
theorem dX1_tryRows_28 : decode cX1_tryRows 28 = .ok (.iload_n 3, 1) := by decide +kernel
theorem dX1_tryRows_29 : decode cX1_tryRows 29 = .ok (.iadd, 1) := by decide +kernel
theorem dX1_tryRows_30 : decode cX1_tryRows 30 = .ok (.iconst 0, 1) := by decide +kernel
theorem dX1_tryRows_31 : decode cX1_tryRows 31 = .ok (.invokevirtual 67, 3) := by decide +kernel
theorem dX1_tryRows_34 : decode cX1_tryRows 34 = .ok (.return_, 1) := by decide +kernel
theorem dX1_tryRows_35 : decode cX1_tryRows 35 = .ok (.iload_n 2, 1) := by decide +kernel
theorem dX1_tryRows_36 : decode cX1_tryRows 36 = .ok (.iconst 1, 1) := by decide +kernel
theorem dX1_tryRows_37 : decode cX1_tryRows 37 = .ok (.iadd, 1) := by decide +kernel
theorem dX1_tryRows_38 : decode cX1_tryRows 38 = .ok (.istore 6, 2) := by decide +kernel
theorem dX1_tryRows_40 : decode cX1_tryRows 40 = .ok (.iload 6, 2) := by decide +kernel
theorem dX1_tryRows_42 : decode cX1_tryRows 42 = .ok (.aload_n 1, 1) := by decide +kernel
theorem dX1_tryRows_43 : decode cX1_tryRows 43 = .ok (.getfield 38, 3) := by decide +kernel
theorem dX1_tryRows_46 : decode cX1_tryRows 46 = .ok (.if_icmp .ge 83, 3) := by decide +kernel
theorem dX1_tryRows_49 : decode cX1_tryRows 49 = .ok (.iconst 0, 1) := by decide +kernel
theorem dX1_tryRows_50 : decode cX1_tryRows 50 = .ok (.istore 7, 2) := by decide +kernel
theorem dX1_tryRows_52 : decode cX1_tryRows 52 = .ok (.iload 7, 2) := by decide +kernel
theorem dX1_tryRows_54 : decode cX1_tryRows 54 = .ok (.iconst 4, 1) := by decide +kernel
theorem dX1_tryRows_55 : decode cX1_tryRows 55 = .ok (.if_icmp .ge 68, 3) := by decide +kernel
theorem dX1_tryRows_58 : decode cX1_tryRows 58 = .ok (.aload_n 0, 1) := by decide +kernel
theorem dX1_tryRows_59 : decode cX1_tryRows 59 = .ok (.aload_n 1, 1) := by decide +kernel
theorem dX1_tryRows_60 : decode cX1_tryRows 60 = .ok (.iload 6, 2) := by decide +kernel
theorem dX1_tryRows_62 : decode cX1_tryRows 62 = .ok (.iload 7, 2) := by decide +kernel
theorem dX1_tryRows_64 : decode cX1_tryRows 64 = .ok (.invokevirtual 41, 3) := by decide +kernel
theorem dX1_tryRows_67 : decode cX1_tryRows 67 = .ok (.ifCond .eq 50, 3) := by decide +kernel
theorem dX1_tryRows_70 : decode cX1_tryRows 70 = .ok (.aload_n 0, 1) := by decide +kernel
theorem dX1_tryRows_71 : decode cX1_tryRows 71 = .ok (.aload_n 1, 1) := by decide +kernel
theorem dX1_tryRows_72 : decode cX1_tryRows 72 = .ok (.iload 6, 2) := by decide +kernel
theorem dX1_tryRows_74 : decode cX1_tryRows 74 = .ok (.iload 7, 2) := by decide +kernel
theorem dX1_tryRows_76 : decode cX1_tryRows 76 = .ok (.invokevirtual 64, 3) := by decide +kernel
theorem dX1_tryRows_79 : decode cX1_tryRows 79 = .ok (.aload_n 0, 1) := by decide +kernel
theorem dX1_tryRows_80 : decode cX1_tryRows 80 = .ok (.aload_n 1, 1) := by decide +kernel
theorem dX1_tryRows_81 : decode cX1_tryRows 81 = .ok (.iload_n 2, 1) := by decide +kernel
theorem dX1_tryRows_82 : decode cX1_tryRows 82 = .ok (.iload_n 3, 1) := by decide +kernel
theorem dX1_tryRows_83 : decode cX1_tryRows 83 = .ok (.iload 6, 2) := by decide +kernel
theorem dX1_tryRows_85 : decode cX1_tryRows 85 = .ok (.iload 7, 2) := by decide +kernel
theorem dX1_tryRows_87 : decode cX1_tryRows 87 = .ok (.invokevirtual 71, 3) := by decide +kernel
theorem dX1_tryRows_90 : decode cX1_tryRows 90 = .ok (.iadd, 1) := by decide +kernel
theorem dX1_tryRows_91 : decode cX1_tryRows 91 = .ok (.istore 8, 2) := by decide +kernel
theorem dX1_tryRows_93 : decode cX1_tryRows 93 = .ok (.aload_n 0, 1) := by decide +kernel
theorem dX1_tryRows_94 : decode cX1_tryRows 94 = .ok (.iload 5, 2) := by decide +kernel
theorem dX1_tryRows_96 : decode cX1_tryRows 96 = .ok (.iload 8, 2) := by decide +kernel
theorem dX1_tryRows_98 : decode cX1_tryRows 98 = .ok (.iadd, 1) := by decide +kernel
theorem dX1_tryRows_99 : decode cX1_tryRows 99 = .ok (.iconst 2, 1) := by decide +kernel
theorem dX1_tryRows_100 : decode cX1_tryRows 100 = .ok (.bipush 10, 2) := by decide +kernel
theorem dX1_tryRows_102 : decode cX1_tryRows 102 = .ok (.iload_n 2, 1) := by decide +kernel
theorem dX1_tryRows_103 : decode cX1_tryRows 103 = .ok (.imul, 1) := by decide +kernel
theorem dX1_tryRows_104 : decode cX1_tryRows 104 = .ok (.iload_n 3, 1) := by decide +kernel
theorem dX1_tryRows_105 : decode cX1_tryRows 105 = .ok (.iadd, 1) := by decide +kernel
theorem dX1_tryRows_106 : decode cX1_tryRows 106 = .ok (.bipush 10, 2) := by decide +kernel
theorem dX1_tryRows_108 : decode cX1_tryRows 108 = .ok (.iload 6, 2) := by decide +kernel
theorem dX1_tryRows_110 : decode cX1_tryRows 110 = .ok (.imul, 1) := by decide +kernel
theorem dX1_tryRows_111 : decode cX1_tryRows 111 = .ok (.iload 7, 2) := by decide +kernel
theorem dX1_tryRows_113 : decode cX1_tryRows 113 = .ok (.iadd, 1) := by decide +kernel
theorem dX1_tryRows_114 : decode cX1_tryRows 114 = .ok (.invokevirtual 67, 3) := by decide +kernel
theorem dX1_tryRows_117 : decode cX1_tryRows 117 = .ok (.iinc 7 1, 3) := by decide +kernel
theorem dX1_tryRows_120 : decode cX1_tryRows 120 = .ok (.goto (-68), 3) := by decide +kernel
theorem dX1_tryRows_123 : decode cX1_tryRows 123 = .ok (.iinc 6 1, 3) := by decide +kernel
theorem dX1_tryRows_126 : decode cX1_tryRows 126 = .ok (.goto (-86), 3) := by decide +kernel
theorem dX1_tryRows_129 : decode cX1_tryRows 129 = .ok (.return_, 1) := by decide +kernel
theorem dX1_keepIfFewer_0 : decode cX1_keepIfFewer 0 = .ok (.iload_n 1, 1) := by decide +kernel
theorem dX1_keepIfFewer_1 : decode cX1_keepIfFewer 1 = .ok (.aload_n 0, 1) := by decide +kernel
theorem dX1_keepIfFewer_2 : decode cX1_keepIfFewer 2 = .ok (.getfield 28, 3) := by decide +kernel
theorem dX1_keepIfFewer_5 : decode cX1_keepIfFewer 5 = .ok (.if_icmp .ge 28, 3) := by decide +kernel
theorem dX1_keepIfFewer_8 : decode cX1_keepIfFewer 8 = .ok (.aload_n 0, 1) := by decide +kernel
theorem dX1_keepIfFewer_9 : decode cX1_keepIfFewer 9 = .ok (.iload_n 1, 1) := by decide +kernel
theorem dX1_keepIfFewer_10 : decode cX1_keepIfFewer 10 = .ok (.putfield 28, 3) := by decide +kernel
theorem dX1_keepIfFewer_13 : decode cX1_keepIfFewer 13 = .ok (.aload_n 0, 1) := by decide +kernel
theorem dX1_keepIfFewer_14 : decode cX1_keepIfFewer 14 = .ok (.iload_n 2, 1) := by decide +kernel
theorem dX1_keepIfFewer_15 : decode cX1_keepIfFewer 15 = .ok (.putfield 31, 3) := by decide +kernel
theorem dX1_keepIfFewer_18 : decode cX1_keepIfFewer 18 = .ok (.aload_n 0, 1) := by decide +kernel
theorem dX1_keepIfFewer_19 : decode cX1_keepIfFewer 19 = .ok (.getfield 9, 3) := by decide +kernel
theorem dX1_keepIfFewer_22 : decode cX1_keepIfFewer 22 = .ok (.iconst 0, 1) := by decide +kernel
theorem dX1_keepIfFewer_23 : decode cX1_keepIfFewer 23 = .ok (.iload_n 3, 1) := by decide +kernel
theorem dX1_keepIfFewer_24 : decode cX1_keepIfFewer 24 = .ok (.iastore, 1) := by decide +kernel
theorem dX1_keepIfFewer_25 : decode cX1_keepIfFewer 25 = .ok (.aload_n 0, 1) := by decide +kernel
theorem dX1_keepIfFewer_26 : decode cX1_keepIfFewer 26 = .ok (.getfield 9, 3) := by decide +kernel
theorem dX1_keepIfFewer_29 : decode cX1_keepIfFewer 29 = .ok (.iconst 1, 1) := by decide +kernel
theorem dX1_keepIfFewer_30 : decode cX1_keepIfFewer 30 = .ok (.iload 4, 2) := by decide +kernel
theorem dX1_keepIfFewer_32 : decode cX1_keepIfFewer 32 = .ok (.iastore, 1) := by decide +kernel
theorem dX1_keepIfFewer_33 : decode cX1_keepIfFewer 33 = .ok (.return_, 1) := by decide +kernel
theorem dX1_pairMore_0 : decode cX1_pairMore 0 = .ok (.iconst 0, 1) := by decide +kernel
theorem dX1_pairMore_1 : decode cX1_pairMore 1 = .ok (.istore 6, 2) := by decide +kernel
theorem dX1_pairMore_3 : decode cX1_pairMore 3 = .ok (.aload_n 1, 1) := by decide +kernel
theorem dX1_pairMore_4 : decode cX1_pairMore 4 = .ok (.iload_n 2, 1) := by decide +kernel
theorem dX1_pairMore_5 : decode cX1_pairMore 5 = .ok (.iload_n 3, 1) := by decide +kernel
theorem dX1_pairMore_6 : decode cX1_pairMore 6 = .ok (.iload 4, 2) := by decide +kernel
theorem dX1_pairMore_8 : decode cX1_pairMore 8 = .ok (.iload 5, 2) := by decide +kernel
theorem dX1_pairMore_10 : decode cX1_pairMore 10 = .ok (.invokevirtual 56, 3) := by decide +kernel
theorem dX1_pairMore_13 : decode cX1_pairMore 13 = .ok (.iconst (-1), 1) := by decide +kernel
theorem dX1_pairMore_14 : decode cX1_pairMore 14 = .ok (.if_icmp .eq 6, 3) := by decide +kernel
theorem dX1_pairMore_17 : decode cX1_pairMore 17 = .ok (.iinc 6 1, 3) := by decide +kernel
theorem dX1_pairMore_20 : decode cX1_pairMore 20 = .ok (.aload_n 1, 1) := by decide +kernel
theorem dX1_pairMore_21 : decode cX1_pairMore 21 = .ok (.iload_n 2, 1) := by decide +kernel
theorem dX1_pairMore_22 : decode cX1_pairMore 22 = .ok (.aload_n 1, 1) := by decide +kernel
theorem dX1_pairMore_23 : decode cX1_pairMore 23 = .ok (.getfield 53, 3) := by decide +kernel
theorem dX1_pairMore_26 : decode cX1_pairMore 26 = .ok (.iload_n 2, 1) := by decide +kernel
theorem dX1_pairMore_27 : decode cX1_pairMore 27 = .ok (.iaload, 1) := by decide +kernel
theorem dX1_pairMore_28 : decode cX1_pairMore 28 = .ok (.iload 4, 2) := by decide +kernel
theorem dX1_pairMore_30 : decode cX1_pairMore 30 = .ok (.aload_n 1, 1) := by decide +kernel
theorem dX1_pairMore_31 : decode cX1_pairMore 31 = .ok (.getfield 53, 3) := by decide +kernel
theorem dX1_pairMore_34 : decode cX1_pairMore 34 = .ok (.iload 4, 2) := by decide +kernel
theorem dX1_pairMore_36 : decode cX1_pairMore 36 = .ok (.iaload, 1) := by decide +kernel
theorem dX1_pairMore_37 : decode cX1_pairMore 37 = .ok (.invokevirtual 56, 3) := by decide +kernel
theorem dX1_pairMore_40 : decode cX1_pairMore 40 = .ok (.iconst (-1), 1) := by decide +kernel
theorem dX1_pairMore_41 : decode cX1_pairMore 41 = .ok (.if_icmp .eq 6, 3) := by decide +kernel
theorem dX1_pairMore_44 : decode cX1_pairMore 44 = .ok (.iinc 6 1, 3) := by decide +kernel
theorem dX1_pairMore_47 : decode cX1_pairMore 47 = .ok (.aload_n 1, 1) := by decide +kernel
theorem dX1_pairMore_48 : decode cX1_pairMore 48 = .ok (.iload_n 2, 1) := by decide +kernel
theorem dX1_pairMore_49 : decode cX1_pairMore 49 = .ok (.iload_n 3, 1) := by decide +kernel
theorem dX1_pairMore_50 : decode cX1_pairMore 50 = .ok (.iload 4, 2) := by decide +kernel
theorem dX1_pairMore_52 : decode cX1_pairMore 52 = .ok (.aload_n 1, 1) := by decide +kernel
theorem dX1_pairMore_53 : decode cX1_pairMore 53 = .ok (.getfield 53, 3) := by decide +kernel
theorem dX1_pairMore_56 : decode cX1_pairMore 56 = .ok (.iload 4, 2) := by decide +kernel
theorem dX1_pairMore_58 : decode cX1_pairMore 58 = .ok (.iaload, 1) := by decide +kernel
theorem dX1_pairMore_59 : decode cX1_pairMore 59 = .ok (.invokevirtual 56, 3) := by decide +kernel
theorem dX1_pairMore_62 : decode cX1_pairMore 62 = .ok (.iconst (-1), 1) := by decide +kernel
theorem dX1_pairMore_63 : decode cX1_pairMore 63 = .ok (.if_icmp .eq 6, 3) := by decide +kernel
theorem dX1_pairMore_66 : decode cX1_pairMore 66 = .ok (.iinc 6 (-1), 3) := by decide +kernel
theorem dX1_pairMore_69 : decode cX1_pairMore 69 = .ok (.aload_n 1, 1) := by decide +kernel
theorem dX1_pairMore_70 : decode cX1_pairMore 70 = .ok (.iload_n 2, 1) := by decide +kernel
theorem dX1_pairMore_71 : decode cX1_pairMore 71 = .ok (.aload_n 1, 1) := by decide +kernel
theorem dX1_pairMore_72 : decode cX1_pairMore 72 = .ok (.getfield 53, 3) := by decide +kernel
theorem dX1_pairMore_75 : decode cX1_pairMore 75 = .ok (.iload_n 2, 1) := by decide +kernel
theorem dX1_pairMore_76 : decode cX1_pairMore 76 = .ok (.iaload, 1) := by decide +kernel
theorem dX1_pairMore_77 : decode cX1_pairMore 77 = .ok (.iload 4, 2) := by decide +kernel
theorem dX1_pairMore_79 : decode cX1_pairMore 79 = .ok (.iload 5, 2) := by decide +kernel
theorem dX1_pairMore_81 : decode cX1_pairMore 81 = .ok (.invokevirtual 56, 3) := by decide +kernel
theorem dX1_pairMore_84 : decode cX1_pairMore 84 = .ok (.iconst (-1), 1) := by decide +kernel
theorem dX1_pairMore_85 : decode cX1_pairMore 85 = .ok (.if_icmp .eq 6, 3) := by decide +kernel
theorem dX1_pairMore_88 : decode cX1_pairMore 88 = .ok (.iinc 6 (-1), 3) := by decide +kernel
theorem dX1_pairMore_91 : decode cX1_pairMore 91 = .ok (.iload 6, 2) := by decide +kernel
theorem dX1_pairMore_93 : decode cX1_pairMore 93 = .ok (.ireturn, 1) := by decide +kernel
theorem dX2_init_0 : decode cX2_init 0 = .ok (.aload_n 0, 1) := by decide +kernel
theorem dX2_init_1 : decode cX2_init 1 = .ok (.invokespecial 3, 3) := by decide +kernel
theorem dX2_init_4 : decode cX2_init 4 = .ok (.aload_n 0, 1) := by decide +kernel
theorem dX2_init_5 : decode cX2_init 5 = .ok (.bipush 12, 2) := by decide +kernel
theorem dX2_init_7 : decode cX2_init 7 = .ok (.newarray .int, 2) := by decide +kernel
theorem dX2_init_9 : decode cX2_init 9 = .ok (.putfield 9, 3) := by decide +kernel
theorem dX2_init_12 : decode cX2_init 12 = .ok (.aload_n 0, 1) := by decide +kernel
theorem dX2_init_13 : decode cX2_init 13 = .ok (.bipush 66, 2) := by decide +kernel
theorem dX2_init_15 : decode cX2_init 15 = .ok (.newarray .int, 2) := by decide +kernel
theorem dX2_init_17 : decode cX2_init 17 = .ok (.putfield 15, 3) := by decide +kernel
theorem dX2_init_20 : decode cX2_init 20 = .ok (.aload_n 0, 1) := by decide +kernel
theorem dX2_init_21 : decode cX2_init 21 = .ok (.bipush 66, 2) := by decide +kernel
theorem dX2_init_23 : decode cX2_init 23 = .ok (.newarray .int, 2) := by decide +kernel
theorem dX2_init_25 : decode cX2_init 25 = .ok (.putfield 18, 3) := by decide +kernel
theorem dX2_init_28 : decode cX2_init 28 = .ok (.return_, 1) := by decide +kernel
theorem dX2_gather_0 : decode cX2_gather 0 = .ok (.aload_n 0, 1) := by decide +kernel
theorem dX2_gather_1 : decode cX2_gather 1 = .ok (.aload_n 1, 1) := by decide +kernel
theorem dX2_gather_2 : decode cX2_gather 2 = .ok (.invokevirtual 21, 3) := by decide +kernel
theorem dX2_gather_5 : decode cX2_gather 5 = .ok (.aload_n 0, 1) := by decide +kernel
theorem dX2_gather_6 : decode cX2_gather 6 = .ok (.aload_n 1, 1) := by decide +kernel
theorem dX2_gather_7 : decode cX2_gather 7 = .ok (.invokevirtual 25, 3) := by decide +kernel
theorem dX2_gather_10 : decode cX2_gather 10 = .ok (.return_, 1) := by decide +kernel
theorem dX2_gatherEnds_0 : decode cX2_gatherEnds 0 = .ok (.lconst 0, 1) := by decide +kernel
theorem dX2_gatherEnds_1 : decode cX2_gatherEnds 1 = .ok (.lstore_n 2, 1) := by decide +kernel
theorem dX2_gatherEnds_2 : decode cX2_gatherEnds 2 = .ok (.iconst 0, 1) := by decide +kernel
theorem dX2_gatherEnds_3 : decode cX2_gatherEnds 3 = .ok (.istore 4, 2) := by decide +kernel
theorem dX2_gatherEnds_5 : decode cX2_gatherEnds 5 = .ok (.iload 4, 2) := by decide +kernel
theorem dX2_gatherEnds_7 : decode cX2_gatherEnds 7 = .ok (.aload_n 1, 1) := by decide +kernel
theorem dX2_gatherEnds_8 : decode cX2_gatherEnds 8 = .ok (.getfield 28, 3) := by decide +kernel
theorem dX2_gatherEnds_11 : decode cX2_gatherEnds 11 = .ok (.if_icmp .ge 30, 3) := by decide +kernel
theorem dX2_gatherEnds_14 : decode cX2_gatherEnds 14 = .ok (.aload_n 1, 1) := by decide +kernel
theorem dX2_gatherEnds_15 : decode cX2_gatherEnds 15 = .ok (.iload 4, 2) := by decide +kernel
theorem dX2_gatherEnds_17 : decode cX2_gatherEnds 17 = .ok (.invokevirtual 34, 3) := by decide +kernel
theorem dX2_gatherEnds_20 : decode cX2_gatherEnds 20 = .ok (.ifCond .eq 15, 3) := by decide +kernel
theorem dX2_gatherEnds_23 : decode cX2_gatherEnds 23 = .ok (.lload_n 2, 1) := by decide +kernel
theorem dX2_gatherEnds_24 : decode cX2_gatherEnds 24 = .ok (.lconst 1, 1) := by decide +kernel
theorem dX2_gatherEnds_25 : decode cX2_gatherEnds 25 = .ok (.aload_n 1, 1) := by decide +kernel
theorem dX2_gatherEnds_26 : decode cX2_gatherEnds 26 = .ok (.getfield 38, 3) := by decide +kernel
theorem dX2_gatherEnds_29 : decode cX2_gatherEnds 29 = .ok (.iload 4, 2) := by decide +kernel
theorem dX2_gatherEnds_31 : decode cX2_gatherEnds 31 = .ok (.iaload, 1) := by decide +kernel
theorem dX2_gatherEnds_32 : decode cX2_gatherEnds 32 = .ok (.lshl, 1) := by decide +kernel
theorem dX2_gatherEnds_33 : decode cX2_gatherEnds 33 = .ok (.lor, 1) := by decide +kernel
theorem dX2_gatherEnds_34 : decode cX2_gatherEnds 34 = .ok (.lstore_n 2, 1) := by decide +kernel
theorem dX2_gatherEnds_35 : decode cX2_gatherEnds 35 = .ok (.iinc 4 1, 3) := by decide +kernel
theorem dX2_gatherEnds_38 : decode cX2_gatherEnds 38 = .ok (.goto (-33), 3) := by decide +kernel
theorem dX2_gatherEnds_41 : decode cX2_gatherEnds 41 = .ok (.aload_n 0, 1) := by decide +kernel
theorem dX2_gatherEnds_42 : decode cX2_gatherEnds 42 = .ok (.iconst 0, 1) := by decide +kernel
theorem dX2_gatherEnds_43 : decode cX2_gatherEnds 43 = .ok (.putfield 41, 3) := by decide +kernel
theorem dX2_gatherEnds_46 : decode cX2_gatherEnds 46 = .ok (.iconst 0, 1) := by decide +kernel
theorem dX2_gatherEnds_47 : decode cX2_gatherEnds 47 = .ok (.istore 4, 2) := by decide +kernel
theorem dX2_gatherEnds_49 : decode cX2_gatherEnds 49 = .ok (.iload 4, 2) := by decide +kernel
theorem dX2_gatherEnds_51 : decode cX2_gatherEnds 51 = .ok (.aload_n 1, 1) := by decide +kernel
theorem dX2_gatherEnds_52 : decode cX2_gatherEnds 52 = .ok (.getfield 28, 3) := by decide +kernel
theorem dX2_gatherEnds_55 : decode cX2_gatherEnds 55 = .ok (.if_icmp .ge 76, 3) := by decide +kernel
theorem dX2_gatherEnds_58 : decode cX2_gatherEnds 58 = .ok (.aload_n 1, 1) := by decide +kernel
theorem dX2_gatherEnds_59 : decode cX2_gatherEnds 59 = .ok (.getfield 38, 3) := by decide +kernel
theorem dX2_gatherEnds_62 : decode cX2_gatherEnds 62 = .ok (.iload 4, 2) := by decide +kernel
theorem dX2_gatherEnds_64 : decode cX2_gatherEnds 64 = .ok (.iaload, 1) := by decide +kernel
theorem dX2_gatherEnds_65 : decode cX2_gatherEnds 65 = .ok (.aload_n 1, 1) := by decide +kernel
theorem dX2_gatherEnds_66 : decode cX2_gatherEnds 66 = .ok (.getfield 44, 3) := by decide +kernel
theorem dX2_gatherEnds_69 : decode cX2_gatherEnds 69 = .ok (.iload 4, 2) := by decide +kernel
theorem dX2_gatherEnds_71 : decode cX2_gatherEnds 71 = .ok (.iaload, 1) := by decide +kernel
theorem dX2_gatherEnds_72 : decode cX2_gatherEnds 72 = .ok (.iadd, 1) := by decide +kernel
theorem dX2_gatherEnds_73 : decode cX2_gatherEnds 73 = .ok (.istore 5, 2) := by decide +kernel
theorem dX2_gatherEnds_75 : decode cX2_gatherEnds 75 = .ok (.aload_n 1, 1) := by decide +kernel
theorem dX2_gatherEnds_76 : decode cX2_gatherEnds 76 = .ok (.iload 4, 2) := by decide +kernel
theorem dX2_gatherEnds_78 : decode cX2_gatherEnds 78 = .ok (.invokevirtual 34, 3) := by decide +kernel
theorem dX2_gatherEnds_81 : decode cX2_gatherEnds 81 = .ok (.ifCond .eq 44, 3) := by decide +kernel
theorem dX2_gatherEnds_84 : decode cX2_gatherEnds 84 = .ok (.iload 5, 2) := by decide +kernel
theorem dX2_gatherEnds_86 : decode cX2_gatherEnds 86 = .ok (.bipush 64, 2) := by decide +kernel
theorem dX2_gatherEnds_88 : decode cX2_gatherEnds 88 = .ok (.if_icmp .ge 37, 3) := by decide +kernel
theorem dX2_gatherEnds_91 : decode cX2_gatherEnds 91 = .ok (.lload_n 2, 1) := by decide +kernel
theorem dX2_gatherEnds_92 : decode cX2_gatherEnds 92 = .ok (.iload 5, 2) := by decide +kernel
theorem dX2_gatherEnds_94 : decode cX2_gatherEnds 94 = .ok (.lshr, 1) := by decide +kernel
theorem dX2_gatherEnds_95 : decode cX2_gatherEnds 95 = .ok (.lconst 1, 1) := by decide +kernel
theorem dX2_gatherEnds_96 : decode cX2_gatherEnds 96 = .ok (.land, 1) := by decide +kernel
theorem dX2_gatherEnds_97 : decode cX2_gatherEnds 97 = .ok (.lconst 0, 1) := by decide +kernel
theorem dX2_gatherEnds_98 : decode cX2_gatherEnds 98 = .ok (.lcmp, 1) := by decide +kernel
theorem dX2_gatherEnds_99 : decode cX2_gatherEnds 99 = .ok (.ifCond .eq 26, 3) := by decide +kernel
theorem dX2_gatherEnds_102 : decode cX2_gatherEnds 102 = .ok (.aload_n 0, 1) := by decide +kernel
theorem dX2_gatherEnds_103 : decode cX2_gatherEnds 103 = .ok (.getfield 9, 3) := by decide +kernel
theorem dX2_gatherEnds_106 : decode cX2_gatherEnds 106 = .ok (.aload_n 0, 1) := by decide +kernel
theorem dX2_gatherEnds_107 : decode cX2_gatherEnds 107 = .ok (.getfield 41, 3) := by decide +kernel
theorem dX2_gatherEnds_110 : decode cX2_gatherEnds 110 = .ok (.iload 5, 2) := by decide +kernel
theorem dX2_gatherEnds_112 : decode cX2_gatherEnds 112 = .ok (.iconst 1, 1) := by decide +kernel
theorem dX2_gatherEnds_113 : decode cX2_gatherEnds 113 = .ok (.isub, 1) := by decide +kernel
theorem dX2_gatherEnds_114 : decode cX2_gatherEnds 114 = .ok (.iastore, 1) := by decide +kernel
theorem dX2_gatherEnds_115 : decode cX2_gatherEnds 115 = .ok (.aload_n 0, 1) := by decide +kernel
theorem dX2_gatherEnds_116 : decode cX2_gatherEnds 116 = .ok (.dup, 1) := by decide +kernel
theorem dX2_gatherEnds_117 : decode cX2_gatherEnds 117 = .ok (.getfield 41, 3) := by decide +kernel
theorem dX2_gatherEnds_120 : decode cX2_gatherEnds 120 = .ok (.iconst 1, 1) := by decide +kernel
theorem dX2_gatherEnds_121 : decode cX2_gatherEnds 121 = .ok (.iadd, 1) := by decide +kernel
theorem dX2_gatherEnds_122 : decode cX2_gatherEnds 122 = .ok (.putfield 41, 3) := by decide +kernel
theorem dX2_gatherEnds_125 : decode cX2_gatherEnds 125 = .ok (.iinc 4 1, 3) := by decide +kernel
theorem dX2_gatherEnds_128 : decode cX2_gatherEnds 128 = .ok (.goto (-79), 3) := by decide +kernel
theorem dX2_gatherEnds_131 : decode cX2_gatherEnds 131 = .ok (.return_, 1) := by decide +kernel
theorem dX2_gatherPairs_0 : decode cX2_gatherPairs 0 = .ok (.aload_n 0, 1) := by decide +kernel
theorem dX2_gatherPairs_1 : decode cX2_gatherPairs 1 = .ok (.iconst 0, 1) := by decide +kernel
theorem dX2_gatherPairs_2 : decode cX2_gatherPairs 2 = .ok (.putfield 47, 3) := by decide +kernel
theorem dX2_gatherPairs_5 : decode cX2_gatherPairs 5 = .ok (.iconst 0, 1) := by decide +kernel
theorem dX2_gatherPairs_6 : decode cX2_gatherPairs 6 = .ok (.istore_n 2, 1) := by decide +kernel
theorem dX2_gatherPairs_7 : decode cX2_gatherPairs 7 = .ok (.iload_n 2, 1) := by decide +kernel
theorem dX2_gatherPairs_8 : decode cX2_gatherPairs 8 = .ok (.aload_n 1, 1) := by decide +kernel
theorem dX2_gatherPairs_9 : decode cX2_gatherPairs 9 = .ok (.getfield 28, 3) := by decide +kernel
theorem dX2_gatherPairs_12 : decode cX2_gatherPairs 12 = .ok (.if_icmp .ge 138, 3) := by decide +kernel
theorem dX2_gatherPairs_15 : decode cX2_gatherPairs 15 = .ok (.iload_n 2, 1) := by decide +kernel
theorem dX2_gatherPairs_16 : decode cX2_gatherPairs 16 = .ok (.iconst 1, 1) := by decide +kernel
theorem dX2_gatherPairs_17 : decode cX2_gatherPairs 17 = .ok (.iadd, 1) := by decide +kernel
theorem dX2_gatherPairs_18 : decode cX2_gatherPairs 18 = .ok (.istore_n 3, 1) := by decide +kernel
theorem dX2_gatherPairs_19 : decode cX2_gatherPairs 19 = .ok (.iload_n 3, 1) := by decide +kernel
theorem dX2_gatherPairs_20 : decode cX2_gatherPairs 20 = .ok (.aload_n 1, 1) := by decide +kernel
theorem dX2_gatherPairs_21 : decode cX2_gatherPairs 21 = .ok (.getfield 28, 3) := by decide +kernel
theorem dX2_gatherPairs_24 : decode cX2_gatherPairs 24 = .ok (.if_icmp .ge 120, 3) := by decide +kernel
theorem dX2_gatherPairs_27 : decode cX2_gatherPairs 27 = .ok (.aload_n 1, 1) := by decide +kernel
theorem dX2_gatherPairs_28 : decode cX2_gatherPairs 28 = .ok (.getfield 50, 3) := by decide +kernel
theorem dX2_gatherPairs_31 : decode cX2_gatherPairs 31 = .ok (.iload_n 2, 1) := by decide +kernel
theorem dX2_gatherPairs_32 : decode cX2_gatherPairs 32 = .ok (.iaload, 1) := by decide +kernel
theorem dX2_gatherPairs_33 : decode cX2_gatherPairs 33 = .ok (.aload_n 1, 1) := by decide +kernel
theorem dX2_gatherPairs_34 : decode cX2_gatherPairs 34 = .ok (.getfield 50, 3) := by decide +kernel
theorem dX2_gatherPairs_37 : decode cX2_gatherPairs 37 = .ok (.iload_n 3, 1) := by decide +kernel
theorem dX2_gatherPairs_38 : decode cX2_gatherPairs 38 = .ok (.iaload, 1) := by decide +kernel
theorem dX2_gatherPairs_39 : decode cX2_gatherPairs 39 = .ok (.isub, 1) := by decide +kernel
theorem dX2_gatherPairs_40 : decode cX2_gatherPairs 40 = .ok (.invokestatic 53, 3) := by decide +kernel
theorem dX2_gatherPairs_43 : decode cX2_gatherPairs 43 = .ok (.istore 4, 2) := by decide +kernel
theorem dX2_gatherPairs_45 : decode cX2_gatherPairs 45 = .ok (.aload_n 1, 1) := by decide +kernel
theorem dX2_gatherPairs_46 : decode cX2_gatherPairs 46 = .ok (.iload_n 2, 1) := by decide +kernel
theorem dX2_gatherPairs_47 : decode cX2_gatherPairs 47 = .ok (.invokevirtual 34, 3) := by decide +kernel
theorem dX2_gatherPairs_50 : decode cX2_gatherPairs 50 = .ok (.ifCond .eq 88, 3) := by decide +kernel
theorem dX2_gatherPairs_53 : decode cX2_gatherPairs 53 = .ok (.aload_n 1, 1) := by decide +kernel
theorem dX2_gatherPairs_54 : decode cX2_gatherPairs 54 = .ok (.iload_n 3, 1) := by decide +kernel
theorem dX2_gatherPairs_55 : decode cX2_gatherPairs 55 = .ok (.invokevirtual 34, 3) := by decide +kernel
theorem dX2_gatherPairs_58 : decode cX2_gatherPairs 58 = .ok (.ifCond .eq 80, 3) := by decide +kernel
theorem dX2_gatherPairs_61 : decode cX2_gatherPairs 61 = .ok (.iload 4, 2) := by decide +kernel
theorem dX2_gatherPairs_63 : decode cX2_gatherPairs 63 = .ok (.iconst 1, 1) := by decide +kernel
theorem dX2_gatherPairs_64 : decode cX2_gatherPairs 64 = .ok (.iconst 2, 1) := by decide +kernel
theorem dX2_gatherPairs_65 : decode cX2_gatherPairs 65 = .ok (.invokestatic 59, 3) := by decide +kernel
theorem dX2_gatherPairs_68 : decode cX2_gatherPairs 68 = .ok (.ifCond .eq 70, 3) := by decide +kernel
theorem dX2_gatherPairs_71 : decode cX2_gatherPairs 71 = .ok (.aload_n 0, 1) := by decide +kernel
theorem dX2_gatherPairs_72 : decode cX2_gatherPairs 72 = .ok (.getfield 47, 3) := by decide +kernel
theorem dX2_gatherPairs_75 : decode cX2_gatherPairs 75 = .ok (.bipush 66, 2) := by decide +kernel
theorem dX2_gatherPairs_77 : decode cX2_gatherPairs 77 = .ok (.if_icmp .ge 61, 3) := by decide +kernel
theorem dX2_gatherPairs_80 : decode cX2_gatherPairs 80 = .ok (.aload_n 0, 1) := by decide +kernel
theorem dX2_gatherPairs_81 : decode cX2_gatherPairs 81 = .ok (.getfield 15, 3) := by decide +kernel
theorem dX2_gatherPairs_84 : decode cX2_gatherPairs 84 = .ok (.aload_n 0, 1) := by decide +kernel
theorem dX2_gatherPairs_85 : decode cX2_gatherPairs 85 = .ok (.getfield 47, 3) := by decide +kernel
theorem dX2_gatherPairs_88 : decode cX2_gatherPairs 88 = .ok (.aload_n 1, 1) := by decide +kernel
theorem dX2_gatherPairs_89 : decode cX2_gatherPairs 89 = .ok (.getfield 38, 3) := by decide +kernel
theorem dX2_gatherPairs_92 : decode cX2_gatherPairs 92 = .ok (.iload_n 2, 1) := by decide +kernel
theorem dX2_gatherPairs_93 : decode cX2_gatherPairs 93 = .ok (.iaload, 1) := by decide +kernel
theorem dX2_gatherPairs_94 : decode cX2_gatherPairs 94 = .ok (.aload_n 1, 1) := by decide +kernel
theorem dX2_gatherPairs_95 : decode cX2_gatherPairs 95 = .ok (.getfield 38, 3) := by decide +kernel
theorem dX2_gatherPairs_98 : decode cX2_gatherPairs 98 = .ok (.iload_n 3, 1) := by decide +kernel
theorem dX2_gatherPairs_99 : decode cX2_gatherPairs 99 = .ok (.iaload, 1) := by decide +kernel
theorem dX2_gatherPairs_100 : decode cX2_gatherPairs 100 = .ok (.invokestatic 63, 3) := by decide +kernel
theorem dX2_gatherPairs_103 : decode cX2_gatherPairs 103 = .ok (.iastore, 1) := by decide +kernel
theorem dX2_gatherPairs_104 : decode cX2_gatherPairs 104 = .ok (.aload_n 0, 1) := by decide +kernel
theorem dX2_gatherPairs_105 : decode cX2_gatherPairs 105 = .ok (.getfield 18, 3) := by decide +kernel
theorem dX2_gatherPairs_108 : decode cX2_gatherPairs 108 = .ok (.aload_n 0, 1) := by decide +kernel
theorem dX2_gatherPairs_109 : decode cX2_gatherPairs 109 = .ok (.getfield 47, 3) := by decide +kernel
theorem dX2_gatherPairs_112 : decode cX2_gatherPairs 112 = .ok (.aload_n 1, 1) := by decide +kernel
theorem dX2_gatherPairs_113 : decode cX2_gatherPairs 113 = .ok (.getfield 38, 3) := by decide +kernel
theorem dX2_gatherPairs_116 : decode cX2_gatherPairs 116 = .ok (.iload_n 2, 1) := by decide +kernel
theorem dX2_gatherPairs_117 : decode cX2_gatherPairs 117 = .ok (.iaload, 1) := by decide +kernel
theorem dX2_gatherPairs_118 : decode cX2_gatherPairs 118 = .ok (.aload_n 1, 1) := by decide +kernel
theorem dX2_gatherPairs_119 : decode cX2_gatherPairs 119 = .ok (.getfield 38, 3) := by decide +kernel
theorem dX2_gatherPairs_122 : decode cX2_gatherPairs 122 = .ok (.iload_n 3, 1) := by decide +kernel
theorem dX2_gatherPairs_123 : decode cX2_gatherPairs 123 = .ok (.iaload, 1) := by decide +kernel
theorem dX2_gatherPairs_124 : decode cX2_gatherPairs 124 = .ok (.invokestatic 67, 3) := by decide +kernel
theorem dX2_gatherPairs_127 : decode cX2_gatherPairs 127 = .ok (.iastore, 1) := by decide +kernel
theorem dX2_gatherPairs_128 : decode cX2_gatherPairs 128 = .ok (.aload_n 0, 1) := by decide +kernel
theorem dX2_gatherPairs_129 : decode cX2_gatherPairs 129 = .ok (.dup, 1) := by decide +kernel
theorem dX2_gatherPairs_130 : decode cX2_gatherPairs 130 = .ok (.getfield 47, 3) := by decide +kernel
theorem dX2_gatherPairs_133 : decode cX2_gatherPairs 133 = .ok (.iconst 1, 1) := by decide +kernel
theorem dX2_gatherPairs_134 : decode cX2_gatherPairs 134 = .ok (.iadd, 1) := by decide +kernel
theorem dX2_gatherPairs_135 : decode cX2_gatherPairs 135 = .ok (.putfield 47, 3) := by decide +kernel
theorem dX2_gatherPairs_138 : decode cX2_gatherPairs 138 = .ok (.iinc 3 1, 3) := by decide +kernel
theorem dX2_gatherPairs_141 : decode cX2_gatherPairs 141 = .ok (.goto (-122), 3) := by decide +kernel
theorem dX2_gatherPairs_144 : decode cX2_gatherPairs 144 = .ok (.iinc 2 1, 3) := by decide +kernel
theorem dX2_gatherPairs_147 : decode cX2_gatherPairs 147 = .ok (.goto (-140), 3) := by decide +kernel
theorem dX2_gatherPairs_150 : decode cX2_gatherPairs 150 = .ok (.return_, 1) := by decide +kernel
theorem dX2_joined_0 : decode cX2_joined 0 = .ok (.iconst 0, 1) := by decide +kernel
theorem dX2_joined_1 : decode cX2_joined 1 = .ok (.istore_n 3, 1) := by decide +kernel
theorem dX2_joined_2 : decode cX2_joined 2 = .ok (.iconst 0, 1) := by decide +kernel
theorem dX2_joined_3 : decode cX2_joined 3 = .ok (.istore 4, 2) := by decide +kernel
theorem dX2_joined_5 : decode cX2_joined 5 = .ok (.iload 4, 2) := by decide +kernel
theorem dX2_joined_7 : decode cX2_joined 7 = .ok (.aload_n 0, 1) := by decide +kernel
theorem dX2_joined_8 : decode cX2_joined 8 = .ok (.getfield 41, 3) := by decide +kernel
theorem dX2_joined_11 : decode cX2_joined 11 = .ok (.if_icmp .ge 36, 3) := by decide +kernel
theorem dX2_joined_14 : decode cX2_joined 14 = .ok (.aload_n 0, 1) := by decide +kernel
theorem dX2_joined_15 : decode cX2_joined 15 = .ok (.getfield 9, 3) := by decide +kernel
theorem dX2_joined_18 : decode cX2_joined 18 = .ok (.iload 4, 2) := by decide +kernel
theorem dX2_joined_20 : decode cX2_joined 20 = .ok (.iaload, 1) := by decide +kernel
theorem dX2_joined_21 : decode cX2_joined 21 = .ok (.iload_n 1, 1) := by decide +kernel
theorem dX2_joined_22 : decode cX2_joined 22 = .ok (.if_icmp .lt 19, 3) := by decide +kernel
theorem dX2_joined_25 : decode cX2_joined 25 = .ok (.aload_n 0, 1) := by decide +kernel
theorem dX2_joined_26 : decode cX2_joined 26 = .ok (.getfield 9, 3) := by decide +kernel
theorem dX2_joined_29 : decode cX2_joined 29 = .ok (.iload 4, 2) := by decide +kernel
theorem dX2_joined_31 : decode cX2_joined 31 = .ok (.iaload, 1) := by decide +kernel
theorem dX2_joined_32 : decode cX2_joined 32 = .ok (.iconst 1, 1) := by decide +kernel
theorem dX2_joined_33 : decode cX2_joined 33 = .ok (.iadd, 1) := by decide +kernel
theorem dX2_joined_34 : decode cX2_joined 34 = .ok (.iload_n 2, 1) := by decide +kernel
theorem dX2_joined_35 : decode cX2_joined 35 = .ok (.if_icmp .ge 6, 3) := by decide +kernel
theorem dX2_joined_38 : decode cX2_joined 38 = .ok (.iinc 3 1, 3) := by decide +kernel
theorem dX2_joined_41 : decode cX2_joined 41 = .ok (.iinc 4 1, 3) := by decide +kernel
theorem dX2_joined_44 : decode cX2_joined 44 = .ok (.goto (-39), 3) := by decide +kernel
theorem dX2_joined_47 : decode cX2_joined 47 = .ok (.iload_n 3, 1) := by decide +kernel
theorem dX2_joined_48 : decode cX2_joined 48 = .ok (.ireturn, 1) := by decide +kernel
theorem dX2_blurred_0 : decode cX2_blurred 0 = .ok (.iconst 0, 1) := by decide +kernel
theorem dX2_blurred_1 : decode cX2_blurred 1 = .ok (.istore_n 3, 1) := by decide +kernel
theorem dX2_blurred_2 : decode cX2_blurred 2 = .ok (.iconst 0, 1) := by decide +kernel
theorem dX2_blurred_3 : decode cX2_blurred 3 = .ok (.istore 4, 2) := by decide +kernel
theorem dX2_blurred_5 : decode cX2_blurred 5 = .ok (.iload 4, 2) := by decide +kernel
theorem dX2_blurred_7 : decode cX2_blurred 7 = .ok (.aload_n 0, 1) := by decide +kernel
theorem dX2_blurred_8 : decode cX2_blurred 8 = .ok (.getfield 47, 3) := by decide +kernel
theorem dX2_blurred_11 : decode cX2_blurred 11 = .ok (.if_icmp .ge 43, 3) := by decide +kernel
theorem dX2_blurred_14 : decode cX2_blurred 14 = .ok (.aload_n 0, 1) := by decide +kernel
theorem dX2_blurred_15 : decode cX2_blurred 15 = .ok (.getfield 15, 3) := by decide +kernel
theorem dX2_blurred_18 : decode cX2_blurred 18 = .ok (.iload 4, 2) := by decide +kernel
theorem dX2_blurred_20 : decode cX2_blurred 20 = .ok (.iaload, 1) := by decide +kernel
theorem dX2_blurred_21 : decode cX2_blurred 21 = .ok (.iload_n 1, 1) := by decide +kernel
theorem dX2_blurred_22 : decode cX2_blurred 22 = .ok (.if_icmp .lt 26, 3) := by decide +kernel
theorem dX2_blurred_25 : decode cX2_blurred 25 = .ok (.aload_n 0, 1) := by decide +kernel
theorem dX2_blurred_26 : decode cX2_blurred 26 = .ok (.getfield 18, 3) := by decide +kernel
theorem dX2_blurred_29 : decode cX2_blurred 29 = .ok (.iload 4, 2) := by decide +kernel
theorem dX2_blurred_31 : decode cX2_blurred 31 = .ok (.iaload, 1) := by decide +kernel
theorem dX2_blurred_32 : decode cX2_blurred 32 = .ok (.iload_n 2, 1) := by decide +kernel
theorem dX2_blurred_33 : decode cX2_blurred 33 = .ok (.if_icmp .ge 15, 3) := by decide +kernel
theorem dX2_blurred_36 : decode cX2_blurred 36 = .ok (.iload_n 3, 1) := by decide +kernel
theorem dX2_blurred_37 : decode cX2_blurred 37 = .ok (.iload_n 2, 1) := by decide +kernel
theorem dX2_blurred_38 : decode cX2_blurred 38 = .ok (.aload_n 0, 1) := by decide +kernel
theorem dX2_blurred_39 : decode cX2_blurred 39 = .ok (.getfield 18, 3) := by decide +kernel
theorem dX2_blurred_42 : decode cX2_blurred 42 = .ok (.iload 4, 2) := by decide +kernel
theorem dX2_blurred_44 : decode cX2_blurred 44 = .ok (.iaload, 1) := by decide +kernel
theorem dX2_blurred_45 : decode cX2_blurred 45 = .ok (.isub, 1) := by decide +kernel
theorem dX2_blurred_46 : decode cX2_blurred 46 = .ok (.iadd, 1) := by decide +kernel
theorem dX2_blurred_47 : decode cX2_blurred 47 = .ok (.istore_n 3, 1) := by decide +kernel
theorem dX2_blurred_48 : decode cX2_blurred 48 = .ok (.iinc 4 1, 3) := by decide +kernel
theorem dX2_blurred_51 : decode cX2_blurred 51 = .ok (.goto (-46), 3) := by decide +kernel
theorem dX2_blurred_54 : decode cX2_blurred 54 = .ok (.iload_n 3, 1) := by decide +kernel
theorem dX2_blurred_55 : decode cX2_blurred 55 = .ok (.ireturn, 1) := by decide +kernel
theorem dX2_findBest_0 : decode cX2_findBest 0 = .ok (.aload_n 0, 1) := by decide +kernel
theorem dX2_findBest_1 : decode cX2_findBest 1 = .ok (.iconst 0, 1) := by decide +kernel
theorem dX2_findBest_2 : decode cX2_findBest 2 = .ok (.putfield 70, 3) := by decide +kernel
theorem dX2_findBest_5 : decode cX2_findBest 5 = .ok (.aload_n 0, 1) := by decide +kernel
theorem dX2_findBest_6 : decode cX2_findBest 6 = .ok (.iconst 0, 1) := by decide +kernel
theorem dX2_findBest_7 : decode cX2_findBest 7 = .ok (.putfield 73, 3) := by decide +kernel
theorem dX2_findBest_10 : decode cX2_findBest 10 = .ok (.aload_n 0, 1) := by decide +kernel
theorem dX2_findBest_11 : decode cX2_findBest 11 = .ok (.iconst 0, 1) := by decide +kernel
theorem dX2_findBest_12 : decode cX2_findBest 12 = .ok (.putfield 76, 3) := by decide +kernel
theorem dX2_findBest_15 : decode cX2_findBest 15 = .ok (.iconst 1, 1) := by decide +kernel
theorem dX2_findBest_16 : decode cX2_findBest 16 = .ok (.istore_n 1, 1) := by decide +kernel
theorem dX2_findBest_17 : decode cX2_findBest 17 = .ok (.iload_n 1, 1) := by decide +kernel
theorem dX2_findBest_18 : decode cX2_findBest 18 = .ok (.bipush 16, 2) := by decide +kernel
theorem dX2_findBest_20 : decode cX2_findBest 20 = .ok (.if_icmp .gt 68, 3) := by decide +kernel
theorem dX2_findBest_23 : decode cX2_findBest 23 = .ok (.iconst 0, 1) := by decide +kernel
theorem dX2_findBest_24 : decode cX2_findBest 24 = .ok (.istore_n 2, 1) := by decide +kernel
theorem dX2_findBest_25 : decode cX2_findBest 25 = .ok (.iload_n 2, 1) := by decide +kernel
theorem dX2_findBest_26 : decode cX2_findBest 26 = .ok (.iload_n 1, 1) := by decide +kernel
theorem dX2_findBest_27 : decode cX2_findBest 27 = .ok (.iadd, 1) := by decide +kernel
theorem dX2_findBest_28 : decode cX2_findBest 28 = .ok (.bipush 64, 2) := by decide +kernel
theorem dX2_findBest_30 : decode cX2_findBest 30 = .ok (.if_icmp .gt 52, 3) := by decide +kernel
theorem dX2_findBest_33 : decode cX2_findBest 33 = .ok (.aload_n 0, 1) := by decide +kernel
theorem dX2_findBest_34 : decode cX2_findBest 34 = .ok (.iload_n 2, 1) := by decide +kernel
theorem dX2_findBest_35 : decode cX2_findBest 35 = .ok (.iload_n 2, 1) := by decide +kernel
theorem dX2_findBest_36 : decode cX2_findBest 36 = .ok (.iload_n 1, 1) := by decide +kernel
theorem dX2_findBest_37 : decode cX2_findBest 37 = .ok (.iadd, 1) := by decide +kernel
theorem dX2_findBest_38 : decode cX2_findBest 38 = .ok (.invokevirtual 79, 3) := by decide +kernel
theorem dX2_findBest_41 : decode cX2_findBest 41 = .ok (.aload_n 0, 1) := by decide +kernel
theorem dX2_findBest_42 : decode cX2_findBest 42 = .ok (.iload_n 2, 1) := by decide +kernel
theorem dX2_findBest_43 : decode cX2_findBest 43 = .ok (.iload_n 2, 1) := by decide +kernel
theorem dX2_findBest_44 : decode cX2_findBest 44 = .ok (.iload_n 1, 1) := by decide +kernel
theorem dX2_findBest_45 : decode cX2_findBest 45 = .ok (.iadd, 1) := by decide +kernel
theorem dX2_findBest_46 : decode cX2_findBest 46 = .ok (.invokevirtual 82, 3) := by decide +kernel
theorem dX2_findBest_49 : decode cX2_findBest 49 = .ok (.isub, 1) := by decide +kernel
theorem dX2_findBest_50 : decode cX2_findBest 50 = .ok (.istore_n 3, 1) := by decide +kernel
theorem dX2_findBest_51 : decode cX2_findBest 51 = .ok (.iload_n 3, 1) := by decide +kernel
theorem dX2_findBest_52 : decode cX2_findBest 52 = .ok (.aload_n 0, 1) := by decide +kernel
theorem dX2_findBest_53 : decode cX2_findBest 53 = .ok (.getfield 70, 3) := by decide +kernel
theorem dX2_findBest_56 : decode cX2_findBest 56 = .ok (.if_icmp .le 20, 3) := by decide +kernel
theorem dX2_findBest_59 : decode cX2_findBest 59 = .ok (.aload_n 0, 1) := by decide +kernel
theorem dX2_findBest_60 : decode cX2_findBest 60 = .ok (.iload_n 3, 1) := by decide +kernel
theorem dX2_findBest_61 : decode cX2_findBest 61 = .ok (.putfield 70, 3) := by decide +kernel
theorem dX2_findBest_64 : decode cX2_findBest 64 = .ok (.aload_n 0, 1) := by decide +kernel
theorem dX2_findBest_65 : decode cX2_findBest 65 = .ok (.iload_n 2, 1) := by decide +kernel
theorem dX2_findBest_66 : decode cX2_findBest 66 = .ok (.putfield 73, 3) := by decide +kernel
theorem dX2_findBest_69 : decode cX2_findBest 69 = .ok (.aload_n 0, 1) := by decide +kernel
theorem dX2_findBest_70 : decode cX2_findBest 70 = .ok (.iload_n 2, 1) := by decide +kernel
theorem dX2_findBest_71 : decode cX2_findBest 71 = .ok (.iload_n 1, 1) := by decide +kernel
theorem dX2_findBest_72 : decode cX2_findBest 72 = .ok (.iadd, 1) := by decide +kernel
theorem dX2_findBest_73 : decode cX2_findBest 73 = .ok (.putfield 76, 3) := by decide +kernel
theorem dX2_findBest_76 : decode cX2_findBest 76 = .ok (.iinc 2 1, 3) := by decide +kernel
theorem dX2_findBest_79 : decode cX2_findBest 79 = .ok (.goto (-54), 3) := by decide +kernel
theorem dX2_findBest_82 : decode cX2_findBest 82 = .ok (.iinc 1 1, 3) := by decide +kernel
theorem dX2_findBest_85 : decode cX2_findBest 85 = .ok (.goto (-68), 3) := by decide +kernel
theorem dX2_findBest_88 : decode cX2_findBest 88 = .ok (.return_, 1) := by decide +kernel
theorem dX3_init_0 : decode cX3_init 0 = .ok (.aload_n 0, 1) := by decide +kernel
theorem dX3_init_1 : decode cX3_init 1 = .ok (.invokespecial 3, 3) := by decide +kernel
theorem dX3_init_4 : decode cX3_init 4 = .ok (.aload_n 0, 1) := by decide +kernel
theorem dX3_init_5 : decode cX3_init 5 = .ok (.iconst 2, 1) := by decide +kernel
theorem dX3_init_6 : decode cX3_init 6 = .ok (.putfield 9, 3) := by decide +kernel
theorem dX3_init_9 : decode cX3_init 9 = .ok (.aload_n 0, 1) := by decide +kernel
theorem dX3_init_10 : decode cX3_init 10 = .ok (.bipush 12, 2) := by decide +kernel
theorem dX3_init_12 : decode cX3_init 12 = .ok (.newarray .int, 2) := by decide +kernel
theorem dX3_init_14 : decode cX3_init 14 = .ok (.putfield 15, 3) := by decide +kernel
theorem dX3_init_17 : decode cX3_init 17 = .ok (.aload_n 0, 1) := by decide +kernel
theorem dX3_init_18 : decode cX3_init 18 = .ok (.bipush 12, 2) := by decide +kernel
theorem dX3_init_20 : decode cX3_init 20 = .ok (.newarray .int, 2) := by decide +kernel
theorem dX3_init_22 : decode cX3_init 22 = .ok (.putfield 19, 3) := by decide +kernel
theorem dX3_init_25 : decode cX3_init 25 = .ok (.aload_n 0, 1) := by decide +kernel
theorem dX3_init_26 : decode cX3_init 26 = .ok (.bipush 12, 2) := by decide +kernel
theorem dX3_init_28 : decode cX3_init 28 = .ok (.newarray .int, 2) := by decide +kernel
theorem dX3_init_30 : decode cX3_init 30 = .ok (.putfield 22, 3) := by decide +kernel
theorem dX3_init_33 : decode cX3_init 33 = .ok (.aload_n 0, 1) := by decide +kernel
theorem dX3_init_34 : decode cX3_init 34 = .ok (.bipush 12, 2) := by decide +kernel
theorem dX3_init_36 : decode cX3_init 36 = .ok (.newarray .int, 2) := by decide +kernel
theorem dX3_init_38 : decode cX3_init 38 = .ok (.putfield 25, 3) := by decide +kernel
theorem dX3_init_41 : decode cX3_init 41 = .ok (.aload_n 0, 1) := by decide +kernel
theorem dX3_init_42 : decode cX3_init 42 = .ok (.bipush 12, 2) := by decide +kernel
theorem dX3_init_44 : decode cX3_init 44 = .ok (.newarray .int, 2) := by decide +kernel
theorem dX3_init_46 : decode cX3_init 46 = .ok (.putfield 28, 3) := by decide +kernel
theorem dX3_init_49 : decode cX3_init 49 = .ok (.aload_n 0, 1) := by decide +kernel
theorem dX3_init_50 : decode cX3_init 50 = .ok (.bipush 12, 2) := by decide +kernel
theorem dX3_init_52 : decode cX3_init 52 = .ok (.newarray .int, 2) := by decide +kernel
theorem dX3_init_54 : decode cX3_init 54 = .ok (.putfield 31, 3) := by decide +kernel
theorem dX3_init_57 : decode cX3_init 57 = .ok (.aload_n 0, 1) := by decide +kernel
theorem dX3_init_58 : decode cX3_init 58 = .ok (.bipush 12, 2) := by decide +kernel
theorem dX3_init_60 : decode cX3_init 60 = .ok (.newarray .int, 2) := by decide +kernel
theorem dX3_init_62 : decode cX3_init 62 = .ok (.putfield 34, 3) := by decide +kernel
theorem dX3_init_65 : decode cX3_init 65 = .ok (.aload_n 0, 1) := by decide +kernel
theorem dX3_init_66 : decode cX3_init 66 = .ok (.iconst 4, 1) := by decide +kernel
theorem dX3_init_67 : decode cX3_init 67 = .ok (.newarray .int, 2) := by decide +kernel
theorem dX3_init_69 : decode cX3_init 69 = .ok (.putfield 37, 3) := by decide +kernel
theorem dX3_init_72 : decode cX3_init 72 = .ok (.aload_n 0, 1) := by decide +kernel
theorem dX3_init_73 : decode cX3_init 73 = .ok (.iconst 4, 1) := by decide +kernel
theorem dX3_init_74 : decode cX3_init 74 = .ok (.newarray .int, 2) := by decide +kernel
theorem dX3_init_76 : decode cX3_init 76 = .ok (.putfield 40, 3) := by decide +kernel
theorem dX3_init_79 : decode cX3_init 79 = .ok (.aload_n 0, 1) := by decide +kernel
theorem dX3_init_80 : decode cX3_init 80 = .ok (.iconst 4, 1) := by decide +kernel
theorem dX3_init_81 : decode cX3_init 81 = .ok (.newarray .int, 2) := by decide +kernel
theorem dX3_init_83 : decode cX3_init 83 = .ok (.putfield 43, 3) := by decide +kernel
theorem dX3_init_86 : decode cX3_init 86 = .ok (.aload_n 0, 1) := by decide +kernel
theorem dX3_init_87 : decode cX3_init 87 = .ok (.bipush 10, 2) := by decide +kernel
theorem dX3_init_89 : decode cX3_init 89 = .ok (.newarray .int, 2) := by decide +kernel
theorem dX3_init_91 : decode cX3_init 91 = .ok (.putfield 46, 3) := by decide +kernel
theorem dX3_init_94 : decode cX3_init 94 = .ok (.aload_n 0, 1) := by decide +kernel
theorem dX3_init_95 : decode cX3_init 95 = .ok (.bipush 10, 2) := by decide +kernel
theorem dX3_init_97 : decode cX3_init 97 = .ok (.newarray .int, 2) := by decide +kernel
theorem dX3_init_99 : decode cX3_init 99 = .ok (.putfield 49, 3) := by decide +kernel
theorem dX3_init_102 : decode cX3_init 102 = .ok (.aload_n 0, 1) := by decide +kernel
theorem dX3_init_103 : decode cX3_init 103 = .ok (.bipush 12, 2) := by decide +kernel
theorem dX3_init_105 : decode cX3_init 105 = .ok (.newarray .int, 2) := by decide +kernel
theorem dX3_init_107 : decode cX3_init 107 = .ok (.putfield 52, 3) := by decide +kernel
theorem dX3_init_110 : decode cX3_init 110 = .ok (.aload_n 0, 1) := by decide +kernel
theorem dX3_init_111 : decode cX3_init 111 = .ok (.getfield 40, 3) := by decide +kernel
theorem dX3_init_114 : decode cX3_init 114 = .ok (.bipush 9, 2) := by decide +kernel
theorem dX3_init_116 : decode cX3_init 116 = .ok (.invokestatic 55, 3) := by decide +kernel
theorem dX3_init_119 : decode cX3_init 119 = .ok (.aload_n 0, 1) := by decide +kernel
theorem dX3_init_120 : decode cX3_init 120 = .ok (.getfield 43, 3) := by decide +kernel
theorem dX3_init_123 : decode cX3_init 123 = .ok (.iconst 4, 1) := by decide +kernel
theorem dX3_init_124 : decode cX3_init 124 = .ok (.invokestatic 55, 3) := by decide +kernel
theorem dX3_init_127 : decode cX3_init 127 = .ok (.return_, 1) := by decide +kernel
theorem dX3_begin_0 : decode cX3_begin 0 = .ok (.aload_n 0, 1) := by decide +kernel
theorem dX3_begin_1 : decode cX3_begin 1 = .ok (.iload_n 1, 1) := by decide +kernel
theorem dX3_begin_2 : decode cX3_begin 2 = .ok (.putfield 9, 3) := by decide +kernel
theorem dX3_begin_5 : decode cX3_begin 5 = .ok (.aload_n 0, 1) := by decide +kernel
theorem dX3_begin_6 : decode cX3_begin 6 = .ok (.iconst 0, 1) := by decide +kernel
theorem dX3_begin_7 : decode cX3_begin 7 = .ok (.putfield 61, 3) := by decide +kernel
theorem dX3_begin_10 : decode cX3_begin 10 = .ok (.aload_n 0, 1) := by decide +kernel
theorem dX3_begin_11 : decode cX3_begin 11 = .ok (.getfield 37, 3) := by decide +kernel
theorem dX3_begin_14 : decode cX3_begin 14 = .ok (.iconst 0, 1) := by decide +kernel
theorem dX3_begin_15 : decode cX3_begin 15 = .ok (.invokestatic 55, 3) := by decide +kernel
theorem dX3_begin_18 : decode cX3_begin 18 = .ok (.aload_n 0, 1) := by decide +kernel
theorem dX3_begin_19 : decode cX3_begin 19 = .ok (.getfield 40, 3) := by decide +kernel
theorem dX3_begin_22 : decode cX3_begin 22 = .ok (.bipush 9, 2) := by decide +kernel
theorem dX3_begin_24 : decode cX3_begin 24 = .ok (.invokestatic 55, 3) := by decide +kernel
theorem dX3_begin_27 : decode cX3_begin 27 = .ok (.aload_n 0, 1) := by decide +kernel
theorem dX3_begin_28 : decode cX3_begin 28 = .ok (.getfield 43, 3) := by decide +kernel
theorem dX3_begin_31 : decode cX3_begin 31 = .ok (.iconst 4, 1) := by decide +kernel
theorem dX3_begin_32 : decode cX3_begin 32 = .ok (.invokestatic 55, 3) := by decide +kernel
theorem dX3_begin_35 : decode cX3_begin 35 = .ok (.aload_n 0, 1) := by decide +kernel
theorem dX3_begin_36 : decode cX3_begin 36 = .ok (.iconst 0, 1) := by decide +kernel
theorem dX3_begin_37 : decode cX3_begin 37 = .ok (.putfield 64, 3) := by decide +kernel
theorem dX3_begin_40 : decode cX3_begin 40 = .ok (.aload_n 0, 1) := by decide +kernel
theorem dX3_begin_41 : decode cX3_begin 41 = .ok (.iconst 0, 1) := by decide +kernel
theorem dX3_begin_42 : decode cX3_begin 42 = .ok (.putfield 67, 3) := by decide +kernel
theorem dX3_begin_45 : decode cX3_begin 45 = .ok (.aload_n 0, 1) := by decide +kernel
theorem dX3_begin_46 : decode cX3_begin 46 = .ok (.iconst 0, 1) := by decide +kernel
theorem dX3_begin_47 : decode cX3_begin 47 = .ok (.putfield 70, 3) := by decide +kernel
theorem dX3_begin_50 : decode cX3_begin 50 = .ok (.return_, 1) := by decide +kernel
theorem dX3_copyFrom_0 : decode cX3_copyFrom 0 = .ok (.aload_n 0, 1) := by decide +kernel
theorem dX3_copyFrom_1 : decode cX3_copyFrom 1 = .ok (.aload_n 1, 1) := by decide +kernel
theorem dX3_copyFrom_2 : decode cX3_copyFrom 2 = .ok (.getfield 9, 3) := by decide +kernel
theorem dX3_copyFrom_5 : decode cX3_copyFrom 5 = .ok (.putfield 9, 3) := by decide +kernel
theorem dX3_copyFrom_8 : decode cX3_copyFrom 8 = .ok (.aload_n 0, 1) := by decide +kernel
theorem dX3_copyFrom_9 : decode cX3_copyFrom 9 = .ok (.aload_n 1, 1) := by decide +kernel
theorem dX3_copyFrom_10 : decode cX3_copyFrom 10 = .ok (.getfield 61, 3) := by decide +kernel
theorem dX3_copyFrom_13 : decode cX3_copyFrom 13 = .ok (.putfield 61, 3) := by decide +kernel
theorem dX3_copyFrom_16 : decode cX3_copyFrom 16 = .ok (.aload_n 1, 1) := by decide +kernel
theorem dX3_copyFrom_17 : decode cX3_copyFrom 17 = .ok (.getfield 15, 3) := by decide +kernel
theorem dX3_copyFrom_20 : decode cX3_copyFrom 20 = .ok (.iconst 0, 1) := by decide +kernel
theorem dX3_copyFrom_21 : decode cX3_copyFrom 21 = .ok (.aload_n 0, 1) := by decide +kernel
theorem dX3_copyFrom_22 : decode cX3_copyFrom 22 = .ok (.getfield 15, 3) := by decide +kernel
theorem dX3_copyFrom_25 : decode cX3_copyFrom 25 = .ok (.iconst 0, 1) := by decide +kernel
theorem dX3_copyFrom_26 : decode cX3_copyFrom 26 = .ok (.bipush 12, 2) := by decide +kernel
theorem dX3_copyFrom_28 : decode cX3_copyFrom 28 = .ok (.invokestatic 73, 3) := by decide +kernel
theorem dX3_copyFrom_31 : decode cX3_copyFrom 31 = .ok (.aload_n 1, 1) := by decide +kernel
theorem dX3_copyFrom_32 : decode cX3_copyFrom 32 = .ok (.getfield 19, 3) := by decide +kernel
theorem dX3_copyFrom_35 : decode cX3_copyFrom 35 = .ok (.iconst 0, 1) := by decide +kernel
theorem dX3_copyFrom_36 : decode cX3_copyFrom 36 = .ok (.aload_n 0, 1) := by decide +kernel
theorem dX3_copyFrom_37 : decode cX3_copyFrom 37 = .ok (.getfield 19, 3) := by decide +kernel
theorem dX3_copyFrom_40 : decode cX3_copyFrom 40 = .ok (.iconst 0, 1) := by decide +kernel
theorem dX3_copyFrom_41 : decode cX3_copyFrom 41 = .ok (.bipush 12, 2) := by decide +kernel
theorem dX3_copyFrom_43 : decode cX3_copyFrom 43 = .ok (.invokestatic 73, 3) := by decide +kernel
theorem dX3_copyFrom_46 : decode cX3_copyFrom 46 = .ok (.aload_n 1, 1) := by decide +kernel
theorem dX3_copyFrom_47 : decode cX3_copyFrom 47 = .ok (.getfield 22, 3) := by decide +kernel
theorem dX3_copyFrom_50 : decode cX3_copyFrom 50 = .ok (.iconst 0, 1) := by decide +kernel
theorem dX3_copyFrom_51 : decode cX3_copyFrom 51 = .ok (.aload_n 0, 1) := by decide +kernel
theorem dX3_copyFrom_52 : decode cX3_copyFrom 52 = .ok (.getfield 22, 3) := by decide +kernel
theorem dX3_copyFrom_55 : decode cX3_copyFrom 55 = .ok (.iconst 0, 1) := by decide +kernel
theorem dX3_copyFrom_56 : decode cX3_copyFrom 56 = .ok (.bipush 12, 2) := by decide +kernel
theorem dX3_copyFrom_58 : decode cX3_copyFrom 58 = .ok (.invokestatic 73, 3) := by decide +kernel
theorem dX3_copyFrom_61 : decode cX3_copyFrom 61 = .ok (.aload_n 1, 1) := by decide +kernel
theorem dX3_copyFrom_62 : decode cX3_copyFrom 62 = .ok (.getfield 25, 3) := by decide +kernel
theorem dX3_copyFrom_65 : decode cX3_copyFrom 65 = .ok (.iconst 0, 1) := by decide +kernel
theorem dX3_copyFrom_66 : decode cX3_copyFrom 66 = .ok (.aload_n 0, 1) := by decide +kernel
theorem dX3_copyFrom_67 : decode cX3_copyFrom 67 = .ok (.getfield 25, 3) := by decide +kernel
theorem dX3_copyFrom_70 : decode cX3_copyFrom 70 = .ok (.iconst 0, 1) := by decide +kernel
theorem dX3_copyFrom_71 : decode cX3_copyFrom 71 = .ok (.bipush 12, 2) := by decide +kernel
theorem dX3_copyFrom_73 : decode cX3_copyFrom 73 = .ok (.invokestatic 73, 3) := by decide +kernel
theorem dX3_copyFrom_76 : decode cX3_copyFrom 76 = .ok (.aload_n 1, 1) := by decide +kernel
theorem dX3_copyFrom_77 : decode cX3_copyFrom 77 = .ok (.getfield 28, 3) := by decide +kernel
theorem dX3_copyFrom_80 : decode cX3_copyFrom 80 = .ok (.iconst 0, 1) := by decide +kernel
theorem dX3_copyFrom_81 : decode cX3_copyFrom 81 = .ok (.aload_n 0, 1) := by decide +kernel
theorem dX3_copyFrom_82 : decode cX3_copyFrom 82 = .ok (.getfield 28, 3) := by decide +kernel
theorem dX3_copyFrom_85 : decode cX3_copyFrom 85 = .ok (.iconst 0, 1) := by decide +kernel
theorem dX3_copyFrom_86 : decode cX3_copyFrom 86 = .ok (.bipush 12, 2) := by decide +kernel
theorem dX3_copyFrom_88 : decode cX3_copyFrom 88 = .ok (.invokestatic 73, 3) := by decide +kernel
theorem dX3_copyFrom_91 : decode cX3_copyFrom 91 = .ok (.aload_n 1, 1) := by decide +kernel
theorem dX3_copyFrom_92 : decode cX3_copyFrom 92 = .ok (.getfield 31, 3) := by decide +kernel
theorem dX3_copyFrom_95 : decode cX3_copyFrom 95 = .ok (.iconst 0, 1) := by decide +kernel
theorem dX3_copyFrom_96 : decode cX3_copyFrom 96 = .ok (.aload_n 0, 1) := by decide +kernel
theorem dX3_copyFrom_97 : decode cX3_copyFrom 97 = .ok (.getfield 31, 3) := by decide +kernel
theorem dX3_copyFrom_100 : decode cX3_copyFrom 100 = .ok (.iconst 0, 1) := by decide +kernel
theorem dX3_copyFrom_101 : decode cX3_copyFrom 101 = .ok (.bipush 12, 2) := by decide +kernel
theorem dX3_copyFrom_103 : decode cX3_copyFrom 103 = .ok (.invokestatic 73, 3) := by decide +kernel
theorem dX3_copyFrom_106 : decode cX3_copyFrom 106 = .ok (.aload_n 1, 1) := by decide +kernel
theorem dX3_copyFrom_107 : decode cX3_copyFrom 107 = .ok (.getfield 34, 3) := by decide +kernel
theorem dX3_copyFrom_110 : decode cX3_copyFrom 110 = .ok (.iconst 0, 1) := by decide +kernel
theorem dX3_copyFrom_111 : decode cX3_copyFrom 111 = .ok (.aload_n 0, 1) := by decide +kernel
theorem dX3_copyFrom_112 : decode cX3_copyFrom 112 = .ok (.getfield 34, 3) := by decide +kernel
theorem dX3_copyFrom_115 : decode cX3_copyFrom 115 = .ok (.iconst 0, 1) := by decide +kernel
theorem dX3_copyFrom_116 : decode cX3_copyFrom 116 = .ok (.bipush 12, 2) := by decide +kernel
theorem dX3_copyFrom_118 : decode cX3_copyFrom 118 = .ok (.invokestatic 73, 3) := by decide +kernel
theorem dX3_copyFrom_121 : decode cX3_copyFrom 121 = .ok (.aload_n 1, 1) := by decide +kernel
theorem dX3_copyFrom_122 : decode cX3_copyFrom 122 = .ok (.getfield 37, 3) := by decide +kernel
theorem dX3_copyFrom_125 : decode cX3_copyFrom 125 = .ok (.iconst 0, 1) := by decide +kernel
theorem dX3_copyFrom_126 : decode cX3_copyFrom 126 = .ok (.aload_n 0, 1) := by decide +kernel
theorem dX3_copyFrom_127 : decode cX3_copyFrom 127 = .ok (.getfield 37, 3) := by decide +kernel
theorem dX3_copyFrom_130 : decode cX3_copyFrom 130 = .ok (.iconst 0, 1) := by decide +kernel
theorem dX3_copyFrom_131 : decode cX3_copyFrom 131 = .ok (.iconst 4, 1) := by decide +kernel
theorem dX3_copyFrom_132 : decode cX3_copyFrom 132 = .ok (.invokestatic 73, 3) := by decide +kernel
theorem dX3_copyFrom_135 : decode cX3_copyFrom 135 = .ok (.aload_n 1, 1) := by decide +kernel
theorem dX3_copyFrom_136 : decode cX3_copyFrom 136 = .ok (.getfield 40, 3) := by decide +kernel
theorem dX3_copyFrom_139 : decode cX3_copyFrom 139 = .ok (.iconst 0, 1) := by decide +kernel
theorem dX3_copyFrom_140 : decode cX3_copyFrom 140 = .ok (.aload_n 0, 1) := by decide +kernel
theorem dX3_copyFrom_141 : decode cX3_copyFrom 141 = .ok (.getfield 40, 3) := by decide +kernel
theorem dX3_copyFrom_144 : decode cX3_copyFrom 144 = .ok (.iconst 0, 1) := by decide +kernel
theorem dX3_copyFrom_145 : decode cX3_copyFrom 145 = .ok (.iconst 4, 1) := by decide +kernel
theorem dX3_copyFrom_146 : decode cX3_copyFrom 146 = .ok (.invokestatic 73, 3) := by decide +kernel
theorem dX3_copyFrom_149 : decode cX3_copyFrom 149 = .ok (.aload_n 1, 1) := by decide +kernel
theorem dX3_copyFrom_150 : decode cX3_copyFrom 150 = .ok (.getfield 43, 3) := by decide +kernel
theorem dX3_copyFrom_153 : decode cX3_copyFrom 153 = .ok (.iconst 0, 1) := by decide +kernel
theorem dX3_copyFrom_154 : decode cX3_copyFrom 154 = .ok (.aload_n 0, 1) := by decide +kernel
theorem dX3_copyFrom_155 : decode cX3_copyFrom 155 = .ok (.getfield 43, 3) := by decide +kernel
theorem dX3_copyFrom_158 : decode cX3_copyFrom 158 = .ok (.iconst 0, 1) := by decide +kernel
theorem dX3_copyFrom_159 : decode cX3_copyFrom 159 = .ok (.iconst 4, 1) := by decide +kernel
theorem dX3_copyFrom_160 : decode cX3_copyFrom 160 = .ok (.invokestatic 73, 3) := by decide +kernel
theorem dX3_copyFrom_163 : decode cX3_copyFrom 163 = .ok (.aload_n 0, 1) := by decide +kernel
theorem dX3_copyFrom_164 : decode cX3_copyFrom 164 = .ok (.aload_n 1, 1) := by decide +kernel
theorem dX3_copyFrom_165 : decode cX3_copyFrom 165 = .ok (.getfield 64, 3) := by decide +kernel
theorem dX3_copyFrom_168 : decode cX3_copyFrom 168 = .ok (.putfield 64, 3) := by decide +kernel
theorem dX3_copyFrom_171 : decode cX3_copyFrom 171 = .ok (.aload_n 0, 1) := by decide +kernel
theorem dX3_copyFrom_172 : decode cX3_copyFrom 172 = .ok (.aload_n 1, 1) := by decide +kernel
theorem dX3_copyFrom_173 : decode cX3_copyFrom 173 = .ok (.getfield 67, 3) := by decide +kernel
theorem dX3_copyFrom_176 : decode cX3_copyFrom 176 = .ok (.putfield 67, 3) := by decide +kernel
theorem dX3_copyFrom_179 : decode cX3_copyFrom 179 = .ok (.aload_n 0, 1) := by decide +kernel
theorem dX3_copyFrom_180 : decode cX3_copyFrom 180 = .ok (.aload_n 1, 1) := by decide +kernel
theorem dX3_copyFrom_181 : decode cX3_copyFrom 181 = .ok (.getfield 70, 3) := by decide +kernel
theorem dX3_copyFrom_184 : decode cX3_copyFrom 184 = .ok (.putfield 70, 3) := by decide +kernel
theorem dX3_copyFrom_187 : decode cX3_copyFrom 187 = .ok (.aload_n 1, 1) := by decide +kernel
theorem dX3_copyFrom_188 : decode cX3_copyFrom 188 = .ok (.getfield 46, 3) := by decide +kernel
theorem dX3_copyFrom_191 : decode cX3_copyFrom 191 = .ok (.iconst 0, 1) := by decide +kernel
theorem dX3_copyFrom_192 : decode cX3_copyFrom 192 = .ok (.aload_n 0, 1) := by decide +kernel
theorem dX3_copyFrom_193 : decode cX3_copyFrom 193 = .ok (.getfield 46, 3) := by decide +kernel
theorem dX3_copyFrom_196 : decode cX3_copyFrom 196 = .ok (.iconst 0, 1) := by decide +kernel
theorem dX3_copyFrom_197 : decode cX3_copyFrom 197 = .ok (.bipush 10, 2) := by decide +kernel
theorem dX3_copyFrom_199 : decode cX3_copyFrom 199 = .ok (.invokestatic 73, 3) := by decide +kernel
theorem dX3_copyFrom_202 : decode cX3_copyFrom 202 = .ok (.aload_n 1, 1) := by decide +kernel
theorem dX3_copyFrom_203 : decode cX3_copyFrom 203 = .ok (.getfield 49, 3) := by decide +kernel
theorem dX3_copyFrom_206 : decode cX3_copyFrom 206 = .ok (.iconst 0, 1) := by decide +kernel
theorem dX3_copyFrom_207 : decode cX3_copyFrom 207 = .ok (.aload_n 0, 1) := by decide +kernel
theorem dX3_copyFrom_208 : decode cX3_copyFrom 208 = .ok (.getfield 49, 3) := by decide +kernel
theorem dX3_copyFrom_211 : decode cX3_copyFrom 211 = .ok (.iconst 0, 1) := by decide +kernel
theorem dX3_copyFrom_212 : decode cX3_copyFrom 212 = .ok (.bipush 10, 2) := by decide +kernel
theorem dX3_copyFrom_214 : decode cX3_copyFrom 214 = .ok (.invokestatic 73, 3) := by decide +kernel
theorem dX3_copyFrom_217 : decode cX3_copyFrom 217 = .ok (.return_, 1) := by decide +kernel
theorem dX3_setHand_0 : decode cX3_setHand 0 = .ok (.aload_n 0, 1) := by decide +kernel
theorem dX3_setHand_1 : decode cX3_setHand 1 = .ok (.getfield 37, 3) := by decide +kernel
theorem dX3_setHand_4 : decode cX3_setHand 4 = .ok (.iload_n 1, 1) := by decide +kernel
theorem dX3_setHand_5 : decode cX3_setHand 5 = .ok (.iload_n 2, 1) := by decide +kernel
theorem dX3_setHand_6 : decode cX3_setHand 6 = .ok (.iastore, 1) := by decide +kernel
theorem dX3_setHand_7 : decode cX3_setHand 7 = .ok (.aload_n 0, 1) := by decide +kernel
theorem dX3_setHand_8 : decode cX3_setHand 8 = .ok (.getfield 40, 3) := by decide +kernel
theorem dX3_setHand_11 : decode cX3_setHand 11 = .ok (.iload_n 1, 1) := by decide +kernel
theorem dX3_setHand_12 : decode cX3_setHand 12 = .ok (.iload_n 3, 1) := by decide +kernel
theorem dX3_setHand_13 : decode cX3_setHand 13 = .ok (.iastore, 1) := by decide +kernel
theorem dX3_setHand_14 : decode cX3_setHand 14 = .ok (.aload_n 0, 1) := by decide +kernel
theorem dX3_setHand_15 : decode cX3_setHand 15 = .ok (.getfield 43, 3) := by decide +kernel
theorem dX3_setHand_18 : decode cX3_setHand 18 = .ok (.iload_n 1, 1) := by decide +kernel
theorem dX3_setHand_19 : decode cX3_setHand 19 = .ok (.iload 4, 2) := by decide +kernel
theorem dX3_setHand_21 : decode cX3_setHand 21 = .ok (.iastore, 1) := by decide +kernel
theorem dX3_setHand_22 : decode cX3_setHand 22 = .ok (.return_, 1) := by decide +kernel
theorem dX3_addNote_0 : decode cX3_addNote 0 = .ok (.aload_n 0, 1) := by decide +kernel
theorem dX3_addNote_1 : decode cX3_addNote 1 = .ok (.getfield 61, 3) := by decide +kernel
theorem dX3_addNote_4 : decode cX3_addNote 4 = .ok (.bipush 12, 2) := by decide +kernel
theorem dX3_addNote_6 : decode cX3_addNote 6 = .ok (.if_icmp .lt 4, 3) := by decide +kernel
theorem dX3_addNote_9 : decode cX3_addNote 9 = .ok (.return_, 1) := by decide +kernel
theorem dX3_addNote_10 : decode cX3_addNote 10 = .ok (.aload_n 0, 1) := by decide +kernel
theorem dX3_addNote_11 : decode cX3_addNote 11 = .ok (.getfield 15, 3) := by decide +kernel
theorem dX3_addNote_14 : decode cX3_addNote 14 = .ok (.aload_n 0, 1) := by decide +kernel
theorem dX3_addNote_15 : decode cX3_addNote 15 = .ok (.getfield 61, 3) := by decide +kernel
theorem dX3_addNote_18 : decode cX3_addNote 18 = .ok (.iload_n 1, 1) := by decide +kernel
theorem dX3_addNote_19 : decode cX3_addNote 19 = .ok (.iastore, 1) := by decide +kernel
theorem dX3_addNote_20 : decode cX3_addNote 20 = .ok (.aload_n 0, 1) := by decide +kernel
theorem dX3_addNote_21 : decode cX3_addNote 21 = .ok (.getfield 19, 3) := by decide +kernel
theorem dX3_addNote_24 : decode cX3_addNote 24 = .ok (.aload_n 0, 1) := by decide +kernel
theorem dX3_addNote_25 : decode cX3_addNote 25 = .ok (.getfield 61, 3) := by decide +kernel
theorem dX3_addNote_28 : decode cX3_addNote 28 = .ok (.iload_n 2, 1) := by decide +kernel
theorem dX3_addNote_29 : decode cX3_addNote 29 = .ok (.iastore, 1) := by decide +kernel
theorem dX3_addNote_30 : decode cX3_addNote 30 = .ok (.aload_n 0, 1) := by decide +kernel
theorem dX3_addNote_31 : decode cX3_addNote 31 = .ok (.getfield 22, 3) := by decide +kernel
theorem dX3_addNote_34 : decode cX3_addNote 34 = .ok (.aload_n 0, 1) := by decide +kernel
theorem dX3_addNote_35 : decode cX3_addNote 35 = .ok (.getfield 61, 3) := by decide +kernel
theorem dX3_addNote_38 : decode cX3_addNote 38 = .ok (.iload_n 3, 1) := by decide +kernel
theorem dX3_addNote_39 : decode cX3_addNote 39 = .ok (.iastore, 1) := by decide +kernel
theorem dX3_addNote_40 : decode cX3_addNote 40 = .ok (.aload_n 0, 1) := by decide +kernel
theorem dX3_addNote_41 : decode cX3_addNote 41 = .ok (.getfield 25, 3) := by decide +kernel
theorem dX3_addNote_44 : decode cX3_addNote 44 = .ok (.aload_n 0, 1) := by decide +kernel
theorem dX3_addNote_45 : decode cX3_addNote 45 = .ok (.getfield 61, 3) := by decide +kernel
theorem dX3_addNote_48 : decode cX3_addNote 48 = .ok (.iload 4, 2) := by decide +kernel
theorem dX3_addNote_50 : decode cX3_addNote 50 = .ok (.iastore, 1) := by decide +kernel
theorem dX3_addNote_51 : decode cX3_addNote 51 = .ok (.aload_n 0, 1) := by decide +kernel
theorem dX3_addNote_52 : decode cX3_addNote 52 = .ok (.getfield 28, 3) := by decide +kernel
theorem dX3_addNote_55 : decode cX3_addNote 55 = .ok (.aload_n 0, 1) := by decide +kernel
theorem dX3_addNote_56 : decode cX3_addNote 56 = .ok (.getfield 61, 3) := by decide +kernel
theorem dX3_addNote_59 : decode cX3_addNote 59 = .ok (.iload 5, 2) := by decide +kernel
theorem dX3_addNote_61 : decode cX3_addNote 61 = .ok (.iastore, 1) := by decide +kernel
theorem dX3_addNote_62 : decode cX3_addNote 62 = .ok (.aload_n 0, 1) := by decide +kernel
theorem dX3_addNote_63 : decode cX3_addNote 63 = .ok (.getfield 31, 3) := by decide +kernel
theorem dX3_addNote_66 : decode cX3_addNote 66 = .ok (.aload_n 0, 1) := by decide +kernel
theorem dX3_addNote_67 : decode cX3_addNote 67 = .ok (.getfield 61, 3) := by decide +kernel
theorem dX3_addNote_70 : decode cX3_addNote 70 = .ok (.iload 6, 2) := by decide +kernel
theorem dX3_addNote_72 : decode cX3_addNote 72 = .ok (.iastore, 1) := by decide +kernel
theorem dX3_addNote_73 : decode cX3_addNote 73 = .ok (.aload_n 0, 1) := by decide +kernel
theorem dX3_addNote_74 : decode cX3_addNote 74 = .ok (.getfield 34, 3) := by decide +kernel
theorem dX3_addNote_77 : decode cX3_addNote 77 = .ok (.aload_n 0, 1) := by decide +kernel
theorem dX3_addNote_78 : decode cX3_addNote 78 = .ok (.getfield 61, 3) := by decide +kernel
theorem dX3_addNote_81 : decode cX3_addNote 81 = .ok (.iconst (-1), 1) := by decide +kernel
theorem dX3_addNote_82 : decode cX3_addNote 82 = .ok (.iastore, 1) := by decide +kernel
theorem dX3_addNote_83 : decode cX3_addNote 83 = .ok (.aload_n 0, 1) := by decide +kernel
theorem dX3_addNote_84 : decode cX3_addNote 84 = .ok (.dup, 1) := by decide +kernel
theorem dX3_addNote_85 : decode cX3_addNote 85 = .ok (.getfield 61, 3) := by decide +kernel
theorem dX3_addNote_88 : decode cX3_addNote 88 = .ok (.iconst 1, 1) := by decide +kernel
theorem dX3_addNote_89 : decode cX3_addNote 89 = .ok (.iadd, 1) := by decide +kernel
theorem dX3_addNote_90 : decode cX3_addNote 90 = .ok (.putfield 61, 3) := by decide +kernel
theorem dX3_addNote_93 : decode cX3_addNote 93 = .ok (.aload_n 0, 1) := by decide +kernel
theorem dX3_addNote_94 : decode cX3_addNote 94 = .ok (.iconst 0, 1) := by decide +kernel
theorem dX3_addNote_95 : decode cX3_addNote 95 = .ok (.putfield 70, 3) := by decide +kernel
theorem dX3_addNote_98 : decode cX3_addNote 98 = .ok (.return_, 1) := by decide +kernel
theorem dX3_pass_0 : decode cX3_pass 0 = .ok (.aload_n 0, 1) := by decide +kernel
theorem dX3_pass_1 : decode cX3_pass 1 = .ok (.getfield 70, 3) := by decide +kernel
theorem dX3_pass_4 : decode cX3_pass 4 = .ok (.bipush 10, 2) := by decide +kernel
theorem dX3_pass_6 : decode cX3_pass 6 = .ok (.if_icmp .lt 39, 3) := by decide +kernel
theorem dX3_pass_9 : decode cX3_pass 9 = .ok (.aload_n 0, 1) := by decide +kernel
theorem dX3_pass_10 : decode cX3_pass 10 = .ok (.getfield 46, 3) := by decide +kernel
theorem dX3_pass_13 : decode cX3_pass 13 = .ok (.iconst 1, 1) := by decide +kernel
theorem dX3_pass_14 : decode cX3_pass 14 = .ok (.aload_n 0, 1) := by decide +kernel
theorem dX3_pass_15 : decode cX3_pass 15 = .ok (.getfield 46, 3) := by decide +kernel
theorem dX3_pass_18 : decode cX3_pass 18 = .ok (.iconst 0, 1) := by decide +kernel
theorem dX3_pass_19 : decode cX3_pass 19 = .ok (.bipush 9, 2) := by decide +kernel
theorem dX3_pass_21 : decode cX3_pass 21 = .ok (.invokestatic 73, 3) := by decide +kernel
theorem dX3_pass_24 : decode cX3_pass 24 = .ok (.aload_n 0, 1) := by decide +kernel
theorem dX3_pass_25 : decode cX3_pass 25 = .ok (.getfield 49, 3) := by decide +kernel
theorem dX3_pass_28 : decode cX3_pass 28 = .ok (.iconst 1, 1) := by decide +kernel
theorem dX3_pass_29 : decode cX3_pass 29 = .ok (.aload_n 0, 1) := by decide +kernel
theorem dX3_pass_30 : decode cX3_pass 30 = .ok (.getfield 49, 3) := by decide +kernel
theorem dX3_pass_33 : decode cX3_pass 33 = .ok (.iconst 0, 1) := by decide +kernel
theorem dX3_pass_34 : decode cX3_pass 34 = .ok (.bipush 9, 2) := by decide +kernel
theorem dX3_pass_36 : decode cX3_pass 36 = .ok (.invokestatic 73, 3) := by decide +kernel
theorem dX3_pass_39 : decode cX3_pass 39 = .ok (.aload_n 0, 1) := by decide +kernel
theorem dX3_pass_40 : decode cX3_pass 40 = .ok (.bipush 9, 2) := by decide +kernel
theorem dX3_pass_42 : decode cX3_pass 42 = .ok (.putfield 70, 3) := by decide +kernel
theorem dX3_pass_45 : decode cX3_pass 45 = .ok (.aload_n 0, 1) := by decide +kernel
theorem dX3_pass_46 : decode cX3_pass 46 = .ok (.getfield 46, 3) := by decide +kernel
theorem dX3_pass_49 : decode cX3_pass 49 = .ok (.aload_n 0, 1) := by decide +kernel
theorem dX3_pass_50 : decode cX3_pass 50 = .ok (.getfield 70, 3) := by decide +kernel
theorem dX3_pass_53 : decode cX3_pass 53 = .ok (.iload_n 1, 1) := by decide +kernel
theorem dX3_pass_54 : decode cX3_pass 54 = .ok (.iastore, 1) := by decide +kernel
theorem dX3_pass_55 : decode cX3_pass 55 = .ok (.aload_n 0, 1) := by decide +kernel
theorem dX3_pass_56 : decode cX3_pass 56 = .ok (.getfield 49, 3) := by decide +kernel
theorem dX3_pass_59 : decode cX3_pass 59 = .ok (.aload_n 0, 1) := by decide +kernel
theorem dX3_pass_60 : decode cX3_pass 60 = .ok (.getfield 70, 3) := by decide +kernel
theorem dX3_pass_63 : decode cX3_pass 63 = .ok (.aload_n 0, 1) := by decide +kernel
theorem dX3_pass_64 : decode cX3_pass 64 = .ok (.getfield 31, 3) := by decide +kernel
theorem dX3_pass_67 : decode cX3_pass 67 = .ok (.iload_n 1, 1) := by decide +kernel
theorem dX3_pass_68 : decode cX3_pass 68 = .ok (.iaload, 1) := by decide +kernel
theorem dX3_pass_69 : decode cX3_pass 69 = .ok (.iastore, 1) := by decide +kernel
theorem dX3_pass_70 : decode cX3_pass 70 = .ok (.aload_n 0, 1) := by decide +kernel
theorem dX3_pass_71 : decode cX3_pass 71 = .ok (.dup, 1) := by decide +kernel
theorem dX3_pass_72 : decode cX3_pass 72 = .ok (.getfield 70, 3) := by decide +kernel
theorem dX3_pass_75 : decode cX3_pass 75 = .ok (.iconst 1, 1) := by decide +kernel
theorem dX3_pass_76 : decode cX3_pass 76 = .ok (.iadd, 1) := by decide +kernel
theorem dX3_pass_77 : decode cX3_pass 77 = .ok (.putfield 70, 3) := by decide +kernel
theorem dX3_pass_80 : decode cX3_pass 80 = .ok (.aload_n 0, 1) := by decide +kernel
theorem dX3_pass_81 : decode cX3_pass 81 = .ok (.getfield 31, 3) := by decide +kernel
theorem dX3_pass_84 : decode cX3_pass 84 = .ok (.iload_n 1, 1) := by decide +kernel
theorem dX3_pass_85 : decode cX3_pass 85 = .ok (.iload_n 2, 1) := by decide +kernel
theorem dX3_pass_86 : decode cX3_pass 86 = .ok (.iastore, 1) := by decide +kernel
theorem dX3_pass_87 : decode cX3_pass 87 = .ok (.return_, 1) := by decide +kernel
theorem dX3_takeBack_0 : decode cX3_takeBack 0 = .ok (.aload_n 0, 1) := by decide +kernel
theorem dX3_takeBack_1 : decode cX3_takeBack 1 = .ok (.getfield 70, 3) := by decide +kernel
theorem dX3_takeBack_4 : decode cX3_takeBack 4 = .ok (.ifCond .gt 4, 3) := by decide +kernel
theorem dX3_takeBack_7 : decode cX3_takeBack 7 = .ok (.return_, 1) := by decide +kernel
theorem dX3_takeBack_8 : decode cX3_takeBack 8 = .ok (.aload_n 0, 1) := by decide +kernel
theorem dX3_takeBack_9 : decode cX3_takeBack 9 = .ok (.dup, 1) := by decide +kernel
theorem dX3_takeBack_10 : decode cX3_takeBack 10 = .ok (.getfield 70, 3) := by decide +kernel
theorem dX3_takeBack_13 : decode cX3_takeBack 13 = .ok (.iconst 1, 1) := by decide +kernel
theorem dX3_takeBack_14 : decode cX3_takeBack 14 = .ok (.isub, 1) := by decide +kernel
theorem dX3_takeBack_15 : decode cX3_takeBack 15 = .ok (.putfield 70, 3) := by decide +kernel
theorem dX3_takeBack_18 : decode cX3_takeBack 18 = .ok (.aload_n 0, 1) := by decide +kernel
theorem dX3_takeBack_19 : decode cX3_takeBack 19 = .ok (.getfield 31, 3) := by decide +kernel
theorem dX3_takeBack_22 : decode cX3_takeBack 22 = .ok (.aload_n 0, 1) := by decide +kernel
theorem dX3_takeBack_23 : decode cX3_takeBack 23 = .ok (.getfield 46, 3) := by decide +kernel
theorem dX3_takeBack_26 : decode cX3_takeBack 26 = .ok (.aload_n 0, 1) := by decide +kernel
theorem dX3_takeBack_27 : decode cX3_takeBack 27 = .ok (.getfield 70, 3) := by decide +kernel
theorem dX3_takeBack_30 : decode cX3_takeBack 30 = .ok (.iaload, 1) := by decide +kernel
theorem dX3_takeBack_31 : decode cX3_takeBack 31 = .ok (.aload_n 0, 1) := by decide +kernel
theorem dX3_takeBack_32 : decode cX3_takeBack 32 = .ok (.getfield 49, 3) := by decide +kernel
theorem dX3_takeBack_35 : decode cX3_takeBack 35 = .ok (.aload_n 0, 1) := by decide +kernel
theorem dX3_takeBack_36 : decode cX3_takeBack 36 = .ok (.getfield 70, 3) := by decide +kernel
theorem dX3_takeBack_39 : decode cX3_takeBack 39 = .ok (.iaload, 1) := by decide +kernel
theorem dX3_takeBack_40 : decode cX3_takeBack 40 = .ok (.iastore, 1) := by decide +kernel
theorem dX3_takeBack_41 : decode cX3_takeBack 41 = .ok (.return_, 1) := by decide +kernel
theorem dX3_isPlayed_0 : decode cX3_isPlayed 0 = .ok (.aload_n 0, 1) := by decide +kernel
theorem dX3_isPlayed_1 : decode cX3_isPlayed 1 = .ok (.getfield 31, 3) := by decide +kernel
theorem dX3_isPlayed_4 : decode cX3_isPlayed 4 = .ok (.iload_n 1, 1) := by decide +kernel
theorem dX3_isPlayed_5 : decode cX3_isPlayed 5 = .ok (.iaload, 1) := by decide +kernel
theorem dX3_isPlayed_6 : decode cX3_isPlayed 6 = .ok (.iconst (-1), 1) := by decide +kernel
theorem dX3_isPlayed_7 : decode cX3_isPlayed 7 = .ok (.if_icmp .eq 7, 3) := by decide +kernel
theorem dX3_isPlayed_10 : decode cX3_isPlayed 10 = .ok (.iconst 1, 1) := by decide +kernel
theorem dX3_isPlayed_11 : decode cX3_isPlayed 11 = .ok (.goto 4, 3) := by decide +kernel
theorem dX3_isPlayed_14 : decode cX3_isPlayed 14 = .ok (.iconst 0, 1) := by decide +kernel
theorem dX3_isPlayed_15 : decode cX3_isPlayed 15 = .ok (.ireturn, 1) := by decide +kernel
theorem dX3_playedCount_0 : decode cX3_playedCount 0 = .ok (.iconst 0, 1) := by decide +kernel
theorem dX3_playedCount_1 : decode cX3_playedCount 1 = .ok (.istore_n 1, 1) := by decide +kernel
theorem dX3_playedCount_2 : decode cX3_playedCount 2 = .ok (.iconst 0, 1) := by decide +kernel
theorem dX3_playedCount_3 : decode cX3_playedCount 3 = .ok (.istore_n 2, 1) := by decide +kernel
theorem dX3_playedCount_4 : decode cX3_playedCount 4 = .ok (.iload_n 2, 1) := by decide +kernel
theorem dX3_playedCount_5 : decode cX3_playedCount 5 = .ok (.aload_n 0, 1) := by decide +kernel
theorem dX3_playedCount_6 : decode cX3_playedCount 6 = .ok (.getfield 61, 3) := by decide +kernel
theorem dX3_playedCount_9 : decode cX3_playedCount 9 = .ok (.if_icmp .ge 20, 3) := by decide +kernel
theorem dX3_playedCount_12 : decode cX3_playedCount 12 = .ok (.aload_n 0, 1) := by decide +kernel
theorem dX3_playedCount_13 : decode cX3_playedCount 13 = .ok (.iload_n 2, 1) := by decide +kernel
theorem dX3_playedCount_14 : decode cX3_playedCount 14 = .ok (.invokevirtual 79, 3) := by decide +kernel
theorem dX3_playedCount_17 : decode cX3_playedCount 17 = .ok (.ifCond .eq 6, 3) := by decide +kernel
theorem dX3_playedCount_20 : decode cX3_playedCount 20 = .ok (.iinc 1 1, 3) := by decide +kernel
theorem dX3_playedCount_23 : decode cX3_playedCount 23 = .ok (.iinc 2 1, 3) := by decide +kernel
theorem dX3_playedCount_26 : decode cX3_playedCount 26 = .ok (.goto (-22), 3) := by decide +kernel
theorem dX3_playedCount_29 : decode cX3_playedCount 29 = .ok (.iload_n 1, 1) := by decide +kernel
theorem dX3_playedCount_30 : decode cX3_playedCount 30 = .ok (.ireturn, 1) := by decide +kernel
theorem dX3_notesOf_0 : decode cX3_notesOf 0 = .ok (.iconst 0, 1) := by decide +kernel
theorem dX3_notesOf_1 : decode cX3_notesOf 1 = .ok (.istore_n 2, 1) := by decide +kernel
theorem dX3_notesOf_2 : decode cX3_notesOf 2 = .ok (.iconst 0, 1) := by decide +kernel
theorem dX3_notesOf_3 : decode cX3_notesOf 3 = .ok (.istore_n 3, 1) := by decide +kernel
theorem dX3_notesOf_4 : decode cX3_notesOf 4 = .ok (.iload_n 3, 1) := by decide +kernel
theorem dX3_notesOf_5 : decode cX3_notesOf 5 = .ok (.aload_n 0, 1) := by decide +kernel
theorem dX3_notesOf_6 : decode cX3_notesOf 6 = .ok (.getfield 61, 3) := by decide +kernel
theorem dX3_notesOf_9 : decode cX3_notesOf 9 = .ok (.if_icmp .ge 25, 3) := by decide +kernel
theorem dX3_notesOf_12 : decode cX3_notesOf 12 = .ok (.aload_n 0, 1) := by decide +kernel
theorem dX3_notesOf_13 : decode cX3_notesOf 13 = .ok (.getfield 31, 3) := by decide +kernel
theorem dX3_notesOf_16 : decode cX3_notesOf 16 = .ok (.iload_n 3, 1) := by decide +kernel
theorem dX3_notesOf_17 : decode cX3_notesOf 17 = .ok (.iaload, 1) := by decide +kernel
theorem dX3_notesOf_18 : decode cX3_notesOf 18 = .ok (.iload_n 1, 1) := by decide +kernel
theorem dX3_notesOf_19 : decode cX3_notesOf 19 = .ok (.if_icmp .ne 9, 3) := by decide +kernel
theorem dX3_notesOf_22 : decode cX3_notesOf 22 = .ok (.iload_n 2, 1) := by decide +kernel
theorem dX3_notesOf_23 : decode cX3_notesOf 23 = .ok (.iconst 1, 1) := by decide +kernel
theorem dX3_notesOf_24 : decode cX3_notesOf 24 = .ok (.iload_n 3, 1) := by decide +kernel
theorem dX3_notesOf_25 : decode cX3_notesOf 25 = .ok (.ishl, 1) := by decide +kernel
theorem dX3_notesOf_26 : decode cX3_notesOf 26 = .ok (.ior, 1) := by decide +kernel
theorem dX3_notesOf_27 : decode cX3_notesOf 27 = .ok (.istore_n 2, 1) := by decide +kernel
theorem dX3_notesOf_28 : decode cX3_notesOf 28 = .ok (.iinc 3 1, 3) := by decide +kernel
theorem dX3_notesOf_31 : decode cX3_notesOf 31 = .ok (.goto (-27), 3) := by decide +kernel
theorem dX3_notesOf_34 : decode cX3_notesOf 34 = .ok (.iload_n 2, 1) := by decide +kernel
theorem dX3_notesOf_35 : decode cX3_notesOf 35 = .ok (.ireturn, 1) := by decide +kernel
theorem dX3_isStiff_0 : decode cX3_isStiff 0 = .ok (.aload_n 0, 1) := by decide +kernel
theorem dX3_isStiff_1 : decode cX3_isStiff 1 = .ok (.getfield 37, 3) := by decide +kernel
theorem dX3_isStiff_4 : decode cX3_isStiff 4 = .ok (.iload_n 1, 1) := by decide +kernel
theorem dX3_isStiff_5 : decode cX3_isStiff 5 = .ok (.iaload, 1) := by decide +kernel
theorem dX3_isStiff_6 : decode cX3_isStiff 6 = .ok (.iconst 3, 1) := by decide +kernel
theorem dX3_isStiff_7 : decode cX3_isStiff 7 = .ok (.if_icmp .eq 13, 3) := by decide +kernel
theorem dX3_isStiff_10 : decode cX3_isStiff 10 = .ok (.aload_n 0, 1) := by decide +kernel
theorem dX3_isStiff_11 : decode cX3_isStiff 11 = .ok (.getfield 37, 3) := by decide +kernel
theorem dX3_isStiff_14 : decode cX3_isStiff 14 = .ok (.iload_n 1, 1) := by decide +kernel
theorem dX3_isStiff_15 : decode cX3_isStiff 15 = .ok (.iaload, 1) := by decide +kernel
theorem dX3_isStiff_16 : decode cX3_isStiff 16 = .ok (.iconst 5, 1) := by decide +kernel
theorem dX3_isStiff_17 : decode cX3_isStiff 17 = .ok (.if_icmp .ne 7, 3) := by decide +kernel
theorem dX3_isStiff_20 : decode cX3_isStiff 20 = .ok (.iconst 1, 1) := by decide +kernel
theorem dX3_isStiff_21 : decode cX3_isStiff 21 = .ok (.goto 4, 3) := by decide +kernel
theorem dX3_isStiff_24 : decode cX3_isStiff 24 = .ok (.iconst 0, 1) := by decide +kernel
theorem dX3_isStiff_25 : decode cX3_isStiff 25 = .ok (.ireturn, 1) := by decide +kernel
theorem dX3_isQuick_0 : decode cX3_isQuick 0 = .ok (.aload_n 0, 1) := by decide +kernel
theorem dX3_isQuick_1 : decode cX3_isQuick 1 = .ok (.getfield 37, 3) := by decide +kernel
theorem dX3_isQuick_4 : decode cX3_isQuick 4 = .ok (.iload_n 1, 1) := by decide +kernel
theorem dX3_isQuick_5 : decode cX3_isQuick 5 = .ok (.iaload, 1) := by decide +kernel
theorem dX3_isQuick_6 : decode cX3_isQuick 6 = .ok (.iconst 1, 1) := by decide +kernel
theorem dX3_isQuick_7 : decode cX3_isQuick 7 = .ok (.if_icmp .eq 13, 3) := by decide +kernel
theorem dX3_isQuick_10 : decode cX3_isQuick 10 = .ok (.aload_n 0, 1) := by decide +kernel
theorem dX3_isQuick_11 : decode cX3_isQuick 11 = .ok (.getfield 37, 3) := by decide +kernel
theorem dX3_isQuick_14 : decode cX3_isQuick 14 = .ok (.iload_n 1, 1) := by decide +kernel
theorem dX3_isQuick_15 : decode cX3_isQuick 15 = .ok (.iaload, 1) := by decide +kernel
theorem dX3_isQuick_16 : decode cX3_isQuick 16 = .ok (.iconst 4, 1) := by decide +kernel
theorem dX3_isQuick_17 : decode cX3_isQuick 17 = .ok (.if_icmp .ne 7, 3) := by decide +kernel
theorem dX3_isQuick_20 : decode cX3_isQuick 20 = .ok (.iconst 1, 1) := by decide +kernel
theorem dX3_isQuick_21 : decode cX3_isQuick 21 = .ok (.goto 4, 3) := by decide +kernel
theorem dX3_isQuick_24 : decode cX3_isQuick 24 = .ok (.iconst 0, 1) := by decide +kernel
theorem dX3_isQuick_25 : decode cX3_isQuick 25 = .ok (.ireturn, 1) := by decide +kernel
theorem dX3_reaches_0 : decode cX3_reaches 0 = .ok (.aload_n 0, 1) := by decide +kernel
theorem dX3_reaches_1 : decode cX3_reaches 1 = .ok (.iload_n 1, 1) := by decide +kernel
theorem dX3_reaches_2 : decode cX3_reaches 2 = .ok (.invokevirtual 83, 3) := by decide +kernel
theorem dX3_reaches_5 : decode cX3_reaches 5 = .ok (.ifCond .eq 18, 3) := by decide +kernel
theorem dX3_reaches_8 : decode cX3_reaches 8 = .ok (.aload_n 0, 1) := by decide +kernel
theorem dX3_reaches_9 : decode cX3_reaches 9 = .ok (.getfield 40, 3) := by decide +kernel
theorem dX3_reaches_12 : decode cX3_reaches 12 = .ok (.iload_n 1, 1) := by decide +kernel
theorem dX3_reaches_13 : decode cX3_reaches 13 = .ok (.iaload, 1) := by decide +kernel
theorem dX3_reaches_14 : decode cX3_reaches 14 = .ok (.iconst 2, 1) := by decide +kernel
theorem dX3_reaches_15 : decode cX3_reaches 15 = .ok (.isub, 1) := by decide +kernel
theorem dX3_reaches_16 : decode cX3_reaches 16 = .ok (.iconst 0, 1) := by decide +kernel
theorem dX3_reaches_17 : decode cX3_reaches 17 = .ok (.invokestatic 86, 3) := by decide +kernel
theorem dX3_reaches_20 : decode cX3_reaches 20 = .ok (.goto 9, 3) := by decide +kernel
theorem dX3_reaches_23 : decode cX3_reaches 23 = .ok (.aload_n 0, 1) := by decide +kernel
theorem dX3_reaches_24 : decode cX3_reaches 24 = .ok (.getfield 40, 3) := by decide +kernel
theorem dX3_reaches_27 : decode cX3_reaches 27 = .ok (.iload_n 1, 1) := by decide +kernel
theorem dX3_reaches_28 : decode cX3_reaches 28 = .ok (.iaload, 1) := by decide +kernel
theorem dX3_reaches_29 : decode cX3_reaches 29 = .ok (.ireturn, 1) := by decide +kernel
theorem dX3_moves_0 : decode cX3_moves 0 = .ok (.aload_n 0, 1) := by decide +kernel
theorem dX3_moves_1 : decode cX3_moves 1 = .ok (.iload_n 1, 1) := by decide +kernel
theorem dX3_moves_2 : decode cX3_moves 2 = .ok (.invokevirtual 92, 3) := by decide +kernel
theorem dX3_moves_5 : decode cX3_moves 5 = .ok (.ifCond .eq 12, 3) := by decide +kernel
theorem dX3_moves_8 : decode cX3_moves 8 = .ok (.iconst 2, 1) := by decide +kernel
theorem dX3_moves_9 : decode cX3_moves 9 = .ok (.aload_n 0, 1) := by decide +kernel
theorem dX3_moves_10 : decode cX3_moves 10 = .ok (.getfield 43, 3) := by decide +kernel
theorem dX3_moves_13 : decode cX3_moves 13 = .ok (.iload_n 1, 1) := by decide +kernel
theorem dX3_moves_14 : decode cX3_moves 14 = .ok (.iaload, 1) := by decide +kernel
theorem dX3_moves_15 : decode cX3_moves 15 = .ok (.imul, 1) := by decide +kernel
theorem dX3_moves_16 : decode cX3_moves 16 = .ok (.ireturn, 1) := by decide +kernel
theorem dX3_moves_17 : decode cX3_moves 17 = .ok (.aload_n 0, 1) := by decide +kernel
theorem dX3_moves_18 : decode cX3_moves 18 = .ok (.iload_n 1, 1) := by decide +kernel
theorem dX3_moves_19 : decode cX3_moves 19 = .ok (.invokevirtual 83, 3) := by decide +kernel
theorem dX3_moves_22 : decode cX3_moves 22 = .ok (.ifCond .eq 18, 3) := by decide +kernel
theorem dX3_moves_25 : decode cX3_moves 25 = .ok (.aload_n 0, 1) := by decide +kernel
theorem dX3_moves_26 : decode cX3_moves 26 = .ok (.getfield 43, 3) := by decide +kernel
theorem dX3_moves_29 : decode cX3_moves 29 = .ok (.iload_n 1, 1) := by decide +kernel
theorem dX3_moves_30 : decode cX3_moves 30 = .ok (.iaload, 1) := by decide +kernel
theorem dX3_moves_31 : decode cX3_moves 31 = .ok (.iconst 2, 1) := by decide +kernel
theorem dX3_moves_32 : decode cX3_moves 32 = .ok (.idiv, 1) := by decide +kernel
theorem dX3_moves_33 : decode cX3_moves 33 = .ok (.iconst 1, 1) := by decide +kernel
theorem dX3_moves_34 : decode cX3_moves 34 = .ok (.invokestatic 86, 3) := by decide +kernel
theorem dX3_moves_37 : decode cX3_moves 37 = .ok (.goto 9, 3) := by decide +kernel
theorem dX3_moves_40 : decode cX3_moves 40 = .ok (.aload_n 0, 1) := by decide +kernel
theorem dX3_moves_41 : decode cX3_moves 41 = .ok (.getfield 43, 3) := by decide +kernel
theorem dX3_moves_44 : decode cX3_moves 44 = .ok (.iload_n 1, 1) := by decide +kernel
theorem dX3_moves_45 : decode cX3_moves 45 = .ok (.iaload, 1) := by decide +kernel
theorem dX3_moves_46 : decode cX3_moves 46 = .ok (.ireturn, 1) := by decide +kernel
theorem dX3_keepsOff_0 : decode cX3_keepsOff 0 = .ok (.aload_n 0, 1) := by decide +kernel
theorem dX3_keepsOff_1 : decode cX3_keepsOff 1 = .ok (.getfield 37, 3) := by decide +kernel
theorem dX3_keepsOff_4 : decode cX3_keepsOff 4 = .ok (.iload_n 1, 1) := by decide +kernel
theorem dX3_keepsOff_5 : decode cX3_keepsOff 5 = .ok (.iaload, 1) := by decide +kernel
theorem dX3_keepsOff_6 : decode cX3_keepsOff 6 = .ok (.tableswitch 51 2 5 #[30, 51, 37, 44], 30) := by decide +kernel
theorem dX3_keepsOff_36 : decode cX3_keepsOff 36 = .ok (.aload_n 0, 1) := by decide +kernel
theorem dX3_keepsOff_37 : decode cX3_keepsOff 37 = .ok (.getfield 9, 3) := by decide +kernel
theorem dX3_keepsOff_40 : decode cX3_keepsOff 40 = .ok (.iconst 1, 1) := by decide +kernel
theorem dX3_keepsOff_41 : decode cX3_keepsOff 41 = .ok (.iadd, 1) := by decide +kernel
theorem dX3_keepsOff_42 : decode cX3_keepsOff 42 = .ok (.ireturn, 1) := by decide +kernel
theorem dX3_keepsOff_43 : decode cX3_keepsOff 43 = .ok (.aload_n 0, 1) := by decide +kernel
theorem dX3_keepsOff_44 : decode cX3_keepsOff 44 = .ok (.getfield 9, 3) := by decide +kernel
theorem dX3_keepsOff_47 : decode cX3_keepsOff 47 = .ok (.iconst 2, 1) := by decide +kernel
theorem dX3_keepsOff_48 : decode cX3_keepsOff 48 = .ok (.idiv, 1) := by decide +kernel
theorem dX3_keepsOff_49 : decode cX3_keepsOff 49 = .ok (.ireturn, 1) := by decide +kernel
theorem dX3_keepsOff_50 : decode cX3_keepsOff 50 = .ok (.iconst 2, 1) := by decide +kernel
theorem dX3_keepsOff_51 : decode cX3_keepsOff 51 = .ok (.aload_n 0, 1) := by decide +kernel
theorem dX3_keepsOff_52 : decode cX3_keepsOff 52 = .ok (.getfield 9, 3) := by decide +kernel
theorem dX3_keepsOff_55 : decode cX3_keepsOff 55 = .ok (.imul, 1) := by decide +kernel
theorem dX3_keepsOff_56 : decode cX3_keepsOff 56 = .ok (.ireturn, 1) := by decide +kernel
theorem dX3_keepsOff_57 : decode cX3_keepsOff 57 = .ok (.aload_n 0, 1) := by decide +kernel
theorem dX3_keepsOff_58 : decode cX3_keepsOff 58 = .ok (.getfield 9, 3) := by decide +kernel
theorem dX3_keepsOff_61 : decode cX3_keepsOff 61 = .ok (.ireturn, 1) := by decide +kernel
theorem dX3_sortOf_0 : decode cX3_sortOf 0 = .ok (.aload_n 0, 1) := by decide +kernel
theorem dX3_sortOf_1 : decode cX3_sortOf 1 = .ok (.iload_n 1, 1) := by decide +kernel
theorem dX3_sortOf_2 : decode cX3_sortOf 2 = .ok (.aload_n 0, 1) := by decide +kernel
theorem dX3_sortOf_3 : decode cX3_sortOf 3 = .ok (.getfield 31, 3) := by decide +kernel
theorem dX3_sortOf_6 : decode cX3_sortOf 6 = .ok (.iload_n 1, 1) := by decide +kernel
theorem dX3_sortOf_7 : decode cX3_sortOf 7 = .ok (.iaload, 1) := by decide +kernel
theorem dX3_sortOf_8 : decode cX3_sortOf 8 = .ok (.iload_n 2, 1) := by decide +kernel
theorem dX3_sortOf_9 : decode cX3_sortOf 9 = .ok (.aload_n 0, 1) := by decide +kernel
theorem dX3_sortOf_10 : decode cX3_sortOf 10 = .ok (.getfield 31, 3) := by decide +kernel
theorem dX3_sortOf_13 : decode cX3_sortOf 13 = .ok (.iload_n 2, 1) := by decide +kernel
theorem dX3_sortOf_14 : decode cX3_sortOf 14 = .ok (.iaload, 1) := by decide +kernel
theorem dX3_sortOf_15 : decode cX3_sortOf 15 = .ok (.invokevirtual 95, 3) := by decide +kernel
theorem dX3_sortOf_18 : decode cX3_sortOf 18 = .ok (.ireturn, 1) := by decide +kernel
theorem dX3_sortIf_0 : decode cX3_sortIf 0 = .ok (.iload_n 2, 1) := by decide +kernel
theorem dX3_sortIf_1 : decode cX3_sortIf 1 = .ok (.iconst (-1), 1) := by decide +kernel
theorem dX3_sortIf_2 : decode cX3_sortIf 2 = .ok (.if_icmp .eq 9, 3) := by decide +kernel
theorem dX3_sortIf_5 : decode cX3_sortIf 5 = .ok (.iload 4, 2) := by decide +kernel
theorem dX3_sortIf_7 : decode cX3_sortIf 7 = .ok (.iconst (-1), 1) := by decide +kernel
theorem dX3_sortIf_8 : decode cX3_sortIf 8 = .ok (.if_icmp .ne 5, 3) := by decide +kernel
theorem dX3_sortIf_11 : decode cX3_sortIf 11 = .ok (.iconst (-1), 1) := by decide +kernel
theorem dX3_sortIf_12 : decode cX3_sortIf 12 = .ok (.ireturn, 1) := by decide +kernel
theorem dX3_sortIf_13 : decode cX3_sortIf 13 = .ok (.aload_n 0, 1) := by decide +kernel
theorem dX3_sortIf_14 : decode cX3_sortIf 14 = .ok (.getfield 15, 3) := by decide +kernel
theorem dX3_sortIf_17 : decode cX3_sortIf 17 = .ok (.iload_n 1, 1) := by decide +kernel
theorem dX3_sortIf_18 : decode cX3_sortIf 18 = .ok (.iaload, 1) := by decide +kernel
theorem dX3_sortIf_19 : decode cX3_sortIf 19 = .ok (.aload_n 0, 1) := by decide +kernel
theorem dX3_sortIf_20 : decode cX3_sortIf 20 = .ok (.getfield 15, 3) := by decide +kernel
theorem dX3_sortIf_23 : decode cX3_sortIf 23 = .ok (.iload_n 3, 1) := by decide +kernel
theorem dX3_sortIf_24 : decode cX3_sortIf 24 = .ok (.iaload, 1) := by decide +kernel
theorem dX3_sortIf_25 : decode cX3_sortIf 25 = .ok (.isub, 1) := by decide +kernel
theorem dX3_sortIf_26 : decode cX3_sortIf 26 = .ok (.invokestatic 99, 3) := by decide +kernel
theorem dX3_sortIf_29 : decode cX3_sortIf 29 = .ok (.istore 5, 2) := by decide +kernel
theorem dX3_sortIf_31 : decode cX3_sortIf 31 = .ok (.aload_n 0, 1) := by decide +kernel
theorem dX3_sortIf_32 : decode cX3_sortIf 32 = .ok (.getfield 19, 3) := by decide +kernel
theorem dX3_sortIf_35 : decode cX3_sortIf 35 = .ok (.iload_n 1, 1) := by decide +kernel
theorem dX3_sortIf_36 : decode cX3_sortIf 36 = .ok (.iaload, 1) := by decide +kernel
theorem dX3_sortIf_37 : decode cX3_sortIf 37 = .ok (.aload_n 0, 1) := by decide +kernel
theorem dX3_sortIf_38 : decode cX3_sortIf 38 = .ok (.getfield 19, 3) := by decide +kernel
theorem dX3_sortIf_41 : decode cX3_sortIf 41 = .ok (.iload_n 3, 1) := by decide +kernel
theorem dX3_sortIf_42 : decode cX3_sortIf 42 = .ok (.iaload, 1) := by decide +kernel
theorem dX3_sortIf_43 : decode cX3_sortIf 43 = .ok (.isub, 1) := by decide +kernel
theorem dX3_sortIf_44 : decode cX3_sortIf 44 = .ok (.aload_n 0, 1) := by decide +kernel
theorem dX3_sortIf_45 : decode cX3_sortIf 45 = .ok (.getfield 22, 3) := by decide +kernel
theorem dX3_sortIf_48 : decode cX3_sortIf 48 = .ok (.iload_n 3, 1) := by decide +kernel
theorem dX3_sortIf_49 : decode cX3_sortIf 49 = .ok (.iaload, 1) := by decide +kernel
theorem dX3_sortIf_50 : decode cX3_sortIf 50 = .ok (.isub, 1) := by decide +kernel
theorem dX3_sortIf_51 : decode cX3_sortIf 51 = .ok (.aload_n 0, 1) := by decide +kernel
theorem dX3_sortIf_52 : decode cX3_sortIf 52 = .ok (.getfield 19, 3) := by decide +kernel
theorem dX3_sortIf_55 : decode cX3_sortIf 55 = .ok (.iload_n 3, 1) := by decide +kernel
theorem dX3_sortIf_56 : decode cX3_sortIf 56 = .ok (.iaload, 1) := by decide +kernel
theorem dX3_sortIf_57 : decode cX3_sortIf 57 = .ok (.aload_n 0, 1) := by decide +kernel
theorem dX3_sortIf_58 : decode cX3_sortIf 58 = .ok (.getfield 19, 3) := by decide +kernel
theorem dX3_sortIf_61 : decode cX3_sortIf 61 = .ok (.iload_n 1, 1) := by decide +kernel
theorem dX3_sortIf_62 : decode cX3_sortIf 62 = .ok (.iaload, 1) := by decide +kernel
theorem dX3_sortIf_63 : decode cX3_sortIf 63 = .ok (.isub, 1) := by decide +kernel
theorem dX3_sortIf_64 : decode cX3_sortIf 64 = .ok (.aload_n 0, 1) := by decide +kernel
theorem dX3_sortIf_65 : decode cX3_sortIf 65 = .ok (.getfield 22, 3) := by decide +kernel
theorem dX3_sortIf_68 : decode cX3_sortIf 68 = .ok (.iload_n 1, 1) := by decide +kernel
theorem dX3_sortIf_69 : decode cX3_sortIf 69 = .ok (.iaload, 1) := by decide +kernel
theorem dX3_sortIf_70 : decode cX3_sortIf 70 = .ok (.isub, 1) := by decide +kernel
theorem dX3_sortIf_71 : decode cX3_sortIf 71 = .ok (.invokestatic 86, 3) := by decide +kernel
theorem dX3_sortIf_74 : decode cX3_sortIf 74 = .ok (.istore 6, 2) := by decide +kernel
theorem dX3_sortIf_76 : decode cX3_sortIf 76 = .ok (.iload 6, 2) := by decide +kernel
theorem dX3_sortIf_78 : decode cX3_sortIf 78 = .ok (.ifCond .lt 28, 3) := by decide +kernel
theorem dX3_sortIf_81 : decode cX3_sortIf 81 = .ok (.iload_n 2, 1) := by decide +kernel
theorem dX3_sortIf_82 : decode cX3_sortIf 82 = .ok (.iload 4, 2) := by decide +kernel
theorem dX3_sortIf_84 : decode cX3_sortIf 84 = .ok (.if_icmp .ne 20, 3) := by decide +kernel
theorem dX3_sortIf_87 : decode cX3_sortIf 87 = .ok (.iload 5, 2) := by decide +kernel
theorem dX3_sortIf_89 : decode cX3_sortIf 89 = .ok (.aload_n 0, 1) := by decide +kernel
theorem dX3_sortIf_90 : decode cX3_sortIf 90 = .ok (.iload_n 2, 1) := by decide +kernel
theorem dX3_sortIf_91 : decode cX3_sortIf 91 = .ok (.invokevirtual 103, 3) := by decide +kernel
theorem dX3_sortIf_94 : decode cX3_sortIf 94 = .ok (.iload 6, 2) := by decide +kernel
theorem dX3_sortIf_96 : decode cX3_sortIf 96 = .ok (.imul, 1) := by decide +kernel
theorem dX3_sortIf_97 : decode cX3_sortIf 97 = .ok (.if_icmp .le 7, 3) := by decide +kernel
theorem dX3_sortIf_100 : decode cX3_sortIf 100 = .ok (.iconst 5, 1) := by decide +kernel
theorem dX3_sortIf_101 : decode cX3_sortIf 101 = .ok (.goto 4, 3) := by decide +kernel
theorem dX3_sortIf_104 : decode cX3_sortIf 104 = .ok (.iconst (-1), 1) := by decide +kernel
theorem dX3_sortIf_105 : decode cX3_sortIf 105 = .ok (.ireturn, 1) := by decide +kernel
theorem dX3_sortIf_106 : decode cX3_sortIf 106 = .ok (.iload 5, 2) := by decide +kernel
theorem dX3_sortIf_108 : decode cX3_sortIf 108 = .ok (.ifCond .ne 24, 3) := by decide +kernel
theorem dX3_sortIf_111 : decode cX3_sortIf 111 = .ok (.aload_n 0, 1) := by decide +kernel
theorem dX3_sortIf_112 : decode cX3_sortIf 112 = .ok (.getfield 19, 3) := by decide +kernel
theorem dX3_sortIf_115 : decode cX3_sortIf 115 = .ok (.iload_n 1, 1) := by decide +kernel
theorem dX3_sortIf_116 : decode cX3_sortIf 116 = .ok (.iaload, 1) := by decide +kernel
theorem dX3_sortIf_117 : decode cX3_sortIf 117 = .ok (.aload_n 0, 1) := by decide +kernel
theorem dX3_sortIf_118 : decode cX3_sortIf 118 = .ok (.getfield 19, 3) := by decide +kernel
theorem dX3_sortIf_121 : decode cX3_sortIf 121 = .ok (.iload_n 3, 1) := by decide +kernel
theorem dX3_sortIf_122 : decode cX3_sortIf 122 = .ok (.iaload, 1) := by decide +kernel
theorem dX3_sortIf_123 : decode cX3_sortIf 123 = .ok (.if_icmp .ne 7, 3) := by decide +kernel
theorem dX3_sortIf_126 : decode cX3_sortIf 126 = .ok (.iconst 0, 1) := by decide +kernel
theorem dX3_sortIf_127 : decode cX3_sortIf 127 = .ok (.goto 4, 3) := by decide +kernel
theorem dX3_sortIf_130 : decode cX3_sortIf 130 = .ok (.iconst 1, 1) := by decide +kernel
theorem dX3_sortIf_131 : decode cX3_sortIf 131 = .ok (.ireturn, 1) := by decide +kernel
theorem dX3_sortIf_132 : decode cX3_sortIf 132 = .ok (.iload_n 2, 1) := by decide +kernel
theorem dX3_sortIf_133 : decode cX3_sortIf 133 = .ok (.iload 4, 2) := by decide +kernel
theorem dX3_sortIf_135 : decode cX3_sortIf 135 = .ok (.if_icmp .ne 19, 3) := by decide +kernel
theorem dX3_sortIf_138 : decode cX3_sortIf 138 = .ok (.iload 5, 2) := by decide +kernel
theorem dX3_sortIf_140 : decode cX3_sortIf 140 = .ok (.aload_n 0, 1) := by decide +kernel
theorem dX3_sortIf_141 : decode cX3_sortIf 141 = .ok (.iload_n 2, 1) := by decide +kernel
theorem dX3_sortIf_142 : decode cX3_sortIf 142 = .ok (.invokevirtual 106, 3) := by decide +kernel
theorem dX3_sortIf_145 : decode cX3_sortIf 145 = .ok (.if_icmp .le 7, 3) := by decide +kernel
theorem dX3_sortIf_148 : decode cX3_sortIf 148 = .ok (.iconst 2, 1) := by decide +kernel
theorem dX3_sortIf_149 : decode cX3_sortIf 149 = .ok (.goto 4, 3) := by decide +kernel
theorem dX3_sortIf_152 : decode cX3_sortIf 152 = .ok (.iconst (-1), 1) := by decide +kernel
theorem dX3_sortIf_153 : decode cX3_sortIf 153 = .ok (.ireturn, 1) := by decide +kernel
theorem dX3_sortIf_154 : decode cX3_sortIf 154 = .ok (.iload_n 2, 1) := by decide +kernel
theorem dX3_sortIf_155 : decode cX3_sortIf 155 = .ok (.iconst 2, 1) := by decide +kernel
theorem dX3_sortIf_156 : decode cX3_sortIf 156 = .ok (.idiv, 1) := by decide +kernel
theorem dX3_sortIf_157 : decode cX3_sortIf 157 = .ok (.iload 4, 2) := by decide +kernel
theorem dX3_sortIf_159 : decode cX3_sortIf 159 = .ok (.iconst 2, 1) := by decide +kernel
theorem dX3_sortIf_160 : decode cX3_sortIf 160 = .ok (.idiv, 1) := by decide +kernel
theorem dX3_sortIf_161 : decode cX3_sortIf 161 = .ok (.if_icmp .ne 5, 3) := by decide +kernel
theorem dX3_sortIf_164 : decode cX3_sortIf 164 = .ok (.iconst (-1), 1) := by decide +kernel
theorem dX3_sortIf_165 : decode cX3_sortIf 165 = .ok (.ireturn, 1) := by decide +kernel
theorem dX3_sortIf_166 : decode cX3_sortIf 166 = .ok (.iload 5, 2) := by decide +kernel
theorem dX3_sortIf_168 : decode cX3_sortIf 168 = .ok (.aload_n 0, 1) := by decide +kernel
theorem dX3_sortIf_169 : decode cX3_sortIf 169 = .ok (.iload_n 2, 1) := by decide +kernel
theorem dX3_sortIf_170 : decode cX3_sortIf 170 = .ok (.invokevirtual 109, 3) := by decide +kernel
theorem dX3_sortIf_173 : decode cX3_sortIf 173 = .ok (.aload_n 0, 1) := by decide +kernel
theorem dX3_sortIf_174 : decode cX3_sortIf 174 = .ok (.iload 4, 2) := by decide +kernel
theorem dX3_sortIf_176 : decode cX3_sortIf 176 = .ok (.invokevirtual 109, 3) := by decide +kernel
theorem dX3_sortIf_179 : decode cX3_sortIf 179 = .ok (.invokestatic 86, 3) := by decide +kernel
theorem dX3_sortIf_182 : decode cX3_sortIf 182 = .ok (.if_icmp .ge 5, 3) := by decide +kernel
theorem dX3_sortIf_185 : decode cX3_sortIf 185 = .ok (.iconst 3, 1) := by decide +kernel
theorem dX3_sortIf_186 : decode cX3_sortIf 186 = .ok (.ireturn, 1) := by decide +kernel
theorem dX3_sortIf_187 : decode cX3_sortIf 187 = .ok (.iload_n 2, 1) := by decide +kernel
theorem dX3_sortIf_188 : decode cX3_sortIf 188 = .ok (.iload 4, 2) := by decide +kernel
theorem dX3_sortIf_190 : decode cX3_sortIf 190 = .ok (.if_icmp .ge 12, 3) := by decide +kernel
theorem dX3_sortIf_193 : decode cX3_sortIf 193 = .ok (.aload_n 0, 1) := by decide +kernel
theorem dX3_sortIf_194 : decode cX3_sortIf 194 = .ok (.getfield 15, 3) := by decide +kernel
theorem dX3_sortIf_197 : decode cX3_sortIf 197 = .ok (.iload_n 1, 1) := by decide +kernel
theorem dX3_sortIf_198 : decode cX3_sortIf 198 = .ok (.iaload, 1) := by decide +kernel
theorem dX3_sortIf_199 : decode cX3_sortIf 199 = .ok (.goto 9, 3) := by decide +kernel
theorem dX3_sortIf_202 : decode cX3_sortIf 202 = .ok (.aload_n 0, 1) := by decide +kernel
theorem dX3_sortIf_203 : decode cX3_sortIf 203 = .ok (.getfield 15, 3) := by decide +kernel
theorem dX3_sortIf_206 : decode cX3_sortIf 206 = .ok (.iload_n 3, 1) := by decide +kernel
theorem dX3_sortIf_207 : decode cX3_sortIf 207 = .ok (.iaload, 1) := by decide +kernel
theorem dX3_sortIf_208 : decode cX3_sortIf 208 = .ok (.istore 7, 2) := by decide +kernel
theorem dX3_sortIf_210 : decode cX3_sortIf 210 = .ok (.iload_n 2, 1) := by decide +kernel
theorem dX3_sortIf_211 : decode cX3_sortIf 211 = .ok (.iload 4, 2) := by decide +kernel
theorem dX3_sortIf_213 : decode cX3_sortIf 213 = .ok (.if_icmp .ge 12, 3) := by decide +kernel
theorem dX3_sortIf_216 : decode cX3_sortIf 216 = .ok (.aload_n 0, 1) := by decide +kernel
theorem dX3_sortIf_217 : decode cX3_sortIf 217 = .ok (.getfield 15, 3) := by decide +kernel
theorem dX3_sortIf_220 : decode cX3_sortIf 220 = .ok (.iload_n 3, 1) := by decide +kernel
theorem dX3_sortIf_221 : decode cX3_sortIf 221 = .ok (.iaload, 1) := by decide +kernel
theorem dX3_sortIf_222 : decode cX3_sortIf 222 = .ok (.goto 9, 3) := by decide +kernel
theorem dX3_sortIf_225 : decode cX3_sortIf 225 = .ok (.aload_n 0, 1) := by decide +kernel
theorem dX3_sortIf_226 : decode cX3_sortIf 226 = .ok (.getfield 15, 3) := by decide +kernel
theorem dX3_sortIf_229 : decode cX3_sortIf 229 = .ok (.iload_n 1, 1) := by decide +kernel
theorem dX3_sortIf_230 : decode cX3_sortIf 230 = .ok (.iaload, 1) := by decide +kernel
theorem dX3_sortIf_231 : decode cX3_sortIf 231 = .ok (.istore 8, 2) := by decide +kernel
theorem dX3_sortIf_233 : decode cX3_sortIf 233 = .ok (.iload 7, 2) := by decide +kernel
theorem dX3_sortIf_235 : decode cX3_sortIf 235 = .ok (.iload 8, 2) := by decide +kernel
theorem dX3_sortIf_237 : decode cX3_sortIf 237 = .ok (.if_icmp .ge 7, 3) := by decide +kernel
theorem dX3_sortIf_240 : decode cX3_sortIf 240 = .ok (.iconst 4, 1) := by decide +kernel
theorem dX3_sortIf_241 : decode cX3_sortIf 241 = .ok (.goto 4, 3) := by decide +kernel
theorem dX3_sortIf_244 : decode cX3_sortIf 244 = .ok (.iconst (-1), 1) := by decide +kernel
theorem dX3_sortIf_245 : decode cX3_sortIf 245 = .ok (.ireturn, 1) := by decide +kernel
theorem dX3_clashCount_0 : decode cX3_clashCount 0 = .ok (.iconst 0, 1) := by decide +kernel
theorem dX3_clashCount_1 : decode cX3_clashCount 1 = .ok (.istore_n 1, 1) := by decide +kernel
theorem dX3_clashCount_2 : decode cX3_clashCount 2 = .ok (.iconst 0, 1) := by decide +kernel
theorem dX3_clashCount_3 : decode cX3_clashCount 3 = .ok (.istore_n 2, 1) := by decide +kernel
theorem dX3_clashCount_4 : decode cX3_clashCount 4 = .ok (.iload_n 2, 1) := by decide +kernel
theorem dX3_clashCount_5 : decode cX3_clashCount 5 = .ok (.aload_n 0, 1) := by decide +kernel
theorem dX3_clashCount_6 : decode cX3_clashCount 6 = .ok (.getfield 61, 3) := by decide +kernel
theorem dX3_clashCount_9 : decode cX3_clashCount 9 = .ok (.if_icmp .ge 40, 3) := by decide +kernel
theorem dX3_clashCount_12 : decode cX3_clashCount 12 = .ok (.iload_n 2, 1) := by decide +kernel
theorem dX3_clashCount_13 : decode cX3_clashCount 13 = .ok (.iconst 1, 1) := by decide +kernel
theorem dX3_clashCount_14 : decode cX3_clashCount 14 = .ok (.iadd, 1) := by decide +kernel
theorem dX3_clashCount_15 : decode cX3_clashCount 15 = .ok (.istore_n 3, 1) := by decide +kernel
theorem dX3_clashCount_16 : decode cX3_clashCount 16 = .ok (.iload_n 3, 1) := by decide +kernel
theorem dX3_clashCount_17 : decode cX3_clashCount 17 = .ok (.aload_n 0, 1) := by decide +kernel
theorem dX3_clashCount_18 : decode cX3_clashCount 18 = .ok (.getfield 61, 3) := by decide +kernel
theorem dX3_clashCount_21 : decode cX3_clashCount 21 = .ok (.if_icmp .ge 22, 3) := by decide +kernel
theorem dX3_clashCount_24 : decode cX3_clashCount 24 = .ok (.aload_n 0, 1) := by decide +kernel
theorem dX3_clashCount_25 : decode cX3_clashCount 25 = .ok (.iload_n 2, 1) := by decide +kernel
theorem dX3_clashCount_26 : decode cX3_clashCount 26 = .ok (.iload_n 3, 1) := by decide +kernel
theorem dX3_clashCount_27 : decode cX3_clashCount 27 = .ok (.invokevirtual 112, 3) := by decide +kernel
theorem dX3_clashCount_30 : decode cX3_clashCount 30 = .ok (.iconst (-1), 1) := by decide +kernel
theorem dX3_clashCount_31 : decode cX3_clashCount 31 = .ok (.if_icmp .eq 6, 3) := by decide +kernel
theorem dX3_clashCount_34 : decode cX3_clashCount 34 = .ok (.iinc 1 1, 3) := by decide +kernel
theorem dX3_clashCount_37 : decode cX3_clashCount 37 = .ok (.iinc 3 1, 3) := by decide +kernel
theorem dX3_clashCount_40 : decode cX3_clashCount 40 = .ok (.goto (-24), 3) := by decide +kernel
theorem dX3_clashCount_43 : decode cX3_clashCount 43 = .ok (.iinc 2 1, 3) := by decide +kernel
theorem dX3_clashCount_46 : decode cX3_clashCount 46 = .ok (.goto (-42), 3) := by decide +kernel
theorem dX3_clashCount_49 : decode cX3_clashCount 49 = .ok (.iload_n 1, 1) := by decide +kernel
theorem dX3_clashCount_50 : decode cX3_clashCount 50 = .ok (.ireturn, 1) := by decide +kernel
theorem dX3_findPartners_0 : decode cX3_findPartners 0 = .ok (.aload_n 0, 1) := by decide +kernel
theorem dX3_findPartners_1 : decode cX3_findPartners 1 = .ok (.getfield 52, 3) := by decide +kernel
theorem dX3_findPartners_4 : decode cX3_findPartners 4 = .ok (.iconst 0, 1) := by decide +kernel
theorem dX3_findPartners_5 : decode cX3_findPartners 5 = .ok (.invokestatic 55, 3) := by decide +kernel
theorem dX3_findPartners_8 : decode cX3_findPartners 8 = .ok (.iconst 0, 1) := by decide +kernel
theorem dX3_findPartners_9 : decode cX3_findPartners 9 = .ok (.istore_n 1, 1) := by decide +kernel
theorem dX3_findPartners_10 : decode cX3_findPartners 10 = .ok (.iload_n 1, 1) := by decide +kernel
theorem dX3_findPartners_11 : decode cX3_findPartners 11 = .ok (.aload_n 0, 1) := by decide +kernel
theorem dX3_findPartners_12 : decode cX3_findPartners 12 = .ok (.getfield 61, 3) := by decide +kernel
theorem dX3_findPartners_15 : decode cX3_findPartners 15 = .ok (.if_icmp .ge 49, 3) := by decide +kernel
theorem dX3_findPartners_18 : decode cX3_findPartners 18 = .ok (.iload_n 1, 1) := by decide +kernel
theorem dX3_findPartners_19 : decode cX3_findPartners 19 = .ok (.iconst 1, 1) := by decide +kernel
theorem dX3_findPartners_20 : decode cX3_findPartners 20 = .ok (.iadd, 1) := by decide +kernel
theorem dX3_findPartners_21 : decode cX3_findPartners 21 = .ok (.istore_n 2, 1) := by decide +kernel
theorem dX3_findPartners_22 : decode cX3_findPartners 22 = .ok (.iload_n 2, 1) := by decide +kernel
theorem dX3_findPartners_23 : decode cX3_findPartners 23 = .ok (.aload_n 0, 1) := by decide +kernel
theorem dX3_findPartners_24 : decode cX3_findPartners 24 = .ok (.getfield 61, 3) := by decide +kernel
theorem dX3_findPartners_27 : decode cX3_findPartners 27 = .ok (.if_icmp .ge 31, 3) := by decide +kernel
theorem dX3_findPartners_30 : decode cX3_findPartners 30 = .ok (.aload_n 0, 1) := by decide +kernel
theorem dX3_findPartners_31 : decode cX3_findPartners 31 = .ok (.iload_n 1, 1) := by decide +kernel
theorem dX3_findPartners_32 : decode cX3_findPartners 32 = .ok (.iload_n 2, 1) := by decide +kernel
theorem dX3_findPartners_33 : decode cX3_findPartners 33 = .ok (.invokevirtual 112, 3) := by decide +kernel
theorem dX3_findPartners_36 : decode cX3_findPartners 36 = .ok (.iconst (-1), 1) := by decide +kernel
theorem dX3_findPartners_37 : decode cX3_findPartners 37 = .ok (.if_icmp .eq 15, 3) := by decide +kernel
theorem dX3_findPartners_40 : decode cX3_findPartners 40 = .ok (.aload_n 0, 1) := by decide +kernel
theorem dX3_findPartners_41 : decode cX3_findPartners 41 = .ok (.getfield 52, 3) := by decide +kernel
theorem dX3_findPartners_44 : decode cX3_findPartners 44 = .ok (.iload_n 1, 1) := by decide +kernel
theorem dX3_findPartners_45 : decode cX3_findPartners 45 = .ok (.dup2, 1) := by decide +kernel
theorem dX3_findPartners_46 : decode cX3_findPartners 46 = .ok (.iaload, 1) := by decide +kernel
theorem dX3_findPartners_47 : decode cX3_findPartners 47 = .ok (.iconst 1, 1) := by decide +kernel
theorem dX3_findPartners_48 : decode cX3_findPartners 48 = .ok (.iload_n 2, 1) := by decide +kernel
theorem dX3_findPartners_49 : decode cX3_findPartners 49 = .ok (.ishl, 1) := by decide +kernel
theorem dX3_findPartners_50 : decode cX3_findPartners 50 = .ok (.ior, 1) := by decide +kernel
theorem dX3_findPartners_51 : decode cX3_findPartners 51 = .ok (.iastore, 1) := by decide +kernel
theorem dX3_findPartners_52 : decode cX3_findPartners 52 = .ok (.iinc 2 1, 3) := by decide +kernel
theorem dX3_findPartners_55 : decode cX3_findPartners 55 = .ok (.goto (-33), 3) := by decide +kernel
theorem dX3_findPartners_58 : decode cX3_findPartners 58 = .ok (.iinc 1 1, 3) := by decide +kernel
theorem dX3_findPartners_61 : decode cX3_findPartners 61 = .ok (.goto (-51), 3) := by decide +kernel
theorem dX3_findPartners_64 : decode cX3_findPartners 64 = .ok (.return_, 1) := by decide +kernel
theorem dX3_isQuietWithout_0 : decode cX3_isQuietWithout 0 = .ok (.iconst 0, 1) := by decide +kernel
theorem dX3_isQuietWithout_1 : decode cX3_isQuietWithout 1 = .ok (.istore_n 2, 1) := by decide +kernel
theorem dX3_isQuietWithout_2 : decode cX3_isQuietWithout 2 = .ok (.iload_n 2, 1) := by decide +kernel
theorem dX3_isQuietWithout_3 : decode cX3_isQuietWithout 3 = .ok (.aload_n 0, 1) := by decide +kernel
theorem dX3_isQuietWithout_4 : decode cX3_isQuietWithout 4 = .ok (.getfield 61, 3) := by decide +kernel
theorem dX3_isQuietWithout_7 : decode cX3_isQuietWithout 7 = .ok (.if_icmp .ge 32, 3) := by decide +kernel
theorem dX3_isQuietWithout_10 : decode cX3_isQuietWithout 10 = .ok (.iload_n 1, 1) := by decide +kernel
theorem dX3_isQuietWithout_11 : decode cX3_isQuietWithout 11 = .ok (.iload_n 2, 1) := by decide +kernel
theorem dX3_isQuietWithout_12 : decode cX3_isQuietWithout 12 = .ok (.ishr, 1) := by decide +kernel
theorem dX3_isQuietWithout_13 : decode cX3_isQuietWithout 13 = .ok (.iconst 1, 1) := by decide +kernel
theorem dX3_isQuietWithout_14 : decode cX3_isQuietWithout 14 = .ok (.iand, 1) := by decide +kernel
theorem dX3_isQuietWithout_15 : decode cX3_isQuietWithout 15 = .ok (.ifCond .ne 18, 3) := by decide +kernel
theorem dX3_isQuietWithout_18 : decode cX3_isQuietWithout 18 = .ok (.aload_n 0, 1) := by decide +kernel
theorem dX3_isQuietWithout_19 : decode cX3_isQuietWithout 19 = .ok (.getfield 52, 3) := by decide +kernel
theorem dX3_isQuietWithout_22 : decode cX3_isQuietWithout 22 = .ok (.iload_n 2, 1) := by decide +kernel
theorem dX3_isQuietWithout_23 : decode cX3_isQuietWithout 23 = .ok (.iaload, 1) := by decide +kernel
theorem dX3_isQuietWithout_24 : decode cX3_isQuietWithout 24 = .ok (.iload_n 1, 1) := by decide +kernel
theorem dX3_isQuietWithout_25 : decode cX3_isQuietWithout 25 = .ok (.iconst (-1), 1) := by decide +kernel
theorem dX3_isQuietWithout_26 : decode cX3_isQuietWithout 26 = .ok (.ixor, 1) := by decide +kernel
theorem dX3_isQuietWithout_27 : decode cX3_isQuietWithout 27 = .ok (.iand, 1) := by decide +kernel
theorem dX3_isQuietWithout_28 : decode cX3_isQuietWithout 28 = .ok (.ifCond .eq 5, 3) := by decide +kernel
theorem dX3_isQuietWithout_31 : decode cX3_isQuietWithout 31 = .ok (.iconst 0, 1) := by decide +kernel
theorem dX3_isQuietWithout_32 : decode cX3_isQuietWithout 32 = .ok (.ireturn, 1) := by decide +kernel
theorem dX3_isQuietWithout_33 : decode cX3_isQuietWithout 33 = .ok (.iinc 2 1, 3) := by decide +kernel
theorem dX3_isQuietWithout_36 : decode cX3_isQuietWithout 36 = .ok (.goto (-34), 3) := by decide +kernel
theorem dX3_isQuietWithout_39 : decode cX3_isQuietWithout 39 = .ok (.iconst 1, 1) := by decide +kernel
theorem dX3_isQuietWithout_40 : decode cX3_isQuietWithout 40 = .ok (.ireturn, 1) := by decide +kernel
theorem dX3_sounds_0 : decode cX3_sounds 0 = .ok (.aload_n 0, 1) := by decide +kernel
theorem dX3_sounds_1 : decode cX3_sounds 1 = .ok (.iload_n 1, 1) := by decide +kernel
theorem dX3_sounds_2 : decode cX3_sounds 2 = .ok (.invokevirtual 79, 3) := by decide +kernel
theorem dX3_sounds_5 : decode cX3_sounds 5 = .ok (.ifCond .eq 34, 3) := by decide +kernel
theorem dX3_sounds_8 : decode cX3_sounds 8 = .ok (.iload_n 2, 1) := by decide +kernel
theorem dX3_sounds_9 : decode cX3_sounds 9 = .ok (.aload_n 0, 1) := by decide +kernel
theorem dX3_sounds_10 : decode cX3_sounds 10 = .ok (.getfield 19, 3) := by decide +kernel
theorem dX3_sounds_13 : decode cX3_sounds 13 = .ok (.iload_n 1, 1) := by decide +kernel
theorem dX3_sounds_14 : decode cX3_sounds 14 = .ok (.iaload, 1) := by decide +kernel
theorem dX3_sounds_15 : decode cX3_sounds 15 = .ok (.if_icmp .lt 24, 3) := by decide +kernel
theorem dX3_sounds_18 : decode cX3_sounds 18 = .ok (.iload_n 2, 1) := by decide +kernel
theorem dX3_sounds_19 : decode cX3_sounds 19 = .ok (.aload_n 0, 1) := by decide +kernel
theorem dX3_sounds_20 : decode cX3_sounds 20 = .ok (.getfield 19, 3) := by decide +kernel
theorem dX3_sounds_23 : decode cX3_sounds 23 = .ok (.iload_n 1, 1) := by decide +kernel
theorem dX3_sounds_24 : decode cX3_sounds 24 = .ok (.iaload, 1) := by decide +kernel
theorem dX3_sounds_25 : decode cX3_sounds 25 = .ok (.aload_n 0, 1) := by decide +kernel
theorem dX3_sounds_26 : decode cX3_sounds 26 = .ok (.getfield 22, 3) := by decide +kernel
theorem dX3_sounds_29 : decode cX3_sounds 29 = .ok (.iload_n 1, 1) := by decide +kernel
theorem dX3_sounds_30 : decode cX3_sounds 30 = .ok (.iaload, 1) := by decide +kernel
theorem dX3_sounds_31 : decode cX3_sounds 31 = .ok (.iadd, 1) := by decide +kernel
theorem dX3_sounds_32 : decode cX3_sounds 32 = .ok (.if_icmp .ge 7, 3) := by decide +kernel
theorem dX3_sounds_35 : decode cX3_sounds 35 = .ok (.iconst 1, 1) := by decide +kernel
theorem dX3_sounds_36 : decode cX3_sounds 36 = .ok (.goto 4, 3) := by decide +kernel
theorem dX3_sounds_39 : decode cX3_sounds 39 = .ok (.iconst 0, 1) := by decide +kernel
theorem dX3_sounds_40 : decode cX3_sounds 40 = .ok (.ireturn, 1) := by decide +kernel
theorem dX3_isFree_0 : decode cX3_isFree 0 = .ok (.iconst 0, 1) := by decide +kernel
theorem dX3_isFree_1 : decode cX3_isFree 1 = .ok (.istore_n 3, 1) := by decide +kernel
theorem dX3_isFree_2 : decode cX3_isFree 2 = .ok (.iload_n 3, 1) := by decide +kernel
theorem dX3_isFree_3 : decode cX3_isFree 3 = .ok (.aload_n 0, 1) := by decide +kernel
theorem dX3_isFree_4 : decode cX3_isFree 4 = .ok (.getfield 61, 3) := by decide +kernel
theorem dX3_isFree_7 : decode cX3_isFree 7 = .ok (.if_icmp .ge 30, 3) := by decide +kernel
theorem dX3_isFree_10 : decode cX3_isFree 10 = .ok (.aload_n 0, 1) := by decide +kernel
theorem dX3_isFree_11 : decode cX3_isFree 11 = .ok (.getfield 31, 3) := by decide +kernel
theorem dX3_isFree_14 : decode cX3_isFree 14 = .ok (.iload_n 3, 1) := by decide +kernel
theorem dX3_isFree_15 : decode cX3_isFree 15 = .ok (.iaload, 1) := by decide +kernel
theorem dX3_isFree_16 : decode cX3_isFree 16 = .ok (.iload_n 1, 1) := by decide +kernel
theorem dX3_isFree_17 : decode cX3_isFree 17 = .ok (.if_icmp .ne 14, 3) := by decide +kernel
theorem dX3_isFree_20 : decode cX3_isFree 20 = .ok (.aload_n 0, 1) := by decide +kernel
theorem dX3_isFree_21 : decode cX3_isFree 21 = .ok (.iload_n 3, 1) := by decide +kernel
theorem dX3_isFree_22 : decode cX3_isFree 22 = .ok (.iload_n 2, 1) := by decide +kernel
theorem dX3_isFree_23 : decode cX3_isFree 23 = .ok (.invokevirtual 115, 3) := by decide +kernel
theorem dX3_isFree_26 : decode cX3_isFree 26 = .ok (.ifCond .eq 5, 3) := by decide +kernel
theorem dX3_isFree_29 : decode cX3_isFree 29 = .ok (.iconst 0, 1) := by decide +kernel
theorem dX3_isFree_30 : decode cX3_isFree 30 = .ok (.ireturn, 1) := by decide +kernel
theorem dX3_isFree_31 : decode cX3_isFree 31 = .ok (.iinc 3 1, 3) := by decide +kernel
theorem dX3_isFree_34 : decode cX3_isFree 34 = .ok (.goto (-32), 3) := by decide +kernel
theorem dX3_isFree_37 : decode cX3_isFree 37 = .ok (.iconst 1, 1) := by decide +kernel
theorem dX3_isFree_38 : decode cX3_isFree 38 = .ok (.ireturn, 1) := by decide +kernel
theorem dX3_isCovered_0 : decode cX3_isCovered 0 = .ok (.iconst 0, 1) := by decide +kernel
theorem dX3_isCovered_1 : decode cX3_isCovered 1 = .ok (.istore_n 2, 1) := by decide +kernel
theorem dX3_isCovered_2 : decode cX3_isCovered 2 = .ok (.iconst 0, 1) := by decide +kernel
theorem dX3_isCovered_3 : decode cX3_isCovered 3 = .ok (.istore_n 3, 1) := by decide +kernel
theorem dX3_isCovered_4 : decode cX3_isCovered 4 = .ok (.iconst 0, 1) := by decide +kernel
theorem dX3_isCovered_5 : decode cX3_isCovered 5 = .ok (.istore 4, 2) := by decide +kernel
theorem dX3_isCovered_7 : decode cX3_isCovered 7 = .ok (.iload 4, 2) := by decide +kernel
theorem dX3_isCovered_9 : decode cX3_isCovered 9 = .ok (.aload_n 0, 1) := by decide +kernel
theorem dX3_isCovered_10 : decode cX3_isCovered 10 = .ok (.getfield 61, 3) := by decide +kernel
theorem dX3_isCovered_13 : decode cX3_isCovered 13 = .ok (.if_icmp .ge 68, 3) := by decide +kernel
theorem dX3_isCovered_16 : decode cX3_isCovered 16 = .ok (.aload_n 0, 1) := by decide +kernel
theorem dX3_isCovered_17 : decode cX3_isCovered 17 = .ok (.iload 4, 2) := by decide +kernel
theorem dX3_isCovered_19 : decode cX3_isCovered 19 = .ok (.iload_n 1, 1) := by decide +kernel
theorem dX3_isCovered_20 : decode cX3_isCovered 20 = .ok (.invokevirtual 115, 3) := by decide +kernel
theorem dX3_isCovered_23 : decode cX3_isCovered 23 = .ok (.ifCond .eq 52, 3) := by decide +kernel
theorem dX3_isCovered_26 : decode cX3_isCovered 26 = .ok (.iload_n 2, 1) := by decide +kernel
theorem dX3_isCovered_27 : decode cX3_isCovered 27 = .ok (.aload_n 0, 1) := by decide +kernel
theorem dX3_isCovered_28 : decode cX3_isCovered 28 = .ok (.getfield 25, 3) := by decide +kernel
theorem dX3_isCovered_31 : decode cX3_isCovered 31 = .ok (.iload 4, 2) := by decide +kernel
theorem dX3_isCovered_33 : decode cX3_isCovered 33 = .ok (.iaload, 1) := by decide +kernel
theorem dX3_isCovered_34 : decode cX3_isCovered 34 = .ok (.ifCond .ne 7, 3) := by decide +kernel
theorem dX3_isCovered_37 : decode cX3_isCovered 37 = .ok (.iconst 1, 1) := by decide +kernel
theorem dX3_isCovered_38 : decode cX3_isCovered 38 = .ok (.goto 4, 3) := by decide +kernel
theorem dX3_isCovered_41 : decode cX3_isCovered 41 = .ok (.iconst 0, 1) := by decide +kernel
theorem dX3_isCovered_42 : decode cX3_isCovered 42 = .ok (.ior, 1) := by decide +kernel
theorem dX3_isCovered_43 : decode cX3_isCovered 43 = .ok (.istore_n 2, 1) := by decide +kernel
theorem dX3_isCovered_44 : decode cX3_isCovered 44 = .ok (.iload_n 3, 1) := by decide +kernel
theorem dX3_isCovered_45 : decode cX3_isCovered 45 = .ok (.aload_n 0, 1) := by decide +kernel
theorem dX3_isCovered_46 : decode cX3_isCovered 46 = .ok (.getfield 25, 3) := by decide +kernel
theorem dX3_isCovered_49 : decode cX3_isCovered 49 = .ok (.iload 4, 2) := by decide +kernel
theorem dX3_isCovered_51 : decode cX3_isCovered 51 = .ok (.iaload, 1) := by decide +kernel
theorem dX3_isCovered_52 : decode cX3_isCovered 52 = .ok (.ifCond .ne 14, 3) := by decide +kernel
theorem dX3_isCovered_55 : decode cX3_isCovered 55 = .ok (.aload_n 0, 1) := by decide +kernel
theorem dX3_isCovered_56 : decode cX3_isCovered 56 = .ok (.getfield 28, 3) := by decide +kernel
theorem dX3_isCovered_59 : decode cX3_isCovered 59 = .ok (.iload 4, 2) := by decide +kernel
theorem dX3_isCovered_61 : decode cX3_isCovered 61 = .ok (.iaload, 1) := by decide +kernel
theorem dX3_isCovered_62 : decode cX3_isCovered 62 = .ok (.ineg, 1) := by decide +kernel
theorem dX3_isCovered_63 : decode cX3_isCovered 63 = .ok (.goto 10, 3) := by decide +kernel
theorem dX3_isCovered_66 : decode cX3_isCovered 66 = .ok (.aload_n 0, 1) := by decide +kernel
theorem dX3_isCovered_67 : decode cX3_isCovered 67 = .ok (.getfield 28, 3) := by decide +kernel
theorem dX3_isCovered_70 : decode cX3_isCovered 70 = .ok (.iload 4, 2) := by decide +kernel
theorem dX3_isCovered_72 : decode cX3_isCovered 72 = .ok (.iaload, 1) := by decide +kernel
theorem dX3_isCovered_73 : decode cX3_isCovered 73 = .ok (.iadd, 1) := by decide +kernel
theorem dX3_isCovered_74 : decode cX3_isCovered 74 = .ok (.istore_n 3, 1) := by decide +kernel
theorem dX3_isCovered_75 : decode cX3_isCovered 75 = .ok (.iinc 4 1, 3) := by decide +kernel
theorem dX3_isCovered_78 : decode cX3_isCovered 78 = .ok (.goto (-71), 3) := by decide +kernel
theorem dX3_isCovered_81 : decode cX3_isCovered 81 = .ok (.iload_n 2, 1) := by decide +kernel
theorem dX3_isCovered_82 : decode cX3_isCovered 82 = .ok (.ifCond .eq 11, 3) := by decide +kernel
theorem dX3_isCovered_85 : decode cX3_isCovered 85 = .ok (.iload_n 3, 1) := by decide +kernel
theorem dX3_isCovered_86 : decode cX3_isCovered 86 = .ok (.ifCond .le 7, 3) := by decide +kernel
theorem dX3_isCovered_89 : decode cX3_isCovered 89 = .ok (.iconst 1, 1) := by decide +kernel
theorem dX3_isCovered_90 : decode cX3_isCovered 90 = .ok (.goto 4, 3) := by decide +kernel
theorem dX3_isCovered_93 : decode cX3_isCovered 93 = .ok (.iconst 0, 1) := by decide +kernel
theorem dX3_isCovered_94 : decode cX3_isCovered 94 = .ok (.ireturn, 1) := by decide +kernel
theorem dX3_isExplainedBy_0 : decode cX3_isExplainedBy 0 = .ok (.iconst 0, 1) := by decide +kernel
theorem dX3_isExplainedBy_1 : decode cX3_isExplainedBy 1 = .ok (.istore_n 2, 1) := by decide +kernel
theorem dX3_isExplainedBy_2 : decode cX3_isExplainedBy 2 = .ok (.iconst (-1), 1) := by decide +kernel
theorem dX3_isExplainedBy_3 : decode cX3_isExplainedBy 3 = .ok (.istore_n 3, 1) := by decide +kernel
theorem dX3_isExplainedBy_4 : decode cX3_isExplainedBy 4 = .ok (.bipush 64, 2) := by decide +kernel
theorem dX3_isExplainedBy_6 : decode cX3_isExplainedBy 6 = .ok (.istore 4, 2) := by decide +kernel
theorem dX3_isExplainedBy_8 : decode cX3_isExplainedBy 8 = .ok (.iconst 0, 1) := by decide +kernel
theorem dX3_isExplainedBy_9 : decode cX3_isExplainedBy 9 = .ok (.istore 5, 2) := by decide +kernel
theorem dX3_isExplainedBy_11 : decode cX3_isExplainedBy 11 = .ok (.iload 5, 2) := by decide +kernel
theorem dX3_isExplainedBy_13 : decode cX3_isExplainedBy 13 = .ok (.aload_n 0, 1) := by decide +kernel
theorem dX3_isExplainedBy_14 : decode cX3_isExplainedBy 14 = .ok (.getfield 61, 3) := by decide +kernel
theorem dX3_isExplainedBy_17 : decode cX3_isExplainedBy 17 = .ok (.if_icmp .ge 109, 3) := by decide +kernel
theorem dX3_isExplainedBy_20 : decode cX3_isExplainedBy 20 = .ok (.aload_n 0, 1) := by decide +kernel
theorem dX3_isExplainedBy_21 : decode cX3_isExplainedBy 21 = .ok (.getfield 34, 3) := by decide +kernel
theorem dX3_isExplainedBy_24 : decode cX3_isExplainedBy 24 = .ok (.iload 5, 2) := by decide +kernel
theorem dX3_isExplainedBy_26 : decode cX3_isExplainedBy 26 = .ok (.iaload, 1) := by decide +kernel
theorem dX3_isExplainedBy_27 : decode cX3_isExplainedBy 27 = .ok (.iconst (-1), 1) := by decide +kernel
theorem dX3_isExplainedBy_28 : decode cX3_isExplainedBy 28 = .ok (.if_icmp .ne 6, 3) := by decide +kernel
theorem dX3_isExplainedBy_31 : decode cX3_isExplainedBy 31 = .ok (.goto 89, 3) := by decide +kernel
theorem dX3_isExplainedBy_34 : decode cX3_isExplainedBy 34 = .ok (.aload_n 0, 1) := by decide +kernel
theorem dX3_isExplainedBy_35 : decode cX3_isExplainedBy 35 = .ok (.getfield 34, 3) := by decide +kernel
theorem dX3_isExplainedBy_38 : decode cX3_isExplainedBy 38 = .ok (.iload 5, 2) := by decide +kernel
theorem dX3_isExplainedBy_40 : decode cX3_isExplainedBy 40 = .ok (.iaload, 1) := by decide +kernel
theorem dX3_isExplainedBy_41 : decode cX3_isExplainedBy 41 = .ok (.ifCond .ne 29, 3) := by decide +kernel
theorem dX3_isExplainedBy_44 : decode cX3_isExplainedBy 44 = .ok (.aload_n 0, 1) := by decide +kernel
theorem dX3_isExplainedBy_45 : decode cX3_isExplainedBy 45 = .ok (.getfield 31, 3) := by decide +kernel
theorem dX3_isExplainedBy_48 : decode cX3_isExplainedBy 48 = .ok (.iload 5, 2) := by decide +kernel
theorem dX3_isExplainedBy_50 : decode cX3_isExplainedBy 50 = .ok (.iaload, 1) := by decide +kernel
theorem dX3_isExplainedBy_51 : decode cX3_isExplainedBy 51 = .ok (.iload_n 1, 1) := by decide +kernel
theorem dX3_isExplainedBy_52 : decode cX3_isExplainedBy 52 = .ok (.if_icmp .ne 68, 3) := by decide +kernel
theorem dX3_isExplainedBy_55 : decode cX3_isExplainedBy 55 = .ok (.iload_n 3, 1) := by decide +kernel
theorem dX3_isExplainedBy_56 : decode cX3_isExplainedBy 56 = .ok (.aload_n 0, 1) := by decide +kernel
theorem dX3_isExplainedBy_57 : decode cX3_isExplainedBy 57 = .ok (.getfield 19, 3) := by decide +kernel
theorem dX3_isExplainedBy_60 : decode cX3_isExplainedBy 60 = .ok (.iload 5, 2) := by decide +kernel
theorem dX3_isExplainedBy_62 : decode cX3_isExplainedBy 62 = .ok (.iaload, 1) := by decide +kernel
theorem dX3_isExplainedBy_63 : decode cX3_isExplainedBy 63 = .ok (.invokestatic 86, 3) := by decide +kernel
theorem dX3_isExplainedBy_66 : decode cX3_isExplainedBy 66 = .ok (.istore_n 3, 1) := by decide +kernel
theorem dX3_isExplainedBy_67 : decode cX3_isExplainedBy 67 = .ok (.goto 53, 3) := by decide +kernel
theorem dX3_isExplainedBy_70 : decode cX3_isExplainedBy 70 = .ok (.aload_n 0, 1) := by decide +kernel
theorem dX3_isExplainedBy_71 : decode cX3_isExplainedBy 71 = .ok (.getfield 31, 3) := by decide +kernel
theorem dX3_isExplainedBy_74 : decode cX3_isExplainedBy 74 = .ok (.iload 5, 2) := by decide +kernel
theorem dX3_isExplainedBy_76 : decode cX3_isExplainedBy 76 = .ok (.iaload, 1) := by decide +kernel
theorem dX3_isExplainedBy_77 : decode cX3_isExplainedBy 77 = .ok (.iload_n 1, 1) := by decide +kernel
theorem dX3_isExplainedBy_78 : decode cX3_isExplainedBy 78 = .ok (.if_icmp .ne 18, 3) := by decide +kernel
theorem dX3_isExplainedBy_81 : decode cX3_isExplainedBy 81 = .ok (.iload_n 2, 1) := by decide +kernel
theorem dX3_isExplainedBy_82 : decode cX3_isExplainedBy 82 = .ok (.ifCond .eq 16, 3) := by decide +kernel
theorem dX3_isExplainedBy_85 : decode cX3_isExplainedBy 85 = .ok (.iload_n 2, 1) := by decide +kernel
theorem dX3_isExplainedBy_86 : decode cX3_isExplainedBy 86 = .ok (.aload_n 0, 1) := by decide +kernel
theorem dX3_isExplainedBy_87 : decode cX3_isExplainedBy 87 = .ok (.getfield 34, 3) := by decide +kernel
theorem dX3_isExplainedBy_90 : decode cX3_isExplainedBy 90 = .ok (.iload 5, 2) := by decide +kernel
theorem dX3_isExplainedBy_92 : decode cX3_isExplainedBy 92 = .ok (.iaload, 1) := by decide +kernel
theorem dX3_isExplainedBy_93 : decode cX3_isExplainedBy 93 = .ok (.if_icmp .eq 5, 3) := by decide +kernel
theorem dX3_isExplainedBy_96 : decode cX3_isExplainedBy 96 = .ok (.iconst 0, 1) := by decide +kernel
theorem dX3_isExplainedBy_97 : decode cX3_isExplainedBy 97 = .ok (.ireturn, 1) := by decide +kernel
theorem dX3_isExplainedBy_98 : decode cX3_isExplainedBy 98 = .ok (.aload_n 0, 1) := by decide +kernel
theorem dX3_isExplainedBy_99 : decode cX3_isExplainedBy 99 = .ok (.getfield 34, 3) := by decide +kernel
theorem dX3_isExplainedBy_102 : decode cX3_isExplainedBy 102 = .ok (.iload 5, 2) := by decide +kernel
theorem dX3_isExplainedBy_104 : decode cX3_isExplainedBy 104 = .ok (.iaload, 1) := by decide +kernel
theorem dX3_isExplainedBy_105 : decode cX3_isExplainedBy 105 = .ok (.istore_n 2, 1) := by decide +kernel
theorem dX3_isExplainedBy_106 : decode cX3_isExplainedBy 106 = .ok (.iload 4, 2) := by decide +kernel
theorem dX3_isExplainedBy_108 : decode cX3_isExplainedBy 108 = .ok (.aload_n 0, 1) := by decide +kernel
theorem dX3_isExplainedBy_109 : decode cX3_isExplainedBy 109 = .ok (.getfield 19, 3) := by decide +kernel
theorem dX3_isExplainedBy_112 : decode cX3_isExplainedBy 112 = .ok (.iload 5, 2) := by decide +kernel
theorem dX3_isExplainedBy_114 : decode cX3_isExplainedBy 114 = .ok (.iaload, 1) := by decide +kernel
theorem dX3_isExplainedBy_115 : decode cX3_isExplainedBy 115 = .ok (.invokestatic 119, 3) := by decide +kernel
theorem dX3_isExplainedBy_118 : decode cX3_isExplainedBy 118 = .ok (.istore 4, 2) := by decide +kernel
theorem dX3_isExplainedBy_120 : decode cX3_isExplainedBy 120 = .ok (.iinc 5 1, 3) := by decide +kernel
theorem dX3_isExplainedBy_123 : decode cX3_isExplainedBy 123 = .ok (.goto (-112), 3) := by decide +kernel
theorem dX3_isExplainedBy_126 : decode cX3_isExplainedBy 126 = .ok (.iload_n 2, 1) := by decide +kernel
theorem dX3_isExplainedBy_127 : decode cX3_isExplainedBy 127 = .ok (.ifCond .eq 9, 3) := by decide +kernel
theorem dX3_isExplainedBy_130 : decode cX3_isExplainedBy 130 = .ok (.iload_n 3, 1) := by decide +kernel
theorem dX3_isExplainedBy_131 : decode cX3_isExplainedBy 131 = .ok (.iload 4, 2) := by decide +kernel
theorem dX3_isExplainedBy_133 : decode cX3_isExplainedBy 133 = .ok (.if_icmp .ge 7, 3) := by decide +kernel
theorem dX3_isExplainedBy_136 : decode cX3_isExplainedBy 136 = .ok (.iconst 1, 1) := by decide +kernel
theorem dX3_isExplainedBy_137 : decode cX3_isExplainedBy 137 = .ok (.goto 4, 3) := by decide +kernel
theorem dX3_isExplainedBy_140 : decode cX3_isExplainedBy 140 = .ok (.iconst 0, 1) := by decide +kernel
theorem dX3_isExplainedBy_141 : decode cX3_isExplainedBy 141 = .ok (.ireturn, 1) := by decide +kernel
theorem dX3_digestFrom_0 : decode cX3_digestFrom 0 = .ok (.lload_n 1, 1) := by decide +kernel
theorem dX3_digestFrom_1 : decode cX3_digestFrom 1 = .ok (.lstore_n 3, 1) := by decide +kernel
theorem dX3_digestFrom_2 : decode cX3_digestFrom 2 = .ok (.iconst 0, 1) := by decide +kernel
theorem dX3_digestFrom_3 : decode cX3_digestFrom 3 = .ok (.istore 5, 2) := by decide +kernel
theorem dX3_digestFrom_5 : decode cX3_digestFrom 5 = .ok (.iload 5, 2) := by decide +kernel
theorem dX3_digestFrom_7 : decode cX3_digestFrom 7 = .ok (.iconst 4, 1) := by decide +kernel
theorem dX3_digestFrom_8 : decode cX3_digestFrom 8 = .ok (.if_icmp .ge 54, 3) := by decide +kernel
theorem dX3_digestFrom_11 : decode cX3_digestFrom 11 = .ok (.ldc2_w 122, 3) := by decide +kernel
theorem dX3_digestFrom_14 : decode cX3_digestFrom 14 = .ok (.lload_n 3, 1) := by decide +kernel
theorem dX3_digestFrom_15 : decode cX3_digestFrom 15 = .ok (.lmul, 1) := by decide +kernel
theorem dX3_digestFrom_16 : decode cX3_digestFrom 16 = .ok (.aload_n 0, 1) := by decide +kernel
theorem dX3_digestFrom_17 : decode cX3_digestFrom 17 = .ok (.getfield 37, 3) := by decide +kernel
theorem dX3_digestFrom_20 : decode cX3_digestFrom 20 = .ok (.iload 5, 2) := by decide +kernel
theorem dX3_digestFrom_22 : decode cX3_digestFrom 22 = .ok (.iaload, 1) := by decide +kernel
theorem dX3_digestFrom_23 : decode cX3_digestFrom 23 = .ok (.i2l, 1) := by decide +kernel
theorem dX3_digestFrom_24 : decode cX3_digestFrom 24 = .ok (.ladd, 1) := by decide +kernel
theorem dX3_digestFrom_25 : decode cX3_digestFrom 25 = .ok (.lstore_n 3, 1) := by decide +kernel
theorem dX3_digestFrom_26 : decode cX3_digestFrom 26 = .ok (.ldc2_w 122, 3) := by decide +kernel
theorem dX3_digestFrom_29 : decode cX3_digestFrom 29 = .ok (.lload_n 3, 1) := by decide +kernel
theorem dX3_digestFrom_30 : decode cX3_digestFrom 30 = .ok (.lmul, 1) := by decide +kernel
theorem dX3_digestFrom_31 : decode cX3_digestFrom 31 = .ok (.aload_n 0, 1) := by decide +kernel
theorem dX3_digestFrom_32 : decode cX3_digestFrom 32 = .ok (.getfield 40, 3) := by decide +kernel
theorem dX3_digestFrom_35 : decode cX3_digestFrom 35 = .ok (.iload 5, 2) := by decide +kernel
theorem dX3_digestFrom_37 : decode cX3_digestFrom 37 = .ok (.iaload, 1) := by decide +kernel
theorem dX3_digestFrom_38 : decode cX3_digestFrom 38 = .ok (.i2l, 1) := by decide +kernel
theorem dX3_digestFrom_39 : decode cX3_digestFrom 39 = .ok (.ladd, 1) := by decide +kernel
theorem dX3_digestFrom_40 : decode cX3_digestFrom 40 = .ok (.lstore_n 3, 1) := by decide +kernel
theorem dX3_digestFrom_41 : decode cX3_digestFrom 41 = .ok (.ldc2_w 122, 3) := by decide +kernel
theorem dX3_digestFrom_44 : decode cX3_digestFrom 44 = .ok (.lload_n 3, 1) := by decide +kernel
theorem dX3_digestFrom_45 : decode cX3_digestFrom 45 = .ok (.lmul, 1) := by decide +kernel
theorem dX3_digestFrom_46 : decode cX3_digestFrom 46 = .ok (.aload_n 0, 1) := by decide +kernel
theorem dX3_digestFrom_47 : decode cX3_digestFrom 47 = .ok (.getfield 43, 3) := by decide +kernel
theorem dX3_digestFrom_50 : decode cX3_digestFrom 50 = .ok (.iload 5, 2) := by decide +kernel
theorem dX3_digestFrom_52 : decode cX3_digestFrom 52 = .ok (.iaload, 1) := by decide +kernel
theorem dX3_digestFrom_53 : decode cX3_digestFrom 53 = .ok (.i2l, 1) := by decide +kernel
theorem dX3_digestFrom_54 : decode cX3_digestFrom 54 = .ok (.ladd, 1) := by decide +kernel
theorem dX3_digestFrom_55 : decode cX3_digestFrom 55 = .ok (.lstore_n 3, 1) := by decide +kernel
theorem dX3_digestFrom_56 : decode cX3_digestFrom 56 = .ok (.iinc 5 1, 3) := by decide +kernel
theorem dX3_digestFrom_59 : decode cX3_digestFrom 59 = .ok (.goto (-54), 3) := by decide +kernel
theorem dX3_digestFrom_62 : decode cX3_digestFrom 62 = .ok (.ldc2_w 122, 3) := by decide +kernel
theorem dX3_digestFrom_65 : decode cX3_digestFrom 65 = .ok (.lload_n 3, 1) := by decide +kernel
theorem dX3_digestFrom_66 : decode cX3_digestFrom 66 = .ok (.lmul, 1) := by decide +kernel
theorem dX3_digestFrom_67 : decode cX3_digestFrom 67 = .ok (.aload_n 0, 1) := by decide +kernel
theorem dX3_digestFrom_68 : decode cX3_digestFrom 68 = .ok (.getfield 64, 3) := by decide +kernel
theorem dX3_digestFrom_71 : decode cX3_digestFrom 71 = .ok (.i2l, 1) := by decide +kernel
theorem dX3_digestFrom_72 : decode cX3_digestFrom 72 = .ok (.ladd, 1) := by decide +kernel
theorem dX3_digestFrom_73 : decode cX3_digestFrom 73 = .ok (.lstore_n 3, 1) := by decide +kernel
theorem dX3_digestFrom_74 : decode cX3_digestFrom 74 = .ok (.ldc2_w 122, 3) := by decide +kernel
theorem dX3_digestFrom_77 : decode cX3_digestFrom 77 = .ok (.lload_n 3, 1) := by decide +kernel
theorem dX3_digestFrom_78 : decode cX3_digestFrom 78 = .ok (.lmul, 1) := by decide +kernel
theorem dX3_digestFrom_79 : decode cX3_digestFrom 79 = .ok (.aload_n 0, 1) := by decide +kernel
theorem dX3_digestFrom_80 : decode cX3_digestFrom 80 = .ok (.getfield 67, 3) := by decide +kernel
theorem dX3_digestFrom_83 : decode cX3_digestFrom 83 = .ok (.i2l, 1) := by decide +kernel
theorem dX3_digestFrom_84 : decode cX3_digestFrom 84 = .ok (.ladd, 1) := by decide +kernel
theorem dX3_digestFrom_85 : decode cX3_digestFrom 85 = .ok (.lstore_n 3, 1) := by decide +kernel
theorem dX3_digestFrom_86 : decode cX3_digestFrom 86 = .ok (.iconst 0, 1) := by decide +kernel
theorem dX3_digestFrom_87 : decode cX3_digestFrom 87 = .ok (.istore 5, 2) := by decide +kernel
theorem dX3_digestFrom_89 : decode cX3_digestFrom 89 = .ok (.iload 5, 2) := by decide +kernel
theorem dX3_digestFrom_91 : decode cX3_digestFrom 91 = .ok (.aload_n 0, 1) := by decide +kernel
theorem dX3_digestFrom_92 : decode cX3_digestFrom 92 = .ok (.getfield 61, 3) := by decide +kernel
theorem dX3_digestFrom_95 : decode cX3_digestFrom 95 = .ok (.if_icmp .ge 114, 3) := by decide +kernel
theorem dX3_digestFrom_98 : decode cX3_digestFrom 98 = .ok (.ldc2_w 122, 3) := by decide +kernel
theorem dX3_digestFrom_101 : decode cX3_digestFrom 101 = .ok (.lload_n 3, 1) := by decide +kernel
theorem dX3_digestFrom_102 : decode cX3_digestFrom 102 = .ok (.lmul, 1) := by decide +kernel
theorem dX3_digestFrom_103 : decode cX3_digestFrom 103 = .ok (.aload_n 0, 1) := by decide +kernel
theorem dX3_digestFrom_104 : decode cX3_digestFrom 104 = .ok (.getfield 15, 3) := by decide +kernel
theorem dX3_digestFrom_107 : decode cX3_digestFrom 107 = .ok (.iload 5, 2) := by decide +kernel
theorem dX3_digestFrom_109 : decode cX3_digestFrom 109 = .ok (.iaload, 1) := by decide +kernel
theorem dX3_digestFrom_110 : decode cX3_digestFrom 110 = .ok (.i2l, 1) := by decide +kernel
theorem dX3_digestFrom_111 : decode cX3_digestFrom 111 = .ok (.ladd, 1) := by decide +kernel
theorem dX3_digestFrom_112 : decode cX3_digestFrom 112 = .ok (.lstore_n 3, 1) := by decide +kernel
theorem dX3_digestFrom_113 : decode cX3_digestFrom 113 = .ok (.ldc2_w 122, 3) := by decide +kernel
theorem dX3_digestFrom_116 : decode cX3_digestFrom 116 = .ok (.lload_n 3, 1) := by decide +kernel
theorem dX3_digestFrom_117 : decode cX3_digestFrom 117 = .ok (.lmul, 1) := by decide +kernel
theorem dX3_digestFrom_118 : decode cX3_digestFrom 118 = .ok (.aload_n 0, 1) := by decide +kernel
theorem dX3_digestFrom_119 : decode cX3_digestFrom 119 = .ok (.getfield 19, 3) := by decide +kernel
theorem dX3_digestFrom_122 : decode cX3_digestFrom 122 = .ok (.iload 5, 2) := by decide +kernel
theorem dX3_digestFrom_124 : decode cX3_digestFrom 124 = .ok (.iaload, 1) := by decide +kernel
theorem dX3_digestFrom_125 : decode cX3_digestFrom 125 = .ok (.i2l, 1) := by decide +kernel
theorem dX3_digestFrom_126 : decode cX3_digestFrom 126 = .ok (.ladd, 1) := by decide +kernel
theorem dX3_digestFrom_127 : decode cX3_digestFrom 127 = .ok (.lstore_n 3, 1) := by decide +kernel
theorem dX3_digestFrom_128 : decode cX3_digestFrom 128 = .ok (.ldc2_w 122, 3) := by decide +kernel
theorem dX3_digestFrom_131 : decode cX3_digestFrom 131 = .ok (.lload_n 3, 1) := by decide +kernel
theorem dX3_digestFrom_132 : decode cX3_digestFrom 132 = .ok (.lmul, 1) := by decide +kernel
theorem dX3_digestFrom_133 : decode cX3_digestFrom 133 = .ok (.aload_n 0, 1) := by decide +kernel
theorem dX3_digestFrom_134 : decode cX3_digestFrom 134 = .ok (.getfield 22, 3) := by decide +kernel
theorem dX3_digestFrom_137 : decode cX3_digestFrom 137 = .ok (.iload 5, 2) := by decide +kernel
theorem dX3_digestFrom_139 : decode cX3_digestFrom 139 = .ok (.iaload, 1) := by decide +kernel
theorem dX3_digestFrom_140 : decode cX3_digestFrom 140 = .ok (.i2l, 1) := by decide +kernel
theorem dX3_digestFrom_141 : decode cX3_digestFrom 141 = .ok (.ladd, 1) := by decide +kernel
theorem dX3_digestFrom_142 : decode cX3_digestFrom 142 = .ok (.lstore_n 3, 1) := by decide +kernel
theorem dX3_digestFrom_143 : decode cX3_digestFrom 143 = .ok (.ldc2_w 122, 3) := by decide +kernel
theorem dX3_digestFrom_146 : decode cX3_digestFrom 146 = .ok (.lload_n 3, 1) := by decide +kernel
theorem dX3_digestFrom_147 : decode cX3_digestFrom 147 = .ok (.lmul, 1) := by decide +kernel
theorem dX3_digestFrom_148 : decode cX3_digestFrom 148 = .ok (.aload_n 0, 1) := by decide +kernel
theorem dX3_digestFrom_149 : decode cX3_digestFrom 149 = .ok (.getfield 25, 3) := by decide +kernel
theorem dX3_digestFrom_152 : decode cX3_digestFrom 152 = .ok (.iload 5, 2) := by decide +kernel
theorem dX3_digestFrom_154 : decode cX3_digestFrom 154 = .ok (.iaload, 1) := by decide +kernel
theorem dX3_digestFrom_155 : decode cX3_digestFrom 155 = .ok (.i2l, 1) := by decide +kernel
theorem dX3_digestFrom_156 : decode cX3_digestFrom 156 = .ok (.ladd, 1) := by decide +kernel
theorem dX3_digestFrom_157 : decode cX3_digestFrom 157 = .ok (.lstore_n 3, 1) := by decide +kernel
theorem dX3_digestFrom_158 : decode cX3_digestFrom 158 = .ok (.ldc2_w 122, 3) := by decide +kernel
theorem dX3_digestFrom_161 : decode cX3_digestFrom 161 = .ok (.lload_n 3, 1) := by decide +kernel
theorem dX3_digestFrom_162 : decode cX3_digestFrom 162 = .ok (.lmul, 1) := by decide +kernel
theorem dX3_digestFrom_163 : decode cX3_digestFrom 163 = .ok (.aload_n 0, 1) := by decide +kernel
theorem dX3_digestFrom_164 : decode cX3_digestFrom 164 = .ok (.getfield 28, 3) := by decide +kernel
theorem dX3_digestFrom_167 : decode cX3_digestFrom 167 = .ok (.iload 5, 2) := by decide +kernel
theorem dX3_digestFrom_169 : decode cX3_digestFrom 169 = .ok (.iaload, 1) := by decide +kernel
theorem dX3_digestFrom_170 : decode cX3_digestFrom 170 = .ok (.i2l, 1) := by decide +kernel
theorem dX3_digestFrom_171 : decode cX3_digestFrom 171 = .ok (.ladd, 1) := by decide +kernel
theorem dX3_digestFrom_172 : decode cX3_digestFrom 172 = .ok (.lstore_n 3, 1) := by decide +kernel
theorem dX3_digestFrom_173 : decode cX3_digestFrom 173 = .ok (.ldc2_w 122, 3) := by decide +kernel
theorem dX3_digestFrom_176 : decode cX3_digestFrom 176 = .ok (.lload_n 3, 1) := by decide +kernel
theorem dX3_digestFrom_177 : decode cX3_digestFrom 177 = .ok (.lmul, 1) := by decide +kernel
theorem dX3_digestFrom_178 : decode cX3_digestFrom 178 = .ok (.aload_n 0, 1) := by decide +kernel
theorem dX3_digestFrom_179 : decode cX3_digestFrom 179 = .ok (.getfield 31, 3) := by decide +kernel
theorem dX3_digestFrom_182 : decode cX3_digestFrom 182 = .ok (.iload 5, 2) := by decide +kernel
theorem dX3_digestFrom_184 : decode cX3_digestFrom 184 = .ok (.iaload, 1) := by decide +kernel
theorem dX3_digestFrom_185 : decode cX3_digestFrom 185 = .ok (.i2l, 1) := by decide +kernel
theorem dX3_digestFrom_186 : decode cX3_digestFrom 186 = .ok (.ladd, 1) := by decide +kernel
theorem dX3_digestFrom_187 : decode cX3_digestFrom 187 = .ok (.lstore_n 3, 1) := by decide +kernel
theorem dX3_digestFrom_188 : decode cX3_digestFrom 188 = .ok (.ldc2_w 122, 3) := by decide +kernel
theorem dX3_digestFrom_191 : decode cX3_digestFrom 191 = .ok (.lload_n 3, 1) := by decide +kernel
theorem dX3_digestFrom_192 : decode cX3_digestFrom 192 = .ok (.lmul, 1) := by decide +kernel
theorem dX3_digestFrom_193 : decode cX3_digestFrom 193 = .ok (.aload_n 0, 1) := by decide +kernel
theorem dX3_digestFrom_194 : decode cX3_digestFrom 194 = .ok (.getfield 34, 3) := by decide +kernel
theorem dX3_digestFrom_197 : decode cX3_digestFrom 197 = .ok (.iload 5, 2) := by decide +kernel
theorem dX3_digestFrom_199 : decode cX3_digestFrom 199 = .ok (.iaload, 1) := by decide +kernel
theorem dX3_digestFrom_200 : decode cX3_digestFrom 200 = .ok (.i2l, 1) := by decide +kernel
theorem dX3_digestFrom_201 : decode cX3_digestFrom 201 = .ok (.ladd, 1) := by decide +kernel
theorem dX3_digestFrom_202 : decode cX3_digestFrom 202 = .ok (.lstore_n 3, 1) := by decide +kernel
theorem dX3_digestFrom_203 : decode cX3_digestFrom 203 = .ok (.iinc 5 1, 3) := by decide +kernel
theorem dX3_digestFrom_206 : decode cX3_digestFrom 206 = .ok (.goto (-117), 3) := by decide +kernel
theorem dX3_digestFrom_209 : decode cX3_digestFrom 209 = .ok (.lload_n 3, 1) := by decide +kernel
theorem dX3_digestFrom_210 : decode cX3_digestFrom 210 = .ok (.lreturn, 1) := by decide +kernel
theorem dX4_init_0 : decode cX4_init 0 = .ok (.aload_n 0, 1) := by decide +kernel
theorem dX4_init_1 : decode cX4_init 1 = .ok (.invokespecial 3, 3) := by decide +kernel
theorem dX4_init_4 : decode cX4_init 4 = .ok (.aload_n 0, 1) := by decide +kernel
theorem dX4_init_5 : decode cX4_init 5 = .ok (.bipush 6, 2) := by decide +kernel
theorem dX4_init_7 : decode cX4_init 7 = .ok (.newarray .int, 2) := by decide +kernel
theorem dX4_init_9 : decode cX4_init 9 = .ok (.putfield 9, 3) := by decide +kernel
theorem dX4_init_12 : decode cX4_init 12 = .ok (.aload_n 0, 1) := by decide +kernel
theorem dX4_init_13 : decode cX4_init 13 = .ok (.bipush 56, 2) := by decide +kernel
theorem dX4_init_15 : decode cX4_init 15 = .ok (.newarray .int, 2) := by decide +kernel
theorem dX4_init_17 : decode cX4_init 17 = .ok (.putfield 15, 3) := by decide +kernel
theorem dX4_init_20 : decode cX4_init 20 = .ok (.aload_n 0, 1) := by decide +kernel
theorem dX4_init_21 : decode cX4_init 21 = .ok (.bipush 63, 2) := by decide +kernel
theorem dX4_init_23 : decode cX4_init 23 = .ok (.newarray .int, 2) := by decide +kernel
theorem dX4_init_25 : decode cX4_init 25 = .ok (.putfield 18, 3) := by decide +kernel
theorem dX4_init_28 : decode cX4_init 28 = .ok (.return_, 1) := by decide +kernel
theorem dX4_solve_0 : decode cX4_solve 0 = .ok (.aload_n 0, 1) := by decide +kernel
theorem dX4_solve_1 : decode cX4_solve 1 = .ok (.aload_n 1, 1) := by decide +kernel
theorem dX4_solve_2 : decode cX4_solve 2 = .ok (.invokevirtual 21, 3) := by decide +kernel
theorem dX4_solve_5 : decode cX4_solve 5 = .ok (.bipush 7, 2) := by decide +kernel
theorem dX4_solve_7 : decode cX4_solve 7 = .ok (.istore_n 3, 1) := by decide +kernel
theorem dX4_solve_8 : decode cX4_solve 8 = .ok (.iload_n 3, 1) := by decide +kernel
theorem dX4_solve_9 : decode cX4_solve 9 = .ok (.ifCond .lt 54, 3) := by decide +kernel
theorem dX4_solve_12 : decode cX4_solve 12 = .ok (.iconst 0, 1) := by decide +kernel
theorem dX4_solve_13 : decode cX4_solve 13 = .ok (.istore 4, 2) := by decide +kernel
theorem dX4_solve_15 : decode cX4_solve 15 = .ok (.iload 4, 2) := by decide +kernel
theorem dX4_solve_17 : decode cX4_solve 17 = .ok (.iload_n 2, 1) := by decide +kernel
theorem dX4_solve_18 : decode cX4_solve 18 = .ok (.if_icmp .gt 39, 3) := by decide +kernel
theorem dX4_solve_21 : decode cX4_solve 21 = .ok (.aload_n 0, 1) := by decide +kernel
theorem dX4_solve_22 : decode cX4_solve 22 = .ok (.iload_n 3, 1) := by decide +kernel
theorem dX4_solve_23 : decode cX4_solve 23 = .ok (.iload 4, 2) := by decide +kernel
theorem dX4_solve_25 : decode cX4_solve 25 = .ok (.invokevirtual 25, 3) := by decide +kernel
theorem dX4_solve_28 : decode cX4_solve 28 = .ok (.istore 5, 2) := by decide +kernel
theorem dX4_solve_30 : decode cX4_solve 30 = .ok (.aload_n 0, 1) := by decide +kernel
theorem dX4_solve_31 : decode cX4_solve 31 = .ok (.getfield 18, 3) := by decide +kernel
theorem dX4_solve_34 : decode cX4_solve 34 = .ok (.iload_n 3, 1) := by decide +kernel
theorem dX4_solve_35 : decode cX4_solve 35 = .ok (.bipush 7, 2) := by decide +kernel
theorem dX4_solve_37 : decode cX4_solve 37 = .ok (.imul, 1) := by decide +kernel
theorem dX4_solve_38 : decode cX4_solve 38 = .ok (.iload 4, 2) := by decide +kernel
theorem dX4_solve_40 : decode cX4_solve 40 = .ok (.iadd, 1) := by decide +kernel
theorem dX4_solve_41 : decode cX4_solve 41 = .ok (.aload_n 0, 1) := by decide +kernel
theorem dX4_solve_42 : decode cX4_solve 42 = .ok (.iload_n 3, 1) := by decide +kernel
theorem dX4_solve_43 : decode cX4_solve 43 = .ok (.iload 5, 2) := by decide +kernel
theorem dX4_solve_45 : decode cX4_solve 45 = .ok (.iload 4, 2) := by decide +kernel
theorem dX4_solve_47 : decode cX4_solve 47 = .ok (.invokevirtual 29, 3) := by decide +kernel
theorem dX4_solve_50 : decode cX4_solve 50 = .ok (.iastore, 1) := by decide +kernel
theorem dX4_solve_51 : decode cX4_solve 51 = .ok (.iinc 4 1, 3) := by decide +kernel
theorem dX4_solve_54 : decode cX4_solve 54 = .ok (.goto (-39), 3) := by decide +kernel
theorem dX4_solve_57 : decode cX4_solve 57 = .ok (.iinc 3 (-1), 3) := by decide +kernel
theorem dX4_solve_60 : decode cX4_solve 60 = .ok (.goto (-52), 3) := by decide +kernel
theorem dX4_solve_63 : decode cX4_solve 63 = .ok (.aload_n 0, 1) := by decide +kernel
theorem dX4_solve_64 : decode cX4_solve 64 = .ok (.aload_n 0, 1) := by decide +kernel
theorem dX4_solve_65 : decode cX4_solve 65 = .ok (.getfield 18, 3) := by decide +kernel
theorem dX4_solve_68 : decode cX4_solve 68 = .ok (.iload_n 2, 1) := by decide +kernel
theorem dX4_solve_69 : decode cX4_solve 69 = .ok (.iaload, 1) := by decide +kernel
theorem dX4_solve_70 : decode cX4_solve 70 = .ok (.putfield 33, 3) := by decide +kernel
theorem dX4_solve_73 : decode cX4_solve 73 = .ok (.aload_n 0, 1) := by decide +kernel
theorem dX4_solve_74 : decode cX4_solve 74 = .ok (.iload_n 2, 1) := by decide +kernel
theorem dX4_solve_75 : decode cX4_solve 75 = .ok (.invokevirtual 37, 3) := by decide +kernel
theorem dX4_solve_78 : decode cX4_solve 78 = .ok (.return_, 1) := by decide +kernel
theorem dX4_countSlips_0 : decode cX4_countSlips 0 = .ok (.aload_n 0, 1) := by decide +kernel
theorem dX4_countSlips_1 : decode cX4_countSlips 1 = .ok (.getfield 15, 3) := by decide +kernel
theorem dX4_countSlips_4 : decode cX4_countSlips 4 = .ok (.iconst 0, 1) := by decide +kernel
theorem dX4_countSlips_5 : decode cX4_countSlips 5 = .ok (.invokestatic 41, 3) := by decide +kernel
theorem dX4_countSlips_8 : decode cX4_countSlips 8 = .ok (.iconst 0, 1) := by decide +kernel
theorem dX4_countSlips_9 : decode cX4_countSlips 9 = .ok (.istore_n 2, 1) := by decide +kernel
theorem dX4_countSlips_10 : decode cX4_countSlips 10 = .ok (.iload_n 2, 1) := by decide +kernel
theorem dX4_countSlips_11 : decode cX4_countSlips 11 = .ok (.aload_n 1, 1) := by decide +kernel
theorem dX4_countSlips_12 : decode cX4_countSlips 12 = .ok (.getfield 47, 3) := by decide +kernel
theorem dX4_countSlips_15 : decode cX4_countSlips 15 = .ok (.if_icmp .ge 96, 3) := by decide +kernel
theorem dX4_countSlips_18 : decode cX4_countSlips 18 = .ok (.aload_n 1, 1) := by decide +kernel
theorem dX4_countSlips_19 : decode cX4_countSlips 19 = .ok (.iload_n 2, 1) := by decide +kernel
theorem dX4_countSlips_20 : decode cX4_countSlips 20 = .ok (.invokevirtual 52, 3) := by decide +kernel
theorem dX4_countSlips_23 : decode cX4_countSlips 23 = .ok (.ifCond .eq 24, 3) := by decide +kernel
theorem dX4_countSlips_26 : decode cX4_countSlips 26 = .ok (.aload_n 0, 1) := by decide +kernel
theorem dX4_countSlips_27 : decode cX4_countSlips 27 = .ok (.getfield 15, 3) := by decide +kernel
theorem dX4_countSlips_30 : decode cX4_countSlips 30 = .ok (.aload_n 1, 1) := by decide +kernel
theorem dX4_countSlips_31 : decode cX4_countSlips 31 = .ok (.getfield 56, 3) := by decide +kernel
theorem dX4_countSlips_34 : decode cX4_countSlips 34 = .ok (.iload_n 2, 1) := by decide +kernel
theorem dX4_countSlips_35 : decode cX4_countSlips 35 = .ok (.iaload, 1) := by decide +kernel
theorem dX4_countSlips_36 : decode cX4_countSlips 36 = .ok (.bipush 8, 2) := by decide +kernel
theorem dX4_countSlips_38 : decode cX4_countSlips 38 = .ok (.idiv, 1) := by decide +kernel
theorem dX4_countSlips_39 : decode cX4_countSlips 39 = .ok (.bipush 7, 2) := by decide +kernel
theorem dX4_countSlips_41 : decode cX4_countSlips 41 = .ok (.imul, 1) := by decide +kernel
theorem dX4_countSlips_42 : decode cX4_countSlips 42 = .ok (.dup2, 1) := by decide +kernel
theorem dX4_countSlips_43 : decode cX4_countSlips 43 = .ok (.iaload, 1) := by decide +kernel
theorem dX4_countSlips_44 : decode cX4_countSlips 44 = .ok (.iconst 1, 1) := by decide +kernel
theorem dX4_countSlips_45 : decode cX4_countSlips 45 = .ok (.iadd, 1) := by decide +kernel
theorem dX4_countSlips_46 : decode cX4_countSlips 46 = .ok (.iastore, 1) := by decide +kernel
theorem dX4_countSlips_47 : decode cX4_countSlips 47 = .ok (.iload_n 2, 1) := by decide +kernel
theorem dX4_countSlips_48 : decode cX4_countSlips 48 = .ok (.iconst 1, 1) := by decide +kernel
theorem dX4_countSlips_49 : decode cX4_countSlips 49 = .ok (.iadd, 1) := by decide +kernel
theorem dX4_countSlips_50 : decode cX4_countSlips 50 = .ok (.istore_n 3, 1) := by decide +kernel
theorem dX4_countSlips_51 : decode cX4_countSlips 51 = .ok (.iload_n 3, 1) := by decide +kernel
theorem dX4_countSlips_52 : decode cX4_countSlips 52 = .ok (.aload_n 1, 1) := by decide +kernel
theorem dX4_countSlips_53 : decode cX4_countSlips 53 = .ok (.getfield 47, 3) := by decide +kernel
theorem dX4_countSlips_56 : decode cX4_countSlips 56 = .ok (.if_icmp .ge 49, 3) := by decide +kernel
theorem dX4_countSlips_59 : decode cX4_countSlips 59 = .ok (.aload_n 1, 1) := by decide +kernel
theorem dX4_countSlips_60 : decode cX4_countSlips 60 = .ok (.iload_n 2, 1) := by decide +kernel
theorem dX4_countSlips_61 : decode cX4_countSlips 61 = .ok (.iload_n 3, 1) := by decide +kernel
theorem dX4_countSlips_62 : decode cX4_countSlips 62 = .ok (.invokevirtual 59, 3) := by decide +kernel
theorem dX4_countSlips_65 : decode cX4_countSlips 65 = .ok (.iconst (-1), 1) := by decide +kernel
theorem dX4_countSlips_66 : decode cX4_countSlips 66 = .ok (.if_icmp .eq 33, 3) := by decide +kernel
theorem dX4_countSlips_69 : decode cX4_countSlips 69 = .ok (.aload_n 0, 1) := by decide +kernel
theorem dX4_countSlips_70 : decode cX4_countSlips 70 = .ok (.getfield 15, 3) := by decide +kernel
theorem dX4_countSlips_73 : decode cX4_countSlips 73 = .ok (.aload_n 1, 1) := by decide +kernel
theorem dX4_countSlips_74 : decode cX4_countSlips 74 = .ok (.getfield 56, 3) := by decide +kernel
theorem dX4_countSlips_77 : decode cX4_countSlips 77 = .ok (.iload_n 2, 1) := by decide +kernel
theorem dX4_countSlips_78 : decode cX4_countSlips 78 = .ok (.iaload, 1) := by decide +kernel
theorem dX4_countSlips_79 : decode cX4_countSlips 79 = .ok (.aload_n 1, 1) := by decide +kernel
theorem dX4_countSlips_80 : decode cX4_countSlips 80 = .ok (.getfield 56, 3) := by decide +kernel
theorem dX4_countSlips_83 : decode cX4_countSlips 83 = .ok (.iload_n 3, 1) := by decide +kernel
theorem dX4_countSlips_84 : decode cX4_countSlips 84 = .ok (.iaload, 1) := by decide +kernel
theorem dX4_countSlips_85 : decode cX4_countSlips 85 = .ok (.invokestatic 62, 3) := by decide +kernel
theorem dX4_countSlips_88 : decode cX4_countSlips 88 = .ok (.bipush 8, 2) := by decide +kernel
theorem dX4_countSlips_90 : decode cX4_countSlips 90 = .ok (.idiv, 1) := by decide +kernel
theorem dX4_countSlips_91 : decode cX4_countSlips 91 = .ok (.bipush 7, 2) := by decide +kernel
theorem dX4_countSlips_93 : decode cX4_countSlips 93 = .ok (.imul, 1) := by decide +kernel
theorem dX4_countSlips_94 : decode cX4_countSlips 94 = .ok (.dup2, 1) := by decide +kernel
theorem dX4_countSlips_95 : decode cX4_countSlips 95 = .ok (.iaload, 1) := by decide +kernel
theorem dX4_countSlips_96 : decode cX4_countSlips 96 = .ok (.iconst 4, 1) := by decide +kernel
theorem dX4_countSlips_97 : decode cX4_countSlips 97 = .ok (.iadd, 1) := by decide +kernel
theorem dX4_countSlips_98 : decode cX4_countSlips 98 = .ok (.iastore, 1) := by decide +kernel
theorem dX4_countSlips_99 : decode cX4_countSlips 99 = .ok (.iinc 3 1, 3) := by decide +kernel
theorem dX4_countSlips_102 : decode cX4_countSlips 102 = .ok (.goto (-51), 3) := by decide +kernel
theorem dX4_countSlips_105 : decode cX4_countSlips 105 = .ok (.iinc 2 1, 3) := by decide +kernel
theorem dX4_countSlips_108 : decode cX4_countSlips 108 = .ok (.goto (-98), 3) := by decide +kernel
theorem dX4_countSlips_111 : decode cX4_countSlips 111 = .ok (.iconst 0, 1) := by decide +kernel
theorem dX4_countSlips_112 : decode cX4_countSlips 112 = .ok (.istore_n 2, 1) := by decide +kernel
theorem dX4_countSlips_113 : decode cX4_countSlips 113 = .ok (.iload_n 2, 1) := by decide +kernel
theorem dX4_countSlips_114 : decode cX4_countSlips 114 = .ok (.bipush 8, 2) := by decide +kernel
theorem dX4_countSlips_116 : decode cX4_countSlips 116 = .ok (.if_icmp .ge 51, 3) := by decide +kernel
theorem dX4_countSlips_119 : decode cX4_countSlips 119 = .ok (.iconst 1, 1) := by decide +kernel
theorem dX4_countSlips_120 : decode cX4_countSlips 120 = .ok (.istore_n 3, 1) := by decide +kernel
theorem dX4_countSlips_121 : decode cX4_countSlips 121 = .ok (.iload_n 3, 1) := by decide +kernel
theorem dX4_countSlips_122 : decode cX4_countSlips 122 = .ok (.bipush 6, 2) := by decide +kernel
theorem dX4_countSlips_124 : decode cX4_countSlips 124 = .ok (.if_icmp .gt 37, 3) := by decide +kernel
theorem dX4_countSlips_127 : decode cX4_countSlips 127 = .ok (.aload_n 0, 1) := by decide +kernel
theorem dX4_countSlips_128 : decode cX4_countSlips 128 = .ok (.getfield 15, 3) := by decide +kernel
theorem dX4_countSlips_131 : decode cX4_countSlips 131 = .ok (.iload_n 2, 1) := by decide +kernel
theorem dX4_countSlips_132 : decode cX4_countSlips 132 = .ok (.bipush 7, 2) := by decide +kernel
theorem dX4_countSlips_134 : decode cX4_countSlips 134 = .ok (.imul, 1) := by decide +kernel
theorem dX4_countSlips_135 : decode cX4_countSlips 135 = .ok (.iload_n 3, 1) := by decide +kernel
theorem dX4_countSlips_136 : decode cX4_countSlips 136 = .ok (.iadd, 1) := by decide +kernel
theorem dX4_countSlips_137 : decode cX4_countSlips 137 = .ok (.aload_n 0, 1) := by decide +kernel
theorem dX4_countSlips_138 : decode cX4_countSlips 138 = .ok (.getfield 15, 3) := by decide +kernel
theorem dX4_countSlips_141 : decode cX4_countSlips 141 = .ok (.iload_n 2, 1) := by decide +kernel
theorem dX4_countSlips_142 : decode cX4_countSlips 142 = .ok (.bipush 7, 2) := by decide +kernel
theorem dX4_countSlips_144 : decode cX4_countSlips 144 = .ok (.imul, 1) := by decide +kernel
theorem dX4_countSlips_145 : decode cX4_countSlips 145 = .ok (.iload_n 3, 1) := by decide +kernel
theorem dX4_countSlips_146 : decode cX4_countSlips 146 = .ok (.iadd, 1) := by decide +kernel
theorem dX4_countSlips_147 : decode cX4_countSlips 147 = .ok (.iconst 1, 1) := by decide +kernel
theorem dX4_countSlips_148 : decode cX4_countSlips 148 = .ok (.isub, 1) := by decide +kernel
theorem dX4_countSlips_149 : decode cX4_countSlips 149 = .ok (.iaload, 1) := by decide +kernel
theorem dX4_countSlips_150 : decode cX4_countSlips 150 = .ok (.iconst 3, 1) := by decide +kernel
theorem dX4_countSlips_151 : decode cX4_countSlips 151 = .ok (.imul, 1) := by decide +kernel
theorem dX4_countSlips_152 : decode cX4_countSlips 152 = .ok (.iconst 4, 1) := by decide +kernel
theorem dX4_countSlips_153 : decode cX4_countSlips 153 = .ok (.idiv, 1) := by decide +kernel
theorem dX4_countSlips_154 : decode cX4_countSlips 154 = .ok (.iastore, 1) := by decide +kernel
theorem dX4_countSlips_155 : decode cX4_countSlips 155 = .ok (.iinc 3 1, 3) := by decide +kernel
theorem dX4_countSlips_158 : decode cX4_countSlips 158 = .ok (.goto (-37), 3) := by decide +kernel
theorem dX4_countSlips_161 : decode cX4_countSlips 161 = .ok (.iinc 2 1, 3) := by decide +kernel
theorem dX4_countSlips_164 : decode cX4_countSlips 164 = .ok (.goto (-51), 3) := by decide +kernel
theorem dX4_countSlips_167 : decode cX4_countSlips 167 = .ok (.return_, 1) := by decide +kernel
theorem dX4_leaves_0 : decode cX4_leaves 0 = .ok (.aload_n 0, 1) := by decide +kernel
theorem dX4_leaves_1 : decode cX4_leaves 1 = .ok (.getfield 15, 3) := by decide +kernel
theorem dX4_leaves_4 : decode cX4_leaves 4 = .ok (.iload_n 1, 1) := by decide +kernel
theorem dX4_leaves_5 : decode cX4_leaves 5 = .ok (.bipush 7, 2) := by decide +kernel
theorem dX4_leaves_7 : decode cX4_leaves 7 = .ok (.imul, 1) := by decide +kernel
theorem dX4_leaves_8 : decode cX4_leaves 8 = .ok (.iload_n 2, 1) := by decide +kernel
theorem dX4_leaves_9 : decode cX4_leaves 9 = .ok (.iadd, 1) := by decide +kernel
theorem dX4_leaves_10 : decode cX4_leaves 10 = .ok (.iaload, 1) := by decide +kernel
theorem dX4_leaves_11 : decode cX4_leaves 11 = .ok (.aload_n 0, 1) := by decide +kernel
theorem dX4_leaves_12 : decode cX4_leaves 12 = .ok (.getfield 18, 3) := by decide +kernel
theorem dX4_leaves_15 : decode cX4_leaves 15 = .ok (.iload_n 1, 1) := by decide +kernel
theorem dX4_leaves_16 : decode cX4_leaves 16 = .ok (.iconst 1, 1) := by decide +kernel
theorem dX4_leaves_17 : decode cX4_leaves 17 = .ok (.iadd, 1) := by decide +kernel
theorem dX4_leaves_18 : decode cX4_leaves 18 = .ok (.bipush 7, 2) := by decide +kernel
theorem dX4_leaves_20 : decode cX4_leaves 20 = .ok (.imul, 1) := by decide +kernel
theorem dX4_leaves_21 : decode cX4_leaves 21 = .ok (.iload_n 3, 1) := by decide +kernel
theorem dX4_leaves_22 : decode cX4_leaves 22 = .ok (.iadd, 1) := by decide +kernel
theorem dX4_leaves_23 : decode cX4_leaves 23 = .ok (.iload_n 2, 1) := by decide +kernel
theorem dX4_leaves_24 : decode cX4_leaves 24 = .ok (.isub, 1) := by decide +kernel
theorem dX4_leaves_25 : decode cX4_leaves 25 = .ok (.iaload, 1) := by decide +kernel
theorem dX4_leaves_26 : decode cX4_leaves 26 = .ok (.iadd, 1) := by decide +kernel
theorem dX4_leaves_27 : decode cX4_leaves 27 = .ok (.ireturn, 1) := by decide +kernel
theorem dX4_hoursHere_0 : decode cX4_hoursHere 0 = .ok (.iload_n 2, 1) := by decide +kernel
theorem dX4_hoursHere_1 : decode cX4_hoursHere 1 = .ok (.istore_n 3, 1) := by decide +kernel
theorem dX4_hoursHere_2 : decode cX4_hoursHere 2 = .ok (.iload_n 2, 1) := by decide +kernel
theorem dX4_hoursHere_3 : decode cX4_hoursHere 3 = .ok (.iconst 1, 1) := by decide +kernel
theorem dX4_hoursHere_4 : decode cX4_hoursHere 4 = .ok (.isub, 1) := by decide +kernel
theorem dX4_hoursHere_5 : decode cX4_hoursHere 5 = .ok (.istore 4, 2) := by decide +kernel
theorem dX4_hoursHere_7 : decode cX4_hoursHere 7 = .ok (.iload 4, 2) := by decide +kernel
theorem dX4_hoursHere_9 : decode cX4_hoursHere 9 = .ok (.ifCond .lt 36, 3) := by decide +kernel
theorem dX4_hoursHere_12 : decode cX4_hoursHere 12 = .ok (.iload_n 1, 1) := by decide +kernel
theorem dX4_hoursHere_13 : decode cX4_hoursHere 13 = .ok (.bipush 7, 2) := by decide +kernel
theorem dX4_hoursHere_15 : decode cX4_hoursHere 15 = .ok (.if_icmp .ge 30, 3) := by decide +kernel
theorem dX4_hoursHere_18 : decode cX4_hoursHere 18 = .ok (.aload_n 0, 1) := by decide +kernel
theorem dX4_hoursHere_19 : decode cX4_hoursHere 19 = .ok (.iload_n 1, 1) := by decide +kernel
theorem dX4_hoursHere_20 : decode cX4_hoursHere 20 = .ok (.iload 4, 2) := by decide +kernel
theorem dX4_hoursHere_22 : decode cX4_hoursHere 22 = .ok (.iload_n 2, 1) := by decide +kernel
theorem dX4_hoursHere_23 : decode cX4_hoursHere 23 = .ok (.invokevirtual 29, 3) := by decide +kernel
theorem dX4_hoursHere_26 : decode cX4_hoursHere 26 = .ok (.aload_n 0, 1) := by decide +kernel
theorem dX4_hoursHere_27 : decode cX4_hoursHere 27 = .ok (.iload_n 1, 1) := by decide +kernel
theorem dX4_hoursHere_28 : decode cX4_hoursHere 28 = .ok (.iload_n 3, 1) := by decide +kernel
theorem dX4_hoursHere_29 : decode cX4_hoursHere 29 = .ok (.iload_n 2, 1) := by decide +kernel
theorem dX4_hoursHere_30 : decode cX4_hoursHere 30 = .ok (.invokevirtual 29, 3) := by decide +kernel
theorem dX4_hoursHere_33 : decode cX4_hoursHere 33 = .ok (.if_icmp .ge 6, 3) := by decide +kernel
theorem dX4_hoursHere_36 : decode cX4_hoursHere 36 = .ok (.iload 4, 2) := by decide +kernel
theorem dX4_hoursHere_38 : decode cX4_hoursHere 38 = .ok (.istore_n 3, 1) := by decide +kernel
theorem dX4_hoursHere_39 : decode cX4_hoursHere 39 = .ok (.iinc 4 (-1), 3) := by decide +kernel
theorem dX4_hoursHere_42 : decode cX4_hoursHere 42 = .ok (.goto (-35), 3) := by decide +kernel
theorem dX4_hoursHere_45 : decode cX4_hoursHere 45 = .ok (.iload_n 3, 1) := by decide +kernel
theorem dX4_hoursHere_46 : decode cX4_hoursHere 46 = .ok (.ireturn, 1) := by decide +kernel
theorem dX4_fillRow_0 : decode cX4_fillRow 0 = .ok (.iconst 0, 1) := by decide +kernel
theorem dX4_fillRow_1 : decode cX4_fillRow 1 = .ok (.istore_n 2, 1) := by decide +kernel
theorem dX4_fillRow_2 : decode cX4_fillRow 2 = .ok (.iconst 0, 1) := by decide +kernel
theorem dX4_fillRow_3 : decode cX4_fillRow 3 = .ok (.istore_n 3, 1) := by decide +kernel
theorem dX4_fillRow_4 : decode cX4_fillRow 4 = .ok (.iload_n 3, 1) := by decide +kernel
theorem dX4_fillRow_5 : decode cX4_fillRow 5 = .ok (.bipush 8, 2) := by decide +kernel
theorem dX4_fillRow_7 : decode cX4_fillRow 7 = .ok (.if_icmp .ge 50, 3) := by decide +kernel
theorem dX4_fillRow_10 : decode cX4_fillRow 10 = .ok (.aload_n 0, 1) := by decide +kernel
theorem dX4_fillRow_11 : decode cX4_fillRow 11 = .ok (.iload_n 3, 1) := by decide +kernel
theorem dX4_fillRow_12 : decode cX4_fillRow 12 = .ok (.iload_n 1, 1) := by decide +kernel
theorem dX4_fillRow_13 : decode cX4_fillRow 13 = .ok (.iload_n 2, 1) := by decide +kernel
theorem dX4_fillRow_14 : decode cX4_fillRow 14 = .ok (.isub, 1) := by decide +kernel
theorem dX4_fillRow_15 : decode cX4_fillRow 15 = .ok (.invokevirtual 25, 3) := by decide +kernel
theorem dX4_fillRow_18 : decode cX4_fillRow 18 = .ok (.istore 4, 2) := by decide +kernel
theorem dX4_fillRow_20 : decode cX4_fillRow 20 = .ok (.iconst 0, 1) := by decide +kernel
theorem dX4_fillRow_21 : decode cX4_fillRow 21 = .ok (.istore 5, 2) := by decide +kernel
theorem dX4_fillRow_23 : decode cX4_fillRow 23 = .ok (.iload 5, 2) := by decide +kernel
theorem dX4_fillRow_25 : decode cX4_fillRow 25 = .ok (.iload 4, 2) := by decide +kernel
theorem dX4_fillRow_27 : decode cX4_fillRow 27 = .ok (.if_icmp .ge 24, 3) := by decide +kernel
theorem dX4_fillRow_30 : decode cX4_fillRow 30 = .ok (.iload_n 2, 1) := by decide +kernel
theorem dX4_fillRow_31 : decode cX4_fillRow 31 = .ok (.iload_n 1, 1) := by decide +kernel
theorem dX4_fillRow_32 : decode cX4_fillRow 32 = .ok (.if_icmp .ge 19, 3) := by decide +kernel
theorem dX4_fillRow_35 : decode cX4_fillRow 35 = .ok (.aload_n 0, 1) := by decide +kernel
theorem dX4_fillRow_36 : decode cX4_fillRow 36 = .ok (.getfield 9, 3) := by decide +kernel
theorem dX4_fillRow_39 : decode cX4_fillRow 39 = .ok (.iload_n 2, 1) := by decide +kernel
theorem dX4_fillRow_40 : decode cX4_fillRow 40 = .ok (.iload_n 3, 1) := by decide +kernel
theorem dX4_fillRow_41 : decode cX4_fillRow 41 = .ok (.iastore, 1) := by decide +kernel
theorem dX4_fillRow_42 : decode cX4_fillRow 42 = .ok (.iinc 2 1, 3) := by decide +kernel
theorem dX4_fillRow_45 : decode cX4_fillRow 45 = .ok (.iinc 5 1, 3) := by decide +kernel
theorem dX4_fillRow_48 : decode cX4_fillRow 48 = .ok (.goto (-25), 3) := by decide +kernel
theorem dX4_fillRow_51 : decode cX4_fillRow 51 = .ok (.iinc 3 1, 3) := by decide +kernel
theorem dX4_fillRow_54 : decode cX4_fillRow 54 = .ok (.goto (-50), 3) := by decide +kernel
theorem dX4_fillRow_57 : decode cX4_fillRow 57 = .ok (.return_, 1) := by decide +kernel
theorem dX5_init_0 : decode cX5_init 0 = .ok (.aload_n 0, 1) := by decide +kernel
theorem dX5_init_1 : decode cX5_init 1 = .ok (.invokespecial 3, 3) := by decide +kernel
theorem dX5_init_4 : decode cX5_init 4 = .ok (.aload_n 0, 1) := by decide +kernel
theorem dX5_init_5 : decode cX5_init 5 = .ok (.sipush 150, 3) := by decide +kernel
theorem dX5_init_8 : decode cX5_init 8 = .ok (.newarray .int, 2) := by decide +kernel
theorem dX5_init_10 : decode cX5_init 10 = .ok (.putfield 9, 3) := by decide +kernel
theorem dX5_init_13 : decode cX5_init 13 = .ok (.aload_n 0, 1) := by decide +kernel
theorem dX5_init_14 : decode cX5_init 14 = .ok (.bipush 6, 2) := by decide +kernel
theorem dX5_init_16 : decode cX5_init 16 = .ok (.newarray .int, 2) := by decide +kernel
theorem dX5_init_18 : decode cX5_init 18 = .ok (.putfield 15, 3) := by decide +kernel
theorem dX5_init_21 : decode cX5_init 21 = .ok (.return_, 1) := by decide +kernel
theorem dX5_append_0 : decode cX5_append 0 = .ok (.aload_n 0, 1) := by decide +kernel
theorem dX5_append_1 : decode cX5_append 1 = .ok (.getfield 18, 3) := by decide +kernel
theorem dX5_append_4 : decode cX5_append 4 = .ok (.sipush 150, 3) := by decide +kernel
theorem dX5_append_7 : decode cX5_append 7 = .ok (.if_icmp .ge 23, 3) := by decide +kernel
theorem dX5_append_10 : decode cX5_append 10 = .ok (.aload_n 0, 1) := by decide +kernel
theorem dX5_append_11 : decode cX5_append 11 = .ok (.getfield 9, 3) := by decide +kernel
theorem dX5_append_14 : decode cX5_append 14 = .ok (.aload_n 0, 1) := by decide +kernel
theorem dX5_append_15 : decode cX5_append 15 = .ok (.getfield 18, 3) := by decide +kernel
theorem dX5_append_18 : decode cX5_append 18 = .ok (.iload_n 1, 1) := by decide +kernel
theorem dX5_append_19 : decode cX5_append 19 = .ok (.iastore, 1) := by decide +kernel
theorem dX5_append_20 : decode cX5_append 20 = .ok (.aload_n 0, 1) := by decide +kernel
theorem dX5_append_21 : decode cX5_append 21 = .ok (.dup, 1) := by decide +kernel
theorem dX5_append_22 : decode cX5_append 22 = .ok (.getfield 18, 3) := by decide +kernel
theorem dX5_append_25 : decode cX5_append 25 = .ok (.iconst 1, 1) := by decide +kernel
theorem dX5_append_26 : decode cX5_append 26 = .ok (.iadd, 1) := by decide +kernel
theorem dX5_append_27 : decode cX5_append 27 = .ok (.putfield 18, 3) := by decide +kernel
theorem dX5_append_30 : decode cX5_append 30 = .ok (.return_, 1) := by decide +kernel
theorem dX5_readInto_0 : decode cX5_readInto 0 = .ok (.aload_n 0, 1) := by decide +kernel
theorem dX5_readInto_1 : decode cX5_readInto 1 = .ok (.iconst 0, 1) := by decide +kernel
theorem dX5_readInto_2 : decode cX5_readInto 2 = .ok (.putfield 22, 3) := by decide +kernel
theorem dX5_readInto_5 : decode cX5_readInto 5 = .ok (.iconst 0, 1) := by decide +kernel
theorem dX5_readInto_6 : decode cX5_readInto 6 = .ok (.istore_n 2, 1) := by decide +kernel
theorem dX5_readInto_7 : decode cX5_readInto 7 = .ok (.iload_n 2, 1) := by decide +kernel
theorem dX5_readInto_8 : decode cX5_readInto 8 = .ok (.sipush 150, 3) := by decide +kernel
theorem dX5_readInto_11 : decode cX5_readInto 11 = .ok (.if_icmp .gt 46, 3) := by decide +kernel
theorem dX5_readInto_14 : decode cX5_readInto 14 = .ok (.aload_n 0, 1) := by decide +kernel
theorem dX5_readInto_15 : decode cX5_readInto 15 = .ok (.invokevirtual 25, 3) := by decide +kernel
theorem dX5_readInto_18 : decode cX5_readInto 18 = .ok (.aload_n 0, 1) := by decide +kernel
theorem dX5_readInto_19 : decode cX5_readInto 19 = .ok (.getfield 28, 3) := by decide +kernel
theorem dX5_readInto_22 : decode cX5_readInto 22 = .ok (.ifCond .ne 9, 3) := by decide +kernel
theorem dX5_readInto_25 : decode cX5_readInto 25 = .ok (.iload_n 2, 1) := by decide +kernel
theorem dX5_readInto_26 : decode cX5_readInto 26 = .ok (.ifCond .le 5, 3) := by decide +kernel
theorem dX5_readInto_29 : decode cX5_readInto 29 = .ok (.iload_n 2, 1) := by decide +kernel
theorem dX5_readInto_30 : decode cX5_readInto 30 = .ok (.ireturn, 1) := by decide +kernel
theorem dX5_readInto_31 : decode cX5_readInto 31 = .ok (.aload_n 0, 1) := by decide +kernel
theorem dX5_readInto_32 : decode cX5_readInto 32 = .ok (.aload_n 1, 1) := by decide +kernel
theorem dX5_readInto_33 : decode cX5_readInto 33 = .ok (.iload_n 2, 1) := by decide +kernel
theorem dX5_readInto_34 : decode cX5_readInto 34 = .ok (.ifCond .ne 7, 3) := by decide +kernel
theorem dX5_readInto_37 : decode cX5_readInto 37 = .ok (.iconst 1, 1) := by decide +kernel
theorem dX5_readInto_38 : decode cX5_readInto 38 = .ok (.goto 4, 3) := by decide +kernel
theorem dX5_readInto_41 : decode cX5_readInto 41 = .ok (.iconst 0, 1) := by decide +kernel
theorem dX5_readInto_42 : decode cX5_readInto 42 = .ok (.invokevirtual 31, 3) := by decide +kernel
theorem dX5_readInto_45 : decode cX5_readInto 45 = .ok (.ifCond .ne 6, 3) := by decide +kernel
theorem dX5_readInto_48 : decode cX5_readInto 48 = .ok (.goto 9, 3) := by decide +kernel
theorem dX5_readInto_51 : decode cX5_readInto 51 = .ok (.iinc 2 1, 3) := by decide +kernel
theorem dX5_readInto_54 : decode cX5_readInto 54 = .ok (.goto (-47), 3) := by decide +kernel
theorem dX5_readInto_57 : decode cX5_readInto 57 = .ok (.bipush (-10), 2) := by decide +kernel
theorem dX5_readInto_59 : decode cX5_readInto 59 = .ok (.aload_n 0, 1) := by decide +kernel
theorem dX5_readInto_60 : decode cX5_readInto 60 = .ok (.getfield 35, 3) := by decide +kernel
theorem dX5_readInto_63 : decode cX5_readInto 63 = .ok (.isub, 1) := by decide +kernel
theorem dX5_readInto_64 : decode cX5_readInto 64 = .ok (.ireturn, 1) := by decide +kernel
theorem dX5_readItem_0 : decode cX5_readItem 0 = .ok (.iload_n 2, 1) := by decide +kernel
theorem dX5_readItem_1 : decode cX5_readItem 1 = .ok (.aload_n 0, 1) := by decide +kernel
theorem dX5_readItem_2 : decode cX5_readItem 2 = .ok (.ldc 38, 2) := by decide +kernel
theorem dX5_readItem_4 : decode cX5_readItem 4 = .ok (.invokevirtual 40, 3) := by decide +kernel
theorem dX5_readItem_7 : decode cX5_readItem 7 = .ok (.if_icmp .eq 5, 3) := by decide +kernel
theorem dX5_readItem_10 : decode cX5_readItem 10 = .ok (.iconst 0, 1) := by decide +kernel
theorem dX5_readItem_11 : decode cX5_readItem 11 = .ok (.ireturn, 1) := by decide +kernel
theorem dX5_readItem_12 : decode cX5_readItem 12 = .ok (.aload_n 0, 1) := by decide +kernel
theorem dX5_readItem_13 : decode cX5_readItem 13 = .ok (.iconst 0, 1) := by decide +kernel
theorem dX5_readItem_14 : decode cX5_readItem 14 = .ok (.putfield 44, 3) := by decide +kernel
theorem dX5_readItem_17 : decode cX5_readItem 17 = .ok (.iload_n 2, 1) := by decide +kernel
theorem dX5_readItem_18 : decode cX5_readItem 18 = .ok (.ifCond .eq 9, 3) := by decide +kernel
theorem dX5_readItem_21 : decode cX5_readItem 21 = .ok (.aload_n 0, 1) := by decide +kernel
theorem dX5_readItem_22 : decode cX5_readItem 22 = .ok (.aload_n 1, 1) := by decide +kernel
theorem dX5_readItem_23 : decode cX5_readItem 23 = .ok (.invokevirtual 47, 3) := by decide +kernel
theorem dX5_readItem_26 : decode cX5_readItem 26 = .ok (.ireturn, 1) := by decide +kernel
theorem dX5_readItem_27 : decode cX5_readItem 27 = .ok (.aload_n 0, 1) := by decide +kernel
theorem dX5_readItem_28 : decode cX5_readItem 28 = .ok (.ldc 51, 2) := by decide +kernel
theorem dX5_readItem_30 : decode cX5_readItem 30 = .ok (.invokevirtual 40, 3) := by decide +kernel
theorem dX5_readItem_33 : decode cX5_readItem 33 = .ok (.ifCond .eq 9, 3) := by decide +kernel
theorem dX5_readItem_36 : decode cX5_readItem 36 = .ok (.aload_n 0, 1) := by decide +kernel
theorem dX5_readItem_37 : decode cX5_readItem 37 = .ok (.aload_n 1, 1) := by decide +kernel
theorem dX5_readItem_38 : decode cX5_readItem 38 = .ok (.invokevirtual 53, 3) := by decide +kernel
theorem dX5_readItem_41 : decode cX5_readItem 41 = .ok (.ireturn, 1) := by decide +kernel
theorem dX5_readItem_42 : decode cX5_readItem 42 = .ok (.aload_n 0, 1) := by decide +kernel
theorem dX5_readItem_43 : decode cX5_readItem 43 = .ok (.ldc 56, 2) := by decide +kernel
theorem dX5_readItem_45 : decode cX5_readItem 45 = .ok (.invokevirtual 40, 3) := by decide +kernel
theorem dX5_readItem_48 : decode cX5_readItem 48 = .ok (.ifCond .eq 24, 3) := by decide +kernel
theorem dX5_readItem_51 : decode cX5_readItem 51 = .ok (.aload_n 1, 1) := by decide +kernel
theorem dX5_readItem_52 : decode cX5_readItem 52 = .ok (.getfield 58, 3) := by decide +kernel
theorem dX5_readItem_55 : decode cX5_readItem 55 = .ok (.bipush 12, 2) := by decide +kernel
theorem dX5_readItem_57 : decode cX5_readItem 57 = .ok (.if_icmp .ge 15, 3) := by decide +kernel
theorem dX5_readItem_60 : decode cX5_readItem 60 = .ok (.aload_n 0, 1) := by decide +kernel
theorem dX5_readItem_61 : decode cX5_readItem 61 = .ok (.aload_n 1, 1) := by decide +kernel
theorem dX5_readItem_62 : decode cX5_readItem 62 = .ok (.invokevirtual 63, 3) := by decide +kernel
theorem dX5_readItem_65 : decode cX5_readItem 65 = .ok (.ifCond .eq 7, 3) := by decide +kernel
theorem dX5_readItem_68 : decode cX5_readItem 68 = .ok (.iconst 1, 1) := by decide +kernel
theorem dX5_readItem_69 : decode cX5_readItem 69 = .ok (.goto 4, 3) := by decide +kernel
theorem dX5_readItem_72 : decode cX5_readItem 72 = .ok (.iconst 0, 1) := by decide +kernel
theorem dX5_readItem_73 : decode cX5_readItem 73 = .ok (.ireturn, 1) := by decide +kernel
theorem dX5_readPiece_0 : decode cX5_readPiece 0 = .ok (.aload_n 0, 1) := by decide +kernel
theorem dX5_readPiece_1 : decode cX5_readPiece 1 = .ok (.iconst 0, 1) := by decide +kernel
theorem dX5_readPiece_2 : decode cX5_readPiece 2 = .ok (.bipush 9, 2) := by decide +kernel
theorem dX5_readPiece_4 : decode cX5_readPiece 4 = .ok (.invokevirtual 66, 3) := by decide +kernel
theorem dX5_readPiece_7 : decode cX5_readPiece 7 = .ok (.ifCond .eq 10, 3) := by decide +kernel
theorem dX5_readPiece_10 : decode cX5_readPiece 10 = .ok (.aload_n 0, 1) := by decide +kernel
theorem dX5_readPiece_11 : decode cX5_readPiece 11 = .ok (.invokevirtual 70, 3) := by decide +kernel
theorem dX5_readPiece_14 : decode cX5_readPiece 14 = .ok (.ifCond .ne 5, 3) := by decide +kernel
theorem dX5_readPiece_17 : decode cX5_readPiece 17 = .ok (.iconst 0, 1) := by decide +kernel
theorem dX5_readPiece_18 : decode cX5_readPiece 18 = .ok (.ireturn, 1) := by decide +kernel
theorem dX5_readPiece_19 : decode cX5_readPiece 19 = .ok (.aload_n 1, 1) := by decide +kernel
theorem dX5_readPiece_20 : decode cX5_readPiece 20 = .ok (.aload_n 0, 1) := by decide +kernel
theorem dX5_readPiece_21 : decode cX5_readPiece 21 = .ok (.getfield 15, 3) := by decide +kernel
theorem dX5_readPiece_24 : decode cX5_readPiece 24 = .ok (.iconst 0, 1) := by decide +kernel
theorem dX5_readPiece_25 : decode cX5_readPiece 25 = .ok (.iaload, 1) := by decide +kernel
theorem dX5_readPiece_26 : decode cX5_readPiece 26 = .ok (.invokevirtual 74, 3) := by decide +kernel
theorem dX5_readPiece_29 : decode cX5_readPiece 29 = .ok (.iconst 1, 1) := by decide +kernel
theorem dX5_readPiece_30 : decode cX5_readPiece 30 = .ok (.ireturn, 1) := by decide +kernel
theorem dX5_readHand_0 : decode cX5_readHand 0 = .ok (.aload_n 0, 1) := by decide +kernel
theorem dX5_readHand_1 : decode cX5_readHand 1 = .ok (.iconst 0, 1) := by decide +kernel
theorem dX5_readHand_2 : decode cX5_readHand 2 = .ok (.iconst 3, 1) := by decide +kernel
theorem dX5_readHand_3 : decode cX5_readHand 3 = .ok (.invokevirtual 66, 3) := by decide +kernel
theorem dX5_readHand_6 : decode cX5_readHand 6 = .ok (.ifCond .eq 39, 3) := by decide +kernel
theorem dX5_readHand_9 : decode cX5_readHand 9 = .ok (.aload_n 0, 1) := by decide +kernel
theorem dX5_readHand_10 : decode cX5_readHand 10 = .ok (.iconst 0, 1) := by decide +kernel
theorem dX5_readHand_11 : decode cX5_readHand 11 = .ok (.iconst 5, 1) := by decide +kernel
theorem dX5_readHand_12 : decode cX5_readHand 12 = .ok (.invokevirtual 66, 3) := by decide +kernel
theorem dX5_readHand_15 : decode cX5_readHand 15 = .ok (.ifCond .eq 30, 3) := by decide +kernel
theorem dX5_readHand_18 : decode cX5_readHand 18 = .ok (.aload_n 0, 1) := by decide +kernel
theorem dX5_readHand_19 : decode cX5_readHand 19 = .ok (.iconst 0, 1) := by decide +kernel
theorem dX5_readHand_20 : decode cX5_readHand 20 = .ok (.bipush 15, 2) := by decide +kernel
theorem dX5_readHand_22 : decode cX5_readHand 22 = .ok (.invokevirtual 66, 3) := by decide +kernel
theorem dX5_readHand_25 : decode cX5_readHand 25 = .ok (.ifCond .eq 20, 3) := by decide +kernel
theorem dX5_readHand_28 : decode cX5_readHand 28 = .ok (.aload_n 0, 1) := by decide +kernel
theorem dX5_readHand_29 : decode cX5_readHand 29 = .ok (.iconst 1, 1) := by decide +kernel
theorem dX5_readHand_30 : decode cX5_readHand 30 = .ok (.bipush 9, 2) := by decide +kernel
theorem dX5_readHand_32 : decode cX5_readHand 32 = .ok (.invokevirtual 66, 3) := by decide +kernel
theorem dX5_readHand_35 : decode cX5_readHand 35 = .ok (.ifCond .eq 10, 3) := by decide +kernel
theorem dX5_readHand_38 : decode cX5_readHand 38 = .ok (.aload_n 0, 1) := by decide +kernel
theorem dX5_readHand_39 : decode cX5_readHand 39 = .ok (.invokevirtual 70, 3) := by decide +kernel
theorem dX5_readHand_42 : decode cX5_readHand 42 = .ok (.ifCond .ne 5, 3) := by decide +kernel
theorem dX5_readHand_45 : decode cX5_readHand 45 = .ok (.iconst 0, 1) := by decide +kernel
theorem dX5_readHand_46 : decode cX5_readHand 46 = .ok (.ireturn, 1) := by decide +kernel
theorem dX5_readHand_47 : decode cX5_readHand 47 = .ok (.aload_n 1, 1) := by decide +kernel
theorem dX5_readHand_48 : decode cX5_readHand 48 = .ok (.aload_n 0, 1) := by decide +kernel
theorem dX5_readHand_49 : decode cX5_readHand 49 = .ok (.getfield 15, 3) := by decide +kernel
theorem dX5_readHand_52 : decode cX5_readHand 52 = .ok (.iconst 0, 1) := by decide +kernel
theorem dX5_readHand_53 : decode cX5_readHand 53 = .ok (.iaload, 1) := by decide +kernel
theorem dX5_readHand_54 : decode cX5_readHand 54 = .ok (.aload_n 0, 1) := by decide +kernel
theorem dX5_readHand_55 : decode cX5_readHand 55 = .ok (.getfield 15, 3) := by decide +kernel
theorem dX5_readHand_58 : decode cX5_readHand 58 = .ok (.iconst 1, 1) := by decide +kernel
theorem dX5_readHand_59 : decode cX5_readHand 59 = .ok (.iaload, 1) := by decide +kernel
theorem dX5_readHand_60 : decode cX5_readHand 60 = .ok (.aload_n 0, 1) := by decide +kernel
theorem dX5_readHand_61 : decode cX5_readHand 61 = .ok (.getfield 15, 3) := by decide +kernel
theorem dX5_readHand_64 : decode cX5_readHand 64 = .ok (.iconst 2, 1) := by decide +kernel
theorem dX5_readHand_65 : decode cX5_readHand 65 = .ok (.iaload, 1) := by decide +kernel
theorem dX5_readHand_66 : decode cX5_readHand 66 = .ok (.aload_n 0, 1) := by decide +kernel
theorem dX5_readHand_67 : decode cX5_readHand 67 = .ok (.getfield 15, 3) := by decide +kernel
theorem dX5_readHand_70 : decode cX5_readHand 70 = .ok (.iconst 3, 1) := by decide +kernel
theorem dX5_readHand_71 : decode cX5_readHand 71 = .ok (.iaload, 1) := by decide +kernel
theorem dX5_readHand_72 : decode cX5_readHand 72 = .ok (.invokevirtual 78, 3) := by decide +kernel
theorem dX5_readHand_75 : decode cX5_readHand 75 = .ok (.iconst 1, 1) := by decide +kernel
theorem dX5_readHand_76 : decode cX5_readHand 76 = .ok (.ireturn, 1) := by decide +kernel
theorem dX5_readNote_0 : decode cX5_readNote 0 = .ok (.aload_n 0, 1) := by decide +kernel
theorem dX5_readNote_1 : decode cX5_readNote 1 = .ok (.iconst 0, 1) := by decide +kernel
theorem dX5_readNote_2 : decode cX5_readNote 2 = .ok (.bipush 47, 2) := by decide +kernel
theorem dX5_readNote_4 : decode cX5_readNote 4 = .ok (.invokevirtual 66, 3) := by decide +kernel
theorem dX5_readNote_7 : decode cX5_readNote 7 = .ok (.ifCond .eq 65, 3) := by decide +kernel
theorem dX5_readNote_10 : decode cX5_readNote 10 = .ok (.aload_n 0, 1) := by decide +kernel
theorem dX5_readNote_11 : decode cX5_readNote 11 = .ok (.iconst 0, 1) := by decide +kernel
theorem dX5_readNote_12 : decode cX5_readNote 12 = .ok (.bipush 63, 2) := by decide +kernel
theorem dX5_readNote_14 : decode cX5_readNote 14 = .ok (.invokevirtual 66, 3) := by decide +kernel
theorem dX5_readNote_17 : decode cX5_readNote 17 = .ok (.ifCond .eq 55, 3) := by decide +kernel
theorem dX5_readNote_20 : decode cX5_readNote 20 = .ok (.aload_n 0, 1) := by decide +kernel
theorem dX5_readNote_21 : decode cX5_readNote 21 = .ok (.iconst 1, 1) := by decide +kernel
theorem dX5_readNote_22 : decode cX5_readNote 22 = .ok (.aload_n 0, 1) := by decide +kernel
theorem dX5_readNote_23 : decode cX5_readNote 23 = .ok (.getfield 15, 3) := by decide +kernel
theorem dX5_readNote_26 : decode cX5_readNote 26 = .ok (.iconst 1, 1) := by decide +kernel
theorem dX5_readNote_27 : decode cX5_readNote 27 = .ok (.iaload, 1) := by decide +kernel
theorem dX5_readNote_28 : decode cX5_readNote 28 = .ok (.invokestatic 82, 3) := by decide +kernel
theorem dX5_readNote_31 : decode cX5_readNote 31 = .ok (.invokevirtual 66, 3) := by decide +kernel
theorem dX5_readNote_34 : decode cX5_readNote 34 = .ok (.ifCond .eq 38, 3) := by decide +kernel
theorem dX5_readNote_37 : decode cX5_readNote 37 = .ok (.aload_n 0, 1) := by decide +kernel
theorem dX5_readNote_38 : decode cX5_readNote 38 = .ok (.iconst 0, 1) := by decide +kernel
theorem dX5_readNote_39 : decode cX5_readNote 39 = .ok (.iconst 1, 1) := by decide +kernel
theorem dX5_readNote_40 : decode cX5_readNote 40 = .ok (.invokevirtual 66, 3) := by decide +kernel
theorem dX5_readNote_43 : decode cX5_readNote 43 = .ok (.ifCond .eq 29, 3) := by decide +kernel
theorem dX5_readNote_46 : decode cX5_readNote 46 = .ok (.aload_n 0, 1) := by decide +kernel
theorem dX5_readNote_47 : decode cX5_readNote 47 = .ok (.iconst 0, 1) := by decide +kernel
theorem dX5_readNote_48 : decode cX5_readNote 48 = .ok (.bipush 9, 2) := by decide +kernel
theorem dX5_readNote_50 : decode cX5_readNote 50 = .ok (.invokevirtual 66, 3) := by decide +kernel
theorem dX5_readNote_53 : decode cX5_readNote 53 = .ok (.ifCond .eq 19, 3) := by decide +kernel
theorem dX5_readNote_56 : decode cX5_readNote 56 = .ok (.aload_n 0, 1) := by decide +kernel
theorem dX5_readNote_57 : decode cX5_readNote 57 = .ok (.iconst 0, 1) := by decide +kernel
theorem dX5_readNote_58 : decode cX5_readNote 58 = .ok (.iconst 4, 1) := by decide +kernel
theorem dX5_readNote_59 : decode cX5_readNote 59 = .ok (.invokevirtual 66, 3) := by decide +kernel
theorem dX5_readNote_62 : decode cX5_readNote 62 = .ok (.ifCond .eq 10, 3) := by decide +kernel
theorem dX5_readNote_65 : decode cX5_readNote 65 = .ok (.aload_n 0, 1) := by decide +kernel
theorem dX5_readNote_66 : decode cX5_readNote 66 = .ok (.invokevirtual 70, 3) := by decide +kernel
theorem dX5_readNote_69 : decode cX5_readNote 69 = .ok (.ifCond .ne 5, 3) := by decide +kernel
theorem dX5_readNote_72 : decode cX5_readNote 72 = .ok (.iconst 0, 1) := by decide +kernel
theorem dX5_readNote_73 : decode cX5_readNote 73 = .ok (.ireturn, 1) := by decide +kernel
theorem dX5_readNote_74 : decode cX5_readNote 74 = .ok (.aload_n 0, 1) := by decide +kernel
theorem dX5_readNote_75 : decode cX5_readNote 75 = .ok (.getfield 15, 3) := by decide +kernel
theorem dX5_readNote_78 : decode cX5_readNote 78 = .ok (.iconst 5, 1) := by decide +kernel
theorem dX5_readNote_79 : decode cX5_readNote 79 = .ok (.iaload, 1) := by decide +kernel
theorem dX5_readNote_80 : decode cX5_readNote 80 = .ok (.iconst 4, 1) := by decide +kernel
theorem dX5_readNote_81 : decode cX5_readNote 81 = .ok (.if_icmp .ne 7, 3) := by decide +kernel
theorem dX5_readNote_84 : decode cX5_readNote 84 = .ok (.iconst (-1), 1) := by decide +kernel
theorem dX5_readNote_85 : decode cX5_readNote 85 = .ok (.goto 9, 3) := by decide +kernel
theorem dX5_readNote_88 : decode cX5_readNote 88 = .ok (.aload_n 0, 1) := by decide +kernel
theorem dX5_readNote_89 : decode cX5_readNote 89 = .ok (.getfield 15, 3) := by decide +kernel
theorem dX5_readNote_92 : decode cX5_readNote 92 = .ok (.iconst 5, 1) := by decide +kernel
theorem dX5_readNote_93 : decode cX5_readNote 93 = .ok (.iaload, 1) := by decide +kernel
theorem dX5_readNote_94 : decode cX5_readNote 94 = .ok (.istore_n 2, 1) := by decide +kernel
theorem dX5_readNote_95 : decode cX5_readNote 95 = .ok (.aload_n 1, 1) := by decide +kernel
theorem dX5_readNote_96 : decode cX5_readNote 96 = .ok (.aload_n 0, 1) := by decide +kernel
theorem dX5_readNote_97 : decode cX5_readNote 97 = .ok (.getfield 15, 3) := by decide +kernel
theorem dX5_readNote_100 : decode cX5_readNote 100 = .ok (.iconst 0, 1) := by decide +kernel
theorem dX5_readNote_101 : decode cX5_readNote 101 = .ok (.iaload, 1) := by decide +kernel
theorem dX5_readNote_102 : decode cX5_readNote 102 = .ok (.aload_n 0, 1) := by decide +kernel
theorem dX5_readNote_103 : decode cX5_readNote 103 = .ok (.getfield 15, 3) := by decide +kernel
theorem dX5_readNote_106 : decode cX5_readNote 106 = .ok (.iconst 1, 1) := by decide +kernel
theorem dX5_readNote_107 : decode cX5_readNote 107 = .ok (.iaload, 1) := by decide +kernel
theorem dX5_readNote_108 : decode cX5_readNote 108 = .ok (.aload_n 0, 1) := by decide +kernel
theorem dX5_readNote_109 : decode cX5_readNote 109 = .ok (.getfield 15, 3) := by decide +kernel
theorem dX5_readNote_112 : decode cX5_readNote 112 = .ok (.iconst 2, 1) := by decide +kernel
theorem dX5_readNote_113 : decode cX5_readNote 113 = .ok (.iaload, 1) := by decide +kernel
theorem dX5_readNote_114 : decode cX5_readNote 114 = .ok (.aload_n 0, 1) := by decide +kernel
theorem dX5_readNote_115 : decode cX5_readNote 115 = .ok (.getfield 15, 3) := by decide +kernel
theorem dX5_readNote_118 : decode cX5_readNote 118 = .ok (.iconst 3, 1) := by decide +kernel
theorem dX5_readNote_119 : decode cX5_readNote 119 = .ok (.iaload, 1) := by decide +kernel
theorem dX5_readNote_120 : decode cX5_readNote 120 = .ok (.aload_n 0, 1) := by decide +kernel
theorem dX5_readNote_121 : decode cX5_readNote 121 = .ok (.getfield 15, 3) := by decide +kernel
theorem dX5_readNote_124 : decode cX5_readNote 124 = .ok (.iconst 4, 1) := by decide +kernel
theorem dX5_readNote_125 : decode cX5_readNote 125 = .ok (.iaload, 1) := by decide +kernel
theorem dX5_readNote_126 : decode cX5_readNote 126 = .ok (.iload_n 2, 1) := by decide +kernel
theorem dX5_readNote_127 : decode cX5_readNote 127 = .ok (.invokevirtual 86, 3) := by decide +kernel
theorem dX5_readNote_130 : decode cX5_readNote 130 = .ok (.iconst 1, 1) := by decide +kernel
theorem dX5_readNote_131 : decode cX5_readNote 131 = .ok (.ireturn, 1) := by decide +kernel
theorem dX5_takeNumber_0 : decode cX5_takeNumber 0 = .ok (.aload_n 0, 1) := by decide +kernel
theorem dX5_takeNumber_1 : decode cX5_takeNumber 1 = .ok (.invokevirtual 25, 3) := by decide +kernel
theorem dX5_takeNumber_4 : decode cX5_takeNumber 4 = .ok (.aload_n 0, 1) := by decide +kernel
theorem dX5_takeNumber_5 : decode cX5_takeNumber 5 = .ok (.invokevirtual 90, 3) := by decide +kernel
theorem dX5_takeNumber_8 : decode cX5_takeNumber 8 = .ok (.istore_n 3, 1) := by decide +kernel
theorem dX5_takeNumber_9 : decode cX5_takeNumber 9 = .ok (.iload_n 3, 1) := by decide +kernel
theorem dX5_takeNumber_10 : decode cX5_takeNumber 10 = .ok (.iload_n 1, 1) := by decide +kernel
theorem dX5_takeNumber_11 : decode cX5_takeNumber 11 = .ok (.iload_n 2, 1) := by decide +kernel
theorem dX5_takeNumber_12 : decode cX5_takeNumber 12 = .ok (.invokestatic 94, 3) := by decide +kernel
theorem dX5_takeNumber_15 : decode cX5_takeNumber 15 = .ok (.ifCond .eq 12, 3) := by decide +kernel
theorem dX5_takeNumber_18 : decode cX5_takeNumber 18 = .ok (.aload_n 0, 1) := by decide +kernel
theorem dX5_takeNumber_19 : decode cX5_takeNumber 19 = .ok (.getfield 44, 3) := by decide +kernel
theorem dX5_takeNumber_22 : decode cX5_takeNumber 22 = .ok (.bipush 6, 2) := by decide +kernel
theorem dX5_takeNumber_24 : decode cX5_takeNumber 24 = .ok (.if_icmp .lt 5, 3) := by decide +kernel
theorem dX5_takeNumber_27 : decode cX5_takeNumber 27 = .ok (.iconst 0, 1) := by decide +kernel
theorem dX5_takeNumber_28 : decode cX5_takeNumber 28 = .ok (.ireturn, 1) := by decide +kernel
theorem dX5_takeNumber_29 : decode cX5_takeNumber 29 = .ok (.aload_n 0, 1) := by decide +kernel
theorem dX5_takeNumber_30 : decode cX5_takeNumber 30 = .ok (.getfield 15, 3) := by decide +kernel
theorem dX5_takeNumber_33 : decode cX5_takeNumber 33 = .ok (.aload_n 0, 1) := by decide +kernel
theorem dX5_takeNumber_34 : decode cX5_takeNumber 34 = .ok (.getfield 44, 3) := by decide +kernel
theorem dX5_takeNumber_37 : decode cX5_takeNumber 37 = .ok (.iload_n 3, 1) := by decide +kernel
theorem dX5_takeNumber_38 : decode cX5_takeNumber 38 = .ok (.iastore, 1) := by decide +kernel
theorem dX5_takeNumber_39 : decode cX5_takeNumber 39 = .ok (.aload_n 0, 1) := by decide +kernel
theorem dX5_takeNumber_40 : decode cX5_takeNumber 40 = .ok (.dup, 1) := by decide +kernel
theorem dX5_takeNumber_41 : decode cX5_takeNumber 41 = .ok (.getfield 44, 3) := by decide +kernel
theorem dX5_takeNumber_44 : decode cX5_takeNumber 44 = .ok (.iconst 1, 1) := by decide +kernel
theorem dX5_takeNumber_45 : decode cX5_takeNumber 45 = .ok (.iadd, 1) := by decide +kernel
theorem dX5_takeNumber_46 : decode cX5_takeNumber 46 = .ok (.putfield 44, 3) := by decide +kernel
theorem dX5_takeNumber_49 : decode cX5_takeNumber 49 = .ok (.iconst 1, 1) := by decide +kernel
theorem dX5_takeNumber_50 : decode cX5_takeNumber 50 = .ok (.ireturn, 1) := by decide +kernel
theorem dX5_takeStop_0 : decode cX5_takeStop 0 = .ok (.aload_n 0, 1) := by decide +kernel
theorem dX5_takeStop_1 : decode cX5_takeStop 1 = .ok (.invokevirtual 25, 3) := by decide +kernel
theorem dX5_takeStop_4 : decode cX5_takeStop 4 = .ok (.aload_n 0, 1) := by decide +kernel
theorem dX5_takeStop_5 : decode cX5_takeStop 5 = .ok (.getfield 28, 3) := by decide +kernel
theorem dX5_takeStop_8 : decode cX5_takeStop 8 = .ok (.iconst 3, 1) := by decide +kernel
theorem dX5_takeStop_9 : decode cX5_takeStop 9 = .ok (.if_icmp .ne 7, 3) := by decide +kernel
theorem dX5_takeStop_12 : decode cX5_takeStop 12 = .ok (.iconst 1, 1) := by decide +kernel
theorem dX5_takeStop_13 : decode cX5_takeStop 13 = .ok (.goto 4, 3) := by decide +kernel
theorem dX5_takeStop_16 : decode cX5_takeStop 16 = .ok (.iconst 0, 1) := by decide +kernel
theorem dX5_takeStop_17 : decode cX5_takeStop 17 = .ok (.ireturn, 1) := by decide +kernel
theorem dX5_takeToken_0 : decode cX5_takeToken 0 = .ok (.aload_n 0, 1) := by decide +kernel
theorem dX5_takeToken_1 : decode cX5_takeToken 1 = .ok (.getfield 22, 3) := by decide +kernel
theorem dX5_takeToken_4 : decode cX5_takeToken 4 = .ok (.aload_n 0, 1) := by decide +kernel
theorem dX5_takeToken_5 : decode cX5_takeToken 5 = .ok (.getfield 18, 3) := by decide +kernel
theorem dX5_takeToken_8 : decode cX5_takeToken 8 = .ok (.if_icmp .ge 30, 3) := by decide +kernel
theorem dX5_takeToken_11 : decode cX5_takeToken 11 = .ok (.aload_n 0, 1) := by decide +kernel
theorem dX5_takeToken_12 : decode cX5_takeToken 12 = .ok (.getfield 9, 3) := by decide +kernel
theorem dX5_takeToken_15 : decode cX5_takeToken 15 = .ok (.aload_n 0, 1) := by decide +kernel
theorem dX5_takeToken_16 : decode cX5_takeToken 16 = .ok (.getfield 22, 3) := by decide +kernel
theorem dX5_takeToken_19 : decode cX5_takeToken 19 = .ok (.iaload, 1) := by decide +kernel
theorem dX5_takeToken_20 : decode cX5_takeToken 20 = .ok (.bipush 32, 2) := by decide +kernel
theorem dX5_takeToken_22 : decode cX5_takeToken 22 = .ok (.if_icmp .ne 16, 3) := by decide +kernel
theorem dX5_takeToken_25 : decode cX5_takeToken 25 = .ok (.aload_n 0, 1) := by decide +kernel
theorem dX5_takeToken_26 : decode cX5_takeToken 26 = .ok (.dup, 1) := by decide +kernel
theorem dX5_takeToken_27 : decode cX5_takeToken 27 = .ok (.getfield 22, 3) := by decide +kernel
theorem dX5_takeToken_30 : decode cX5_takeToken 30 = .ok (.iconst 1, 1) := by decide +kernel
theorem dX5_takeToken_31 : decode cX5_takeToken 31 = .ok (.iadd, 1) := by decide +kernel
theorem dX5_takeToken_32 : decode cX5_takeToken 32 = .ok (.putfield 22, 3) := by decide +kernel
theorem dX5_takeToken_35 : decode cX5_takeToken 35 = .ok (.goto (-35), 3) := by decide +kernel
theorem dX5_takeToken_38 : decode cX5_takeToken 38 = .ok (.aload_n 0, 1) := by decide +kernel
theorem dX5_takeToken_39 : decode cX5_takeToken 39 = .ok (.aload_n 0, 1) := by decide +kernel
theorem dX5_takeToken_40 : decode cX5_takeToken 40 = .ok (.getfield 22, 3) := by decide +kernel
theorem dX5_takeToken_43 : decode cX5_takeToken 43 = .ok (.putfield 35, 3) := by decide +kernel
theorem dX5_takeToken_46 : decode cX5_takeToken 46 = .ok (.aload_n 0, 1) := by decide +kernel
theorem dX5_takeToken_47 : decode cX5_takeToken 47 = .ok (.aload_n 0, 1) := by decide +kernel
theorem dX5_takeToken_48 : decode cX5_takeToken 48 = .ok (.aload_n 0, 1) := by decide +kernel
theorem dX5_takeToken_49 : decode cX5_takeToken 49 = .ok (.getfield 22, 3) := by decide +kernel
theorem dX5_takeToken_52 : decode cX5_takeToken 52 = .ok (.invokevirtual 98, 3) := by decide +kernel
theorem dX5_takeToken_55 : decode cX5_takeToken 55 = .ok (.putfield 28, 3) := by decide +kernel
theorem dX5_takeToken_58 : decode cX5_takeToken 58 = .ok (.aload_n 0, 1) := by decide +kernel
theorem dX5_takeToken_59 : decode cX5_takeToken 59 = .ok (.getfield 28, 3) := by decide +kernel
theorem dX5_takeToken_62 : decode cX5_takeToken 62 = .ok (.iconst 3, 1) := by decide +kernel
theorem dX5_takeToken_63 : decode cX5_takeToken 63 = .ok (.if_icmp .eq 11, 3) := by decide +kernel
theorem dX5_takeToken_66 : decode cX5_takeToken 66 = .ok (.aload_n 0, 1) := by decide +kernel
theorem dX5_takeToken_67 : decode cX5_takeToken 67 = .ok (.getfield 28, 3) := by decide +kernel
theorem dX5_takeToken_70 : decode cX5_takeToken 70 = .ok (.iconst 4, 1) := by decide +kernel
theorem dX5_takeToken_71 : decode cX5_takeToken 71 = .ok (.if_icmp .ne 13, 3) := by decide +kernel
theorem dX5_takeToken_74 : decode cX5_takeToken 74 = .ok (.aload_n 0, 1) := by decide +kernel
theorem dX5_takeToken_75 : decode cX5_takeToken 75 = .ok (.dup, 1) := by decide +kernel
theorem dX5_takeToken_76 : decode cX5_takeToken 76 = .ok (.getfield 22, 3) := by decide +kernel
theorem dX5_takeToken_79 : decode cX5_takeToken 79 = .ok (.iconst 1, 1) := by decide +kernel
theorem dX5_takeToken_80 : decode cX5_takeToken 80 = .ok (.iadd, 1) := by decide +kernel
theorem dX5_takeToken_81 : decode cX5_takeToken 81 = .ok (.putfield 22, 3) := by decide +kernel
theorem dX5_takeToken_84 : decode cX5_takeToken 84 = .ok (.aload_n 0, 1) := by decide +kernel
theorem dX5_takeToken_85 : decode cX5_takeToken 85 = .ok (.getfield 28, 3) := by decide +kernel
theorem dX5_takeToken_88 : decode cX5_takeToken 88 = .ok (.iconst 1, 1) := by decide +kernel
theorem dX5_takeToken_89 : decode cX5_takeToken 89 = .ok (.if_icmp .eq 11, 3) := by decide +kernel
theorem dX5_takeToken_92 : decode cX5_takeToken 92 = .ok (.aload_n 0, 1) := by decide +kernel
theorem dX5_takeToken_93 : decode cX5_takeToken 93 = .ok (.getfield 28, 3) := by decide +kernel
theorem dX5_takeToken_96 : decode cX5_takeToken 96 = .ok (.iconst 2, 1) := by decide +kernel
theorem dX5_takeToken_97 : decode cX5_takeToken 97 = .ok (.if_icmp .ne 42, 3) := by decide +kernel
theorem dX5_takeToken_100 : decode cX5_takeToken 100 = .ok (.aload_n 0, 1) := by decide +kernel
theorem dX5_takeToken_101 : decode cX5_takeToken 101 = .ok (.getfield 22, 3) := by decide +kernel
theorem dX5_takeToken_104 : decode cX5_takeToken 104 = .ok (.aload_n 0, 1) := by decide +kernel
theorem dX5_takeToken_105 : decode cX5_takeToken 105 = .ok (.getfield 18, 3) := by decide +kernel
theorem dX5_takeToken_108 : decode cX5_takeToken 108 = .ok (.if_icmp .ge 31, 3) := by decide +kernel
theorem dX5_takeToken_111 : decode cX5_takeToken 111 = .ok (.aload_n 0, 1) := by decide +kernel
theorem dX5_takeToken_112 : decode cX5_takeToken 112 = .ok (.aload_n 0, 1) := by decide +kernel
theorem dX5_takeToken_113 : decode cX5_takeToken 113 = .ok (.getfield 22, 3) := by decide +kernel
theorem dX5_takeToken_116 : decode cX5_takeToken 116 = .ok (.invokevirtual 98, 3) := by decide +kernel
theorem dX5_takeToken_119 : decode cX5_takeToken 119 = .ok (.aload_n 0, 1) := by decide +kernel
theorem dX5_takeToken_120 : decode cX5_takeToken 120 = .ok (.getfield 28, 3) := by decide +kernel
theorem dX5_takeToken_123 : decode cX5_takeToken 123 = .ok (.if_icmp .ne 16, 3) := by decide +kernel
theorem dX5_takeToken_126 : decode cX5_takeToken 126 = .ok (.aload_n 0, 1) := by decide +kernel
theorem dX5_takeToken_127 : decode cX5_takeToken 127 = .ok (.dup, 1) := by decide +kernel
theorem dX5_takeToken_128 : decode cX5_takeToken 128 = .ok (.getfield 22, 3) := by decide +kernel
theorem dX5_takeToken_131 : decode cX5_takeToken 131 = .ok (.iconst 1, 1) := by decide +kernel
theorem dX5_takeToken_132 : decode cX5_takeToken 132 = .ok (.iadd, 1) := by decide +kernel
theorem dX5_takeToken_133 : decode cX5_takeToken 133 = .ok (.putfield 22, 3) := by decide +kernel
theorem dX5_takeToken_136 : decode cX5_takeToken 136 = .ok (.goto (-52), 3) := by decide +kernel
theorem dX5_takeToken_139 : decode cX5_takeToken 139 = .ok (.return_, 1) := by decide +kernel
theorem dX5_sortAt_0 : decode cX5_sortAt 0 = .ok (.iload_n 1, 1) := by decide +kernel
theorem dX5_sortAt_1 : decode cX5_sortAt 1 = .ok (.ifCond .lt 11, 3) := by decide +kernel
theorem dX5_sortAt_4 : decode cX5_sortAt 4 = .ok (.iload_n 1, 1) := by decide +kernel
theorem dX5_sortAt_5 : decode cX5_sortAt 5 = .ok (.aload_n 0, 1) := by decide +kernel
theorem dX5_sortAt_6 : decode cX5_sortAt 6 = .ok (.getfield 18, 3) := by decide +kernel
theorem dX5_sortAt_9 : decode cX5_sortAt 9 = .ok (.if_icmp .lt 5, 3) := by decide +kernel
theorem dX5_sortAt_12 : decode cX5_sortAt 12 = .ok (.iconst 0, 1) := by decide +kernel
theorem dX5_sortAt_13 : decode cX5_sortAt 13 = .ok (.ireturn, 1) := by decide +kernel
theorem dX5_sortAt_14 : decode cX5_sortAt 14 = .ok (.aload_n 0, 1) := by decide +kernel
theorem dX5_sortAt_15 : decode cX5_sortAt 15 = .ok (.getfield 9, 3) := by decide +kernel
theorem dX5_sortAt_18 : decode cX5_sortAt 18 = .ok (.iload_n 1, 1) := by decide +kernel
theorem dX5_sortAt_19 : decode cX5_sortAt 19 = .ok (.iaload, 1) := by decide +kernel
theorem dX5_sortAt_20 : decode cX5_sortAt 20 = .ok (.istore_n 2, 1) := by decide +kernel
theorem dX5_sortAt_21 : decode cX5_sortAt 21 = .ok (.iload_n 2, 1) := by decide +kernel
theorem dX5_sortAt_22 : decode cX5_sortAt 22 = .ok (.bipush 97, 2) := by decide +kernel
theorem dX5_sortAt_24 : decode cX5_sortAt 24 = .ok (.if_icmp .lt 11, 3) := by decide +kernel
theorem dX5_sortAt_27 : decode cX5_sortAt 27 = .ok (.iload_n 2, 1) := by decide +kernel
theorem dX5_sortAt_28 : decode cX5_sortAt 28 = .ok (.bipush 122, 2) := by decide +kernel
theorem dX5_sortAt_30 : decode cX5_sortAt 30 = .ok (.if_icmp .gt 5, 3) := by decide +kernel
theorem dX5_sortAt_33 : decode cX5_sortAt 33 = .ok (.iconst 1, 1) := by decide +kernel
theorem dX5_sortAt_34 : decode cX5_sortAt 34 = .ok (.ireturn, 1) := by decide +kernel
theorem dX5_sortAt_35 : decode cX5_sortAt 35 = .ok (.iload_n 2, 1) := by decide +kernel
theorem dX5_sortAt_36 : decode cX5_sortAt 36 = .ok (.bipush 48, 2) := by decide +kernel
theorem dX5_sortAt_38 : decode cX5_sortAt 38 = .ok (.if_icmp .lt 11, 3) := by decide +kernel
theorem dX5_sortAt_41 : decode cX5_sortAt 41 = .ok (.iload_n 2, 1) := by decide +kernel
theorem dX5_sortAt_42 : decode cX5_sortAt 42 = .ok (.bipush 57, 2) := by decide +kernel
theorem dX5_sortAt_44 : decode cX5_sortAt 44 = .ok (.if_icmp .gt 5, 3) := by decide +kernel
theorem dX5_sortAt_47 : decode cX5_sortAt 47 = .ok (.iconst 2, 1) := by decide +kernel
theorem dX5_sortAt_48 : decode cX5_sortAt 48 = .ok (.ireturn, 1) := by decide +kernel
theorem dX5_sortAt_49 : decode cX5_sortAt 49 = .ok (.iload_n 2, 1) := by decide +kernel
theorem dX5_sortAt_50 : decode cX5_sortAt 50 = .ok (.bipush 59, 2) := by decide +kernel
theorem dX5_sortAt_52 : decode cX5_sortAt 52 = .ok (.if_icmp .ne 7, 3) := by decide +kernel
theorem dX5_sortAt_55 : decode cX5_sortAt 55 = .ok (.iconst 3, 1) := by decide +kernel
theorem dX5_sortAt_56 : decode cX5_sortAt 56 = .ok (.goto 4, 3) := by decide +kernel
theorem dX5_sortAt_59 : decode cX5_sortAt 59 = .ok (.iconst 4, 1) := by decide +kernel
theorem dX5_sortAt_60 : decode cX5_sortAt 60 = .ok (.ireturn, 1) := by decide +kernel
theorem dX5_isWord_0 : decode cX5_isWord 0 = .ok (.aload_n 0, 1) := by decide +kernel
theorem dX5_isWord_1 : decode cX5_isWord 1 = .ok (.getfield 28, 3) := by decide +kernel
theorem dX5_isWord_4 : decode cX5_isWord 4 = .ok (.iconst 1, 1) := by decide +kernel
theorem dX5_isWord_5 : decode cX5_isWord 5 = .ok (.if_icmp .ne 19, 3) := by decide +kernel
theorem dX5_isWord_8 : decode cX5_isWord 8 = .ok (.aload_n 0, 1) := by decide +kernel
theorem dX5_isWord_9 : decode cX5_isWord 9 = .ok (.getfield 22, 3) := by decide +kernel
theorem dX5_isWord_12 : decode cX5_isWord 12 = .ok (.aload_n 0, 1) := by decide +kernel
theorem dX5_isWord_13 : decode cX5_isWord 13 = .ok (.getfield 35, 3) := by decide +kernel
theorem dX5_isWord_16 : decode cX5_isWord 16 = .ok (.isub, 1) := by decide +kernel
theorem dX5_isWord_17 : decode cX5_isWord 17 = .ok (.aload_n 1, 1) := by decide +kernel
theorem dX5_isWord_18 : decode cX5_isWord 18 = .ok (.invokevirtual 101, 3) := by decide +kernel
theorem dX5_isWord_21 : decode cX5_isWord 21 = .ok (.if_icmp .eq 5, 3) := by decide +kernel
theorem dX5_isWord_24 : decode cX5_isWord 24 = .ok (.iconst 0, 1) := by decide +kernel
theorem dX5_isWord_25 : decode cX5_isWord 25 = .ok (.ireturn, 1) := by decide +kernel
theorem dX5_isWord_26 : decode cX5_isWord 26 = .ok (.iconst 0, 1) := by decide +kernel
theorem dX5_isWord_27 : decode cX5_isWord 27 = .ok (.istore_n 2, 1) := by decide +kernel
theorem dX5_isWord_28 : decode cX5_isWord 28 = .ok (.iload_n 2, 1) := by decide +kernel
theorem dX5_isWord_29 : decode cX5_isWord 29 = .ok (.aload_n 1, 1) := by decide +kernel
theorem dX5_isWord_30 : decode cX5_isWord 30 = .ok (.invokevirtual 101, 3) := by decide +kernel
theorem dX5_isWord_33 : decode cX5_isWord 33 = .ok (.if_icmp .ge 30, 3) := by decide +kernel
theorem dX5_isWord_36 : decode cX5_isWord 36 = .ok (.aload_n 0, 1) := by decide +kernel
theorem dX5_isWord_37 : decode cX5_isWord 37 = .ok (.getfield 9, 3) := by decide +kernel
theorem dX5_isWord_40 : decode cX5_isWord 40 = .ok (.aload_n 0, 1) := by decide +kernel
theorem dX5_isWord_41 : decode cX5_isWord 41 = .ok (.getfield 35, 3) := by decide +kernel
theorem dX5_isWord_44 : decode cX5_isWord 44 = .ok (.iload_n 2, 1) := by decide +kernel
theorem dX5_isWord_45 : decode cX5_isWord 45 = .ok (.iadd, 1) := by decide +kernel
theorem dX5_isWord_46 : decode cX5_isWord 46 = .ok (.iaload, 1) := by decide +kernel
theorem dX5_isWord_47 : decode cX5_isWord 47 = .ok (.aload_n 1, 1) := by decide +kernel
theorem dX5_isWord_48 : decode cX5_isWord 48 = .ok (.iload_n 2, 1) := by decide +kernel
theorem dX5_isWord_49 : decode cX5_isWord 49 = .ok (.invokevirtual 105, 3) := by decide +kernel
theorem dX5_isWord_52 : decode cX5_isWord 52 = .ok (.if_icmp .eq 5, 3) := by decide +kernel
theorem dX5_isWord_55 : decode cX5_isWord 55 = .ok (.iconst 0, 1) := by decide +kernel
theorem dX5_isWord_56 : decode cX5_isWord 56 = .ok (.ireturn, 1) := by decide +kernel
theorem dX5_isWord_57 : decode cX5_isWord 57 = .ok (.iinc 2 1, 3) := by decide +kernel
theorem dX5_isWord_60 : decode cX5_isWord 60 = .ok (.goto (-32), 3) := by decide +kernel
theorem dX5_isWord_63 : decode cX5_isWord 63 = .ok (.iconst 1, 1) := by decide +kernel
theorem dX5_isWord_64 : decode cX5_isWord 64 = .ok (.ireturn, 1) := by decide +kernel
theorem dX5_numberValue_0 : decode cX5_numberValue 0 = .ok (.aload_n 0, 1) := by decide +kernel
theorem dX5_numberValue_1 : decode cX5_numberValue 1 = .ok (.getfield 28, 3) := by decide +kernel
theorem dX5_numberValue_4 : decode cX5_numberValue 4 = .ok (.iconst 2, 1) := by decide +kernel
theorem dX5_numberValue_5 : decode cX5_numberValue 5 = .ok (.if_icmp .ne 16, 3) := by decide +kernel
theorem dX5_numberValue_8 : decode cX5_numberValue 8 = .ok (.aload_n 0, 1) := by decide +kernel
theorem dX5_numberValue_9 : decode cX5_numberValue 9 = .ok (.getfield 22, 3) := by decide +kernel
theorem dX5_numberValue_12 : decode cX5_numberValue 12 = .ok (.aload_n 0, 1) := by decide +kernel
theorem dX5_numberValue_13 : decode cX5_numberValue 13 = .ok (.getfield 35, 3) := by decide +kernel
theorem dX5_numberValue_16 : decode cX5_numberValue 16 = .ok (.isub, 1) := by decide +kernel
theorem dX5_numberValue_17 : decode cX5_numberValue 17 = .ok (.iconst 2, 1) := by decide +kernel
theorem dX5_numberValue_18 : decode cX5_numberValue 18 = .ok (.if_icmp .le 5, 3) := by decide +kernel
theorem dX5_numberValue_21 : decode cX5_numberValue 21 = .ok (.iconst (-1), 1) := by decide +kernel
theorem dX5_numberValue_22 : decode cX5_numberValue 22 = .ok (.ireturn, 1) := by decide +kernel
theorem dX5_numberValue_23 : decode cX5_numberValue 23 = .ok (.iconst 0, 1) := by decide +kernel
theorem dX5_numberValue_24 : decode cX5_numberValue 24 = .ok (.istore_n 1, 1) := by decide +kernel
theorem dX5_numberValue_25 : decode cX5_numberValue 25 = .ok (.aload_n 0, 1) := by decide +kernel
theorem dX5_numberValue_26 : decode cX5_numberValue 26 = .ok (.getfield 35, 3) := by decide +kernel
theorem dX5_numberValue_29 : decode cX5_numberValue 29 = .ok (.istore_n 2, 1) := by decide +kernel
theorem dX5_numberValue_30 : decode cX5_numberValue 30 = .ok (.iload_n 2, 1) := by decide +kernel
theorem dX5_numberValue_31 : decode cX5_numberValue 31 = .ok (.aload_n 0, 1) := by decide +kernel
theorem dX5_numberValue_32 : decode cX5_numberValue 32 = .ok (.getfield 22, 3) := by decide +kernel
theorem dX5_numberValue_35 : decode cX5_numberValue 35 = .ok (.if_icmp .ge 24, 3) := by decide +kernel
theorem dX5_numberValue_38 : decode cX5_numberValue 38 = .ok (.bipush 10, 2) := by decide +kernel
theorem dX5_numberValue_40 : decode cX5_numberValue 40 = .ok (.iload_n 1, 1) := by decide +kernel
theorem dX5_numberValue_41 : decode cX5_numberValue 41 = .ok (.imul, 1) := by decide +kernel
theorem dX5_numberValue_42 : decode cX5_numberValue 42 = .ok (.aload_n 0, 1) := by decide +kernel
theorem dX5_numberValue_43 : decode cX5_numberValue 43 = .ok (.getfield 9, 3) := by decide +kernel
theorem dX5_numberValue_46 : decode cX5_numberValue 46 = .ok (.iload_n 2, 1) := by decide +kernel
theorem dX5_numberValue_47 : decode cX5_numberValue 47 = .ok (.iaload, 1) := by decide +kernel
theorem dX5_numberValue_48 : decode cX5_numberValue 48 = .ok (.iadd, 1) := by decide +kernel
theorem dX5_numberValue_49 : decode cX5_numberValue 49 = .ok (.bipush 48, 2) := by decide +kernel
theorem dX5_numberValue_51 : decode cX5_numberValue 51 = .ok (.isub, 1) := by decide +kernel
theorem dX5_numberValue_52 : decode cX5_numberValue 52 = .ok (.istore_n 1, 1) := by decide +kernel
theorem dX5_numberValue_53 : decode cX5_numberValue 53 = .ok (.iinc 2 1, 3) := by decide +kernel
theorem dX5_numberValue_56 : decode cX5_numberValue 56 = .ok (.goto (-26), 3) := by decide +kernel
theorem dX5_numberValue_59 : decode cX5_numberValue 59 = .ok (.iload_n 1, 1) := by decide +kernel
theorem dX5_numberValue_60 : decode cX5_numberValue 60 = .ok (.ireturn, 1) := by decide +kernel
theorem dX6_init_0 : decode cX6_init 0 = .ok (.aload_n 0, 1) := by decide +kernel
theorem dX6_init_1 : decode cX6_init 1 = .ok (.invokespecial 1, 3) := by decide +kernel
theorem dX6_init_4 : decode cX6_init 4 = .ok (.aload_n 0, 1) := by decide +kernel
theorem dX6_init_5 : decode cX6_init 5 = .ok (.new 7, 3) := by decide +kernel
theorem dX6_init_8 : decode cX6_init 8 = .ok (.dup, 1) := by decide +kernel
theorem dX6_init_9 : decode cX6_init 9 = .ok (.invokespecial 9, 3) := by decide +kernel
theorem dX6_init_12 : decode cX6_init 12 = .ok (.putfield 10, 3) := by decide +kernel
theorem dX6_init_15 : decode cX6_init 15 = .ok (.aload_n 0, 1) := by decide +kernel
theorem dX6_init_16 : decode cX6_init 16 = .ok (.new 7, 3) := by decide +kernel
theorem dX6_init_19 : decode cX6_init 19 = .ok (.dup, 1) := by decide +kernel
theorem dX6_init_20 : decode cX6_init 20 = .ok (.invokespecial 9, 3) := by decide +kernel
theorem dX6_init_23 : decode cX6_init 23 = .ok (.putfield 16, 3) := by decide +kernel
theorem dX6_init_26 : decode cX6_init 26 = .ok (.aload_n 0, 1) := by decide +kernel
theorem dX6_init_27 : decode cX6_init 27 = .ok (.iconst 2, 1) := by decide +kernel
theorem dX6_init_28 : decode cX6_init 28 = .ok (.anewarray 7, 3) := by decide +kernel
theorem dX6_init_31 : decode cX6_init 31 = .ok (.dup, 1) := by decide +kernel
theorem dX6_init_32 : decode cX6_init 32 = .ok (.iconst 0, 1) := by decide +kernel
theorem dX6_init_33 : decode cX6_init 33 = .ok (.new 7, 3) := by decide +kernel
theorem dX6_init_36 : decode cX6_init 36 = .ok (.dup, 1) := by decide +kernel
theorem dX6_init_37 : decode cX6_init 37 = .ok (.invokespecial 9, 3) := by decide +kernel
theorem dX6_init_40 : decode cX6_init 40 = .ok (.aastore, 1) := by decide +kernel
theorem dX6_init_41 : decode cX6_init 41 = .ok (.dup, 1) := by decide +kernel
theorem dX6_init_42 : decode cX6_init 42 = .ok (.iconst 1, 1) := by decide +kernel
theorem dX6_init_43 : decode cX6_init 43 = .ok (.new 7, 3) := by decide +kernel
theorem dX6_init_46 : decode cX6_init 46 = .ok (.dup, 1) := by decide +kernel
theorem dX6_init_47 : decode cX6_init 47 = .ok (.invokespecial 9, 3) := by decide +kernel
theorem dX6_init_50 : decode cX6_init 50 = .ok (.aastore, 1) := by decide +kernel
theorem dX6_init_51 : decode cX6_init 51 = .ok (.putfield 19, 3) := by decide +kernel
theorem dX6_init_54 : decode cX6_init 54 = .ok (.aload_n 0, 1) := by decide +kernel
theorem dX6_init_55 : decode cX6_init 55 = .ok (.new 23, 3) := by decide +kernel
theorem dX6_init_58 : decode cX6_init 58 = .ok (.dup, 1) := by decide +kernel
theorem dX6_init_59 : decode cX6_init 59 = .ok (.invokespecial 25, 3) := by decide +kernel
theorem dX6_init_62 : decode cX6_init 62 = .ok (.putfield 26, 3) := by decide +kernel
theorem dX6_init_65 : decode cX6_init 65 = .ok (.aload_n 0, 1) := by decide +kernel
theorem dX6_init_66 : decode cX6_init 66 = .ok (.new 30, 3) := by decide +kernel
theorem dX6_init_69 : decode cX6_init 69 = .ok (.dup, 1) := by decide +kernel
theorem dX6_init_70 : decode cX6_init 70 = .ok (.invokespecial 32, 3) := by decide +kernel
theorem dX6_init_73 : decode cX6_init 73 = .ok (.putfield 33, 3) := by decide +kernel
theorem dX6_init_76 : decode cX6_init 76 = .ok (.aload_n 0, 1) := by decide +kernel
theorem dX6_init_77 : decode cX6_init 77 = .ok (.new 37, 3) := by decide +kernel
theorem dX6_init_80 : decode cX6_init 80 = .ok (.dup, 1) := by decide +kernel
theorem dX6_init_81 : decode cX6_init 81 = .ok (.invokespecial 39, 3) := by decide +kernel
theorem dX6_init_84 : decode cX6_init 84 = .ok (.putfield 40, 3) := by decide +kernel
theorem dX6_init_87 : decode cX6_init 87 = .ok (.aload_n 0, 1) := by decide +kernel
theorem dX6_init_88 : decode cX6_init 88 = .ok (.new 44, 3) := by decide +kernel
theorem dX6_init_91 : decode cX6_init 91 = .ok (.dup, 1) := by decide +kernel
theorem dX6_init_92 : decode cX6_init 92 = .ok (.invokespecial 46, 3) := by decide +kernel
theorem dX6_init_95 : decode cX6_init 95 = .ok (.putfield 47, 3) := by decide +kernel
theorem dX6_init_98 : decode cX6_init 98 = .ok (.aload_n 0, 1) := by decide +kernel
theorem dX6_init_99 : decode cX6_init 99 = .ok (.new 51, 3) := by decide +kernel
theorem dX6_init_102 : decode cX6_init 102 = .ok (.dup, 1) := by decide +kernel
theorem dX6_init_103 : decode cX6_init 103 = .ok (.invokespecial 53, 3) := by decide +kernel
theorem dX6_init_106 : decode cX6_init 106 = .ok (.putfield 54, 3) := by decide +kernel
theorem dX6_init_109 : decode cX6_init 109 = .ok (.aload_n 0, 1) := by decide +kernel
theorem dX6_init_110 : decode cX6_init 110 = .ok (.lconst 1, 1) := by decide +kernel
theorem dX6_init_111 : decode cX6_init 111 = .ok (.putfield 58, 3) := by decide +kernel
theorem dX6_init_114 : decode cX6_init 114 = .ok (.return_, 1) := by decide +kernel
theorem dX6_piece_0 : decode cX6_piece 0 = .ok (.iload_n 1, 1) := by decide +kernel
theorem dX6_piece_1 : decode cX6_piece 1 = .ok (.iconst 0, 1) := by decide +kernel
theorem dX6_piece_2 : decode cX6_piece 2 = .ok (.bipush 9, 2) := by decide +kernel
theorem dX6_piece_4 : decode cX6_piece 4 = .ok (.invokestatic 62, 3) := by decide +kernel
theorem dX6_piece_7 : decode cX6_piece 7 = .ok (.ifCond .ne 10, 3) := by decide +kernel
theorem dX6_piece_10 : decode cX6_piece 10 = .ok (.aload_n 0, 1) := by decide +kernel
theorem dX6_piece_11 : decode cX6_piece 11 = .ok (.bipush (-2), 2) := by decide +kernel
theorem dX6_piece_13 : decode cX6_piece 13 = .ok (.invokevirtual 66, 3) := by decide +kernel
theorem dX6_piece_16 : decode cX6_piece 16 = .ok (.ireturn, 1) := by decide +kernel
theorem dX6_piece_17 : decode cX6_piece 17 = .ok (.aload_n 0, 1) := by decide +kernel
theorem dX6_piece_18 : decode cX6_piece 18 = .ok (.getfield 10, 3) := by decide +kernel
theorem dX6_piece_21 : decode cX6_piece 21 = .ok (.getfield 70, 3) := by decide +kernel
theorem dX6_piece_24 : decode cX6_piece 24 = .ok (.istore_n 2, 1) := by decide +kernel
theorem dX6_piece_25 : decode cX6_piece 25 = .ok (.aload_n 0, 1) := by decide +kernel
theorem dX6_piece_26 : decode cX6_piece 26 = .ok (.getfield 10, 3) := by decide +kernel
theorem dX6_piece_29 : decode cX6_piece 29 = .ok (.iload_n 1, 1) := by decide +kernel
theorem dX6_piece_30 : decode cX6_piece 30 = .ok (.invokevirtual 74, 3) := by decide +kernel
theorem dX6_piece_33 : decode cX6_piece 33 = .ok (.aload_n 0, 1) := by decide +kernel
theorem dX6_piece_34 : decode cX6_piece 34 = .ok (.invokevirtual 78, 3) := by decide +kernel
theorem dX6_piece_37 : decode cX6_piece 37 = .ok (.iload_n 2, 1) := by decide +kernel
theorem dX6_piece_38 : decode cX6_piece 38 = .ok (.ireturn, 1) := by decide +kernel
theorem dX6_hand_0 : decode cX6_hand 0 = .ok (.iload_n 1, 1) := by decide +kernel
theorem dX6_hand_1 : decode cX6_hand 1 = .ok (.iconst 0, 1) := by decide +kernel
theorem dX6_hand_2 : decode cX6_hand 2 = .ok (.iconst 3, 1) := by decide +kernel
theorem dX6_hand_3 : decode cX6_hand 3 = .ok (.invokestatic 62, 3) := by decide +kernel
theorem dX6_hand_6 : decode cX6_hand 6 = .ok (.ifCond .eq 33, 3) := by decide +kernel
theorem dX6_hand_9 : decode cX6_hand 9 = .ok (.iload_n 2, 1) := by decide +kernel
theorem dX6_hand_10 : decode cX6_hand 10 = .ok (.iconst 0, 1) := by decide +kernel
theorem dX6_hand_11 : decode cX6_hand 11 = .ok (.iconst 5, 1) := by decide +kernel
theorem dX6_hand_12 : decode cX6_hand 12 = .ok (.invokestatic 62, 3) := by decide +kernel
theorem dX6_hand_15 : decode cX6_hand 15 = .ok (.ifCond .eq 24, 3) := by decide +kernel
theorem dX6_hand_18 : decode cX6_hand 18 = .ok (.iload_n 3, 1) := by decide +kernel
theorem dX6_hand_19 : decode cX6_hand 19 = .ok (.iconst 0, 1) := by decide +kernel
theorem dX6_hand_20 : decode cX6_hand 20 = .ok (.bipush 15, 2) := by decide +kernel
theorem dX6_hand_22 : decode cX6_hand 22 = .ok (.invokestatic 62, 3) := by decide +kernel
theorem dX6_hand_25 : decode cX6_hand 25 = .ok (.ifCond .eq 14, 3) := by decide +kernel
theorem dX6_hand_28 : decode cX6_hand 28 = .ok (.iload 4, 2) := by decide +kernel
theorem dX6_hand_30 : decode cX6_hand 30 = .ok (.iconst 1, 1) := by decide +kernel
theorem dX6_hand_31 : decode cX6_hand 31 = .ok (.bipush 9, 2) := by decide +kernel
theorem dX6_hand_33 : decode cX6_hand 33 = .ok (.invokestatic 62, 3) := by decide +kernel
theorem dX6_hand_36 : decode cX6_hand 36 = .ok (.ifCond .ne 10, 3) := by decide +kernel
theorem dX6_hand_39 : decode cX6_hand 39 = .ok (.aload_n 0, 1) := by decide +kernel
theorem dX6_hand_40 : decode cX6_hand 40 = .ok (.bipush (-2), 2) := by decide +kernel
theorem dX6_hand_42 : decode cX6_hand 42 = .ok (.invokevirtual 66, 3) := by decide +kernel
theorem dX6_hand_45 : decode cX6_hand 45 = .ok (.ireturn, 1) := by decide +kernel
theorem dX6_hand_46 : decode cX6_hand 46 = .ok (.aload_n 0, 1) := by decide +kernel
theorem dX6_hand_47 : decode cX6_hand 47 = .ok (.getfield 10, 3) := by decide +kernel
theorem dX6_hand_50 : decode cX6_hand 50 = .ok (.getfield 81, 3) := by decide +kernel
theorem dX6_hand_53 : decode cX6_hand 53 = .ok (.iload_n 1, 1) := by decide +kernel
theorem dX6_hand_54 : decode cX6_hand 54 = .ok (.iaload, 1) := by decide +kernel
theorem dX6_hand_55 : decode cX6_hand 55 = .ok (.istore 5, 2) := by decide +kernel
theorem dX6_hand_57 : decode cX6_hand 57 = .ok (.aload_n 0, 1) := by decide +kernel
theorem dX6_hand_58 : decode cX6_hand 58 = .ok (.getfield 10, 3) := by decide +kernel
theorem dX6_hand_61 : decode cX6_hand 61 = .ok (.iload_n 1, 1) := by decide +kernel
theorem dX6_hand_62 : decode cX6_hand 62 = .ok (.iload_n 2, 1) := by decide +kernel
theorem dX6_hand_63 : decode cX6_hand 63 = .ok (.iload_n 3, 1) := by decide +kernel
theorem dX6_hand_64 : decode cX6_hand 64 = .ok (.iload 4, 2) := by decide +kernel
theorem dX6_hand_66 : decode cX6_hand 66 = .ok (.invokevirtual 85, 3) := by decide +kernel
theorem dX6_hand_69 : decode cX6_hand 69 = .ok (.iload 5, 2) := by decide +kernel
theorem dX6_hand_71 : decode cX6_hand 71 = .ok (.ireturn, 1) := by decide +kernel
theorem dX6_note_0 : decode cX6_note 0 = .ok (.iload_n 1, 1) := by decide +kernel
theorem dX6_note_1 : decode cX6_note 1 = .ok (.iconst 0, 1) := by decide +kernel
theorem dX6_note_2 : decode cX6_note 2 = .ok (.bipush 47, 2) := by decide +kernel
theorem dX6_note_4 : decode cX6_note 4 = .ok (.invokestatic 62, 3) := by decide +kernel
theorem dX6_note_7 : decode cX6_note 7 = .ok (.ifCond .eq 56, 3) := by decide +kernel
theorem dX6_note_10 : decode cX6_note 10 = .ok (.iload_n 2, 1) := by decide +kernel
theorem dX6_note_11 : decode cX6_note 11 = .ok (.iconst 0, 1) := by decide +kernel
theorem dX6_note_12 : decode cX6_note 12 = .ok (.bipush 63, 2) := by decide +kernel
theorem dX6_note_14 : decode cX6_note 14 = .ok (.invokestatic 62, 3) := by decide +kernel
theorem dX6_note_17 : decode cX6_note 17 = .ok (.ifCond .eq 46, 3) := by decide +kernel
theorem dX6_note_20 : decode cX6_note 20 = .ok (.iload_n 3, 1) := by decide +kernel
theorem dX6_note_21 : decode cX6_note 21 = .ok (.iconst 1, 1) := by decide +kernel
theorem dX6_note_22 : decode cX6_note 22 = .ok (.iload_n 2, 1) := by decide +kernel
theorem dX6_note_23 : decode cX6_note 23 = .ok (.invokestatic 89, 3) := by decide +kernel
theorem dX6_note_26 : decode cX6_note 26 = .ok (.invokestatic 62, 3) := by decide +kernel
theorem dX6_note_29 : decode cX6_note 29 = .ok (.ifCond .eq 34, 3) := by decide +kernel
theorem dX6_note_32 : decode cX6_note 32 = .ok (.iload 4, 2) := by decide +kernel
theorem dX6_note_34 : decode cX6_note 34 = .ok (.iconst 0, 1) := by decide +kernel
theorem dX6_note_35 : decode cX6_note 35 = .ok (.iconst 1, 1) := by decide +kernel
theorem dX6_note_36 : decode cX6_note 36 = .ok (.invokestatic 62, 3) := by decide +kernel
theorem dX6_note_39 : decode cX6_note 39 = .ok (.ifCond .eq 24, 3) := by decide +kernel
theorem dX6_note_42 : decode cX6_note 42 = .ok (.iload 5, 2) := by decide +kernel
theorem dX6_note_44 : decode cX6_note 44 = .ok (.iconst 0, 1) := by decide +kernel
theorem dX6_note_45 : decode cX6_note 45 = .ok (.bipush 9, 2) := by decide +kernel
theorem dX6_note_47 : decode cX6_note 47 = .ok (.invokestatic 62, 3) := by decide +kernel
theorem dX6_note_50 : decode cX6_note 50 = .ok (.ifCond .eq 13, 3) := by decide +kernel
theorem dX6_note_53 : decode cX6_note 53 = .ok (.iload 6, 2) := by decide +kernel
theorem dX6_note_55 : decode cX6_note 55 = .ok (.iconst (-1), 1) := by decide +kernel
theorem dX6_note_56 : decode cX6_note 56 = .ok (.iconst 3, 1) := by decide +kernel
theorem dX6_note_57 : decode cX6_note 57 = .ok (.invokestatic 62, 3) := by decide +kernel
theorem dX6_note_60 : decode cX6_note 60 = .ok (.ifCond .ne 10, 3) := by decide +kernel
theorem dX6_note_63 : decode cX6_note 63 = .ok (.aload_n 0, 1) := by decide +kernel
theorem dX6_note_64 : decode cX6_note 64 = .ok (.bipush (-2), 2) := by decide +kernel
theorem dX6_note_66 : decode cX6_note 66 = .ok (.invokevirtual 66, 3) := by decide +kernel
theorem dX6_note_69 : decode cX6_note 69 = .ok (.ireturn, 1) := by decide +kernel
theorem dX6_note_70 : decode cX6_note 70 = .ok (.aload_n 0, 1) := by decide +kernel
theorem dX6_note_71 : decode cX6_note 71 = .ok (.getfield 10, 3) := by decide +kernel
theorem dX6_note_74 : decode cX6_note 74 = .ok (.getfield 70, 3) := by decide +kernel
theorem dX6_note_77 : decode cX6_note 77 = .ok (.bipush 12, 2) := by decide +kernel
theorem dX6_note_79 : decode cX6_note 79 = .ok (.if_icmp .lt 8, 3) := by decide +kernel
theorem dX6_note_82 : decode cX6_note 82 = .ok (.aload_n 0, 1) := by decide +kernel
theorem dX6_note_83 : decode cX6_note 83 = .ok (.invokevirtual 92, 3) := by decide +kernel
theorem dX6_note_86 : decode cX6_note 86 = .ok (.ireturn, 1) := by decide +kernel
theorem dX6_note_87 : decode cX6_note 87 = .ok (.aload_n 0, 1) := by decide +kernel
theorem dX6_note_88 : decode cX6_note 88 = .ok (.getfield 10, 3) := by decide +kernel
theorem dX6_note_91 : decode cX6_note 91 = .ok (.iload_n 1, 1) := by decide +kernel
theorem dX6_note_92 : decode cX6_note 92 = .ok (.iload_n 2, 1) := by decide +kernel
theorem dX6_note_93 : decode cX6_note 93 = .ok (.iload_n 3, 1) := by decide +kernel
theorem dX6_note_94 : decode cX6_note 94 = .ok (.iload 4, 2) := by decide +kernel
theorem dX6_note_96 : decode cX6_note 96 = .ok (.iload 5, 2) := by decide +kernel
theorem dX6_note_98 : decode cX6_note 98 = .ok (.iload 6, 2) := by decide +kernel
theorem dX6_note_100 : decode cX6_note 100 = .ok (.invokevirtual 96, 3) := by decide +kernel
theorem dX6_note_103 : decode cX6_note 103 = .ok (.aload_n 0, 1) := by decide +kernel
theorem dX6_note_104 : decode cX6_note 104 = .ok (.getfield 10, 3) := by decide +kernel
theorem dX6_note_107 : decode cX6_note 107 = .ok (.getfield 70, 3) := by decide +kernel
theorem dX6_note_110 : decode cX6_note 110 = .ok (.iconst 1, 1) := by decide +kernel
theorem dX6_note_111 : decode cX6_note 111 = .ok (.isub, 1) := by decide +kernel
theorem dX6_note_112 : decode cX6_note 112 = .ok (.ireturn, 1) := by decide +kernel
theorem dX6_type_0 : decode cX6_type 0 = .ok (.iload_n 1, 1) := by decide +kernel
theorem dX6_type_1 : decode cX6_type 1 = .ok (.iconst 0, 1) := by decide +kernel
theorem dX6_type_2 : decode cX6_type 2 = .ok (.bipush 127, 2) := by decide +kernel
theorem dX6_type_4 : decode cX6_type 4 = .ok (.invokestatic 62, 3) := by decide +kernel
theorem dX6_type_7 : decode cX6_type 7 = .ok (.ifCond .ne 10, 3) := by decide +kernel
theorem dX6_type_10 : decode cX6_type 10 = .ok (.aload_n 0, 1) := by decide +kernel
theorem dX6_type_11 : decode cX6_type 11 = .ok (.bipush (-2), 2) := by decide +kernel
theorem dX6_type_13 : decode cX6_type 13 = .ok (.invokevirtual 66, 3) := by decide +kernel
theorem dX6_type_16 : decode cX6_type 16 = .ok (.ireturn, 1) := by decide +kernel
theorem dX6_type_17 : decode cX6_type 17 = .ok (.aload_n 0, 1) := by decide +kernel
theorem dX6_type_18 : decode cX6_type 18 = .ok (.getfield 26, 3) := by decide +kernel
theorem dX6_type_21 : decode cX6_type 21 = .ok (.getfield 100, 3) := by decide +kernel
theorem dX6_type_24 : decode cX6_type 24 = .ok (.sipush 150, 3) := by decide +kernel
theorem dX6_type_27 : decode cX6_type 27 = .ok (.if_icmp .lt 8, 3) := by decide +kernel
theorem dX6_type_30 : decode cX6_type 30 = .ok (.aload_n 0, 1) := by decide +kernel
theorem dX6_type_31 : decode cX6_type 31 = .ok (.invokevirtual 92, 3) := by decide +kernel
theorem dX6_type_34 : decode cX6_type 34 = .ok (.ireturn, 1) := by decide +kernel
theorem dX6_type_35 : decode cX6_type 35 = .ok (.aload_n 0, 1) := by decide +kernel
theorem dX6_type_36 : decode cX6_type 36 = .ok (.getfield 26, 3) := by decide +kernel
theorem dX6_type_39 : decode cX6_type 39 = .ok (.iload_n 1, 1) := by decide +kernel
theorem dX6_type_40 : decode cX6_type 40 = .ok (.invokevirtual 103, 3) := by decide +kernel
theorem dX6_type_43 : decode cX6_type 43 = .ok (.aload_n 0, 1) := by decide +kernel
theorem dX6_type_44 : decode cX6_type 44 = .ok (.getfield 26, 3) := by decide +kernel
theorem dX6_type_47 : decode cX6_type 47 = .ok (.getfield 100, 3) := by decide +kernel
theorem dX6_type_50 : decode cX6_type 50 = .ok (.ireturn, 1) := by decide +kernel
theorem dX6_clear_0 : decode cX6_clear 0 = .ok (.aload_n 0, 1) := by decide +kernel
theorem dX6_clear_1 : decode cX6_clear 1 = .ok (.getfield 26, 3) := by decide +kernel
theorem dX6_clear_4 : decode cX6_clear 4 = .ok (.getfield 100, 3) := by decide +kernel
theorem dX6_clear_7 : decode cX6_clear 7 = .ok (.istore_n 1, 1) := by decide +kernel
theorem dX6_clear_8 : decode cX6_clear 8 = .ok (.aload_n 0, 1) := by decide +kernel
theorem dX6_clear_9 : decode cX6_clear 9 = .ok (.getfield 26, 3) := by decide +kernel
theorem dX6_clear_12 : decode cX6_clear 12 = .ok (.iconst 0, 1) := by decide +kernel
theorem dX6_clear_13 : decode cX6_clear 13 = .ok (.putfield 100, 3) := by decide +kernel
theorem dX6_clear_16 : decode cX6_clear 16 = .ok (.iload_n 1, 1) := by decide +kernel
theorem dX6_clear_17 : decode cX6_clear 17 = .ok (.ireturn, 1) := by decide +kernel
theorem dX6_read_0 : decode cX6_read 0 = .ok (.aload_n 0, 1) := by decide +kernel
theorem dX6_read_1 : decode cX6_read 1 = .ok (.getfield 26, 3) := by decide +kernel
theorem dX6_read_4 : decode cX6_read 4 = .ok (.aload_n 0, 1) := by decide +kernel
theorem dX6_read_5 : decode cX6_read 5 = .ok (.getfield 16, 3) := by decide +kernel
theorem dX6_read_8 : decode cX6_read 8 = .ok (.invokevirtual 106, 3) := by decide +kernel
theorem dX6_read_11 : decode cX6_read 11 = .ok (.istore_n 1, 1) := by decide +kernel
theorem dX6_read_12 : decode cX6_read 12 = .ok (.iload_n 1, 1) := by decide +kernel
theorem dX6_read_13 : decode cX6_read 13 = .ok (.ifCond .lt 14, 3) := by decide +kernel
theorem dX6_read_16 : decode cX6_read 16 = .ok (.aload_n 0, 1) := by decide +kernel
theorem dX6_read_17 : decode cX6_read 17 = .ok (.getfield 10, 3) := by decide +kernel
theorem dX6_read_20 : decode cX6_read 20 = .ok (.aload_n 0, 1) := by decide +kernel
theorem dX6_read_21 : decode cX6_read 21 = .ok (.getfield 16, 3) := by decide +kernel
theorem dX6_read_24 : decode cX6_read 24 = .ok (.invokevirtual 110, 3) := by decide +kernel
theorem dX6_read_27 : decode cX6_read 27 = .ok (.iload_n 1, 1) := by decide +kernel
theorem dX6_read_28 : decode cX6_read 28 = .ok (.ireturn, 1) := by decide +kernel
theorem dX6_give_0 : decode cX6_give 0 = .ok (.aload_n 0, 1) := by decide +kernel
theorem dX6_give_1 : decode cX6_give 1 = .ok (.iload_n 1, 1) := by decide +kernel
theorem dX6_give_2 : decode cX6_give 2 = .ok (.invokevirtual 114, 3) := by decide +kernel
theorem dX6_give_5 : decode cX6_give 5 = .ok (.ifCond .eq 12, 3) := by decide +kernel
theorem dX6_give_8 : decode cX6_give 8 = .ok (.iload_n 2, 1) := by decide +kernel
theorem dX6_give_9 : decode cX6_give 9 = .ok (.iconst (-1), 1) := by decide +kernel
theorem dX6_give_10 : decode cX6_give 10 = .ok (.iconst 3, 1) := by decide +kernel
theorem dX6_give_11 : decode cX6_give 11 = .ok (.invokestatic 62, 3) := by decide +kernel
theorem dX6_give_14 : decode cX6_give 14 = .ok (.ifCond .ne 10, 3) := by decide +kernel
theorem dX6_give_17 : decode cX6_give 17 = .ok (.aload_n 0, 1) := by decide +kernel
theorem dX6_give_18 : decode cX6_give 18 = .ok (.bipush (-2), 2) := by decide +kernel
theorem dX6_give_20 : decode cX6_give 20 = .ok (.invokevirtual 66, 3) := by decide +kernel
theorem dX6_give_23 : decode cX6_give 23 = .ok (.ireturn, 1) := by decide +kernel
theorem dX6_give_24 : decode cX6_give 24 = .ok (.aload_n 0, 1) := by decide +kernel
theorem dX6_give_25 : decode cX6_give 25 = .ok (.getfield 10, 3) := by decide +kernel
theorem dX6_give_28 : decode cX6_give 28 = .ok (.iload_n 1, 1) := by decide +kernel
theorem dX6_give_29 : decode cX6_give 29 = .ok (.iload_n 2, 1) := by decide +kernel
theorem dX6_give_30 : decode cX6_give 30 = .ok (.invokevirtual 118, 3) := by decide +kernel
theorem dX6_give_33 : decode cX6_give 33 = .ok (.aload_n 0, 1) := by decide +kernel
theorem dX6_give_34 : decode cX6_give 34 = .ok (.getfield 10, 3) := by decide +kernel
theorem dX6_give_37 : decode cX6_give 37 = .ok (.invokevirtual 122, 3) := by decide +kernel
theorem dX6_give_40 : decode cX6_give 40 = .ok (.ireturn, 1) := by decide +kernel
theorem dX6_undo_0 : decode cX6_undo 0 = .ok (.aload_n 0, 1) := by decide +kernel
theorem dX6_undo_1 : decode cX6_undo 1 = .ok (.getfield 10, 3) := by decide +kernel
theorem dX6_undo_4 : decode cX6_undo 4 = .ok (.getfield 125, 3) := by decide +kernel
theorem dX6_undo_7 : decode cX6_undo 7 = .ok (.ifCond .gt 10, 3) := by decide +kernel
theorem dX6_undo_10 : decode cX6_undo 10 = .ok (.aload_n 0, 1) := by decide +kernel
theorem dX6_undo_11 : decode cX6_undo 11 = .ok (.bipush (-3), 2) := by decide +kernel
theorem dX6_undo_13 : decode cX6_undo 13 = .ok (.invokevirtual 128, 3) := by decide +kernel
theorem dX6_undo_16 : decode cX6_undo 16 = .ok (.ireturn, 1) := by decide +kernel
theorem dX6_undo_17 : decode cX6_undo 17 = .ok (.aload_n 0, 1) := by decide +kernel
theorem dX6_undo_18 : decode cX6_undo 18 = .ok (.getfield 10, 3) := by decide +kernel
theorem dX6_undo_21 : decode cX6_undo 21 = .ok (.invokevirtual 131, 3) := by decide +kernel
theorem dX6_undo_24 : decode cX6_undo 24 = .ok (.aload_n 0, 1) := by decide +kernel
theorem dX6_undo_25 : decode cX6_undo 25 = .ok (.getfield 10, 3) := by decide +kernel
theorem dX6_undo_28 : decode cX6_undo 28 = .ok (.invokevirtual 122, 3) := by decide +kernel
theorem dX6_undo_31 : decode cX6_undo 31 = .ok (.ireturn, 1) := by decide +kernel
theorem dX6_of_0 : decode cX6_of 0 = .ok (.aload_n 0, 1) := by decide +kernel
theorem dX6_of_1 : decode cX6_of 1 = .ok (.iload_n 1, 1) := by decide +kernel
theorem dX6_of_2 : decode cX6_of 2 = .ok (.invokevirtual 114, 3) := by decide +kernel
theorem dX6_of_5 : decode cX6_of 5 = .ok (.ifCond .ne 10, 3) := by decide +kernel
theorem dX6_of_8 : decode cX6_of 8 = .ok (.aload_n 0, 1) := by decide +kernel
theorem dX6_of_9 : decode cX6_of 9 = .ok (.bipush (-10), 2) := by decide +kernel
theorem dX6_of_11 : decode cX6_of 11 = .ok (.invokevirtual 66, 3) := by decide +kernel
theorem dX6_of_14 : decode cX6_of 14 = .ok (.ireturn, 1) := by decide +kernel
theorem dX6_of_15 : decode cX6_of 15 = .ok (.iload_n 2, 1) := by decide +kernel
theorem dX6_of_16 : decode cX6_of 16 = .ok (.tableswitch 100 0 5 #[40, 50, 60, 70, 80, 90], 40) := by decide +kernel
theorem dX6_of_56 : decode cX6_of 56 = .ok (.aload_n 0, 1) := by decide +kernel
theorem dX6_of_57 : decode cX6_of 57 = .ok (.getfield 10, 3) := by decide +kernel
theorem dX6_of_60 : decode cX6_of 60 = .ok (.getfield 134, 3) := by decide +kernel
theorem dX6_of_63 : decode cX6_of 63 = .ok (.iload_n 1, 1) := by decide +kernel
theorem dX6_of_64 : decode cX6_of 64 = .ok (.iaload, 1) := by decide +kernel
theorem dX6_of_65 : decode cX6_of 65 = .ok (.ireturn, 1) := by decide +kernel
theorem dX6_of_66 : decode cX6_of 66 = .ok (.aload_n 0, 1) := by decide +kernel
theorem dX6_of_67 : decode cX6_of 67 = .ok (.getfield 10, 3) := by decide +kernel
theorem dX6_of_70 : decode cX6_of 70 = .ok (.getfield 137, 3) := by decide +kernel
theorem dX6_of_73 : decode cX6_of 73 = .ok (.iload_n 1, 1) := by decide +kernel
theorem dX6_of_74 : decode cX6_of 74 = .ok (.iaload, 1) := by decide +kernel
theorem dX6_of_75 : decode cX6_of 75 = .ok (.ireturn, 1) := by decide +kernel
theorem dX6_of_76 : decode cX6_of 76 = .ok (.aload_n 0, 1) := by decide +kernel
theorem dX6_of_77 : decode cX6_of 77 = .ok (.getfield 10, 3) := by decide +kernel
theorem dX6_of_80 : decode cX6_of 80 = .ok (.getfield 140, 3) := by decide +kernel
theorem dX6_of_83 : decode cX6_of 83 = .ok (.iload_n 1, 1) := by decide +kernel
theorem dX6_of_84 : decode cX6_of 84 = .ok (.iaload, 1) := by decide +kernel
theorem dX6_of_85 : decode cX6_of 85 = .ok (.ireturn, 1) := by decide +kernel
theorem dX6_of_86 : decode cX6_of 86 = .ok (.aload_n 0, 1) := by decide +kernel
theorem dX6_of_87 : decode cX6_of 87 = .ok (.getfield 10, 3) := by decide +kernel
theorem dX6_of_90 : decode cX6_of 90 = .ok (.getfield 143, 3) := by decide +kernel
theorem dX6_of_93 : decode cX6_of 93 = .ok (.iload_n 1, 1) := by decide +kernel
theorem dX6_of_94 : decode cX6_of 94 = .ok (.iaload, 1) := by decide +kernel
theorem dX6_of_95 : decode cX6_of 95 = .ok (.ireturn, 1) := by decide +kernel
theorem dX6_of_96 : decode cX6_of 96 = .ok (.aload_n 0, 1) := by decide +kernel
theorem dX6_of_97 : decode cX6_of 97 = .ok (.getfield 10, 3) := by decide +kernel
theorem dX6_of_100 : decode cX6_of 100 = .ok (.getfield 146, 3) := by decide +kernel
theorem dX6_of_103 : decode cX6_of 103 = .ok (.iload_n 1, 1) := by decide +kernel
theorem dX6_of_104 : decode cX6_of 104 = .ok (.iaload, 1) := by decide +kernel
theorem dX6_of_105 : decode cX6_of 105 = .ok (.ireturn, 1) := by decide +kernel
theorem dX6_of_106 : decode cX6_of 106 = .ok (.aload_n 0, 1) := by decide +kernel
theorem dX6_of_107 : decode cX6_of 107 = .ok (.getfield 10, 3) := by decide +kernel
theorem dX6_of_110 : decode cX6_of 110 = .ok (.getfield 149, 3) := by decide +kernel
theorem dX6_of_113 : decode cX6_of 113 = .ok (.iload_n 1, 1) := by decide +kernel
theorem dX6_of_114 : decode cX6_of 114 = .ok (.iaload, 1) := by decide +kernel
theorem dX6_of_115 : decode cX6_of 115 = .ok (.ireturn, 1) := by decide +kernel
theorem dX6_of_116 : decode cX6_of 116 = .ok (.aload_n 0, 1) := by decide +kernel
theorem dX6_of_117 : decode cX6_of 117 = .ok (.bipush (-10), 2) := by decide +kernel
theorem dX6_of_119 : decode cX6_of 119 = .ok (.invokevirtual 66, 3) := by decide +kernel
theorem dX6_of_122 : decode cX6_of 122 = .ok (.ireturn, 1) := by decide +kernel
theorem dX6_about_0 : decode cX6_about 0 = .ok (.iload_n 1, 1) := by decide +kernel
theorem dX6_about_1 : decode cX6_about 1 = .ok (.iconst 0, 1) := by decide +kernel
theorem dX6_about_2 : decode cX6_about 2 = .ok (.iconst 3, 1) := by decide +kernel
theorem dX6_about_3 : decode cX6_about 3 = .ok (.invokestatic 62, 3) := by decide +kernel
theorem dX6_about_6 : decode cX6_about 6 = .ok (.ifCond .ne 10, 3) := by decide +kernel
theorem dX6_about_9 : decode cX6_about 9 = .ok (.aload_n 0, 1) := by decide +kernel
theorem dX6_about_10 : decode cX6_about 10 = .ok (.bipush (-2), 2) := by decide +kernel
theorem dX6_about_12 : decode cX6_about 12 = .ok (.invokevirtual 66, 3) := by decide +kernel
theorem dX6_about_15 : decode cX6_about 15 = .ok (.ireturn, 1) := by decide +kernel
theorem dX6_about_16 : decode cX6_about 16 = .ok (.iload_n 2, 1) := by decide +kernel
theorem dX6_about_17 : decode cX6_about 17 = .ok (.tableswitch 81 0 4 #[35, 45, 54, 63, 72], 35) := by decide +kernel
theorem dX6_about_52 : decode cX6_about 52 = .ok (.aload_n 0, 1) := by decide +kernel
theorem dX6_about_53 : decode cX6_about 53 = .ok (.getfield 10, 3) := by decide +kernel
theorem dX6_about_56 : decode cX6_about 56 = .ok (.getfield 81, 3) := by decide +kernel
theorem dX6_about_59 : decode cX6_about 59 = .ok (.iload_n 1, 1) := by decide +kernel
theorem dX6_about_60 : decode cX6_about 60 = .ok (.iaload, 1) := by decide +kernel
theorem dX6_about_61 : decode cX6_about 61 = .ok (.ireturn, 1) := by decide +kernel
theorem dX6_about_62 : decode cX6_about 62 = .ok (.aload_n 0, 1) := by decide +kernel
theorem dX6_about_63 : decode cX6_about 63 = .ok (.getfield 10, 3) := by decide +kernel
theorem dX6_about_66 : decode cX6_about 66 = .ok (.iload_n 1, 1) := by decide +kernel
theorem dX6_about_67 : decode cX6_about 67 = .ok (.invokevirtual 152, 3) := by decide +kernel
theorem dX6_about_70 : decode cX6_about 70 = .ok (.ireturn, 1) := by decide +kernel
theorem dX6_about_71 : decode cX6_about 71 = .ok (.aload_n 0, 1) := by decide +kernel
theorem dX6_about_72 : decode cX6_about 72 = .ok (.getfield 10, 3) := by decide +kernel
theorem dX6_about_75 : decode cX6_about 75 = .ok (.iload_n 1, 1) := by decide +kernel
theorem dX6_about_76 : decode cX6_about 76 = .ok (.invokevirtual 155, 3) := by decide +kernel
theorem dX6_about_79 : decode cX6_about 79 = .ok (.ireturn, 1) := by decide +kernel
theorem dX6_about_80 : decode cX6_about 80 = .ok (.aload_n 0, 1) := by decide +kernel
theorem dX6_about_81 : decode cX6_about 81 = .ok (.getfield 10, 3) := by decide +kernel
theorem dX6_about_84 : decode cX6_about 84 = .ok (.iload_n 1, 1) := by decide +kernel
theorem dX6_about_85 : decode cX6_about 85 = .ok (.invokevirtual 158, 3) := by decide +kernel
theorem dX6_about_88 : decode cX6_about 88 = .ok (.ireturn, 1) := by decide +kernel
theorem dX6_about_89 : decode cX6_about 89 = .ok (.aload_n 0, 1) := by decide +kernel
theorem dX6_about_90 : decode cX6_about 90 = .ok (.getfield 10, 3) := by decide +kernel
theorem dX6_about_93 : decode cX6_about 93 = .ok (.iload_n 1, 1) := by decide +kernel
theorem dX6_about_94 : decode cX6_about 94 = .ok (.invokevirtual 161, 3) := by decide +kernel
theorem dX6_about_97 : decode cX6_about 97 = .ok (.ireturn, 1) := by decide +kernel
theorem dX6_about_98 : decode cX6_about 98 = .ok (.aload_n 0, 1) := by decide +kernel
theorem dX6_about_99 : decode cX6_about 99 = .ok (.bipush (-2), 2) := by decide +kernel
theorem dX6_about_101 : decode cX6_about 101 = .ok (.invokevirtual 66, 3) := by decide +kernel
theorem dX6_about_104 : decode cX6_about 104 = .ok (.ireturn, 1) := by decide +kernel
theorem dX6_clash_0 : decode cX6_clash 0 = .ok (.aload_n 0, 1) := by decide +kernel
theorem dX6_clash_1 : decode cX6_clash 1 = .ok (.iload_n 1, 1) := by decide +kernel
theorem dX6_clash_2 : decode cX6_clash 2 = .ok (.invokevirtual 114, 3) := by decide +kernel
theorem dX6_clash_5 : decode cX6_clash 5 = .ok (.ifCond .eq 16, 3) := by decide +kernel
theorem dX6_clash_8 : decode cX6_clash 8 = .ok (.aload_n 0, 1) := by decide +kernel
theorem dX6_clash_9 : decode cX6_clash 9 = .ok (.iload_n 2, 1) := by decide +kernel
theorem dX6_clash_10 : decode cX6_clash 10 = .ok (.invokevirtual 114, 3) := by decide +kernel
theorem dX6_clash_13 : decode cX6_clash 13 = .ok (.ifCond .eq 8, 3) := by decide +kernel
theorem dX6_clash_16 : decode cX6_clash 16 = .ok (.iload_n 1, 1) := by decide +kernel
theorem dX6_clash_17 : decode cX6_clash 17 = .ok (.iload_n 2, 1) := by decide +kernel
theorem dX6_clash_18 : decode cX6_clash 18 = .ok (.if_icmp .ne 10, 3) := by decide +kernel
theorem dX6_clash_21 : decode cX6_clash 21 = .ok (.aload_n 0, 1) := by decide +kernel
theorem dX6_clash_22 : decode cX6_clash 22 = .ok (.bipush (-2), 2) := by decide +kernel
theorem dX6_clash_24 : decode cX6_clash 24 = .ok (.invokevirtual 66, 3) := by decide +kernel
theorem dX6_clash_27 : decode cX6_clash 27 = .ok (.ireturn, 1) := by decide +kernel
theorem dX6_clash_28 : decode cX6_clash 28 = .ok (.aload_n 0, 1) := by decide +kernel
theorem dX6_clash_29 : decode cX6_clash 29 = .ok (.getfield 10, 3) := by decide +kernel
theorem dX6_clash_32 : decode cX6_clash 32 = .ok (.iload_n 1, 1) := by decide +kernel
theorem dX6_clash_33 : decode cX6_clash 33 = .ok (.iload_n 2, 1) := by decide +kernel
theorem dX6_clash_34 : decode cX6_clash 34 = .ok (.invokevirtual 164, 3) := by decide +kernel
theorem dX6_clash_37 : decode cX6_clash 37 = .ok (.ireturn, 1) := by decide +kernel
theorem dX6_clashes_0 : decode cX6_clashes 0 = .ok (.iload_n 1, 1) := by decide +kernel
theorem dX6_clashes_1 : decode cX6_clashes 1 = .ok (.iconst (-1), 1) := by decide +kernel
theorem dX6_clashes_2 : decode cX6_clashes 2 = .ok (.iconst 5, 1) := by decide +kernel
theorem dX6_clashes_3 : decode cX6_clashes 3 = .ok (.invokestatic 62, 3) := by decide +kernel
theorem dX6_clashes_6 : decode cX6_clashes 6 = .ok (.ifCond .eq 8, 3) := by decide +kernel
theorem dX6_clashes_9 : decode cX6_clashes 9 = .ok (.iload_n 2, 1) := by decide +kernel
theorem dX6_clashes_10 : decode cX6_clashes 10 = .ok (.iconst (-1), 1) := by decide +kernel
theorem dX6_clashes_11 : decode cX6_clashes 11 = .ok (.if_icmp .ge 10, 3) := by decide +kernel
theorem dX6_clashes_14 : decode cX6_clashes 14 = .ok (.aload_n 0, 1) := by decide +kernel
theorem dX6_clashes_15 : decode cX6_clashes 15 = .ok (.bipush (-10), 2) := by decide +kernel
theorem dX6_clashes_17 : decode cX6_clashes 17 = .ok (.invokevirtual 66, 3) := by decide +kernel
theorem dX6_clashes_20 : decode cX6_clashes 20 = .ok (.ireturn, 1) := by decide +kernel
theorem dX6_clashes_21 : decode cX6_clashes 21 = .ok (.iconst 0, 1) := by decide +kernel
theorem dX6_clashes_22 : decode cX6_clashes 22 = .ok (.istore_n 3, 1) := by decide +kernel
theorem dX6_clashes_23 : decode cX6_clashes 23 = .ok (.iconst 0, 1) := by decide +kernel
theorem dX6_clashes_24 : decode cX6_clashes 24 = .ok (.istore 4, 2) := by decide +kernel
theorem dX6_clashes_26 : decode cX6_clashes 26 = .ok (.iload 4, 2) := by decide +kernel
theorem dX6_clashes_28 : decode cX6_clashes 28 = .ok (.aload_n 0, 1) := by decide +kernel
theorem dX6_clashes_29 : decode cX6_clashes 29 = .ok (.getfield 10, 3) := by decide +kernel
theorem dX6_clashes_32 : decode cX6_clashes 32 = .ok (.getfield 70, 3) := by decide +kernel
theorem dX6_clashes_35 : decode cX6_clashes 35 = .ok (.if_icmp .ge 83, 3) := by decide +kernel
theorem dX6_clashes_38 : decode cX6_clashes 38 = .ok (.iload 4, 2) := by decide +kernel
theorem dX6_clashes_40 : decode cX6_clashes 40 = .ok (.iconst 1, 1) := by decide +kernel
theorem dX6_clashes_41 : decode cX6_clashes 41 = .ok (.iadd, 1) := by decide +kernel
theorem dX6_clashes_42 : decode cX6_clashes 42 = .ok (.istore 5, 2) := by decide +kernel
theorem dX6_clashes_44 : decode cX6_clashes 44 = .ok (.iload 5, 2) := by decide +kernel
theorem dX6_clashes_46 : decode cX6_clashes 46 = .ok (.aload_n 0, 1) := by decide +kernel
theorem dX6_clashes_47 : decode cX6_clashes 47 = .ok (.getfield 10, 3) := by decide +kernel
theorem dX6_clashes_50 : decode cX6_clashes 50 = .ok (.getfield 70, 3) := by decide +kernel
theorem dX6_clashes_53 : decode cX6_clashes 53 = .ok (.if_icmp .ge 59, 3) := by decide +kernel
theorem dX6_clashes_56 : decode cX6_clashes 56 = .ok (.aload_n 0, 1) := by decide +kernel
theorem dX6_clashes_57 : decode cX6_clashes 57 = .ok (.getfield 10, 3) := by decide +kernel
theorem dX6_clashes_60 : decode cX6_clashes 60 = .ok (.iload 4, 2) := by decide +kernel
theorem dX6_clashes_62 : decode cX6_clashes 62 = .ok (.iload 5, 2) := by decide +kernel
theorem dX6_clashes_64 : decode cX6_clashes 64 = .ok (.invokevirtual 164, 3) := by decide +kernel
theorem dX6_clashes_67 : decode cX6_clashes 67 = .ok (.istore 6, 2) := by decide +kernel
theorem dX6_clashes_69 : decode cX6_clashes 69 = .ok (.iload 6, 2) := by decide +kernel
theorem dX6_clashes_71 : decode cX6_clashes 71 = .ok (.iconst (-1), 1) := by decide +kernel
theorem dX6_clashes_72 : decode cX6_clashes 72 = .ok (.if_icmp .eq 34, 3) := by decide +kernel
theorem dX6_clashes_75 : decode cX6_clashes 75 = .ok (.iload_n 1, 1) := by decide +kernel
theorem dX6_clashes_76 : decode cX6_clashes 76 = .ok (.iconst (-1), 1) := by decide +kernel
theorem dX6_clashes_77 : decode cX6_clashes 77 = .ok (.if_icmp .eq 12, 3) := by decide +kernel
theorem dX6_clashes_80 : decode cX6_clashes 80 = .ok (.iload 6, 2) := by decide +kernel
theorem dX6_clashes_82 : decode cX6_clashes 82 = .ok (.iload_n 1, 1) := by decide +kernel
theorem dX6_clashes_83 : decode cX6_clashes 83 = .ok (.if_icmp .eq 6, 3) := by decide +kernel
theorem dX6_clashes_86 : decode cX6_clashes 86 = .ok (.goto 20, 3) := by decide +kernel
theorem dX6_clashes_89 : decode cX6_clashes 89 = .ok (.iload_n 3, 1) := by decide +kernel
theorem dX6_clashes_90 : decode cX6_clashes 90 = .ok (.iload_n 2, 1) := by decide +kernel
theorem dX6_clashes_91 : decode cX6_clashes 91 = .ok (.if_icmp .ne 12, 3) := by decide +kernel
theorem dX6_clashes_94 : decode cX6_clashes 94 = .ok (.bipush 100, 2) := by decide +kernel
theorem dX6_clashes_96 : decode cX6_clashes 96 = .ok (.iload 4, 2) := by decide +kernel
theorem dX6_clashes_98 : decode cX6_clashes 98 = .ok (.imul, 1) := by decide +kernel
theorem dX6_clashes_99 : decode cX6_clashes 99 = .ok (.iload 5, 2) := by decide +kernel
theorem dX6_clashes_101 : decode cX6_clashes 101 = .ok (.iadd, 1) := by decide +kernel
theorem dX6_clashes_102 : decode cX6_clashes 102 = .ok (.ireturn, 1) := by decide +kernel
theorem dX6_clashes_103 : decode cX6_clashes 103 = .ok (.iinc 3 1, 3) := by decide +kernel
theorem dX6_clashes_106 : decode cX6_clashes 106 = .ok (.iinc 5 1, 3) := by decide +kernel
theorem dX6_clashes_109 : decode cX6_clashes 109 = .ok (.goto (-65), 3) := by decide +kernel
theorem dX6_clashes_112 : decode cX6_clashes 112 = .ok (.iinc 4 1, 3) := by decide +kernel
theorem dX6_clashes_115 : decode cX6_clashes 115 = .ok (.goto (-89), 3) := by decide +kernel
theorem dX6_clashes_118 : decode cX6_clashes 118 = .ok (.iload_n 2, 1) := by decide +kernel
theorem dX6_clashes_119 : decode cX6_clashes 119 = .ok (.iconst (-1), 1) := by decide +kernel
theorem dX6_clashes_120 : decode cX6_clashes 120 = .ok (.if_icmp .ne 7, 3) := by decide +kernel
theorem dX6_clashes_123 : decode cX6_clashes 123 = .ok (.iload_n 3, 1) := by decide +kernel
theorem dX6_clashes_124 : decode cX6_clashes 124 = .ok (.goto 5, 3) := by decide +kernel
theorem dX6_clashes_127 : decode cX6_clashes 127 = .ok (.bipush (-5), 2) := by decide +kernel
theorem dX6_clashes_129 : decode cX6_clashes 129 = .ok (.ireturn, 1) := by decide +kernel
theorem dX6_given_0 : decode cX6_given 0 = .ok (.iload_n 1, 1) := by decide +kernel
theorem dX6_given_1 : decode cX6_given 1 = .ok (.iconst 0, 1) := by decide +kernel
theorem dX6_given_2 : decode cX6_given 2 = .ok (.iconst 2, 1) := by decide +kernel
theorem dX6_given_3 : decode cX6_given 3 = .ok (.invokestatic 62, 3) := by decide +kernel
theorem dX6_given_6 : decode cX6_given 6 = .ok (.ifCond .eq 8, 3) := by decide +kernel
theorem dX6_given_9 : decode cX6_given 9 = .ok (.iload_n 2, 1) := by decide +kernel
theorem dX6_given_10 : decode cX6_given 10 = .ok (.iconst (-1), 1) := by decide +kernel
theorem dX6_given_11 : decode cX6_given 11 = .ok (.if_icmp .ge 10, 3) := by decide +kernel
theorem dX6_given_14 : decode cX6_given 14 = .ok (.aload_n 0, 1) := by decide +kernel
theorem dX6_given_15 : decode cX6_given 15 = .ok (.bipush (-10), 2) := by decide +kernel
theorem dX6_given_17 : decode cX6_given 17 = .ok (.invokevirtual 66, 3) := by decide +kernel
theorem dX6_given_20 : decode cX6_given 20 = .ok (.ireturn, 1) := by decide +kernel
theorem dX6_given_21 : decode cX6_given 21 = .ok (.aload_n 0, 1) := by decide +kernel
theorem dX6_given_22 : decode cX6_given 22 = .ok (.getfield 33, 3) := by decide +kernel
theorem dX6_given_25 : decode cX6_given 25 = .ok (.aload_n 0, 1) := by decide +kernel
theorem dX6_given_26 : decode cX6_given 26 = .ok (.getfield 10, 3) := by decide +kernel
theorem dX6_given_29 : decode cX6_given 29 = .ok (.iload_n 1, 1) := by decide +kernel
theorem dX6_given_30 : decode cX6_given 30 = .ok (.invokevirtual 168, 3) := by decide +kernel
theorem dX6_given_33 : decode cX6_given 33 = .ok (.iload_n 2, 1) := by decide +kernel
theorem dX6_given_34 : decode cX6_given 34 = .ok (.iconst (-1), 1) := by decide +kernel
theorem dX6_given_35 : decode cX6_given 35 = .ok (.if_icmp .ne 11, 3) := by decide +kernel
theorem dX6_given_38 : decode cX6_given 38 = .ok (.aload_n 0, 1) := by decide +kernel
theorem dX6_given_39 : decode cX6_given 39 = .ok (.getfield 33, 3) := by decide +kernel
theorem dX6_given_42 : decode cX6_given 42 = .ok (.getfield 172, 3) := by decide +kernel
theorem dX6_given_45 : decode cX6_given 45 = .ok (.ireturn, 1) := by decide +kernel
theorem dX6_given_46 : decode cX6_given 46 = .ok (.iload_n 2, 1) := by decide +kernel
theorem dX6_given_47 : decode cX6_given 47 = .ok (.aload_n 0, 1) := by decide +kernel
theorem dX6_given_48 : decode cX6_given 48 = .ok (.getfield 33, 3) := by decide +kernel
theorem dX6_given_51 : decode cX6_given 51 = .ok (.getfield 175, 3) := by decide +kernel
theorem dX6_given_54 : decode cX6_given 54 = .ok (.if_icmp .ge 20, 3) := by decide +kernel
theorem dX6_given_57 : decode cX6_given 57 = .ok (.iload_n 2, 1) := by decide +kernel
theorem dX6_given_58 : decode cX6_given 58 = .ok (.iconst 2, 1) := by decide +kernel
theorem dX6_given_59 : decode cX6_given 59 = .ok (.if_icmp .ge 15, 3) := by decide +kernel
theorem dX6_given_62 : decode cX6_given 62 = .ok (.aload_n 0, 1) := by decide +kernel
theorem dX6_given_63 : decode cX6_given 63 = .ok (.getfield 33, 3) := by decide +kernel
theorem dX6_given_66 : decode cX6_given 66 = .ok (.getfield 178, 3) := by decide +kernel
theorem dX6_given_69 : decode cX6_given 69 = .ok (.iload_n 2, 1) := by decide +kernel
theorem dX6_given_70 : decode cX6_given 70 = .ok (.iaload, 1) := by decide +kernel
theorem dX6_given_71 : decode cX6_given 71 = .ok (.goto 5, 3) := by decide +kernel
theorem dX6_given_74 : decode cX6_given 74 = .ok (.bipush (-5), 2) := by decide +kernel
theorem dX6_given_76 : decode cX6_given 76 = .ok (.ireturn, 1) := by decide +kernel
theorem dX6_out_0 : decode cX6_out 0 = .ok (.iconst 1, 1) := by decide +kernel
theorem dX6_out_1 : decode cX6_out 1 = .ok (.aload_n 0, 1) := by decide +kernel
theorem dX6_out_2 : decode cX6_out 2 = .ok (.getfield 10, 3) := by decide +kernel
theorem dX6_out_5 : decode cX6_out 5 = .ok (.getfield 70, 3) := by decide +kernel
theorem dX6_out_8 : decode cX6_out 8 = .ok (.ishl, 1) := by decide +kernel
theorem dX6_out_9 : decode cX6_out 9 = .ok (.iconst 1, 1) := by decide +kernel
theorem dX6_out_10 : decode cX6_out 10 = .ok (.isub, 1) := by decide +kernel
theorem dX6_out_11 : decode cX6_out 11 = .ok (.istore_n 1, 1) := by decide +kernel
theorem dX6_out_12 : decode cX6_out 12 = .ok (.aload_n 0, 1) := by decide +kernel
theorem dX6_out_13 : decode cX6_out 13 = .ok (.getfield 10, 3) := by decide +kernel
theorem dX6_out_16 : decode cX6_out 16 = .ok (.getfield 70, 3) := by decide +kernel
theorem dX6_out_19 : decode cX6_out 19 = .ok (.istore_n 2, 1) := by decide +kernel
theorem dX6_out_20 : decode cX6_out 20 = .ok (.aload_n 0, 1) := by decide +kernel
theorem dX6_out_21 : decode cX6_out 21 = .ok (.getfield 10, 3) := by decide +kernel
theorem dX6_out_24 : decode cX6_out 24 = .ok (.invokevirtual 181, 3) := by decide +kernel
theorem dX6_out_27 : decode cX6_out 27 = .ok (.iconst 0, 1) := by decide +kernel
theorem dX6_out_28 : decode cX6_out 28 = .ok (.istore_n 3, 1) := by decide +kernel
theorem dX6_out_29 : decode cX6_out 29 = .ok (.iload_n 3, 1) := by decide +kernel
theorem dX6_out_30 : decode cX6_out 30 = .ok (.iconst 1, 1) := by decide +kernel
theorem dX6_out_31 : decode cX6_out 31 = .ok (.aload_n 0, 1) := by decide +kernel
theorem dX6_out_32 : decode cX6_out 32 = .ok (.getfield 10, 3) := by decide +kernel
theorem dX6_out_35 : decode cX6_out 35 = .ok (.getfield 70, 3) := by decide +kernel
theorem dX6_out_38 : decode cX6_out 38 = .ok (.ishl, 1) := by decide +kernel
theorem dX6_out_39 : decode cX6_out 39 = .ok (.if_icmp .ge 37, 3) := by decide +kernel
theorem dX6_out_42 : decode cX6_out 42 = .ok (.iload_n 3, 1) := by decide +kernel
theorem dX6_out_43 : decode cX6_out 43 = .ok (.invokestatic 184, 3) := by decide +kernel
theorem dX6_out_46 : decode cX6_out 46 = .ok (.istore 4, 2) := by decide +kernel
theorem dX6_out_48 : decode cX6_out 48 = .ok (.iload 4, 2) := by decide +kernel
theorem dX6_out_50 : decode cX6_out 50 = .ok (.iload_n 2, 1) := by decide +kernel
theorem dX6_out_51 : decode cX6_out 51 = .ok (.if_icmp .ge 19, 3) := by decide +kernel
theorem dX6_out_54 : decode cX6_out 54 = .ok (.aload_n 0, 1) := by decide +kernel
theorem dX6_out_55 : decode cX6_out 55 = .ok (.getfield 10, 3) := by decide +kernel
theorem dX6_out_58 : decode cX6_out 58 = .ok (.iload_n 3, 1) := by decide +kernel
theorem dX6_out_59 : decode cX6_out 59 = .ok (.invokevirtual 189, 3) := by decide +kernel
theorem dX6_out_62 : decode cX6_out 62 = .ok (.ifCond .eq 8, 3) := by decide +kernel
theorem dX6_out_65 : decode cX6_out 65 = .ok (.iload_n 3, 1) := by decide +kernel
theorem dX6_out_66 : decode cX6_out 66 = .ok (.istore_n 1, 1) := by decide +kernel
theorem dX6_out_67 : decode cX6_out 67 = .ok (.iload 4, 2) := by decide +kernel
theorem dX6_out_69 : decode cX6_out 69 = .ok (.istore_n 2, 1) := by decide +kernel
theorem dX6_out_70 : decode cX6_out 70 = .ok (.iinc 3 1, 3) := by decide +kernel
theorem dX6_out_73 : decode cX6_out 73 = .ok (.goto (-44), 3) := by decide +kernel
theorem dX6_out_76 : decode cX6_out 76 = .ok (.iload_n 1, 1) := by decide +kernel
theorem dX6_out_77 : decode cX6_out 77 = .ok (.ireturn, 1) := by decide +kernel
theorem dX6_fingers_0 : decode cX6_fingers 0 = .ok (.iload_n 1, 1) := by decide +kernel
theorem dX6_fingers_1 : decode cX6_fingers 1 = .ok (.iconst 0, 1) := by decide +kernel
theorem dX6_fingers_2 : decode cX6_fingers 2 = .ok (.iconst 3, 1) := by decide +kernel
theorem dX6_fingers_3 : decode cX6_fingers 3 = .ok (.invokestatic 62, 3) := by decide +kernel
theorem dX6_fingers_6 : decode cX6_fingers 6 = .ok (.ifCond .eq 8, 3) := by decide +kernel
theorem dX6_fingers_9 : decode cX6_fingers 9 = .ok (.iload_n 2, 1) := by decide +kernel
theorem dX6_fingers_10 : decode cX6_fingers 10 = .ok (.iconst (-1), 1) := by decide +kernel
theorem dX6_fingers_11 : decode cX6_fingers 11 = .ok (.if_icmp .ge 10, 3) := by decide +kernel
theorem dX6_fingers_14 : decode cX6_fingers 14 = .ok (.aload_n 0, 1) := by decide +kernel
theorem dX6_fingers_15 : decode cX6_fingers 15 = .ok (.bipush (-10), 2) := by decide +kernel
theorem dX6_fingers_17 : decode cX6_fingers 17 = .ok (.invokevirtual 66, 3) := by decide +kernel
theorem dX6_fingers_20 : decode cX6_fingers 20 = .ok (.ireturn, 1) := by decide +kernel
theorem dX6_fingers_21 : decode cX6_fingers 21 = .ok (.aload_n 0, 1) := by decide +kernel
theorem dX6_fingers_22 : decode cX6_fingers 22 = .ok (.getfield 10, 3) := by decide +kernel
theorem dX6_fingers_25 : decode cX6_fingers 25 = .ok (.iload_n 1, 1) := by decide +kernel
theorem dX6_fingers_26 : decode cX6_fingers 26 = .ok (.invokevirtual 161, 3) := by decide +kernel
theorem dX6_fingers_29 : decode cX6_fingers 29 = .ok (.invokestatic 184, 3) := by decide +kernel
theorem dX6_fingers_32 : decode cX6_fingers 32 = .ok (.bipush 8, 2) := by decide +kernel
theorem dX6_fingers_34 : decode cX6_fingers 34 = .ok (.if_icmp .le 10, 3) := by decide +kernel
theorem dX6_fingers_37 : decode cX6_fingers 37 = .ok (.aload_n 0, 1) := by decide +kernel
theorem dX6_fingers_38 : decode cX6_fingers 38 = .ok (.bipush (-20), 2) := by decide +kernel
theorem dX6_fingers_40 : decode cX6_fingers 40 = .ok (.invokevirtual 128, 3) := by decide +kernel
theorem dX6_fingers_43 : decode cX6_fingers 43 = .ok (.ireturn, 1) := by decide +kernel
theorem dX6_fingers_44 : decode cX6_fingers 44 = .ok (.aload_n 0, 1) := by decide +kernel
theorem dX6_fingers_45 : decode cX6_fingers 45 = .ok (.getfield 40, 3) := by decide +kernel
theorem dX6_fingers_48 : decode cX6_fingers 48 = .ok (.aload_n 0, 1) := by decide +kernel
theorem dX6_fingers_49 : decode cX6_fingers 49 = .ok (.getfield 10, 3) := by decide +kernel
theorem dX6_fingers_52 : decode cX6_fingers 52 = .ok (.iload_n 1, 1) := by decide +kernel
theorem dX6_fingers_53 : decode cX6_fingers 53 = .ok (.invokevirtual 192, 3) := by decide +kernel
theorem dX6_fingers_56 : decode cX6_fingers 56 = .ok (.iload_n 2, 1) := by decide +kernel
theorem dX6_fingers_57 : decode cX6_fingers 57 = .ok (.iconst (-1), 1) := by decide +kernel
theorem dX6_fingers_58 : decode cX6_fingers 58 = .ok (.if_icmp .ne 11, 3) := by decide +kernel
theorem dX6_fingers_61 : decode cX6_fingers 61 = .ok (.aload_n 0, 1) := by decide +kernel
theorem dX6_fingers_62 : decode cX6_fingers 62 = .ok (.getfield 40, 3) := by decide +kernel
theorem dX6_fingers_65 : decode cX6_fingers 65 = .ok (.getfield 193, 3) := by decide +kernel
theorem dX6_fingers_68 : decode cX6_fingers 68 = .ok (.ireturn, 1) := by decide +kernel
theorem dX6_fingers_69 : decode cX6_fingers 69 = .ok (.iload_n 2, 1) := by decide +kernel
theorem dX6_fingers_70 : decode cX6_fingers 70 = .ok (.aload_n 0, 1) := by decide +kernel
theorem dX6_fingers_71 : decode cX6_fingers 71 = .ok (.getfield 40, 3) := by decide +kernel
theorem dX6_fingers_74 : decode cX6_fingers 74 = .ok (.getfield 196, 3) := by decide +kernel
theorem dX6_fingers_77 : decode cX6_fingers 77 = .ok (.if_icmp .ge 21, 3) := by decide +kernel
theorem dX6_fingers_80 : decode cX6_fingers 80 = .ok (.iload_n 2, 1) := by decide +kernel
theorem dX6_fingers_81 : decode cX6_fingers 81 = .ok (.bipush 8, 2) := by decide +kernel
theorem dX6_fingers_83 : decode cX6_fingers 83 = .ok (.if_icmp .ge 15, 3) := by decide +kernel
theorem dX6_fingers_86 : decode cX6_fingers 86 = .ok (.aload_n 0, 1) := by decide +kernel
theorem dX6_fingers_87 : decode cX6_fingers 87 = .ok (.getfield 40, 3) := by decide +kernel
theorem dX6_fingers_90 : decode cX6_fingers 90 = .ok (.getfield 199, 3) := by decide +kernel
theorem dX6_fingers_93 : decode cX6_fingers 93 = .ok (.iload_n 2, 1) := by decide +kernel
theorem dX6_fingers_94 : decode cX6_fingers 94 = .ok (.iaload, 1) := by decide +kernel
theorem dX6_fingers_95 : decode cX6_fingers 95 = .ok (.goto 5, 3) := by decide +kernel
theorem dX6_fingers_98 : decode cX6_fingers 98 = .ok (.bipush (-5), 2) := by decide +kernel
theorem dX6_fingers_100 : decode cX6_fingers 100 = .ok (.ireturn, 1) := by decide +kernel
theorem dX6_pedal_0 : decode cX6_pedal 0 = .ok (.iload_n 2, 1) := by decide +kernel
theorem dX6_pedal_1 : decode cX6_pedal 1 = .ok (.iconst 0, 1) := by decide +kernel
theorem dX6_pedal_2 : decode cX6_pedal 2 = .ok (.bipush 64, 2) := by decide +kernel
theorem dX6_pedal_4 : decode cX6_pedal 4 = .ok (.invokestatic 62, 3) := by decide +kernel
theorem dX6_pedal_7 : decode cX6_pedal 7 = .ok (.ifCond .eq 12, 3) := by decide +kernel
theorem dX6_pedal_10 : decode cX6_pedal 10 = .ok (.iload_n 1, 1) := by decide +kernel
theorem dX6_pedal_11 : decode cX6_pedal 11 = .ok (.iconst 0, 1) := by decide +kernel
theorem dX6_pedal_12 : decode cX6_pedal 12 = .ok (.iload_n 2, 1) := by decide +kernel
theorem dX6_pedal_13 : decode cX6_pedal 13 = .ok (.invokestatic 62, 3) := by decide +kernel
theorem dX6_pedal_16 : decode cX6_pedal 16 = .ok (.ifCond .ne 10, 3) := by decide +kernel
theorem dX6_pedal_19 : decode cX6_pedal 19 = .ok (.aload_n 0, 1) := by decide +kernel
theorem dX6_pedal_20 : decode cX6_pedal 20 = .ok (.bipush (-2), 2) := by decide +kernel
theorem dX6_pedal_22 : decode cX6_pedal 22 = .ok (.invokevirtual 66, 3) := by decide +kernel
theorem dX6_pedal_25 : decode cX6_pedal 25 = .ok (.ireturn, 1) := by decide +kernel
theorem dX6_pedal_26 : decode cX6_pedal 26 = .ok (.aload_n 0, 1) := by decide +kernel
theorem dX6_pedal_27 : decode cX6_pedal 27 = .ok (.getfield 10, 3) := by decide +kernel
theorem dX6_pedal_30 : decode cX6_pedal 30 = .ok (.iload_n 1, 1) := by decide +kernel
theorem dX6_pedal_31 : decode cX6_pedal 31 = .ok (.putfield 200, 3) := by decide +kernel
theorem dX6_pedal_34 : decode cX6_pedal 34 = .ok (.aload_n 0, 1) := by decide +kernel
theorem dX6_pedal_35 : decode cX6_pedal 35 = .ok (.getfield 10, 3) := by decide +kernel
theorem dX6_pedal_38 : decode cX6_pedal 38 = .ok (.iload_n 2, 1) := by decide +kernel
theorem dX6_pedal_39 : decode cX6_pedal 39 = .ok (.putfield 203, 3) := by decide +kernel
theorem dX6_pedal_42 : decode cX6_pedal 42 = .ok (.iconst 1, 1) := by decide +kernel
theorem dX6_pedal_43 : decode cX6_pedal 43 = .ok (.ireturn, 1) := by decide +kernel
theorem dX6_blurs_0 : decode cX6_blurs 0 = .ok (.iload_n 1, 1) := by decide +kernel
theorem dX6_blurs_1 : decode cX6_blurs 1 = .ok (.iconst 0, 1) := by decide +kernel
theorem dX6_blurs_2 : decode cX6_blurs 2 = .ok (.iconst 1, 1) := by decide +kernel
theorem dX6_blurs_3 : decode cX6_blurs 3 = .ok (.invokestatic 62, 3) := by decide +kernel
theorem dX6_blurs_6 : decode cX6_blurs 6 = .ok (.ifCond .ne 10, 3) := by decide +kernel
theorem dX6_blurs_9 : decode cX6_blurs 9 = .ok (.aload_n 0, 1) := by decide +kernel
theorem dX6_blurs_10 : decode cX6_blurs 10 = .ok (.bipush (-2), 2) := by decide +kernel
theorem dX6_blurs_12 : decode cX6_blurs 12 = .ok (.invokevirtual 66, 3) := by decide +kernel
theorem dX6_blurs_15 : decode cX6_blurs 15 = .ok (.ireturn, 1) := by decide +kernel
theorem dX6_blurs_16 : decode cX6_blurs 16 = .ok (.aload_n 0, 1) := by decide +kernel
theorem dX6_blurs_17 : decode cX6_blurs 17 = .ok (.getfield 47, 3) := by decide +kernel
theorem dX6_blurs_20 : decode cX6_blurs 20 = .ok (.aload_n 0, 1) := by decide +kernel
theorem dX6_blurs_21 : decode cX6_blurs 21 = .ok (.getfield 10, 3) := by decide +kernel
theorem dX6_blurs_24 : decode cX6_blurs 24 = .ok (.invokevirtual 206, 3) := by decide +kernel
theorem dX6_blurs_27 : decode cX6_blurs 27 = .ok (.iload_n 1, 1) := by decide +kernel
theorem dX6_blurs_28 : decode cX6_blurs 28 = .ok (.ifCond .ne 25, 3) := by decide +kernel
theorem dX6_blurs_31 : decode cX6_blurs 31 = .ok (.aload_n 0, 1) := by decide +kernel
theorem dX6_blurs_32 : decode cX6_blurs 32 = .ok (.getfield 47, 3) := by decide +kernel
theorem dX6_blurs_35 : decode cX6_blurs 35 = .ok (.aload_n 0, 1) := by decide +kernel
theorem dX6_blurs_36 : decode cX6_blurs 36 = .ok (.getfield 10, 3) := by decide +kernel
theorem dX6_blurs_39 : decode cX6_blurs 39 = .ok (.getfield 200, 3) := by decide +kernel
theorem dX6_blurs_42 : decode cX6_blurs 42 = .ok (.aload_n 0, 1) := by decide +kernel
theorem dX6_blurs_43 : decode cX6_blurs 43 = .ok (.getfield 10, 3) := by decide +kernel
theorem dX6_blurs_46 : decode cX6_blurs 46 = .ok (.getfield 203, 3) := by decide +kernel
theorem dX6_blurs_49 : decode cX6_blurs 49 = .ok (.invokevirtual 209, 3) := by decide +kernel
theorem dX6_blurs_52 : decode cX6_blurs 52 = .ok (.ireturn, 1) := by decide +kernel
theorem dX6_blurs_53 : decode cX6_blurs 53 = .ok (.aload_n 0, 1) := by decide +kernel
theorem dX6_blurs_54 : decode cX6_blurs 54 = .ok (.getfield 47, 3) := by decide +kernel
theorem dX6_blurs_57 : decode cX6_blurs 57 = .ok (.aload_n 0, 1) := by decide +kernel
theorem dX6_blurs_58 : decode cX6_blurs 58 = .ok (.getfield 10, 3) := by decide +kernel
theorem dX6_blurs_61 : decode cX6_blurs 61 = .ok (.getfield 200, 3) := by decide +kernel
theorem dX6_blurs_64 : decode cX6_blurs 64 = .ok (.aload_n 0, 1) := by decide +kernel
theorem dX6_blurs_65 : decode cX6_blurs 65 = .ok (.getfield 10, 3) := by decide +kernel
theorem dX6_blurs_68 : decode cX6_blurs 68 = .ok (.getfield 203, 3) := by decide +kernel
theorem dX6_blurs_71 : decode cX6_blurs 71 = .ok (.invokevirtual 212, 3) := by decide +kernel
theorem dX6_blurs_74 : decode cX6_blurs 74 = .ok (.ireturn, 1) := by decide +kernel
theorem dX6_best_0 : decode cX6_best 0 = .ok (.iload_n 1, 1) := by decide +kernel
theorem dX6_best_1 : decode cX6_best 1 = .ok (.iconst 0, 1) := by decide +kernel
theorem dX6_best_2 : decode cX6_best 2 = .ok (.iconst 1, 1) := by decide +kernel
theorem dX6_best_3 : decode cX6_best 3 = .ok (.invokestatic 62, 3) := by decide +kernel
theorem dX6_best_6 : decode cX6_best 6 = .ok (.ifCond .ne 10, 3) := by decide +kernel
theorem dX6_best_9 : decode cX6_best 9 = .ok (.aload_n 0, 1) := by decide +kernel
theorem dX6_best_10 : decode cX6_best 10 = .ok (.bipush (-2), 2) := by decide +kernel
theorem dX6_best_12 : decode cX6_best 12 = .ok (.invokevirtual 66, 3) := by decide +kernel
theorem dX6_best_15 : decode cX6_best 15 = .ok (.ireturn, 1) := by decide +kernel
theorem dX6_best_16 : decode cX6_best 16 = .ok (.aload_n 0, 1) := by decide +kernel
theorem dX6_best_17 : decode cX6_best 17 = .ok (.getfield 47, 3) := by decide +kernel
theorem dX6_best_20 : decode cX6_best 20 = .ok (.aload_n 0, 1) := by decide +kernel
theorem dX6_best_21 : decode cX6_best 21 = .ok (.getfield 10, 3) := by decide +kernel
theorem dX6_best_24 : decode cX6_best 24 = .ok (.invokevirtual 206, 3) := by decide +kernel
theorem dX6_best_27 : decode cX6_best 27 = .ok (.aload_n 0, 1) := by decide +kernel
theorem dX6_best_28 : decode cX6_best 28 = .ok (.getfield 47, 3) := by decide +kernel
theorem dX6_best_31 : decode cX6_best 31 = .ok (.invokevirtual 215, 3) := by decide +kernel
theorem dX6_best_34 : decode cX6_best 34 = .ok (.iload_n 1, 1) := by decide +kernel
theorem dX6_best_35 : decode cX6_best 35 = .ok (.ifCond .ne 13, 3) := by decide +kernel
theorem dX6_best_38 : decode cX6_best 38 = .ok (.aload_n 0, 1) := by decide +kernel
theorem dX6_best_39 : decode cX6_best 39 = .ok (.getfield 47, 3) := by decide +kernel
theorem dX6_best_42 : decode cX6_best 42 = .ok (.getfield 218, 3) := by decide +kernel
theorem dX6_best_45 : decode cX6_best 45 = .ok (.goto 21, 3) := by decide +kernel
theorem dX6_best_48 : decode cX6_best 48 = .ok (.bipush 100, 2) := by decide +kernel
theorem dX6_best_50 : decode cX6_best 50 = .ok (.aload_n 0, 1) := by decide +kernel
theorem dX6_best_51 : decode cX6_best 51 = .ok (.getfield 47, 3) := by decide +kernel
theorem dX6_best_54 : decode cX6_best 54 = .ok (.getfield 221, 3) := by decide +kernel
theorem dX6_best_57 : decode cX6_best 57 = .ok (.imul, 1) := by decide +kernel
theorem dX6_best_58 : decode cX6_best 58 = .ok (.aload_n 0, 1) := by decide +kernel
theorem dX6_best_59 : decode cX6_best 59 = .ok (.getfield 47, 3) := by decide +kernel
theorem dX6_best_62 : decode cX6_best 62 = .ok (.getfield 224, 3) := by decide +kernel
theorem dX6_best_65 : decode cX6_best 65 = .ok (.iadd, 1) := by decide +kernel
theorem dX6_best_66 : decode cX6_best 66 = .ok (.ireturn, 1) := by decide +kernel
theorem dX6_turns_0 : decode cX6_turns 0 = .ok (.iload_n 1, 1) := by decide +kernel
theorem dX6_turns_1 : decode cX6_turns 1 = .ok (.iconst 0, 1) := by decide +kernel
theorem dX6_turns_2 : decode cX6_turns 2 = .ok (.bipush 63, 2) := by decide +kernel
theorem dX6_turns_4 : decode cX6_turns 4 = .ok (.invokestatic 62, 3) := by decide +kernel
theorem dX6_turns_7 : decode cX6_turns 7 = .ok (.ifCond .eq 22, 3) := by decide +kernel
theorem dX6_turns_10 : decode cX6_turns 10 = .ok (.iload_n 2, 1) := by decide +kernel
theorem dX6_turns_11 : decode cX6_turns 11 = .ok (.iconst 0, 1) := by decide +kernel
theorem dX6_turns_12 : decode cX6_turns 12 = .ok (.bipush 9, 2) := by decide +kernel
theorem dX6_turns_14 : decode cX6_turns 14 = .ok (.invokestatic 62, 3) := by decide +kernel
theorem dX6_turns_17 : decode cX6_turns 17 = .ok (.ifCond .eq 12, 3) := by decide +kernel
theorem dX6_turns_20 : decode cX6_turns 20 = .ok (.iload_n 3, 1) := by decide +kernel
theorem dX6_turns_21 : decode cX6_turns 21 = .ok (.iconst (-1), 1) := by decide +kernel
theorem dX6_turns_22 : decode cX6_turns 22 = .ok (.iconst 1, 1) := by decide +kernel
theorem dX6_turns_23 : decode cX6_turns 23 = .ok (.invokestatic 62, 3) := by decide +kernel
theorem dX6_turns_26 : decode cX6_turns 26 = .ok (.ifCond .ne 10, 3) := by decide +kernel
theorem dX6_turns_29 : decode cX6_turns 29 = .ok (.aload_n 0, 1) := by decide +kernel
theorem dX6_turns_30 : decode cX6_turns 30 = .ok (.bipush (-2), 2) := by decide +kernel
theorem dX6_turns_32 : decode cX6_turns 32 = .ok (.invokevirtual 66, 3) := by decide +kernel
theorem dX6_turns_35 : decode cX6_turns 35 = .ok (.ireturn, 1) := by decide +kernel
theorem dX6_turns_36 : decode cX6_turns 36 = .ok (.iconst 0, 1) := by decide +kernel
theorem dX6_turns_37 : decode cX6_turns 37 = .ok (.istore 4, 2) := by decide +kernel
theorem dX6_turns_39 : decode cX6_turns 39 = .ok (.iload 4, 2) := by decide +kernel
theorem dX6_turns_41 : decode cX6_turns 41 = .ok (.iload_n 2, 1) := by decide +kernel
theorem dX6_turns_42 : decode cX6_turns 42 = .ok (.if_icmp .gt 46, 3) := by decide +kernel
theorem dX6_turns_45 : decode cX6_turns 45 = .ok (.aload_n 0, 1) := by decide +kernel
theorem dX6_turns_46 : decode cX6_turns 46 = .ok (.iload_n 1, 1) := by decide +kernel
theorem dX6_turns_47 : decode cX6_turns 47 = .ok (.iload 4, 2) := by decide +kernel
theorem dX6_turns_49 : decode cX6_turns 49 = .ok (.isub, 1) := by decide +kernel
theorem dX6_turns_50 : decode cX6_turns 50 = .ok (.iload_n 3, 1) := by decide +kernel
theorem dX6_turns_51 : decode cX6_turns 51 = .ok (.invokevirtual 227, 3) := by decide +kernel
theorem dX6_turns_54 : decode cX6_turns 54 = .ok (.istore 5, 2) := by decide +kernel
theorem dX6_turns_56 : decode cX6_turns 56 = .ok (.iload 5, 2) := by decide +kernel
theorem dX6_turns_58 : decode cX6_turns 58 = .ok (.iconst (-1), 1) := by decide +kernel
theorem dX6_turns_59 : decode cX6_turns 59 = .ok (.if_icmp .ne 14, 3) := by decide +kernel
theorem dX6_turns_62 : decode cX6_turns 62 = .ok (.aload_n 0, 1) := by decide +kernel
theorem dX6_turns_63 : decode cX6_turns 63 = .ok (.iload_n 1, 1) := by decide +kernel
theorem dX6_turns_64 : decode cX6_turns 64 = .ok (.iload 4, 2) := by decide +kernel
theorem dX6_turns_66 : decode cX6_turns 66 = .ok (.iadd, 1) := by decide +kernel
theorem dX6_turns_67 : decode cX6_turns 67 = .ok (.iload_n 3, 1) := by decide +kernel
theorem dX6_turns_68 : decode cX6_turns 68 = .ok (.invokevirtual 227, 3) := by decide +kernel
theorem dX6_turns_71 : decode cX6_turns 71 = .ok (.istore 5, 2) := by decide +kernel
theorem dX6_turns_73 : decode cX6_turns 73 = .ok (.iload 5, 2) := by decide +kernel
theorem dX6_turns_75 : decode cX6_turns 75 = .ok (.iconst (-1), 1) := by decide +kernel
theorem dX6_turns_76 : decode cX6_turns 76 = .ok (.if_icmp .eq 6, 3) := by decide +kernel
theorem dX6_turns_79 : decode cX6_turns 79 = .ok (.iload 5, 2) := by decide +kernel
theorem dX6_turns_81 : decode cX6_turns 81 = .ok (.ireturn, 1) := by decide +kernel
theorem dX6_turns_82 : decode cX6_turns 82 = .ok (.iinc 4 1, 3) := by decide +kernel
theorem dX6_turns_85 : decode cX6_turns 85 = .ok (.goto (-46), 3) := by decide +kernel
theorem dX6_turns_88 : decode cX6_turns 88 = .ok (.iconst (-1), 1) := by decide +kernel
theorem dX6_turns_89 : decode cX6_turns 89 = .ok (.ireturn, 1) := by decide +kernel
theorem dX6_covered_0 : decode cX6_covered 0 = .ok (.lconst 0, 1) := by decide +kernel
theorem dX6_covered_1 : decode cX6_covered 1 = .ok (.lstore_n 1, 1) := by decide +kernel
theorem dX6_covered_2 : decode cX6_covered 2 = .ok (.iconst 0, 1) := by decide +kernel
theorem dX6_covered_3 : decode cX6_covered 3 = .ok (.istore_n 3, 1) := by decide +kernel
theorem dX6_covered_4 : decode cX6_covered 4 = .ok (.iload_n 3, 1) := by decide +kernel
theorem dX6_covered_5 : decode cX6_covered 5 = .ok (.bipush 64, 2) := by decide +kernel
theorem dX6_covered_7 : decode cX6_covered 7 = .ok (.if_icmp .ge 26, 3) := by decide +kernel
theorem dX6_covered_10 : decode cX6_covered 10 = .ok (.aload_n 0, 1) := by decide +kernel
theorem dX6_covered_11 : decode cX6_covered 11 = .ok (.getfield 10, 3) := by decide +kernel
theorem dX6_covered_14 : decode cX6_covered 14 = .ok (.iload_n 3, 1) := by decide +kernel
theorem dX6_covered_15 : decode cX6_covered 15 = .ok (.invokevirtual 230, 3) := by decide +kernel
theorem dX6_covered_18 : decode cX6_covered 18 = .ok (.ifCond .eq 9, 3) := by decide +kernel
theorem dX6_covered_21 : decode cX6_covered 21 = .ok (.lload_n 1, 1) := by decide +kernel
theorem dX6_covered_22 : decode cX6_covered 22 = .ok (.lconst 1, 1) := by decide +kernel
theorem dX6_covered_23 : decode cX6_covered 23 = .ok (.iload_n 3, 1) := by decide +kernel
theorem dX6_covered_24 : decode cX6_covered 24 = .ok (.lshl, 1) := by decide +kernel
theorem dX6_covered_25 : decode cX6_covered 25 = .ok (.lor, 1) := by decide +kernel
theorem dX6_covered_26 : decode cX6_covered 26 = .ok (.lstore_n 1, 1) := by decide +kernel
theorem dX6_covered_27 : decode cX6_covered 27 = .ok (.iinc 3 1, 3) := by decide +kernel
theorem dX6_covered_30 : decode cX6_covered 30 = .ok (.goto (-26), 3) := by decide +kernel
theorem dX6_covered_33 : decode cX6_covered 33 = .ok (.lload_n 1, 1) := by decide +kernel
theorem dX6_covered_34 : decode cX6_covered 34 = .ok (.lreturn, 1) := by decide +kernel
theorem dX6_places_0 : decode cX6_places 0 = .ok (.aload_n 0, 1) := by decide +kernel
theorem dX6_places_1 : decode cX6_places 1 = .ok (.getfield 16, 3) := by decide +kernel
theorem dX6_places_4 : decode cX6_places 4 = .ok (.aload_n 0, 1) := by decide +kernel
theorem dX6_places_5 : decode cX6_places 5 = .ok (.getfield 10, 3) := by decide +kernel
theorem dX6_places_8 : decode cX6_places 8 = .ok (.invokevirtual 110, 3) := by decide +kernel
theorem dX6_places_11 : decode cX6_places 11 = .ok (.iconst 0, 1) := by decide +kernel
theorem dX6_places_12 : decode cX6_places 12 = .ok (.istore_n 1, 1) := by decide +kernel
theorem dX6_places_13 : decode cX6_places 13 = .ok (.iload_n 1, 1) := by decide +kernel
theorem dX6_places_14 : decode cX6_places 14 = .ok (.aload_n 0, 1) := by decide +kernel
theorem dX6_places_15 : decode cX6_places 15 = .ok (.getfield 16, 3) := by decide +kernel
theorem dX6_places_18 : decode cX6_places 18 = .ok (.getfield 70, 3) := by decide +kernel
theorem dX6_places_21 : decode cX6_places 21 = .ok (.if_icmp .ge 44, 3) := by decide +kernel
theorem dX6_places_24 : decode cX6_places 24 = .ok (.aload_n 0, 1) := by decide +kernel
theorem dX6_places_25 : decode cX6_places 25 = .ok (.getfield 16, 3) := by decide +kernel
theorem dX6_places_28 : decode cX6_places 28 = .ok (.getfield 149, 3) := by decide +kernel
theorem dX6_places_31 : decode cX6_places 31 = .ok (.iload_n 1, 1) := by decide +kernel
theorem dX6_places_32 : decode cX6_places 32 = .ok (.iaload, 1) := by decide +kernel
theorem dX6_places_33 : decode cX6_places 33 = .ok (.iconst (-1), 1) := by decide +kernel
theorem dX6_places_34 : decode cX6_places 34 = .ok (.if_icmp .eq 25, 3) := by decide +kernel
theorem dX6_places_37 : decode cX6_places 37 = .ok (.aload_n 0, 1) := by decide +kernel
theorem dX6_places_38 : decode cX6_places 38 = .ok (.getfield 16, 3) := by decide +kernel
theorem dX6_places_41 : decode cX6_places 41 = .ok (.getfield 149, 3) := by decide +kernel
theorem dX6_places_44 : decode cX6_places 44 = .ok (.iload_n 1, 1) := by decide +kernel
theorem dX6_places_45 : decode cX6_places 45 = .ok (.aload_n 0, 1) := by decide +kernel
theorem dX6_places_46 : decode cX6_places 46 = .ok (.getfield 16, 3) := by decide +kernel
theorem dX6_places_49 : decode cX6_places 49 = .ok (.getfield 149, 3) := by decide +kernel
theorem dX6_places_52 : decode cX6_places 52 = .ok (.iload_n 1, 1) := by decide +kernel
theorem dX6_places_53 : decode cX6_places 53 = .ok (.iaload, 1) := by decide +kernel
theorem dX6_places_54 : decode cX6_places 54 = .ok (.iconst 2, 1) := by decide +kernel
theorem dX6_places_55 : decode cX6_places 55 = .ok (.iadd, 1) := by decide +kernel
theorem dX6_places_56 : decode cX6_places 56 = .ok (.iconst 4, 1) := by decide +kernel
theorem dX6_places_57 : decode cX6_places 57 = .ok (.irem, 1) := by decide +kernel
theorem dX6_places_58 : decode cX6_places 58 = .ok (.iastore, 1) := by decide +kernel
theorem dX6_places_59 : decode cX6_places 59 = .ok (.iinc 1 1, 3) := by decide +kernel
theorem dX6_places_62 : decode cX6_places 62 = .ok (.goto (-49), 3) := by decide +kernel
theorem dX6_places_65 : decode cX6_places 65 = .ok (.aload_n 0, 1) := by decide +kernel
theorem dX6_places_66 : decode cX6_places 66 = .ok (.getfield 10, 3) := by decide +kernel
theorem dX6_places_69 : decode cX6_places 69 = .ok (.invokevirtual 122, 3) := by decide +kernel
theorem dX6_places_72 : decode cX6_places 72 = .ok (.aload_n 0, 1) := by decide +kernel
theorem dX6_places_73 : decode cX6_places 73 = .ok (.getfield 16, 3) := by decide +kernel
theorem dX6_places_76 : decode cX6_places 76 = .ok (.invokevirtual 122, 3) := by decide +kernel
theorem dX6_places_79 : decode cX6_places 79 = .ok (.isub, 1) := by decide +kernel
theorem dX6_places_80 : decode cX6_places 80 = .ok (.ireturn, 1) := by decide +kernel
theorem dX6_practice_0 : decode cX6_practice 0 = .ok (.iload_n 1, 1) := by decide +kernel
theorem dX6_practice_1 : decode cX6_practice 1 = .ok (.iconst 0, 1) := by decide +kernel
theorem dX6_practice_2 : decode cX6_practice 2 = .ok (.bipush 6, 2) := by decide +kernel
theorem dX6_practice_4 : decode cX6_practice 4 = .ok (.invokestatic 62, 3) := by decide +kernel
theorem dX6_practice_7 : decode cX6_practice 7 = .ok (.ifCond .eq 8, 3) := by decide +kernel
theorem dX6_practice_10 : decode cX6_practice 10 = .ok (.iload_n 2, 1) := by decide +kernel
theorem dX6_practice_11 : decode cX6_practice 11 = .ok (.iconst (-1), 1) := by decide +kernel
theorem dX6_practice_12 : decode cX6_practice 12 = .ok (.if_icmp .ge 10, 3) := by decide +kernel
theorem dX6_practice_15 : decode cX6_practice 15 = .ok (.aload_n 0, 1) := by decide +kernel
theorem dX6_practice_16 : decode cX6_practice 16 = .ok (.bipush (-10), 2) := by decide +kernel
theorem dX6_practice_18 : decode cX6_practice 18 = .ok (.invokevirtual 66, 3) := by decide +kernel
theorem dX6_practice_21 : decode cX6_practice 21 = .ok (.ireturn, 1) := by decide +kernel
theorem dX6_practice_22 : decode cX6_practice 22 = .ok (.aload_n 0, 1) := by decide +kernel
theorem dX6_practice_23 : decode cX6_practice 23 = .ok (.getfield 54, 3) := by decide +kernel
theorem dX6_practice_26 : decode cX6_practice 26 = .ok (.aload_n 0, 1) := by decide +kernel
theorem dX6_practice_27 : decode cX6_practice 27 = .ok (.getfield 10, 3) := by decide +kernel
theorem dX6_practice_30 : decode cX6_practice 30 = .ok (.iload_n 1, 1) := by decide +kernel
theorem dX6_practice_31 : decode cX6_practice 31 = .ok (.invokevirtual 233, 3) := by decide +kernel
theorem dX6_practice_34 : decode cX6_practice 34 = .ok (.iload_n 2, 1) := by decide +kernel
theorem dX6_practice_35 : decode cX6_practice 35 = .ok (.iconst (-1), 1) := by decide +kernel
theorem dX6_practice_36 : decode cX6_practice 36 = .ok (.if_icmp .ne 11, 3) := by decide +kernel
theorem dX6_practice_39 : decode cX6_practice 39 = .ok (.aload_n 0, 1) := by decide +kernel
theorem dX6_practice_40 : decode cX6_practice 40 = .ok (.getfield 54, 3) := by decide +kernel
theorem dX6_practice_43 : decode cX6_practice 43 = .ok (.getfield 234, 3) := by decide +kernel
theorem dX6_practice_46 : decode cX6_practice 46 = .ok (.ireturn, 1) := by decide +kernel
theorem dX6_practice_47 : decode cX6_practice 47 = .ok (.iload_n 2, 1) := by decide +kernel
theorem dX6_practice_48 : decode cX6_practice 48 = .ok (.iload_n 1, 1) := by decide +kernel
theorem dX6_practice_49 : decode cX6_practice 49 = .ok (.if_icmp .ge 15, 3) := by decide +kernel
theorem dX6_practice_52 : decode cX6_practice 52 = .ok (.aload_n 0, 1) := by decide +kernel
theorem dX6_practice_53 : decode cX6_practice 53 = .ok (.getfield 54, 3) := by decide +kernel
theorem dX6_practice_56 : decode cX6_practice 56 = .ok (.getfield 237, 3) := by decide +kernel
theorem dX6_practice_59 : decode cX6_practice 59 = .ok (.iload_n 2, 1) := by decide +kernel
theorem dX6_practice_60 : decode cX6_practice 60 = .ok (.iaload, 1) := by decide +kernel
theorem dX6_practice_61 : decode cX6_practice 61 = .ok (.goto 5, 3) := by decide +kernel
theorem dX6_practice_64 : decode cX6_practice 64 = .ok (.bipush (-5), 2) := by decide +kernel
theorem dX6_practice_66 : decode cX6_practice 66 = .ok (.ireturn, 1) := by decide +kernel
theorem dX6_breath_0 : decode cX6_breath 0 = .ok (.iload_n 1, 1) := by decide +kernel
theorem dX6_breath_1 : decode cX6_breath 1 = .ok (.iconst 0, 1) := by decide +kernel
theorem dX6_breath_2 : decode cX6_breath 2 = .ok (.bipush 20, 2) := by decide +kernel
theorem dX6_breath_4 : decode cX6_breath 4 = .ok (.invokestatic 62, 3) := by decide +kernel
theorem dX6_breath_7 : decode cX6_breath 7 = .ok (.ifCond .eq 13, 3) := by decide +kernel
theorem dX6_breath_10 : decode cX6_breath 10 = .ok (.iload_n 2, 1) := by decide +kernel
theorem dX6_breath_11 : decode cX6_breath 11 = .ok (.iconst 0, 1) := by decide +kernel
theorem dX6_breath_12 : decode cX6_breath 12 = .ok (.bipush 20, 2) := by decide +kernel
theorem dX6_breath_14 : decode cX6_breath 14 = .ok (.invokestatic 62, 3) := by decide +kernel
theorem dX6_breath_17 : decode cX6_breath 17 = .ok (.ifCond .ne 10, 3) := by decide +kernel
theorem dX6_breath_20 : decode cX6_breath 20 = .ok (.aload_n 0, 1) := by decide +kernel
theorem dX6_breath_21 : decode cX6_breath 21 = .ok (.bipush (-2), 2) := by decide +kernel
theorem dX6_breath_23 : decode cX6_breath 23 = .ok (.invokevirtual 66, 3) := by decide +kernel
theorem dX6_breath_26 : decode cX6_breath 26 = .ok (.ireturn, 1) := by decide +kernel
theorem dX6_breath_27 : decode cX6_breath 27 = .ok (.iconst 0, 1) := by decide +kernel
theorem dX6_breath_28 : decode cX6_breath 28 = .ok (.istore_n 3, 1) := by decide +kernel
theorem dX6_breath_29 : decode cX6_breath 29 = .ok (.iconst 0, 1) := by decide +kernel
theorem dX6_breath_30 : decode cX6_breath 30 = .ok (.istore 4, 2) := by decide +kernel
theorem dX6_breath_32 : decode cX6_breath 32 = .ok (.iload 4, 2) := by decide +kernel
theorem dX6_breath_34 : decode cX6_breath 34 = .ok (.iload_n 1, 1) := by decide +kernel
theorem dX6_breath_35 : decode cX6_breath 35 = .ok (.if_icmp .gt 39, 3) := by decide +kernel
theorem dX6_breath_38 : decode cX6_breath 38 = .ok (.iconst 0, 1) := by decide +kernel
theorem dX6_breath_39 : decode cX6_breath 39 = .ok (.istore 5, 2) := by decide +kernel
theorem dX6_breath_41 : decode cX6_breath 41 = .ok (.iload 5, 2) := by decide +kernel
theorem dX6_breath_43 : decode cX6_breath 43 = .ok (.iload_n 1, 1) := by decide +kernel
theorem dX6_breath_44 : decode cX6_breath 44 = .ok (.if_icmp .gt 24, 3) := by decide +kernel
theorem dX6_breath_47 : decode cX6_breath 47 = .ok (.iload 4, 2) := by decide +kernel
theorem dX6_breath_49 : decode cX6_breath 49 = .ok (.iload 5, 2) := by decide +kernel
theorem dX6_breath_51 : decode cX6_breath 51 = .ok (.isub, 1) := by decide +kernel
theorem dX6_breath_52 : decode cX6_breath 52 = .ok (.invokestatic 238, 3) := by decide +kernel
theorem dX6_breath_55 : decode cX6_breath 55 = .ok (.iload_n 2, 1) := by decide +kernel
theorem dX6_breath_56 : decode cX6_breath 56 = .ok (.if_icmp .gt 6, 3) := by decide +kernel
theorem dX6_breath_59 : decode cX6_breath 59 = .ok (.iinc 3 1, 3) := by decide +kernel
theorem dX6_breath_62 : decode cX6_breath 62 = .ok (.iinc 5 1, 3) := by decide +kernel
theorem dX6_breath_65 : decode cX6_breath 65 = .ok (.goto (-24), 3) := by decide +kernel
theorem dX6_breath_68 : decode cX6_breath 68 = .ok (.iinc 4 1, 3) := by decide +kernel
theorem dX6_breath_71 : decode cX6_breath 71 = .ok (.goto (-39), 3) := by decide +kernel
theorem dX6_breath_74 : decode cX6_breath 74 = .ok (.aload_n 0, 1) := by decide +kernel
theorem dX6_breath_75 : decode cX6_breath 75 = .ok (.iload_n 3, 1) := by decide +kernel
theorem dX6_breath_76 : decode cX6_breath 76 = .ok (.iload_n 1, 1) := by decide +kernel
theorem dX6_breath_77 : decode cX6_breath 77 = .ok (.iconst 1, 1) := by decide +kernel
theorem dX6_breath_78 : decode cX6_breath 78 = .ok (.iadd, 1) := by decide +kernel
theorem dX6_breath_79 : decode cX6_breath 79 = .ok (.iload_n 1, 1) := by decide +kernel
theorem dX6_breath_80 : decode cX6_breath 80 = .ok (.iconst 1, 1) := by decide +kernel
theorem dX6_breath_81 : decode cX6_breath 81 = .ok (.iadd, 1) := by decide +kernel
theorem dX6_breath_82 : decode cX6_breath 82 = .ok (.imul, 1) := by decide +kernel
theorem dX6_breath_83 : decode cX6_breath 83 = .ok (.invokevirtual 243, 3) := by decide +kernel
theorem dX6_breath_86 : decode cX6_breath 86 = .ok (.iconst 1, 1) := by decide +kernel
theorem dX6_breath_87 : decode cX6_breath 87 = .ok (.ireturn, 1) := by decide +kernel
theorem dX6_heard_0 : decode cX6_heard 0 = .ok (.aload_n 0, 1) := by decide +kernel
theorem dX6_heard_1 : decode cX6_heard 1 = .ok (.iload_n 1, 1) := by decide +kernel
theorem dX6_heard_2 : decode cX6_heard 2 = .ok (.invokevirtual 114, 3) := by decide +kernel
theorem dX6_heard_5 : decode cX6_heard 5 = .ok (.ifCond .eq 13, 3) := by decide +kernel
theorem dX6_heard_8 : decode cX6_heard 8 = .ok (.iload_n 2, 1) := by decide +kernel
theorem dX6_heard_9 : decode cX6_heard 9 = .ok (.iconst (-1), 1) := by decide +kernel
theorem dX6_heard_10 : decode cX6_heard 10 = .ok (.bipush 9, 2) := by decide +kernel
theorem dX6_heard_12 : decode cX6_heard 12 = .ok (.invokestatic 62, 3) := by decide +kernel
theorem dX6_heard_15 : decode cX6_heard 15 = .ok (.ifCond .ne 10, 3) := by decide +kernel
theorem dX6_heard_18 : decode cX6_heard 18 = .ok (.aload_n 0, 1) := by decide +kernel
theorem dX6_heard_19 : decode cX6_heard 19 = .ok (.bipush (-10), 2) := by decide +kernel
theorem dX6_heard_21 : decode cX6_heard 21 = .ok (.invokevirtual 66, 3) := by decide +kernel
theorem dX6_heard_24 : decode cX6_heard 24 = .ok (.ireturn, 1) := by decide +kernel
theorem dX6_heard_25 : decode cX6_heard 25 = .ok (.aload_n 0, 1) := by decide +kernel
theorem dX6_heard_26 : decode cX6_heard 26 = .ok (.getfield 10, 3) := by decide +kernel
theorem dX6_heard_29 : decode cX6_heard 29 = .ok (.getfield 246, 3) := by decide +kernel
theorem dX6_heard_32 : decode cX6_heard 32 = .ok (.iload_n 1, 1) := by decide +kernel
theorem dX6_heard_33 : decode cX6_heard 33 = .ok (.iaload, 1) := by decide +kernel
theorem dX6_heard_34 : decode cX6_heard 34 = .ok (.istore_n 3, 1) := by decide +kernel
theorem dX6_heard_35 : decode cX6_heard 35 = .ok (.aload_n 0, 1) := by decide +kernel
theorem dX6_heard_36 : decode cX6_heard 36 = .ok (.getfield 10, 3) := by decide +kernel
theorem dX6_heard_39 : decode cX6_heard 39 = .ok (.getfield 246, 3) := by decide +kernel
theorem dX6_heard_42 : decode cX6_heard 42 = .ok (.iload_n 1, 1) := by decide +kernel
theorem dX6_heard_43 : decode cX6_heard 43 = .ok (.iload_n 2, 1) := by decide +kernel
theorem dX6_heard_44 : decode cX6_heard 44 = .ok (.iastore, 1) := by decide +kernel
theorem dX6_heard_45 : decode cX6_heard 45 = .ok (.iload_n 3, 1) := by decide +kernel
theorem dX6_heard_46 : decode cX6_heard 46 = .ok (.ireturn, 1) := by decide +kernel
theorem dX6_late_0 : decode cX6_late 0 = .ok (.iconst 0, 1) := by decide +kernel
theorem dX6_late_1 : decode cX6_late 1 = .ok (.istore_n 1, 1) := by decide +kernel
theorem dX6_late_2 : decode cX6_late 2 = .ok (.iconst 0, 1) := by decide +kernel
theorem dX6_late_3 : decode cX6_late 3 = .ok (.istore_n 2, 1) := by decide +kernel
theorem dX6_late_4 : decode cX6_late 4 = .ok (.iload_n 2, 1) := by decide +kernel
theorem dX6_late_5 : decode cX6_late 5 = .ok (.iconst 4, 1) := by decide +kernel
theorem dX6_late_6 : decode cX6_late 6 = .ok (.if_icmp .ge 26, 3) := by decide +kernel
theorem dX6_late_9 : decode cX6_late 9 = .ok (.aload_n 0, 1) := by decide +kernel
theorem dX6_late_10 : decode cX6_late 10 = .ok (.getfield 10, 3) := by decide +kernel
theorem dX6_late_13 : decode cX6_late 13 = .ok (.iload_n 2, 1) := by decide +kernel
theorem dX6_late_14 : decode cX6_late 14 = .ok (.invokevirtual 249, 3) := by decide +kernel
theorem dX6_late_17 : decode cX6_late 17 = .ok (.ifCond .eq 9, 3) := by decide +kernel
theorem dX6_late_20 : decode cX6_late 20 = .ok (.iload_n 1, 1) := by decide +kernel
theorem dX6_late_21 : decode cX6_late 21 = .ok (.iconst 1, 1) := by decide +kernel
theorem dX6_late_22 : decode cX6_late 22 = .ok (.iload_n 2, 1) := by decide +kernel
theorem dX6_late_23 : decode cX6_late 23 = .ok (.ishl, 1) := by decide +kernel
theorem dX6_late_24 : decode cX6_late 24 = .ok (.ior, 1) := by decide +kernel
theorem dX6_late_25 : decode cX6_late 25 = .ok (.istore_n 1, 1) := by decide +kernel
theorem dX6_late_26 : decode cX6_late 26 = .ok (.iinc 2 1, 3) := by decide +kernel
theorem dX6_late_29 : decode cX6_late 29 = .ok (.goto (-25), 3) := by decide +kernel
theorem dX6_late_32 : decode cX6_late 32 = .ok (.iload_n 1, 1) := by decide +kernel
theorem dX6_late_33 : decode cX6_late 33 = .ok (.ireturn, 1) := by decide +kernel
theorem dX6_evening_0 : decode cX6_evening 0 = .ok (.iload_n 1, 1) := by decide +kernel
theorem dX6_evening_1 : decode cX6_evening 1 = .ok (.iconst 0, 1) := by decide +kernel
theorem dX6_evening_2 : decode cX6_evening 2 = .ok (.ldc 252, 2) := by decide +kernel
theorem dX6_evening_4 : decode cX6_evening 4 = .ok (.invokestatic 62, 3) := by decide +kernel
theorem dX6_evening_7 : decode cX6_evening 7 = .ok (.ifCond .eq 13, 3) := by decide +kernel
theorem dX6_evening_10 : decode cX6_evening 10 = .ok (.iload_n 2, 1) := by decide +kernel
theorem dX6_evening_11 : decode cX6_evening 11 = .ok (.iconst 0, 1) := by decide +kernel
theorem dX6_evening_12 : decode cX6_evening 12 = .ok (.bipush 100, 2) := by decide +kernel
theorem dX6_evening_14 : decode cX6_evening 14 = .ok (.invokestatic 62, 3) := by decide +kernel
theorem dX6_evening_17 : decode cX6_evening 17 = .ok (.ifCond .ne 10, 3) := by decide +kernel
theorem dX6_evening_20 : decode cX6_evening 20 = .ok (.aload_n 0, 1) := by decide +kernel
theorem dX6_evening_21 : decode cX6_evening 21 = .ok (.bipush (-2), 2) := by decide +kernel
theorem dX6_evening_23 : decode cX6_evening 23 = .ok (.invokevirtual 66, 3) := by decide +kernel
theorem dX6_evening_26 : decode cX6_evening 26 = .ok (.ireturn, 1) := by decide +kernel
theorem dX6_evening_27 : decode cX6_evening 27 = .ok (.aload_n 0, 1) := by decide +kernel
theorem dX6_evening_28 : decode cX6_evening 28 = .ok (.getfield 16, 3) := by decide +kernel
theorem dX6_evening_31 : decode cX6_evening 31 = .ok (.aload_n 0, 1) := by decide +kernel
theorem dX6_evening_32 : decode cX6_evening 32 = .ok (.getfield 10, 3) := by decide +kernel
theorem dX6_evening_35 : decode cX6_evening 35 = .ok (.invokevirtual 110, 3) := by decide +kernel
theorem dX6_evening_38 : decode cX6_evening 38 = .ok (.iload_n 1, 1) := by decide +kernel
theorem dX6_evening_39 : decode cX6_evening 39 = .ok (.i2l, 1) := by decide +kernel
theorem dX6_evening_40 : decode cX6_evening 40 = .ok (.lstore_n 3, 1) := by decide +kernel
theorem dX6_evening_41 : decode cX6_evening 41 = .ok (.iconst 0, 1) := by decide +kernel
theorem dX6_evening_42 : decode cX6_evening 42 = .ok (.istore 5, 2) := by decide +kernel
theorem dX6_evening_44 : decode cX6_evening 44 = .ok (.iload 5, 2) := by decide +kernel
theorem dX6_evening_46 : decode cX6_evening 46 = .ok (.aload_n 0, 1) := by decide +kernel
theorem dX6_evening_47 : decode cX6_evening 47 = .ok (.getfield 16, 3) := by decide +kernel
theorem dX6_evening_50 : decode cX6_evening 50 = .ok (.getfield 70, 3) := by decide +kernel
theorem dX6_evening_53 : decode cX6_evening 53 = .ok (.if_icmp .ge 65, 3) := by decide +kernel
theorem dX6_evening_56 : decode cX6_evening 56 = .ok (.lload_n 3, 1) := by decide +kernel
theorem dX6_evening_57 : decode cX6_evening 57 = .ok (.ldc2_w 253, 3) := by decide +kernel
theorem dX6_evening_60 : decode cX6_evening 60 = .ok (.lmul, 1) := by decide +kernel
theorem dX6_evening_61 : decode cX6_evening 61 = .ok (.ldc2_w 255, 3) := by decide +kernel
theorem dX6_evening_64 : decode cX6_evening 64 = .ok (.ladd, 1) := by decide +kernel
theorem dX6_evening_65 : decode cX6_evening 65 = .ok (.ldc2_w 257, 3) := by decide +kernel
theorem dX6_evening_68 : decode cX6_evening 68 = .ok (.lrem, 1) := by decide +kernel
theorem dX6_evening_69 : decode cX6_evening 69 = .ok (.lstore_n 3, 1) := by decide +kernel
theorem dX6_evening_70 : decode cX6_evening 70 = .ok (.lload_n 3, 1) := by decide +kernel
theorem dX6_evening_71 : decode cX6_evening 71 = .ok (.ldc2_w 259, 3) := by decide +kernel
theorem dX6_evening_74 : decode cX6_evening 74 = .ok (.ldiv, 1) := by decide +kernel
theorem dX6_evening_75 : decode cX6_evening 75 = .ok (.ldc2_w 261, 3) := by decide +kernel
theorem dX6_evening_78 : decode cX6_evening 78 = .ok (.lrem, 1) := by decide +kernel
theorem dX6_evening_79 : decode cX6_evening 79 = .ok (.iload_n 2, 1) := by decide +kernel
theorem dX6_evening_80 : decode cX6_evening 80 = .ok (.i2l, 1) := by decide +kernel
theorem dX6_evening_81 : decode cX6_evening 81 = .ok (.lcmp, 1) := by decide +kernel
theorem dX6_evening_82 : decode cX6_evening 82 = .ok (.ifCond .ge 30, 3) := by decide +kernel
theorem dX6_evening_85 : decode cX6_evening 85 = .ok (.aload_n 0, 1) := by decide +kernel
theorem dX6_evening_86 : decode cX6_evening 86 = .ok (.getfield 16, 3) := by decide +kernel
theorem dX6_evening_89 : decode cX6_evening 89 = .ok (.getfield 137, 3) := by decide +kernel
theorem dX6_evening_92 : decode cX6_evening 92 = .ok (.iload 5, 2) := by decide +kernel
theorem dX6_evening_94 : decode cX6_evening 94 = .ok (.aload_n 0, 1) := by decide +kernel
theorem dX6_evening_95 : decode cX6_evening 95 = .ok (.getfield 16, 3) := by decide +kernel
theorem dX6_evening_98 : decode cX6_evening 98 = .ok (.getfield 137, 3) := by decide +kernel
theorem dX6_evening_101 : decode cX6_evening 101 = .ok (.iload 5, 2) := by decide +kernel
theorem dX6_evening_103 : decode cX6_evening 103 = .ok (.iaload, 1) := by decide +kernel
theorem dX6_evening_104 : decode cX6_evening 104 = .ok (.iconst 1, 1) := by decide +kernel
theorem dX6_evening_105 : decode cX6_evening 105 = .ok (.iadd, 1) := by decide +kernel
theorem dX6_evening_106 : decode cX6_evening 106 = .ok (.bipush 63, 2) := by decide +kernel
theorem dX6_evening_108 : decode cX6_evening 108 = .ok (.invokestatic 263, 3) := by decide +kernel
theorem dX6_evening_111 : decode cX6_evening 111 = .ok (.iastore, 1) := by decide +kernel
theorem dX6_evening_112 : decode cX6_evening 112 = .ok (.iinc 5 1, 3) := by decide +kernel
theorem dX6_evening_115 : decode cX6_evening 115 = .ok (.goto (-71), 3) := by decide +kernel
theorem dX6_evening_118 : decode cX6_evening 118 = .ok (.aload_n 0, 1) := by decide +kernel
theorem dX6_evening_119 : decode cX6_evening 119 = .ok (.getfield 16, 3) := by decide +kernel
theorem dX6_evening_122 : decode cX6_evening 122 = .ok (.invokevirtual 122, 3) := by decide +kernel
theorem dX6_evening_125 : decode cX6_evening 125 = .ok (.ireturn, 1) := by decide +kernel
theorem dX6_part_0 : decode cX6_part 0 = .ok (.iload_n 1, 1) := by decide +kernel
theorem dX6_part_1 : decode cX6_part 1 = .ok (.iconst 0, 1) := by decide +kernel
theorem dX6_part_2 : decode cX6_part 2 = .ok (.iconst 1, 1) := by decide +kernel
theorem dX6_part_3 : decode cX6_part 3 = .ok (.invokestatic 62, 3) := by decide +kernel
theorem dX6_part_6 : decode cX6_part 6 = .ok (.ifCond .ne 11, 3) := by decide +kernel
theorem dX6_part_9 : decode cX6_part 9 = .ok (.aload_n 0, 1) := by decide +kernel
theorem dX6_part_10 : decode cX6_part 10 = .ok (.bipush (-2), 2) := by decide +kernel
theorem dX6_part_12 : decode cX6_part 12 = .ok (.invokevirtual 66, 3) := by decide +kernel
theorem dX6_part_15 : decode cX6_part 15 = .ok (.i2l, 1) := by decide +kernel
theorem dX6_part_16 : decode cX6_part 16 = .ok (.lreturn, 1) := by decide +kernel
theorem dX6_part_17 : decode cX6_part 17 = .ok (.iload_n 1, 1) := by decide +kernel
theorem dX6_part_18 : decode cX6_part 18 = .ok (.ifCond .ne 10, 3) := by decide +kernel
theorem dX6_part_21 : decode cX6_part 21 = .ok (.aload_n 0, 1) := by decide +kernel
theorem dX6_part_22 : decode cX6_part 22 = .ok (.getfield 266, 3) := by decide +kernel
theorem dX6_part_25 : decode cX6_part 25 = .ok (.goto 7, 3) := by decide +kernel
theorem dX6_part_28 : decode cX6_part 28 = .ok (.aload_n 0, 1) := by decide +kernel
theorem dX6_part_29 : decode cX6_part 29 = .ok (.getfield 58, 3) := by decide +kernel
theorem dX6_part_32 : decode cX6_part 32 = .ok (.lreturn, 1) := by decide +kernel
theorem dX6_image_0 : decode cX6_image 0 = .ok (.iload_n 1, 1) := by decide +kernel
theorem dX6_image_1 : decode cX6_image 1 = .ok (.iconst 0, 1) := by decide +kernel
theorem dX6_image_2 : decode cX6_image 2 = .ok (.iconst 1, 1) := by decide +kernel
theorem dX6_image_3 : decode cX6_image 3 = .ok (.invokestatic 62, 3) := by decide +kernel
theorem dX6_image_6 : decode cX6_image 6 = .ok (.ifCond .ne 10, 3) := by decide +kernel
theorem dX6_image_9 : decode cX6_image 9 = .ok (.aload_n 0, 1) := by decide +kernel
theorem dX6_image_10 : decode cX6_image 10 = .ok (.bipush (-2), 2) := by decide +kernel
theorem dX6_image_12 : decode cX6_image 12 = .ok (.invokevirtual 66, 3) := by decide +kernel
theorem dX6_image_15 : decode cX6_image 15 = .ok (.ireturn, 1) := by decide +kernel
theorem dX6_image_16 : decode cX6_image 16 = .ok (.aload_n 0, 1) := by decide +kernel
theorem dX6_image_17 : decode cX6_image 17 = .ok (.getfield 19, 3) := by decide +kernel
theorem dX6_image_20 : decode cX6_image 20 = .ok (.iload_n 1, 1) := by decide +kernel
theorem dX6_image_21 : decode cX6_image 21 = .ok (.aaload, 1) := by decide +kernel
theorem dX6_image_22 : decode cX6_image 22 = .ok (.aload_n 0, 1) := by decide +kernel
theorem dX6_image_23 : decode cX6_image 23 = .ok (.getfield 10, 3) := by decide +kernel
theorem dX6_image_26 : decode cX6_image 26 = .ok (.invokevirtual 110, 3) := by decide +kernel
theorem dX6_image_29 : decode cX6_image 29 = .ok (.aload_n 0, 1) := by decide +kernel
theorem dX6_image_30 : decode cX6_image 30 = .ok (.dup, 1) := by decide +kernel
theorem dX6_image_31 : decode cX6_image 31 = .ok (.getfield 269, 3) := by decide +kernel
theorem dX6_image_34 : decode cX6_image 34 = .ok (.iconst 1, 1) := by decide +kernel
theorem dX6_image_35 : decode cX6_image 35 = .ok (.iload_n 1, 1) := by decide +kernel
theorem dX6_image_36 : decode cX6_image 36 = .ok (.ishl, 1) := by decide +kernel
theorem dX6_image_37 : decode cX6_image 37 = .ok (.ior, 1) := by decide +kernel
theorem dX6_image_38 : decode cX6_image 38 = .ok (.putfield 269, 3) := by decide +kernel
theorem dX6_image_41 : decode cX6_image 41 = .ok (.iconst 1, 1) := by decide +kernel
theorem dX6_image_42 : decode cX6_image 42 = .ok (.ireturn, 1) := by decide +kernel
theorem dX6_from_0 : decode cX6_from 0 = .ok (.iload_n 1, 1) := by decide +kernel
theorem dX6_from_1 : decode cX6_from 1 = .ok (.iconst 0, 1) := by decide +kernel
theorem dX6_from_2 : decode cX6_from 2 = .ok (.iconst 1, 1) := by decide +kernel
theorem dX6_from_3 : decode cX6_from 3 = .ok (.invokestatic 62, 3) := by decide +kernel
theorem dX6_from_6 : decode cX6_from 6 = .ok (.ifCond .ne 10, 3) := by decide +kernel
theorem dX6_from_9 : decode cX6_from 9 = .ok (.aload_n 0, 1) := by decide +kernel
theorem dX6_from_10 : decode cX6_from 10 = .ok (.bipush (-2), 2) := by decide +kernel
theorem dX6_from_12 : decode cX6_from 12 = .ok (.invokevirtual 66, 3) := by decide +kernel
theorem dX6_from_15 : decode cX6_from 15 = .ok (.ireturn, 1) := by decide +kernel
theorem dX6_from_16 : decode cX6_from 16 = .ok (.aload_n 0, 1) := by decide +kernel
theorem dX6_from_17 : decode cX6_from 17 = .ok (.getfield 269, 3) := by decide +kernel
theorem dX6_from_20 : decode cX6_from 20 = .ok (.iload_n 1, 1) := by decide +kernel
theorem dX6_from_21 : decode cX6_from 21 = .ok (.ishr, 1) := by decide +kernel
theorem dX6_from_22 : decode cX6_from 22 = .ok (.iconst 1, 1) := by decide +kernel
theorem dX6_from_23 : decode cX6_from 23 = .ok (.iand, 1) := by decide +kernel
theorem dX6_from_24 : decode cX6_from 24 = .ok (.ifCond .ne 10, 3) := by decide +kernel
theorem dX6_from_27 : decode cX6_from 27 = .ok (.aload_n 0, 1) := by decide +kernel
theorem dX6_from_28 : decode cX6_from 28 = .ok (.bipush (-3), 2) := by decide +kernel
theorem dX6_from_30 : decode cX6_from 30 = .ok (.invokevirtual 128, 3) := by decide +kernel
theorem dX6_from_33 : decode cX6_from 33 = .ok (.ireturn, 1) := by decide +kernel
theorem dX6_from_34 : decode cX6_from 34 = .ok (.aload_n 0, 1) := by decide +kernel
theorem dX6_from_35 : decode cX6_from 35 = .ok (.getfield 10, 3) := by decide +kernel
theorem dX6_from_38 : decode cX6_from 38 = .ok (.aload_n 0, 1) := by decide +kernel
theorem dX6_from_39 : decode cX6_from 39 = .ok (.getfield 19, 3) := by decide +kernel
theorem dX6_from_42 : decode cX6_from 42 = .ok (.iload_n 1, 1) := by decide +kernel
theorem dX6_from_43 : decode cX6_from 43 = .ok (.aaload, 1) := by decide +kernel
theorem dX6_from_44 : decode cX6_from 44 = .ok (.invokevirtual 110, 3) := by decide +kernel
theorem dX6_from_47 : decode cX6_from 47 = .ok (.iconst 1, 1) := by decide +kernel
theorem dX6_from_48 : decode cX6_from 48 = .ok (.ireturn, 1) := by decide +kernel
theorem dX6_status_0 : decode cX6_status 0 = .ok (.iload_n 1, 1) := by decide +kernel
theorem dX6_status_1 : decode cX6_status 1 = .ok (.tableswitch 42 0 2 #[27, 32, 37], 27) := by decide +kernel
theorem dX6_status_28 : decode cX6_status 28 = .ok (.aload_n 0, 1) := by decide +kernel
theorem dX6_status_29 : decode cX6_status 29 = .ok (.getfield 272, 3) := by decide +kernel
theorem dX6_status_32 : decode cX6_status 32 = .ok (.ireturn, 1) := by decide +kernel
theorem dX6_status_33 : decode cX6_status 33 = .ok (.aload_n 0, 1) := by decide +kernel
theorem dX6_status_34 : decode cX6_status 34 = .ok (.getfield 275, 3) := by decide +kernel
theorem dX6_status_37 : decode cX6_status 37 = .ok (.ireturn, 1) := by decide +kernel
theorem dX6_status_38 : decode cX6_status 38 = .ok (.aload_n 0, 1) := by decide +kernel
theorem dX6_status_39 : decode cX6_status 39 = .ok (.getfield 278, 3) := by decide +kernel
theorem dX6_status_42 : decode cX6_status 42 = .ok (.ireturn, 1) := by decide +kernel
theorem dX6_status_43 : decode cX6_status 43 = .ok (.aload_n 0, 1) := by decide +kernel
theorem dX6_status_44 : decode cX6_status 44 = .ok (.iconst (-1), 1) := by decide +kernel
theorem dX6_status_45 : decode cX6_status 45 = .ok (.invokevirtual 66, 3) := by decide +kernel
theorem dX6_status_48 : decode cX6_status 48 = .ok (.ireturn, 1) := by decide +kernel
theorem dX6_count_0 : decode cX6_count 0 = .ok (.iload_n 1, 1) := by decide +kernel
theorem dX6_count_1 : decode cX6_count 1 = .ok (.iconst 0, 1) := by decide +kernel
theorem dX6_count_2 : decode cX6_count 2 = .ok (.iconst 5, 1) := by decide +kernel
theorem dX6_count_3 : decode cX6_count 3 = .ok (.invokestatic 62, 3) := by decide +kernel
theorem dX6_count_6 : decode cX6_count 6 = .ok (.ifCond .eq 11, 3) := by decide +kernel
theorem dX6_count_9 : decode cX6_count 9 = .ok (.aload_n 0, 1) := by decide +kernel
theorem dX6_count_10 : decode cX6_count 10 = .ok (.iload_n 1, 1) := by decide +kernel
theorem dX6_count_11 : decode cX6_count 11 = .ok (.invokevirtual 281, 3) := by decide +kernel
theorem dX6_count_14 : decode cX6_count 14 = .ok (.goto 9, 3) := by decide +kernel
theorem dX6_count_17 : decode cX6_count 17 = .ok (.aload_n 0, 1) := by decide +kernel
theorem dX6_count_18 : decode cX6_count 18 = .ok (.bipush (-2), 2) := by decide +kernel
theorem dX6_count_20 : decode cX6_count 20 = .ok (.invokevirtual 66, 3) := by decide +kernel
theorem dX6_count_23 : decode cX6_count 23 = .ok (.ireturn, 1) := by decide +kernel
theorem dX6_digest_0 : decode cX6_digest 0 = .ok (.ldc2_w 284, 3) := by decide +kernel
theorem dX6_digest_3 : decode cX6_digest 3 = .ok (.lstore_n 1, 1) := by decide +kernel
theorem dX6_digest_4 : decode cX6_digest 4 = .ok (.iconst 0, 1) := by decide +kernel
theorem dX6_digest_5 : decode cX6_digest 5 = .ok (.istore_n 3, 1) := by decide +kernel
theorem dX6_digest_6 : decode cX6_digest 6 = .ok (.iload_n 3, 1) := by decide +kernel
theorem dX6_digest_7 : decode cX6_digest 7 = .ok (.iconst 5, 1) := by decide +kernel
theorem dX6_digest_8 : decode cX6_digest 8 = .ok (.if_icmp .gt 22, 3) := by decide +kernel
theorem dX6_digest_11 : decode cX6_digest 11 = .ok (.ldc2_w 286, 3) := by decide +kernel
theorem dX6_digest_14 : decode cX6_digest 14 = .ok (.lload_n 1, 1) := by decide +kernel
theorem dX6_digest_15 : decode cX6_digest 15 = .ok (.lmul, 1) := by decide +kernel
theorem dX6_digest_16 : decode cX6_digest 16 = .ok (.aload_n 0, 1) := by decide +kernel
theorem dX6_digest_17 : decode cX6_digest 17 = .ok (.iload_n 3, 1) := by decide +kernel
theorem dX6_digest_18 : decode cX6_digest 18 = .ok (.invokevirtual 281, 3) := by decide +kernel
theorem dX6_digest_21 : decode cX6_digest 21 = .ok (.i2l, 1) := by decide +kernel
theorem dX6_digest_22 : decode cX6_digest 22 = .ok (.ladd, 1) := by decide +kernel
theorem dX6_digest_23 : decode cX6_digest 23 = .ok (.lstore_n 1, 1) := by decide +kernel
theorem dX6_digest_24 : decode cX6_digest 24 = .ok (.iinc 3 1, 3) := by decide +kernel
theorem dX6_digest_27 : decode cX6_digest 27 = .ok (.goto (-21), 3) := by decide +kernel
theorem dX6_digest_30 : decode cX6_digest 30 = .ok (.aload_n 0, 1) := by decide +kernel
theorem dX6_digest_31 : decode cX6_digest 31 = .ok (.getfield 10, 3) := by decide +kernel
theorem dX6_digest_34 : decode cX6_digest 34 = .ok (.lload_n 1, 1) := by decide +kernel
theorem dX6_digest_35 : decode cX6_digest 35 = .ok (.invokevirtual 288, 3) := by decide +kernel
theorem dX6_digest_38 : decode cX6_digest 38 = .ok (.lstore_n 1, 1) := by decide +kernel
theorem dX6_digest_39 : decode cX6_digest 39 = .ok (.ldc2_w 286, 3) := by decide +kernel
theorem dX6_digest_42 : decode cX6_digest 42 = .ok (.lload_n 1, 1) := by decide +kernel
theorem dX6_digest_43 : decode cX6_digest 43 = .ok (.lmul, 1) := by decide +kernel
theorem dX6_digest_44 : decode cX6_digest 44 = .ok (.aload_n 0, 1) := by decide +kernel
theorem dX6_digest_45 : decode cX6_digest 45 = .ok (.getfield 266, 3) := by decide +kernel
theorem dX6_digest_48 : decode cX6_digest 48 = .ok (.ladd, 1) := by decide +kernel
theorem dX6_digest_49 : decode cX6_digest 49 = .ok (.lstore_n 1, 1) := by decide +kernel
theorem dX6_digest_50 : decode cX6_digest 50 = .ok (.ldc2_w 286, 3) := by decide +kernel
theorem dX6_digest_53 : decode cX6_digest 53 = .ok (.lload_n 1, 1) := by decide +kernel
theorem dX6_digest_54 : decode cX6_digest 54 = .ok (.lmul, 1) := by decide +kernel
theorem dX6_digest_55 : decode cX6_digest 55 = .ok (.aload_n 0, 1) := by decide +kernel
theorem dX6_digest_56 : decode cX6_digest 56 = .ok (.getfield 58, 3) := by decide +kernel
theorem dX6_digest_59 : decode cX6_digest 59 = .ok (.ladd, 1) := by decide +kernel
theorem dX6_digest_60 : decode cX6_digest 60 = .ok (.lreturn, 1) := by decide +kernel
theorem dX6_within_0 : decode cX6_within 0 = .ok (.iload_n 0, 1) := by decide +kernel
theorem dX6_within_1 : decode cX6_within 1 = .ok (.iload_n 1, 1) := by decide +kernel
theorem dX6_within_2 : decode cX6_within 2 = .ok (.if_icmp .lt 12, 3) := by decide +kernel
theorem dX6_within_5 : decode cX6_within 5 = .ok (.iload_n 0, 1) := by decide +kernel
theorem dX6_within_6 : decode cX6_within 6 = .ok (.iload_n 2, 1) := by decide +kernel
theorem dX6_within_7 : decode cX6_within 7 = .ok (.if_icmp .gt 7, 3) := by decide +kernel
theorem dX6_within_10 : decode cX6_within 10 = .ok (.iconst 1, 1) := by decide +kernel
theorem dX6_within_11 : decode cX6_within 11 = .ok (.goto 4, 3) := by decide +kernel
theorem dX6_within_14 : decode cX6_within 14 = .ok (.iconst 0, 1) := by decide +kernel
theorem dX6_within_15 : decode cX6_within 15 = .ok (.ireturn, 1) := by decide +kernel
theorem dX6_longestFrom_0 : decode cX6_longestFrom 0 = .ok (.bipush 8, 2) := by decide +kernel
theorem dX6_longestFrom_2 : decode cX6_longestFrom 2 = .ok (.bipush 64, 2) := by decide +kernel
theorem dX6_longestFrom_4 : decode cX6_longestFrom 4 = .ok (.iload_n 0, 1) := by decide +kernel
theorem dX6_longestFrom_5 : decode cX6_longestFrom 5 = .ok (.isub, 1) := by decide +kernel
theorem dX6_longestFrom_6 : decode cX6_longestFrom 6 = .ok (.invokestatic 263, 3) := by decide +kernel
theorem dX6_longestFrom_9 : decode cX6_longestFrom 9 = .ok (.ireturn, 1) := by decide +kernel
theorem dX6_isNote_0 : decode cX6_isNote 0 = .ok (.iload_n 1, 1) := by decide +kernel
theorem dX6_isNote_1 : decode cX6_isNote 1 = .ok (.iconst 0, 1) := by decide +kernel
theorem dX6_isNote_2 : decode cX6_isNote 2 = .ok (.aload_n 0, 1) := by decide +kernel
theorem dX6_isNote_3 : decode cX6_isNote 3 = .ok (.getfield 10, 3) := by decide +kernel
theorem dX6_isNote_6 : decode cX6_isNote 6 = .ok (.getfield 70, 3) := by decide +kernel
theorem dX6_isNote_9 : decode cX6_isNote 9 = .ok (.iconst 1, 1) := by decide +kernel
theorem dX6_isNote_10 : decode cX6_isNote 10 = .ok (.isub, 1) := by decide +kernel
theorem dX6_isNote_11 : decode cX6_isNote 11 = .ok (.invokestatic 62, 3) := by decide +kernel
theorem dX6_isNote_14 : decode cX6_isNote 14 = .ok (.ireturn, 1) := by decide +kernel
theorem dX6_refuseBad_0 : decode cX6_refuseBad 0 = .ok (.aload_n 0, 1) := by decide +kernel
theorem dX6_refuseBad_1 : decode cX6_refuseBad 1 = .ok (.dup, 1) := by decide +kernel
theorem dX6_refuseBad_2 : decode cX6_refuseBad 2 = .ok (.getfield 272, 3) := by decide +kernel
theorem dX6_refuseBad_5 : decode cX6_refuseBad 5 = .ok (.iconst 1, 1) := by decide +kernel
theorem dX6_refuseBad_6 : decode cX6_refuseBad 6 = .ok (.iadd, 1) := by decide +kernel
theorem dX6_refuseBad_7 : decode cX6_refuseBad 7 = .ok (.putfield 272, 3) := by decide +kernel
theorem dX6_refuseBad_10 : decode cX6_refuseBad 10 = .ok (.iload_n 1, 1) := by decide +kernel
theorem dX6_refuseBad_11 : decode cX6_refuseBad 11 = .ok (.ireturn, 1) := by decide +kernel
theorem dX6_refuseNo_0 : decode cX6_refuseNo 0 = .ok (.aload_n 0, 1) := by decide +kernel
theorem dX6_refuseNo_1 : decode cX6_refuseNo 1 = .ok (.dup, 1) := by decide +kernel
theorem dX6_refuseNo_2 : decode cX6_refuseNo 2 = .ok (.getfield 275, 3) := by decide +kernel
theorem dX6_refuseNo_5 : decode cX6_refuseNo 5 = .ok (.iconst 1, 1) := by decide +kernel
theorem dX6_refuseNo_6 : decode cX6_refuseNo 6 = .ok (.iadd, 1) := by decide +kernel
theorem dX6_refuseNo_7 : decode cX6_refuseNo 7 = .ok (.putfield 275, 3) := by decide +kernel
theorem dX6_refuseNo_10 : decode cX6_refuseNo 10 = .ok (.iload_n 1, 1) := by decide +kernel
theorem dX6_refuseNo_11 : decode cX6_refuseNo 11 = .ok (.ireturn, 1) := by decide +kernel
theorem dX6_refuseFull_0 : decode cX6_refuseFull 0 = .ok (.aload_n 0, 1) := by decide +kernel
theorem dX6_refuseFull_1 : decode cX6_refuseFull 1 = .ok (.dup, 1) := by decide +kernel
theorem dX6_refuseFull_2 : decode cX6_refuseFull 2 = .ok (.getfield 278, 3) := by decide +kernel
theorem dX6_refuseFull_5 : decode cX6_refuseFull 5 = .ok (.iconst 1, 1) := by decide +kernel
theorem dX6_refuseFull_6 : decode cX6_refuseFull 6 = .ok (.iadd, 1) := by decide +kernel
theorem dX6_refuseFull_7 : decode cX6_refuseFull 7 = .ok (.putfield 278, 3) := by decide +kernel
theorem dX6_refuseFull_10 : decode cX6_refuseFull 10 = .ok (.bipush (-4), 2) := by decide +kernel
theorem dX6_refuseFull_12 : decode cX6_refuseFull 12 = .ok (.ireturn, 1) := by decide +kernel
theorem dX6_forgetTheRest_0 : decode cX6_forgetTheRest 0 = .ok (.aload_n 0, 1) := by decide +kernel
theorem dX6_forgetTheRest_1 : decode cX6_forgetTheRest 1 = .ok (.iconst 0, 1) := by decide +kernel
theorem dX6_forgetTheRest_2 : decode cX6_forgetTheRest 2 = .ok (.putfield 269, 3) := by decide +kernel
theorem dX6_forgetTheRest_5 : decode cX6_forgetTheRest 5 = .ok (.aload_n 0, 1) := by decide +kernel
theorem dX6_forgetTheRest_6 : decode cX6_forgetTheRest 6 = .ok (.getfield 26, 3) := by decide +kernel
theorem dX6_forgetTheRest_9 : decode cX6_forgetTheRest 9 = .ok (.iconst 0, 1) := by decide +kernel
theorem dX6_forgetTheRest_10 : decode cX6_forgetTheRest 10 = .ok (.putfield 100, 3) := by decide +kernel
theorem dX6_forgetTheRest_13 : decode cX6_forgetTheRest 13 = .ok (.aload_n 0, 1) := by decide +kernel
theorem dX6_forgetTheRest_14 : decode cX6_forgetTheRest 14 = .ok (.lconst 0, 1) := by decide +kernel
theorem dX6_forgetTheRest_15 : decode cX6_forgetTheRest 15 = .ok (.putfield 266, 3) := by decide +kernel
theorem dX6_forgetTheRest_18 : decode cX6_forgetTheRest 18 = .ok (.aload_n 0, 1) := by decide +kernel
theorem dX6_forgetTheRest_19 : decode cX6_forgetTheRest 19 = .ok (.lconst 1, 1) := by decide +kernel
theorem dX6_forgetTheRest_20 : decode cX6_forgetTheRest 20 = .ok (.putfield 58, 3) := by decide +kernel
theorem dX6_forgetTheRest_23 : decode cX6_forgetTheRest 23 = .ok (.aload_n 0, 1) := by decide +kernel
theorem dX6_forgetTheRest_24 : decode cX6_forgetTheRest 24 = .ok (.iconst 0, 1) := by decide +kernel
theorem dX6_forgetTheRest_25 : decode cX6_forgetTheRest 25 = .ok (.putfield 272, 3) := by decide +kernel
theorem dX6_forgetTheRest_28 : decode cX6_forgetTheRest 28 = .ok (.aload_n 0, 1) := by decide +kernel
theorem dX6_forgetTheRest_29 : decode cX6_forgetTheRest 29 = .ok (.iconst 0, 1) := by decide +kernel
theorem dX6_forgetTheRest_30 : decode cX6_forgetTheRest 30 = .ok (.putfield 275, 3) := by decide +kernel
theorem dX6_forgetTheRest_33 : decode cX6_forgetTheRest 33 = .ok (.aload_n 0, 1) := by decide +kernel
theorem dX6_forgetTheRest_34 : decode cX6_forgetTheRest 34 = .ok (.iconst 0, 1) := by decide +kernel
theorem dX6_forgetTheRest_35 : decode cX6_forgetTheRest 35 = .ok (.putfield 278, 3) := by decide +kernel
theorem dX6_forgetTheRest_38 : decode cX6_forgetTheRest 38 = .ok (.return_, 1) := by decide +kernel
theorem dX6_freeHand_0 : decode cX6_freeHand 0 = .ok (.iload_n 1, 1) := by decide +kernel
theorem dX6_freeHand_1 : decode cX6_freeHand 1 = .ok (.iconst 0, 1) := by decide +kernel
theorem dX6_freeHand_2 : decode cX6_freeHand 2 = .ok (.bipush 63, 2) := by decide +kernel
theorem dX6_freeHand_4 : decode cX6_freeHand 4 = .ok (.invokestatic 62, 3) := by decide +kernel
theorem dX6_freeHand_7 : decode cX6_freeHand 7 = .ok (.ifCond .ne 5, 3) := by decide +kernel
theorem dX6_freeHand_10 : decode cX6_freeHand 10 = .ok (.iconst (-1), 1) := by decide +kernel
theorem dX6_freeHand_11 : decode cX6_freeHand 11 = .ok (.ireturn, 1) := by decide +kernel
theorem dX6_freeHand_12 : decode cX6_freeHand 12 = .ok (.iload_n 2, 1) := by decide +kernel
theorem dX6_freeHand_13 : decode cX6_freeHand 13 = .ok (.iconst (-1), 1) := by decide +kernel
theorem dX6_freeHand_14 : decode cX6_freeHand 14 = .ok (.if_icmp .ne 7, 3) := by decide +kernel
theorem dX6_freeHand_17 : decode cX6_freeHand 17 = .ok (.iconst 0, 1) := by decide +kernel
theorem dX6_freeHand_18 : decode cX6_freeHand 18 = .ok (.goto 6, 3) := by decide +kernel
theorem dX6_freeHand_21 : decode cX6_freeHand 21 = .ok (.iconst 2, 1) := by decide +kernel
theorem dX6_freeHand_22 : decode cX6_freeHand 22 = .ok (.iload_n 2, 1) := by decide +kernel
theorem dX6_freeHand_23 : decode cX6_freeHand 23 = .ok (.imul, 1) := by decide +kernel
theorem dX6_freeHand_24 : decode cX6_freeHand 24 = .ok (.istore_n 3, 1) := by decide +kernel
theorem dX6_freeHand_25 : decode cX6_freeHand 25 = .ok (.iload_n 2, 1) := by decide +kernel
theorem dX6_freeHand_26 : decode cX6_freeHand 26 = .ok (.iconst (-1), 1) := by decide +kernel
theorem dX6_freeHand_27 : decode cX6_freeHand 27 = .ok (.if_icmp .ne 7, 3) := by decide +kernel
theorem dX6_freeHand_30 : decode cX6_freeHand 30 = .ok (.iconst 3, 1) := by decide +kernel
theorem dX6_freeHand_31 : decode cX6_freeHand 31 = .ok (.goto 6, 3) := by decide +kernel
theorem dX6_freeHand_34 : decode cX6_freeHand 34 = .ok (.iload_n 3, 1) := by decide +kernel
theorem dX6_freeHand_35 : decode cX6_freeHand 35 = .ok (.iconst 1, 1) := by decide +kernel
theorem dX6_freeHand_36 : decode cX6_freeHand 36 = .ok (.iadd, 1) := by decide +kernel
theorem dX6_freeHand_37 : decode cX6_freeHand 37 = .ok (.istore 4, 2) := by decide +kernel
theorem dX6_freeHand_39 : decode cX6_freeHand 39 = .ok (.iload_n 3, 1) := by decide +kernel
theorem dX6_freeHand_40 : decode cX6_freeHand 40 = .ok (.istore 5, 2) := by decide +kernel
theorem dX6_freeHand_42 : decode cX6_freeHand 42 = .ok (.iload 5, 2) := by decide +kernel
theorem dX6_freeHand_44 : decode cX6_freeHand 44 = .ok (.iload 4, 2) := by decide +kernel
theorem dX6_freeHand_46 : decode cX6_freeHand 46 = .ok (.if_icmp .gt 30, 3) := by decide +kernel
theorem dX6_freeHand_49 : decode cX6_freeHand 49 = .ok (.aload_n 0, 1) := by decide +kernel
theorem dX6_freeHand_50 : decode cX6_freeHand 50 = .ok (.getfield 10, 3) := by decide +kernel
theorem dX6_freeHand_53 : decode cX6_freeHand 53 = .ok (.iload 5, 2) := by decide +kernel
theorem dX6_freeHand_55 : decode cX6_freeHand 55 = .ok (.iload_n 1, 1) := by decide +kernel
theorem dX6_freeHand_56 : decode cX6_freeHand 56 = .ok (.invokevirtual 292, 3) := by decide +kernel
theorem dX6_freeHand_59 : decode cX6_freeHand 59 = .ok (.ifCond .eq 11, 3) := by decide +kernel
theorem dX6_freeHand_62 : decode cX6_freeHand 62 = .ok (.bipush 10, 2) := by decide +kernel
theorem dX6_freeHand_64 : decode cX6_freeHand 64 = .ok (.iload_n 1, 1) := by decide +kernel
theorem dX6_freeHand_65 : decode cX6_freeHand 65 = .ok (.imul, 1) := by decide +kernel
theorem dX6_freeHand_66 : decode cX6_freeHand 66 = .ok (.iload 5, 2) := by decide +kernel
theorem dX6_freeHand_68 : decode cX6_freeHand 68 = .ok (.iadd, 1) := by decide +kernel
theorem dX6_freeHand_69 : decode cX6_freeHand 69 = .ok (.ireturn, 1) := by decide +kernel
theorem dX6_freeHand_70 : decode cX6_freeHand 70 = .ok (.iinc 5 1, 3) := by decide +kernel
theorem dX6_freeHand_73 : decode cX6_freeHand 73 = .ok (.goto (-31), 3) := by decide +kernel
theorem dX6_freeHand_76 : decode cX6_freeHand 76 = .ok (.iconst (-1), 1) := by decide +kernel
theorem dX6_freeHand_77 : decode cX6_freeHand 77 = .ok (.ireturn, 1) := by decide +kernel
theorem dX6_setFraction_0 : decode cX6_setFraction 0 = .ok (.iload_n 2, 1) := by decide +kernel
theorem dX6_setFraction_1 : decode cX6_setFraction 1 = .ok (.istore_n 3, 1) := by decide +kernel
theorem dX6_setFraction_2 : decode cX6_setFraction 2 = .ok (.iload_n 1, 1) := by decide +kernel
theorem dX6_setFraction_3 : decode cX6_setFraction 3 = .ok (.istore 4, 2) := by decide +kernel
theorem dX6_setFraction_5 : decode cX6_setFraction 5 = .ok (.iconst 0, 1) := by decide +kernel
theorem dX6_setFraction_6 : decode cX6_setFraction 6 = .ok (.istore 5, 2) := by decide +kernel
theorem dX6_setFraction_8 : decode cX6_setFraction 8 = .ok (.iload 5, 2) := by decide +kernel
theorem dX6_setFraction_10 : decode cX6_setFraction 10 = .ok (.bipush 64, 2) := by decide +kernel
theorem dX6_setFraction_12 : decode cX6_setFraction 12 = .ok (.if_icmp .ge 27, 3) := by decide +kernel
theorem dX6_setFraction_15 : decode cX6_setFraction 15 = .ok (.iload 4, 2) := by decide +kernel
theorem dX6_setFraction_17 : decode cX6_setFraction 17 = .ok (.ifCond .eq 22, 3) := by decide +kernel
theorem dX6_setFraction_20 : decode cX6_setFraction 20 = .ok (.iload_n 3, 1) := by decide +kernel
theorem dX6_setFraction_21 : decode cX6_setFraction 21 = .ok (.iload 4, 2) := by decide +kernel
theorem dX6_setFraction_23 : decode cX6_setFraction 23 = .ok (.irem, 1) := by decide +kernel
theorem dX6_setFraction_24 : decode cX6_setFraction 24 = .ok (.istore 6, 2) := by decide +kernel
theorem dX6_setFraction_26 : decode cX6_setFraction 26 = .ok (.iload 4, 2) := by decide +kernel
theorem dX6_setFraction_28 : decode cX6_setFraction 28 = .ok (.istore_n 3, 1) := by decide +kernel
theorem dX6_setFraction_29 : decode cX6_setFraction 29 = .ok (.iload 6, 2) := by decide +kernel
theorem dX6_setFraction_31 : decode cX6_setFraction 31 = .ok (.istore 4, 2) := by decide +kernel
theorem dX6_setFraction_33 : decode cX6_setFraction 33 = .ok (.iinc 5 1, 3) := by decide +kernel
theorem dX6_setFraction_36 : decode cX6_setFraction 36 = .ok (.goto (-28), 3) := by decide +kernel
theorem dX6_setFraction_39 : decode cX6_setFraction 39 = .ok (.iload_n 3, 1) := by decide +kernel
theorem dX6_setFraction_40 : decode cX6_setFraction 40 = .ok (.ifCond .le 19, 3) := by decide +kernel
theorem dX6_setFraction_43 : decode cX6_setFraction 43 = .ok (.aload_n 0, 1) := by decide +kernel
theorem dX6_setFraction_44 : decode cX6_setFraction 44 = .ok (.iload_n 1, 1) := by decide +kernel
theorem dX6_setFraction_45 : decode cX6_setFraction 45 = .ok (.iload_n 3, 1) := by decide +kernel
theorem dX6_setFraction_46 : decode cX6_setFraction 46 = .ok (.idiv, 1) := by decide +kernel
theorem dX6_setFraction_47 : decode cX6_setFraction 47 = .ok (.i2l, 1) := by decide +kernel
theorem dX6_setFraction_48 : decode cX6_setFraction 48 = .ok (.putfield 266, 3) := by decide +kernel
theorem dX6_setFraction_51 : decode cX6_setFraction 51 = .ok (.aload_n 0, 1) := by decide +kernel
theorem dX6_setFraction_52 : decode cX6_setFraction 52 = .ok (.iload_n 2, 1) := by decide +kernel
theorem dX6_setFraction_53 : decode cX6_setFraction 53 = .ok (.iload_n 3, 1) := by decide +kernel
theorem dX6_setFraction_54 : decode cX6_setFraction 54 = .ok (.idiv, 1) := by decide +kernel
theorem dX6_setFraction_55 : decode cX6_setFraction 55 = .ok (.i2l, 1) := by decide +kernel
theorem dX6_setFraction_56 : decode cX6_setFraction 56 = .ok (.putfield 58, 3) := by decide +kernel
theorem dX6_setFraction_59 : decode cX6_setFraction 59 = .ok (.return_, 1) := by decide +kernel
theorem dX6_howMany_0 : decode cX6_howMany 0 = .ok (.iload_n 1, 1) := by decide +kernel
theorem dX6_howMany_1 : decode cX6_howMany 1 = .ok (.tableswitch 83 0 4 #[35, 43, 51, 59, 75], 35) := by decide +kernel
theorem dX6_howMany_36 : decode cX6_howMany 36 = .ok (.aload_n 0, 1) := by decide +kernel
theorem dX6_howMany_37 : decode cX6_howMany 37 = .ok (.getfield 10, 3) := by decide +kernel
theorem dX6_howMany_40 : decode cX6_howMany 40 = .ok (.getfield 70, 3) := by decide +kernel
theorem dX6_howMany_43 : decode cX6_howMany 43 = .ok (.ireturn, 1) := by decide +kernel
theorem dX6_howMany_44 : decode cX6_howMany 44 = .ok (.aload_n 0, 1) := by decide +kernel
theorem dX6_howMany_45 : decode cX6_howMany 45 = .ok (.getfield 10, 3) := by decide +kernel
theorem dX6_howMany_48 : decode cX6_howMany 48 = .ok (.invokevirtual 296, 3) := by decide +kernel
theorem dX6_howMany_51 : decode cX6_howMany 51 = .ok (.ireturn, 1) := by decide +kernel
theorem dX6_howMany_52 : decode cX6_howMany 52 = .ok (.aload_n 0, 1) := by decide +kernel
theorem dX6_howMany_53 : decode cX6_howMany 53 = .ok (.getfield 10, 3) := by decide +kernel
theorem dX6_howMany_56 : decode cX6_howMany 56 = .ok (.getfield 299, 3) := by decide +kernel
theorem dX6_howMany_59 : decode cX6_howMany 59 = .ok (.ireturn, 1) := by decide +kernel
theorem dX6_howMany_60 : decode cX6_howMany 60 = .ok (.aload_n 0, 1) := by decide +kernel
theorem dX6_howMany_61 : decode cX6_howMany 61 = .ok (.getfield 10, 3) := by decide +kernel
theorem dX6_howMany_64 : decode cX6_howMany 64 = .ok (.getfield 203, 3) := by decide +kernel
theorem dX6_howMany_67 : decode cX6_howMany 67 = .ok (.aload_n 0, 1) := by decide +kernel
theorem dX6_howMany_68 : decode cX6_howMany 68 = .ok (.getfield 10, 3) := by decide +kernel
theorem dX6_howMany_71 : decode cX6_howMany 71 = .ok (.getfield 200, 3) := by decide +kernel
theorem dX6_howMany_74 : decode cX6_howMany 74 = .ok (.isub, 1) := by decide +kernel
theorem dX6_howMany_75 : decode cX6_howMany 75 = .ok (.ireturn, 1) := by decide +kernel
theorem dX6_howMany_76 : decode cX6_howMany 76 = .ok (.aload_n 0, 1) := by decide +kernel
theorem dX6_howMany_77 : decode cX6_howMany 77 = .ok (.getfield 10, 3) := by decide +kernel
theorem dX6_howMany_80 : decode cX6_howMany 80 = .ok (.getfield 125, 3) := by decide +kernel
theorem dX6_howMany_83 : decode cX6_howMany 83 = .ok (.ireturn, 1) := by decide +kernel
theorem dX6_howMany_84 : decode cX6_howMany 84 = .ok (.aload_n 0, 1) := by decide +kernel
theorem dX6_howMany_85 : decode cX6_howMany 85 = .ok (.getfield 26, 3) := by decide +kernel
theorem dX6_howMany_88 : decode cX6_howMany 88 = .ok (.getfield 100, 3) := by decide +kernel
theorem dX6_howMany_91 : decode cX6_howMany 91 = .ok (.ireturn, 1) := by decide +kernel
theorem dJ6_bitCount_0f7a4_0 : decode cJ6_bitCount_0f7a4 0 = .ok (.iload_n 0, 1) := by decide +kernel
theorem dJ6_bitCount_0f7a4_1 : decode cJ6_bitCount_0f7a4 1 = .ok (.iload_n 0, 1) := by decide +kernel
theorem dJ6_bitCount_0f7a4_2 : decode cJ6_bitCount_0f7a4 2 = .ok (.iconst 1, 1) := by decide +kernel
theorem dJ6_bitCount_0f7a4_3 : decode cJ6_bitCount_0f7a4 3 = .ok (.iushr, 1) := by decide +kernel
theorem dJ6_bitCount_0f7a4_4 : decode cJ6_bitCount_0f7a4 4 = .ok (.ldc_w 265, 3) := by decide +kernel
theorem dJ6_bitCount_0f7a4_7 : decode cJ6_bitCount_0f7a4 7 = .ok (.iand, 1) := by decide +kernel
theorem dJ6_bitCount_0f7a4_8 : decode cJ6_bitCount_0f7a4 8 = .ok (.isub, 1) := by decide +kernel
theorem dJ6_bitCount_0f7a4_9 : decode cJ6_bitCount_0f7a4 9 = .ok (.istore_n 0, 1) := by decide +kernel
theorem dJ6_bitCount_0f7a4_10 : decode cJ6_bitCount_0f7a4 10 = .ok (.iload_n 0, 1) := by decide +kernel
theorem dJ6_bitCount_0f7a4_11 : decode cJ6_bitCount_0f7a4 11 = .ok (.ldc_w 266, 3) := by decide +kernel
theorem dJ6_bitCount_0f7a4_14 : decode cJ6_bitCount_0f7a4 14 = .ok (.iand, 1) := by decide +kernel
theorem dJ6_bitCount_0f7a4_15 : decode cJ6_bitCount_0f7a4 15 = .ok (.iload_n 0, 1) := by decide +kernel
theorem dJ6_bitCount_0f7a4_16 : decode cJ6_bitCount_0f7a4 16 = .ok (.iconst 2, 1) := by decide +kernel
theorem dJ6_bitCount_0f7a4_17 : decode cJ6_bitCount_0f7a4 17 = .ok (.iushr, 1) := by decide +kernel
theorem dJ6_bitCount_0f7a4_18 : decode cJ6_bitCount_0f7a4 18 = .ok (.ldc_w 266, 3) := by decide +kernel
theorem dJ6_bitCount_0f7a4_21 : decode cJ6_bitCount_0f7a4 21 = .ok (.iand, 1) := by decide +kernel
theorem dJ6_bitCount_0f7a4_22 : decode cJ6_bitCount_0f7a4 22 = .ok (.iadd, 1) := by decide +kernel
theorem dJ6_bitCount_0f7a4_23 : decode cJ6_bitCount_0f7a4 23 = .ok (.istore_n 0, 1) := by decide +kernel
theorem dJ6_bitCount_0f7a4_24 : decode cJ6_bitCount_0f7a4 24 = .ok (.iload_n 0, 1) := by decide +kernel
theorem dJ6_bitCount_0f7a4_25 : decode cJ6_bitCount_0f7a4 25 = .ok (.iload_n 0, 1) := by decide +kernel
theorem dJ6_bitCount_0f7a4_26 : decode cJ6_bitCount_0f7a4 26 = .ok (.iconst 4, 1) := by decide +kernel
theorem dJ6_bitCount_0f7a4_27 : decode cJ6_bitCount_0f7a4 27 = .ok (.iushr, 1) := by decide +kernel
theorem dJ6_bitCount_0f7a4_28 : decode cJ6_bitCount_0f7a4 28 = .ok (.iadd, 1) := by decide +kernel
theorem dJ6_bitCount_0f7a4_29 : decode cJ6_bitCount_0f7a4 29 = .ok (.ldc_w 267, 3) := by decide +kernel
theorem dJ6_bitCount_0f7a4_32 : decode cJ6_bitCount_0f7a4 32 = .ok (.iand, 1) := by decide +kernel
theorem dJ6_bitCount_0f7a4_33 : decode cJ6_bitCount_0f7a4 33 = .ok (.istore_n 0, 1) := by decide +kernel
theorem dJ6_bitCount_0f7a4_34 : decode cJ6_bitCount_0f7a4 34 = .ok (.iload_n 0, 1) := by decide +kernel
theorem dJ6_bitCount_0f7a4_35 : decode cJ6_bitCount_0f7a4 35 = .ok (.iload_n 0, 1) := by decide +kernel
theorem dJ6_bitCount_0f7a4_36 : decode cJ6_bitCount_0f7a4 36 = .ok (.bipush 8, 2) := by decide +kernel
theorem dJ6_bitCount_0f7a4_38 : decode cJ6_bitCount_0f7a4 38 = .ok (.iushr, 1) := by decide +kernel
theorem dJ6_bitCount_0f7a4_39 : decode cJ6_bitCount_0f7a4 39 = .ok (.iadd, 1) := by decide +kernel
theorem dJ6_bitCount_0f7a4_40 : decode cJ6_bitCount_0f7a4 40 = .ok (.istore_n 0, 1) := by decide +kernel
theorem dJ6_bitCount_0f7a4_41 : decode cJ6_bitCount_0f7a4 41 = .ok (.iload_n 0, 1) := by decide +kernel
theorem dJ6_bitCount_0f7a4_42 : decode cJ6_bitCount_0f7a4 42 = .ok (.iload_n 0, 1) := by decide +kernel
theorem dJ6_bitCount_0f7a4_43 : decode cJ6_bitCount_0f7a4 43 = .ok (.bipush 16, 2) := by decide +kernel
theorem dJ6_bitCount_0f7a4_45 : decode cJ6_bitCount_0f7a4 45 = .ok (.iushr, 1) := by decide +kernel
theorem dJ6_bitCount_0f7a4_46 : decode cJ6_bitCount_0f7a4 46 = .ok (.iadd, 1) := by decide +kernel
theorem dJ6_bitCount_0f7a4_47 : decode cJ6_bitCount_0f7a4 47 = .ok (.istore_n 0, 1) := by decide +kernel
theorem dJ6_bitCount_0f7a4_48 : decode cJ6_bitCount_0f7a4 48 = .ok (.iload_n 0, 1) := by decide +kernel
theorem dJ6_bitCount_0f7a4_49 : decode cJ6_bitCount_0f7a4 49 = .ok (.bipush 63, 2) := by decide +kernel
theorem dJ6_bitCount_0f7a4_51 : decode cJ6_bitCount_0f7a4 51 = .ok (.iand, 1) := by decide +kernel
theorem dJ6_bitCount_0f7a4_52 : decode cJ6_bitCount_0f7a4 52 = .ok (.ireturn, 1) := by decide +kernel
theorem dJ9_abs_0f7a4_0 : decode cJ9_abs_0f7a4 0 = .ok (.iload_n 0, 1) := by decide +kernel
theorem dJ9_abs_0f7a4_1 : decode cJ9_abs_0f7a4 1 = .ok (.ifCond .ge 8, 3) := by decide +kernel
theorem dJ9_abs_0f7a4_4 : decode cJ9_abs_0f7a4 4 = .ok (.iload_n 0, 1) := by decide +kernel
theorem dJ9_abs_0f7a4_5 : decode cJ9_abs_0f7a4 5 = .ok (.ineg, 1) := by decide +kernel
theorem dJ9_abs_0f7a4_6 : decode cJ9_abs_0f7a4 6 = .ok (.goto 4, 3) := by decide +kernel
theorem dJ9_abs_0f7a4_9 : decode cJ9_abs_0f7a4 9 = .ok (.iload_n 0, 1) := by decide +kernel
theorem dJ9_abs_0f7a4_10 : decode cJ9_abs_0f7a4 10 = .ok (.ireturn, 1) := by decide +kernel
theorem dJ9_max_7cf53_0 : decode cJ9_max_7cf53 0 = .ok (.iload_n 0, 1) := by decide +kernel
theorem dJ9_max_7cf53_1 : decode cJ9_max_7cf53 1 = .ok (.iload_n 1, 1) := by decide +kernel
theorem dJ9_max_7cf53_2 : decode cJ9_max_7cf53 2 = .ok (.if_icmp .lt 7, 3) := by decide +kernel
theorem dJ9_max_7cf53_5 : decode cJ9_max_7cf53 5 = .ok (.iload_n 0, 1) := by decide +kernel
theorem dJ9_max_7cf53_6 : decode cJ9_max_7cf53 6 = .ok (.goto 4, 3) := by decide +kernel
theorem dJ9_max_7cf53_9 : decode cJ9_max_7cf53 9 = .ok (.iload_n 1, 1) := by decide +kernel
theorem dJ9_max_7cf53_10 : decode cJ9_max_7cf53 10 = .ok (.ireturn, 1) := by decide +kernel
theorem dJ9_min_7cf53_0 : decode cJ9_min_7cf53 0 = .ok (.iload_n 0, 1) := by decide +kernel
theorem dJ9_min_7cf53_1 : decode cJ9_min_7cf53 1 = .ok (.iload_n 1, 1) := by decide +kernel
theorem dJ9_min_7cf53_2 : decode cJ9_min_7cf53 2 = .ok (.if_icmp .gt 7, 3) := by decide +kernel
theorem dJ9_min_7cf53_5 : decode cJ9_min_7cf53 5 = .ok (.iload_n 0, 1) := by decide +kernel
theorem dJ9_min_7cf53_6 : decode cJ9_min_7cf53 6 = .ok (.goto 4, 3) := by decide +kernel
theorem dJ9_min_7cf53_9 : decode cJ9_min_7cf53 9 = .ok (.iload_n 1, 1) := by decide +kernel
theorem dJ9_min_7cf53_10 : decode cJ9_min_7cf53 10 = .ok (.ireturn, 1) := by decide +kernel
theorem dJ0_length_8abf5_0 : decode cJ0_length_8abf5 0 = .ok (.aload_n 0, 1) := by decide +kernel
theorem dJ0_length_8abf5_1 : decode cJ0_length_8abf5 1 = .ok (.getfield 9, 3) := by decide +kernel
theorem dJ0_length_8abf5_4 : decode cJ0_length_8abf5 4 = .ok (.arraylength, 1) := by decide +kernel
theorem dJ0_length_8abf5_5 : decode cJ0_length_8abf5 5 = .ok (.aload_n 0, 1) := by decide +kernel
theorem dJ0_length_8abf5_6 : decode cJ0_length_8abf5 6 = .ok (.invokevirtual 335, 3) := by decide +kernel
theorem dJ0_length_8abf5_9 : decode cJ0_length_8abf5 9 = .ok (.ishr, 1) := by decide +kernel
theorem dJ0_length_8abf5_10 : decode cJ0_length_8abf5 10 = .ok (.ireturn, 1) := by decide +kernel
theorem dJ0_charAt_5068e_0 : decode cJ0_charAt_5068e 0 = .ok (.aload_n 0, 1) := by decide +kernel
theorem dJ0_charAt_5068e_1 : decode cJ0_charAt_5068e 1 = .ok (.invokevirtual 492, 3) := by decide +kernel
theorem dJ0_charAt_5068e_4 : decode cJ0_charAt_5068e 4 = .ok (.ifCond .eq 12, 3) := by decide +kernel
theorem dJ0_charAt_5068e_7 : decode cJ0_charAt_5068e 7 = .ok (.aload_n 0, 1) := by decide +kernel
theorem dJ0_charAt_5068e_8 : decode cJ0_charAt_5068e 8 = .ok (.getfield 9, 3) := by decide +kernel
theorem dJ0_charAt_5068e_11 : decode cJ0_charAt_5068e 11 = .ok (.iload_n 1, 1) := by decide +kernel
theorem dJ0_charAt_5068e_12 : decode cJ0_charAt_5068e 12 = .ok (.invokestatic 495, 3) := by decide +kernel
theorem dJ0_charAt_5068e_15 : decode cJ0_charAt_5068e 15 = .ok (.ireturn, 1) := by decide +kernel
theorem dJ0_charAt_5068e_16 : decode cJ0_charAt_5068e 16 = .ok (.aload_n 0, 1) := by decide +kernel
theorem dJ0_charAt_5068e_17 : decode cJ0_charAt_5068e 17 = .ok (.getfield 9, 3) := by decide +kernel
theorem dJ0_charAt_5068e_20 : decode cJ0_charAt_5068e 20 = .ok (.iload_n 1, 1) := by decide +kernel
theorem dJ0_charAt_5068e_21 : decode cJ0_charAt_5068e 21 = .ok (.invokestatic 498, 3) := by decide +kernel
theorem dJ0_charAt_5068e_24 : decode cJ0_charAt_5068e 24 = .ok (.ireturn, 1) := by decide +kernel
theorem dJ0_coder_7d493_0 : decode cJ0_coder_7d493 0 = .ok (.getstatic 38, 3) := by decide +kernel
theorem dJ0_coder_7d493_3 : decode cJ0_coder_7d493 3 = .ok (.ifCond .eq 10, 3) := by decide +kernel
theorem dJ0_coder_7d493_6 : decode cJ0_coder_7d493 6 = .ok (.aload_n 0, 1) := by decide +kernel
theorem dJ0_coder_7d493_7 : decode cJ0_coder_7d493 7 = .ok (.getfield 15, 3) := by decide +kernel
theorem dJ0_coder_7d493_10 : decode cJ0_coder_7d493 10 = .ok (.goto 4, 3) := by decide +kernel
theorem dJ0_coder_7d493_13 : decode cJ0_coder_7d493 13 = .ok (.iconst 1, 1) := by decide +kernel
theorem dJ0_coder_7d493_14 : decode cJ0_coder_7d493 14 = .ok (.ireturn, 1) := by decide +kernel
theorem dJ0_isLatin1_aae02_0 : decode cJ0_isLatin1_aae02 0 = .ok (.getstatic 38, 3) := by decide +kernel
theorem dJ0_isLatin1_aae02_3 : decode cJ0_isLatin1_aae02 3 = .ok (.ifCond .eq 14, 3) := by decide +kernel
theorem dJ0_isLatin1_aae02_6 : decode cJ0_isLatin1_aae02 6 = .ok (.aload_n 0, 1) := by decide +kernel
theorem dJ0_isLatin1_aae02_7 : decode cJ0_isLatin1_aae02 7 = .ok (.getfield 15, 3) := by decide +kernel
theorem dJ0_isLatin1_aae02_10 : decode cJ0_isLatin1_aae02 10 = .ok (.ifCond .ne 7, 3) := by decide +kernel
theorem dJ0_isLatin1_aae02_13 : decode cJ0_isLatin1_aae02 13 = .ok (.iconst 1, 1) := by decide +kernel
theorem dJ0_isLatin1_aae02_14 : decode cJ0_isLatin1_aae02 14 = .ok (.goto 4, 3) := by decide +kernel
theorem dJ0_isLatin1_aae02_17 : decode cJ0_isLatin1_aae02 17 = .ok (.iconst 0, 1) := by decide +kernel
theorem dJ0_isLatin1_aae02_18 : decode cJ0_isLatin1_aae02 18 = .ok (.ireturn, 1) := by decide +kernel
theorem dJ0_checkIndex_df160_0 : decode cJ0_checkIndex_df160 0 = .ok (.iload_n 0, 1) := by decide +kernel
theorem dJ0_checkIndex_df160_1 : decode cJ0_checkIndex_df160 1 = .ok (.iload_n 1, 1) := by decide +kernel
theorem dJ0_checkIndex_df160_2 : decode cJ0_checkIndex_df160 2 = .ok (.getstatic 1053, 3) := by decide +kernel
theorem dJ0_checkIndex_df160_5 : decode cJ0_checkIndex_df160 5 = .ok (.invokestatic 1059, 3) := by decide +kernel
theorem dJ0_checkIndex_df160_8 : decode cJ0_checkIndex_df160 8 = .ok (.pop, 1) := by decide +kernel
theorem dJ0_checkIndex_df160_9 : decode cJ0_checkIndex_df160 9 = .ok (.return_, 1) := by decide +kernel
theorem dJ1_charAt_3b067_0 : decode cJ1_charAt_3b067 0 = .ok (.iload_n 1, 1) := by decide +kernel
theorem dJ1_charAt_3b067_1 : decode cJ1_charAt_3b067 1 = .ok (.aload_n 0, 1) := by decide +kernel
theorem dJ1_charAt_3b067_2 : decode cJ1_charAt_3b067 2 = .ok (.arraylength, 1) := by decide +kernel
theorem dJ1_charAt_3b067_3 : decode cJ1_charAt_3b067 3 = .ok (.invokestatic 9, 3) := by decide +kernel
theorem dJ1_charAt_3b067_6 : decode cJ1_charAt_3b067 6 = .ok (.aload_n 0, 1) := by decide +kernel
theorem dJ1_charAt_3b067_7 : decode cJ1_charAt_3b067 7 = .ok (.iload_n 1, 1) := by decide +kernel
theorem dJ1_charAt_3b067_8 : decode cJ1_charAt_3b067 8 = .ok (.baload, 1) := by decide +kernel
theorem dJ1_charAt_3b067_9 : decode cJ1_charAt_3b067 9 = .ok (.sipush 255, 3) := by decide +kernel
theorem dJ1_charAt_3b067_12 : decode cJ1_charAt_3b067 12 = .ok (.iand, 1) := by decide +kernel
theorem dJ1_charAt_3b067_13 : decode cJ1_charAt_3b067 13 = .ok (.i2c, 1) := by decide +kernel
theorem dJ1_charAt_3b067_14 : decode cJ1_charAt_3b067 14 = .ok (.ireturn, 1) := by decide +kernel
theorem dJ2_getChar_3b067_0 : decode cJ2_getChar_3b067 0 = .ok (.getstatic 44, 3) := by decide +kernel
theorem dJ2_getChar_3b067_3 : decode cJ2_getChar_3b067 3 = .ok (.ifCond .ne 25, 3) := by decide +kernel
theorem dJ2_getChar_3b067_6 : decode cJ2_getChar_3b067 6 = .ok (.iload_n 1, 1) := by decide +kernel
theorem dJ2_getChar_3b067_7 : decode cJ2_getChar_3b067 7 = .ok (.ifCond .lt 11, 3) := by decide +kernel
theorem dJ2_getChar_3b067_10 : decode cJ2_getChar_3b067 10 = .ok (.iload_n 1, 1) := by decide +kernel
theorem dJ2_getChar_3b067_11 : decode cJ2_getChar_3b067 11 = .ok (.aload_n 0, 1) := by decide +kernel
theorem dJ2_getChar_3b067_12 : decode cJ2_getChar_3b067 12 = .ok (.invokestatic 48, 3) := by decide +kernel
theorem dJ2_getChar_3b067_15 : decode cJ2_getChar_3b067 15 = .ok (.if_icmp .lt 13, 3) := by decide +kernel
theorem dJ2_getChar_3b067_18 : decode cJ2_getChar_3b067 18 = .ok (.new 52, 3) := by decide +kernel
theorem dJ2_getChar_3b067_21 : decode cJ2_getChar_3b067 21 = .ok (.dup, 1) := by decide +kernel
theorem dJ2_getChar_3b067_22 : decode cJ2_getChar_3b067 22 = .ok (.ldc 54, 2) := by decide +kernel
theorem dJ2_getChar_3b067_24 : decode cJ2_getChar_3b067 24 = .ok (.invokespecial 56, 3) := by decide +kernel
theorem dJ2_getChar_3b067_27 : decode cJ2_getChar_3b067 27 = .ok (.athrow, 1) := by decide +kernel
theorem dJ2_getChar_3b067_28 : decode cJ2_getChar_3b067 28 = .ok (.iload_n 1, 1) := by decide +kernel
theorem dJ2_getChar_3b067_29 : decode cJ2_getChar_3b067 29 = .ok (.iconst 1, 1) := by decide +kernel
theorem dJ2_getChar_3b067_30 : decode cJ2_getChar_3b067 30 = .ok (.ishl, 1) := by decide +kernel
theorem dJ2_getChar_3b067_31 : decode cJ2_getChar_3b067 31 = .ok (.istore_n 1, 1) := by decide +kernel
theorem dJ2_getChar_3b067_32 : decode cJ2_getChar_3b067 32 = .ok (.aload_n 0, 1) := by decide +kernel
theorem dJ2_getChar_3b067_33 : decode cJ2_getChar_3b067 33 = .ok (.iload_n 1, 1) := by decide +kernel
theorem dJ2_getChar_3b067_34 : decode cJ2_getChar_3b067 34 = .ok (.iinc 1 1, 3) := by decide +kernel
theorem dJ2_getChar_3b067_37 : decode cJ2_getChar_3b067 37 = .ok (.baload, 1) := by decide +kernel
theorem dJ2_getChar_3b067_38 : decode cJ2_getChar_3b067 38 = .ok (.sipush 255, 3) := by decide +kernel
theorem dJ2_getChar_3b067_41 : decode cJ2_getChar_3b067 41 = .ok (.iand, 1) := by decide +kernel
theorem dJ2_getChar_3b067_42 : decode cJ2_getChar_3b067 42 = .ok (.getstatic 59, 3) := by decide +kernel
theorem dJ2_getChar_3b067_45 : decode cJ2_getChar_3b067 45 = .ok (.ishl, 1) := by decide +kernel
theorem dJ2_getChar_3b067_46 : decode cJ2_getChar_3b067 46 = .ok (.aload_n 0, 1) := by decide +kernel
theorem dJ2_getChar_3b067_47 : decode cJ2_getChar_3b067 47 = .ok (.iload_n 1, 1) := by decide +kernel
theorem dJ2_getChar_3b067_48 : decode cJ2_getChar_3b067 48 = .ok (.baload, 1) := by decide +kernel
theorem dJ2_getChar_3b067_49 : decode cJ2_getChar_3b067 49 = .ok (.sipush 255, 3) := by decide +kernel
theorem dJ2_getChar_3b067_52 : decode cJ2_getChar_3b067 52 = .ok (.iand, 1) := by decide +kernel
theorem dJ2_getChar_3b067_53 : decode cJ2_getChar_3b067 53 = .ok (.getstatic 63, 3) := by decide +kernel
theorem dJ2_getChar_3b067_56 : decode cJ2_getChar_3b067 56 = .ok (.ishl, 1) := by decide +kernel
theorem dJ2_getChar_3b067_57 : decode cJ2_getChar_3b067 57 = .ok (.ior, 1) := by decide +kernel
theorem dJ2_getChar_3b067_58 : decode cJ2_getChar_3b067 58 = .ok (.i2c, 1) := by decide +kernel
theorem dJ2_getChar_3b067_59 : decode cJ2_getChar_3b067 59 = .ok (.ireturn, 1) := by decide +kernel
theorem dJ2_length_9d52b_0 : decode cJ2_length_9d52b 0 = .ok (.aload_n 0, 1) := by decide +kernel
theorem dJ2_length_9d52b_1 : decode cJ2_length_9d52b 1 = .ok (.arraylength, 1) := by decide +kernel
theorem dJ2_length_9d52b_2 : decode cJ2_length_9d52b 2 = .ok (.iconst 1, 1) := by decide +kernel
theorem dJ2_length_9d52b_3 : decode cJ2_length_9d52b 3 = .ok (.ishr, 1) := by decide +kernel
theorem dJ2_length_9d52b_4 : decode cJ2_length_9d52b 4 = .ok (.ireturn, 1) := by decide +kernel
theorem dJ2_charAt_3b067_0 : decode cJ2_charAt_3b067 0 = .ok (.iload_n 1, 1) := by decide +kernel
theorem dJ2_charAt_3b067_1 : decode cJ2_charAt_3b067 1 = .ok (.aload_n 0, 1) := by decide +kernel
theorem dJ2_charAt_3b067_2 : decode cJ2_charAt_3b067 2 = .ok (.invokestatic 67, 3) := by decide +kernel
theorem dJ2_charAt_3b067_5 : decode cJ2_charAt_3b067 5 = .ok (.aload_n 0, 1) := by decide +kernel
theorem dJ2_charAt_3b067_6 : decode cJ2_charAt_3b067 6 = .ok (.iload_n 1, 1) := by decide +kernel
theorem dJ2_charAt_3b067_7 : decode cJ2_charAt_3b067 7 = .ok (.invokestatic 71, 3) := by decide +kernel
theorem dJ2_charAt_3b067_10 : decode cJ2_charAt_3b067 10 = .ok (.ireturn, 1) := by decide +kernel
theorem dJ2_checkIndex_2214a_0 : decode cJ2_checkIndex_2214a 0 = .ok (.iload_n 0, 1) := by decide +kernel
theorem dJ2_checkIndex_2214a_1 : decode cJ2_checkIndex_2214a 1 = .ok (.aload_n 1, 1) := by decide +kernel
theorem dJ2_checkIndex_2214a_2 : decode cJ2_checkIndex_2214a 2 = .ok (.invokestatic 48, 3) := by decide +kernel
theorem dJ2_checkIndex_2214a_5 : decode cJ2_checkIndex_2214a 5 = .ok (.invokestatic 414, 3) := by decide +kernel
theorem dJ2_checkIndex_2214a_8 : decode cJ2_checkIndex_2214a 8 = .ok (.return_, 1) := by decide +kernel
theorem dJ7_fill_53178_0 : decode cJ7_fill_53178 0 = .ok (.iconst 0, 1) := by decide +kernel
theorem dJ7_fill_53178_1 : decode cJ7_fill_53178 1 = .ok (.istore_n 2, 1) := by decide +kernel
theorem dJ7_fill_53178_2 : decode cJ7_fill_53178 2 = .ok (.aload_n 0, 1) := by decide +kernel
theorem dJ7_fill_53178_3 : decode cJ7_fill_53178 3 = .ok (.arraylength, 1) := by decide +kernel
theorem dJ7_fill_53178_4 : decode cJ7_fill_53178 4 = .ok (.istore_n 3, 1) := by decide +kernel
theorem dJ7_fill_53178_5 : decode cJ7_fill_53178 5 = .ok (.iload_n 2, 1) := by decide +kernel
theorem dJ7_fill_53178_6 : decode cJ7_fill_53178 6 = .ok (.iload_n 3, 1) := by decide +kernel
theorem dJ7_fill_53178_7 : decode cJ7_fill_53178 7 = .ok (.if_icmp .ge 13, 3) := by decide +kernel
theorem dJ7_fill_53178_10 : decode cJ7_fill_53178 10 = .ok (.aload_n 0, 1) := by decide +kernel
theorem dJ7_fill_53178_11 : decode cJ7_fill_53178 11 = .ok (.iload_n 2, 1) := by decide +kernel
theorem dJ7_fill_53178_12 : decode cJ7_fill_53178 12 = .ok (.iload_n 1, 1) := by decide +kernel
theorem dJ7_fill_53178_13 : decode cJ7_fill_53178 13 = .ok (.iastore, 1) := by decide +kernel
theorem dJ7_fill_53178_14 : decode cJ7_fill_53178 14 = .ok (.iinc 2 1, 3) := by decide +kernel
theorem dJ7_fill_53178_17 : decode cJ7_fill_53178 17 = .ok (.goto (-12), 3) := by decide +kernel
theorem dJ7_fill_53178_20 : decode cJ7_fill_53178 20 = .ok (.return_, 1) := by decide +kernel
theorem dJ3_checkIndex_8e157_0 : decode cJ3_checkIndex_8e157 0 = .ok (.iload_n 0, 1) := by decide +kernel
theorem dJ3_checkIndex_8e157_1 : decode cJ3_checkIndex_8e157 1 = .ok (.ifCond .lt 8, 3) := by decide +kernel
theorem dJ3_checkIndex_8e157_4 : decode cJ3_checkIndex_8e157 4 = .ok (.iload_n 0, 1) := by decide +kernel
theorem dJ3_checkIndex_8e157_5 : decode cJ3_checkIndex_8e157 5 = .ok (.iload_n 1, 1) := by decide +kernel
theorem dJ3_checkIndex_8e157_6 : decode cJ3_checkIndex_8e157 6 = .ok (.if_icmp .lt 10, 3) := by decide +kernel
theorem dJ3_checkIndex_8e157_9 : decode cJ3_checkIndex_8e157 9 = .ok (.aload_n 2, 1) := by decide +kernel
theorem dJ3_checkIndex_8e157_10 : decode cJ3_checkIndex_8e157 10 = .ok (.iload_n 0, 1) := by decide +kernel
theorem dJ3_checkIndex_8e157_11 : decode cJ3_checkIndex_8e157 11 = .ok (.iload_n 1, 1) := by decide +kernel
theorem dJ3_checkIndex_8e157_12 : decode cJ3_checkIndex_8e157 12 = .ok (.invokestatic 95, 3) := by decide +kernel
theorem dJ3_checkIndex_8e157_15 : decode cJ3_checkIndex_8e157 15 = .ok (.athrow, 1) := by decide +kernel
theorem dJ3_checkIndex_8e157_16 : decode cJ3_checkIndex_8e157 16 = .ok (.iload_n 0, 1) := by decide +kernel
theorem dJ3_checkIndex_8e157_17 : decode cJ3_checkIndex_8e157 17 = .ok (.ireturn, 1) := by decide +kernel
