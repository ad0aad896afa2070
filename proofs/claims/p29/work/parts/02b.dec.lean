theorem dX7_init_0 : decode cX7_init 0 = .ok (.aload_n 0, 1) := by decide +kernel
theorem dX7_init_1 : decode cX7_init 1 = .ok (.invokespecial 1, 3) := by decide +kernel
theorem dX7_init_4 : decode cX7_init 4 = .ok (.aload_n 0, 1) := by decide +kernel
theorem dX7_init_5 : decode cX7_init 5 = .ok (.sipush 221, 3) := by decide +kernel
theorem dX7_init_8 : decode cX7_init 8 = .ok (.newarray .int, 2) := by decide +kernel
theorem dX7_init_10 : decode cX7_init 10 = .ok (.putfield 7, 3) := by decide +kernel
theorem dX7_init_13 : decode cX7_init 13 = .ok (.aload_n 0, 1) := by decide +kernel
theorem dX7_init_14 : decode cX7_init 14 = .ok (.sipush 442, 3) := by decide +kernel
theorem dX7_init_17 : decode cX7_init 17 = .ok (.newarray .int, 2) := by decide +kernel
theorem dX7_init_19 : decode cX7_init 19 = .ok (.putfield 13, 3) := by decide +kernel
theorem dX7_init_22 : decode cX7_init 22 = .ok (.aload_n 0, 1) := by decide +kernel
theorem dX7_init_23 : decode cX7_init 23 = .ok (.iconst 2, 1) := by decide +kernel
theorem dX7_init_24 : decode cX7_init 24 = .ok (.newarray .boolean, 2) := by decide +kernel
theorem dX7_init_26 : decode cX7_init 26 = .ok (.putfield 16, 3) := by decide +kernel
theorem dX7_init_29 : decode cX7_init 29 = .ok (.aload_n 0, 1) := by decide +kernel
theorem dX7_init_30 : decode cX7_init 30 = .ok (.iconst 3, 1) := by decide +kernel
theorem dX7_init_31 : decode cX7_init 31 = .ok (.newarray .int, 2) := by decide +kernel
theorem dX7_init_33 : decode cX7_init 33 = .ok (.putfield 20, 3) := by decide +kernel
theorem dX7_init_36 : decode cX7_init 36 = .ok (.aload_n 0, 1) := by decide +kernel
theorem dX7_init_37 : decode cX7_init 37 = .ok (.lconst 1, 1) := by decide +kernel
theorem dX7_init_38 : decode cX7_init 38 = .ok (.putfield 23, 3) := by decide +kernel
theorem dX7_init_41 : decode cX7_init 41 = .ok (.aload_n 0, 1) := by decide +kernel
theorem dX7_init_42 : decode cX7_init 42 = .ok (.bipush 12, 2) := by decide +kernel
theorem dX7_init_44 : decode cX7_init 44 = .ok (.newarray .int, 2) := by decide +kernel
theorem dX7_init_46 : decode cX7_init 46 = .ok (.putfield 27, 3) := by decide +kernel
theorem dX7_init_49 : decode cX7_init 49 = .ok (.aload_n 0, 1) := by decide +kernel
theorem dX7_init_50 : decode cX7_init 50 = .ok (.bipush 12, 2) := by decide +kernel
theorem dX7_init_52 : decode cX7_init 52 = .ok (.newarray .int, 2) := by decide +kernel
theorem dX7_init_54 : decode cX7_init 54 = .ok (.putfield 30, 3) := by decide +kernel
theorem dX7_init_57 : decode cX7_init 57 = .ok (.aload_n 0, 1) := by decide +kernel
theorem dX7_init_58 : decode cX7_init 58 = .ok (.bipush 40, 2) := by decide +kernel
theorem dX7_init_60 : decode cX7_init 60 = .ok (.newarray .int, 2) := by decide +kernel
theorem dX7_init_62 : decode cX7_init 62 = .ok (.putfield 33, 3) := by decide +kernel
theorem dX7_init_65 : decode cX7_init 65 = .ok (.aload_n 0, 1) := by decide +kernel
theorem dX7_init_66 : decode cX7_init 66 = .ok (.bipush 8, 2) := by decide +kernel
theorem dX7_init_68 : decode cX7_init 68 = .ok (.newarray .int, 2) := by decide +kernel
theorem dX7_init_70 : decode cX7_init 70 = .ok (.putfield 36, 3) := by decide +kernel
theorem dX7_init_73 : decode cX7_init 73 = .ok (.aload_n 0, 1) := by decide +kernel
theorem dX7_init_74 : decode cX7_init 74 = .ok (.bipush 8, 2) := by decide +kernel
theorem dX7_init_76 : decode cX7_init 76 = .ok (.newarray .int, 2) := by decide +kernel
theorem dX7_init_78 : decode cX7_init 78 = .ok (.putfield 39, 3) := by decide +kernel
theorem dX7_init_81 : decode cX7_init 81 = .ok (.aload_n 0, 1) := by decide +kernel
theorem dX7_init_82 : decode cX7_init 82 = .ok (.bipush 6, 2) := by decide +kernel
theorem dX7_init_84 : decode cX7_init 84 = .ok (.newarray .int, 2) := by decide +kernel
theorem dX7_init_86 : decode cX7_init 86 = .ok (.putfield 42, 3) := by decide +kernel
theorem dX7_init_89 : decode cX7_init 89 = .ok (.aload_n 0, 1) := by decide +kernel
theorem dX7_init_90 : decode cX7_init 90 = .ok (.bipush 6, 2) := by decide +kernel
theorem dX7_init_92 : decode cX7_init 92 = .ok (.newarray .int, 2) := by decide +kernel
theorem dX7_init_94 : decode cX7_init 94 = .ok (.putfield 45, 3) := by decide +kernel
theorem dX7_init_97 : decode cX7_init 97 = .ok (.aload_n 0, 1) := by decide +kernel
theorem dX7_init_98 : decode cX7_init 98 = .ok (.bipush 12, 2) := by decide +kernel
theorem dX7_init_100 : decode cX7_init 100 = .ok (.newarray .int, 2) := by decide +kernel
theorem dX7_init_102 : decode cX7_init 102 = .ok (.putfield 48, 3) := by decide +kernel
theorem dX7_init_105 : decode cX7_init 105 = .ok (.aload_n 0, 1) := by decide +kernel
theorem dX7_init_106 : decode cX7_init 106 = .ok (.sipush 150, 3) := by decide +kernel
theorem dX7_init_109 : decode cX7_init 109 = .ok (.newarray .int, 2) := by decide +kernel
theorem dX7_init_111 : decode cX7_init 111 = .ok (.putfield 51, 3) := by decide +kernel
theorem dX7_init_114 : decode cX7_init 114 = .ok (.aload_n 0, 1) := by decide +kernel
theorem dX7_init_115 : decode cX7_init 115 = .ok (.bipush 101, 2) := by decide +kernel
theorem dX7_init_117 : decode cX7_init 117 = .ok (.newarray .int, 2) := by decide +kernel
theorem dX7_init_119 : decode cX7_init 119 = .ok (.putfield 54, 3) := by decide +kernel
theorem dX7_init_122 : decode cX7_init 122 = .ok (.aload_n 0, 1) := by decide +kernel
theorem dX7_init_123 : decode cX7_init 123 = .ok (.bipush 6, 2) := by decide +kernel
theorem dX7_init_125 : decode cX7_init 125 = .ok (.newarray .int, 2) := by decide +kernel
theorem dX7_init_127 : decode cX7_init 127 = .ok (.putfield 57, 3) := by decide +kernel
theorem dX7_init_130 : decode cX7_init 130 = .ok (.aload_n 0, 1) := by decide +kernel
theorem dX7_init_131 : decode cX7_init 131 = .ok (.getfield 7, 3) := by decide +kernel
theorem dX7_init_134 : decode cX7_init 134 = .ok (.iconst 2, 1) := by decide +kernel
theorem dX7_init_135 : decode cX7_init 135 = .ok (.invokestatic 60, 3) := by decide +kernel
theorem dX7_init_138 : decode cX7_init 138 = .ok (.return_, 1) := by decide +kernel
theorem dX7_in_0 : decode cX7_in 0 = .ok (.lload_n 0, 1) := by decide +kernel
theorem dX7_in_1 : decode cX7_in 1 = .ok (.lload_n 2, 1) := by decide +kernel
theorem dX7_in_2 : decode cX7_in 2 = .ok (.lcmp, 1) := by decide +kernel
theorem dX7_in_3 : decode cX7_in 3 = .ok (.ifCond .lt 14, 3) := by decide +kernel
theorem dX7_in_6 : decode cX7_in 6 = .ok (.lload_n 0, 1) := by decide +kernel
theorem dX7_in_7 : decode cX7_in 7 = .ok (.lload 4, 2) := by decide +kernel
theorem dX7_in_9 : decode cX7_in 9 = .ok (.lcmp, 1) := by decide +kernel
theorem dX7_in_10 : decode cX7_in 10 = .ok (.ifCond .gt 7, 3) := by decide +kernel
theorem dX7_in_13 : decode cX7_in 13 = .ok (.iconst 1, 1) := by decide +kernel
theorem dX7_in_14 : decode cX7_in 14 = .ok (.goto 4, 3) := by decide +kernel
theorem dX7_in_17 : decode cX7_in 17 = .ok (.iconst 0, 1) := by decide +kernel
theorem dX7_in_18 : decode cX7_in 18 = .ok (.ireturn, 1) := by decide +kernel
theorem dX7_bad_0 : decode cX7_bad 0 = .ok (.aload_n 0, 1) := by decide +kernel
theorem dX7_bad_1 : decode cX7_bad 1 = .ok (.getfield 20, 3) := by decide +kernel
theorem dX7_bad_4 : decode cX7_bad 4 = .ok (.iconst 0, 1) := by decide +kernel
theorem dX7_bad_5 : decode cX7_bad 5 = .ok (.dup2, 1) := by decide +kernel
theorem dX7_bad_6 : decode cX7_bad 6 = .ok (.iaload, 1) := by decide +kernel
theorem dX7_bad_7 : decode cX7_bad 7 = .ok (.iconst 1, 1) := by decide +kernel
theorem dX7_bad_8 : decode cX7_bad 8 = .ok (.iadd, 1) := by decide +kernel
theorem dX7_bad_9 : decode cX7_bad 9 = .ok (.iastore, 1) := by decide +kernel
theorem dX7_bad_10 : decode cX7_bad 10 = .ok (.iload_n 1, 1) := by decide +kernel
theorem dX7_bad_11 : decode cX7_bad 11 = .ok (.ireturn, 1) := by decide +kernel
theorem dX7_no_0 : decode cX7_no 0 = .ok (.aload_n 0, 1) := by decide +kernel
theorem dX7_no_1 : decode cX7_no 1 = .ok (.getfield 20, 3) := by decide +kernel
theorem dX7_no_4 : decode cX7_no 4 = .ok (.iconst 1, 1) := by decide +kernel
theorem dX7_no_5 : decode cX7_no 5 = .ok (.dup2, 1) := by decide +kernel
theorem dX7_no_6 : decode cX7_no 6 = .ok (.iaload, 1) := by decide +kernel
theorem dX7_no_7 : decode cX7_no 7 = .ok (.iconst 1, 1) := by decide +kernel
theorem dX7_no_8 : decode cX7_no 8 = .ok (.iadd, 1) := by decide +kernel
theorem dX7_no_9 : decode cX7_no 9 = .ok (.iastore, 1) := by decide +kernel
theorem dX7_no_10 : decode cX7_no 10 = .ok (.iload_n 1, 1) := by decide +kernel
theorem dX7_no_11 : decode cX7_no 11 = .ok (.ireturn, 1) := by decide +kernel
theorem dX7_full_0 : decode cX7_full 0 = .ok (.aload_n 0, 1) := by decide +kernel
theorem dX7_full_1 : decode cX7_full 1 = .ok (.getfield 20, 3) := by decide +kernel
theorem dX7_full_4 : decode cX7_full 4 = .ok (.iconst 2, 1) := by decide +kernel
theorem dX7_full_5 : decode cX7_full 5 = .ok (.dup2, 1) := by decide +kernel
theorem dX7_full_6 : decode cX7_full 6 = .ok (.iaload, 1) := by decide +kernel
theorem dX7_full_7 : decode cX7_full 7 = .ok (.iconst 1, 1) := by decide +kernel
theorem dX7_full_8 : decode cX7_full 8 = .ok (.iadd, 1) := by decide +kernel
theorem dX7_full_9 : decode cX7_full 9 = .ok (.iastore, 1) := by decide +kernel
theorem dX7_full_10 : decode cX7_full 10 = .ok (.bipush (-4), 2) := by decide +kernel
theorem dX7_full_12 : decode cX7_full 12 = .ok (.ireturn, 1) := by decide +kernel
theorem dX7_bits_0 : decode cX7_bits 0 = .ok (.iconst 0, 1) := by decide +kernel
theorem dX7_bits_1 : decode cX7_bits 1 = .ok (.istore_n 1, 1) := by decide +kernel
theorem dX7_bits_2 : decode cX7_bits 2 = .ok (.iload_n 0, 1) := by decide +kernel
theorem dX7_bits_3 : decode cX7_bits 3 = .ok (.istore_n 2, 1) := by decide +kernel
theorem dX7_bits_4 : decode cX7_bits 4 = .ok (.iload_n 2, 1) := by decide +kernel
theorem dX7_bits_5 : decode cX7_bits 5 = .ok (.ifCond .le 16, 3) := by decide +kernel
theorem dX7_bits_8 : decode cX7_bits 8 = .ok (.iload_n 1, 1) := by decide +kernel
theorem dX7_bits_9 : decode cX7_bits 9 = .ok (.iload_n 2, 1) := by decide +kernel
theorem dX7_bits_10 : decode cX7_bits 10 = .ok (.iconst 1, 1) := by decide +kernel
theorem dX7_bits_11 : decode cX7_bits 11 = .ok (.iand, 1) := by decide +kernel
theorem dX7_bits_12 : decode cX7_bits 12 = .ok (.iadd, 1) := by decide +kernel
theorem dX7_bits_13 : decode cX7_bits 13 = .ok (.istore_n 1, 1) := by decide +kernel
theorem dX7_bits_14 : decode cX7_bits 14 = .ok (.iload_n 2, 1) := by decide +kernel
theorem dX7_bits_15 : decode cX7_bits 15 = .ok (.iconst 1, 1) := by decide +kernel
theorem dX7_bits_16 : decode cX7_bits 16 = .ok (.ishr, 1) := by decide +kernel
theorem dX7_bits_17 : decode cX7_bits 17 = .ok (.istore_n 2, 1) := by decide +kernel
theorem dX7_bits_18 : decode cX7_bits 18 = .ok (.goto (-14), 3) := by decide +kernel
theorem dX7_bits_21 : decode cX7_bits 21 = .ok (.iload_n 1, 1) := by decide +kernel
theorem dX7_bits_22 : decode cX7_bits 22 = .ok (.ireturn, 1) := by decide +kernel
theorem dX7_apart_0 : decode cX7_apart 0 = .ok (.iload_n 0, 1) := by decide +kernel
theorem dX7_apart_1 : decode cX7_apart 1 = .ok (.iload_n 1, 1) := by decide +kernel
theorem dX7_apart_2 : decode cX7_apart 2 = .ok (.if_icmp .le 9, 3) := by decide +kernel
theorem dX7_apart_5 : decode cX7_apart 5 = .ok (.iload_n 0, 1) := by decide +kernel
theorem dX7_apart_6 : decode cX7_apart 6 = .ok (.iload_n 1, 1) := by decide +kernel
theorem dX7_apart_7 : decode cX7_apart 7 = .ok (.isub, 1) := by decide +kernel
theorem dX7_apart_8 : decode cX7_apart 8 = .ok (.goto 6, 3) := by decide +kernel
theorem dX7_apart_11 : decode cX7_apart 11 = .ok (.iload_n 1, 1) := by decide +kernel
theorem dX7_apart_12 : decode cX7_apart 12 = .ok (.iload_n 0, 1) := by decide +kernel
theorem dX7_apart_13 : decode cX7_apart 13 = .ok (.isub, 1) := by decide +kernel
theorem dX7_apart_14 : decode cX7_apart 14 = .ok (.ireturn, 1) := by decide +kernel
theorem dX7_begin_0 : decode cX7_begin 0 = .ok (.iconst 0, 1) := by decide +kernel
theorem dX7_begin_1 : decode cX7_begin 1 = .ok (.istore_n 2, 1) := by decide +kernel
theorem dX7_begin_2 : decode cX7_begin 2 = .ok (.iload_n 2, 1) := by decide +kernel
theorem dX7_begin_3 : decode cX7_begin 3 = .ok (.bipush 101, 2) := by decide +kernel
theorem dX7_begin_5 : decode cX7_begin 5 = .ok (.if_icmp .ge 13, 3) := by decide +kernel
theorem dX7_begin_8 : decode cX7_begin 8 = .ok (.aload_n 0, 1) := by decide +kernel
theorem dX7_begin_9 : decode cX7_begin 9 = .ok (.iload_n 2, 1) := by decide +kernel
theorem dX7_begin_10 : decode cX7_begin 10 = .ok (.iconst 0, 1) := by decide +kernel
theorem dX7_begin_11 : decode cX7_begin 11 = .ok (.iastore, 1) := by decide +kernel
theorem dX7_begin_12 : decode cX7_begin 12 = .ok (.iinc 2 1, 3) := by decide +kernel
theorem dX7_begin_15 : decode cX7_begin 15 = .ok (.goto (-13), 3) := by decide +kernel
theorem dX7_begin_18 : decode cX7_begin 18 = .ok (.aload_n 0, 1) := by decide +kernel
theorem dX7_begin_19 : decode cX7_begin 19 = .ok (.iconst 1, 1) := by decide +kernel
theorem dX7_begin_20 : decode cX7_begin 20 = .ok (.iload_n 1, 1) := by decide +kernel
theorem dX7_begin_21 : decode cX7_begin 21 = .ok (.iastore, 1) := by decide +kernel
theorem dX7_begin_22 : decode cX7_begin 22 = .ok (.iconst 0, 1) := by decide +kernel
theorem dX7_begin_23 : decode cX7_begin 23 = .ok (.istore_n 2, 1) := by decide +kernel
theorem dX7_begin_24 : decode cX7_begin 24 = .ok (.iload_n 2, 1) := by decide +kernel
theorem dX7_begin_25 : decode cX7_begin 25 = .ok (.iconst 4, 1) := by decide +kernel
theorem dX7_begin_26 : decode cX7_begin 26 = .ok (.if_icmp .ge 40, 3) := by decide +kernel
theorem dX7_begin_29 : decode cX7_begin 29 = .ok (.aload_n 0, 1) := by decide +kernel
theorem dX7_begin_30 : decode cX7_begin 30 = .ok (.iconst 4, 1) := by decide +kernel
theorem dX7_begin_31 : decode cX7_begin 31 = .ok (.iconst 3, 1) := by decide +kernel
theorem dX7_begin_32 : decode cX7_begin 32 = .ok (.iload_n 2, 1) := by decide +kernel
theorem dX7_begin_33 : decode cX7_begin 33 = .ok (.imul, 1) := by decide +kernel
theorem dX7_begin_34 : decode cX7_begin 34 = .ok (.iadd, 1) := by decide +kernel
theorem dX7_begin_35 : decode cX7_begin 35 = .ok (.iconst 0, 1) := by decide +kernel
theorem dX7_begin_36 : decode cX7_begin 36 = .ok (.iadd, 1) := by decide +kernel
theorem dX7_begin_37 : decode cX7_begin 37 = .ok (.iconst 0, 1) := by decide +kernel
theorem dX7_begin_38 : decode cX7_begin 38 = .ok (.iastore, 1) := by decide +kernel
theorem dX7_begin_39 : decode cX7_begin 39 = .ok (.aload_n 0, 1) := by decide +kernel
theorem dX7_begin_40 : decode cX7_begin 40 = .ok (.iconst 4, 1) := by decide +kernel
theorem dX7_begin_41 : decode cX7_begin 41 = .ok (.iconst 3, 1) := by decide +kernel
theorem dX7_begin_42 : decode cX7_begin 42 = .ok (.iload_n 2, 1) := by decide +kernel
theorem dX7_begin_43 : decode cX7_begin 43 = .ok (.imul, 1) := by decide +kernel
theorem dX7_begin_44 : decode cX7_begin 44 = .ok (.iadd, 1) := by decide +kernel
theorem dX7_begin_45 : decode cX7_begin 45 = .ok (.iconst 1, 1) := by decide +kernel
theorem dX7_begin_46 : decode cX7_begin 46 = .ok (.iadd, 1) := by decide +kernel
theorem dX7_begin_47 : decode cX7_begin 47 = .ok (.bipush 9, 2) := by decide +kernel
theorem dX7_begin_49 : decode cX7_begin 49 = .ok (.iastore, 1) := by decide +kernel
theorem dX7_begin_50 : decode cX7_begin 50 = .ok (.aload_n 0, 1) := by decide +kernel
theorem dX7_begin_51 : decode cX7_begin 51 = .ok (.iconst 4, 1) := by decide +kernel
theorem dX7_begin_52 : decode cX7_begin 52 = .ok (.iconst 3, 1) := by decide +kernel
theorem dX7_begin_53 : decode cX7_begin 53 = .ok (.iload_n 2, 1) := by decide +kernel
theorem dX7_begin_54 : decode cX7_begin 54 = .ok (.imul, 1) := by decide +kernel
theorem dX7_begin_55 : decode cX7_begin 55 = .ok (.iadd, 1) := by decide +kernel
theorem dX7_begin_56 : decode cX7_begin 56 = .ok (.iconst 2, 1) := by decide +kernel
theorem dX7_begin_57 : decode cX7_begin 57 = .ok (.iadd, 1) := by decide +kernel
theorem dX7_begin_58 : decode cX7_begin 58 = .ok (.iconst 4, 1) := by decide +kernel
theorem dX7_begin_59 : decode cX7_begin 59 = .ok (.iastore, 1) := by decide +kernel
theorem dX7_begin_60 : decode cX7_begin 60 = .ok (.iinc 2 1, 3) := by decide +kernel
theorem dX7_begin_63 : decode cX7_begin 63 = .ok (.goto (-39), 3) := by decide +kernel
theorem dX7_begin_66 : decode cX7_begin 66 = .ok (.return_, 1) := by decide +kernel
theorem dX7_notes_0 : decode cX7_notes 0 = .ok (.aload_n 0, 1) := by decide +kernel
theorem dX7_notes_1 : decode cX7_notes 1 = .ok (.getfield 7, 3) := by decide +kernel
theorem dX7_notes_4 : decode cX7_notes 4 = .ok (.iconst 0, 1) := by decide +kernel
theorem dX7_notes_5 : decode cX7_notes 5 = .ok (.iaload, 1) := by decide +kernel
theorem dX7_notes_6 : decode cX7_notes 6 = .ok (.ireturn, 1) := by decide +kernel
theorem dX7_isNote_0 : decode cX7_isNote 0 = .ok (.iload_n 1, 1) := by decide +kernel
theorem dX7_isNote_1 : decode cX7_isNote 1 = .ok (.i2l, 1) := by decide +kernel
theorem dX7_isNote_2 : decode cX7_isNote 2 = .ok (.lconst 0, 1) := by decide +kernel
theorem dX7_isNote_3 : decode cX7_isNote 3 = .ok (.aload_n 0, 1) := by decide +kernel
theorem dX7_isNote_4 : decode cX7_isNote 4 = .ok (.invokevirtual 64, 3) := by decide +kernel
theorem dX7_isNote_7 : decode cX7_isNote 7 = .ok (.iconst 1, 1) := by decide +kernel
theorem dX7_isNote_8 : decode cX7_isNote 8 = .ok (.isub, 1) := by decide +kernel
theorem dX7_isNote_9 : decode cX7_isNote 9 = .ok (.i2l, 1) := by decide +kernel
theorem dX7_isNote_10 : decode cX7_isNote 10 = .ok (.invokestatic 68, 3) := by decide +kernel
theorem dX7_isNote_13 : decode cX7_isNote 13 = .ok (.ireturn, 1) := by decide +kernel
theorem dX7_isHand_0 : decode cX7_isHand 0 = .ok (.iload_n 0, 1) := by decide +kernel
theorem dX7_isHand_1 : decode cX7_isHand 1 = .ok (.i2l, 1) := by decide +kernel
theorem dX7_isHand_2 : decode cX7_isHand 2 = .ok (.lconst 0, 1) := by decide +kernel
theorem dX7_isHand_3 : decode cX7_isHand 3 = .ok (.ldc2_w 72, 3) := by decide +kernel
theorem dX7_isHand_6 : decode cX7_isHand 6 = .ok (.invokestatic 68, 3) := by decide +kernel
theorem dX7_isHand_9 : decode cX7_isHand 9 = .ok (.ireturn, 1) := by decide +kernel
theorem dX7_get_0 : decode cX7_get 0 = .ok (.aload_n 0, 1) := by decide +kernel
theorem dX7_get_1 : decode cX7_get 1 = .ok (.getfield 7, 3) := by decide +kernel
theorem dX7_get_4 : decode cX7_get 4 = .ok (.bipush 16, 2) := by decide +kernel
theorem dX7_get_6 : decode cX7_get 6 = .ok (.bipush 7, 2) := by decide +kernel
theorem dX7_get_8 : decode cX7_get 8 = .ok (.iload_n 1, 1) := by decide +kernel
theorem dX7_get_9 : decode cX7_get 9 = .ok (.imul, 1) := by decide +kernel
theorem dX7_get_10 : decode cX7_get 10 = .ok (.iadd, 1) := by decide +kernel
theorem dX7_get_11 : decode cX7_get 11 = .ok (.iload_n 2, 1) := by decide +kernel
theorem dX7_get_12 : decode cX7_get 12 = .ok (.iadd, 1) := by decide +kernel
theorem dX7_get_13 : decode cX7_get 13 = .ok (.iaload, 1) := by decide +kernel
theorem dX7_get_14 : decode cX7_get 14 = .ok (.ireturn, 1) := by decide +kernel
theorem dX7_setHand_0 : decode cX7_setHand 0 = .ok (.aload_n 0, 1) := by decide +kernel
theorem dX7_setHand_1 : decode cX7_setHand 1 = .ok (.getfield 7, 3) := by decide +kernel
theorem dX7_setHand_4 : decode cX7_setHand 4 = .ok (.bipush 16, 2) := by decide +kernel
theorem dX7_setHand_6 : decode cX7_setHand 6 = .ok (.bipush 7, 2) := by decide +kernel
theorem dX7_setHand_8 : decode cX7_setHand 8 = .ok (.iload_n 1, 1) := by decide +kernel
theorem dX7_setHand_9 : decode cX7_setHand 9 = .ok (.imul, 1) := by decide +kernel
theorem dX7_setHand_10 : decode cX7_setHand 10 = .ok (.iadd, 1) := by decide +kernel
theorem dX7_setHand_11 : decode cX7_setHand 11 = .ok (.iconst 5, 1) := by decide +kernel
theorem dX7_setHand_12 : decode cX7_setHand 12 = .ok (.iadd, 1) := by decide +kernel
theorem dX7_setHand_13 : decode cX7_setHand 13 = .ok (.iload_n 2, 1) := by decide +kernel
theorem dX7_setHand_14 : decode cX7_setHand 14 = .ok (.iastore, 1) := by decide +kernel
theorem dX7_setHand_15 : decode cX7_setHand 15 = .ok (.return_, 1) := by decide +kernel
theorem dX7_piece_0 : decode cX7_piece 0 = .ok (.iload_n 1, 1) := by decide +kernel
theorem dX7_piece_1 : decode cX7_piece 1 = .ok (.i2l, 1) := by decide +kernel
theorem dX7_piece_2 : decode cX7_piece 2 = .ok (.lconst 0, 1) := by decide +kernel
theorem dX7_piece_3 : decode cX7_piece 3 = .ok (.ldc2_w 74, 3) := by decide +kernel
theorem dX7_piece_6 : decode cX7_piece 6 = .ok (.invokestatic 68, 3) := by decide +kernel
theorem dX7_piece_9 : decode cX7_piece 9 = .ok (.ifCond .ne 10, 3) := by decide +kernel
theorem dX7_piece_12 : decode cX7_piece 12 = .ok (.aload_n 0, 1) := by decide +kernel
theorem dX7_piece_13 : decode cX7_piece 13 = .ok (.bipush (-2), 2) := by decide +kernel
theorem dX7_piece_15 : decode cX7_piece 15 = .ok (.invokevirtual 76, 3) := by decide +kernel
theorem dX7_piece_18 : decode cX7_piece 18 = .ok (.ireturn, 1) := by decide +kernel
theorem dX7_piece_19 : decode cX7_piece 19 = .ok (.aload_n 0, 1) := by decide +kernel
theorem dX7_piece_20 : decode cX7_piece 20 = .ok (.invokevirtual 64, 3) := by decide +kernel
theorem dX7_piece_23 : decode cX7_piece 23 = .ok (.istore_n 2, 1) := by decide +kernel
theorem dX7_piece_24 : decode cX7_piece 24 = .ok (.aload_n 0, 1) := by decide +kernel
theorem dX7_piece_25 : decode cX7_piece 25 = .ok (.getfield 7, 3) := by decide +kernel
theorem dX7_piece_28 : decode cX7_piece 28 = .ok (.iload_n 1, 1) := by decide +kernel
theorem dX7_piece_29 : decode cX7_piece 29 = .ok (.invokestatic 60, 3) := by decide +kernel
theorem dX7_piece_32 : decode cX7_piece 32 = .ok (.iload_n 2, 1) := by decide +kernel
theorem dX7_piece_33 : decode cX7_piece 33 = .ok (.ireturn, 1) := by decide +kernel
theorem dX7_layHand_0 : decode cX7_layHand 0 = .ok (.aload_n 0, 1) := by decide +kernel
theorem dX7_layHand_1 : decode cX7_layHand 1 = .ok (.iconst 4, 1) := by decide +kernel
theorem dX7_layHand_2 : decode cX7_layHand 2 = .ok (.iconst 3, 1) := by decide +kernel
theorem dX7_layHand_3 : decode cX7_layHand 3 = .ok (.iload_n 1, 1) := by decide +kernel
theorem dX7_layHand_4 : decode cX7_layHand 4 = .ok (.imul, 1) := by decide +kernel
theorem dX7_layHand_5 : decode cX7_layHand 5 = .ok (.iadd, 1) := by decide +kernel
theorem dX7_layHand_6 : decode cX7_layHand 6 = .ok (.iconst 0, 1) := by decide +kernel
theorem dX7_layHand_7 : decode cX7_layHand 7 = .ok (.iadd, 1) := by decide +kernel
theorem dX7_layHand_8 : decode cX7_layHand 8 = .ok (.iload_n 2, 1) := by decide +kernel
theorem dX7_layHand_9 : decode cX7_layHand 9 = .ok (.iastore, 1) := by decide +kernel
theorem dX7_layHand_10 : decode cX7_layHand 10 = .ok (.aload_n 0, 1) := by decide +kernel
theorem dX7_layHand_11 : decode cX7_layHand 11 = .ok (.iconst 4, 1) := by decide +kernel
theorem dX7_layHand_12 : decode cX7_layHand 12 = .ok (.iconst 3, 1) := by decide +kernel
theorem dX7_layHand_13 : decode cX7_layHand 13 = .ok (.iload_n 1, 1) := by decide +kernel
theorem dX7_layHand_14 : decode cX7_layHand 14 = .ok (.imul, 1) := by decide +kernel
theorem dX7_layHand_15 : decode cX7_layHand 15 = .ok (.iadd, 1) := by decide +kernel
theorem dX7_layHand_16 : decode cX7_layHand 16 = .ok (.iconst 1, 1) := by decide +kernel
theorem dX7_layHand_17 : decode cX7_layHand 17 = .ok (.iadd, 1) := by decide +kernel
theorem dX7_layHand_18 : decode cX7_layHand 18 = .ok (.iload_n 3, 1) := by decide +kernel
theorem dX7_layHand_19 : decode cX7_layHand 19 = .ok (.iastore, 1) := by decide +kernel
theorem dX7_layHand_20 : decode cX7_layHand 20 = .ok (.aload_n 0, 1) := by decide +kernel
theorem dX7_layHand_21 : decode cX7_layHand 21 = .ok (.iconst 4, 1) := by decide +kernel
theorem dX7_layHand_22 : decode cX7_layHand 22 = .ok (.iconst 3, 1) := by decide +kernel
theorem dX7_layHand_23 : decode cX7_layHand 23 = .ok (.iload_n 1, 1) := by decide +kernel
theorem dX7_layHand_24 : decode cX7_layHand 24 = .ok (.imul, 1) := by decide +kernel
theorem dX7_layHand_25 : decode cX7_layHand 25 = .ok (.iadd, 1) := by decide +kernel
theorem dX7_layHand_26 : decode cX7_layHand 26 = .ok (.iconst 2, 1) := by decide +kernel
theorem dX7_layHand_27 : decode cX7_layHand 27 = .ok (.iadd, 1) := by decide +kernel
theorem dX7_layHand_28 : decode cX7_layHand 28 = .ok (.iload 4, 2) := by decide +kernel
theorem dX7_layHand_30 : decode cX7_layHand 30 = .ok (.iastore, 1) := by decide +kernel
theorem dX7_layHand_31 : decode cX7_layHand 31 = .ok (.return_, 1) := by decide +kernel
theorem dX7_hand_0 : decode cX7_hand 0 = .ok (.iload_n 1, 1) := by decide +kernel
theorem dX7_hand_1 : decode cX7_hand 1 = .ok (.invokestatic 80, 3) := by decide +kernel
theorem dX7_hand_4 : decode cX7_hand 4 = .ok (.ifCond .eq 40, 3) := by decide +kernel
theorem dX7_hand_7 : decode cX7_hand 7 = .ok (.iload_n 2, 1) := by decide +kernel
theorem dX7_hand_8 : decode cX7_hand 8 = .ok (.i2l, 1) := by decide +kernel
theorem dX7_hand_9 : decode cX7_hand 9 = .ok (.lconst 0, 1) := by decide +kernel
theorem dX7_hand_10 : decode cX7_hand 10 = .ok (.ldc2_w 84, 3) := by decide +kernel
theorem dX7_hand_13 : decode cX7_hand 13 = .ok (.invokestatic 68, 3) := by decide +kernel
theorem dX7_hand_16 : decode cX7_hand 16 = .ok (.ifCond .eq 28, 3) := by decide +kernel
theorem dX7_hand_19 : decode cX7_hand 19 = .ok (.iload_n 3, 1) := by decide +kernel
theorem dX7_hand_20 : decode cX7_hand 20 = .ok (.i2l, 1) := by decide +kernel
theorem dX7_hand_21 : decode cX7_hand 21 = .ok (.lconst 0, 1) := by decide +kernel
theorem dX7_hand_22 : decode cX7_hand 22 = .ok (.ldc2_w 86, 3) := by decide +kernel
theorem dX7_hand_25 : decode cX7_hand 25 = .ok (.invokestatic 68, 3) := by decide +kernel
theorem dX7_hand_28 : decode cX7_hand 28 = .ok (.ifCond .eq 16, 3) := by decide +kernel
theorem dX7_hand_31 : decode cX7_hand 31 = .ok (.iload 4, 2) := by decide +kernel
theorem dX7_hand_33 : decode cX7_hand 33 = .ok (.i2l, 1) := by decide +kernel
theorem dX7_hand_34 : decode cX7_hand 34 = .ok (.lconst 1, 1) := by decide +kernel
theorem dX7_hand_35 : decode cX7_hand 35 = .ok (.ldc2_w 74, 3) := by decide +kernel
theorem dX7_hand_38 : decode cX7_hand 38 = .ok (.invokestatic 68, 3) := by decide +kernel
theorem dX7_hand_41 : decode cX7_hand 41 = .ok (.ifCond .ne 10, 3) := by decide +kernel
theorem dX7_hand_44 : decode cX7_hand 44 = .ok (.aload_n 0, 1) := by decide +kernel
theorem dX7_hand_45 : decode cX7_hand 45 = .ok (.bipush (-2), 2) := by decide +kernel
theorem dX7_hand_47 : decode cX7_hand 47 = .ok (.invokevirtual 76, 3) := by decide +kernel
theorem dX7_hand_50 : decode cX7_hand 50 = .ok (.ireturn, 1) := by decide +kernel
theorem dX7_hand_51 : decode cX7_hand 51 = .ok (.aload_n 0, 1) := by decide +kernel
theorem dX7_hand_52 : decode cX7_hand 52 = .ok (.getfield 7, 3) := by decide +kernel
theorem dX7_hand_55 : decode cX7_hand 55 = .ok (.iconst 4, 1) := by decide +kernel
theorem dX7_hand_56 : decode cX7_hand 56 = .ok (.iconst 3, 1) := by decide +kernel
theorem dX7_hand_57 : decode cX7_hand 57 = .ok (.iload_n 1, 1) := by decide +kernel
theorem dX7_hand_58 : decode cX7_hand 58 = .ok (.imul, 1) := by decide +kernel
theorem dX7_hand_59 : decode cX7_hand 59 = .ok (.iadd, 1) := by decide +kernel
theorem dX7_hand_60 : decode cX7_hand 60 = .ok (.iconst 0, 1) := by decide +kernel
theorem dX7_hand_61 : decode cX7_hand 61 = .ok (.iadd, 1) := by decide +kernel
theorem dX7_hand_62 : decode cX7_hand 62 = .ok (.iaload, 1) := by decide +kernel
theorem dX7_hand_63 : decode cX7_hand 63 = .ok (.istore 5, 2) := by decide +kernel
theorem dX7_hand_65 : decode cX7_hand 65 = .ok (.aload_n 0, 1) := by decide +kernel
theorem dX7_hand_66 : decode cX7_hand 66 = .ok (.getfield 7, 3) := by decide +kernel
theorem dX7_hand_69 : decode cX7_hand 69 = .ok (.iload_n 1, 1) := by decide +kernel
theorem dX7_hand_70 : decode cX7_hand 70 = .ok (.iload_n 2, 1) := by decide +kernel
theorem dX7_hand_71 : decode cX7_hand 71 = .ok (.iload_n 3, 1) := by decide +kernel
theorem dX7_hand_72 : decode cX7_hand 72 = .ok (.iload 4, 2) := by decide +kernel
theorem dX7_hand_74 : decode cX7_hand 74 = .ok (.invokestatic 88, 3) := by decide +kernel
theorem dX7_hand_77 : decode cX7_hand 77 = .ok (.iload 5, 2) := by decide +kernel
theorem dX7_hand_79 : decode cX7_hand 79 = .ok (.ireturn, 1) := by decide +kernel
theorem dX7_layNote_0 : decode cX7_layNote 0 = .ok (.bipush 16, 2) := by decide +kernel
theorem dX7_layNote_2 : decode cX7_layNote 2 = .ok (.bipush 7, 2) := by decide +kernel
theorem dX7_layNote_4 : decode cX7_layNote 4 = .ok (.aload_n 0, 1) := by decide +kernel
theorem dX7_layNote_5 : decode cX7_layNote 5 = .ok (.iconst 0, 1) := by decide +kernel
theorem dX7_layNote_6 : decode cX7_layNote 6 = .ok (.iaload, 1) := by decide +kernel
theorem dX7_layNote_7 : decode cX7_layNote 7 = .ok (.imul, 1) := by decide +kernel
theorem dX7_layNote_8 : decode cX7_layNote 8 = .ok (.iadd, 1) := by decide +kernel
theorem dX7_layNote_9 : decode cX7_layNote 9 = .ok (.istore 7, 2) := by decide +kernel
theorem dX7_layNote_11 : decode cX7_layNote 11 = .ok (.aload_n 0, 1) := by decide +kernel
theorem dX7_layNote_12 : decode cX7_layNote 12 = .ok (.iload 7, 2) := by decide +kernel
theorem dX7_layNote_14 : decode cX7_layNote 14 = .ok (.iconst 0, 1) := by decide +kernel
theorem dX7_layNote_15 : decode cX7_layNote 15 = .ok (.iadd, 1) := by decide +kernel
theorem dX7_layNote_16 : decode cX7_layNote 16 = .ok (.iload_n 1, 1) := by decide +kernel
theorem dX7_layNote_17 : decode cX7_layNote 17 = .ok (.iastore, 1) := by decide +kernel
theorem dX7_layNote_18 : decode cX7_layNote 18 = .ok (.aload_n 0, 1) := by decide +kernel
theorem dX7_layNote_19 : decode cX7_layNote 19 = .ok (.iload 7, 2) := by decide +kernel
theorem dX7_layNote_21 : decode cX7_layNote 21 = .ok (.iconst 1, 1) := by decide +kernel
theorem dX7_layNote_22 : decode cX7_layNote 22 = .ok (.iadd, 1) := by decide +kernel
theorem dX7_layNote_23 : decode cX7_layNote 23 = .ok (.iload_n 2, 1) := by decide +kernel
theorem dX7_layNote_24 : decode cX7_layNote 24 = .ok (.iastore, 1) := by decide +kernel
theorem dX7_layNote_25 : decode cX7_layNote 25 = .ok (.aload_n 0, 1) := by decide +kernel
theorem dX7_layNote_26 : decode cX7_layNote 26 = .ok (.iload 7, 2) := by decide +kernel
theorem dX7_layNote_28 : decode cX7_layNote 28 = .ok (.iconst 2, 1) := by decide +kernel
theorem dX7_layNote_29 : decode cX7_layNote 29 = .ok (.iadd, 1) := by decide +kernel
theorem dX7_layNote_30 : decode cX7_layNote 30 = .ok (.iload_n 3, 1) := by decide +kernel
theorem dX7_layNote_31 : decode cX7_layNote 31 = .ok (.iastore, 1) := by decide +kernel
theorem dX7_layNote_32 : decode cX7_layNote 32 = .ok (.aload_n 0, 1) := by decide +kernel
theorem dX7_layNote_33 : decode cX7_layNote 33 = .ok (.iload 7, 2) := by decide +kernel
theorem dX7_layNote_35 : decode cX7_layNote 35 = .ok (.iconst 3, 1) := by decide +kernel
theorem dX7_layNote_36 : decode cX7_layNote 36 = .ok (.iadd, 1) := by decide +kernel
theorem dX7_layNote_37 : decode cX7_layNote 37 = .ok (.iload 4, 2) := by decide +kernel
theorem dX7_layNote_39 : decode cX7_layNote 39 = .ok (.iastore, 1) := by decide +kernel
theorem dX7_layNote_40 : decode cX7_layNote 40 = .ok (.aload_n 0, 1) := by decide +kernel
theorem dX7_layNote_41 : decode cX7_layNote 41 = .ok (.iload 7, 2) := by decide +kernel
theorem dX7_layNote_43 : decode cX7_layNote 43 = .ok (.iconst 4, 1) := by decide +kernel
theorem dX7_layNote_44 : decode cX7_layNote 44 = .ok (.iadd, 1) := by decide +kernel
theorem dX7_layNote_45 : decode cX7_layNote 45 = .ok (.iload 5, 2) := by decide +kernel
theorem dX7_layNote_47 : decode cX7_layNote 47 = .ok (.iastore, 1) := by decide +kernel
theorem dX7_layNote_48 : decode cX7_layNote 48 = .ok (.aload_n 0, 1) := by decide +kernel
theorem dX7_layNote_49 : decode cX7_layNote 49 = .ok (.iload 7, 2) := by decide +kernel
theorem dX7_layNote_51 : decode cX7_layNote 51 = .ok (.iconst 5, 1) := by decide +kernel
theorem dX7_layNote_52 : decode cX7_layNote 52 = .ok (.iadd, 1) := by decide +kernel
theorem dX7_layNote_53 : decode cX7_layNote 53 = .ok (.iload 6, 2) := by decide +kernel
theorem dX7_layNote_55 : decode cX7_layNote 55 = .ok (.iastore, 1) := by decide +kernel
theorem dX7_layNote_56 : decode cX7_layNote 56 = .ok (.aload_n 0, 1) := by decide +kernel
theorem dX7_layNote_57 : decode cX7_layNote 57 = .ok (.iload 7, 2) := by decide +kernel
theorem dX7_layNote_59 : decode cX7_layNote 59 = .ok (.bipush 6, 2) := by decide +kernel
theorem dX7_layNote_61 : decode cX7_layNote 61 = .ok (.iadd, 1) := by decide +kernel
theorem dX7_layNote_62 : decode cX7_layNote 62 = .ok (.iconst (-1), 1) := by decide +kernel
theorem dX7_layNote_63 : decode cX7_layNote 63 = .ok (.iastore, 1) := by decide +kernel
theorem dX7_layNote_64 : decode cX7_layNote 64 = .ok (.aload_n 0, 1) := by decide +kernel
theorem dX7_layNote_65 : decode cX7_layNote 65 = .ok (.iconst 0, 1) := by decide +kernel
theorem dX7_layNote_66 : decode cX7_layNote 66 = .ok (.dup2, 1) := by decide +kernel
theorem dX7_layNote_67 : decode cX7_layNote 67 = .ok (.iaload, 1) := by decide +kernel
theorem dX7_layNote_68 : decode cX7_layNote 68 = .ok (.iconst 1, 1) := by decide +kernel
theorem dX7_layNote_69 : decode cX7_layNote 69 = .ok (.iadd, 1) := by decide +kernel
theorem dX7_layNote_70 : decode cX7_layNote 70 = .ok (.iastore, 1) := by decide +kernel
theorem dX7_layNote_71 : decode cX7_layNote 71 = .ok (.return_, 1) := by decide +kernel
theorem dX7_note_0 : decode cX7_note 0 = .ok (.iload_n 1, 1) := by decide +kernel
theorem dX7_note_1 : decode cX7_note 1 = .ok (.i2l, 1) := by decide +kernel
theorem dX7_note_2 : decode cX7_note 2 = .ok (.lconst 0, 1) := by decide +kernel
theorem dX7_note_3 : decode cX7_note 3 = .ok (.ldc2_w 92, 3) := by decide +kernel
theorem dX7_note_6 : decode cX7_note 6 = .ok (.invokestatic 68, 3) := by decide +kernel
theorem dX7_note_9 : decode cX7_note 9 = .ok (.ifCond .eq 74, 3) := by decide +kernel
theorem dX7_note_12 : decode cX7_note 12 = .ok (.iload_n 2, 1) := by decide +kernel
theorem dX7_note_13 : decode cX7_note 13 = .ok (.i2l, 1) := by decide +kernel
theorem dX7_note_14 : decode cX7_note 14 = .ok (.lconst 0, 1) := by decide +kernel
theorem dX7_note_15 : decode cX7_note 15 = .ok (.ldc2_w 94, 3) := by decide +kernel
theorem dX7_note_18 : decode cX7_note 18 = .ok (.invokestatic 68, 3) := by decide +kernel
theorem dX7_note_21 : decode cX7_note 21 = .ok (.ifCond .eq 62, 3) := by decide +kernel
theorem dX7_note_24 : decode cX7_note 24 = .ok (.iload_n 3, 1) := by decide +kernel
theorem dX7_note_25 : decode cX7_note 25 = .ok (.i2l, 1) := by decide +kernel
theorem dX7_note_26 : decode cX7_note 26 = .ok (.lconst 1, 1) := by decide +kernel
theorem dX7_note_27 : decode cX7_note 27 = .ok (.ldc2_w 96, 3) := by decide +kernel
theorem dX7_note_30 : decode cX7_note 30 = .ok (.invokestatic 68, 3) := by decide +kernel
theorem dX7_note_33 : decode cX7_note 33 = .ok (.ifCond .eq 50, 3) := by decide +kernel
theorem dX7_note_36 : decode cX7_note 36 = .ok (.iload_n 2, 1) := by decide +kernel
theorem dX7_note_37 : decode cX7_note 37 = .ok (.iload_n 3, 1) := by decide +kernel
theorem dX7_note_38 : decode cX7_note 38 = .ok (.iadd, 1) := by decide +kernel
theorem dX7_note_39 : decode cX7_note 39 = .ok (.bipush 64, 2) := by decide +kernel
theorem dX7_note_41 : decode cX7_note 41 = .ok (.if_icmp .gt 42, 3) := by decide +kernel
theorem dX7_note_44 : decode cX7_note 44 = .ok (.iload 4, 2) := by decide +kernel
theorem dX7_note_46 : decode cX7_note 46 = .ok (.i2l, 1) := by decide +kernel
theorem dX7_note_47 : decode cX7_note 47 = .ok (.lconst 0, 1) := by decide +kernel
theorem dX7_note_48 : decode cX7_note 48 = .ok (.lconst 1, 1) := by decide +kernel
theorem dX7_note_49 : decode cX7_note 49 = .ok (.invokestatic 68, 3) := by decide +kernel
theorem dX7_note_52 : decode cX7_note 52 = .ok (.ifCond .eq 31, 3) := by decide +kernel
theorem dX7_note_55 : decode cX7_note 55 = .ok (.iload 5, 2) := by decide +kernel
theorem dX7_note_57 : decode cX7_note 57 = .ok (.i2l, 1) := by decide +kernel
theorem dX7_note_58 : decode cX7_note 58 = .ok (.lconst 0, 1) := by decide +kernel
theorem dX7_note_59 : decode cX7_note 59 = .ok (.ldc2_w 74, 3) := by decide +kernel
theorem dX7_note_62 : decode cX7_note 62 = .ok (.invokestatic 68, 3) := by decide +kernel
theorem dX7_note_65 : decode cX7_note 65 = .ok (.ifCond .eq 18, 3) := by decide +kernel
theorem dX7_note_68 : decode cX7_note 68 = .ok (.iload 6, 2) := by decide +kernel
theorem dX7_note_70 : decode cX7_note 70 = .ok (.i2l, 1) := by decide +kernel
theorem dX7_note_71 : decode cX7_note 71 = .ok (.ldc2_w 98, 3) := by decide +kernel
theorem dX7_note_74 : decode cX7_note 74 = .ok (.ldc2_w 72, 3) := by decide +kernel
theorem dX7_note_77 : decode cX7_note 77 = .ok (.invokestatic 68, 3) := by decide +kernel
theorem dX7_note_80 : decode cX7_note 80 = .ok (.ifCond .ne 10, 3) := by decide +kernel
theorem dX7_note_83 : decode cX7_note 83 = .ok (.aload_n 0, 1) := by decide +kernel
theorem dX7_note_84 : decode cX7_note 84 = .ok (.bipush (-2), 2) := by decide +kernel
theorem dX7_note_86 : decode cX7_note 86 = .ok (.invokevirtual 76, 3) := by decide +kernel
theorem dX7_note_89 : decode cX7_note 89 = .ok (.ireturn, 1) := by decide +kernel
theorem dX7_note_90 : decode cX7_note 90 = .ok (.aload_n 0, 1) := by decide +kernel
theorem dX7_note_91 : decode cX7_note 91 = .ok (.invokevirtual 64, 3) := by decide +kernel
theorem dX7_note_94 : decode cX7_note 94 = .ok (.bipush 12, 2) := by decide +kernel
theorem dX7_note_96 : decode cX7_note 96 = .ok (.if_icmp .ne 8, 3) := by decide +kernel
theorem dX7_note_99 : decode cX7_note 99 = .ok (.aload_n 0, 1) := by decide +kernel
theorem dX7_note_100 : decode cX7_note 100 = .ok (.invokevirtual 100, 3) := by decide +kernel
theorem dX7_note_103 : decode cX7_note 103 = .ok (.ireturn, 1) := by decide +kernel
theorem dX7_note_104 : decode cX7_note 104 = .ok (.aload_n 0, 1) := by decide +kernel
theorem dX7_note_105 : decode cX7_note 105 = .ok (.getfield 7, 3) := by decide +kernel
theorem dX7_note_108 : decode cX7_note 108 = .ok (.iload_n 1, 1) := by decide +kernel
theorem dX7_note_109 : decode cX7_note 109 = .ok (.iload_n 2, 1) := by decide +kernel
theorem dX7_note_110 : decode cX7_note 110 = .ok (.iload_n 3, 1) := by decide +kernel
theorem dX7_note_111 : decode cX7_note 111 = .ok (.iload 4, 2) := by decide +kernel
theorem dX7_note_113 : decode cX7_note 113 = .ok (.iload 5, 2) := by decide +kernel
theorem dX7_note_115 : decode cX7_note 115 = .ok (.iload 6, 2) := by decide +kernel
theorem dX7_note_117 : decode cX7_note 117 = .ok (.invokestatic 103, 3) := by decide +kernel
theorem dX7_note_120 : decode cX7_note 120 = .ok (.aload_n 0, 1) := by decide +kernel
theorem dX7_note_121 : decode cX7_note 121 = .ok (.getfield 7, 3) := by decide +kernel
theorem dX7_note_124 : decode cX7_note 124 = .ok (.bipush 100, 2) := by decide +kernel
theorem dX7_note_126 : decode cX7_note 126 = .ok (.iconst 0, 1) := by decide +kernel
theorem dX7_note_127 : decode cX7_note 127 = .ok (.iastore, 1) := by decide +kernel
theorem dX7_note_128 : decode cX7_note 128 = .ok (.aload_n 0, 1) := by decide +kernel
theorem dX7_note_129 : decode cX7_note 129 = .ok (.invokevirtual 64, 3) := by decide +kernel
theorem dX7_note_132 : decode cX7_note 132 = .ok (.iconst 1, 1) := by decide +kernel
theorem dX7_note_133 : decode cX7_note 133 = .ok (.isub, 1) := by decide +kernel
theorem dX7_note_134 : decode cX7_note 134 = .ok (.ireturn, 1) := by decide +kernel
theorem dX7_kindOf_0 : decode cX7_kindOf 0 = .ok (.aload_n 0, 1) := by decide +kernel
theorem dX7_kindOf_1 : decode cX7_kindOf 1 = .ok (.getfield 7, 3) := by decide +kernel
theorem dX7_kindOf_4 : decode cX7_kindOf 4 = .ok (.iconst 4, 1) := by decide +kernel
theorem dX7_kindOf_5 : decode cX7_kindOf 5 = .ok (.iconst 3, 1) := by decide +kernel
theorem dX7_kindOf_6 : decode cX7_kindOf 6 = .ok (.iload_n 1, 1) := by decide +kernel
theorem dX7_kindOf_7 : decode cX7_kindOf 7 = .ok (.imul, 1) := by decide +kernel
theorem dX7_kindOf_8 : decode cX7_kindOf 8 = .ok (.iadd, 1) := by decide +kernel
theorem dX7_kindOf_9 : decode cX7_kindOf 9 = .ok (.iconst 0, 1) := by decide +kernel
theorem dX7_kindOf_10 : decode cX7_kindOf 10 = .ok (.iadd, 1) := by decide +kernel
theorem dX7_kindOf_11 : decode cX7_kindOf 11 = .ok (.iaload, 1) := by decide +kernel
theorem dX7_kindOf_12 : decode cX7_kindOf 12 = .ok (.ireturn, 1) := by decide +kernel
theorem dX7_reaches_0 : decode cX7_reaches 0 = .ok (.aload_n 0, 1) := by decide +kernel
theorem dX7_reaches_1 : decode cX7_reaches 1 = .ok (.getfield 7, 3) := by decide +kernel
theorem dX7_reaches_4 : decode cX7_reaches 4 = .ok (.iconst 4, 1) := by decide +kernel
theorem dX7_reaches_5 : decode cX7_reaches 5 = .ok (.iconst 3, 1) := by decide +kernel
theorem dX7_reaches_6 : decode cX7_reaches 6 = .ok (.iload_n 1, 1) := by decide +kernel
theorem dX7_reaches_7 : decode cX7_reaches 7 = .ok (.imul, 1) := by decide +kernel
theorem dX7_reaches_8 : decode cX7_reaches 8 = .ok (.iadd, 1) := by decide +kernel
theorem dX7_reaches_9 : decode cX7_reaches 9 = .ok (.iconst 1, 1) := by decide +kernel
theorem dX7_reaches_10 : decode cX7_reaches 10 = .ok (.iadd, 1) := by decide +kernel
theorem dX7_reaches_11 : decode cX7_reaches 11 = .ok (.iaload, 1) := by decide +kernel
theorem dX7_reaches_12 : decode cX7_reaches 12 = .ok (.istore_n 2, 1) := by decide +kernel
theorem dX7_reaches_13 : decode cX7_reaches 13 = .ok (.aload_n 0, 1) := by decide +kernel
theorem dX7_reaches_14 : decode cX7_reaches 14 = .ok (.iload_n 1, 1) := by decide +kernel
theorem dX7_reaches_15 : decode cX7_reaches 15 = .ok (.invokevirtual 107, 3) := by decide +kernel
theorem dX7_reaches_18 : decode cX7_reaches 18 = .ok (.iconst 3, 1) := by decide +kernel
theorem dX7_reaches_19 : decode cX7_reaches 19 = .ok (.if_icmp .eq 12, 3) := by decide +kernel
theorem dX7_reaches_22 : decode cX7_reaches 22 = .ok (.aload_n 0, 1) := by decide +kernel
theorem dX7_reaches_23 : decode cX7_reaches 23 = .ok (.iload_n 1, 1) := by decide +kernel
theorem dX7_reaches_24 : decode cX7_reaches 24 = .ok (.invokevirtual 107, 3) := by decide +kernel
theorem dX7_reaches_27 : decode cX7_reaches 27 = .ok (.iconst 5, 1) := by decide +kernel
theorem dX7_reaches_28 : decode cX7_reaches 28 = .ok (.if_icmp .ne 7, 3) := by decide +kernel
theorem dX7_reaches_31 : decode cX7_reaches 31 = .ok (.iconst 1, 1) := by decide +kernel
theorem dX7_reaches_32 : decode cX7_reaches 32 = .ok (.goto 4, 3) := by decide +kernel
theorem dX7_reaches_35 : decode cX7_reaches 35 = .ok (.iconst 0, 1) := by decide +kernel
theorem dX7_reaches_36 : decode cX7_reaches 36 = .ok (.istore_n 3, 1) := by decide +kernel
theorem dX7_reaches_37 : decode cX7_reaches 37 = .ok (.iload_n 3, 1) := by decide +kernel
theorem dX7_reaches_38 : decode cX7_reaches 38 = .ok (.ifCond .ne 7, 3) := by decide +kernel
theorem dX7_reaches_41 : decode cX7_reaches 41 = .ok (.iload_n 2, 1) := by decide +kernel
theorem dX7_reaches_42 : decode cX7_reaches 42 = .ok (.goto 15, 3) := by decide +kernel
theorem dX7_reaches_45 : decode cX7_reaches 45 = .ok (.iload_n 2, 1) := by decide +kernel
theorem dX7_reaches_46 : decode cX7_reaches 46 = .ok (.iconst 2, 1) := by decide +kernel
theorem dX7_reaches_47 : decode cX7_reaches 47 = .ok (.if_icmp .ge 7, 3) := by decide +kernel
theorem dX7_reaches_50 : decode cX7_reaches 50 = .ok (.iconst 0, 1) := by decide +kernel
theorem dX7_reaches_51 : decode cX7_reaches 51 = .ok (.goto 6, 3) := by decide +kernel
theorem dX7_reaches_54 : decode cX7_reaches 54 = .ok (.iload_n 2, 1) := by decide +kernel
theorem dX7_reaches_55 : decode cX7_reaches 55 = .ok (.iconst 2, 1) := by decide +kernel
theorem dX7_reaches_56 : decode cX7_reaches 56 = .ok (.isub, 1) := by decide +kernel
theorem dX7_reaches_57 : decode cX7_reaches 57 = .ok (.ireturn, 1) := by decide +kernel
theorem dX7_moves_0 : decode cX7_moves 0 = .ok (.aload_n 0, 1) := by decide +kernel
theorem dX7_moves_1 : decode cX7_moves 1 = .ok (.getfield 7, 3) := by decide +kernel
theorem dX7_moves_4 : decode cX7_moves 4 = .ok (.iconst 4, 1) := by decide +kernel
theorem dX7_moves_5 : decode cX7_moves 5 = .ok (.iconst 3, 1) := by decide +kernel
theorem dX7_moves_6 : decode cX7_moves 6 = .ok (.iload_n 1, 1) := by decide +kernel
theorem dX7_moves_7 : decode cX7_moves 7 = .ok (.imul, 1) := by decide +kernel
theorem dX7_moves_8 : decode cX7_moves 8 = .ok (.iadd, 1) := by decide +kernel
theorem dX7_moves_9 : decode cX7_moves 9 = .ok (.iconst 2, 1) := by decide +kernel
theorem dX7_moves_10 : decode cX7_moves 10 = .ok (.iadd, 1) := by decide +kernel
theorem dX7_moves_11 : decode cX7_moves 11 = .ok (.iaload, 1) := by decide +kernel
theorem dX7_moves_12 : decode cX7_moves 12 = .ok (.istore_n 2, 1) := by decide +kernel
theorem dX7_moves_13 : decode cX7_moves 13 = .ok (.aload_n 0, 1) := by decide +kernel
theorem dX7_moves_14 : decode cX7_moves 14 = .ok (.iload_n 1, 1) := by decide +kernel
theorem dX7_moves_15 : decode cX7_moves 15 = .ok (.invokevirtual 107, 3) := by decide +kernel
theorem dX7_moves_18 : decode cX7_moves 18 = .ok (.tableswitch 51 1 5 #[34, 51, 38, 34, 38], 34) := by decide +kernel
theorem dX7_moves_52 : decode cX7_moves 52 = .ok (.iconst 2, 1) := by decide +kernel
theorem dX7_moves_53 : decode cX7_moves 53 = .ok (.iload_n 2, 1) := by decide +kernel
theorem dX7_moves_54 : decode cX7_moves 54 = .ok (.imul, 1) := by decide +kernel
theorem dX7_moves_55 : decode cX7_moves 55 = .ok (.ireturn, 1) := by decide +kernel
theorem dX7_moves_56 : decode cX7_moves 56 = .ok (.iload_n 2, 1) := by decide +kernel
theorem dX7_moves_57 : decode cX7_moves 57 = .ok (.iconst 2, 1) := by decide +kernel
theorem dX7_moves_58 : decode cX7_moves 58 = .ok (.if_icmp .ge 7, 3) := by decide +kernel
theorem dX7_moves_61 : decode cX7_moves 61 = .ok (.iconst 1, 1) := by decide +kernel
theorem dX7_moves_62 : decode cX7_moves 62 = .ok (.goto 6, 3) := by decide +kernel
theorem dX7_moves_65 : decode cX7_moves 65 = .ok (.iload_n 2, 1) := by decide +kernel
theorem dX7_moves_66 : decode cX7_moves 66 = .ok (.iconst 2, 1) := by decide +kernel
theorem dX7_moves_67 : decode cX7_moves 67 = .ok (.idiv, 1) := by decide +kernel
theorem dX7_moves_68 : decode cX7_moves 68 = .ok (.ireturn, 1) := by decide +kernel
theorem dX7_moves_69 : decode cX7_moves 69 = .ok (.iload_n 2, 1) := by decide +kernel
theorem dX7_moves_70 : decode cX7_moves 70 = .ok (.ireturn, 1) := by decide +kernel
theorem dX7_nearOf_0 : decode cX7_nearOf 0 = .ok (.aload_n 0, 1) := by decide +kernel
theorem dX7_nearOf_1 : decode cX7_nearOf 1 = .ok (.getfield 7, 3) := by decide +kernel
theorem dX7_nearOf_4 : decode cX7_nearOf 4 = .ok (.iconst 1, 1) := by decide +kernel
theorem dX7_nearOf_5 : decode cX7_nearOf 5 = .ok (.iaload, 1) := by decide +kernel
theorem dX7_nearOf_6 : decode cX7_nearOf 6 = .ok (.istore_n 2, 1) := by decide +kernel
theorem dX7_nearOf_7 : decode cX7_nearOf 7 = .ok (.aload_n 0, 1) := by decide +kernel
theorem dX7_nearOf_8 : decode cX7_nearOf 8 = .ok (.iload_n 1, 1) := by decide +kernel
theorem dX7_nearOf_9 : decode cX7_nearOf 9 = .ok (.invokevirtual 107, 3) := by decide +kernel
theorem dX7_nearOf_12 : decode cX7_nearOf 12 = .ok (.tableswitch 44 2 5 #[32, 44, 36, 40], 32) := by decide +kernel
theorem dX7_nearOf_44 : decode cX7_nearOf 44 = .ok (.iload_n 2, 1) := by decide +kernel
theorem dX7_nearOf_45 : decode cX7_nearOf 45 = .ok (.iconst 1, 1) := by decide +kernel
theorem dX7_nearOf_46 : decode cX7_nearOf 46 = .ok (.iadd, 1) := by decide +kernel
theorem dX7_nearOf_47 : decode cX7_nearOf 47 = .ok (.ireturn, 1) := by decide +kernel
theorem dX7_nearOf_48 : decode cX7_nearOf 48 = .ok (.iload_n 2, 1) := by decide +kernel
theorem dX7_nearOf_49 : decode cX7_nearOf 49 = .ok (.iconst 2, 1) := by decide +kernel
theorem dX7_nearOf_50 : decode cX7_nearOf 50 = .ok (.idiv, 1) := by decide +kernel
theorem dX7_nearOf_51 : decode cX7_nearOf 51 = .ok (.ireturn, 1) := by decide +kernel
theorem dX7_nearOf_52 : decode cX7_nearOf 52 = .ok (.iconst 2, 1) := by decide +kernel
theorem dX7_nearOf_53 : decode cX7_nearOf 53 = .ok (.iload_n 2, 1) := by decide +kernel
theorem dX7_nearOf_54 : decode cX7_nearOf 54 = .ok (.imul, 1) := by decide +kernel
theorem dX7_nearOf_55 : decode cX7_nearOf 55 = .ok (.ireturn, 1) := by decide +kernel
theorem dX7_nearOf_56 : decode cX7_nearOf 56 = .ok (.iload_n 2, 1) := by decide +kernel
theorem dX7_nearOf_57 : decode cX7_nearOf 57 = .ok (.ireturn, 1) := by decide +kernel
theorem dX7_isPlayed_0 : decode cX7_isPlayed 0 = .ok (.aload_n 0, 1) := by decide +kernel
theorem dX7_isPlayed_1 : decode cX7_isPlayed 1 = .ok (.iload_n 1, 1) := by decide +kernel
theorem dX7_isPlayed_2 : decode cX7_isPlayed 2 = .ok (.iconst 5, 1) := by decide +kernel
theorem dX7_isPlayed_3 : decode cX7_isPlayed 3 = .ok (.invokevirtual 110, 3) := by decide +kernel
theorem dX7_isPlayed_6 : decode cX7_isPlayed 6 = .ok (.iconst (-1), 1) := by decide +kernel
theorem dX7_isPlayed_7 : decode cX7_isPlayed 7 = .ok (.if_icmp .eq 7, 3) := by decide +kernel
theorem dX7_isPlayed_10 : decode cX7_isPlayed 10 = .ok (.iconst 1, 1) := by decide +kernel
theorem dX7_isPlayed_11 : decode cX7_isPlayed 11 = .ok (.goto 4, 3) := by decide +kernel
theorem dX7_isPlayed_14 : decode cX7_isPlayed 14 = .ok (.iconst 0, 1) := by decide +kernel
theorem dX7_isPlayed_15 : decode cX7_isPlayed 15 = .ok (.ireturn, 1) := by decide +kernel
theorem dX7_endOf_0 : decode cX7_endOf 0 = .ok (.aload_n 0, 1) := by decide +kernel
theorem dX7_endOf_1 : decode cX7_endOf 1 = .ok (.iload_n 1, 1) := by decide +kernel
theorem dX7_endOf_2 : decode cX7_endOf 2 = .ok (.iconst 1, 1) := by decide +kernel
theorem dX7_endOf_3 : decode cX7_endOf 3 = .ok (.invokevirtual 110, 3) := by decide +kernel
theorem dX7_endOf_6 : decode cX7_endOf 6 = .ok (.aload_n 0, 1) := by decide +kernel
theorem dX7_endOf_7 : decode cX7_endOf 7 = .ok (.iload_n 1, 1) := by decide +kernel
theorem dX7_endOf_8 : decode cX7_endOf 8 = .ok (.iconst 2, 1) := by decide +kernel
theorem dX7_endOf_9 : decode cX7_endOf 9 = .ok (.invokevirtual 110, 3) := by decide +kernel
theorem dX7_endOf_12 : decode cX7_endOf 12 = .ok (.iadd, 1) := by decide +kernel
theorem dX7_endOf_13 : decode cX7_endOf 13 = .ok (.ireturn, 1) := by decide +kernel
theorem dX7_soundTogether_0 : decode cX7_soundTogether 0 = .ok (.aload_n 0, 1) := by decide +kernel
theorem dX7_soundTogether_1 : decode cX7_soundTogether 1 = .ok (.iload_n 1, 1) := by decide +kernel
theorem dX7_soundTogether_2 : decode cX7_soundTogether 2 = .ok (.iconst 1, 1) := by decide +kernel
theorem dX7_soundTogether_3 : decode cX7_soundTogether 3 = .ok (.invokevirtual 110, 3) := by decide +kernel
theorem dX7_soundTogether_6 : decode cX7_soundTogether 6 = .ok (.aload_n 0, 1) := by decide +kernel
theorem dX7_soundTogether_7 : decode cX7_soundTogether 7 = .ok (.iload_n 2, 1) := by decide +kernel
theorem dX7_soundTogether_8 : decode cX7_soundTogether 8 = .ok (.invokevirtual 114, 3) := by decide +kernel
theorem dX7_soundTogether_11 : decode cX7_soundTogether 11 = .ok (.if_icmp .ge 21, 3) := by decide +kernel
theorem dX7_soundTogether_14 : decode cX7_soundTogether 14 = .ok (.aload_n 0, 1) := by decide +kernel
theorem dX7_soundTogether_15 : decode cX7_soundTogether 15 = .ok (.iload_n 2, 1) := by decide +kernel
theorem dX7_soundTogether_16 : decode cX7_soundTogether 16 = .ok (.iconst 1, 1) := by decide +kernel
theorem dX7_soundTogether_17 : decode cX7_soundTogether 17 = .ok (.invokevirtual 110, 3) := by decide +kernel
theorem dX7_soundTogether_20 : decode cX7_soundTogether 20 = .ok (.aload_n 0, 1) := by decide +kernel
theorem dX7_soundTogether_21 : decode cX7_soundTogether 21 = .ok (.iload_n 1, 1) := by decide +kernel
theorem dX7_soundTogether_22 : decode cX7_soundTogether 22 = .ok (.invokevirtual 114, 3) := by decide +kernel
theorem dX7_soundTogether_25 : decode cX7_soundTogether 25 = .ok (.if_icmp .ge 7, 3) := by decide +kernel
theorem dX7_soundTogether_28 : decode cX7_soundTogether 28 = .ok (.iconst 1, 1) := by decide +kernel
theorem dX7_soundTogether_29 : decode cX7_soundTogether 29 = .ok (.goto 4, 3) := by decide +kernel
theorem dX7_soundTogether_32 : decode cX7_soundTogether 32 = .ok (.iconst 0, 1) := by decide +kernel
theorem dX7_soundTogether_33 : decode cX7_soundTogether 33 = .ok (.ireturn, 1) := by decide +kernel
theorem dX7_byTwo_0 : decode cX7_byTwo 0 = .ok (.aload_n 0, 1) := by decide +kernel
theorem dX7_byTwo_1 : decode cX7_byTwo 1 = .ok (.iload_n 1, 1) := by decide +kernel
theorem dX7_byTwo_2 : decode cX7_byTwo 2 = .ok (.iconst 5, 1) := by decide +kernel
theorem dX7_byTwo_3 : decode cX7_byTwo 3 = .ok (.invokevirtual 110, 3) := by decide +kernel
theorem dX7_byTwo_6 : decode cX7_byTwo 6 = .ok (.istore_n 3, 1) := by decide +kernel
theorem dX7_byTwo_7 : decode cX7_byTwo 7 = .ok (.aload_n 0, 1) := by decide +kernel
theorem dX7_byTwo_8 : decode cX7_byTwo 8 = .ok (.iload_n 2, 1) := by decide +kernel
theorem dX7_byTwo_9 : decode cX7_byTwo 9 = .ok (.iconst 5, 1) := by decide +kernel
theorem dX7_byTwo_10 : decode cX7_byTwo 10 = .ok (.invokevirtual 110, 3) := by decide +kernel
theorem dX7_byTwo_13 : decode cX7_byTwo 13 = .ok (.istore 4, 2) := by decide +kernel
theorem dX7_byTwo_15 : decode cX7_byTwo 15 = .ok (.iload_n 3, 1) := by decide +kernel
theorem dX7_byTwo_16 : decode cX7_byTwo 16 = .ok (.iconst 2, 1) := by decide +kernel
theorem dX7_byTwo_17 : decode cX7_byTwo 17 = .ok (.idiv, 1) := by decide +kernel
theorem dX7_byTwo_18 : decode cX7_byTwo 18 = .ok (.iload 4, 2) := by decide +kernel
theorem dX7_byTwo_20 : decode cX7_byTwo 20 = .ok (.iconst 2, 1) := by decide +kernel
theorem dX7_byTwo_21 : decode cX7_byTwo 21 = .ok (.idiv, 1) := by decide +kernel
theorem dX7_byTwo_22 : decode cX7_byTwo 22 = .ok (.if_icmp .ne 5, 3) := by decide +kernel
theorem dX7_byTwo_25 : decode cX7_byTwo 25 = .ok (.iconst (-1), 1) := by decide +kernel
theorem dX7_byTwo_26 : decode cX7_byTwo 26 = .ok (.ireturn, 1) := by decide +kernel
theorem dX7_byTwo_27 : decode cX7_byTwo 27 = .ok (.aload_n 0, 1) := by decide +kernel
theorem dX7_byTwo_28 : decode cX7_byTwo 28 = .ok (.iload_n 3, 1) := by decide +kernel
theorem dX7_byTwo_29 : decode cX7_byTwo 29 = .ok (.invokevirtual 117, 3) := by decide +kernel
theorem dX7_byTwo_32 : decode cX7_byTwo 32 = .ok (.aload_n 0, 1) := by decide +kernel
theorem dX7_byTwo_33 : decode cX7_byTwo 33 = .ok (.iload 4, 2) := by decide +kernel
theorem dX7_byTwo_35 : decode cX7_byTwo 35 = .ok (.invokevirtual 117, 3) := by decide +kernel
theorem dX7_byTwo_38 : decode cX7_byTwo 38 = .ok (.if_icmp .le 11, 3) := by decide +kernel
theorem dX7_byTwo_41 : decode cX7_byTwo 41 = .ok (.aload_n 0, 1) := by decide +kernel
theorem dX7_byTwo_42 : decode cX7_byTwo 42 = .ok (.iload_n 3, 1) := by decide +kernel
theorem dX7_byTwo_43 : decode cX7_byTwo 43 = .ok (.invokevirtual 117, 3) := by decide +kernel
theorem dX7_byTwo_46 : decode cX7_byTwo 46 = .ok (.goto 9, 3) := by decide +kernel
theorem dX7_byTwo_49 : decode cX7_byTwo 49 = .ok (.aload_n 0, 1) := by decide +kernel
theorem dX7_byTwo_50 : decode cX7_byTwo 50 = .ok (.iload 4, 2) := by decide +kernel
theorem dX7_byTwo_52 : decode cX7_byTwo 52 = .ok (.invokevirtual 117, 3) := by decide +kernel
theorem dX7_byTwo_55 : decode cX7_byTwo 55 = .ok (.istore 5, 2) := by decide +kernel
theorem dX7_byTwo_57 : decode cX7_byTwo 57 = .ok (.aload_n 0, 1) := by decide +kernel
theorem dX7_byTwo_58 : decode cX7_byTwo 58 = .ok (.iload_n 1, 1) := by decide +kernel
theorem dX7_byTwo_59 : decode cX7_byTwo 59 = .ok (.iconst 0, 1) := by decide +kernel
theorem dX7_byTwo_60 : decode cX7_byTwo 60 = .ok (.invokevirtual 110, 3) := by decide +kernel
theorem dX7_byTwo_63 : decode cX7_byTwo 63 = .ok (.aload_n 0, 1) := by decide +kernel
theorem dX7_byTwo_64 : decode cX7_byTwo 64 = .ok (.iload_n 2, 1) := by decide +kernel
theorem dX7_byTwo_65 : decode cX7_byTwo 65 = .ok (.iconst 0, 1) := by decide +kernel
theorem dX7_byTwo_66 : decode cX7_byTwo 66 = .ok (.invokevirtual 110, 3) := by decide +kernel
theorem dX7_byTwo_69 : decode cX7_byTwo 69 = .ok (.invokestatic 120, 3) := by decide +kernel
theorem dX7_byTwo_72 : decode cX7_byTwo 72 = .ok (.iload 5, 2) := by decide +kernel
theorem dX7_byTwo_74 : decode cX7_byTwo 74 = .ok (.if_icmp .ge 5, 3) := by decide +kernel
theorem dX7_byTwo_77 : decode cX7_byTwo 77 = .ok (.iconst 3, 1) := by decide +kernel
theorem dX7_byTwo_78 : decode cX7_byTwo 78 = .ok (.ireturn, 1) := by decide +kernel
theorem dX7_byTwo_79 : decode cX7_byTwo 79 = .ok (.iload_n 3, 1) := by decide +kernel
theorem dX7_byTwo_80 : decode cX7_byTwo 80 = .ok (.iconst 2, 1) := by decide +kernel
theorem dX7_byTwo_81 : decode cX7_byTwo 81 = .ok (.if_icmp .ge 7, 3) := by decide +kernel
theorem dX7_byTwo_84 : decode cX7_byTwo 84 = .ok (.iload_n 1, 1) := by decide +kernel
theorem dX7_byTwo_85 : decode cX7_byTwo 85 = .ok (.goto 4, 3) := by decide +kernel
theorem dX7_byTwo_88 : decode cX7_byTwo 88 = .ok (.iload_n 2, 1) := by decide +kernel
theorem dX7_byTwo_89 : decode cX7_byTwo 89 = .ok (.istore 6, 2) := by decide +kernel
theorem dX7_byTwo_91 : decode cX7_byTwo 91 = .ok (.iload_n 3, 1) := by decide +kernel
theorem dX7_byTwo_92 : decode cX7_byTwo 92 = .ok (.iconst 2, 1) := by decide +kernel
theorem dX7_byTwo_93 : decode cX7_byTwo 93 = .ok (.if_icmp .ge 7, 3) := by decide +kernel
theorem dX7_byTwo_96 : decode cX7_byTwo 96 = .ok (.iload_n 2, 1) := by decide +kernel
theorem dX7_byTwo_97 : decode cX7_byTwo 97 = .ok (.goto 4, 3) := by decide +kernel
theorem dX7_byTwo_100 : decode cX7_byTwo 100 = .ok (.iload_n 1, 1) := by decide +kernel
theorem dX7_byTwo_101 : decode cX7_byTwo 101 = .ok (.istore 7, 2) := by decide +kernel
theorem dX7_byTwo_103 : decode cX7_byTwo 103 = .ok (.aload_n 0, 1) := by decide +kernel
theorem dX7_byTwo_104 : decode cX7_byTwo 104 = .ok (.iload 6, 2) := by decide +kernel
theorem dX7_byTwo_106 : decode cX7_byTwo 106 = .ok (.iconst 0, 1) := by decide +kernel
theorem dX7_byTwo_107 : decode cX7_byTwo 107 = .ok (.invokevirtual 110, 3) := by decide +kernel
theorem dX7_byTwo_110 : decode cX7_byTwo 110 = .ok (.aload_n 0, 1) := by decide +kernel
theorem dX7_byTwo_111 : decode cX7_byTwo 111 = .ok (.iload 7, 2) := by decide +kernel
theorem dX7_byTwo_113 : decode cX7_byTwo 113 = .ok (.iconst 0, 1) := by decide +kernel
theorem dX7_byTwo_114 : decode cX7_byTwo 114 = .ok (.invokevirtual 110, 3) := by decide +kernel
theorem dX7_byTwo_117 : decode cX7_byTwo 117 = .ok (.if_icmp .ge 7, 3) := by decide +kernel
theorem dX7_byTwo_120 : decode cX7_byTwo 120 = .ok (.iconst 4, 1) := by decide +kernel
theorem dX7_byTwo_121 : decode cX7_byTwo 121 = .ok (.goto 4, 3) := by decide +kernel
theorem dX7_byTwo_124 : decode cX7_byTwo 124 = .ok (.iconst (-1), 1) := by decide +kernel
theorem dX7_byTwo_125 : decode cX7_byTwo 125 = .ok (.ireturn, 1) := by decide +kernel
theorem dX7_clashOf_0 : decode cX7_clashOf 0 = .ok (.aload_n 0, 1) := by decide +kernel
theorem dX7_clashOf_1 : decode cX7_clashOf 1 = .ok (.iload_n 1, 1) := by decide +kernel
theorem dX7_clashOf_2 : decode cX7_clashOf 2 = .ok (.invokevirtual 123, 3) := by decide +kernel
theorem dX7_clashOf_5 : decode cX7_clashOf 5 = .ok (.ifCond .eq 11, 3) := by decide +kernel
theorem dX7_clashOf_8 : decode cX7_clashOf 8 = .ok (.aload_n 0, 1) := by decide +kernel
theorem dX7_clashOf_9 : decode cX7_clashOf 9 = .ok (.iload_n 2, 1) := by decide +kernel
theorem dX7_clashOf_10 : decode cX7_clashOf 10 = .ok (.invokevirtual 123, 3) := by decide +kernel
theorem dX7_clashOf_13 : decode cX7_clashOf 13 = .ok (.ifCond .ne 5, 3) := by decide +kernel
theorem dX7_clashOf_16 : decode cX7_clashOf 16 = .ok (.iconst (-1), 1) := by decide +kernel
theorem dX7_clashOf_17 : decode cX7_clashOf 17 = .ok (.ireturn, 1) := by decide +kernel
theorem dX7_clashOf_18 : decode cX7_clashOf 18 = .ok (.aload_n 0, 1) := by decide +kernel
theorem dX7_clashOf_19 : decode cX7_clashOf 19 = .ok (.iload_n 1, 1) := by decide +kernel
theorem dX7_clashOf_20 : decode cX7_clashOf 20 = .ok (.iconst 0, 1) := by decide +kernel
theorem dX7_clashOf_21 : decode cX7_clashOf 21 = .ok (.invokevirtual 110, 3) := by decide +kernel
theorem dX7_clashOf_24 : decode cX7_clashOf 24 = .ok (.aload_n 0, 1) := by decide +kernel
theorem dX7_clashOf_25 : decode cX7_clashOf 25 = .ok (.iload_n 2, 1) := by decide +kernel
theorem dX7_clashOf_26 : decode cX7_clashOf 26 = .ok (.iconst 0, 1) := by decide +kernel
theorem dX7_clashOf_27 : decode cX7_clashOf 27 = .ok (.invokevirtual 110, 3) := by decide +kernel
theorem dX7_clashOf_30 : decode cX7_clashOf 30 = .ok (.invokestatic 120, 3) := by decide +kernel
theorem dX7_clashOf_33 : decode cX7_clashOf 33 = .ok (.istore_n 3, 1) := by decide +kernel
theorem dX7_clashOf_34 : decode cX7_clashOf 34 = .ok (.aload_n 0, 1) := by decide +kernel
theorem dX7_clashOf_35 : decode cX7_clashOf 35 = .ok (.iload_n 1, 1) := by decide +kernel
theorem dX7_clashOf_36 : decode cX7_clashOf 36 = .ok (.iload_n 2, 1) := by decide +kernel
theorem dX7_clashOf_37 : decode cX7_clashOf 37 = .ok (.invokevirtual 126, 3) := by decide +kernel
theorem dX7_clashOf_40 : decode cX7_clashOf 40 = .ok (.istore 4, 2) := by decide +kernel
theorem dX7_clashOf_42 : decode cX7_clashOf 42 = .ok (.aload_n 0, 1) := by decide +kernel
theorem dX7_clashOf_43 : decode cX7_clashOf 43 = .ok (.iload_n 1, 1) := by decide +kernel
theorem dX7_clashOf_44 : decode cX7_clashOf 44 = .ok (.iconst 5, 1) := by decide +kernel
theorem dX7_clashOf_45 : decode cX7_clashOf 45 = .ok (.invokevirtual 110, 3) := by decide +kernel
theorem dX7_clashOf_48 : decode cX7_clashOf 48 = .ok (.aload_n 0, 1) := by decide +kernel
theorem dX7_clashOf_49 : decode cX7_clashOf 49 = .ok (.iload_n 2, 1) := by decide +kernel
theorem dX7_clashOf_50 : decode cX7_clashOf 50 = .ok (.iconst 5, 1) := by decide +kernel
theorem dX7_clashOf_51 : decode cX7_clashOf 51 = .ok (.invokevirtual 110, 3) := by decide +kernel
theorem dX7_clashOf_54 : decode cX7_clashOf 54 = .ok (.if_icmp .ne 7, 3) := by decide +kernel
theorem dX7_clashOf_57 : decode cX7_clashOf 57 = .ok (.iconst 1, 1) := by decide +kernel
theorem dX7_clashOf_58 : decode cX7_clashOf 58 = .ok (.goto 4, 3) := by decide +kernel
theorem dX7_clashOf_61 : decode cX7_clashOf 61 = .ok (.iconst 0, 1) := by decide +kernel
theorem dX7_clashOf_62 : decode cX7_clashOf 62 = .ok (.istore 5, 2) := by decide +kernel
theorem dX7_clashOf_64 : decode cX7_clashOf 64 = .ok (.iload_n 3, 1) := by decide +kernel
theorem dX7_clashOf_65 : decode cX7_clashOf 65 = .ok (.ifCond .ne 20, 3) := by decide +kernel
theorem dX7_clashOf_68 : decode cX7_clashOf 68 = .ok (.aload_n 0, 1) := by decide +kernel
theorem dX7_clashOf_69 : decode cX7_clashOf 69 = .ok (.iload_n 1, 1) := by decide +kernel
theorem dX7_clashOf_70 : decode cX7_clashOf 70 = .ok (.iconst 1, 1) := by decide +kernel
theorem dX7_clashOf_71 : decode cX7_clashOf 71 = .ok (.invokevirtual 110, 3) := by decide +kernel
theorem dX7_clashOf_74 : decode cX7_clashOf 74 = .ok (.aload_n 0, 1) := by decide +kernel
theorem dX7_clashOf_75 : decode cX7_clashOf 75 = .ok (.iload_n 2, 1) := by decide +kernel
theorem dX7_clashOf_76 : decode cX7_clashOf 76 = .ok (.iconst 1, 1) := by decide +kernel
theorem dX7_clashOf_77 : decode cX7_clashOf 77 = .ok (.invokevirtual 110, 3) := by decide +kernel
theorem dX7_clashOf_80 : decode cX7_clashOf 80 = .ok (.if_icmp .ne 5, 3) := by decide +kernel
theorem dX7_clashOf_83 : decode cX7_clashOf 83 = .ok (.iconst 0, 1) := by decide +kernel
theorem dX7_clashOf_84 : decode cX7_clashOf 84 = .ok (.ireturn, 1) := by decide +kernel
theorem dX7_clashOf_85 : decode cX7_clashOf 85 = .ok (.iload_n 3, 1) := by decide +kernel
theorem dX7_clashOf_86 : decode cX7_clashOf 86 = .ok (.ifCond .ne 10, 3) := by decide +kernel
theorem dX7_clashOf_89 : decode cX7_clashOf 89 = .ok (.iload 4, 2) := by decide +kernel
theorem dX7_clashOf_91 : decode cX7_clashOf 91 = .ok (.ifCond .eq 5, 3) := by decide +kernel
theorem dX7_clashOf_94 : decode cX7_clashOf 94 = .ok (.iconst 1, 1) := by decide +kernel
theorem dX7_clashOf_95 : decode cX7_clashOf 95 = .ok (.ireturn, 1) := by decide +kernel
theorem dX7_clashOf_96 : decode cX7_clashOf 96 = .ok (.iload 4, 2) := by decide +kernel
theorem dX7_clashOf_98 : decode cX7_clashOf 98 = .ok (.ifCond .eq 37, 3) := by decide +kernel
theorem dX7_clashOf_101 : decode cX7_clashOf 101 = .ok (.iload 5, 2) := by decide +kernel
theorem dX7_clashOf_103 : decode cX7_clashOf 103 = .ok (.ifCond .ne 12, 3) := by decide +kernel
theorem dX7_clashOf_106 : decode cX7_clashOf 106 = .ok (.aload_n 0, 1) := by decide +kernel
theorem dX7_clashOf_107 : decode cX7_clashOf 107 = .ok (.iload_n 1, 1) := by decide +kernel
theorem dX7_clashOf_108 : decode cX7_clashOf 108 = .ok (.iload_n 2, 1) := by decide +kernel
theorem dX7_clashOf_109 : decode cX7_clashOf 109 = .ok (.invokevirtual 130, 3) := by decide +kernel
theorem dX7_clashOf_112 : decode cX7_clashOf 112 = .ok (.goto 22, 3) := by decide +kernel
theorem dX7_clashOf_115 : decode cX7_clashOf 115 = .ok (.iload_n 3, 1) := by decide +kernel
theorem dX7_clashOf_116 : decode cX7_clashOf 116 = .ok (.aload_n 0, 1) := by decide +kernel
theorem dX7_clashOf_117 : decode cX7_clashOf 117 = .ok (.aload_n 0, 1) := by decide +kernel
theorem dX7_clashOf_118 : decode cX7_clashOf 118 = .ok (.iload_n 1, 1) := by decide +kernel
theorem dX7_clashOf_119 : decode cX7_clashOf 119 = .ok (.iconst 5, 1) := by decide +kernel
theorem dX7_clashOf_120 : decode cX7_clashOf 120 = .ok (.invokevirtual 110, 3) := by decide +kernel
theorem dX7_clashOf_123 : decode cX7_clashOf 123 = .ok (.invokevirtual 133, 3) := by decide +kernel
theorem dX7_clashOf_126 : decode cX7_clashOf 126 = .ok (.if_icmp .le 7, 3) := by decide +kernel
theorem dX7_clashOf_129 : decode cX7_clashOf 129 = .ok (.iconst 2, 1) := by decide +kernel
theorem dX7_clashOf_130 : decode cX7_clashOf 130 = .ok (.goto 4, 3) := by decide +kernel
theorem dX7_clashOf_133 : decode cX7_clashOf 133 = .ok (.iconst (-1), 1) := by decide +kernel
theorem dX7_clashOf_134 : decode cX7_clashOf 134 = .ok (.ireturn, 1) := by decide +kernel
theorem dX7_clashOf_135 : decode cX7_clashOf 135 = .ok (.aload_n 0, 1) := by decide +kernel
theorem dX7_clashOf_136 : decode cX7_clashOf 136 = .ok (.iload_n 1, 1) := by decide +kernel
theorem dX7_clashOf_137 : decode cX7_clashOf 137 = .ok (.iconst 1, 1) := by decide +kernel
theorem dX7_clashOf_138 : decode cX7_clashOf 138 = .ok (.invokevirtual 110, 3) := by decide +kernel
theorem dX7_clashOf_141 : decode cX7_clashOf 141 = .ok (.aload_n 0, 1) := by decide +kernel
theorem dX7_clashOf_142 : decode cX7_clashOf 142 = .ok (.iload_n 2, 1) := by decide +kernel
theorem dX7_clashOf_143 : decode cX7_clashOf 143 = .ok (.iconst 1, 1) := by decide +kernel
theorem dX7_clashOf_144 : decode cX7_clashOf 144 = .ok (.invokevirtual 110, 3) := by decide +kernel
theorem dX7_clashOf_147 : decode cX7_clashOf 147 = .ok (.if_icmp .ge 7, 3) := by decide +kernel
theorem dX7_clashOf_150 : decode cX7_clashOf 150 = .ok (.iload_n 1, 1) := by decide +kernel
theorem dX7_clashOf_151 : decode cX7_clashOf 151 = .ok (.goto 4, 3) := by decide +kernel
theorem dX7_clashOf_154 : decode cX7_clashOf 154 = .ok (.iload_n 2, 1) := by decide +kernel
theorem dX7_clashOf_155 : decode cX7_clashOf 155 = .ok (.istore 6, 2) := by decide +kernel
theorem dX7_clashOf_157 : decode cX7_clashOf 157 = .ok (.aload_n 0, 1) := by decide +kernel
theorem dX7_clashOf_158 : decode cX7_clashOf 158 = .ok (.iload_n 1, 1) := by decide +kernel
theorem dX7_clashOf_159 : decode cX7_clashOf 159 = .ok (.iload_n 2, 1) := by decide +kernel
theorem dX7_clashOf_160 : decode cX7_clashOf 160 = .ok (.iadd, 1) := by decide +kernel
theorem dX7_clashOf_161 : decode cX7_clashOf 161 = .ok (.iload 6, 2) := by decide +kernel
theorem dX7_clashOf_163 : decode cX7_clashOf 163 = .ok (.isub, 1) := by decide +kernel
theorem dX7_clashOf_164 : decode cX7_clashOf 164 = .ok (.iconst 1, 1) := by decide +kernel
theorem dX7_clashOf_165 : decode cX7_clashOf 165 = .ok (.invokevirtual 110, 3) := by decide +kernel
theorem dX7_clashOf_168 : decode cX7_clashOf 168 = .ok (.aload_n 0, 1) := by decide +kernel
theorem dX7_clashOf_169 : decode cX7_clashOf 169 = .ok (.iload 6, 2) := by decide +kernel
theorem dX7_clashOf_171 : decode cX7_clashOf 171 = .ok (.invokevirtual 114, 3) := by decide +kernel
theorem dX7_clashOf_174 : decode cX7_clashOf 174 = .ok (.isub, 1) := by decide +kernel
theorem dX7_clashOf_175 : decode cX7_clashOf 175 = .ok (.istore 7, 2) := by decide +kernel
theorem dX7_clashOf_177 : decode cX7_clashOf 177 = .ok (.iload 5, 2) := by decide +kernel
theorem dX7_clashOf_179 : decode cX7_clashOf 179 = .ok (.ifCond .eq 24, 3) := by decide +kernel
theorem dX7_clashOf_182 : decode cX7_clashOf 182 = .ok (.iload_n 3, 1) := by decide +kernel
theorem dX7_clashOf_183 : decode cX7_clashOf 183 = .ok (.aload_n 0, 1) := by decide +kernel
theorem dX7_clashOf_184 : decode cX7_clashOf 184 = .ok (.aload_n 0, 1) := by decide +kernel
theorem dX7_clashOf_185 : decode cX7_clashOf 185 = .ok (.iload_n 1, 1) := by decide +kernel
theorem dX7_clashOf_186 : decode cX7_clashOf 186 = .ok (.iconst 5, 1) := by decide +kernel
theorem dX7_clashOf_187 : decode cX7_clashOf 187 = .ok (.invokevirtual 110, 3) := by decide +kernel
theorem dX7_clashOf_190 : decode cX7_clashOf 190 = .ok (.invokevirtual 136, 3) := by decide +kernel
theorem dX7_clashOf_193 : decode cX7_clashOf 193 = .ok (.iload 7, 2) := by decide +kernel
theorem dX7_clashOf_195 : decode cX7_clashOf 195 = .ok (.imul, 1) := by decide +kernel
theorem dX7_clashOf_196 : decode cX7_clashOf 196 = .ok (.if_icmp .le 7, 3) := by decide +kernel
theorem dX7_clashOf_199 : decode cX7_clashOf 199 = .ok (.iconst 5, 1) := by decide +kernel
theorem dX7_clashOf_200 : decode cX7_clashOf 200 = .ok (.goto 4, 3) := by decide +kernel
theorem dX7_clashOf_203 : decode cX7_clashOf 203 = .ok (.iconst (-1), 1) := by decide +kernel
theorem dX7_clashOf_204 : decode cX7_clashOf 204 = .ok (.ireturn, 1) := by decide +kernel
theorem dX7_clashesNow_0 : decode cX7_clashesNow 0 = .ok (.iconst 0, 1) := by decide +kernel
theorem dX7_clashesNow_1 : decode cX7_clashesNow 1 = .ok (.istore_n 1, 1) := by decide +kernel
theorem dX7_clashesNow_2 : decode cX7_clashesNow 2 = .ok (.iconst 0, 1) := by decide +kernel
theorem dX7_clashesNow_3 : decode cX7_clashesNow 3 = .ok (.istore_n 2, 1) := by decide +kernel
theorem dX7_clashesNow_4 : decode cX7_clashesNow 4 = .ok (.iload_n 2, 1) := by decide +kernel
theorem dX7_clashesNow_5 : decode cX7_clashesNow 5 = .ok (.aload_n 0, 1) := by decide +kernel
theorem dX7_clashesNow_6 : decode cX7_clashesNow 6 = .ok (.invokevirtual 64, 3) := by decide +kernel
theorem dX7_clashesNow_9 : decode cX7_clashesNow 9 = .ok (.if_icmp .ge 45, 3) := by decide +kernel
theorem dX7_clashesNow_12 : decode cX7_clashesNow 12 = .ok (.iload_n 2, 1) := by decide +kernel
theorem dX7_clashesNow_13 : decode cX7_clashesNow 13 = .ok (.iconst 1, 1) := by decide +kernel
theorem dX7_clashesNow_14 : decode cX7_clashesNow 14 = .ok (.iadd, 1) := by decide +kernel
theorem dX7_clashesNow_15 : decode cX7_clashesNow 15 = .ok (.istore_n 3, 1) := by decide +kernel
theorem dX7_clashesNow_16 : decode cX7_clashesNow 16 = .ok (.iload_n 3, 1) := by decide +kernel
theorem dX7_clashesNow_17 : decode cX7_clashesNow 17 = .ok (.aload_n 0, 1) := by decide +kernel
theorem dX7_clashesNow_18 : decode cX7_clashesNow 18 = .ok (.invokevirtual 64, 3) := by decide +kernel
theorem dX7_clashesNow_21 : decode cX7_clashesNow 21 = .ok (.if_icmp .ge 27, 3) := by decide +kernel
theorem dX7_clashesNow_24 : decode cX7_clashesNow 24 = .ok (.iload_n 1, 1) := by decide +kernel
theorem dX7_clashesNow_25 : decode cX7_clashesNow 25 = .ok (.aload_n 0, 1) := by decide +kernel
theorem dX7_clashesNow_26 : decode cX7_clashesNow 26 = .ok (.iload_n 2, 1) := by decide +kernel
theorem dX7_clashesNow_27 : decode cX7_clashesNow 27 = .ok (.iload_n 3, 1) := by decide +kernel
theorem dX7_clashesNow_28 : decode cX7_clashesNow 28 = .ok (.invokevirtual 139, 3) := by decide +kernel
theorem dX7_clashesNow_31 : decode cX7_clashesNow 31 = .ok (.iconst (-1), 1) := by decide +kernel
theorem dX7_clashesNow_32 : decode cX7_clashesNow 32 = .ok (.if_icmp .ne 7, 3) := by decide +kernel
theorem dX7_clashesNow_35 : decode cX7_clashesNow 35 = .ok (.iconst 0, 1) := by decide +kernel
theorem dX7_clashesNow_36 : decode cX7_clashesNow 36 = .ok (.goto 4, 3) := by decide +kernel
theorem dX7_clashesNow_39 : decode cX7_clashesNow 39 = .ok (.iconst 1, 1) := by decide +kernel
theorem dX7_clashesNow_40 : decode cX7_clashesNow 40 = .ok (.iadd, 1) := by decide +kernel
theorem dX7_clashesNow_41 : decode cX7_clashesNow 41 = .ok (.istore_n 1, 1) := by decide +kernel
theorem dX7_clashesNow_42 : decode cX7_clashesNow 42 = .ok (.iinc 3 1, 3) := by decide +kernel
theorem dX7_clashesNow_45 : decode cX7_clashesNow 45 = .ok (.goto (-29), 3) := by decide +kernel
theorem dX7_clashesNow_48 : decode cX7_clashesNow 48 = .ok (.iinc 2 1, 3) := by decide +kernel
theorem dX7_clashesNow_51 : decode cX7_clashesNow 51 = .ok (.goto (-47), 3) := by decide +kernel
theorem dX7_clashesNow_54 : decode cX7_clashesNow 54 = .ok (.iload_n 1, 1) := by decide +kernel
theorem dX7_clashesNow_55 : decode cX7_clashesNow 55 = .ok (.ireturn, 1) := by decide +kernel
theorem dX7_keep_0 : decode cX7_keep 0 = .ok (.aload_n 0, 1) := by decide +kernel
theorem dX7_keep_1 : decode cX7_keep 1 = .ok (.getfield 7, 3) := by decide +kernel
theorem dX7_keep_4 : decode cX7_keep 4 = .ok (.bipush 100, 2) := by decide +kernel
theorem dX7_keep_6 : decode cX7_keep 6 = .ok (.iaload, 1) := by decide +kernel
theorem dX7_keep_7 : decode cX7_keep 7 = .ok (.bipush 10, 2) := by decide +kernel
theorem dX7_keep_9 : decode cX7_keep 9 = .ok (.if_icmp .ne 44, 3) := by decide +kernel
theorem dX7_keep_12 : decode cX7_keep 12 = .ok (.iconst 0, 1) := by decide +kernel
theorem dX7_keep_13 : decode cX7_keep 13 = .ok (.istore_n 1, 1) := by decide +kernel
theorem dX7_keep_14 : decode cX7_keep 14 = .ok (.iload_n 1, 1) := by decide +kernel
theorem dX7_keep_15 : decode cX7_keep 15 = .ok (.bipush 108, 2) := by decide +kernel
theorem dX7_keep_17 : decode cX7_keep 17 = .ok (.if_icmp .ge 27, 3) := by decide +kernel
theorem dX7_keep_20 : decode cX7_keep 20 = .ok (.aload_n 0, 1) := by decide +kernel
theorem dX7_keep_21 : decode cX7_keep 21 = .ok (.getfield 7, 3) := by decide +kernel
theorem dX7_keep_24 : decode cX7_keep 24 = .ok (.bipush 101, 2) := by decide +kernel
theorem dX7_keep_26 : decode cX7_keep 26 = .ok (.iload_n 1, 1) := by decide +kernel
theorem dX7_keep_27 : decode cX7_keep 27 = .ok (.iadd, 1) := by decide +kernel
theorem dX7_keep_28 : decode cX7_keep 28 = .ok (.aload_n 0, 1) := by decide +kernel
theorem dX7_keep_29 : decode cX7_keep 29 = .ok (.getfield 7, 3) := by decide +kernel
theorem dX7_keep_32 : decode cX7_keep 32 = .ok (.bipush 113, 2) := by decide +kernel
theorem dX7_keep_34 : decode cX7_keep 34 = .ok (.iload_n 1, 1) := by decide +kernel
theorem dX7_keep_35 : decode cX7_keep 35 = .ok (.iadd, 1) := by decide +kernel
theorem dX7_keep_36 : decode cX7_keep 36 = .ok (.iaload, 1) := by decide +kernel
theorem dX7_keep_37 : decode cX7_keep 37 = .ok (.iastore, 1) := by decide +kernel
theorem dX7_keep_38 : decode cX7_keep 38 = .ok (.iinc 1 1, 3) := by decide +kernel
theorem dX7_keep_41 : decode cX7_keep 41 = .ok (.goto (-27), 3) := by decide +kernel
theorem dX7_keep_44 : decode cX7_keep 44 = .ok (.aload_n 0, 1) := by decide +kernel
theorem dX7_keep_45 : decode cX7_keep 45 = .ok (.getfield 7, 3) := by decide +kernel
theorem dX7_keep_48 : decode cX7_keep 48 = .ok (.bipush 100, 2) := by decide +kernel
theorem dX7_keep_50 : decode cX7_keep 50 = .ok (.bipush 9, 2) := by decide +kernel
theorem dX7_keep_52 : decode cX7_keep 52 = .ok (.iastore, 1) := by decide +kernel
theorem dX7_keep_53 : decode cX7_keep 53 = .ok (.iconst 0, 1) := by decide +kernel
theorem dX7_keep_54 : decode cX7_keep 54 = .ok (.istore_n 1, 1) := by decide +kernel
theorem dX7_keep_55 : decode cX7_keep 55 = .ok (.iload_n 1, 1) := by decide +kernel
theorem dX7_keep_56 : decode cX7_keep 56 = .ok (.bipush 12, 2) := by decide +kernel
theorem dX7_keep_58 : decode cX7_keep 58 = .ok (.if_icmp .ge 35, 3) := by decide +kernel
theorem dX7_keep_61 : decode cX7_keep 61 = .ok (.aload_n 0, 1) := by decide +kernel
theorem dX7_keep_62 : decode cX7_keep 62 = .ok (.getfield 7, 3) := by decide +kernel
theorem dX7_keep_65 : decode cX7_keep 65 = .ok (.bipush 101, 2) := by decide +kernel
theorem dX7_keep_67 : decode cX7_keep 67 = .ok (.bipush 12, 2) := by decide +kernel
theorem dX7_keep_69 : decode cX7_keep 69 = .ok (.aload_n 0, 1) := by decide +kernel
theorem dX7_keep_70 : decode cX7_keep 70 = .ok (.getfield 7, 3) := by decide +kernel
theorem dX7_keep_73 : decode cX7_keep 73 = .ok (.bipush 100, 2) := by decide +kernel
theorem dX7_keep_75 : decode cX7_keep 75 = .ok (.iaload, 1) := by decide +kernel
theorem dX7_keep_76 : decode cX7_keep 76 = .ok (.imul, 1) := by decide +kernel
theorem dX7_keep_77 : decode cX7_keep 77 = .ok (.iadd, 1) := by decide +kernel
theorem dX7_keep_78 : decode cX7_keep 78 = .ok (.iload_n 1, 1) := by decide +kernel
theorem dX7_keep_79 : decode cX7_keep 79 = .ok (.iadd, 1) := by decide +kernel
theorem dX7_keep_80 : decode cX7_keep 80 = .ok (.aload_n 0, 1) := by decide +kernel
theorem dX7_keep_81 : decode cX7_keep 81 = .ok (.iload_n 1, 1) := by decide +kernel
theorem dX7_keep_82 : decode cX7_keep 82 = .ok (.iconst 5, 1) := by decide +kernel
theorem dX7_keep_83 : decode cX7_keep 83 = .ok (.invokevirtual 110, 3) := by decide +kernel
theorem dX7_keep_86 : decode cX7_keep 86 = .ok (.iastore, 1) := by decide +kernel
theorem dX7_keep_87 : decode cX7_keep 87 = .ok (.iinc 1 1, 3) := by decide +kernel
theorem dX7_keep_90 : decode cX7_keep 90 = .ok (.goto (-35), 3) := by decide +kernel
theorem dX7_keep_93 : decode cX7_keep 93 = .ok (.aload_n 0, 1) := by decide +kernel
theorem dX7_keep_94 : decode cX7_keep 94 = .ok (.getfield 7, 3) := by decide +kernel
theorem dX7_keep_97 : decode cX7_keep 97 = .ok (.bipush 100, 2) := by decide +kernel
theorem dX7_keep_99 : decode cX7_keep 99 = .ok (.dup2, 1) := by decide +kernel
theorem dX7_keep_100 : decode cX7_keep 100 = .ok (.iaload, 1) := by decide +kernel
theorem dX7_keep_101 : decode cX7_keep 101 = .ok (.iconst 1, 1) := by decide +kernel
theorem dX7_keep_102 : decode cX7_keep 102 = .ok (.iadd, 1) := by decide +kernel
theorem dX7_keep_103 : decode cX7_keep 103 = .ok (.iastore, 1) := by decide +kernel
theorem dX7_keep_104 : decode cX7_keep 104 = .ok (.return_, 1) := by decide +kernel
theorem dX7_give_0 : decode cX7_give 0 = .ok (.aload_n 0, 1) := by decide +kernel
theorem dX7_give_1 : decode cX7_give 1 = .ok (.iload_n 1, 1) := by decide +kernel
theorem dX7_give_2 : decode cX7_give 2 = .ok (.invokevirtual 142, 3) := by decide +kernel
theorem dX7_give_5 : decode cX7_give 5 = .ok (.ifCond .eq 17, 3) := by decide +kernel
theorem dX7_give_8 : decode cX7_give 8 = .ok (.iload_n 2, 1) := by decide +kernel
theorem dX7_give_9 : decode cX7_give 9 = .ok (.i2l, 1) := by decide +kernel
theorem dX7_give_10 : decode cX7_give 10 = .ok (.ldc2_w 98, 3) := by decide +kernel
theorem dX7_give_13 : decode cX7_give 13 = .ok (.ldc2_w 72, 3) := by decide +kernel
theorem dX7_give_16 : decode cX7_give 16 = .ok (.invokestatic 68, 3) := by decide +kernel
theorem dX7_give_19 : decode cX7_give 19 = .ok (.ifCond .ne 10, 3) := by decide +kernel
theorem dX7_give_22 : decode cX7_give 22 = .ok (.aload_n 0, 1) := by decide +kernel
theorem dX7_give_23 : decode cX7_give 23 = .ok (.bipush (-2), 2) := by decide +kernel
theorem dX7_give_25 : decode cX7_give 25 = .ok (.invokevirtual 76, 3) := by decide +kernel
theorem dX7_give_28 : decode cX7_give 28 = .ok (.ireturn, 1) := by decide +kernel
theorem dX7_give_29 : decode cX7_give 29 = .ok (.aload_n 0, 1) := by decide +kernel
theorem dX7_give_30 : decode cX7_give 30 = .ok (.invokevirtual 145, 3) := by decide +kernel
theorem dX7_give_33 : decode cX7_give 33 = .ok (.aload_n 0, 1) := by decide +kernel
theorem dX7_give_34 : decode cX7_give 34 = .ok (.iload_n 1, 1) := by decide +kernel
theorem dX7_give_35 : decode cX7_give 35 = .ok (.iload_n 2, 1) := by decide +kernel
theorem dX7_give_36 : decode cX7_give 36 = .ok (.invokevirtual 148, 3) := by decide +kernel
theorem dX7_give_39 : decode cX7_give 39 = .ok (.aload_n 0, 1) := by decide +kernel
theorem dX7_give_40 : decode cX7_give 40 = .ok (.invokevirtual 152, 3) := by decide +kernel
theorem dX7_give_43 : decode cX7_give 43 = .ok (.ireturn, 1) := by decide +kernel
theorem dX7_undo_0 : decode cX7_undo 0 = .ok (.aload_n 0, 1) := by decide +kernel
theorem dX7_undo_1 : decode cX7_undo 1 = .ok (.getfield 7, 3) := by decide +kernel
theorem dX7_undo_4 : decode cX7_undo 4 = .ok (.bipush 100, 2) := by decide +kernel
theorem dX7_undo_6 : decode cX7_undo 6 = .ok (.iaload, 1) := by decide +kernel
theorem dX7_undo_7 : decode cX7_undo 7 = .ok (.ifCond .ne 10, 3) := by decide +kernel
theorem dX7_undo_10 : decode cX7_undo 10 = .ok (.aload_n 0, 1) := by decide +kernel
theorem dX7_undo_11 : decode cX7_undo 11 = .ok (.bipush (-3), 2) := by decide +kernel
theorem dX7_undo_13 : decode cX7_undo 13 = .ok (.invokevirtual 155, 3) := by decide +kernel
theorem dX7_undo_16 : decode cX7_undo 16 = .ok (.ireturn, 1) := by decide +kernel
theorem dX7_undo_17 : decode cX7_undo 17 = .ok (.aload_n 0, 1) := by decide +kernel
theorem dX7_undo_18 : decode cX7_undo 18 = .ok (.getfield 7, 3) := by decide +kernel
theorem dX7_undo_21 : decode cX7_undo 21 = .ok (.bipush 100, 2) := by decide +kernel
theorem dX7_undo_23 : decode cX7_undo 23 = .ok (.dup2, 1) := by decide +kernel
theorem dX7_undo_24 : decode cX7_undo 24 = .ok (.iaload, 1) := by decide +kernel
theorem dX7_undo_25 : decode cX7_undo 25 = .ok (.iconst 1, 1) := by decide +kernel
theorem dX7_undo_26 : decode cX7_undo 26 = .ok (.isub, 1) := by decide +kernel
theorem dX7_undo_27 : decode cX7_undo 27 = .ok (.iastore, 1) := by decide +kernel
theorem dX7_undo_28 : decode cX7_undo 28 = .ok (.iconst 0, 1) := by decide +kernel
theorem dX7_undo_29 : decode cX7_undo 29 = .ok (.istore_n 1, 1) := by decide +kernel
theorem dX7_undo_30 : decode cX7_undo 30 = .ok (.iload_n 1, 1) := by decide +kernel
theorem dX7_undo_31 : decode cX7_undo 31 = .ok (.aload_n 0, 1) := by decide +kernel
theorem dX7_undo_32 : decode cX7_undo 32 = .ok (.invokevirtual 64, 3) := by decide +kernel
theorem dX7_undo_35 : decode cX7_undo 35 = .ok (.if_icmp .ge 34, 3) := by decide +kernel
theorem dX7_undo_38 : decode cX7_undo 38 = .ok (.aload_n 0, 1) := by decide +kernel
theorem dX7_undo_39 : decode cX7_undo 39 = .ok (.iload_n 1, 1) := by decide +kernel
theorem dX7_undo_40 : decode cX7_undo 40 = .ok (.aload_n 0, 1) := by decide +kernel
theorem dX7_undo_41 : decode cX7_undo 41 = .ok (.getfield 7, 3) := by decide +kernel
theorem dX7_undo_44 : decode cX7_undo 44 = .ok (.bipush 101, 2) := by decide +kernel
theorem dX7_undo_46 : decode cX7_undo 46 = .ok (.bipush 12, 2) := by decide +kernel
theorem dX7_undo_48 : decode cX7_undo 48 = .ok (.aload_n 0, 1) := by decide +kernel
theorem dX7_undo_49 : decode cX7_undo 49 = .ok (.getfield 7, 3) := by decide +kernel
theorem dX7_undo_52 : decode cX7_undo 52 = .ok (.bipush 100, 2) := by decide +kernel
theorem dX7_undo_54 : decode cX7_undo 54 = .ok (.iaload, 1) := by decide +kernel
theorem dX7_undo_55 : decode cX7_undo 55 = .ok (.imul, 1) := by decide +kernel
theorem dX7_undo_56 : decode cX7_undo 56 = .ok (.iadd, 1) := by decide +kernel
theorem dX7_undo_57 : decode cX7_undo 57 = .ok (.iload_n 1, 1) := by decide +kernel
theorem dX7_undo_58 : decode cX7_undo 58 = .ok (.iadd, 1) := by decide +kernel
theorem dX7_undo_59 : decode cX7_undo 59 = .ok (.iaload, 1) := by decide +kernel
theorem dX7_undo_60 : decode cX7_undo 60 = .ok (.invokevirtual 148, 3) := by decide +kernel
theorem dX7_undo_63 : decode cX7_undo 63 = .ok (.iinc 1 1, 3) := by decide +kernel
theorem dX7_undo_66 : decode cX7_undo 66 = .ok (.goto (-36), 3) := by decide +kernel
theorem dX7_undo_69 : decode cX7_undo 69 = .ok (.aload_n 0, 1) := by decide +kernel
theorem dX7_undo_70 : decode cX7_undo 70 = .ok (.invokevirtual 152, 3) := by decide +kernel
theorem dX7_undo_73 : decode cX7_undo 73 = .ok (.ireturn, 1) := by decide +kernel
theorem dX7_of_0 : decode cX7_of 0 = .ok (.aload_n 0, 1) := by decide +kernel
theorem dX7_of_1 : decode cX7_of 1 = .ok (.iload_n 1, 1) := by decide +kernel
theorem dX7_of_2 : decode cX7_of 2 = .ok (.invokevirtual 142, 3) := by decide +kernel
theorem dX7_of_5 : decode cX7_of 5 = .ok (.ifCond .eq 24, 3) := by decide +kernel
theorem dX7_of_8 : decode cX7_of 8 = .ok (.iload_n 2, 1) := by decide +kernel
theorem dX7_of_9 : decode cX7_of 9 = .ok (.i2l, 1) := by decide +kernel
theorem dX7_of_10 : decode cX7_of 10 = .ok (.lconst 0, 1) := by decide +kernel
theorem dX7_of_11 : decode cX7_of 11 = .ok (.ldc2_w 84, 3) := by decide +kernel
theorem dX7_of_14 : decode cX7_of 14 = .ok (.invokestatic 68, 3) := by decide +kernel
theorem dX7_of_17 : decode cX7_of 17 = .ok (.ifCond .eq 12, 3) := by decide +kernel
theorem dX7_of_20 : decode cX7_of 20 = .ok (.aload_n 0, 1) := by decide +kernel
theorem dX7_of_21 : decode cX7_of 21 = .ok (.iload_n 1, 1) := by decide +kernel
theorem dX7_of_22 : decode cX7_of 22 = .ok (.iload_n 2, 1) := by decide +kernel
theorem dX7_of_23 : decode cX7_of 23 = .ok (.invokevirtual 110, 3) := by decide +kernel
theorem dX7_of_26 : decode cX7_of 26 = .ok (.goto 9, 3) := by decide +kernel
theorem dX7_of_29 : decode cX7_of 29 = .ok (.aload_n 0, 1) := by decide +kernel
theorem dX7_of_30 : decode cX7_of 30 = .ok (.bipush (-10), 2) := by decide +kernel
theorem dX7_of_32 : decode cX7_of 32 = .ok (.invokevirtual 76, 3) := by decide +kernel
theorem dX7_of_35 : decode cX7_of 35 = .ok (.ireturn, 1) := by decide +kernel
theorem dX7_notesOf_0 : decode cX7_notesOf 0 = .ok (.iconst 0, 1) := by decide +kernel
theorem dX7_notesOf_1 : decode cX7_notesOf 1 = .ok (.istore_n 2, 1) := by decide +kernel
theorem dX7_notesOf_2 : decode cX7_notesOf 2 = .ok (.iconst 0, 1) := by decide +kernel
theorem dX7_notesOf_3 : decode cX7_notesOf 3 = .ok (.istore_n 3, 1) := by decide +kernel
theorem dX7_notesOf_4 : decode cX7_notesOf 4 = .ok (.iload_n 3, 1) := by decide +kernel
theorem dX7_notesOf_5 : decode cX7_notesOf 5 = .ok (.aload_n 0, 1) := by decide +kernel
theorem dX7_notesOf_6 : decode cX7_notesOf 6 = .ok (.invokevirtual 64, 3) := by decide +kernel
theorem dX7_notesOf_9 : decode cX7_notesOf 9 = .ok (.if_icmp .ge 29, 3) := by decide +kernel
theorem dX7_notesOf_12 : decode cX7_notesOf 12 = .ok (.iload_n 2, 1) := by decide +kernel
theorem dX7_notesOf_13 : decode cX7_notesOf 13 = .ok (.aload_n 0, 1) := by decide +kernel
theorem dX7_notesOf_14 : decode cX7_notesOf 14 = .ok (.iload_n 3, 1) := by decide +kernel
theorem dX7_notesOf_15 : decode cX7_notesOf 15 = .ok (.iconst 5, 1) := by decide +kernel
theorem dX7_notesOf_16 : decode cX7_notesOf 16 = .ok (.invokevirtual 110, 3) := by decide +kernel
theorem dX7_notesOf_19 : decode cX7_notesOf 19 = .ok (.iload_n 1, 1) := by decide +kernel
theorem dX7_notesOf_20 : decode cX7_notesOf 20 = .ok (.if_icmp .ne 9, 3) := by decide +kernel
theorem dX7_notesOf_23 : decode cX7_notesOf 23 = .ok (.iconst 1, 1) := by decide +kernel
theorem dX7_notesOf_24 : decode cX7_notesOf 24 = .ok (.iload_n 3, 1) := by decide +kernel
theorem dX7_notesOf_25 : decode cX7_notesOf 25 = .ok (.ishl, 1) := by decide +kernel
theorem dX7_notesOf_26 : decode cX7_notesOf 26 = .ok (.goto 4, 3) := by decide +kernel
theorem dX7_notesOf_29 : decode cX7_notesOf 29 = .ok (.iconst 0, 1) := by decide +kernel
theorem dX7_notesOf_30 : decode cX7_notesOf 30 = .ok (.ior, 1) := by decide +kernel
theorem dX7_notesOf_31 : decode cX7_notesOf 31 = .ok (.istore_n 2, 1) := by decide +kernel
theorem dX7_notesOf_32 : decode cX7_notesOf 32 = .ok (.iinc 3 1, 3) := by decide +kernel
theorem dX7_notesOf_35 : decode cX7_notesOf 35 = .ok (.goto (-31), 3) := by decide +kernel
theorem dX7_notesOf_38 : decode cX7_notesOf 38 = .ok (.iload_n 2, 1) := by decide +kernel
theorem dX7_notesOf_39 : decode cX7_notesOf 39 = .ok (.ireturn, 1) := by decide +kernel
theorem dX7_about_0 : decode cX7_about 0 = .ok (.iload_n 1, 1) := by decide +kernel
theorem dX7_about_1 : decode cX7_about 1 = .ok (.invokestatic 80, 3) := by decide +kernel
theorem dX7_about_4 : decode cX7_about 4 = .ok (.ifCond .eq 15, 3) := by decide +kernel
theorem dX7_about_7 : decode cX7_about 7 = .ok (.iload_n 2, 1) := by decide +kernel
theorem dX7_about_8 : decode cX7_about 8 = .ok (.i2l, 1) := by decide +kernel
theorem dX7_about_9 : decode cX7_about 9 = .ok (.lconst 0, 1) := by decide +kernel
theorem dX7_about_10 : decode cX7_about 10 = .ok (.ldc2_w 158, 3) := by decide +kernel
theorem dX7_about_13 : decode cX7_about 13 = .ok (.invokestatic 68, 3) := by decide +kernel
theorem dX7_about_16 : decode cX7_about 16 = .ok (.ifCond .ne 10, 3) := by decide +kernel
theorem dX7_about_19 : decode cX7_about 19 = .ok (.aload_n 0, 1) := by decide +kernel
theorem dX7_about_20 : decode cX7_about 20 = .ok (.bipush (-2), 2) := by decide +kernel
theorem dX7_about_22 : decode cX7_about 22 = .ok (.invokevirtual 76, 3) := by decide +kernel
theorem dX7_about_25 : decode cX7_about 25 = .ok (.ireturn, 1) := by decide +kernel
theorem dX7_about_26 : decode cX7_about 26 = .ok (.iload_n 2, 1) := by decide +kernel
theorem dX7_about_27 : decode cX7_about 27 = .ok (.tableswitch 53 0 3 #[29, 35, 41, 47], 29) := by decide +kernel
theorem dX7_about_56 : decode cX7_about 56 = .ok (.aload_n 0, 1) := by decide +kernel
theorem dX7_about_57 : decode cX7_about 57 = .ok (.iload_n 1, 1) := by decide +kernel
theorem dX7_about_58 : decode cX7_about 58 = .ok (.invokevirtual 107, 3) := by decide +kernel
theorem dX7_about_61 : decode cX7_about 61 = .ok (.ireturn, 1) := by decide +kernel
theorem dX7_about_62 : decode cX7_about 62 = .ok (.aload_n 0, 1) := by decide +kernel
theorem dX7_about_63 : decode cX7_about 63 = .ok (.iload_n 1, 1) := by decide +kernel
theorem dX7_about_64 : decode cX7_about 64 = .ok (.invokevirtual 133, 3) := by decide +kernel
theorem dX7_about_67 : decode cX7_about 67 = .ok (.ireturn, 1) := by decide +kernel
theorem dX7_about_68 : decode cX7_about 68 = .ok (.aload_n 0, 1) := by decide +kernel
theorem dX7_about_69 : decode cX7_about 69 = .ok (.iload_n 1, 1) := by decide +kernel
theorem dX7_about_70 : decode cX7_about 70 = .ok (.invokevirtual 136, 3) := by decide +kernel
theorem dX7_about_73 : decode cX7_about 73 = .ok (.ireturn, 1) := by decide +kernel
theorem dX7_about_74 : decode cX7_about 74 = .ok (.aload_n 0, 1) := by decide +kernel
theorem dX7_about_75 : decode cX7_about 75 = .ok (.iload_n 1, 1) := by decide +kernel
theorem dX7_about_76 : decode cX7_about 76 = .ok (.invokevirtual 117, 3) := by decide +kernel
theorem dX7_about_79 : decode cX7_about 79 = .ok (.ireturn, 1) := by decide +kernel
theorem dX7_about_80 : decode cX7_about 80 = .ok (.aload_n 0, 1) := by decide +kernel
theorem dX7_about_81 : decode cX7_about 81 = .ok (.iload_n 1, 1) := by decide +kernel
theorem dX7_about_82 : decode cX7_about 82 = .ok (.invokevirtual 160, 3) := by decide +kernel
theorem dX7_about_85 : decode cX7_about 85 = .ok (.ireturn, 1) := by decide +kernel
theorem dX7_clash_0 : decode cX7_clash 0 = .ok (.aload_n 0, 1) := by decide +kernel
theorem dX7_clash_1 : decode cX7_clash 1 = .ok (.iload_n 1, 1) := by decide +kernel
theorem dX7_clash_2 : decode cX7_clash 2 = .ok (.invokevirtual 142, 3) := by decide +kernel
theorem dX7_clash_5 : decode cX7_clash 5 = .ok (.ifCond .eq 25, 3) := by decide +kernel
theorem dX7_clash_8 : decode cX7_clash 8 = .ok (.aload_n 0, 1) := by decide +kernel
theorem dX7_clash_9 : decode cX7_clash 9 = .ok (.iload_n 2, 1) := by decide +kernel
theorem dX7_clash_10 : decode cX7_clash 10 = .ok (.invokevirtual 142, 3) := by decide +kernel
theorem dX7_clash_13 : decode cX7_clash 13 = .ok (.ifCond .eq 17, 3) := by decide +kernel
theorem dX7_clash_16 : decode cX7_clash 16 = .ok (.iload_n 1, 1) := by decide +kernel
theorem dX7_clash_17 : decode cX7_clash 17 = .ok (.iload_n 2, 1) := by decide +kernel
theorem dX7_clash_18 : decode cX7_clash 18 = .ok (.if_icmp .eq 12, 3) := by decide +kernel
theorem dX7_clash_21 : decode cX7_clash 21 = .ok (.aload_n 0, 1) := by decide +kernel
theorem dX7_clash_22 : decode cX7_clash 22 = .ok (.iload_n 1, 1) := by decide +kernel
theorem dX7_clash_23 : decode cX7_clash 23 = .ok (.iload_n 2, 1) := by decide +kernel
theorem dX7_clash_24 : decode cX7_clash 24 = .ok (.invokevirtual 139, 3) := by decide +kernel
theorem dX7_clash_27 : decode cX7_clash 27 = .ok (.goto 9, 3) := by decide +kernel
theorem dX7_clash_30 : decode cX7_clash 30 = .ok (.aload_n 0, 1) := by decide +kernel
theorem dX7_clash_31 : decode cX7_clash 31 = .ok (.bipush (-2), 2) := by decide +kernel
theorem dX7_clash_33 : decode cX7_clash 33 = .ok (.invokevirtual 76, 3) := by decide +kernel
theorem dX7_clash_36 : decode cX7_clash 36 = .ok (.ireturn, 1) := by decide +kernel
theorem dX7_clashes_0 : decode cX7_clashes 0 = .ok (.iload_n 1, 1) := by decide +kernel
theorem dX7_clashes_1 : decode cX7_clashes 1 = .ok (.i2l, 1) := by decide +kernel
theorem dX7_clashes_2 : decode cX7_clashes 2 = .ok (.ldc2_w 98, 3) := by decide +kernel
theorem dX7_clashes_5 : decode cX7_clashes 5 = .ok (.ldc2_w 84, 3) := by decide +kernel
theorem dX7_clashes_8 : decode cX7_clashes 8 = .ok (.invokestatic 68, 3) := by decide +kernel
theorem dX7_clashes_11 : decode cX7_clashes 11 = .ok (.ifCond .eq 8, 3) := by decide +kernel
theorem dX7_clashes_14 : decode cX7_clashes 14 = .ok (.iload_n 2, 1) := by decide +kernel
theorem dX7_clashes_15 : decode cX7_clashes 15 = .ok (.iconst (-1), 1) := by decide +kernel
theorem dX7_clashes_16 : decode cX7_clashes 16 = .ok (.if_icmp .ge 10, 3) := by decide +kernel
theorem dX7_clashes_19 : decode cX7_clashes 19 = .ok (.aload_n 0, 1) := by decide +kernel
theorem dX7_clashes_20 : decode cX7_clashes 20 = .ok (.bipush (-10), 2) := by decide +kernel
theorem dX7_clashes_22 : decode cX7_clashes 22 = .ok (.invokevirtual 76, 3) := by decide +kernel
theorem dX7_clashes_25 : decode cX7_clashes 25 = .ok (.ireturn, 1) := by decide +kernel
theorem dX7_clashes_26 : decode cX7_clashes 26 = .ok (.iconst 0, 1) := by decide +kernel
theorem dX7_clashes_27 : decode cX7_clashes 27 = .ok (.istore_n 3, 1) := by decide +kernel
theorem dX7_clashes_28 : decode cX7_clashes 28 = .ok (.bipush (-5), 2) := by decide +kernel
theorem dX7_clashes_30 : decode cX7_clashes 30 = .ok (.istore 4, 2) := by decide +kernel
theorem dX7_clashes_32 : decode cX7_clashes 32 = .ok (.iconst 0, 1) := by decide +kernel
theorem dX7_clashes_33 : decode cX7_clashes 33 = .ok (.istore 5, 2) := by decide +kernel
theorem dX7_clashes_35 : decode cX7_clashes 35 = .ok (.iload 5, 2) := by decide +kernel
theorem dX7_clashes_37 : decode cX7_clashes 37 = .ok (.aload_n 0, 1) := by decide +kernel
theorem dX7_clashes_38 : decode cX7_clashes 38 = .ok (.invokevirtual 64, 3) := by decide +kernel
theorem dX7_clashes_41 : decode cX7_clashes 41 = .ok (.if_icmp .ge 80, 3) := by decide +kernel
theorem dX7_clashes_44 : decode cX7_clashes 44 = .ok (.iload 5, 2) := by decide +kernel
theorem dX7_clashes_46 : decode cX7_clashes 46 = .ok (.iconst 1, 1) := by decide +kernel
theorem dX7_clashes_47 : decode cX7_clashes 47 = .ok (.iadd, 1) := by decide +kernel
theorem dX7_clashes_48 : decode cX7_clashes 48 = .ok (.istore 6, 2) := by decide +kernel
theorem dX7_clashes_50 : decode cX7_clashes 50 = .ok (.iload 6, 2) := by decide +kernel
theorem dX7_clashes_52 : decode cX7_clashes 52 = .ok (.aload_n 0, 1) := by decide +kernel
theorem dX7_clashes_53 : decode cX7_clashes 53 = .ok (.invokevirtual 64, 3) := by decide +kernel
theorem dX7_clashes_56 : decode cX7_clashes 56 = .ok (.if_icmp .ge 59, 3) := by decide +kernel
theorem dX7_clashes_59 : decode cX7_clashes 59 = .ok (.aload_n 0, 1) := by decide +kernel
theorem dX7_clashes_60 : decode cX7_clashes 60 = .ok (.iload 5, 2) := by decide +kernel
theorem dX7_clashes_62 : decode cX7_clashes 62 = .ok (.iload 6, 2) := by decide +kernel
theorem dX7_clashes_64 : decode cX7_clashes 64 = .ok (.invokevirtual 139, 3) := by decide +kernel
theorem dX7_clashes_67 : decode cX7_clashes 67 = .ok (.istore 7, 2) := by decide +kernel
theorem dX7_clashes_69 : decode cX7_clashes 69 = .ok (.iload 7, 2) := by decide +kernel
theorem dX7_clashes_71 : decode cX7_clashes 71 = .ok (.iconst (-1), 1) := by decide +kernel
theorem dX7_clashes_72 : decode cX7_clashes 72 = .ok (.if_icmp .eq 37, 3) := by decide +kernel
theorem dX7_clashes_75 : decode cX7_clashes 75 = .ok (.iload_n 1, 1) := by decide +kernel
theorem dX7_clashes_76 : decode cX7_clashes 76 = .ok (.iconst (-1), 1) := by decide +kernel
theorem dX7_clashes_77 : decode cX7_clashes 77 = .ok (.if_icmp .eq 9, 3) := by decide +kernel
theorem dX7_clashes_80 : decode cX7_clashes 80 = .ok (.iload_n 1, 1) := by decide +kernel
theorem dX7_clashes_81 : decode cX7_clashes 81 = .ok (.iload 7, 2) := by decide +kernel
theorem dX7_clashes_83 : decode cX7_clashes 83 = .ok (.if_icmp .ne 26, 3) := by decide +kernel
theorem dX7_clashes_86 : decode cX7_clashes 86 = .ok (.iload_n 3, 1) := by decide +kernel
theorem dX7_clashes_87 : decode cX7_clashes 87 = .ok (.iload_n 2, 1) := by decide +kernel
theorem dX7_clashes_88 : decode cX7_clashes 88 = .ok (.if_icmp .ne 14, 3) := by decide +kernel
theorem dX7_clashes_91 : decode cX7_clashes 91 = .ok (.bipush 100, 2) := by decide +kernel
theorem dX7_clashes_93 : decode cX7_clashes 93 = .ok (.iload 5, 2) := by decide +kernel
theorem dX7_clashes_95 : decode cX7_clashes 95 = .ok (.imul, 1) := by decide +kernel
theorem dX7_clashes_96 : decode cX7_clashes 96 = .ok (.iload 6, 2) := by decide +kernel
theorem dX7_clashes_98 : decode cX7_clashes 98 = .ok (.iadd, 1) := by decide +kernel
theorem dX7_clashes_99 : decode cX7_clashes 99 = .ok (.goto 5, 3) := by decide +kernel
theorem dX7_clashes_102 : decode cX7_clashes 102 = .ok (.iload 4, 2) := by decide +kernel
theorem dX7_clashes_104 : decode cX7_clashes 104 = .ok (.istore 4, 2) := by decide +kernel
theorem dX7_clashes_106 : decode cX7_clashes 106 = .ok (.iinc 3 1, 3) := by decide +kernel
theorem dX7_clashes_109 : decode cX7_clashes 109 = .ok (.iinc 6 1, 3) := by decide +kernel
theorem dX7_clashes_112 : decode cX7_clashes 112 = .ok (.goto (-62), 3) := by decide +kernel
theorem dX7_clashes_115 : decode cX7_clashes 115 = .ok (.iinc 5 1, 3) := by decide +kernel
theorem dX7_clashes_118 : decode cX7_clashes 118 = .ok (.goto (-83), 3) := by decide +kernel
theorem dX7_clashes_121 : decode cX7_clashes 121 = .ok (.iload_n 2, 1) := by decide +kernel
theorem dX7_clashes_122 : decode cX7_clashes 122 = .ok (.iconst (-1), 1) := by decide +kernel
theorem dX7_clashes_123 : decode cX7_clashes 123 = .ok (.if_icmp .ne 7, 3) := by decide +kernel
theorem dX7_clashes_126 : decode cX7_clashes 126 = .ok (.iload_n 3, 1) := by decide +kernel
theorem dX7_clashes_127 : decode cX7_clashes 127 = .ok (.goto 5, 3) := by decide +kernel
theorem dX7_clashes_130 : decode cX7_clashes 130 = .ok (.iload 4, 2) := by decide +kernel
theorem dX7_clashes_132 : decode cX7_clashes 132 = .ok (.ireturn, 1) := by decide +kernel
theorem dX7_weigh_0 : decode cX7_weigh 0 = .ok (.aload_n 0, 1) := by decide +kernel
theorem dX7_weigh_1 : decode cX7_weigh 1 = .ok (.invokevirtual 152, 3) := by decide +kernel
theorem dX7_weigh_4 : decode cX7_weigh 4 = .ok (.istore 4, 2) := by decide +kernel
theorem dX7_weigh_6 : decode cX7_weigh 6 = .ok (.iload 4, 2) := by decide +kernel
theorem dX7_weigh_8 : decode cX7_weigh 8 = .ok (.aload_n 0, 1) := by decide +kernel
theorem dX7_weigh_9 : decode cX7_weigh 9 = .ok (.getfield 163, 3) := by decide +kernel
theorem dX7_weigh_12 : decode cX7_weigh 12 = .ok (.if_icmp .ge 24, 3) := by decide +kernel
theorem dX7_weigh_15 : decode cX7_weigh 15 = .ok (.aload_n 0, 1) := by decide +kernel
theorem dX7_weigh_16 : decode cX7_weigh 16 = .ok (.iload 4, 2) := by decide +kernel
theorem dX7_weigh_18 : decode cX7_weigh 18 = .ok (.putfield 163, 3) := by decide +kernel
theorem dX7_weigh_21 : decode cX7_weigh 21 = .ok (.aload_n 0, 1) := by decide +kernel
theorem dX7_weigh_22 : decode cX7_weigh 22 = .ok (.iload_n 1, 1) := by decide +kernel
theorem dX7_weigh_23 : decode cX7_weigh 23 = .ok (.putfield 167, 3) := by decide +kernel
theorem dX7_weigh_26 : decode cX7_weigh 26 = .ok (.aload_n 0, 1) := by decide +kernel
theorem dX7_weigh_27 : decode cX7_weigh 27 = .ok (.iload_n 2, 1) := by decide +kernel
theorem dX7_weigh_28 : decode cX7_weigh 28 = .ok (.putfield 170, 3) := by decide +kernel
theorem dX7_weigh_31 : decode cX7_weigh 31 = .ok (.aload_n 0, 1) := by decide +kernel
theorem dX7_weigh_32 : decode cX7_weigh 32 = .ok (.iload_n 3, 1) := by decide +kernel
theorem dX7_weigh_33 : decode cX7_weigh 33 = .ok (.putfield 173, 3) := by decide +kernel
theorem dX7_weigh_36 : decode cX7_weigh 36 = .ok (.return_, 1) := by decide +kernel
theorem dX7_tryOne_0 : decode cX7_tryOne 0 = .ok (.iconst 0, 1) := by decide +kernel
theorem dX7_tryOne_1 : decode cX7_tryOne 1 = .ok (.istore_n 2, 1) := by decide +kernel
theorem dX7_tryOne_2 : decode cX7_tryOne 2 = .ok (.iload_n 2, 1) := by decide +kernel
theorem dX7_tryOne_3 : decode cX7_tryOne 3 = .ok (.aload_n 0, 1) := by decide +kernel
theorem dX7_tryOne_4 : decode cX7_tryOne 4 = .ok (.invokevirtual 64, 3) := by decide +kernel
theorem dX7_tryOne_7 : decode cX7_tryOne 7 = .ok (.if_icmp .ge 87, 3) := by decide +kernel
theorem dX7_tryOne_10 : decode cX7_tryOne 10 = .ok (.aload_n 0, 1) := by decide +kernel
theorem dX7_tryOne_11 : decode cX7_tryOne 11 = .ok (.iload_n 2, 1) := by decide +kernel
theorem dX7_tryOne_12 : decode cX7_tryOne 12 = .ok (.iconst 5, 1) := by decide +kernel
theorem dX7_tryOne_13 : decode cX7_tryOne 13 = .ok (.invokevirtual 110, 3) := by decide +kernel
theorem dX7_tryOne_16 : decode cX7_tryOne 16 = .ok (.istore_n 3, 1) := by decide +kernel
theorem dX7_tryOne_17 : decode cX7_tryOne 17 = .ok (.iconst 0, 1) := by decide +kernel
theorem dX7_tryOne_18 : decode cX7_tryOne 18 = .ok (.istore 4, 2) := by decide +kernel
theorem dX7_tryOne_20 : decode cX7_tryOne 20 = .ok (.iload 4, 2) := by decide +kernel
theorem dX7_tryOne_22 : decode cX7_tryOne 22 = .ok (.iconst 4, 1) := by decide +kernel
theorem dX7_tryOne_23 : decode cX7_tryOne 23 = .ok (.if_icmp .ge 59, 3) := by decide +kernel
theorem dX7_tryOne_26 : decode cX7_tryOne 26 = .ok (.iload_n 3, 1) := by decide +kernel
theorem dX7_tryOne_27 : decode cX7_tryOne 27 = .ok (.iconst (-1), 1) := by decide +kernel
theorem dX7_tryOne_28 : decode cX7_tryOne 28 = .ok (.if_icmp .eq 54, 3) := by decide +kernel
theorem dX7_tryOne_31 : decode cX7_tryOne 31 = .ok (.iload 4, 2) := by decide +kernel
theorem dX7_tryOne_33 : decode cX7_tryOne 33 = .ok (.iload_n 3, 1) := by decide +kernel
theorem dX7_tryOne_34 : decode cX7_tryOne 34 = .ok (.if_icmp .eq 42, 3) := by decide +kernel
theorem dX7_tryOne_37 : decode cX7_tryOne 37 = .ok (.aload_n 0, 1) := by decide +kernel
theorem dX7_tryOne_38 : decode cX7_tryOne 38 = .ok (.iload_n 2, 1) := by decide +kernel
theorem dX7_tryOne_39 : decode cX7_tryOne 39 = .ok (.iload 4, 2) := by decide +kernel
theorem dX7_tryOne_41 : decode cX7_tryOne 41 = .ok (.invokevirtual 148, 3) := by decide +kernel
theorem dX7_tryOne_44 : decode cX7_tryOne 44 = .ok (.iload_n 1, 1) := by decide +kernel
theorem dX7_tryOne_45 : decode cX7_tryOne 45 = .ok (.ifCond .eq 18, 3) := by decide +kernel
theorem dX7_tryOne_48 : decode cX7_tryOne 48 = .ok (.aload_n 0, 1) := by decide +kernel
theorem dX7_tryOne_49 : decode cX7_tryOne 49 = .ok (.iload_n 2, 1) := by decide +kernel
theorem dX7_tryOne_50 : decode cX7_tryOne 50 = .ok (.bipush 10, 2) := by decide +kernel
theorem dX7_tryOne_52 : decode cX7_tryOne 52 = .ok (.iload_n 2, 1) := by decide +kernel
theorem dX7_tryOne_53 : decode cX7_tryOne 53 = .ok (.imul, 1) := by decide +kernel
theorem dX7_tryOne_54 : decode cX7_tryOne 54 = .ok (.iload 4, 2) := by decide +kernel
theorem dX7_tryOne_56 : decode cX7_tryOne 56 = .ok (.iadd, 1) := by decide +kernel
theorem dX7_tryOne_57 : decode cX7_tryOne 57 = .ok (.invokevirtual 176, 3) := by decide +kernel
theorem dX7_tryOne_60 : decode cX7_tryOne 60 = .ok (.goto 16, 3) := by decide +kernel
theorem dX7_tryOne_63 : decode cX7_tryOne 63 = .ok (.aload_n 0, 1) := by decide +kernel
theorem dX7_tryOne_64 : decode cX7_tryOne 64 = .ok (.iconst 1, 1) := by decide +kernel
theorem dX7_tryOne_65 : decode cX7_tryOne 65 = .ok (.bipush 10, 2) := by decide +kernel
theorem dX7_tryOne_67 : decode cX7_tryOne 67 = .ok (.iload_n 2, 1) := by decide +kernel
theorem dX7_tryOne_68 : decode cX7_tryOne 68 = .ok (.imul, 1) := by decide +kernel
theorem dX7_tryOne_69 : decode cX7_tryOne 69 = .ok (.iload 4, 2) := by decide +kernel
theorem dX7_tryOne_71 : decode cX7_tryOne 71 = .ok (.iadd, 1) := by decide +kernel
theorem dX7_tryOne_72 : decode cX7_tryOne 72 = .ok (.iconst (-1), 1) := by decide +kernel
theorem dX7_tryOne_73 : decode cX7_tryOne 73 = .ok (.invokevirtual 179, 3) := by decide +kernel
theorem dX7_tryOne_76 : decode cX7_tryOne 76 = .ok (.iinc 4 1, 3) := by decide +kernel
theorem dX7_tryOne_79 : decode cX7_tryOne 79 = .ok (.goto (-59), 3) := by decide +kernel
theorem dX7_tryOne_82 : decode cX7_tryOne 82 = .ok (.aload_n 0, 1) := by decide +kernel
theorem dX7_tryOne_83 : decode cX7_tryOne 83 = .ok (.iload_n 2, 1) := by decide +kernel
theorem dX7_tryOne_84 : decode cX7_tryOne 84 = .ok (.iload_n 3, 1) := by decide +kernel
theorem dX7_tryOne_85 : decode cX7_tryOne 85 = .ok (.invokevirtual 148, 3) := by decide +kernel
theorem dX7_tryOne_88 : decode cX7_tryOne 88 = .ok (.iinc 2 1, 3) := by decide +kernel
theorem dX7_tryOne_91 : decode cX7_tryOne 91 = .ok (.goto (-89), 3) := by decide +kernel
theorem dX7_tryOne_94 : decode cX7_tryOne 94 = .ok (.return_, 1) := by decide +kernel
theorem dX7_trySecond_0 : decode cX7_trySecond 0 = .ok (.iload_n 1, 1) := by decide +kernel
theorem dX7_trySecond_1 : decode cX7_trySecond 1 = .ok (.iconst 1, 1) := by decide +kernel
theorem dX7_trySecond_2 : decode cX7_trySecond 2 = .ok (.iadd, 1) := by decide +kernel
theorem dX7_trySecond_3 : decode cX7_trySecond 3 = .ok (.istore_n 3, 1) := by decide +kernel
theorem dX7_trySecond_4 : decode cX7_trySecond 4 = .ok (.iload_n 3, 1) := by decide +kernel
theorem dX7_trySecond_5 : decode cX7_trySecond 5 = .ok (.aload_n 0, 1) := by decide +kernel
theorem dX7_trySecond_6 : decode cX7_trySecond 6 = .ok (.invokevirtual 64, 3) := by decide +kernel
theorem dX7_trySecond_9 : decode cX7_trySecond 9 = .ok (.if_icmp .ge 72, 3) := by decide +kernel
theorem dX7_trySecond_12 : decode cX7_trySecond 12 = .ok (.aload_n 0, 1) := by decide +kernel
theorem dX7_trySecond_13 : decode cX7_trySecond 13 = .ok (.iload_n 3, 1) := by decide +kernel
theorem dX7_trySecond_14 : decode cX7_trySecond 14 = .ok (.iconst 5, 1) := by decide +kernel
theorem dX7_trySecond_15 : decode cX7_trySecond 15 = .ok (.invokevirtual 110, 3) := by decide +kernel
theorem dX7_trySecond_18 : decode cX7_trySecond 18 = .ok (.istore 4, 2) := by decide +kernel
theorem dX7_trySecond_20 : decode cX7_trySecond 20 = .ok (.iconst 0, 1) := by decide +kernel
theorem dX7_trySecond_21 : decode cX7_trySecond 21 = .ok (.istore 5, 2) := by decide +kernel
theorem dX7_trySecond_23 : decode cX7_trySecond 23 = .ok (.iload 5, 2) := by decide +kernel
theorem dX7_trySecond_25 : decode cX7_trySecond 25 = .ok (.iconst 4, 1) := by decide +kernel
theorem dX7_trySecond_26 : decode cX7_trySecond 26 = .ok (.if_icmp .ge 42, 3) := by decide +kernel
theorem dX7_trySecond_29 : decode cX7_trySecond 29 = .ok (.iload 4, 2) := by decide +kernel
theorem dX7_trySecond_31 : decode cX7_trySecond 31 = .ok (.iconst (-1), 1) := by decide +kernel
theorem dX7_trySecond_32 : decode cX7_trySecond 32 = .ok (.if_icmp .eq 36, 3) := by decide +kernel
theorem dX7_trySecond_35 : decode cX7_trySecond 35 = .ok (.iload 5, 2) := by decide +kernel
theorem dX7_trySecond_37 : decode cX7_trySecond 37 = .ok (.iload 4, 2) := by decide +kernel
theorem dX7_trySecond_39 : decode cX7_trySecond 39 = .ok (.if_icmp .eq 23, 3) := by decide +kernel
theorem dX7_trySecond_42 : decode cX7_trySecond 42 = .ok (.aload_n 0, 1) := by decide +kernel
theorem dX7_trySecond_43 : decode cX7_trySecond 43 = .ok (.iload_n 3, 1) := by decide +kernel
theorem dX7_trySecond_44 : decode cX7_trySecond 44 = .ok (.iload 5, 2) := by decide +kernel
theorem dX7_trySecond_46 : decode cX7_trySecond 46 = .ok (.invokevirtual 148, 3) := by decide +kernel
theorem dX7_trySecond_49 : decode cX7_trySecond 49 = .ok (.aload_n 0, 1) := by decide +kernel
theorem dX7_trySecond_50 : decode cX7_trySecond 50 = .ok (.iconst 2, 1) := by decide +kernel
theorem dX7_trySecond_51 : decode cX7_trySecond 51 = .ok (.iload_n 2, 1) := by decide +kernel
theorem dX7_trySecond_52 : decode cX7_trySecond 52 = .ok (.bipush 10, 2) := by decide +kernel
theorem dX7_trySecond_54 : decode cX7_trySecond 54 = .ok (.iload_n 3, 1) := by decide +kernel
theorem dX7_trySecond_55 : decode cX7_trySecond 55 = .ok (.imul, 1) := by decide +kernel
theorem dX7_trySecond_56 : decode cX7_trySecond 56 = .ok (.iload 5, 2) := by decide +kernel
theorem dX7_trySecond_58 : decode cX7_trySecond 58 = .ok (.iadd, 1) := by decide +kernel
theorem dX7_trySecond_59 : decode cX7_trySecond 59 = .ok (.invokevirtual 179, 3) := by decide +kernel
theorem dX7_trySecond_62 : decode cX7_trySecond 62 = .ok (.iinc 5 1, 3) := by decide +kernel
theorem dX7_trySecond_65 : decode cX7_trySecond 65 = .ok (.goto (-42), 3) := by decide +kernel
theorem dX7_trySecond_68 : decode cX7_trySecond 68 = .ok (.aload_n 0, 1) := by decide +kernel
theorem dX7_trySecond_69 : decode cX7_trySecond 69 = .ok (.iload_n 3, 1) := by decide +kernel
theorem dX7_trySecond_70 : decode cX7_trySecond 70 = .ok (.iload 4, 2) := by decide +kernel
theorem dX7_trySecond_72 : decode cX7_trySecond 72 = .ok (.invokevirtual 148, 3) := by decide +kernel
theorem dX7_trySecond_75 : decode cX7_trySecond 75 = .ok (.iinc 3 1, 3) := by decide +kernel
theorem dX7_trySecond_78 : decode cX7_trySecond 78 = .ok (.goto (-74), 3) := by decide +kernel
theorem dX7_trySecond_81 : decode cX7_trySecond 81 = .ok (.return_, 1) := by decide +kernel
theorem dX7_given_0 : decode cX7_given 0 = .ok (.iload_n 1, 1) := by decide +kernel
theorem dX7_given_1 : decode cX7_given 1 = .ok (.i2l, 1) := by decide +kernel
theorem dX7_given_2 : decode cX7_given 2 = .ok (.lconst 0, 1) := by decide +kernel
theorem dX7_given_3 : decode cX7_given 3 = .ok (.ldc2_w 183, 3) := by decide +kernel
theorem dX7_given_6 : decode cX7_given 6 = .ok (.invokestatic 68, 3) := by decide +kernel
theorem dX7_given_9 : decode cX7_given 9 = .ok (.ifCond .eq 8, 3) := by decide +kernel
theorem dX7_given_12 : decode cX7_given 12 = .ok (.iload_n 2, 1) := by decide +kernel
theorem dX7_given_13 : decode cX7_given 13 = .ok (.iconst (-1), 1) := by decide +kernel
theorem dX7_given_14 : decode cX7_given 14 = .ok (.if_icmp .ge 10, 3) := by decide +kernel
theorem dX7_given_17 : decode cX7_given 17 = .ok (.aload_n 0, 1) := by decide +kernel
theorem dX7_given_18 : decode cX7_given 18 = .ok (.bipush (-10), 2) := by decide +kernel
theorem dX7_given_20 : decode cX7_given 20 = .ok (.invokevirtual 76, 3) := by decide +kernel
theorem dX7_given_23 : decode cX7_given 23 = .ok (.ireturn, 1) := by decide +kernel
theorem dX7_given_24 : decode cX7_given 24 = .ok (.aload_n 0, 1) := by decide +kernel
theorem dX7_given_25 : decode cX7_given 25 = .ok (.ldc 185, 2) := by decide +kernel
theorem dX7_given_27 : decode cX7_given 27 = .ok (.putfield 163, 3) := by decide +kernel
theorem dX7_given_30 : decode cX7_given 30 = .ok (.aload_n 0, 1) := by decide +kernel
theorem dX7_given_31 : decode cX7_given 31 = .ok (.iconst 0, 1) := by decide +kernel
theorem dX7_given_32 : decode cX7_given 32 = .ok (.iconst (-1), 1) := by decide +kernel
theorem dX7_given_33 : decode cX7_given 33 = .ok (.iconst (-1), 1) := by decide +kernel
theorem dX7_given_34 : decode cX7_given 34 = .ok (.invokevirtual 179, 3) := by decide +kernel
theorem dX7_given_37 : decode cX7_given 37 = .ok (.iload_n 1, 1) := by decide +kernel
theorem dX7_given_38 : decode cX7_given 38 = .ok (.ifCond .le 8, 3) := by decide +kernel
theorem dX7_given_41 : decode cX7_given 41 = .ok (.aload_n 0, 1) := by decide +kernel
theorem dX7_given_42 : decode cX7_given 42 = .ok (.iconst 0, 1) := by decide +kernel
theorem dX7_given_43 : decode cX7_given 43 = .ok (.invokevirtual 186, 3) := by decide +kernel
theorem dX7_given_46 : decode cX7_given 46 = .ok (.iload_n 1, 1) := by decide +kernel
theorem dX7_given_47 : decode cX7_given 47 = .ok (.iconst 1, 1) := by decide +kernel
theorem dX7_given_48 : decode cX7_given 48 = .ok (.if_icmp .le 8, 3) := by decide +kernel
theorem dX7_given_51 : decode cX7_given 51 = .ok (.aload_n 0, 1) := by decide +kernel
theorem dX7_given_52 : decode cX7_given 52 = .ok (.iconst 1, 1) := by decide +kernel
theorem dX7_given_53 : decode cX7_given 53 = .ok (.invokevirtual 186, 3) := by decide +kernel
theorem dX7_given_56 : decode cX7_given 56 = .ok (.iload_n 2, 1) := by decide +kernel
theorem dX7_given_57 : decode cX7_given 57 = .ok (.iconst (-1), 1) := by decide +kernel
theorem dX7_given_58 : decode cX7_given 58 = .ok (.if_icmp .ne 10, 3) := by decide +kernel
theorem dX7_given_61 : decode cX7_given 61 = .ok (.aload_n 0, 1) := by decide +kernel
theorem dX7_given_62 : decode cX7_given 62 = .ok (.getfield 163, 3) := by decide +kernel
theorem dX7_given_65 : decode cX7_given 65 = .ok (.goto 31, 3) := by decide +kernel
theorem dX7_given_68 : decode cX7_given 68 = .ok (.iload_n 2, 1) := by decide +kernel
theorem dX7_given_69 : decode cX7_given 69 = .ok (.aload_n 0, 1) := by decide +kernel
theorem dX7_given_70 : decode cX7_given 70 = .ok (.getfield 167, 3) := by decide +kernel
theorem dX7_given_73 : decode cX7_given 73 = .ok (.if_icmp .lt 8, 3) := by decide +kernel
theorem dX7_given_76 : decode cX7_given 76 = .ok (.bipush (-5), 2) := by decide +kernel
theorem dX7_given_78 : decode cX7_given 78 = .ok (.goto 18, 3) := by decide +kernel
theorem dX7_given_81 : decode cX7_given 81 = .ok (.iload_n 2, 1) := by decide +kernel
theorem dX7_given_82 : decode cX7_given 82 = .ok (.ifCond .ne 10, 3) := by decide +kernel
theorem dX7_given_85 : decode cX7_given 85 = .ok (.aload_n 0, 1) := by decide +kernel
theorem dX7_given_86 : decode cX7_given 86 = .ok (.getfield 170, 3) := by decide +kernel
theorem dX7_given_89 : decode cX7_given 89 = .ok (.goto 7, 3) := by decide +kernel
theorem dX7_given_92 : decode cX7_given 92 = .ok (.aload_n 0, 1) := by decide +kernel
theorem dX7_given_93 : decode cX7_given 93 = .ok (.getfield 173, 3) := by decide +kernel
theorem dX7_given_96 : decode cX7_given 96 = .ok (.ireturn, 1) := by decide +kernel
theorem dX7_out_0 : decode cX7_out 0 = .ok (.iconst 0, 1) := by decide +kernel
theorem dX7_out_1 : decode cX7_out 1 = .ok (.istore_n 1, 1) := by decide +kernel
theorem dX7_out_2 : decode cX7_out 2 = .ok (.iconst 0, 1) := by decide +kernel
theorem dX7_out_3 : decode cX7_out 3 = .ok (.istore_n 2, 1) := by decide +kernel
theorem dX7_out_4 : decode cX7_out 4 = .ok (.iload_n 2, 1) := by decide +kernel
theorem dX7_out_5 : decode cX7_out 5 = .ok (.aload_n 0, 1) := by decide +kernel
theorem dX7_out_6 : decode cX7_out 6 = .ok (.invokevirtual 64, 3) := by decide +kernel
theorem dX7_out_9 : decode cX7_out 9 = .ok (.if_icmp .ge 81, 3) := by decide +kernel
theorem dX7_out_12 : decode cX7_out 12 = .ok (.iload_n 1, 1) := by decide +kernel
theorem dX7_out_13 : decode cX7_out 13 = .ok (.aload_n 0, 1) := by decide +kernel
theorem dX7_out_14 : decode cX7_out 14 = .ok (.iload_n 2, 1) := by decide +kernel
theorem dX7_out_15 : decode cX7_out 15 = .ok (.invokevirtual 123, 3) := by decide +kernel
theorem dX7_out_18 : decode cX7_out 18 = .ok (.ifCond .eq 9, 3) := by decide +kernel
theorem dX7_out_21 : decode cX7_out 21 = .ok (.iconst 1, 1) := by decide +kernel
theorem dX7_out_22 : decode cX7_out 22 = .ok (.iload_n 2, 1) := by decide +kernel
theorem dX7_out_23 : decode cX7_out 23 = .ok (.ishl, 1) := by decide +kernel
theorem dX7_out_24 : decode cX7_out 24 = .ok (.goto 4, 3) := by decide +kernel
theorem dX7_out_27 : decode cX7_out 27 = .ok (.iconst 0, 1) := by decide +kernel
theorem dX7_out_28 : decode cX7_out 28 = .ok (.ior, 1) := by decide +kernel
theorem dX7_out_29 : decode cX7_out 29 = .ok (.istore_n 1, 1) := by decide +kernel
theorem dX7_out_30 : decode cX7_out 30 = .ok (.aload_n 0, 1) := by decide +kernel
theorem dX7_out_31 : decode cX7_out 31 = .ok (.getfield 27, 3) := by decide +kernel
theorem dX7_out_34 : decode cX7_out 34 = .ok (.iload_n 2, 1) := by decide +kernel
theorem dX7_out_35 : decode cX7_out 35 = .ok (.iconst 0, 1) := by decide +kernel
theorem dX7_out_36 : decode cX7_out 36 = .ok (.iastore, 1) := by decide +kernel
theorem dX7_out_37 : decode cX7_out 37 = .ok (.iconst 0, 1) := by decide +kernel
theorem dX7_out_38 : decode cX7_out 38 = .ok (.istore_n 3, 1) := by decide +kernel
theorem dX7_out_39 : decode cX7_out 39 = .ok (.iload_n 3, 1) := by decide +kernel
theorem dX7_out_40 : decode cX7_out 40 = .ok (.aload_n 0, 1) := by decide +kernel
theorem dX7_out_41 : decode cX7_out 41 = .ok (.invokevirtual 64, 3) := by decide +kernel
theorem dX7_out_44 : decode cX7_out 44 = .ok (.if_icmp .ge 40, 3) := by decide +kernel
theorem dX7_out_47 : decode cX7_out 47 = .ok (.aload_n 0, 1) := by decide +kernel
theorem dX7_out_48 : decode cX7_out 48 = .ok (.getfield 27, 3) := by decide +kernel
theorem dX7_out_51 : decode cX7_out 51 = .ok (.iload_n 2, 1) := by decide +kernel
theorem dX7_out_52 : decode cX7_out 52 = .ok (.dup2, 1) := by decide +kernel
theorem dX7_out_53 : decode cX7_out 53 = .ok (.iaload, 1) := by decide +kernel
theorem dX7_out_54 : decode cX7_out 54 = .ok (.iload_n 2, 1) := by decide +kernel
theorem dX7_out_55 : decode cX7_out 55 = .ok (.iload_n 3, 1) := by decide +kernel
theorem dX7_out_56 : decode cX7_out 56 = .ok (.if_icmp .eq 19, 3) := by decide +kernel
theorem dX7_out_59 : decode cX7_out 59 = .ok (.aload_n 0, 1) := by decide +kernel
theorem dX7_out_60 : decode cX7_out 60 = .ok (.iload_n 2, 1) := by decide +kernel
theorem dX7_out_61 : decode cX7_out 61 = .ok (.iload_n 3, 1) := by decide +kernel
theorem dX7_out_62 : decode cX7_out 62 = .ok (.invokevirtual 139, 3) := by decide +kernel
theorem dX7_out_65 : decode cX7_out 65 = .ok (.iconst (-1), 1) := by decide +kernel
theorem dX7_out_66 : decode cX7_out 66 = .ok (.if_icmp .eq 9, 3) := by decide +kernel
theorem dX7_out_69 : decode cX7_out 69 = .ok (.iconst 1, 1) := by decide +kernel
theorem dX7_out_70 : decode cX7_out 70 = .ok (.iload_n 3, 1) := by decide +kernel
theorem dX7_out_71 : decode cX7_out 71 = .ok (.ishl, 1) := by decide +kernel
theorem dX7_out_72 : decode cX7_out 72 = .ok (.goto 4, 3) := by decide +kernel
theorem dX7_out_75 : decode cX7_out 75 = .ok (.iconst 0, 1) := by decide +kernel
theorem dX7_out_76 : decode cX7_out 76 = .ok (.ior, 1) := by decide +kernel
theorem dX7_out_77 : decode cX7_out 77 = .ok (.iastore, 1) := by decide +kernel
theorem dX7_out_78 : decode cX7_out 78 = .ok (.iinc 3 1, 3) := by decide +kernel
theorem dX7_out_81 : decode cX7_out 81 = .ok (.goto (-42), 3) := by decide +kernel
theorem dX7_out_84 : decode cX7_out 84 = .ok (.iinc 2 1, 3) := by decide +kernel
theorem dX7_out_87 : decode cX7_out 87 = .ok (.goto (-83), 3) := by decide +kernel
theorem dX7_out_90 : decode cX7_out 90 = .ok (.iload_n 1, 1) := by decide +kernel
theorem dX7_out_91 : decode cX7_out 91 = .ok (.istore_n 2, 1) := by decide +kernel
theorem dX7_out_92 : decode cX7_out 92 = .ok (.iconst 0, 1) := by decide +kernel
theorem dX7_out_93 : decode cX7_out 93 = .ok (.istore_n 3, 1) := by decide +kernel
theorem dX7_out_94 : decode cX7_out 94 = .ok (.iload_n 3, 1) := by decide +kernel
theorem dX7_out_95 : decode cX7_out 95 = .ok (.iconst 1, 1) := by decide +kernel
theorem dX7_out_96 : decode cX7_out 96 = .ok (.aload_n 0, 1) := by decide +kernel
theorem dX7_out_97 : decode cX7_out 97 = .ok (.invokevirtual 64, 3) := by decide +kernel
theorem dX7_out_100 : decode cX7_out 100 = .ok (.ishl, 1) := by decide +kernel
theorem dX7_out_101 : decode cX7_out 101 = .ok (.if_icmp .ge 128, 3) := by decide +kernel
theorem dX7_out_104 : decode cX7_out 104 = .ok (.iload_n 3, 1) := by decide +kernel
theorem dX7_out_105 : decode cX7_out 105 = .ok (.invokestatic 190, 3) := by decide +kernel
theorem dX7_out_108 : decode cX7_out 108 = .ok (.iload_n 2, 1) := by decide +kernel
theorem dX7_out_109 : decode cX7_out 109 = .ok (.invokestatic 190, 3) := by decide +kernel
theorem dX7_out_112 : decode cX7_out 112 = .ok (.if_icmp .lt 19, 3) := by decide +kernel
theorem dX7_out_115 : decode cX7_out 115 = .ok (.iload_n 3, 1) := by decide +kernel
theorem dX7_out_116 : decode cX7_out 116 = .ok (.invokestatic 190, 3) := by decide +kernel
theorem dX7_out_119 : decode cX7_out 119 = .ok (.iload_n 2, 1) := by decide +kernel
theorem dX7_out_120 : decode cX7_out 120 = .ok (.invokestatic 190, 3) := by decide +kernel
theorem dX7_out_123 : decode cX7_out 123 = .ok (.if_icmp .ne 12, 3) := by decide +kernel
theorem dX7_out_126 : decode cX7_out 126 = .ok (.iload_n 3, 1) := by decide +kernel
theorem dX7_out_127 : decode cX7_out 127 = .ok (.iload_n 2, 1) := by decide +kernel
theorem dX7_out_128 : decode cX7_out 128 = .ok (.if_icmp .ge 7, 3) := by decide +kernel
theorem dX7_out_131 : decode cX7_out 131 = .ok (.iconst 1, 1) := by decide +kernel
theorem dX7_out_132 : decode cX7_out 132 = .ok (.goto 4, 3) := by decide +kernel
theorem dX7_out_135 : decode cX7_out 135 = .ok (.iconst 0, 1) := by decide +kernel
theorem dX7_out_136 : decode cX7_out 136 = .ok (.istore 4, 2) := by decide +kernel
theorem dX7_out_138 : decode cX7_out 138 = .ok (.iload 4, 2) := by decide +kernel
theorem dX7_out_140 : decode cX7_out 140 = .ok (.ifCond .eq 15, 3) := by decide +kernel
theorem dX7_out_143 : decode cX7_out 143 = .ok (.iload_n 3, 1) := by decide +kernel
theorem dX7_out_144 : decode cX7_out 144 = .ok (.iload_n 1, 1) := by decide +kernel
theorem dX7_out_145 : decode cX7_out 145 = .ok (.iconst (-1), 1) := by decide +kernel
theorem dX7_out_146 : decode cX7_out 146 = .ok (.ixor, 1) := by decide +kernel
theorem dX7_out_147 : decode cX7_out 147 = .ok (.iand, 1) := by decide +kernel
theorem dX7_out_148 : decode cX7_out 148 = .ok (.ifCond .ne 7, 3) := by decide +kernel
theorem dX7_out_151 : decode cX7_out 151 = .ok (.iconst 1, 1) := by decide +kernel
theorem dX7_out_152 : decode cX7_out 152 = .ok (.goto 4, 3) := by decide +kernel
theorem dX7_out_155 : decode cX7_out 155 = .ok (.iconst 0, 1) := by decide +kernel
theorem dX7_out_156 : decode cX7_out 156 = .ok (.istore 5, 2) := by decide +kernel
theorem dX7_out_158 : decode cX7_out 158 = .ok (.iconst 0, 1) := by decide +kernel
theorem dX7_out_159 : decode cX7_out 159 = .ok (.istore 6, 2) := by decide +kernel
theorem dX7_out_161 : decode cX7_out 161 = .ok (.iload 6, 2) := by decide +kernel
theorem dX7_out_163 : decode cX7_out 163 = .ok (.aload_n 0, 1) := by decide +kernel
theorem dX7_out_164 : decode cX7_out 164 = .ok (.invokevirtual 64, 3) := by decide +kernel
theorem dX7_out_167 : decode cX7_out 167 = .ok (.if_icmp .ge 45, 3) := by decide +kernel
theorem dX7_out_170 : decode cX7_out 170 = .ok (.iload 5, 2) := by decide +kernel
theorem dX7_out_172 : decode cX7_out 172 = .ok (.ifCond .eq 40, 3) := by decide +kernel
theorem dX7_out_175 : decode cX7_out 175 = .ok (.iload_n 3, 1) := by decide +kernel
theorem dX7_out_176 : decode cX7_out 176 = .ok (.iload 6, 2) := by decide +kernel
theorem dX7_out_178 : decode cX7_out 178 = .ok (.ishr, 1) := by decide +kernel
theorem dX7_out_179 : decode cX7_out 179 = .ok (.iconst 1, 1) := by decide +kernel
theorem dX7_out_180 : decode cX7_out 180 = .ok (.iand, 1) := by decide +kernel
theorem dX7_out_181 : decode cX7_out 181 = .ok (.iconst 1, 1) := by decide +kernel
theorem dX7_out_182 : decode cX7_out 182 = .ok (.if_icmp .eq 17, 3) := by decide +kernel
theorem dX7_out_185 : decode cX7_out 185 = .ok (.aload_n 0, 1) := by decide +kernel
theorem dX7_out_186 : decode cX7_out 186 = .ok (.getfield 27, 3) := by decide +kernel
theorem dX7_out_189 : decode cX7_out 189 = .ok (.iload 6, 2) := by decide +kernel
theorem dX7_out_191 : decode cX7_out 191 = .ok (.iaload, 1) := by decide +kernel
theorem dX7_out_192 : decode cX7_out 192 = .ok (.iload_n 3, 1) := by decide +kernel
theorem dX7_out_193 : decode cX7_out 193 = .ok (.iconst (-1), 1) := by decide +kernel
theorem dX7_out_194 : decode cX7_out 194 = .ok (.ixor, 1) := by decide +kernel
theorem dX7_out_195 : decode cX7_out 195 = .ok (.iand, 1) := by decide +kernel
theorem dX7_out_196 : decode cX7_out 196 = .ok (.ifCond .ne 7, 3) := by decide +kernel
theorem dX7_out_199 : decode cX7_out 199 = .ok (.iconst 1, 1) := by decide +kernel
theorem dX7_out_200 : decode cX7_out 200 = .ok (.goto 4, 3) := by decide +kernel
theorem dX7_out_203 : decode cX7_out 203 = .ok (.iconst 0, 1) := by decide +kernel
theorem dX7_out_204 : decode cX7_out 204 = .ok (.istore 5, 2) := by decide +kernel
theorem dX7_out_206 : decode cX7_out 206 = .ok (.iinc 6 1, 3) := by decide +kernel
theorem dX7_out_209 : decode cX7_out 209 = .ok (.goto (-48), 3) := by decide +kernel
theorem dX7_out_212 : decode cX7_out 212 = .ok (.iload 5, 2) := by decide +kernel
theorem dX7_out_214 : decode cX7_out 214 = .ok (.ifCond .eq 7, 3) := by decide +kernel
theorem dX7_out_217 : decode cX7_out 217 = .ok (.iload_n 3, 1) := by decide +kernel
theorem dX7_out_218 : decode cX7_out 218 = .ok (.goto 4, 3) := by decide +kernel
theorem dX7_out_221 : decode cX7_out 221 = .ok (.iload_n 2, 1) := by decide +kernel
theorem dX7_out_222 : decode cX7_out 222 = .ok (.istore_n 2, 1) := by decide +kernel
theorem dX7_out_223 : decode cX7_out 223 = .ok (.iinc 3 1, 3) := by decide +kernel
theorem dX7_out_226 : decode cX7_out 226 = .ok (.goto (-132), 3) := by decide +kernel
theorem dX7_out_229 : decode cX7_out 229 = .ok (.iload_n 2, 1) := by decide +kernel
theorem dX7_out_230 : decode cX7_out 230 = .ok (.ireturn, 1) := by decide +kernel
theorem dX7_isAhead_0 : decode cX7_isAhead 0 = .ok (.aload_n 0, 1) := by decide +kernel
theorem dX7_isAhead_1 : decode cX7_isAhead 1 = .ok (.iload_n 1, 1) := by decide +kernel
theorem dX7_isAhead_2 : decode cX7_isAhead 2 = .ok (.iconst 1, 1) := by decide +kernel
theorem dX7_isAhead_3 : decode cX7_isAhead 3 = .ok (.invokevirtual 110, 3) := by decide +kernel
theorem dX7_isAhead_6 : decode cX7_isAhead 6 = .ok (.aload_n 0, 1) := by decide +kernel
theorem dX7_isAhead_7 : decode cX7_isAhead 7 = .ok (.iload_n 2, 1) := by decide +kernel
theorem dX7_isAhead_8 : decode cX7_isAhead 8 = .ok (.iconst 1, 1) := by decide +kernel
theorem dX7_isAhead_9 : decode cX7_isAhead 9 = .ok (.invokevirtual 110, 3) := by decide +kernel
theorem dX7_isAhead_12 : decode cX7_isAhead 12 = .ok (.isub, 1) := by decide +kernel
theorem dX7_isAhead_13 : decode cX7_isAhead 13 = .ok (.istore_n 3, 1) := by decide +kernel
theorem dX7_isAhead_14 : decode cX7_isAhead 14 = .ok (.aload_n 0, 1) := by decide +kernel
theorem dX7_isAhead_15 : decode cX7_isAhead 15 = .ok (.iload_n 1, 1) := by decide +kernel
theorem dX7_isAhead_16 : decode cX7_isAhead 16 = .ok (.iconst 0, 1) := by decide +kernel
theorem dX7_isAhead_17 : decode cX7_isAhead 17 = .ok (.invokevirtual 110, 3) := by decide +kernel
theorem dX7_isAhead_20 : decode cX7_isAhead 20 = .ok (.aload_n 0, 1) := by decide +kernel
theorem dX7_isAhead_21 : decode cX7_isAhead 21 = .ok (.iload_n 2, 1) := by decide +kernel
theorem dX7_isAhead_22 : decode cX7_isAhead 22 = .ok (.iconst 0, 1) := by decide +kernel
theorem dX7_isAhead_23 : decode cX7_isAhead 23 = .ok (.invokevirtual 110, 3) := by decide +kernel
theorem dX7_isAhead_26 : decode cX7_isAhead 26 = .ok (.isub, 1) := by decide +kernel
theorem dX7_isAhead_27 : decode cX7_isAhead 27 = .ok (.istore 4, 2) := by decide +kernel
theorem dX7_isAhead_29 : decode cX7_isAhead 29 = .ok (.iload_n 3, 1) := by decide +kernel
theorem dX7_isAhead_30 : decode cX7_isAhead 30 = .ok (.ifCond .lt 22, 3) := by decide +kernel
theorem dX7_isAhead_33 : decode cX7_isAhead 33 = .ok (.iload_n 3, 1) := by decide +kernel
theorem dX7_isAhead_34 : decode cX7_isAhead 34 = .ok (.ifCond .ne 22, 3) := by decide +kernel
theorem dX7_isAhead_37 : decode cX7_isAhead 37 = .ok (.iload 4, 2) := by decide +kernel
theorem dX7_isAhead_39 : decode cX7_isAhead 39 = .ok (.ifCond .lt 13, 3) := by decide +kernel
theorem dX7_isAhead_42 : decode cX7_isAhead 42 = .ok (.iload 4, 2) := by decide +kernel
theorem dX7_isAhead_44 : decode cX7_isAhead 44 = .ok (.ifCond .ne 12, 3) := by decide +kernel
theorem dX7_isAhead_47 : decode cX7_isAhead 47 = .ok (.iload_n 1, 1) := by decide +kernel
theorem dX7_isAhead_48 : decode cX7_isAhead 48 = .ok (.iload_n 2, 1) := by decide +kernel
theorem dX7_isAhead_49 : decode cX7_isAhead 49 = .ok (.if_icmp .ge 7, 3) := by decide +kernel
theorem dX7_isAhead_52 : decode cX7_isAhead 52 = .ok (.iconst 1, 1) := by decide +kernel
theorem dX7_isAhead_53 : decode cX7_isAhead 53 = .ok (.goto 4, 3) := by decide +kernel
theorem dX7_isAhead_56 : decode cX7_isAhead 56 = .ok (.iconst 0, 1) := by decide +kernel
theorem dX7_isAhead_57 : decode cX7_isAhead 57 = .ok (.ireturn, 1) := by decide +kernel
theorem dX7_layRow_0 : decode cX7_layRow 0 = .ok (.aload_n 0, 1) := by decide +kernel
theorem dX7_layRow_1 : decode cX7_layRow 1 = .ok (.iconst 0, 1) := by decide +kernel
theorem dX7_layRow_2 : decode cX7_layRow 2 = .ok (.putfield 193, 3) := by decide +kernel
theorem dX7_layRow_5 : decode cX7_layRow 5 = .ok (.iconst 0, 1) := by decide +kernel
theorem dX7_layRow_6 : decode cX7_layRow 6 = .ok (.istore_n 2, 1) := by decide +kernel
theorem dX7_layRow_7 : decode cX7_layRow 7 = .ok (.iload_n 2, 1) := by decide +kernel
theorem dX7_layRow_8 : decode cX7_layRow 8 = .ok (.aload_n 0, 1) := by decide +kernel
theorem dX7_layRow_9 : decode cX7_layRow 9 = .ok (.invokevirtual 64, 3) := by decide +kernel
theorem dX7_layRow_12 : decode cX7_layRow 12 = .ok (.if_icmp .ge 81, 3) := by decide +kernel
theorem dX7_layRow_15 : decode cX7_layRow 15 = .ok (.aload_n 0, 1) := by decide +kernel
theorem dX7_layRow_16 : decode cX7_layRow 16 = .ok (.iload_n 2, 1) := by decide +kernel
theorem dX7_layRow_17 : decode cX7_layRow 17 = .ok (.iconst 5, 1) := by decide +kernel
theorem dX7_layRow_18 : decode cX7_layRow 18 = .ok (.invokevirtual 110, 3) := by decide +kernel
theorem dX7_layRow_21 : decode cX7_layRow 21 = .ok (.iload_n 1, 1) := by decide +kernel
theorem dX7_layRow_22 : decode cX7_layRow 22 = .ok (.if_icmp .ne 65, 3) := by decide +kernel
theorem dX7_layRow_25 : decode cX7_layRow 25 = .ok (.aload_n 0, 1) := by decide +kernel
theorem dX7_layRow_26 : decode cX7_layRow 26 = .ok (.getfield 193, 3) := by decide +kernel
theorem dX7_layRow_29 : decode cX7_layRow 29 = .ok (.istore_n 3, 1) := by decide +kernel
theorem dX7_layRow_30 : decode cX7_layRow 30 = .ok (.iload_n 3, 1) := by decide +kernel
theorem dX7_layRow_31 : decode cX7_layRow 31 = .ok (.ifCond .le 39, 3) := by decide +kernel
theorem dX7_layRow_34 : decode cX7_layRow 34 = .ok (.aload_n 0, 1) := by decide +kernel
theorem dX7_layRow_35 : decode cX7_layRow 35 = .ok (.iload_n 2, 1) := by decide +kernel
theorem dX7_layRow_36 : decode cX7_layRow 36 = .ok (.aload_n 0, 1) := by decide +kernel
theorem dX7_layRow_37 : decode cX7_layRow 37 = .ok (.getfield 30, 3) := by decide +kernel
theorem dX7_layRow_40 : decode cX7_layRow 40 = .ok (.iload_n 3, 1) := by decide +kernel
theorem dX7_layRow_41 : decode cX7_layRow 41 = .ok (.iconst 1, 1) := by decide +kernel
theorem dX7_layRow_42 : decode cX7_layRow 42 = .ok (.isub, 1) := by decide +kernel
theorem dX7_layRow_43 : decode cX7_layRow 43 = .ok (.iaload, 1) := by decide +kernel
theorem dX7_layRow_44 : decode cX7_layRow 44 = .ok (.invokevirtual 196, 3) := by decide +kernel
theorem dX7_layRow_47 : decode cX7_layRow 47 = .ok (.ifCond .eq 23, 3) := by decide +kernel
theorem dX7_layRow_50 : decode cX7_layRow 50 = .ok (.aload_n 0, 1) := by decide +kernel
theorem dX7_layRow_51 : decode cX7_layRow 51 = .ok (.getfield 30, 3) := by decide +kernel
theorem dX7_layRow_54 : decode cX7_layRow 54 = .ok (.iload_n 3, 1) := by decide +kernel
theorem dX7_layRow_55 : decode cX7_layRow 55 = .ok (.aload_n 0, 1) := by decide +kernel
theorem dX7_layRow_56 : decode cX7_layRow 56 = .ok (.getfield 30, 3) := by decide +kernel
theorem dX7_layRow_59 : decode cX7_layRow 59 = .ok (.iload_n 3, 1) := by decide +kernel
theorem dX7_layRow_60 : decode cX7_layRow 60 = .ok (.iconst 1, 1) := by decide +kernel
theorem dX7_layRow_61 : decode cX7_layRow 61 = .ok (.isub, 1) := by decide +kernel
theorem dX7_layRow_62 : decode cX7_layRow 62 = .ok (.iaload, 1) := by decide +kernel
theorem dX7_layRow_63 : decode cX7_layRow 63 = .ok (.iastore, 1) := by decide +kernel
theorem dX7_layRow_64 : decode cX7_layRow 64 = .ok (.iinc 3 (-1), 3) := by decide +kernel
theorem dX7_layRow_67 : decode cX7_layRow 67 = .ok (.goto (-37), 3) := by decide +kernel
theorem dX7_layRow_70 : decode cX7_layRow 70 = .ok (.aload_n 0, 1) := by decide +kernel
theorem dX7_layRow_71 : decode cX7_layRow 71 = .ok (.getfield 30, 3) := by decide +kernel
theorem dX7_layRow_74 : decode cX7_layRow 74 = .ok (.iload_n 3, 1) := by decide +kernel
theorem dX7_layRow_75 : decode cX7_layRow 75 = .ok (.iload_n 2, 1) := by decide +kernel
theorem dX7_layRow_76 : decode cX7_layRow 76 = .ok (.iastore, 1) := by decide +kernel
theorem dX7_layRow_77 : decode cX7_layRow 77 = .ok (.aload_n 0, 1) := by decide +kernel
theorem dX7_layRow_78 : decode cX7_layRow 78 = .ok (.dup, 1) := by decide +kernel
theorem dX7_layRow_79 : decode cX7_layRow 79 = .ok (.getfield 193, 3) := by decide +kernel
theorem dX7_layRow_82 : decode cX7_layRow 82 = .ok (.iconst 1, 1) := by decide +kernel
theorem dX7_layRow_83 : decode cX7_layRow 83 = .ok (.iadd, 1) := by decide +kernel
theorem dX7_layRow_84 : decode cX7_layRow 84 = .ok (.putfield 193, 3) := by decide +kernel
theorem dX7_layRow_87 : decode cX7_layRow 87 = .ok (.iinc 2 1, 3) := by decide +kernel
theorem dX7_layRow_90 : decode cX7_layRow 90 = .ok (.goto (-83), 3) := by decide +kernel
theorem dX7_layRow_93 : decode cX7_layRow 93 = .ok (.return_, 1) := by decide +kernel
theorem dX7_cost_0 : decode cX7_cost 0 = .ok (.aload_n 0, 1) := by decide +kernel
theorem dX7_cost_1 : decode cX7_cost 1 = .ok (.iload_n 3, 1) := by decide +kernel
theorem dX7_cost_2 : decode cX7_cost 2 = .ok (.iconst 0, 1) := by decide +kernel
theorem dX7_cost_3 : decode cX7_cost 3 = .ok (.invokevirtual 110, 3) := by decide +kernel
theorem dX7_cost_6 : decode cX7_cost 6 = .ok (.aload_n 0, 1) := by decide +kernel
theorem dX7_cost_7 : decode cX7_cost 7 = .ok (.iload_n 1, 1) := by decide +kernel
theorem dX7_cost_8 : decode cX7_cost 8 = .ok (.iconst 0, 1) := by decide +kernel
theorem dX7_cost_9 : decode cX7_cost 9 = .ok (.invokevirtual 110, 3) := by decide +kernel
theorem dX7_cost_12 : decode cX7_cost 12 = .ok (.isub, 1) := by decide +kernel
theorem dX7_cost_13 : decode cX7_cost 13 = .ok (.istore 5, 2) := by decide +kernel
theorem dX7_cost_15 : decode cX7_cost 15 = .ok (.iload 5, 2) := by decide +kernel
theorem dX7_cost_17 : decode cX7_cost 17 = .ok (.iload 4, 2) := by decide +kernel
theorem dX7_cost_19 : decode cX7_cost 19 = .ok (.iload_n 2, 1) := by decide +kernel
theorem dX7_cost_20 : decode cX7_cost 20 = .ok (.isub, 1) := by decide +kernel
theorem dX7_cost_21 : decode cX7_cost 21 = .ok (.invokestatic 120, 3) := by decide +kernel
theorem dX7_cost_24 : decode cX7_cost 24 = .ok (.iload_n 2, 1) := by decide +kernel
theorem dX7_cost_25 : decode cX7_cost 25 = .ok (.iload 4, 2) := by decide +kernel
theorem dX7_cost_27 : decode cX7_cost 27 = .ok (.if_icmp .ne 12, 3) := by decide +kernel
theorem dX7_cost_30 : decode cX7_cost 30 = .ok (.iload 5, 2) := by decide +kernel
theorem dX7_cost_32 : decode cX7_cost 32 = .ok (.ifCond .eq 7, 3) := by decide +kernel
theorem dX7_cost_35 : decode cX7_cost 35 = .ok (.iconst 3, 1) := by decide +kernel
theorem dX7_cost_36 : decode cX7_cost 36 = .ok (.goto 4, 3) := by decide +kernel
theorem dX7_cost_39 : decode cX7_cost 39 = .ok (.iconst 0, 1) := by decide +kernel
theorem dX7_cost_40 : decode cX7_cost 40 = .ok (.iadd, 1) := by decide +kernel
theorem dX7_cost_41 : decode cX7_cost 41 = .ok (.ireturn, 1) := by decide +kernel
theorem dX7_onFrom_0 : decode cX7_onFrom 0 = .ok (.iload_n 1, 1) := by decide +kernel
theorem dX7_onFrom_1 : decode cX7_onFrom 1 = .ok (.aload_n 0, 1) := by decide +kernel
theorem dX7_onFrom_2 : decode cX7_onFrom 2 = .ok (.getfield 193, 3) := by decide +kernel
theorem dX7_onFrom_5 : decode cX7_onFrom 5 = .ok (.iconst 1, 1) := by decide +kernel
theorem dX7_onFrom_6 : decode cX7_onFrom 6 = .ok (.isub, 1) := by decide +kernel
theorem dX7_onFrom_7 : decode cX7_onFrom 7 = .ok (.if_icmp .ne 5, 3) := by decide +kernel
theorem dX7_onFrom_10 : decode cX7_onFrom 10 = .ok (.iconst 0, 1) := by decide +kernel
theorem dX7_onFrom_11 : decode cX7_onFrom 11 = .ok (.ireturn, 1) := by decide +kernel
theorem dX7_onFrom_12 : decode cX7_onFrom 12 = .ok (.ldc 185, 2) := by decide +kernel
theorem dX7_onFrom_14 : decode cX7_onFrom 14 = .ok (.istore_n 3, 1) := by decide +kernel
theorem dX7_onFrom_15 : decode cX7_onFrom 15 = .ok (.iconst 0, 1) := by decide +kernel
theorem dX7_onFrom_16 : decode cX7_onFrom 16 = .ok (.istore 4, 2) := by decide +kernel
theorem dX7_onFrom_18 : decode cX7_onFrom 18 = .ok (.iload 4, 2) := by decide +kernel
theorem dX7_onFrom_20 : decode cX7_onFrom 20 = .ok (.iconst 5, 1) := by decide +kernel
theorem dX7_onFrom_21 : decode cX7_onFrom 21 = .ok (.if_icmp .ge 59, 3) := by decide +kernel
theorem dX7_onFrom_24 : decode cX7_onFrom 24 = .ok (.aload_n 0, 1) := by decide +kernel
theorem dX7_onFrom_25 : decode cX7_onFrom 25 = .ok (.aload_n 0, 1) := by decide +kernel
theorem dX7_onFrom_26 : decode cX7_onFrom 26 = .ok (.getfield 30, 3) := by decide +kernel
theorem dX7_onFrom_29 : decode cX7_onFrom 29 = .ok (.iload_n 1, 1) := by decide +kernel
theorem dX7_onFrom_30 : decode cX7_onFrom 30 = .ok (.iaload, 1) := by decide +kernel
theorem dX7_onFrom_31 : decode cX7_onFrom 31 = .ok (.iload_n 2, 1) := by decide +kernel
theorem dX7_onFrom_32 : decode cX7_onFrom 32 = .ok (.aload_n 0, 1) := by decide +kernel
theorem dX7_onFrom_33 : decode cX7_onFrom 33 = .ok (.getfield 30, 3) := by decide +kernel
theorem dX7_onFrom_36 : decode cX7_onFrom 36 = .ok (.iload_n 1, 1) := by decide +kernel
theorem dX7_onFrom_37 : decode cX7_onFrom 37 = .ok (.iconst 1, 1) := by decide +kernel
theorem dX7_onFrom_38 : decode cX7_onFrom 38 = .ok (.iadd, 1) := by decide +kernel
theorem dX7_onFrom_39 : decode cX7_onFrom 39 = .ok (.iaload, 1) := by decide +kernel
theorem dX7_onFrom_40 : decode cX7_onFrom 40 = .ok (.iload 4, 2) := by decide +kernel
theorem dX7_onFrom_42 : decode cX7_onFrom 42 = .ok (.invokevirtual 199, 3) := by decide +kernel
theorem dX7_onFrom_45 : decode cX7_onFrom 45 = .ok (.aload_n 0, 1) := by decide +kernel
theorem dX7_onFrom_46 : decode cX7_onFrom 46 = .ok (.getfield 33, 3) := by decide +kernel
theorem dX7_onFrom_49 : decode cX7_onFrom 49 = .ok (.iconst 5, 1) := by decide +kernel
theorem dX7_onFrom_50 : decode cX7_onFrom 50 = .ok (.iload_n 1, 1) := by decide +kernel
theorem dX7_onFrom_51 : decode cX7_onFrom 51 = .ok (.iconst 1, 1) := by decide +kernel
theorem dX7_onFrom_52 : decode cX7_onFrom 52 = .ok (.iadd, 1) := by decide +kernel
theorem dX7_onFrom_53 : decode cX7_onFrom 53 = .ok (.imul, 1) := by decide +kernel
theorem dX7_onFrom_54 : decode cX7_onFrom 54 = .ok (.iload 4, 2) := by decide +kernel
theorem dX7_onFrom_56 : decode cX7_onFrom 56 = .ok (.iadd, 1) := by decide +kernel
theorem dX7_onFrom_57 : decode cX7_onFrom 57 = .ok (.iaload, 1) := by decide +kernel
theorem dX7_onFrom_58 : decode cX7_onFrom 58 = .ok (.iadd, 1) := by decide +kernel
theorem dX7_onFrom_59 : decode cX7_onFrom 59 = .ok (.istore 5, 2) := by decide +kernel
theorem dX7_onFrom_61 : decode cX7_onFrom 61 = .ok (.iload 5, 2) := by decide +kernel
theorem dX7_onFrom_63 : decode cX7_onFrom 63 = .ok (.iload_n 3, 1) := by decide +kernel
theorem dX7_onFrom_64 : decode cX7_onFrom 64 = .ok (.if_icmp .ge 8, 3) := by decide +kernel
theorem dX7_onFrom_67 : decode cX7_onFrom 67 = .ok (.iload 5, 2) := by decide +kernel
theorem dX7_onFrom_69 : decode cX7_onFrom 69 = .ok (.goto 4, 3) := by decide +kernel
theorem dX7_onFrom_72 : decode cX7_onFrom 72 = .ok (.iload_n 3, 1) := by decide +kernel
theorem dX7_onFrom_73 : decode cX7_onFrom 73 = .ok (.istore_n 3, 1) := by decide +kernel
theorem dX7_onFrom_74 : decode cX7_onFrom 74 = .ok (.iinc 4 1, 3) := by decide +kernel
theorem dX7_onFrom_77 : decode cX7_onFrom 77 = .ok (.goto (-59), 3) := by decide +kernel
theorem dX7_onFrom_80 : decode cX7_onFrom 80 = .ok (.iload_n 3, 1) := by decide +kernel
theorem dX7_onFrom_81 : decode cX7_onFrom 81 = .ok (.ireturn, 1) := by decide +kernel
theorem dX7_fingers_0 : decode cX7_fingers 0 = .ok (.iload_n 1, 1) := by decide +kernel
theorem dX7_fingers_1 : decode cX7_fingers 1 = .ok (.invokestatic 80, 3) := by decide +kernel
theorem dX7_fingers_4 : decode cX7_fingers 4 = .ok (.ifCond .eq 8, 3) := by decide +kernel
theorem dX7_fingers_7 : decode cX7_fingers 7 = .ok (.iload_n 2, 1) := by decide +kernel
theorem dX7_fingers_8 : decode cX7_fingers 8 = .ok (.iconst (-1), 1) := by decide +kernel
theorem dX7_fingers_9 : decode cX7_fingers 9 = .ok (.if_icmp .ge 10, 3) := by decide +kernel
theorem dX7_fingers_12 : decode cX7_fingers 12 = .ok (.aload_n 0, 1) := by decide +kernel
theorem dX7_fingers_13 : decode cX7_fingers 13 = .ok (.bipush (-10), 2) := by decide +kernel
theorem dX7_fingers_15 : decode cX7_fingers 15 = .ok (.invokevirtual 76, 3) := by decide +kernel
theorem dX7_fingers_18 : decode cX7_fingers 18 = .ok (.ireturn, 1) := by decide +kernel
theorem dX7_fingers_19 : decode cX7_fingers 19 = .ok (.aload_n 0, 1) := by decide +kernel
theorem dX7_fingers_20 : decode cX7_fingers 20 = .ok (.iload_n 1, 1) := by decide +kernel
theorem dX7_fingers_21 : decode cX7_fingers 21 = .ok (.invokevirtual 203, 3) := by decide +kernel
theorem dX7_fingers_24 : decode cX7_fingers 24 = .ok (.aload_n 0, 1) := by decide +kernel
theorem dX7_fingers_25 : decode cX7_fingers 25 = .ok (.getfield 193, 3) := by decide +kernel
theorem dX7_fingers_28 : decode cX7_fingers 28 = .ok (.bipush 8, 2) := by decide +kernel
theorem dX7_fingers_30 : decode cX7_fingers 30 = .ok (.if_icmp .le 10, 3) := by decide +kernel
theorem dX7_fingers_33 : decode cX7_fingers 33 = .ok (.aload_n 0, 1) := by decide +kernel
theorem dX7_fingers_34 : decode cX7_fingers 34 = .ok (.bipush (-20), 2) := by decide +kernel
theorem dX7_fingers_36 : decode cX7_fingers 36 = .ok (.invokevirtual 155, 3) := by decide +kernel
theorem dX7_fingers_39 : decode cX7_fingers 39 = .ok (.ireturn, 1) := by decide +kernel
theorem dX7_fingers_40 : decode cX7_fingers 40 = .ok (.aload_n 0, 1) := by decide +kernel
theorem dX7_fingers_41 : decode cX7_fingers 41 = .ok (.getfield 193, 3) := by decide +kernel
theorem dX7_fingers_44 : decode cX7_fingers 44 = .ok (.iconst 1, 1) := by decide +kernel
theorem dX7_fingers_45 : decode cX7_fingers 45 = .ok (.isub, 1) := by decide +kernel
theorem dX7_fingers_46 : decode cX7_fingers 46 = .ok (.istore_n 3, 1) := by decide +kernel
theorem dX7_fingers_47 : decode cX7_fingers 47 = .ok (.iload_n 3, 1) := by decide +kernel
theorem dX7_fingers_48 : decode cX7_fingers 48 = .ok (.ifCond .lt 42, 3) := by decide +kernel
theorem dX7_fingers_51 : decode cX7_fingers 51 = .ok (.iconst 0, 1) := by decide +kernel
theorem dX7_fingers_52 : decode cX7_fingers 52 = .ok (.istore 4, 2) := by decide +kernel
theorem dX7_fingers_54 : decode cX7_fingers 54 = .ok (.iload 4, 2) := by decide +kernel
theorem dX7_fingers_56 : decode cX7_fingers 56 = .ok (.iconst 5, 1) := by decide +kernel
theorem dX7_fingers_57 : decode cX7_fingers 57 = .ok (.if_icmp .ge 27, 3) := by decide +kernel
theorem dX7_fingers_60 : decode cX7_fingers 60 = .ok (.aload_n 0, 1) := by decide +kernel
theorem dX7_fingers_61 : decode cX7_fingers 61 = .ok (.getfield 33, 3) := by decide +kernel
theorem dX7_fingers_64 : decode cX7_fingers 64 = .ok (.iconst 5, 1) := by decide +kernel
theorem dX7_fingers_65 : decode cX7_fingers 65 = .ok (.iload_n 3, 1) := by decide +kernel
theorem dX7_fingers_66 : decode cX7_fingers 66 = .ok (.imul, 1) := by decide +kernel
theorem dX7_fingers_67 : decode cX7_fingers 67 = .ok (.iload 4, 2) := by decide +kernel
theorem dX7_fingers_69 : decode cX7_fingers 69 = .ok (.iadd, 1) := by decide +kernel
theorem dX7_fingers_70 : decode cX7_fingers 70 = .ok (.aload_n 0, 1) := by decide +kernel
theorem dX7_fingers_71 : decode cX7_fingers 71 = .ok (.iload_n 3, 1) := by decide +kernel
theorem dX7_fingers_72 : decode cX7_fingers 72 = .ok (.iload 4, 2) := by decide +kernel
theorem dX7_fingers_74 : decode cX7_fingers 74 = .ok (.invokevirtual 207, 3) := by decide +kernel
theorem dX7_fingers_77 : decode cX7_fingers 77 = .ok (.iastore, 1) := by decide +kernel
theorem dX7_fingers_78 : decode cX7_fingers 78 = .ok (.iinc 4 1, 3) := by decide +kernel
theorem dX7_fingers_81 : decode cX7_fingers 81 = .ok (.goto (-27), 3) := by decide +kernel
theorem dX7_fingers_84 : decode cX7_fingers 84 = .ok (.iinc 3 (-1), 3) := by decide +kernel
theorem dX7_fingers_87 : decode cX7_fingers 87 = .ok (.goto (-40), 3) := by decide +kernel
theorem dX7_fingers_90 : decode cX7_fingers 90 = .ok (.iconst 0, 1) := by decide +kernel
theorem dX7_fingers_91 : decode cX7_fingers 91 = .ok (.istore_n 3, 1) := by decide +kernel
theorem dX7_fingers_92 : decode cX7_fingers 92 = .ok (.iconst 0, 1) := by decide +kernel
theorem dX7_fingers_93 : decode cX7_fingers 93 = .ok (.istore 4, 2) := by decide +kernel
theorem dX7_fingers_95 : decode cX7_fingers 95 = .ok (.iconst 0, 1) := by decide +kernel
theorem dX7_fingers_96 : decode cX7_fingers 96 = .ok (.istore 5, 2) := by decide +kernel
theorem dX7_fingers_98 : decode cX7_fingers 98 = .ok (.iload 5, 2) := by decide +kernel
theorem dX7_fingers_100 : decode cX7_fingers 100 = .ok (.aload_n 0, 1) := by decide +kernel
theorem dX7_fingers_101 : decode cX7_fingers 101 = .ok (.getfield 193, 3) := by decide +kernel
theorem dX7_fingers_104 : decode cX7_fingers 104 = .ok (.if_icmp .ge 133, 3) := by decide +kernel
theorem dX7_fingers_107 : decode cX7_fingers 107 = .ok (.iload 5, 2) := by decide +kernel
theorem dX7_fingers_109 : decode cX7_fingers 109 = .ok (.ifCond .eq 9, 3) := by decide +kernel
theorem dX7_fingers_112 : decode cX7_fingers 112 = .ok (.iload 5, 2) := by decide +kernel
theorem dX7_fingers_114 : decode cX7_fingers 114 = .ok (.iload_n 2, 1) := by decide +kernel
theorem dX7_fingers_115 : decode cX7_fingers 115 = .ok (.if_icmp .gt 122, 3) := by decide +kernel
theorem dX7_fingers_118 : decode cX7_fingers 118 = .ok (.iload_n 3, 1) := by decide +kernel
theorem dX7_fingers_119 : decode cX7_fingers 119 = .ok (.istore 6, 2) := by decide +kernel
theorem dX7_fingers_121 : decode cX7_fingers 121 = .ok (.ldc 185, 2) := by decide +kernel
theorem dX7_fingers_123 : decode cX7_fingers 123 = .ok (.istore 7, 2) := by decide +kernel
theorem dX7_fingers_125 : decode cX7_fingers 125 = .ok (.iconst 4, 1) := by decide +kernel
theorem dX7_fingers_126 : decode cX7_fingers 126 = .ok (.istore 8, 2) := by decide +kernel
theorem dX7_fingers_128 : decode cX7_fingers 128 = .ok (.iload 8, 2) := by decide +kernel
theorem dX7_fingers_130 : decode cX7_fingers 130 = .ok (.ifCond .lt 87, 3) := by decide +kernel
theorem dX7_fingers_133 : decode cX7_fingers 133 = .ok (.aload_n 0, 1) := by decide +kernel
theorem dX7_fingers_134 : decode cX7_fingers 134 = .ok (.getfield 33, 3) := by decide +kernel
theorem dX7_fingers_137 : decode cX7_fingers 137 = .ok (.iconst 5, 1) := by decide +kernel
theorem dX7_fingers_138 : decode cX7_fingers 138 = .ok (.iload 5, 2) := by decide +kernel
theorem dX7_fingers_140 : decode cX7_fingers 140 = .ok (.imul, 1) := by decide +kernel
theorem dX7_fingers_141 : decode cX7_fingers 141 = .ok (.iload 8, 2) := by decide +kernel
theorem dX7_fingers_143 : decode cX7_fingers 143 = .ok (.iadd, 1) := by decide +kernel
theorem dX7_fingers_144 : decode cX7_fingers 144 = .ok (.iaload, 1) := by decide +kernel
theorem dX7_fingers_145 : decode cX7_fingers 145 = .ok (.iload 5, 2) := by decide +kernel
theorem dX7_fingers_147 : decode cX7_fingers 147 = .ok (.ifCond .ne 7, 3) := by decide +kernel
theorem dX7_fingers_150 : decode cX7_fingers 150 = .ok (.iconst 0, 1) := by decide +kernel
theorem dX7_fingers_151 : decode cX7_fingers 151 = .ok (.goto 27, 3) := by decide +kernel
theorem dX7_fingers_154 : decode cX7_fingers 154 = .ok (.aload_n 0, 1) := by decide +kernel
theorem dX7_fingers_155 : decode cX7_fingers 155 = .ok (.aload_n 0, 1) := by decide +kernel
theorem dX7_fingers_156 : decode cX7_fingers 156 = .ok (.getfield 30, 3) := by decide +kernel
theorem dX7_fingers_159 : decode cX7_fingers 159 = .ok (.iload 5, 2) := by decide +kernel
theorem dX7_fingers_161 : decode cX7_fingers 161 = .ok (.iconst 1, 1) := by decide +kernel
theorem dX7_fingers_162 : decode cX7_fingers 162 = .ok (.isub, 1) := by decide +kernel
theorem dX7_fingers_163 : decode cX7_fingers 163 = .ok (.iaload, 1) := by decide +kernel
theorem dX7_fingers_164 : decode cX7_fingers 164 = .ok (.iload 6, 2) := by decide +kernel
theorem dX7_fingers_166 : decode cX7_fingers 166 = .ok (.aload_n 0, 1) := by decide +kernel
theorem dX7_fingers_167 : decode cX7_fingers 167 = .ok (.getfield 30, 3) := by decide +kernel
theorem dX7_fingers_170 : decode cX7_fingers 170 = .ok (.iload 5, 2) := by decide +kernel
theorem dX7_fingers_172 : decode cX7_fingers 172 = .ok (.iaload, 1) := by decide +kernel
theorem dX7_fingers_173 : decode cX7_fingers 173 = .ok (.iload 8, 2) := by decide +kernel
theorem dX7_fingers_175 : decode cX7_fingers 175 = .ok (.invokevirtual 199, 3) := by decide +kernel
theorem dX7_fingers_178 : decode cX7_fingers 178 = .ok (.iadd, 1) := by decide +kernel
theorem dX7_fingers_179 : decode cX7_fingers 179 = .ok (.istore 9, 2) := by decide +kernel
theorem dX7_fingers_181 : decode cX7_fingers 181 = .ok (.iload 9, 2) := by decide +kernel
theorem dX7_fingers_183 : decode cX7_fingers 183 = .ok (.iload 7, 2) := by decide +kernel
theorem dX7_fingers_185 : decode cX7_fingers 185 = .ok (.if_icmp .gt 8, 3) := by decide +kernel
theorem dX7_fingers_188 : decode cX7_fingers 188 = .ok (.iload 8, 2) := by decide +kernel
theorem dX7_fingers_190 : decode cX7_fingers 190 = .ok (.goto 4, 3) := by decide +kernel
theorem dX7_fingers_193 : decode cX7_fingers 193 = .ok (.iload_n 3, 1) := by decide +kernel
theorem dX7_fingers_194 : decode cX7_fingers 194 = .ok (.istore_n 3, 1) := by decide +kernel
theorem dX7_fingers_195 : decode cX7_fingers 195 = .ok (.iload 9, 2) := by decide +kernel
theorem dX7_fingers_197 : decode cX7_fingers 197 = .ok (.iload 7, 2) := by decide +kernel
theorem dX7_fingers_199 : decode cX7_fingers 199 = .ok (.if_icmp .gt 8, 3) := by decide +kernel
theorem dX7_fingers_202 : decode cX7_fingers 202 = .ok (.iload 9, 2) := by decide +kernel
theorem dX7_fingers_204 : decode cX7_fingers 204 = .ok (.goto 5, 3) := by decide +kernel
theorem dX7_fingers_207 : decode cX7_fingers 207 = .ok (.iload 7, 2) := by decide +kernel
theorem dX7_fingers_209 : decode cX7_fingers 209 = .ok (.istore 7, 2) := by decide +kernel
theorem dX7_fingers_211 : decode cX7_fingers 211 = .ok (.iinc 8 (-1), 3) := by decide +kernel
theorem dX7_fingers_214 : decode cX7_fingers 214 = .ok (.goto (-86), 3) := by decide +kernel
theorem dX7_fingers_217 : decode cX7_fingers 217 = .ok (.iload 5, 2) := by decide +kernel
theorem dX7_fingers_219 : decode cX7_fingers 219 = .ok (.ifCond .ne 8, 3) := by decide +kernel
theorem dX7_fingers_222 : decode cX7_fingers 222 = .ok (.iload 7, 2) := by decide +kernel
theorem dX7_fingers_224 : decode cX7_fingers 224 = .ok (.goto 5, 3) := by decide +kernel
theorem dX7_fingers_227 : decode cX7_fingers 227 = .ok (.iload 4, 2) := by decide +kernel
theorem dX7_fingers_229 : decode cX7_fingers 229 = .ok (.istore 4, 2) := by decide +kernel
theorem dX7_fingers_231 : decode cX7_fingers 231 = .ok (.iinc 5 1, 3) := by decide +kernel
theorem dX7_fingers_234 : decode cX7_fingers 234 = .ok (.goto (-136), 3) := by decide +kernel
theorem dX7_fingers_237 : decode cX7_fingers 237 = .ok (.iload_n 2, 1) := by decide +kernel
theorem dX7_fingers_238 : decode cX7_fingers 238 = .ok (.iconst (-1), 1) := by decide +kernel
theorem dX7_fingers_239 : decode cX7_fingers 239 = .ok (.if_icmp .ne 8, 3) := by decide +kernel
theorem dX7_fingers_242 : decode cX7_fingers 242 = .ok (.iload 4, 2) := by decide +kernel
theorem dX7_fingers_244 : decode cX7_fingers 244 = .ok (.goto 17, 3) := by decide +kernel
theorem dX7_fingers_247 : decode cX7_fingers 247 = .ok (.iload_n 2, 1) := by decide +kernel
theorem dX7_fingers_248 : decode cX7_fingers 248 = .ok (.aload_n 0, 1) := by decide +kernel
theorem dX7_fingers_249 : decode cX7_fingers 249 = .ok (.getfield 193, 3) := by decide +kernel
theorem dX7_fingers_252 : decode cX7_fingers 252 = .ok (.if_icmp .ge 7, 3) := by decide +kernel
theorem dX7_fingers_255 : decode cX7_fingers 255 = .ok (.iload_n 3, 1) := by decide +kernel
theorem dX7_fingers_256 : decode cX7_fingers 256 = .ok (.goto 5, 3) := by decide +kernel
theorem dX7_fingers_259 : decode cX7_fingers 259 = .ok (.bipush (-5), 2) := by decide +kernel
theorem dX7_fingers_261 : decode cX7_fingers 261 = .ok (.ireturn, 1) := by decide +kernel
theorem dX7_pedal_0 : decode cX7_pedal 0 = .ok (.iload_n 2, 1) := by decide +kernel
theorem dX7_pedal_1 : decode cX7_pedal 1 = .ok (.i2l, 1) := by decide +kernel
theorem dX7_pedal_2 : decode cX7_pedal 2 = .ok (.lconst 0, 1) := by decide +kernel
theorem dX7_pedal_3 : decode cX7_pedal 3 = .ok (.ldc2_w 210, 3) := by decide +kernel
theorem dX7_pedal_6 : decode cX7_pedal 6 = .ok (.invokestatic 68, 3) := by decide +kernel
theorem dX7_pedal_9 : decode cX7_pedal 9 = .ok (.ifCond .eq 14, 3) := by decide +kernel
theorem dX7_pedal_12 : decode cX7_pedal 12 = .ok (.iload_n 1, 1) := by decide +kernel
theorem dX7_pedal_13 : decode cX7_pedal 13 = .ok (.i2l, 1) := by decide +kernel
theorem dX7_pedal_14 : decode cX7_pedal 14 = .ok (.lconst 0, 1) := by decide +kernel
theorem dX7_pedal_15 : decode cX7_pedal 15 = .ok (.iload_n 2, 1) := by decide +kernel
theorem dX7_pedal_16 : decode cX7_pedal 16 = .ok (.i2l, 1) := by decide +kernel
theorem dX7_pedal_17 : decode cX7_pedal 17 = .ok (.invokestatic 68, 3) := by decide +kernel
theorem dX7_pedal_20 : decode cX7_pedal 20 = .ok (.ifCond .ne 10, 3) := by decide +kernel
theorem dX7_pedal_23 : decode cX7_pedal 23 = .ok (.aload_n 0, 1) := by decide +kernel
theorem dX7_pedal_24 : decode cX7_pedal 24 = .ok (.bipush (-2), 2) := by decide +kernel
theorem dX7_pedal_26 : decode cX7_pedal 26 = .ok (.invokevirtual 76, 3) := by decide +kernel
theorem dX7_pedal_29 : decode cX7_pedal 29 = .ok (.ireturn, 1) := by decide +kernel
theorem dX7_pedal_30 : decode cX7_pedal 30 = .ok (.aload_n 0, 1) := by decide +kernel
theorem dX7_pedal_31 : decode cX7_pedal 31 = .ok (.getfield 7, 3) := by decide +kernel
theorem dX7_pedal_34 : decode cX7_pedal 34 = .ok (.iconst 2, 1) := by decide +kernel
theorem dX7_pedal_35 : decode cX7_pedal 35 = .ok (.iload_n 1, 1) := by decide +kernel
theorem dX7_pedal_36 : decode cX7_pedal 36 = .ok (.iastore, 1) := by decide +kernel
theorem dX7_pedal_37 : decode cX7_pedal 37 = .ok (.aload_n 0, 1) := by decide +kernel
theorem dX7_pedal_38 : decode cX7_pedal 38 = .ok (.getfield 7, 3) := by decide +kernel
theorem dX7_pedal_41 : decode cX7_pedal 41 = .ok (.iconst 3, 1) := by decide +kernel
theorem dX7_pedal_42 : decode cX7_pedal 42 = .ok (.iload_n 2, 1) := by decide +kernel
theorem dX7_pedal_43 : decode cX7_pedal 43 = .ok (.iastore, 1) := by decide +kernel
theorem dX7_pedal_44 : decode cX7_pedal 44 = .ok (.iconst 1, 1) := by decide +kernel
theorem dX7_pedal_45 : decode cX7_pedal 45 = .ok (.ireturn, 1) := by decide +kernel
theorem dX7_blursBy_0 : decode cX7_blursBy 0 = .ok (.iconst 0, 1) := by decide +kernel
theorem dX7_blursBy_1 : decode cX7_blursBy 1 = .ok (.istore_n 3, 1) := by decide +kernel
theorem dX7_blursBy_2 : decode cX7_blursBy 2 = .ok (.iconst 0, 1) := by decide +kernel
theorem dX7_blursBy_3 : decode cX7_blursBy 3 = .ok (.istore 4, 2) := by decide +kernel
theorem dX7_blursBy_5 : decode cX7_blursBy 5 = .ok (.iload 4, 2) := by decide +kernel
theorem dX7_blursBy_7 : decode cX7_blursBy 7 = .ok (.aload_n 0, 1) := by decide +kernel
theorem dX7_blursBy_8 : decode cX7_blursBy 8 = .ok (.invokevirtual 64, 3) := by decide +kernel
theorem dX7_blursBy_11 : decode cX7_blursBy 11 = .ok (.if_icmp .ge 167, 3) := by decide +kernel
theorem dX7_blursBy_14 : decode cX7_blursBy 14 = .ok (.iload 4, 2) := by decide +kernel
theorem dX7_blursBy_16 : decode cX7_blursBy 16 = .ok (.iconst 1, 1) := by decide +kernel
theorem dX7_blursBy_17 : decode cX7_blursBy 17 = .ok (.iadd, 1) := by decide +kernel
theorem dX7_blursBy_18 : decode cX7_blursBy 18 = .ok (.istore 5, 2) := by decide +kernel
theorem dX7_blursBy_20 : decode cX7_blursBy 20 = .ok (.iload 5, 2) := by decide +kernel
theorem dX7_blursBy_22 : decode cX7_blursBy 22 = .ok (.aload_n 0, 1) := by decide +kernel
theorem dX7_blursBy_23 : decode cX7_blursBy 23 = .ok (.invokevirtual 64, 3) := by decide +kernel
theorem dX7_blursBy_26 : decode cX7_blursBy 26 = .ok (.if_icmp .ge 146, 3) := by decide +kernel
theorem dX7_blursBy_29 : decode cX7_blursBy 29 = .ok (.aload_n 0, 1) := by decide +kernel
theorem dX7_blursBy_30 : decode cX7_blursBy 30 = .ok (.iload 4, 2) := by decide +kernel
theorem dX7_blursBy_32 : decode cX7_blursBy 32 = .ok (.iconst 1, 1) := by decide +kernel
theorem dX7_blursBy_33 : decode cX7_blursBy 33 = .ok (.invokevirtual 110, 3) := by decide +kernel
theorem dX7_blursBy_36 : decode cX7_blursBy 36 = .ok (.aload_n 0, 1) := by decide +kernel
theorem dX7_blursBy_37 : decode cX7_blursBy 37 = .ok (.iload 5, 2) := by decide +kernel
theorem dX7_blursBy_39 : decode cX7_blursBy 39 = .ok (.iconst 1, 1) := by decide +kernel
theorem dX7_blursBy_40 : decode cX7_blursBy 40 = .ok (.invokevirtual 110, 3) := by decide +kernel
theorem dX7_blursBy_43 : decode cX7_blursBy 43 = .ok (.if_icmp .le 13, 3) := by decide +kernel
theorem dX7_blursBy_46 : decode cX7_blursBy 46 = .ok (.aload_n 0, 1) := by decide +kernel
theorem dX7_blursBy_47 : decode cX7_blursBy 47 = .ok (.iload 4, 2) := by decide +kernel
theorem dX7_blursBy_49 : decode cX7_blursBy 49 = .ok (.iconst 1, 1) := by decide +kernel
theorem dX7_blursBy_50 : decode cX7_blursBy 50 = .ok (.invokevirtual 110, 3) := by decide +kernel
theorem dX7_blursBy_53 : decode cX7_blursBy 53 = .ok (.goto 10, 3) := by decide +kernel
theorem dX7_blursBy_56 : decode cX7_blursBy 56 = .ok (.aload_n 0, 1) := by decide +kernel
theorem dX7_blursBy_57 : decode cX7_blursBy 57 = .ok (.iload 5, 2) := by decide +kernel
theorem dX7_blursBy_59 : decode cX7_blursBy 59 = .ok (.iconst 1, 1) := by decide +kernel
theorem dX7_blursBy_60 : decode cX7_blursBy 60 = .ok (.invokevirtual 110, 3) := by decide +kernel
theorem dX7_blursBy_63 : decode cX7_blursBy 63 = .ok (.istore 6, 2) := by decide +kernel
theorem dX7_blursBy_65 : decode cX7_blursBy 65 = .ok (.aload_n 0, 1) := by decide +kernel
theorem dX7_blursBy_66 : decode cX7_blursBy 66 = .ok (.iload 4, 2) := by decide +kernel
theorem dX7_blursBy_68 : decode cX7_blursBy 68 = .ok (.iconst 1, 1) := by decide +kernel
theorem dX7_blursBy_69 : decode cX7_blursBy 69 = .ok (.invokevirtual 110, 3) := by decide +kernel
theorem dX7_blursBy_72 : decode cX7_blursBy 72 = .ok (.aload_n 0, 1) := by decide +kernel
theorem dX7_blursBy_73 : decode cX7_blursBy 73 = .ok (.iload 5, 2) := by decide +kernel
theorem dX7_blursBy_75 : decode cX7_blursBy 75 = .ok (.iconst 1, 1) := by decide +kernel
theorem dX7_blursBy_76 : decode cX7_blursBy 76 = .ok (.invokevirtual 110, 3) := by decide +kernel
theorem dX7_blursBy_79 : decode cX7_blursBy 79 = .ok (.iadd, 1) := by decide +kernel
theorem dX7_blursBy_80 : decode cX7_blursBy 80 = .ok (.iload 6, 2) := by decide +kernel
theorem dX7_blursBy_82 : decode cX7_blursBy 82 = .ok (.isub, 1) := by decide +kernel
theorem dX7_blursBy_83 : decode cX7_blursBy 83 = .ok (.istore 7, 2) := by decide +kernel
theorem dX7_blursBy_85 : decode cX7_blursBy 85 = .ok (.aload_n 0, 1) := by decide +kernel
theorem dX7_blursBy_86 : decode cX7_blursBy 86 = .ok (.iload 4, 2) := by decide +kernel
theorem dX7_blursBy_88 : decode cX7_blursBy 88 = .ok (.invokevirtual 123, 3) := by decide +kernel
theorem dX7_blursBy_91 : decode cX7_blursBy 91 = .ok (.ifCond .eq 56, 3) := by decide +kernel
theorem dX7_blursBy_94 : decode cX7_blursBy 94 = .ok (.aload_n 0, 1) := by decide +kernel
theorem dX7_blursBy_95 : decode cX7_blursBy 95 = .ok (.iload 5, 2) := by decide +kernel
theorem dX7_blursBy_97 : decode cX7_blursBy 97 = .ok (.invokevirtual 123, 3) := by decide +kernel
theorem dX7_blursBy_100 : decode cX7_blursBy 100 = .ok (.ifCond .eq 47, 3) := by decide +kernel
theorem dX7_blursBy_103 : decode cX7_blursBy 103 = .ok (.aload_n 0, 1) := by decide +kernel
theorem dX7_blursBy_104 : decode cX7_blursBy 104 = .ok (.iload 4, 2) := by decide +kernel
theorem dX7_blursBy_106 : decode cX7_blursBy 106 = .ok (.iconst 0, 1) := by decide +kernel
theorem dX7_blursBy_107 : decode cX7_blursBy 107 = .ok (.invokevirtual 110, 3) := by decide +kernel
theorem dX7_blursBy_110 : decode cX7_blursBy 110 = .ok (.aload_n 0, 1) := by decide +kernel
theorem dX7_blursBy_111 : decode cX7_blursBy 111 = .ok (.iload 5, 2) := by decide +kernel
theorem dX7_blursBy_113 : decode cX7_blursBy 113 = .ok (.iconst 0, 1) := by decide +kernel
theorem dX7_blursBy_114 : decode cX7_blursBy 114 = .ok (.invokevirtual 110, 3) := by decide +kernel
theorem dX7_blursBy_117 : decode cX7_blursBy 117 = .ok (.invokestatic 120, 3) := by decide +kernel
theorem dX7_blursBy_120 : decode cX7_blursBy 120 = .ok (.i2l, 1) := by decide +kernel
theorem dX7_blursBy_121 : decode cX7_blursBy 121 = .ok (.lconst 1, 1) := by decide +kernel
theorem dX7_blursBy_122 : decode cX7_blursBy 122 = .ok (.ldc2_w 183, 3) := by decide +kernel
theorem dX7_blursBy_125 : decode cX7_blursBy 125 = .ok (.invokestatic 68, 3) := by decide +kernel
theorem dX7_blursBy_128 : decode cX7_blursBy 128 = .ok (.ifCond .eq 19, 3) := by decide +kernel
theorem dX7_blursBy_131 : decode cX7_blursBy 131 = .ok (.iload 7, 2) := by decide +kernel
theorem dX7_blursBy_133 : decode cX7_blursBy 133 = .ok (.iload_n 1, 1) := by decide +kernel
theorem dX7_blursBy_134 : decode cX7_blursBy 134 = .ok (.if_icmp .lt 13, 3) := by decide +kernel
theorem dX7_blursBy_137 : decode cX7_blursBy 137 = .ok (.iload 6, 2) := by decide +kernel
theorem dX7_blursBy_139 : decode cX7_blursBy 139 = .ok (.iload_n 2, 1) := by decide +kernel
theorem dX7_blursBy_140 : decode cX7_blursBy 140 = .ok (.if_icmp .ge 7, 3) := by decide +kernel
theorem dX7_blursBy_143 : decode cX7_blursBy 143 = .ok (.iconst 1, 1) := by decide +kernel
theorem dX7_blursBy_144 : decode cX7_blursBy 144 = .ok (.goto 4, 3) := by decide +kernel
theorem dX7_blursBy_147 : decode cX7_blursBy 147 = .ok (.iconst 0, 1) := by decide +kernel
theorem dX7_blursBy_148 : decode cX7_blursBy 148 = .ok (.istore 8, 2) := by decide +kernel
theorem dX7_blursBy_150 : decode cX7_blursBy 150 = .ok (.iload_n 3, 1) := by decide +kernel
theorem dX7_blursBy_151 : decode cX7_blursBy 151 = .ok (.iload 8, 2) := by decide +kernel
theorem dX7_blursBy_153 : decode cX7_blursBy 153 = .ok (.ifCond .eq 10, 3) := by decide +kernel
theorem dX7_blursBy_156 : decode cX7_blursBy 156 = .ok (.iload_n 2, 1) := by decide +kernel
theorem dX7_blursBy_157 : decode cX7_blursBy 157 = .ok (.iload 6, 2) := by decide +kernel
theorem dX7_blursBy_159 : decode cX7_blursBy 159 = .ok (.isub, 1) := by decide +kernel
theorem dX7_blursBy_160 : decode cX7_blursBy 160 = .ok (.goto 4, 3) := by decide +kernel
theorem dX7_blursBy_163 : decode cX7_blursBy 163 = .ok (.iconst 0, 1) := by decide +kernel
theorem dX7_blursBy_164 : decode cX7_blursBy 164 = .ok (.iadd, 1) := by decide +kernel
theorem dX7_blursBy_165 : decode cX7_blursBy 165 = .ok (.istore_n 3, 1) := by decide +kernel
theorem dX7_blursBy_166 : decode cX7_blursBy 166 = .ok (.iinc 5 1, 3) := by decide +kernel
theorem dX7_blursBy_169 : decode cX7_blursBy 169 = .ok (.goto (-149), 3) := by decide +kernel
theorem dX7_blursBy_172 : decode cX7_blursBy 172 = .ok (.iinc 4 1, 3) := by decide +kernel
theorem dX7_blursBy_175 : decode cX7_blursBy 175 = .ok (.goto (-170), 3) := by decide +kernel
theorem dX7_blursBy_178 : decode cX7_blursBy 178 = .ok (.iload_n 3, 1) := by decide +kernel
theorem dX7_blursBy_179 : decode cX7_blursBy 179 = .ok (.ireturn, 1) := by decide +kernel
theorem dX7_begins_0 : decode cX7_begins 0 = .ok (.iconst 0, 1) := by decide +kernel
theorem dX7_begins_1 : decode cX7_begins 1 = .ok (.istore_n 3, 1) := by decide +kernel
theorem dX7_begins_2 : decode cX7_begins 2 = .ok (.iconst 0, 1) := by decide +kernel
theorem dX7_begins_3 : decode cX7_begins 3 = .ok (.istore 4, 2) := by decide +kernel
theorem dX7_begins_5 : decode cX7_begins 5 = .ok (.iload 4, 2) := by decide +kernel
theorem dX7_begins_7 : decode cX7_begins 7 = .ok (.aload_n 0, 1) := by decide +kernel
theorem dX7_begins_8 : decode cX7_begins 8 = .ok (.invokevirtual 64, 3) := by decide +kernel
theorem dX7_begins_11 : decode cX7_begins 11 = .ok (.if_icmp .ge 45, 3) := by decide +kernel
theorem dX7_begins_14 : decode cX7_begins 14 = .ok (.iload_n 3, 1) := by decide +kernel
theorem dX7_begins_15 : decode cX7_begins 15 = .ok (.ifCond .ne 29, 3) := by decide +kernel
theorem dX7_begins_18 : decode cX7_begins 18 = .ok (.iload 4, 2) := by decide +kernel
theorem dX7_begins_20 : decode cX7_begins 20 = .ok (.iload_n 2, 1) := by decide +kernel
theorem dX7_begins_21 : decode cX7_begins 21 = .ok (.if_icmp .eq 27, 3) := by decide +kernel
theorem dX7_begins_24 : decode cX7_begins 24 = .ok (.aload_n 0, 1) := by decide +kernel
theorem dX7_begins_25 : decode cX7_begins 25 = .ok (.iload 4, 2) := by decide +kernel
theorem dX7_begins_27 : decode cX7_begins 27 = .ok (.invokevirtual 123, 3) := by decide +kernel
theorem dX7_begins_30 : decode cX7_begins 30 = .ok (.ifCond .eq 18, 3) := by decide +kernel
theorem dX7_begins_33 : decode cX7_begins 33 = .ok (.aload_n 0, 1) := by decide +kernel
theorem dX7_begins_34 : decode cX7_begins 34 = .ok (.iload 4, 2) := by decide +kernel
theorem dX7_begins_36 : decode cX7_begins 36 = .ok (.iconst 1, 1) := by decide +kernel
theorem dX7_begins_37 : decode cX7_begins 37 = .ok (.invokevirtual 110, 3) := by decide +kernel
theorem dX7_begins_40 : decode cX7_begins 40 = .ok (.iload_n 1, 1) := by decide +kernel
theorem dX7_begins_41 : decode cX7_begins 41 = .ok (.if_icmp .ne 7, 3) := by decide +kernel
theorem dX7_begins_44 : decode cX7_begins 44 = .ok (.iconst 1, 1) := by decide +kernel
theorem dX7_begins_45 : decode cX7_begins 45 = .ok (.goto 4, 3) := by decide +kernel
theorem dX7_begins_48 : decode cX7_begins 48 = .ok (.iconst 0, 1) := by decide +kernel
theorem dX7_begins_49 : decode cX7_begins 49 = .ok (.istore_n 3, 1) := by decide +kernel
theorem dX7_begins_50 : decode cX7_begins 50 = .ok (.iinc 4 1, 3) := by decide +kernel
theorem dX7_begins_53 : decode cX7_begins 53 = .ok (.goto (-48), 3) := by decide +kernel
theorem dX7_begins_56 : decode cX7_begins 56 = .ok (.iload_n 3, 1) := by decide +kernel
theorem dX7_begins_57 : decode cX7_begins 57 = .ok (.ireturn, 1) := by decide +kernel
theorem dX7_joinsBy_0 : decode cX7_joinsBy 0 = .ok (.iconst 0, 1) := by decide +kernel
theorem dX7_joinsBy_1 : decode cX7_joinsBy 1 = .ok (.istore_n 3, 1) := by decide +kernel
theorem dX7_joinsBy_2 : decode cX7_joinsBy 2 = .ok (.iconst 0, 1) := by decide +kernel
theorem dX7_joinsBy_3 : decode cX7_joinsBy 3 = .ok (.istore 4, 2) := by decide +kernel
theorem dX7_joinsBy_5 : decode cX7_joinsBy 5 = .ok (.iload 4, 2) := by decide +kernel
theorem dX7_joinsBy_7 : decode cX7_joinsBy 7 = .ok (.aload_n 0, 1) := by decide +kernel
theorem dX7_joinsBy_8 : decode cX7_joinsBy 8 = .ok (.invokevirtual 64, 3) := by decide +kernel
theorem dX7_joinsBy_11 : decode cX7_joinsBy 11 = .ok (.if_icmp .ge 59, 3) := by decide +kernel
theorem dX7_joinsBy_14 : decode cX7_joinsBy 14 = .ok (.aload_n 0, 1) := by decide +kernel
theorem dX7_joinsBy_15 : decode cX7_joinsBy 15 = .ok (.iload 4, 2) := by decide +kernel
theorem dX7_joinsBy_17 : decode cX7_joinsBy 17 = .ok (.invokevirtual 114, 3) := by decide +kernel
theorem dX7_joinsBy_20 : decode cX7_joinsBy 20 = .ok (.istore 5, 2) := by decide +kernel
theorem dX7_joinsBy_22 : decode cX7_joinsBy 22 = .ok (.iload_n 3, 1) := by decide +kernel
theorem dX7_joinsBy_23 : decode cX7_joinsBy 23 = .ok (.aload_n 0, 1) := by decide +kernel
theorem dX7_joinsBy_24 : decode cX7_joinsBy 24 = .ok (.iload 4, 2) := by decide +kernel
theorem dX7_joinsBy_26 : decode cX7_joinsBy 26 = .ok (.invokevirtual 123, 3) := by decide +kernel
theorem dX7_joinsBy_29 : decode cX7_joinsBy 29 = .ok (.ifCond .eq 32, 3) := by decide +kernel
theorem dX7_joinsBy_32 : decode cX7_joinsBy 32 = .ok (.iload 5, 2) := by decide +kernel
theorem dX7_joinsBy_34 : decode cX7_joinsBy 34 = .ok (.iconst 1, 1) := by decide +kernel
theorem dX7_joinsBy_35 : decode cX7_joinsBy 35 = .ok (.isub, 1) := by decide +kernel
theorem dX7_joinsBy_36 : decode cX7_joinsBy 36 = .ok (.iload_n 1, 1) := by decide +kernel
theorem dX7_joinsBy_37 : decode cX7_joinsBy 37 = .ok (.if_icmp .lt 24, 3) := by decide +kernel
theorem dX7_joinsBy_40 : decode cX7_joinsBy 40 = .ok (.iload 5, 2) := by decide +kernel
theorem dX7_joinsBy_42 : decode cX7_joinsBy 42 = .ok (.iload_n 2, 1) := by decide +kernel
theorem dX7_joinsBy_43 : decode cX7_joinsBy 43 = .ok (.if_icmp .ge 18, 3) := by decide +kernel
theorem dX7_joinsBy_46 : decode cX7_joinsBy 46 = .ok (.aload_n 0, 1) := by decide +kernel
theorem dX7_joinsBy_47 : decode cX7_joinsBy 47 = .ok (.iload 5, 2) := by decide +kernel
theorem dX7_joinsBy_49 : decode cX7_joinsBy 49 = .ok (.iload 4, 2) := by decide +kernel
theorem dX7_joinsBy_51 : decode cX7_joinsBy 51 = .ok (.invokevirtual 212, 3) := by decide +kernel
theorem dX7_joinsBy_54 : decode cX7_joinsBy 54 = .ok (.ifCond .eq 7, 3) := by decide +kernel
theorem dX7_joinsBy_57 : decode cX7_joinsBy 57 = .ok (.iconst 1, 1) := by decide +kernel
theorem dX7_joinsBy_58 : decode cX7_joinsBy 58 = .ok (.goto 4, 3) := by decide +kernel
theorem dX7_joinsBy_61 : decode cX7_joinsBy 61 = .ok (.iconst 0, 1) := by decide +kernel
theorem dX7_joinsBy_62 : decode cX7_joinsBy 62 = .ok (.iadd, 1) := by decide +kernel
theorem dX7_joinsBy_63 : decode cX7_joinsBy 63 = .ok (.istore_n 3, 1) := by decide +kernel
theorem dX7_joinsBy_64 : decode cX7_joinsBy 64 = .ok (.iinc 4 1, 3) := by decide +kernel
theorem dX7_joinsBy_67 : decode cX7_joinsBy 67 = .ok (.goto (-62), 3) := by decide +kernel
theorem dX7_joinsBy_70 : decode cX7_joinsBy 70 = .ok (.iload_n 3, 1) := by decide +kernel
theorem dX7_joinsBy_71 : decode cX7_joinsBy 71 = .ok (.ireturn, 1) := by decide +kernel
theorem dX7_blurs_0 : decode cX7_blurs 0 = .ok (.iload_n 1, 1) := by decide +kernel
theorem dX7_blurs_1 : decode cX7_blurs 1 = .ok (.ifCond .ne 22, 3) := by decide +kernel
theorem dX7_blurs_4 : decode cX7_blurs 4 = .ok (.aload_n 0, 1) := by decide +kernel
theorem dX7_blurs_5 : decode cX7_blurs 5 = .ok (.aload_n 0, 1) := by decide +kernel
theorem dX7_blurs_6 : decode cX7_blurs 6 = .ok (.getfield 7, 3) := by decide +kernel
theorem dX7_blurs_9 : decode cX7_blurs 9 = .ok (.iconst 2, 1) := by decide +kernel
theorem dX7_blurs_10 : decode cX7_blurs 10 = .ok (.iaload, 1) := by decide +kernel
theorem dX7_blurs_11 : decode cX7_blurs 11 = .ok (.aload_n 0, 1) := by decide +kernel
theorem dX7_blurs_12 : decode cX7_blurs 12 = .ok (.getfield 7, 3) := by decide +kernel
theorem dX7_blurs_15 : decode cX7_blurs 15 = .ok (.iconst 3, 1) := by decide +kernel
theorem dX7_blurs_16 : decode cX7_blurs 16 = .ok (.iaload, 1) := by decide +kernel
theorem dX7_blurs_17 : decode cX7_blurs 17 = .ok (.invokevirtual 215, 3) := by decide +kernel
theorem dX7_blurs_20 : decode cX7_blurs 20 = .ok (.goto 33, 3) := by decide +kernel
theorem dX7_blurs_23 : decode cX7_blurs 23 = .ok (.iload_n 1, 1) := by decide +kernel
theorem dX7_blurs_24 : decode cX7_blurs 24 = .ok (.iconst 1, 1) := by decide +kernel
theorem dX7_blurs_25 : decode cX7_blurs 25 = .ok (.if_icmp .ne 22, 3) := by decide +kernel
theorem dX7_blurs_28 : decode cX7_blurs 28 = .ok (.aload_n 0, 1) := by decide +kernel
theorem dX7_blurs_29 : decode cX7_blurs 29 = .ok (.aload_n 0, 1) := by decide +kernel
theorem dX7_blurs_30 : decode cX7_blurs 30 = .ok (.getfield 7, 3) := by decide +kernel
theorem dX7_blurs_33 : decode cX7_blurs 33 = .ok (.iconst 2, 1) := by decide +kernel
theorem dX7_blurs_34 : decode cX7_blurs 34 = .ok (.iaload, 1) := by decide +kernel
theorem dX7_blurs_35 : decode cX7_blurs 35 = .ok (.aload_n 0, 1) := by decide +kernel
theorem dX7_blurs_36 : decode cX7_blurs 36 = .ok (.getfield 7, 3) := by decide +kernel
theorem dX7_blurs_39 : decode cX7_blurs 39 = .ok (.iconst 3, 1) := by decide +kernel
theorem dX7_blurs_40 : decode cX7_blurs 40 = .ok (.iaload, 1) := by decide +kernel
theorem dX7_blurs_41 : decode cX7_blurs 41 = .ok (.invokevirtual 218, 3) := by decide +kernel
theorem dX7_blurs_44 : decode cX7_blurs 44 = .ok (.goto 9, 3) := by decide +kernel
theorem dX7_blurs_47 : decode cX7_blurs 47 = .ok (.aload_n 0, 1) := by decide +kernel
theorem dX7_blurs_48 : decode cX7_blurs 48 = .ok (.bipush (-2), 2) := by decide +kernel
theorem dX7_blurs_50 : decode cX7_blurs 50 = .ok (.invokevirtual 76, 3) := by decide +kernel
theorem dX7_blurs_53 : decode cX7_blurs 53 = .ok (.ireturn, 1) := by decide +kernel
theorem dX7_best_0 : decode cX7_best 0 = .ok (.iload_n 1, 1) := by decide +kernel
theorem dX7_best_1 : decode cX7_best 1 = .ok (.i2l, 1) := by decide +kernel
theorem dX7_best_2 : decode cX7_best 2 = .ok (.lconst 0, 1) := by decide +kernel
theorem dX7_best_3 : decode cX7_best 3 = .ok (.lconst 1, 1) := by decide +kernel
theorem dX7_best_4 : decode cX7_best 4 = .ok (.invokestatic 68, 3) := by decide +kernel
theorem dX7_best_7 : decode cX7_best 7 = .ok (.ifCond .ne 10, 3) := by decide +kernel
theorem dX7_best_10 : decode cX7_best 10 = .ok (.aload_n 0, 1) := by decide +kernel
theorem dX7_best_11 : decode cX7_best 11 = .ok (.bipush (-2), 2) := by decide +kernel
theorem dX7_best_13 : decode cX7_best 13 = .ok (.invokevirtual 76, 3) := by decide +kernel
theorem dX7_best_16 : decode cX7_best 16 = .ok (.ireturn, 1) := by decide +kernel
theorem dX7_best_17 : decode cX7_best 17 = .ok (.iconst 0, 1) := by decide +kernel
theorem dX7_best_18 : decode cX7_best 18 = .ok (.istore_n 2, 1) := by decide +kernel
theorem dX7_best_19 : decode cX7_best 19 = .ok (.iconst 0, 1) := by decide +kernel
theorem dX7_best_20 : decode cX7_best 20 = .ok (.istore_n 3, 1) := by decide +kernel
theorem dX7_best_21 : decode cX7_best 21 = .ok (.iconst 1, 1) := by decide +kernel
theorem dX7_best_22 : decode cX7_best 22 = .ok (.istore 4, 2) := by decide +kernel
theorem dX7_best_24 : decode cX7_best 24 = .ok (.iload 4, 2) := by decide +kernel
theorem dX7_best_26 : decode cX7_best 26 = .ok (.bipush 16, 2) := by decide +kernel
theorem dX7_best_28 : decode cX7_best 28 = .ok (.if_icmp .gt 88, 3) := by decide +kernel
theorem dX7_best_31 : decode cX7_best 31 = .ok (.iconst 0, 1) := by decide +kernel
theorem dX7_best_32 : decode cX7_best 32 = .ok (.istore 5, 2) := by decide +kernel
theorem dX7_best_34 : decode cX7_best 34 = .ok (.iload 5, 2) := by decide +kernel
theorem dX7_best_36 : decode cX7_best 36 = .ok (.iload 4, 2) := by decide +kernel
theorem dX7_best_38 : decode cX7_best 38 = .ok (.iadd, 1) := by decide +kernel
theorem dX7_best_39 : decode cX7_best 39 = .ok (.bipush 64, 2) := by decide +kernel
theorem dX7_best_41 : decode cX7_best 41 = .ok (.if_icmp .gt 69, 3) := by decide +kernel
theorem dX7_best_44 : decode cX7_best 44 = .ok (.aload_n 0, 1) := by decide +kernel
theorem dX7_best_45 : decode cX7_best 45 = .ok (.iload 5, 2) := by decide +kernel
theorem dX7_best_47 : decode cX7_best 47 = .ok (.iload 5, 2) := by decide +kernel
theorem dX7_best_49 : decode cX7_best 49 = .ok (.iload 4, 2) := by decide +kernel
theorem dX7_best_51 : decode cX7_best 51 = .ok (.iadd, 1) := by decide +kernel
theorem dX7_best_52 : decode cX7_best 52 = .ok (.invokevirtual 218, 3) := by decide +kernel
theorem dX7_best_55 : decode cX7_best 55 = .ok (.aload_n 0, 1) := by decide +kernel
theorem dX7_best_56 : decode cX7_best 56 = .ok (.iload 5, 2) := by decide +kernel
theorem dX7_best_58 : decode cX7_best 58 = .ok (.iload 5, 2) := by decide +kernel
theorem dX7_best_60 : decode cX7_best 60 = .ok (.iload 4, 2) := by decide +kernel
theorem dX7_best_62 : decode cX7_best 62 = .ok (.iadd, 1) := by decide +kernel
theorem dX7_best_63 : decode cX7_best 63 = .ok (.invokevirtual 215, 3) := by decide +kernel
theorem dX7_best_66 : decode cX7_best 66 = .ok (.isub, 1) := by decide +kernel
theorem dX7_best_67 : decode cX7_best 67 = .ok (.istore 6, 2) := by decide +kernel
theorem dX7_best_69 : decode cX7_best 69 = .ok (.iload 6, 2) := by decide +kernel
theorem dX7_best_71 : decode cX7_best 71 = .ok (.iload_n 2, 1) := by decide +kernel
theorem dX7_best_72 : decode cX7_best 72 = .ok (.if_icmp .le 17, 3) := by decide +kernel
theorem dX7_best_75 : decode cX7_best 75 = .ok (.bipush 100, 2) := by decide +kernel
theorem dX7_best_77 : decode cX7_best 77 = .ok (.iload 5, 2) := by decide +kernel
theorem dX7_best_79 : decode cX7_best 79 = .ok (.imul, 1) := by decide +kernel
theorem dX7_best_80 : decode cX7_best 80 = .ok (.iload 5, 2) := by decide +kernel
theorem dX7_best_82 : decode cX7_best 82 = .ok (.iadd, 1) := by decide +kernel
theorem dX7_best_83 : decode cX7_best 83 = .ok (.iload 4, 2) := by decide +kernel
theorem dX7_best_85 : decode cX7_best 85 = .ok (.iadd, 1) := by decide +kernel
theorem dX7_best_86 : decode cX7_best 86 = .ok (.goto 4, 3) := by decide +kernel
theorem dX7_best_89 : decode cX7_best 89 = .ok (.iload_n 3, 1) := by decide +kernel
theorem dX7_best_90 : decode cX7_best 90 = .ok (.istore_n 3, 1) := by decide +kernel
theorem dX7_best_91 : decode cX7_best 91 = .ok (.iload 6, 2) := by decide +kernel
theorem dX7_best_93 : decode cX7_best 93 = .ok (.iload_n 2, 1) := by decide +kernel
theorem dX7_best_94 : decode cX7_best 94 = .ok (.if_icmp .le 8, 3) := by decide +kernel
theorem dX7_best_97 : decode cX7_best 97 = .ok (.iload 6, 2) := by decide +kernel
theorem dX7_best_99 : decode cX7_best 99 = .ok (.goto 4, 3) := by decide +kernel
theorem dX7_best_102 : decode cX7_best 102 = .ok (.iload_n 2, 1) := by decide +kernel
theorem dX7_best_103 : decode cX7_best 103 = .ok (.istore_n 2, 1) := by decide +kernel
theorem dX7_best_104 : decode cX7_best 104 = .ok (.iinc 5 1, 3) := by decide +kernel
theorem dX7_best_107 : decode cX7_best 107 = .ok (.goto (-73), 3) := by decide +kernel
theorem dX7_best_110 : decode cX7_best 110 = .ok (.iinc 4 1, 3) := by decide +kernel
theorem dX7_best_113 : decode cX7_best 113 = .ok (.goto (-89), 3) := by decide +kernel
theorem dX7_best_116 : decode cX7_best 116 = .ok (.iload_n 1, 1) := by decide +kernel
theorem dX7_best_117 : decode cX7_best 117 = .ok (.ifCond .ne 7, 3) := by decide +kernel
theorem dX7_best_120 : decode cX7_best 120 = .ok (.iload_n 2, 1) := by decide +kernel
theorem dX7_best_121 : decode cX7_best 121 = .ok (.goto 4, 3) := by decide +kernel
theorem dX7_best_124 : decode cX7_best 124 = .ok (.iload_n 3, 1) := by decide +kernel
theorem dX7_best_125 : decode cX7_best 125 = .ok (.ireturn, 1) := by decide +kernel
theorem dX7_isFree_0 : decode cX7_isFree 0 = .ok (.iconst 1, 1) := by decide +kernel
theorem dX7_isFree_1 : decode cX7_isFree 1 = .ok (.istore_n 3, 1) := by decide +kernel
theorem dX7_isFree_2 : decode cX7_isFree 2 = .ok (.iconst 0, 1) := by decide +kernel
theorem dX7_isFree_3 : decode cX7_isFree 3 = .ok (.istore 4, 2) := by decide +kernel
theorem dX7_isFree_5 : decode cX7_isFree 5 = .ok (.iload 4, 2) := by decide +kernel
theorem dX7_isFree_7 : decode cX7_isFree 7 = .ok (.aload_n 0, 1) := by decide +kernel
theorem dX7_isFree_8 : decode cX7_isFree 8 = .ok (.invokevirtual 64, 3) := by decide +kernel
theorem dX7_isFree_11 : decode cX7_isFree 11 = .ok (.if_icmp .ge 51, 3) := by decide +kernel
theorem dX7_isFree_14 : decode cX7_isFree 14 = .ok (.iload_n 3, 1) := by decide +kernel
theorem dX7_isFree_15 : decode cX7_isFree 15 = .ok (.ifCond .eq 39, 3) := by decide +kernel
theorem dX7_isFree_18 : decode cX7_isFree 18 = .ok (.aload_n 0, 1) := by decide +kernel
theorem dX7_isFree_19 : decode cX7_isFree 19 = .ok (.iload 4, 2) := by decide +kernel
theorem dX7_isFree_21 : decode cX7_isFree 21 = .ok (.iconst 5, 1) := by decide +kernel
theorem dX7_isFree_22 : decode cX7_isFree 22 = .ok (.invokevirtual 110, 3) := by decide +kernel
theorem dX7_isFree_25 : decode cX7_isFree 25 = .ok (.iload_n 1, 1) := by decide +kernel
theorem dX7_isFree_26 : decode cX7_isFree 26 = .ok (.if_icmp .ne 24, 3) := by decide +kernel
theorem dX7_isFree_29 : decode cX7_isFree 29 = .ok (.iload_n 2, 1) := by decide +kernel
theorem dX7_isFree_30 : decode cX7_isFree 30 = .ok (.aload_n 0, 1) := by decide +kernel
theorem dX7_isFree_31 : decode cX7_isFree 31 = .ok (.iload 4, 2) := by decide +kernel
theorem dX7_isFree_33 : decode cX7_isFree 33 = .ok (.iconst 1, 1) := by decide +kernel
theorem dX7_isFree_34 : decode cX7_isFree 34 = .ok (.invokevirtual 110, 3) := by decide +kernel
theorem dX7_isFree_37 : decode cX7_isFree 37 = .ok (.if_icmp .lt 13, 3) := by decide +kernel
theorem dX7_isFree_40 : decode cX7_isFree 40 = .ok (.iload_n 2, 1) := by decide +kernel
theorem dX7_isFree_41 : decode cX7_isFree 41 = .ok (.aload_n 0, 1) := by decide +kernel
theorem dX7_isFree_42 : decode cX7_isFree 42 = .ok (.iload 4, 2) := by decide +kernel
theorem dX7_isFree_44 : decode cX7_isFree 44 = .ok (.invokevirtual 114, 3) := by decide +kernel
theorem dX7_isFree_47 : decode cX7_isFree 47 = .ok (.if_icmp .lt 7, 3) := by decide +kernel
theorem dX7_isFree_50 : decode cX7_isFree 50 = .ok (.iconst 1, 1) := by decide +kernel
theorem dX7_isFree_51 : decode cX7_isFree 51 = .ok (.goto 4, 3) := by decide +kernel
theorem dX7_isFree_54 : decode cX7_isFree 54 = .ok (.iconst 0, 1) := by decide +kernel
theorem dX7_isFree_55 : decode cX7_isFree 55 = .ok (.istore_n 3, 1) := by decide +kernel
theorem dX7_isFree_56 : decode cX7_isFree 56 = .ok (.iinc 4 1, 3) := by decide +kernel
theorem dX7_isFree_59 : decode cX7_isFree 59 = .ok (.goto (-54), 3) := by decide +kernel
theorem dX7_isFree_62 : decode cX7_isFree 62 = .ok (.iload_n 3, 1) := by decide +kernel
theorem dX7_isFree_63 : decode cX7_isFree 63 = .ok (.ireturn, 1) := by decide +kernel
theorem dX7_freeHand_0 : decode cX7_freeHand 0 = .ok (.iconst 0, 1) := by decide +kernel
theorem dX7_freeHand_1 : decode cX7_freeHand 1 = .ok (.istore_n 3, 1) := by decide +kernel
theorem dX7_freeHand_2 : decode cX7_freeHand 2 = .ok (.iload_n 3, 1) := by decide +kernel
theorem dX7_freeHand_3 : decode cX7_freeHand 3 = .ok (.iconst 4, 1) := by decide +kernel
theorem dX7_freeHand_4 : decode cX7_freeHand 4 = .ok (.if_icmp .ge 32, 3) := by decide +kernel
theorem dX7_freeHand_7 : decode cX7_freeHand 7 = .ok (.iload_n 2, 1) := by decide +kernel
theorem dX7_freeHand_8 : decode cX7_freeHand 8 = .ok (.iconst (-1), 1) := by decide +kernel
theorem dX7_freeHand_9 : decode cX7_freeHand 9 = .ok (.if_icmp .eq 10, 3) := by decide +kernel
theorem dX7_freeHand_12 : decode cX7_freeHand 12 = .ok (.iload_n 3, 1) := by decide +kernel
theorem dX7_freeHand_13 : decode cX7_freeHand 13 = .ok (.iconst 2, 1) := by decide +kernel
theorem dX7_freeHand_14 : decode cX7_freeHand 14 = .ok (.idiv, 1) := by decide +kernel
theorem dX7_freeHand_15 : decode cX7_freeHand 15 = .ok (.iload_n 2, 1) := by decide +kernel
theorem dX7_freeHand_16 : decode cX7_freeHand 16 = .ok (.if_icmp .ne 14, 3) := by decide +kernel
theorem dX7_freeHand_19 : decode cX7_freeHand 19 = .ok (.aload_n 0, 1) := by decide +kernel
theorem dX7_freeHand_20 : decode cX7_freeHand 20 = .ok (.iload_n 3, 1) := by decide +kernel
theorem dX7_freeHand_21 : decode cX7_freeHand 21 = .ok (.iload_n 1, 1) := by decide +kernel
theorem dX7_freeHand_22 : decode cX7_freeHand 22 = .ok (.invokevirtual 221, 3) := by decide +kernel
theorem dX7_freeHand_25 : decode cX7_freeHand 25 = .ok (.ifCond .eq 5, 3) := by decide +kernel
theorem dX7_freeHand_28 : decode cX7_freeHand 28 = .ok (.iload_n 3, 1) := by decide +kernel
theorem dX7_freeHand_29 : decode cX7_freeHand 29 = .ok (.ireturn, 1) := by decide +kernel
theorem dX7_freeHand_30 : decode cX7_freeHand 30 = .ok (.iinc 3 1, 3) := by decide +kernel
theorem dX7_freeHand_33 : decode cX7_freeHand 33 = .ok (.goto (-31), 3) := by decide +kernel
theorem dX7_freeHand_36 : decode cX7_freeHand 36 = .ok (.iconst (-1), 1) := by decide +kernel
theorem dX7_freeHand_37 : decode cX7_freeHand 37 = .ok (.ireturn, 1) := by decide +kernel
theorem dX7_turns_0 : decode cX7_turns 0 = .ok (.iload_n 1, 1) := by decide +kernel
theorem dX7_turns_1 : decode cX7_turns 1 = .ok (.i2l, 1) := by decide +kernel
theorem dX7_turns_2 : decode cX7_turns 2 = .ok (.lconst 0, 1) := by decide +kernel
theorem dX7_turns_3 : decode cX7_turns 3 = .ok (.ldc2_w 94, 3) := by decide +kernel
theorem dX7_turns_6 : decode cX7_turns 6 = .ok (.invokestatic 68, 3) := by decide +kernel
theorem dX7_turns_9 : decode cX7_turns 9 = .ok (.ifCond .eq 27, 3) := by decide +kernel
theorem dX7_turns_12 : decode cX7_turns 12 = .ok (.iload_n 2, 1) := by decide +kernel
theorem dX7_turns_13 : decode cX7_turns 13 = .ok (.i2l, 1) := by decide +kernel
theorem dX7_turns_14 : decode cX7_turns 14 = .ok (.lconst 0, 1) := by decide +kernel
theorem dX7_turns_15 : decode cX7_turns 15 = .ok (.ldc2_w 74, 3) := by decide +kernel
theorem dX7_turns_18 : decode cX7_turns 18 = .ok (.invokestatic 68, 3) := by decide +kernel
theorem dX7_turns_21 : decode cX7_turns 21 = .ok (.ifCond .eq 15, 3) := by decide +kernel
theorem dX7_turns_24 : decode cX7_turns 24 = .ok (.iload_n 3, 1) := by decide +kernel
theorem dX7_turns_25 : decode cX7_turns 25 = .ok (.i2l, 1) := by decide +kernel
theorem dX7_turns_26 : decode cX7_turns 26 = .ok (.ldc2_w 98, 3) := by decide +kernel
theorem dX7_turns_29 : decode cX7_turns 29 = .ok (.lconst 1, 1) := by decide +kernel
theorem dX7_turns_30 : decode cX7_turns 30 = .ok (.invokestatic 68, 3) := by decide +kernel
theorem dX7_turns_33 : decode cX7_turns 33 = .ok (.ifCond .ne 10, 3) := by decide +kernel
theorem dX7_turns_36 : decode cX7_turns 36 = .ok (.aload_n 0, 1) := by decide +kernel
theorem dX7_turns_37 : decode cX7_turns 37 = .ok (.bipush (-2), 2) := by decide +kernel
theorem dX7_turns_39 : decode cX7_turns 39 = .ok (.invokevirtual 76, 3) := by decide +kernel
theorem dX7_turns_42 : decode cX7_turns 42 = .ok (.ireturn, 1) := by decide +kernel
theorem dX7_turns_43 : decode cX7_turns 43 = .ok (.iconst 0, 1) := by decide +kernel
theorem dX7_turns_44 : decode cX7_turns 44 = .ok (.istore 4, 2) := by decide +kernel
theorem dX7_turns_46 : decode cX7_turns 46 = .ok (.iload 4, 2) := by decide +kernel
theorem dX7_turns_48 : decode cX7_turns 48 = .ok (.iload_n 2, 1) := by decide +kernel
theorem dX7_turns_49 : decode cX7_turns 49 = .ok (.if_icmp .gt 86, 3) := by decide +kernel
theorem dX7_turns_52 : decode cX7_turns 52 = .ok (.iload_n 1, 1) := by decide +kernel
theorem dX7_turns_53 : decode cX7_turns 53 = .ok (.iload 4, 2) := by decide +kernel
theorem dX7_turns_55 : decode cX7_turns 55 = .ok (.isub, 1) := by decide +kernel
theorem dX7_turns_56 : decode cX7_turns 56 = .ok (.istore 5, 2) := by decide +kernel
theorem dX7_turns_58 : decode cX7_turns 58 = .ok (.iload 5, 2) := by decide +kernel
theorem dX7_turns_60 : decode cX7_turns 60 = .ok (.iload_n 1, 1) := by decide +kernel
theorem dX7_turns_61 : decode cX7_turns 61 = .ok (.iload 4, 2) := by decide +kernel
theorem dX7_turns_63 : decode cX7_turns 63 = .ok (.iadd, 1) := by decide +kernel
theorem dX7_turns_64 : decode cX7_turns 64 = .ok (.if_icmp .gt 65, 3) := by decide +kernel
theorem dX7_turns_67 : decode cX7_turns 67 = .ok (.iload 5, 2) := by decide +kernel
theorem dX7_turns_69 : decode cX7_turns 69 = .ok (.i2l, 1) := by decide +kernel
theorem dX7_turns_70 : decode cX7_turns 70 = .ok (.lconst 0, 1) := by decide +kernel
theorem dX7_turns_71 : decode cX7_turns 71 = .ok (.ldc2_w 94, 3) := by decide +kernel
theorem dX7_turns_74 : decode cX7_turns 74 = .ok (.invokestatic 68, 3) := by decide +kernel
theorem dX7_turns_77 : decode cX7_turns 77 = .ok (.ifCond .eq 13, 3) := by decide +kernel
theorem dX7_turns_80 : decode cX7_turns 80 = .ok (.aload_n 0, 1) := by decide +kernel
theorem dX7_turns_81 : decode cX7_turns 81 = .ok (.iload 5, 2) := by decide +kernel
theorem dX7_turns_83 : decode cX7_turns 83 = .ok (.iload_n 3, 1) := by decide +kernel
theorem dX7_turns_84 : decode cX7_turns 84 = .ok (.invokevirtual 224, 3) := by decide +kernel
theorem dX7_turns_87 : decode cX7_turns 87 = .ok (.goto 4, 3) := by decide +kernel
theorem dX7_turns_90 : decode cX7_turns 90 = .ok (.iconst (-1), 1) := by decide +kernel
theorem dX7_turns_91 : decode cX7_turns 91 = .ok (.istore 6, 2) := by decide +kernel
theorem dX7_turns_93 : decode cX7_turns 93 = .ok (.iload 6, 2) := by decide +kernel
theorem dX7_turns_95 : decode cX7_turns 95 = .ok (.iconst (-1), 1) := by decide +kernel
theorem dX7_turns_96 : decode cX7_turns 96 = .ok (.if_icmp .eq 12, 3) := by decide +kernel
theorem dX7_turns_99 : decode cX7_turns 99 = .ok (.bipush 10, 2) := by decide +kernel
theorem dX7_turns_101 : decode cX7_turns 101 = .ok (.iload 5, 2) := by decide +kernel
theorem dX7_turns_103 : decode cX7_turns 103 = .ok (.imul, 1) := by decide +kernel
theorem dX7_turns_104 : decode cX7_turns 104 = .ok (.iload 6, 2) := by decide +kernel
theorem dX7_turns_106 : decode cX7_turns 106 = .ok (.iadd, 1) := by decide +kernel
theorem dX7_turns_107 : decode cX7_turns 107 = .ok (.ireturn, 1) := by decide +kernel
theorem dX7_turns_108 : decode cX7_turns 108 = .ok (.iload 5, 2) := by decide +kernel
theorem dX7_turns_110 : decode cX7_turns 110 = .ok (.iload 4, 2) := by decide +kernel
theorem dX7_turns_112 : decode cX7_turns 112 = .ok (.ifCond .ne 7, 3) := by decide +kernel
theorem dX7_turns_115 : decode cX7_turns 115 = .ok (.iconst 1, 1) := by decide +kernel
theorem dX7_turns_116 : decode cX7_turns 116 = .ok (.goto 7, 3) := by decide +kernel
theorem dX7_turns_119 : decode cX7_turns 119 = .ok (.iconst 2, 1) := by decide +kernel
theorem dX7_turns_120 : decode cX7_turns 120 = .ok (.iload 4, 2) := by decide +kernel
theorem dX7_turns_122 : decode cX7_turns 122 = .ok (.imul, 1) := by decide +kernel
theorem dX7_turns_123 : decode cX7_turns 123 = .ok (.iadd, 1) := by decide +kernel
theorem dX7_turns_124 : decode cX7_turns 124 = .ok (.istore 5, 2) := by decide +kernel
theorem dX7_turns_126 : decode cX7_turns 126 = .ok (.goto (-68), 3) := by decide +kernel
theorem dX7_turns_129 : decode cX7_turns 129 = .ok (.iinc 4 1, 3) := by decide +kernel
theorem dX7_turns_132 : decode cX7_turns 132 = .ok (.goto (-86), 3) := by decide +kernel
theorem dX7_turns_135 : decode cX7_turns 135 = .ok (.iconst (-1), 1) := by decide +kernel
theorem dX7_turns_136 : decode cX7_turns 136 = .ok (.ireturn, 1) := by decide +kernel
theorem dX7_covered_0 : decode cX7_covered 0 = .ok (.lconst 0, 1) := by decide +kernel
theorem dX7_covered_1 : decode cX7_covered 1 = .ok (.lstore_n 1, 1) := by decide +kernel
theorem dX7_covered_2 : decode cX7_covered 2 = .ok (.iconst 0, 1) := by decide +kernel
theorem dX7_covered_3 : decode cX7_covered 3 = .ok (.istore_n 3, 1) := by decide +kernel
theorem dX7_covered_4 : decode cX7_covered 4 = .ok (.iload_n 3, 1) := by decide +kernel
theorem dX7_covered_5 : decode cX7_covered 5 = .ok (.bipush 64, 2) := by decide +kernel
theorem dX7_covered_7 : decode cX7_covered 7 = .ok (.if_icmp .ge 185, 3) := by decide +kernel
theorem dX7_covered_10 : decode cX7_covered 10 = .ok (.iconst 0, 1) := by decide +kernel
theorem dX7_covered_11 : decode cX7_covered 11 = .ok (.istore 4, 2) := by decide +kernel
theorem dX7_covered_13 : decode cX7_covered 13 = .ok (.iconst 0, 1) := by decide +kernel
theorem dX7_covered_14 : decode cX7_covered 14 = .ok (.istore 5, 2) := by decide +kernel
theorem dX7_covered_16 : decode cX7_covered 16 = .ok (.iconst 0, 1) := by decide +kernel
theorem dX7_covered_17 : decode cX7_covered 17 = .ok (.istore 6, 2) := by decide +kernel
theorem dX7_covered_19 : decode cX7_covered 19 = .ok (.iconst 0, 1) := by decide +kernel
theorem dX7_covered_20 : decode cX7_covered 20 = .ok (.istore 7, 2) := by decide +kernel
theorem dX7_covered_22 : decode cX7_covered 22 = .ok (.iload 7, 2) := by decide +kernel
theorem dX7_covered_24 : decode cX7_covered 24 = .ok (.aload_n 0, 1) := by decide +kernel
theorem dX7_covered_25 : decode cX7_covered 25 = .ok (.invokevirtual 64, 3) := by decide +kernel
theorem dX7_covered_28 : decode cX7_covered 28 = .ok (.if_icmp .ge 136, 3) := by decide +kernel
theorem dX7_covered_31 : decode cX7_covered 31 = .ok (.aload_n 0, 1) := by decide +kernel
theorem dX7_covered_32 : decode cX7_covered 32 = .ok (.iload 7, 2) := by decide +kernel
theorem dX7_covered_34 : decode cX7_covered 34 = .ok (.invokevirtual 123, 3) := by decide +kernel
theorem dX7_covered_37 : decode cX7_covered 37 = .ok (.ifCond .eq 28, 3) := by decide +kernel
theorem dX7_covered_40 : decode cX7_covered 40 = .ok (.iload_n 3, 1) := by decide +kernel
theorem dX7_covered_41 : decode cX7_covered 41 = .ok (.aload_n 0, 1) := by decide +kernel
theorem dX7_covered_42 : decode cX7_covered 42 = .ok (.iload 7, 2) := by decide +kernel
theorem dX7_covered_44 : decode cX7_covered 44 = .ok (.iconst 1, 1) := by decide +kernel
theorem dX7_covered_45 : decode cX7_covered 45 = .ok (.invokevirtual 110, 3) := by decide +kernel
theorem dX7_covered_48 : decode cX7_covered 48 = .ok (.if_icmp .lt 17, 3) := by decide +kernel
theorem dX7_covered_51 : decode cX7_covered 51 = .ok (.iload_n 3, 1) := by decide +kernel
theorem dX7_covered_52 : decode cX7_covered 52 = .ok (.aload_n 0, 1) := by decide +kernel
theorem dX7_covered_53 : decode cX7_covered 53 = .ok (.iload 7, 2) := by decide +kernel
theorem dX7_covered_55 : decode cX7_covered 55 = .ok (.invokevirtual 114, 3) := by decide +kernel
theorem dX7_covered_58 : decode cX7_covered 58 = .ok (.if_icmp .ge 7, 3) := by decide +kernel
theorem dX7_covered_61 : decode cX7_covered 61 = .ok (.iconst 1, 1) := by decide +kernel
theorem dX7_covered_62 : decode cX7_covered 62 = .ok (.goto 4, 3) := by decide +kernel
theorem dX7_covered_65 : decode cX7_covered 65 = .ok (.iconst 0, 1) := by decide +kernel
theorem dX7_covered_66 : decode cX7_covered 66 = .ok (.istore 8, 2) := by decide +kernel
theorem dX7_covered_68 : decode cX7_covered 68 = .ok (.iload 4, 2) := by decide +kernel
theorem dX7_covered_70 : decode cX7_covered 70 = .ok (.iload 8, 2) := by decide +kernel
theorem dX7_covered_72 : decode cX7_covered 72 = .ok (.ifCond .eq 23, 3) := by decide +kernel
theorem dX7_covered_75 : decode cX7_covered 75 = .ok (.aload_n 0, 1) := by decide +kernel
theorem dX7_covered_76 : decode cX7_covered 76 = .ok (.iload 7, 2) := by decide +kernel
theorem dX7_covered_78 : decode cX7_covered 78 = .ok (.iconst 3, 1) := by decide +kernel
theorem dX7_covered_79 : decode cX7_covered 79 = .ok (.invokevirtual 110, 3) := by decide +kernel
theorem dX7_covered_82 : decode cX7_covered 82 = .ok (.ifCond .ne 13, 3) := by decide +kernel
theorem dX7_covered_85 : decode cX7_covered 85 = .ok (.aload_n 0, 1) := by decide +kernel
theorem dX7_covered_86 : decode cX7_covered 86 = .ok (.iload 7, 2) := by decide +kernel
theorem dX7_covered_88 : decode cX7_covered 88 = .ok (.iconst 4, 1) := by decide +kernel
theorem dX7_covered_89 : decode cX7_covered 89 = .ok (.invokevirtual 110, 3) := by decide +kernel
theorem dX7_covered_92 : decode cX7_covered 92 = .ok (.goto 4, 3) := by decide +kernel
theorem dX7_covered_95 : decode cX7_covered 95 = .ok (.iconst 0, 1) := by decide +kernel
theorem dX7_covered_96 : decode cX7_covered 96 = .ok (.iadd, 1) := by decide +kernel
theorem dX7_covered_97 : decode cX7_covered 97 = .ok (.istore 4, 2) := by decide +kernel
theorem dX7_covered_99 : decode cX7_covered 99 = .ok (.iload 5, 2) := by decide +kernel
theorem dX7_covered_101 : decode cX7_covered 101 = .ok (.iload 8, 2) := by decide +kernel
theorem dX7_covered_103 : decode cX7_covered 103 = .ok (.ifCond .eq 24, 3) := by decide +kernel
theorem dX7_covered_106 : decode cX7_covered 106 = .ok (.aload_n 0, 1) := by decide +kernel
theorem dX7_covered_107 : decode cX7_covered 107 = .ok (.iload 7, 2) := by decide +kernel
theorem dX7_covered_109 : decode cX7_covered 109 = .ok (.iconst 3, 1) := by decide +kernel
theorem dX7_covered_110 : decode cX7_covered 110 = .ok (.invokevirtual 110, 3) := by decide +kernel
theorem dX7_covered_113 : decode cX7_covered 113 = .ok (.iconst 1, 1) := by decide +kernel
theorem dX7_covered_114 : decode cX7_covered 114 = .ok (.if_icmp .ne 13, 3) := by decide +kernel
theorem dX7_covered_117 : decode cX7_covered 117 = .ok (.aload_n 0, 1) := by decide +kernel
theorem dX7_covered_118 : decode cX7_covered 118 = .ok (.iload 7, 2) := by decide +kernel
theorem dX7_covered_120 : decode cX7_covered 120 = .ok (.iconst 4, 1) := by decide +kernel
theorem dX7_covered_121 : decode cX7_covered 121 = .ok (.invokevirtual 110, 3) := by decide +kernel
theorem dX7_covered_124 : decode cX7_covered 124 = .ok (.goto 4, 3) := by decide +kernel
theorem dX7_covered_127 : decode cX7_covered 127 = .ok (.iconst 0, 1) := by decide +kernel
theorem dX7_covered_128 : decode cX7_covered 128 = .ok (.iadd, 1) := by decide +kernel
theorem dX7_covered_129 : decode cX7_covered 129 = .ok (.istore 5, 2) := by decide +kernel
theorem dX7_covered_131 : decode cX7_covered 131 = .ok (.iload 6, 2) := by decide +kernel
theorem dX7_covered_133 : decode cX7_covered 133 = .ok (.ifCond .ne 18, 3) := by decide +kernel
theorem dX7_covered_136 : decode cX7_covered 136 = .ok (.iload 8, 2) := by decide +kernel
theorem dX7_covered_138 : decode cX7_covered 138 = .ok (.ifCond .eq 17, 3) := by decide +kernel
theorem dX7_covered_141 : decode cX7_covered 141 = .ok (.aload_n 0, 1) := by decide +kernel
theorem dX7_covered_142 : decode cX7_covered 142 = .ok (.iload 7, 2) := by decide +kernel
theorem dX7_covered_144 : decode cX7_covered 144 = .ok (.iconst 3, 1) := by decide +kernel
theorem dX7_covered_145 : decode cX7_covered 145 = .ok (.invokevirtual 110, 3) := by decide +kernel
theorem dX7_covered_148 : decode cX7_covered 148 = .ok (.ifCond .ne 7, 3) := by decide +kernel
theorem dX7_covered_151 : decode cX7_covered 151 = .ok (.iconst 1, 1) := by decide +kernel
theorem dX7_covered_152 : decode cX7_covered 152 = .ok (.goto 4, 3) := by decide +kernel
theorem dX7_covered_155 : decode cX7_covered 155 = .ok (.iconst 0, 1) := by decide +kernel
theorem dX7_covered_156 : decode cX7_covered 156 = .ok (.istore 6, 2) := by decide +kernel
theorem dX7_covered_158 : decode cX7_covered 158 = .ok (.iinc 7 1, 3) := by decide +kernel
theorem dX7_covered_161 : decode cX7_covered 161 = .ok (.goto (-139), 3) := by decide +kernel
theorem dX7_covered_164 : decode cX7_covered 164 = .ok (.lload_n 1, 1) := by decide +kernel
theorem dX7_covered_165 : decode cX7_covered 165 = .ok (.iload 6, 2) := by decide +kernel
theorem dX7_covered_167 : decode cX7_covered 167 = .ok (.ifCond .eq 16, 3) := by decide +kernel
theorem dX7_covered_170 : decode cX7_covered 170 = .ok (.iload 5, 2) := by decide +kernel
theorem dX7_covered_172 : decode cX7_covered 172 = .ok (.iload 4, 2) := by decide +kernel
theorem dX7_covered_174 : decode cX7_covered 174 = .ok (.if_icmp .le 9, 3) := by decide +kernel
theorem dX7_covered_177 : decode cX7_covered 177 = .ok (.lconst 1, 1) := by decide +kernel
theorem dX7_covered_178 : decode cX7_covered 178 = .ok (.iload_n 3, 1) := by decide +kernel
theorem dX7_covered_179 : decode cX7_covered 179 = .ok (.lshl, 1) := by decide +kernel
theorem dX7_covered_180 : decode cX7_covered 180 = .ok (.goto 4, 3) := by decide +kernel
theorem dX7_covered_183 : decode cX7_covered 183 = .ok (.lconst 0, 1) := by decide +kernel
theorem dX7_covered_184 : decode cX7_covered 184 = .ok (.lor, 1) := by decide +kernel
theorem dX7_covered_185 : decode cX7_covered 185 = .ok (.lstore_n 1, 1) := by decide +kernel
theorem dX7_covered_186 : decode cX7_covered 186 = .ok (.iinc 3 1, 3) := by decide +kernel
theorem dX7_covered_189 : decode cX7_covered 189 = .ok (.goto (-185), 3) := by decide +kernel
theorem dX7_covered_192 : decode cX7_covered 192 = .ok (.lload_n 1, 1) := by decide +kernel
theorem dX7_covered_193 : decode cX7_covered 193 = .ok (.lreturn, 1) := by decide +kernel
theorem dX7_changePlaces_0 : decode cX7_changePlaces 0 = .ok (.iconst 0, 1) := by decide +kernel
theorem dX7_changePlaces_1 : decode cX7_changePlaces 1 = .ok (.istore_n 1, 1) := by decide +kernel
theorem dX7_changePlaces_2 : decode cX7_changePlaces 2 = .ok (.iload_n 1, 1) := by decide +kernel
theorem dX7_changePlaces_3 : decode cX7_changePlaces 3 = .ok (.aload_n 0, 1) := by decide +kernel
theorem dX7_changePlaces_4 : decode cX7_changePlaces 4 = .ok (.invokevirtual 64, 3) := by decide +kernel
theorem dX7_changePlaces_7 : decode cX7_changePlaces 7 = .ok (.if_icmp .ge 35, 3) := by decide +kernel
theorem dX7_changePlaces_10 : decode cX7_changePlaces 10 = .ok (.aload_n 0, 1) := by decide +kernel
theorem dX7_changePlaces_11 : decode cX7_changePlaces 11 = .ok (.iload_n 1, 1) := by decide +kernel
theorem dX7_changePlaces_12 : decode cX7_changePlaces 12 = .ok (.iconst 5, 1) := by decide +kernel
theorem dX7_changePlaces_13 : decode cX7_changePlaces 13 = .ok (.invokevirtual 110, 3) := by decide +kernel
theorem dX7_changePlaces_16 : decode cX7_changePlaces 16 = .ok (.istore_n 2, 1) := by decide +kernel
theorem dX7_changePlaces_17 : decode cX7_changePlaces 17 = .ok (.aload_n 0, 1) := by decide +kernel
theorem dX7_changePlaces_18 : decode cX7_changePlaces 18 = .ok (.iload_n 1, 1) := by decide +kernel
theorem dX7_changePlaces_19 : decode cX7_changePlaces 19 = .ok (.iload_n 2, 1) := by decide +kernel
theorem dX7_changePlaces_20 : decode cX7_changePlaces 20 = .ok (.iconst (-1), 1) := by decide +kernel
theorem dX7_changePlaces_21 : decode cX7_changePlaces 21 = .ok (.if_icmp .ne 7, 3) := by decide +kernel
theorem dX7_changePlaces_24 : decode cX7_changePlaces 24 = .ok (.iconst (-1), 1) := by decide +kernel
theorem dX7_changePlaces_25 : decode cX7_changePlaces 25 = .ok (.goto 8, 3) := by decide +kernel
theorem dX7_changePlaces_28 : decode cX7_changePlaces 28 = .ok (.iload_n 2, 1) := by decide +kernel
theorem dX7_changePlaces_29 : decode cX7_changePlaces 29 = .ok (.iconst 2, 1) := by decide +kernel
theorem dX7_changePlaces_30 : decode cX7_changePlaces 30 = .ok (.iadd, 1) := by decide +kernel
theorem dX7_changePlaces_31 : decode cX7_changePlaces 31 = .ok (.iconst 4, 1) := by decide +kernel
theorem dX7_changePlaces_32 : decode cX7_changePlaces 32 = .ok (.irem, 1) := by decide +kernel
theorem dX7_changePlaces_33 : decode cX7_changePlaces 33 = .ok (.invokevirtual 148, 3) := by decide +kernel
theorem dX7_changePlaces_36 : decode cX7_changePlaces 36 = .ok (.iinc 1 1, 3) := by decide +kernel
theorem dX7_changePlaces_39 : decode cX7_changePlaces 39 = .ok (.goto (-37), 3) := by decide +kernel
theorem dX7_changePlaces_42 : decode cX7_changePlaces 42 = .ok (.return_, 1) := by decide +kernel
theorem dX7_places_0 : decode cX7_places 0 = .ok (.aload_n 0, 1) := by decide +kernel
theorem dX7_places_1 : decode cX7_places 1 = .ok (.invokevirtual 152, 3) := by decide +kernel
theorem dX7_places_4 : decode cX7_places 4 = .ok (.istore_n 1, 1) := by decide +kernel
theorem dX7_places_5 : decode cX7_places 5 = .ok (.aload_n 0, 1) := by decide +kernel
theorem dX7_places_6 : decode cX7_places 6 = .ok (.invokevirtual 227, 3) := by decide +kernel
theorem dX7_places_9 : decode cX7_places 9 = .ok (.aload_n 0, 1) := by decide +kernel
theorem dX7_places_10 : decode cX7_places 10 = .ok (.invokevirtual 152, 3) := by decide +kernel
theorem dX7_places_13 : decode cX7_places 13 = .ok (.istore_n 2, 1) := by decide +kernel
theorem dX7_places_14 : decode cX7_places 14 = .ok (.aload_n 0, 1) := by decide +kernel
theorem dX7_places_15 : decode cX7_places 15 = .ok (.invokevirtual 227, 3) := by decide +kernel
theorem dX7_places_18 : decode cX7_places 18 = .ok (.iload_n 1, 1) := by decide +kernel
theorem dX7_places_19 : decode cX7_places 19 = .ok (.iload_n 2, 1) := by decide +kernel
theorem dX7_places_20 : decode cX7_places 20 = .ok (.isub, 1) := by decide +kernel
theorem dX7_places_21 : decode cX7_places 21 = .ok (.ireturn, 1) := by decide +kernel
theorem dX7_laySlips_0 : decode cX7_laySlips 0 = .ok (.iconst 0, 1) := by decide +kernel
theorem dX7_laySlips_1 : decode cX7_laySlips 1 = .ok (.istore_n 1, 1) := by decide +kernel
theorem dX7_laySlips_2 : decode cX7_laySlips 2 = .ok (.iload_n 1, 1) := by decide +kernel
theorem dX7_laySlips_3 : decode cX7_laySlips 3 = .ok (.bipush 8, 2) := by decide +kernel
theorem dX7_laySlips_5 : decode cX7_laySlips 5 = .ok (.if_icmp .ge 16, 3) := by decide +kernel
theorem dX7_laySlips_8 : decode cX7_laySlips 8 = .ok (.aload_n 0, 1) := by decide +kernel
theorem dX7_laySlips_9 : decode cX7_laySlips 9 = .ok (.getfield 36, 3) := by decide +kernel
theorem dX7_laySlips_12 : decode cX7_laySlips 12 = .ok (.iload_n 1, 1) := by decide +kernel
theorem dX7_laySlips_13 : decode cX7_laySlips 13 = .ok (.iconst 0, 1) := by decide +kernel
theorem dX7_laySlips_14 : decode cX7_laySlips 14 = .ok (.iastore, 1) := by decide +kernel
theorem dX7_laySlips_15 : decode cX7_laySlips 15 = .ok (.iinc 1 1, 3) := by decide +kernel
theorem dX7_laySlips_18 : decode cX7_laySlips 18 = .ok (.goto (-16), 3) := by decide +kernel
theorem dX7_laySlips_21 : decode cX7_laySlips 21 = .ok (.iconst 0, 1) := by decide +kernel
theorem dX7_laySlips_22 : decode cX7_laySlips 22 = .ok (.istore_n 1, 1) := by decide +kernel
theorem dX7_laySlips_23 : decode cX7_laySlips 23 = .ok (.iload_n 1, 1) := by decide +kernel
theorem dX7_laySlips_24 : decode cX7_laySlips 24 = .ok (.aload_n 0, 1) := by decide +kernel
theorem dX7_laySlips_25 : decode cX7_laySlips 25 = .ok (.invokevirtual 64, 3) := by decide +kernel
theorem dX7_laySlips_28 : decode cX7_laySlips 28 = .ok (.if_icmp .ge 110, 3) := by decide +kernel
theorem dX7_laySlips_31 : decode cX7_laySlips 31 = .ok (.aload_n 0, 1) := by decide +kernel
theorem dX7_laySlips_32 : decode cX7_laySlips 32 = .ok (.getfield 36, 3) := by decide +kernel
theorem dX7_laySlips_35 : decode cX7_laySlips 35 = .ok (.aload_n 0, 1) := by decide +kernel
theorem dX7_laySlips_36 : decode cX7_laySlips 36 = .ok (.iload_n 1, 1) := by decide +kernel
theorem dX7_laySlips_37 : decode cX7_laySlips 37 = .ok (.iconst 1, 1) := by decide +kernel
theorem dX7_laySlips_38 : decode cX7_laySlips 38 = .ok (.invokevirtual 110, 3) := by decide +kernel
theorem dX7_laySlips_41 : decode cX7_laySlips 41 = .ok (.bipush 8, 2) := by decide +kernel
theorem dX7_laySlips_43 : decode cX7_laySlips 43 = .ok (.idiv, 1) := by decide +kernel
theorem dX7_laySlips_44 : decode cX7_laySlips 44 = .ok (.dup2, 1) := by decide +kernel
theorem dX7_laySlips_45 : decode cX7_laySlips 45 = .ok (.iaload, 1) := by decide +kernel
theorem dX7_laySlips_46 : decode cX7_laySlips 46 = .ok (.aload_n 0, 1) := by decide +kernel
theorem dX7_laySlips_47 : decode cX7_laySlips 47 = .ok (.iload_n 1, 1) := by decide +kernel
theorem dX7_laySlips_48 : decode cX7_laySlips 48 = .ok (.invokevirtual 123, 3) := by decide +kernel
theorem dX7_laySlips_51 : decode cX7_laySlips 51 = .ok (.ifCond .eq 7, 3) := by decide +kernel
theorem dX7_laySlips_54 : decode cX7_laySlips 54 = .ok (.iconst 1, 1) := by decide +kernel
theorem dX7_laySlips_55 : decode cX7_laySlips 55 = .ok (.goto 4, 3) := by decide +kernel
theorem dX7_laySlips_58 : decode cX7_laySlips 58 = .ok (.iconst 0, 1) := by decide +kernel
theorem dX7_laySlips_59 : decode cX7_laySlips 59 = .ok (.iadd, 1) := by decide +kernel
theorem dX7_laySlips_60 : decode cX7_laySlips 60 = .ok (.iastore, 1) := by decide +kernel
theorem dX7_laySlips_61 : decode cX7_laySlips 61 = .ok (.iload_n 1, 1) := by decide +kernel
theorem dX7_laySlips_62 : decode cX7_laySlips 62 = .ok (.iconst 1, 1) := by decide +kernel
theorem dX7_laySlips_63 : decode cX7_laySlips 63 = .ok (.iadd, 1) := by decide +kernel
theorem dX7_laySlips_64 : decode cX7_laySlips 64 = .ok (.istore_n 2, 1) := by decide +kernel
theorem dX7_laySlips_65 : decode cX7_laySlips 65 = .ok (.iload_n 2, 1) := by decide +kernel
theorem dX7_laySlips_66 : decode cX7_laySlips 66 = .ok (.aload_n 0, 1) := by decide +kernel
theorem dX7_laySlips_67 : decode cX7_laySlips 67 = .ok (.invokevirtual 64, 3) := by decide +kernel
theorem dX7_laySlips_70 : decode cX7_laySlips 70 = .ok (.if_icmp .ge 62, 3) := by decide +kernel
theorem dX7_laySlips_73 : decode cX7_laySlips 73 = .ok (.aload_n 0, 1) := by decide +kernel
theorem dX7_laySlips_74 : decode cX7_laySlips 74 = .ok (.iload_n 1, 1) := by decide +kernel
theorem dX7_laySlips_75 : decode cX7_laySlips 75 = .ok (.iconst 1, 1) := by decide +kernel
theorem dX7_laySlips_76 : decode cX7_laySlips 76 = .ok (.invokevirtual 110, 3) := by decide +kernel
theorem dX7_laySlips_79 : decode cX7_laySlips 79 = .ok (.aload_n 0, 1) := by decide +kernel
theorem dX7_laySlips_80 : decode cX7_laySlips 80 = .ok (.iload_n 2, 1) := by decide +kernel
theorem dX7_laySlips_81 : decode cX7_laySlips 81 = .ok (.iconst 1, 1) := by decide +kernel
theorem dX7_laySlips_82 : decode cX7_laySlips 82 = .ok (.invokevirtual 110, 3) := by decide +kernel
theorem dX7_laySlips_85 : decode cX7_laySlips 85 = .ok (.if_icmp .le 7, 3) := by decide +kernel
theorem dX7_laySlips_88 : decode cX7_laySlips 88 = .ok (.iload_n 1, 1) := by decide +kernel
theorem dX7_laySlips_89 : decode cX7_laySlips 89 = .ok (.goto 4, 3) := by decide +kernel
theorem dX7_laySlips_92 : decode cX7_laySlips 92 = .ok (.iload_n 2, 1) := by decide +kernel
theorem dX7_laySlips_93 : decode cX7_laySlips 93 = .ok (.istore_n 3, 1) := by decide +kernel
theorem dX7_laySlips_94 : decode cX7_laySlips 94 = .ok (.aload_n 0, 1) := by decide +kernel
theorem dX7_laySlips_95 : decode cX7_laySlips 95 = .ok (.getfield 36, 3) := by decide +kernel
theorem dX7_laySlips_98 : decode cX7_laySlips 98 = .ok (.aload_n 0, 1) := by decide +kernel
theorem dX7_laySlips_99 : decode cX7_laySlips 99 = .ok (.iload_n 3, 1) := by decide +kernel
theorem dX7_laySlips_100 : decode cX7_laySlips 100 = .ok (.iconst 1, 1) := by decide +kernel
theorem dX7_laySlips_101 : decode cX7_laySlips 101 = .ok (.invokevirtual 110, 3) := by decide +kernel
theorem dX7_laySlips_104 : decode cX7_laySlips 104 = .ok (.bipush 8, 2) := by decide +kernel
theorem dX7_laySlips_106 : decode cX7_laySlips 106 = .ok (.idiv, 1) := by decide +kernel
theorem dX7_laySlips_107 : decode cX7_laySlips 107 = .ok (.dup2, 1) := by decide +kernel
theorem dX7_laySlips_108 : decode cX7_laySlips 108 = .ok (.iaload, 1) := by decide +kernel
theorem dX7_laySlips_109 : decode cX7_laySlips 109 = .ok (.aload_n 0, 1) := by decide +kernel
theorem dX7_laySlips_110 : decode cX7_laySlips 110 = .ok (.iload_n 1, 1) := by decide +kernel
theorem dX7_laySlips_111 : decode cX7_laySlips 111 = .ok (.iload_n 2, 1) := by decide +kernel
theorem dX7_laySlips_112 : decode cX7_laySlips 112 = .ok (.invokevirtual 139, 3) := by decide +kernel
theorem dX7_laySlips_115 : decode cX7_laySlips 115 = .ok (.iconst (-1), 1) := by decide +kernel
theorem dX7_laySlips_116 : decode cX7_laySlips 116 = .ok (.if_icmp .ne 7, 3) := by decide +kernel
theorem dX7_laySlips_119 : decode cX7_laySlips 119 = .ok (.iconst 0, 1) := by decide +kernel
theorem dX7_laySlips_120 : decode cX7_laySlips 120 = .ok (.goto 4, 3) := by decide +kernel
theorem dX7_laySlips_123 : decode cX7_laySlips 123 = .ok (.iconst 4, 1) := by decide +kernel
theorem dX7_laySlips_124 : decode cX7_laySlips 124 = .ok (.iadd, 1) := by decide +kernel
theorem dX7_laySlips_125 : decode cX7_laySlips 125 = .ok (.iastore, 1) := by decide +kernel
theorem dX7_laySlips_126 : decode cX7_laySlips 126 = .ok (.iinc 2 1, 3) := by decide +kernel
theorem dX7_laySlips_129 : decode cX7_laySlips 129 = .ok (.goto (-64), 3) := by decide +kernel
theorem dX7_laySlips_132 : decode cX7_laySlips 132 = .ok (.iinc 1 1, 3) := by decide +kernel
theorem dX7_laySlips_135 : decode cX7_laySlips 135 = .ok (.goto (-112), 3) := by decide +kernel
theorem dX7_laySlips_138 : decode cX7_laySlips 138 = .ok (.return_, 1) := by decide +kernel
theorem dX7_slipsBy_0 : decode cX7_slipsBy 0 = .ok (.iconst 0, 1) := by decide +kernel
theorem dX7_slipsBy_1 : decode cX7_slipsBy 1 = .ok (.istore_n 2, 1) := by decide +kernel
theorem dX7_slipsBy_2 : decode cX7_slipsBy 2 = .ok (.iload_n 2, 1) := by decide +kernel
theorem dX7_slipsBy_3 : decode cX7_slipsBy 3 = .ok (.bipush 8, 2) := by decide +kernel
theorem dX7_slipsBy_5 : decode cX7_slipsBy 5 = .ok (.if_icmp .ge 21, 3) := by decide +kernel
theorem dX7_slipsBy_8 : decode cX7_slipsBy 8 = .ok (.aload_n 0, 1) := by decide +kernel
theorem dX7_slipsBy_9 : decode cX7_slipsBy 9 = .ok (.getfield 39, 3) := by decide +kernel
theorem dX7_slipsBy_12 : decode cX7_slipsBy 12 = .ok (.iload_n 2, 1) := by decide +kernel
theorem dX7_slipsBy_13 : decode cX7_slipsBy 13 = .ok (.aload_n 0, 1) := by decide +kernel
theorem dX7_slipsBy_14 : decode cX7_slipsBy 14 = .ok (.getfield 36, 3) := by decide +kernel
theorem dX7_slipsBy_17 : decode cX7_slipsBy 17 = .ok (.iload_n 2, 1) := by decide +kernel
theorem dX7_slipsBy_18 : decode cX7_slipsBy 18 = .ok (.iaload, 1) := by decide +kernel
theorem dX7_slipsBy_19 : decode cX7_slipsBy 19 = .ok (.iastore, 1) := by decide +kernel
theorem dX7_slipsBy_20 : decode cX7_slipsBy 20 = .ok (.iinc 2 1, 3) := by decide +kernel
theorem dX7_slipsBy_23 : decode cX7_slipsBy 23 = .ok (.goto (-21), 3) := by decide +kernel
theorem dX7_slipsBy_26 : decode cX7_slipsBy 26 = .ok (.iconst 0, 1) := by decide +kernel
theorem dX7_slipsBy_27 : decode cX7_slipsBy 27 = .ok (.istore_n 2, 1) := by decide +kernel
theorem dX7_slipsBy_28 : decode cX7_slipsBy 28 = .ok (.iload_n 2, 1) := by decide +kernel
theorem dX7_slipsBy_29 : decode cX7_slipsBy 29 = .ok (.iload_n 1, 1) := by decide +kernel
theorem dX7_slipsBy_30 : decode cX7_slipsBy 30 = .ok (.if_icmp .ge 35, 3) := by decide +kernel
theorem dX7_slipsBy_33 : decode cX7_slipsBy 33 = .ok (.aload_n 0, 1) := by decide +kernel
theorem dX7_slipsBy_34 : decode cX7_slipsBy 34 = .ok (.getfield 39, 3) := by decide +kernel
theorem dX7_slipsBy_37 : decode cX7_slipsBy 37 = .ok (.aload_n 0, 1) := by decide +kernel
theorem dX7_slipsBy_38 : decode cX7_slipsBy 38 = .ok (.getfield 45, 3) := by decide +kernel
theorem dX7_slipsBy_41 : decode cX7_slipsBy 41 = .ok (.iload_n 2, 1) := by decide +kernel
theorem dX7_slipsBy_42 : decode cX7_slipsBy 42 = .ok (.iaload, 1) := by decide +kernel
theorem dX7_slipsBy_43 : decode cX7_slipsBy 43 = .ok (.aload_n 0, 1) := by decide +kernel
theorem dX7_slipsBy_44 : decode cX7_slipsBy 44 = .ok (.getfield 39, 3) := by decide +kernel
theorem dX7_slipsBy_47 : decode cX7_slipsBy 47 = .ok (.aload_n 0, 1) := by decide +kernel
theorem dX7_slipsBy_48 : decode cX7_slipsBy 48 = .ok (.getfield 45, 3) := by decide +kernel
theorem dX7_slipsBy_51 : decode cX7_slipsBy 51 = .ok (.iload_n 2, 1) := by decide +kernel
theorem dX7_slipsBy_52 : decode cX7_slipsBy 52 = .ok (.iaload, 1) := by decide +kernel
theorem dX7_slipsBy_53 : decode cX7_slipsBy 53 = .ok (.iaload, 1) := by decide +kernel
theorem dX7_slipsBy_54 : decode cX7_slipsBy 54 = .ok (.iconst 3, 1) := by decide +kernel
theorem dX7_slipsBy_55 : decode cX7_slipsBy 55 = .ok (.imul, 1) := by decide +kernel
theorem dX7_slipsBy_56 : decode cX7_slipsBy 56 = .ok (.iconst 4, 1) := by decide +kernel
theorem dX7_slipsBy_57 : decode cX7_slipsBy 57 = .ok (.idiv, 1) := by decide +kernel
theorem dX7_slipsBy_58 : decode cX7_slipsBy 58 = .ok (.iastore, 1) := by decide +kernel
theorem dX7_slipsBy_59 : decode cX7_slipsBy 59 = .ok (.iinc 2 1, 3) := by decide +kernel
theorem dX7_slipsBy_62 : decode cX7_slipsBy 62 = .ok (.goto (-34), 3) := by decide +kernel
theorem dX7_slipsBy_65 : decode cX7_slipsBy 65 = .ok (.iconst 0, 1) := by decide +kernel
theorem dX7_slipsBy_66 : decode cX7_slipsBy 66 = .ok (.istore_n 2, 1) := by decide +kernel
theorem dX7_slipsBy_67 : decode cX7_slipsBy 67 = .ok (.iconst 0, 1) := by decide +kernel
theorem dX7_slipsBy_68 : decode cX7_slipsBy 68 = .ok (.istore_n 3, 1) := by decide +kernel
theorem dX7_slipsBy_69 : decode cX7_slipsBy 69 = .ok (.iload_n 3, 1) := by decide +kernel
theorem dX7_slipsBy_70 : decode cX7_slipsBy 70 = .ok (.bipush 8, 2) := by decide +kernel
theorem dX7_slipsBy_72 : decode cX7_slipsBy 72 = .ok (.if_icmp .ge 18, 3) := by decide +kernel
theorem dX7_slipsBy_75 : decode cX7_slipsBy 75 = .ok (.iload_n 2, 1) := by decide +kernel
theorem dX7_slipsBy_76 : decode cX7_slipsBy 76 = .ok (.aload_n 0, 1) := by decide +kernel
theorem dX7_slipsBy_77 : decode cX7_slipsBy 77 = .ok (.getfield 39, 3) := by decide +kernel
theorem dX7_slipsBy_80 : decode cX7_slipsBy 80 = .ok (.iload_n 3, 1) := by decide +kernel
theorem dX7_slipsBy_81 : decode cX7_slipsBy 81 = .ok (.iaload, 1) := by decide +kernel
theorem dX7_slipsBy_82 : decode cX7_slipsBy 82 = .ok (.iadd, 1) := by decide +kernel
theorem dX7_slipsBy_83 : decode cX7_slipsBy 83 = .ok (.istore_n 2, 1) := by decide +kernel
theorem dX7_slipsBy_84 : decode cX7_slipsBy 84 = .ok (.iinc 3 1, 3) := by decide +kernel
theorem dX7_slipsBy_87 : decode cX7_slipsBy 87 = .ok (.goto (-18), 3) := by decide +kernel
theorem dX7_slipsBy_90 : decode cX7_slipsBy 90 = .ok (.iload_n 2, 1) := by decide +kernel
theorem dX7_slipsBy_91 : decode cX7_slipsBy 91 = .ok (.ireturn, 1) := by decide +kernel
theorem dX7_nextRow_0 : decode cX7_nextRow 0 = .ok (.iload_n 1, 1) := by decide +kernel
theorem dX7_nextRow_1 : decode cX7_nextRow 1 = .ok (.iconst 1, 1) := by decide +kernel
theorem dX7_nextRow_2 : decode cX7_nextRow 2 = .ok (.isub, 1) := by decide +kernel
theorem dX7_nextRow_3 : decode cX7_nextRow 3 = .ok (.istore_n 2, 1) := by decide +kernel
theorem dX7_nextRow_4 : decode cX7_nextRow 4 = .ok (.iload_n 2, 1) := by decide +kernel
theorem dX7_nextRow_5 : decode cX7_nextRow 5 = .ok (.ifCond .lt 20, 3) := by decide +kernel
theorem dX7_nextRow_8 : decode cX7_nextRow 8 = .ok (.aload_n 0, 1) := by decide +kernel
theorem dX7_nextRow_9 : decode cX7_nextRow 9 = .ok (.getfield 45, 3) := by decide +kernel
theorem dX7_nextRow_12 : decode cX7_nextRow 12 = .ok (.iload_n 2, 1) := by decide +kernel
theorem dX7_nextRow_13 : decode cX7_nextRow 13 = .ok (.iaload, 1) := by decide +kernel
theorem dX7_nextRow_14 : decode cX7_nextRow 14 = .ok (.bipush 7, 2) := by decide +kernel
theorem dX7_nextRow_16 : decode cX7_nextRow 16 = .ok (.if_icmp .ne 9, 3) := by decide +kernel
theorem dX7_nextRow_19 : decode cX7_nextRow 19 = .ok (.iinc 2 (-1), 3) := by decide +kernel
theorem dX7_nextRow_22 : decode cX7_nextRow 22 = .ok (.goto (-18), 3) := by decide +kernel
theorem dX7_nextRow_25 : decode cX7_nextRow 25 = .ok (.iload_n 2, 1) := by decide +kernel
theorem dX7_nextRow_26 : decode cX7_nextRow 26 = .ok (.ifCond .ge 5, 3) := by decide +kernel
theorem dX7_nextRow_29 : decode cX7_nextRow 29 = .ok (.iconst 0, 1) := by decide +kernel
theorem dX7_nextRow_30 : decode cX7_nextRow 30 = .ok (.ireturn, 1) := by decide +kernel
theorem dX7_nextRow_31 : decode cX7_nextRow 31 = .ok (.aload_n 0, 1) := by decide +kernel
theorem dX7_nextRow_32 : decode cX7_nextRow 32 = .ok (.getfield 45, 3) := by decide +kernel
theorem dX7_nextRow_35 : decode cX7_nextRow 35 = .ok (.iload_n 2, 1) := by decide +kernel
theorem dX7_nextRow_36 : decode cX7_nextRow 36 = .ok (.iaload, 1) := by decide +kernel
theorem dX7_nextRow_37 : decode cX7_nextRow 37 = .ok (.iconst 1, 1) := by decide +kernel
theorem dX7_nextRow_38 : decode cX7_nextRow 38 = .ok (.iadd, 1) := by decide +kernel
theorem dX7_nextRow_39 : decode cX7_nextRow 39 = .ok (.istore_n 3, 1) := by decide +kernel
theorem dX7_nextRow_40 : decode cX7_nextRow 40 = .ok (.iload_n 2, 1) := by decide +kernel
theorem dX7_nextRow_41 : decode cX7_nextRow 41 = .ok (.istore 4, 2) := by decide +kernel
theorem dX7_nextRow_43 : decode cX7_nextRow 43 = .ok (.iload 4, 2) := by decide +kernel
theorem dX7_nextRow_45 : decode cX7_nextRow 45 = .ok (.iload_n 1, 1) := by decide +kernel
theorem dX7_nextRow_46 : decode cX7_nextRow 46 = .ok (.if_icmp .ge 17, 3) := by decide +kernel
theorem dX7_nextRow_49 : decode cX7_nextRow 49 = .ok (.aload_n 0, 1) := by decide +kernel
theorem dX7_nextRow_50 : decode cX7_nextRow 50 = .ok (.getfield 45, 3) := by decide +kernel
theorem dX7_nextRow_53 : decode cX7_nextRow 53 = .ok (.iload 4, 2) := by decide +kernel
theorem dX7_nextRow_55 : decode cX7_nextRow 55 = .ok (.iload_n 3, 1) := by decide +kernel
theorem dX7_nextRow_56 : decode cX7_nextRow 56 = .ok (.iastore, 1) := by decide +kernel
theorem dX7_nextRow_57 : decode cX7_nextRow 57 = .ok (.iinc 4 1, 3) := by decide +kernel
theorem dX7_nextRow_60 : decode cX7_nextRow 60 = .ok (.goto (-17), 3) := by decide +kernel
theorem dX7_nextRow_63 : decode cX7_nextRow 63 = .ok (.iconst 1, 1) := by decide +kernel
theorem dX7_nextRow_64 : decode cX7_nextRow 64 = .ok (.ireturn, 1) := by decide +kernel
theorem dX7_practice_0 : decode cX7_practice 0 = .ok (.iload_n 1, 1) := by decide +kernel
theorem dX7_practice_1 : decode cX7_practice 1 = .ok (.i2l, 1) := by decide +kernel
theorem dX7_practice_2 : decode cX7_practice 2 = .ok (.lconst 0, 1) := by decide +kernel
theorem dX7_practice_3 : decode cX7_practice 3 = .ok (.ldc2_w 230, 3) := by decide +kernel
theorem dX7_practice_6 : decode cX7_practice 6 = .ok (.invokestatic 68, 3) := by decide +kernel
theorem dX7_practice_9 : decode cX7_practice 9 = .ok (.ifCond .eq 8, 3) := by decide +kernel
theorem dX7_practice_12 : decode cX7_practice 12 = .ok (.iload_n 2, 1) := by decide +kernel
theorem dX7_practice_13 : decode cX7_practice 13 = .ok (.iconst (-1), 1) := by decide +kernel
theorem dX7_practice_14 : decode cX7_practice 14 = .ok (.if_icmp .ge 10, 3) := by decide +kernel
theorem dX7_practice_17 : decode cX7_practice 17 = .ok (.aload_n 0, 1) := by decide +kernel
theorem dX7_practice_18 : decode cX7_practice 18 = .ok (.bipush (-10), 2) := by decide +kernel
theorem dX7_practice_20 : decode cX7_practice 20 = .ok (.invokevirtual 76, 3) := by decide +kernel
theorem dX7_practice_23 : decode cX7_practice 23 = .ok (.ireturn, 1) := by decide +kernel
theorem dX7_practice_24 : decode cX7_practice 24 = .ok (.aload_n 0, 1) := by decide +kernel
theorem dX7_practice_25 : decode cX7_practice 25 = .ok (.invokevirtual 232, 3) := by decide +kernel
theorem dX7_practice_28 : decode cX7_practice 28 = .ok (.aload_n 0, 1) := by decide +kernel
theorem dX7_practice_29 : decode cX7_practice 29 = .ok (.ldc 185, 2) := by decide +kernel
theorem dX7_practice_31 : decode cX7_practice 31 = .ok (.putfield 235, 3) := by decide +kernel
theorem dX7_practice_34 : decode cX7_practice 34 = .ok (.iconst 0, 1) := by decide +kernel
theorem dX7_practice_35 : decode cX7_practice 35 = .ok (.istore_n 3, 1) := by decide +kernel
theorem dX7_practice_36 : decode cX7_practice 36 = .ok (.iload_n 3, 1) := by decide +kernel
theorem dX7_practice_37 : decode cX7_practice 37 = .ok (.iload_n 1, 1) := by decide +kernel
theorem dX7_practice_38 : decode cX7_practice 38 = .ok (.if_icmp .ge 16, 3) := by decide +kernel
theorem dX7_practice_41 : decode cX7_practice 41 = .ok (.aload_n 0, 1) := by decide +kernel
theorem dX7_practice_42 : decode cX7_practice 42 = .ok (.getfield 45, 3) := by decide +kernel
theorem dX7_practice_45 : decode cX7_practice 45 = .ok (.iload_n 3, 1) := by decide +kernel
theorem dX7_practice_46 : decode cX7_practice 46 = .ok (.iconst 0, 1) := by decide +kernel
theorem dX7_practice_47 : decode cX7_practice 47 = .ok (.iastore, 1) := by decide +kernel
theorem dX7_practice_48 : decode cX7_practice 48 = .ok (.iinc 3 1, 3) := by decide +kernel
theorem dX7_practice_51 : decode cX7_practice 51 = .ok (.goto (-15), 3) := by decide +kernel
theorem dX7_practice_54 : decode cX7_practice 54 = .ok (.iconst 1, 1) := by decide +kernel
theorem dX7_practice_55 : decode cX7_practice 55 = .ok (.istore_n 3, 1) := by decide +kernel
theorem dX7_practice_56 : decode cX7_practice 56 = .ok (.iload_n 3, 1) := by decide +kernel
theorem dX7_practice_57 : decode cX7_practice 57 = .ok (.ifCond .eq 79, 3) := by decide +kernel
theorem dX7_practice_60 : decode cX7_practice 60 = .ok (.aload_n 0, 1) := by decide +kernel
theorem dX7_practice_61 : decode cX7_practice 61 = .ok (.iload_n 1, 1) := by decide +kernel
theorem dX7_practice_62 : decode cX7_practice 62 = .ok (.invokevirtual 238, 3) := by decide +kernel
theorem dX7_practice_65 : decode cX7_practice 65 = .ok (.istore 4, 2) := by decide +kernel
theorem dX7_practice_67 : decode cX7_practice 67 = .ok (.iconst 0, 1) := by decide +kernel
theorem dX7_practice_68 : decode cX7_practice 68 = .ok (.istore 5, 2) := by decide +kernel
theorem dX7_practice_70 : decode cX7_practice 70 = .ok (.iload 5, 2) := by decide +kernel
theorem dX7_practice_72 : decode cX7_practice 72 = .ok (.iload_n 1, 1) := by decide +kernel
theorem dX7_practice_73 : decode cX7_practice 73 = .ok (.if_icmp .ge 32, 3) := by decide +kernel
theorem dX7_practice_76 : decode cX7_practice 76 = .ok (.iload 4, 2) := by decide +kernel
theorem dX7_practice_78 : decode cX7_practice 78 = .ok (.aload_n 0, 1) := by decide +kernel
theorem dX7_practice_79 : decode cX7_practice 79 = .ok (.getfield 235, 3) := by decide +kernel
theorem dX7_practice_82 : decode cX7_practice 82 = .ok (.if_icmp .ge 23, 3) := by decide +kernel
theorem dX7_practice_85 : decode cX7_practice 85 = .ok (.aload_n 0, 1) := by decide +kernel
theorem dX7_practice_86 : decode cX7_practice 86 = .ok (.getfield 42, 3) := by decide +kernel
theorem dX7_practice_89 : decode cX7_practice 89 = .ok (.iload 5, 2) := by decide +kernel
theorem dX7_practice_91 : decode cX7_practice 91 = .ok (.aload_n 0, 1) := by decide +kernel
theorem dX7_practice_92 : decode cX7_practice 92 = .ok (.getfield 45, 3) := by decide +kernel
theorem dX7_practice_95 : decode cX7_practice 95 = .ok (.iload 5, 2) := by decide +kernel
theorem dX7_practice_97 : decode cX7_practice 97 = .ok (.iaload, 1) := by decide +kernel
theorem dX7_practice_98 : decode cX7_practice 98 = .ok (.iastore, 1) := by decide +kernel
theorem dX7_practice_99 : decode cX7_practice 99 = .ok (.iinc 5 1, 3) := by decide +kernel
theorem dX7_practice_102 : decode cX7_practice 102 = .ok (.goto (-32), 3) := by decide +kernel
theorem dX7_practice_105 : decode cX7_practice 105 = .ok (.aload_n 0, 1) := by decide +kernel
theorem dX7_practice_106 : decode cX7_practice 106 = .ok (.iload 4, 2) := by decide +kernel
theorem dX7_practice_108 : decode cX7_practice 108 = .ok (.aload_n 0, 1) := by decide +kernel
theorem dX7_practice_109 : decode cX7_practice 109 = .ok (.getfield 235, 3) := by decide +kernel
theorem dX7_practice_112 : decode cX7_practice 112 = .ok (.if_icmp .ge 8, 3) := by decide +kernel
theorem dX7_practice_115 : decode cX7_practice 115 = .ok (.iload 4, 2) := by decide +kernel
theorem dX7_practice_117 : decode cX7_practice 117 = .ok (.goto 7, 3) := by decide +kernel
theorem dX7_practice_120 : decode cX7_practice 120 = .ok (.aload_n 0, 1) := by decide +kernel
theorem dX7_practice_121 : decode cX7_practice 121 = .ok (.getfield 235, 3) := by decide +kernel
theorem dX7_practice_124 : decode cX7_practice 124 = .ok (.putfield 235, 3) := by decide +kernel
theorem dX7_practice_127 : decode cX7_practice 127 = .ok (.aload_n 0, 1) := by decide +kernel
theorem dX7_practice_128 : decode cX7_practice 128 = .ok (.iload_n 1, 1) := by decide +kernel
theorem dX7_practice_129 : decode cX7_practice 129 = .ok (.invokevirtual 241, 3) := by decide +kernel
theorem dX7_practice_132 : decode cX7_practice 132 = .ok (.istore_n 3, 1) := by decide +kernel
theorem dX7_practice_133 : decode cX7_practice 133 = .ok (.goto (-77), 3) := by decide +kernel
theorem dX7_practice_136 : decode cX7_practice 136 = .ok (.iload_n 2, 1) := by decide +kernel
theorem dX7_practice_137 : decode cX7_practice 137 = .ok (.iconst (-1), 1) := by decide +kernel
theorem dX7_practice_138 : decode cX7_practice 138 = .ok (.if_icmp .ne 10, 3) := by decide +kernel
theorem dX7_practice_141 : decode cX7_practice 141 = .ok (.aload_n 0, 1) := by decide +kernel
theorem dX7_practice_142 : decode cX7_practice 142 = .ok (.getfield 235, 3) := by decide +kernel
theorem dX7_practice_145 : decode cX7_practice 145 = .ok (.goto 19, 3) := by decide +kernel
theorem dX7_practice_148 : decode cX7_practice 148 = .ok (.iload_n 2, 1) := by decide +kernel
theorem dX7_practice_149 : decode cX7_practice 149 = .ok (.iload_n 1, 1) := by decide +kernel
theorem dX7_practice_150 : decode cX7_practice 150 = .ok (.if_icmp .ge 12, 3) := by decide +kernel
theorem dX7_practice_153 : decode cX7_practice 153 = .ok (.aload_n 0, 1) := by decide +kernel
theorem dX7_practice_154 : decode cX7_practice 154 = .ok (.getfield 42, 3) := by decide +kernel
theorem dX7_practice_157 : decode cX7_practice 157 = .ok (.iload_n 2, 1) := by decide +kernel
theorem dX7_practice_158 : decode cX7_practice 158 = .ok (.iaload, 1) := by decide +kernel
theorem dX7_practice_159 : decode cX7_practice 159 = .ok (.goto 5, 3) := by decide +kernel
theorem dX7_practice_162 : decode cX7_practice 162 = .ok (.bipush (-5), 2) := by decide +kernel
theorem dX7_practice_164 : decode cX7_practice 164 = .ok (.ireturn, 1) := by decide +kernel
theorem dX7_tell_0 : decode cX7_tell 0 = .ok (.lload_n 1, 1) := by decide +kernel
theorem dX7_tell_1 : decode cX7_tell 1 = .ok (.lstore 5, 2) := by decide +kernel
theorem dX7_tell_3 : decode cX7_tell 3 = .ok (.lload_n 3, 1) := by decide +kernel
theorem dX7_tell_4 : decode cX7_tell 4 = .ok (.lstore 7, 2) := by decide +kernel
theorem dX7_tell_6 : decode cX7_tell 6 = .ok (.lload 7, 2) := by decide +kernel
theorem dX7_tell_8 : decode cX7_tell 8 = .ok (.lconst 0, 1) := by decide +kernel
theorem dX7_tell_9 : decode cX7_tell 9 = .ok (.lcmp, 1) := by decide +kernel
theorem dX7_tell_10 : decode cX7_tell 10 = .ok (.ifCond .eq 21, 3) := by decide +kernel
theorem dX7_tell_13 : decode cX7_tell 13 = .ok (.lload 5, 2) := by decide +kernel
theorem dX7_tell_15 : decode cX7_tell 15 = .ok (.lload 7, 2) := by decide +kernel
theorem dX7_tell_17 : decode cX7_tell 17 = .ok (.lrem, 1) := by decide +kernel
theorem dX7_tell_18 : decode cX7_tell 18 = .ok (.lstore 9, 2) := by decide +kernel
theorem dX7_tell_20 : decode cX7_tell 20 = .ok (.lload 7, 2) := by decide +kernel
theorem dX7_tell_22 : decode cX7_tell 22 = .ok (.lstore 5, 2) := by decide +kernel
theorem dX7_tell_24 : decode cX7_tell 24 = .ok (.lload 9, 2) := by decide +kernel
theorem dX7_tell_26 : decode cX7_tell 26 = .ok (.lstore 7, 2) := by decide +kernel
theorem dX7_tell_28 : decode cX7_tell 28 = .ok (.goto (-22), 3) := by decide +kernel
theorem dX7_tell_31 : decode cX7_tell 31 = .ok (.aload_n 0, 1) := by decide +kernel
theorem dX7_tell_32 : decode cX7_tell 32 = .ok (.lload_n 1, 1) := by decide +kernel
theorem dX7_tell_33 : decode cX7_tell 33 = .ok (.lload 5, 2) := by decide +kernel
theorem dX7_tell_35 : decode cX7_tell 35 = .ok (.ldiv, 1) := by decide +kernel
theorem dX7_tell_36 : decode cX7_tell 36 = .ok (.putfield 244, 3) := by decide +kernel
theorem dX7_tell_39 : decode cX7_tell 39 = .ok (.aload_n 0, 1) := by decide +kernel
theorem dX7_tell_40 : decode cX7_tell 40 = .ok (.lload_n 3, 1) := by decide +kernel
theorem dX7_tell_41 : decode cX7_tell 41 = .ok (.lload 5, 2) := by decide +kernel
theorem dX7_tell_43 : decode cX7_tell 43 = .ok (.ldiv, 1) := by decide +kernel
theorem dX7_tell_44 : decode cX7_tell 44 = .ok (.putfield 23, 3) := by decide +kernel
theorem dX7_tell_47 : decode cX7_tell 47 = .ok (.return_, 1) := by decide +kernel
theorem dX7_breath_0 : decode cX7_breath 0 = .ok (.iload_n 1, 1) := by decide +kernel
theorem dX7_breath_1 : decode cX7_breath 1 = .ok (.i2l, 1) := by decide +kernel
theorem dX7_breath_2 : decode cX7_breath 2 = .ok (.lconst 0, 1) := by decide +kernel
theorem dX7_breath_3 : decode cX7_breath 3 = .ok (.ldc2_w 247, 3) := by decide +kernel
theorem dX7_breath_6 : decode cX7_breath 6 = .ok (.invokestatic 68, 3) := by decide +kernel
theorem dX7_breath_9 : decode cX7_breath 9 = .ok (.ifCond .eq 15, 3) := by decide +kernel
theorem dX7_breath_12 : decode cX7_breath 12 = .ok (.iload_n 2, 1) := by decide +kernel
theorem dX7_breath_13 : decode cX7_breath 13 = .ok (.i2l, 1) := by decide +kernel
theorem dX7_breath_14 : decode cX7_breath 14 = .ok (.lconst 0, 1) := by decide +kernel
theorem dX7_breath_15 : decode cX7_breath 15 = .ok (.ldc2_w 247, 3) := by decide +kernel
theorem dX7_breath_18 : decode cX7_breath 18 = .ok (.invokestatic 68, 3) := by decide +kernel
theorem dX7_breath_21 : decode cX7_breath 21 = .ok (.ifCond .ne 10, 3) := by decide +kernel
theorem dX7_breath_24 : decode cX7_breath 24 = .ok (.aload_n 0, 1) := by decide +kernel
theorem dX7_breath_25 : decode cX7_breath 25 = .ok (.bipush (-2), 2) := by decide +kernel
theorem dX7_breath_27 : decode cX7_breath 27 = .ok (.invokevirtual 76, 3) := by decide +kernel
theorem dX7_breath_30 : decode cX7_breath 30 = .ok (.ireturn, 1) := by decide +kernel
theorem dX7_breath_31 : decode cX7_breath 31 = .ok (.iconst 0, 1) := by decide +kernel
theorem dX7_breath_32 : decode cX7_breath 32 = .ok (.istore_n 3, 1) := by decide +kernel
theorem dX7_breath_33 : decode cX7_breath 33 = .ok (.iconst 0, 1) := by decide +kernel
theorem dX7_breath_34 : decode cX7_breath 34 = .ok (.istore 4, 2) := by decide +kernel
theorem dX7_breath_36 : decode cX7_breath 36 = .ok (.iload 4, 2) := by decide +kernel
theorem dX7_breath_38 : decode cX7_breath 38 = .ok (.iload_n 1, 1) := by decide +kernel
theorem dX7_breath_39 : decode cX7_breath 39 = .ok (.if_icmp .gt 43, 3) := by decide +kernel
theorem dX7_breath_42 : decode cX7_breath 42 = .ok (.iconst 0, 1) := by decide +kernel
theorem dX7_breath_43 : decode cX7_breath 43 = .ok (.istore 5, 2) := by decide +kernel
theorem dX7_breath_45 : decode cX7_breath 45 = .ok (.iload 5, 2) := by decide +kernel
theorem dX7_breath_47 : decode cX7_breath 47 = .ok (.iload_n 1, 1) := by decide +kernel
theorem dX7_breath_48 : decode cX7_breath 48 = .ok (.if_icmp .gt 28, 3) := by decide +kernel
theorem dX7_breath_51 : decode cX7_breath 51 = .ok (.iload_n 3, 1) := by decide +kernel
theorem dX7_breath_52 : decode cX7_breath 52 = .ok (.iload 4, 2) := by decide +kernel
theorem dX7_breath_54 : decode cX7_breath 54 = .ok (.iload 5, 2) := by decide +kernel
theorem dX7_breath_56 : decode cX7_breath 56 = .ok (.invokestatic 120, 3) := by decide +kernel
theorem dX7_breath_59 : decode cX7_breath 59 = .ok (.iload_n 2, 1) := by decide +kernel
theorem dX7_breath_60 : decode cX7_breath 60 = .ok (.if_icmp .gt 7, 3) := by decide +kernel
theorem dX7_breath_63 : decode cX7_breath 63 = .ok (.iconst 1, 1) := by decide +kernel
theorem dX7_breath_64 : decode cX7_breath 64 = .ok (.goto 4, 3) := by decide +kernel
theorem dX7_breath_67 : decode cX7_breath 67 = .ok (.iconst 0, 1) := by decide +kernel
theorem dX7_breath_68 : decode cX7_breath 68 = .ok (.iadd, 1) := by decide +kernel
theorem dX7_breath_69 : decode cX7_breath 69 = .ok (.istore_n 3, 1) := by decide +kernel
theorem dX7_breath_70 : decode cX7_breath 70 = .ok (.iinc 5 1, 3) := by decide +kernel
theorem dX7_breath_73 : decode cX7_breath 73 = .ok (.goto (-28), 3) := by decide +kernel
theorem dX7_breath_76 : decode cX7_breath 76 = .ok (.iinc 4 1, 3) := by decide +kernel
theorem dX7_breath_79 : decode cX7_breath 79 = .ok (.goto (-43), 3) := by decide +kernel
theorem dX7_breath_82 : decode cX7_breath 82 = .ok (.aload_n 0, 1) := by decide +kernel
theorem dX7_breath_83 : decode cX7_breath 83 = .ok (.iload_n 3, 1) := by decide +kernel
theorem dX7_breath_84 : decode cX7_breath 84 = .ok (.i2l, 1) := by decide +kernel
theorem dX7_breath_85 : decode cX7_breath 85 = .ok (.iload_n 1, 1) := by decide +kernel
theorem dX7_breath_86 : decode cX7_breath 86 = .ok (.i2l, 1) := by decide +kernel
theorem dX7_breath_87 : decode cX7_breath 87 = .ok (.lconst 1, 1) := by decide +kernel
theorem dX7_breath_88 : decode cX7_breath 88 = .ok (.ladd, 1) := by decide +kernel
theorem dX7_breath_89 : decode cX7_breath 89 = .ok (.iload_n 1, 1) := by decide +kernel
theorem dX7_breath_90 : decode cX7_breath 90 = .ok (.i2l, 1) := by decide +kernel
theorem dX7_breath_91 : decode cX7_breath 91 = .ok (.lconst 1, 1) := by decide +kernel
theorem dX7_breath_92 : decode cX7_breath 92 = .ok (.ladd, 1) := by decide +kernel
theorem dX7_breath_93 : decode cX7_breath 93 = .ok (.lmul, 1) := by decide +kernel
theorem dX7_breath_94 : decode cX7_breath 94 = .ok (.invokevirtual 249, 3) := by decide +kernel
theorem dX7_breath_97 : decode cX7_breath 97 = .ok (.iconst 1, 1) := by decide +kernel
theorem dX7_breath_98 : decode cX7_breath 98 = .ok (.ireturn, 1) := by decide +kernel
theorem dX7_heard_0 : decode cX7_heard 0 = .ok (.aload_n 0, 1) := by decide +kernel
theorem dX7_heard_1 : decode cX7_heard 1 = .ok (.iload_n 1, 1) := by decide +kernel
theorem dX7_heard_2 : decode cX7_heard 2 = .ok (.invokevirtual 142, 3) := by decide +kernel
theorem dX7_heard_5 : decode cX7_heard 5 = .ok (.ifCond .eq 17, 3) := by decide +kernel
theorem dX7_heard_8 : decode cX7_heard 8 = .ok (.iload_n 2, 1) := by decide +kernel
theorem dX7_heard_9 : decode cX7_heard 9 = .ok (.i2l, 1) := by decide +kernel
theorem dX7_heard_10 : decode cX7_heard 10 = .ok (.ldc2_w 98, 3) := by decide +kernel
theorem dX7_heard_13 : decode cX7_heard 13 = .ok (.ldc2_w 74, 3) := by decide +kernel
theorem dX7_heard_16 : decode cX7_heard 16 = .ok (.invokestatic 68, 3) := by decide +kernel
theorem dX7_heard_19 : decode cX7_heard 19 = .ok (.ifCond .ne 10, 3) := by decide +kernel
theorem dX7_heard_22 : decode cX7_heard 22 = .ok (.aload_n 0, 1) := by decide +kernel
theorem dX7_heard_23 : decode cX7_heard 23 = .ok (.bipush (-10), 2) := by decide +kernel
theorem dX7_heard_25 : decode cX7_heard 25 = .ok (.invokevirtual 76, 3) := by decide +kernel
theorem dX7_heard_28 : decode cX7_heard 28 = .ok (.ireturn, 1) := by decide +kernel
theorem dX7_heard_29 : decode cX7_heard 29 = .ok (.aload_n 0, 1) := by decide +kernel
theorem dX7_heard_30 : decode cX7_heard 30 = .ok (.iload_n 1, 1) := by decide +kernel
theorem dX7_heard_31 : decode cX7_heard 31 = .ok (.bipush 6, 2) := by decide +kernel
theorem dX7_heard_33 : decode cX7_heard 33 = .ok (.invokevirtual 110, 3) := by decide +kernel
theorem dX7_heard_36 : decode cX7_heard 36 = .ok (.istore_n 3, 1) := by decide +kernel
theorem dX7_heard_37 : decode cX7_heard 37 = .ok (.aload_n 0, 1) := by decide +kernel
theorem dX7_heard_38 : decode cX7_heard 38 = .ok (.getfield 7, 3) := by decide +kernel
theorem dX7_heard_41 : decode cX7_heard 41 = .ok (.bipush 16, 2) := by decide +kernel
theorem dX7_heard_43 : decode cX7_heard 43 = .ok (.bipush 7, 2) := by decide +kernel
theorem dX7_heard_45 : decode cX7_heard 45 = .ok (.iload_n 1, 1) := by decide +kernel
theorem dX7_heard_46 : decode cX7_heard 46 = .ok (.imul, 1) := by decide +kernel
theorem dX7_heard_47 : decode cX7_heard 47 = .ok (.iadd, 1) := by decide +kernel
theorem dX7_heard_48 : decode cX7_heard 48 = .ok (.bipush 6, 2) := by decide +kernel
theorem dX7_heard_50 : decode cX7_heard 50 = .ok (.iadd, 1) := by decide +kernel
theorem dX7_heard_51 : decode cX7_heard 51 = .ok (.iload_n 2, 1) := by decide +kernel
theorem dX7_heard_52 : decode cX7_heard 52 = .ok (.iastore, 1) := by decide +kernel
theorem dX7_heard_53 : decode cX7_heard 53 = .ok (.iload_n 3, 1) := by decide +kernel
theorem dX7_heard_54 : decode cX7_heard 54 = .ok (.ireturn, 1) := by decide +kernel
theorem dX7_explains_0 : decode cX7_explains 0 = .ok (.iconst 1, 1) := by decide +kernel
theorem dX7_explains_1 : decode cX7_explains 1 = .ok (.istore 4, 2) := by decide +kernel
theorem dX7_explains_3 : decode cX7_explains 3 = .ok (.iconst 0, 1) := by decide +kernel
theorem dX7_explains_4 : decode cX7_explains 4 = .ok (.istore 5, 2) := by decide +kernel
theorem dX7_explains_6 : decode cX7_explains 6 = .ok (.iload 5, 2) := by decide +kernel
theorem dX7_explains_8 : decode cX7_explains 8 = .ok (.aload_n 0, 1) := by decide +kernel
theorem dX7_explains_9 : decode cX7_explains 9 = .ok (.invokevirtual 64, 3) := by decide +kernel
theorem dX7_explains_12 : decode cX7_explains 12 = .ok (.if_icmp .ge 83, 3) := by decide +kernel
theorem dX7_explains_15 : decode cX7_explains 15 = .ok (.aload_n 0, 1) := by decide +kernel
theorem dX7_explains_16 : decode cX7_explains 16 = .ok (.iload 5, 2) := by decide +kernel
theorem dX7_explains_18 : decode cX7_explains 18 = .ok (.iconst 5, 1) := by decide +kernel
theorem dX7_explains_19 : decode cX7_explains 19 = .ok (.invokevirtual 110, 3) := by decide +kernel
theorem dX7_explains_22 : decode cX7_explains 22 = .ok (.iload_n 1, 1) := by decide +kernel
theorem dX7_explains_23 : decode cX7_explains 23 = .ok (.if_icmp .ne 18, 3) := by decide +kernel
theorem dX7_explains_26 : decode cX7_explains 26 = .ok (.aload_n 0, 1) := by decide +kernel
theorem dX7_explains_27 : decode cX7_explains 27 = .ok (.iload 5, 2) := by decide +kernel
theorem dX7_explains_29 : decode cX7_explains 29 = .ok (.iconst 1, 1) := by decide +kernel
theorem dX7_explains_30 : decode cX7_explains 30 = .ok (.invokevirtual 110, 3) := by decide +kernel
theorem dX7_explains_33 : decode cX7_explains 33 = .ok (.iload_n 2, 1) := by decide +kernel
theorem dX7_explains_34 : decode cX7_explains 34 = .ok (.if_icmp .lt 7, 3) := by decide +kernel
theorem dX7_explains_37 : decode cX7_explains 37 = .ok (.iconst 1, 1) := by decide +kernel
theorem dX7_explains_38 : decode cX7_explains 38 = .ok (.goto 4, 3) := by decide +kernel
theorem dX7_explains_41 : decode cX7_explains 41 = .ok (.iconst 0, 1) := by decide +kernel
theorem dX7_explains_42 : decode cX7_explains 42 = .ok (.istore 6, 2) := by decide +kernel
theorem dX7_explains_44 : decode cX7_explains 44 = .ok (.iload 4, 2) := by decide +kernel
theorem dX7_explains_46 : decode cX7_explains 46 = .ok (.ifCond .eq 40, 3) := by decide +kernel
theorem dX7_explains_49 : decode cX7_explains 49 = .ok (.aload_n 0, 1) := by decide +kernel
theorem dX7_explains_50 : decode cX7_explains 50 = .ok (.iload 5, 2) := by decide +kernel
theorem dX7_explains_52 : decode cX7_explains 52 = .ok (.bipush 6, 2) := by decide +kernel
theorem dX7_explains_54 : decode cX7_explains 54 = .ok (.invokevirtual 110, 3) := by decide +kernel
theorem dX7_explains_57 : decode cX7_explains 57 = .ok (.iconst (-1), 1) := by decide +kernel
theorem dX7_explains_58 : decode cX7_explains 58 = .ok (.if_icmp .eq 24, 3) := by decide +kernel
theorem dX7_explains_61 : decode cX7_explains 61 = .ok (.aload_n 0, 1) := by decide +kernel
theorem dX7_explains_62 : decode cX7_explains 62 = .ok (.iload 5, 2) := by decide +kernel
theorem dX7_explains_64 : decode cX7_explains 64 = .ok (.bipush 6, 2) := by decide +kernel
theorem dX7_explains_66 : decode cX7_explains 66 = .ok (.invokevirtual 110, 3) := by decide +kernel
theorem dX7_explains_69 : decode cX7_explains 69 = .ok (.iload 6, 2) := by decide +kernel
theorem dX7_explains_71 : decode cX7_explains 71 = .ok (.ifCond .eq 7, 3) := by decide +kernel
theorem dX7_explains_74 : decode cX7_explains 74 = .ok (.iload_n 3, 1) := by decide +kernel
theorem dX7_explains_75 : decode cX7_explains 75 = .ok (.goto 4, 3) := by decide +kernel
theorem dX7_explains_78 : decode cX7_explains 78 = .ok (.iconst 0, 1) := by decide +kernel
theorem dX7_explains_79 : decode cX7_explains 79 = .ok (.if_icmp .ne 7, 3) := by decide +kernel
theorem dX7_explains_82 : decode cX7_explains 82 = .ok (.iconst 1, 1) := by decide +kernel
theorem dX7_explains_83 : decode cX7_explains 83 = .ok (.goto 4, 3) := by decide +kernel
theorem dX7_explains_86 : decode cX7_explains 86 = .ok (.iconst 0, 1) := by decide +kernel
theorem dX7_explains_87 : decode cX7_explains 87 = .ok (.istore 4, 2) := by decide +kernel
theorem dX7_explains_89 : decode cX7_explains 89 = .ok (.iinc 5 1, 3) := by decide +kernel
theorem dX7_explains_92 : decode cX7_explains 92 = .ok (.goto (-86), 3) := by decide +kernel
theorem dX7_explains_95 : decode cX7_explains 95 = .ok (.iload 4, 2) := by decide +kernel
theorem dX7_explains_97 : decode cX7_explains 97 = .ok (.ireturn, 1) := by decide +kernel
theorem dX7_late_0 : decode cX7_late 0 = .ok (.iconst 0, 1) := by decide +kernel
theorem dX7_late_1 : decode cX7_late 1 = .ok (.istore_n 1, 1) := by decide +kernel
theorem dX7_late_2 : decode cX7_late 2 = .ok (.iconst 0, 1) := by decide +kernel
theorem dX7_late_3 : decode cX7_late 3 = .ok (.istore_n 2, 1) := by decide +kernel
theorem dX7_late_4 : decode cX7_late 4 = .ok (.iload_n 2, 1) := by decide +kernel
theorem dX7_late_5 : decode cX7_late 5 = .ok (.iconst 4, 1) := by decide +kernel
theorem dX7_late_6 : decode cX7_late 6 = .ok (.if_icmp .ge 50, 3) := by decide +kernel
theorem dX7_late_9 : decode cX7_late 9 = .ok (.iconst 0, 1) := by decide +kernel
theorem dX7_late_10 : decode cX7_late 10 = .ok (.istore_n 3, 1) := by decide +kernel
theorem dX7_late_11 : decode cX7_late 11 = .ok (.iload_n 3, 1) := by decide +kernel
theorem dX7_late_12 : decode cX7_late 12 = .ok (.sipush 640, 3) := by decide +kernel
theorem dX7_late_15 : decode cX7_late 15 = .ok (.if_icmp .ge 35, 3) := by decide +kernel
theorem dX7_late_18 : decode cX7_late 18 = .ok (.iload_n 1, 1) := by decide +kernel
theorem dX7_late_19 : decode cX7_late 19 = .ok (.aload_n 0, 1) := by decide +kernel
theorem dX7_late_20 : decode cX7_late 20 = .ok (.iload_n 2, 1) := by decide +kernel
theorem dX7_late_21 : decode cX7_late 21 = .ok (.iload_n 3, 1) := by decide +kernel
theorem dX7_late_22 : decode cX7_late 22 = .ok (.bipush 10, 2) := by decide +kernel
theorem dX7_late_24 : decode cX7_late 24 = .ok (.idiv, 1) := by decide +kernel
theorem dX7_late_25 : decode cX7_late 25 = .ok (.iload_n 3, 1) := by decide +kernel
theorem dX7_late_26 : decode cX7_late 26 = .ok (.bipush 10, 2) := by decide +kernel
theorem dX7_late_28 : decode cX7_late 28 = .ok (.irem, 1) := by decide +kernel
theorem dX7_late_29 : decode cX7_late 29 = .ok (.invokevirtual 253, 3) := by decide +kernel
theorem dX7_late_32 : decode cX7_late 32 = .ok (.ifCond .eq 9, 3) := by decide +kernel
theorem dX7_late_35 : decode cX7_late 35 = .ok (.iconst 1, 1) := by decide +kernel
theorem dX7_late_36 : decode cX7_late 36 = .ok (.iload_n 2, 1) := by decide +kernel
theorem dX7_late_37 : decode cX7_late 37 = .ok (.ishl, 1) := by decide +kernel
theorem dX7_late_38 : decode cX7_late 38 = .ok (.goto 4, 3) := by decide +kernel
theorem dX7_late_41 : decode cX7_late 41 = .ok (.iconst 0, 1) := by decide +kernel
theorem dX7_late_42 : decode cX7_late 42 = .ok (.ior, 1) := by decide +kernel
theorem dX7_late_43 : decode cX7_late 43 = .ok (.istore_n 1, 1) := by decide +kernel
theorem dX7_late_44 : decode cX7_late 44 = .ok (.iinc 3 1, 3) := by decide +kernel
theorem dX7_late_47 : decode cX7_late 47 = .ok (.goto (-36), 3) := by decide +kernel
theorem dX7_late_50 : decode cX7_late 50 = .ok (.iinc 2 1, 3) := by decide +kernel
theorem dX7_late_53 : decode cX7_late 53 = .ok (.goto (-49), 3) := by decide +kernel
theorem dX7_late_56 : decode cX7_late 56 = .ok (.iload_n 1, 1) := by decide +kernel
theorem dX7_late_57 : decode cX7_late 57 = .ok (.ireturn, 1) := by decide +kernel
theorem dX7_evening_0 : decode cX7_evening 0 = .ok (.iload_n 1, 1) := by decide +kernel
theorem dX7_evening_1 : decode cX7_evening 1 = .ok (.i2l, 1) := by decide +kernel
theorem dX7_evening_2 : decode cX7_evening 2 = .ok (.lconst 0, 1) := by decide +kernel
theorem dX7_evening_3 : decode cX7_evening 3 = .ok (.ldc2_w 257, 3) := by decide +kernel
theorem dX7_evening_6 : decode cX7_evening 6 = .ok (.invokestatic 68, 3) := by decide +kernel
theorem dX7_evening_9 : decode cX7_evening 9 = .ok (.ifCond .eq 15, 3) := by decide +kernel
theorem dX7_evening_12 : decode cX7_evening 12 = .ok (.iload_n 2, 1) := by decide +kernel
theorem dX7_evening_13 : decode cX7_evening 13 = .ok (.i2l, 1) := by decide +kernel
theorem dX7_evening_14 : decode cX7_evening 14 = .ok (.lconst 0, 1) := by decide +kernel
theorem dX7_evening_15 : decode cX7_evening 15 = .ok (.ldc2_w 259, 3) := by decide +kernel
theorem dX7_evening_18 : decode cX7_evening 18 = .ok (.invokestatic 68, 3) := by decide +kernel
theorem dX7_evening_21 : decode cX7_evening 21 = .ok (.ifCond .ne 10, 3) := by decide +kernel
theorem dX7_evening_24 : decode cX7_evening 24 = .ok (.aload_n 0, 1) := by decide +kernel
theorem dX7_evening_25 : decode cX7_evening 25 = .ok (.bipush (-2), 2) := by decide +kernel
theorem dX7_evening_27 : decode cX7_evening 27 = .ok (.invokevirtual 76, 3) := by decide +kernel
theorem dX7_evening_30 : decode cX7_evening 30 = .ok (.ireturn, 1) := by decide +kernel
theorem dX7_evening_31 : decode cX7_evening 31 = .ok (.iload_n 1, 1) := by decide +kernel
theorem dX7_evening_32 : decode cX7_evening 32 = .ok (.i2l, 1) := by decide +kernel
theorem dX7_evening_33 : decode cX7_evening 33 = .ok (.lstore_n 3, 1) := by decide +kernel
theorem dX7_evening_34 : decode cX7_evening 34 = .ok (.iconst 0, 1) := by decide +kernel
theorem dX7_evening_35 : decode cX7_evening 35 = .ok (.istore 5, 2) := by decide +kernel
theorem dX7_evening_37 : decode cX7_evening 37 = .ok (.iload 5, 2) := by decide +kernel
theorem dX7_evening_39 : decode cX7_evening 39 = .ok (.aload_n 0, 1) := by decide +kernel
theorem dX7_evening_40 : decode cX7_evening 40 = .ok (.invokevirtual 64, 3) := by decide +kernel
theorem dX7_evening_43 : decode cX7_evening 43 = .ok (.if_icmp .ge 99, 3) := by decide +kernel
theorem dX7_evening_46 : decode cX7_evening 46 = .ok (.lload_n 3, 1) := by decide +kernel
theorem dX7_evening_47 : decode cX7_evening 47 = .ok (.ldc2_w 261, 3) := by decide +kernel
theorem dX7_evening_50 : decode cX7_evening 50 = .ok (.lmul, 1) := by decide +kernel
theorem dX7_evening_51 : decode cX7_evening 51 = .ok (.ldc2_w 263, 3) := by decide +kernel
theorem dX7_evening_54 : decode cX7_evening 54 = .ok (.ladd, 1) := by decide +kernel
theorem dX7_evening_55 : decode cX7_evening 55 = .ok (.ldc2_w 265, 3) := by decide +kernel
theorem dX7_evening_58 : decode cX7_evening 58 = .ok (.lrem, 1) := by decide +kernel
theorem dX7_evening_59 : decode cX7_evening 59 = .ok (.lstore_n 3, 1) := by decide +kernel
theorem dX7_evening_60 : decode cX7_evening 60 = .ok (.aload_n 0, 1) := by decide +kernel
theorem dX7_evening_61 : decode cX7_evening 61 = .ok (.getfield 48, 3) := by decide +kernel
theorem dX7_evening_64 : decode cX7_evening 64 = .ok (.iload 5, 2) := by decide +kernel
theorem dX7_evening_66 : decode cX7_evening 66 = .ok (.aload_n 0, 1) := by decide +kernel
theorem dX7_evening_67 : decode cX7_evening 67 = .ok (.iload 5, 2) := by decide +kernel
theorem dX7_evening_69 : decode cX7_evening 69 = .ok (.iconst 1, 1) := by decide +kernel
theorem dX7_evening_70 : decode cX7_evening 70 = .ok (.invokevirtual 110, 3) := by decide +kernel
theorem dX7_evening_73 : decode cX7_evening 73 = .ok (.iastore, 1) := by decide +kernel
theorem dX7_evening_74 : decode cX7_evening 74 = .ok (.lload_n 3, 1) := by decide +kernel
theorem dX7_evening_75 : decode cX7_evening 75 = .ok (.ldc2_w 267, 3) := by decide +kernel
theorem dX7_evening_78 : decode cX7_evening 78 = .ok (.ldiv, 1) := by decide +kernel
theorem dX7_evening_79 : decode cX7_evening 79 = .ok (.ldc2_w 259, 3) := by decide +kernel
theorem dX7_evening_82 : decode cX7_evening 82 = .ok (.lrem, 1) := by decide +kernel
theorem dX7_evening_83 : decode cX7_evening 83 = .ok (.iload_n 2, 1) := by decide +kernel
theorem dX7_evening_84 : decode cX7_evening 84 = .ok (.i2l, 1) := by decide +kernel
theorem dX7_evening_85 : decode cX7_evening 85 = .ok (.lcmp, 1) := by decide +kernel
theorem dX7_evening_86 : decode cX7_evening 86 = .ok (.ifCond .ge 19, 3) := by decide +kernel
theorem dX7_evening_89 : decode cX7_evening 89 = .ok (.aload_n 0, 1) := by decide +kernel
theorem dX7_evening_90 : decode cX7_evening 90 = .ok (.getfield 48, 3) := by decide +kernel
theorem dX7_evening_93 : decode cX7_evening 93 = .ok (.iload 5, 2) := by decide +kernel
theorem dX7_evening_95 : decode cX7_evening 95 = .ok (.iaload, 1) := by decide +kernel
theorem dX7_evening_96 : decode cX7_evening 96 = .ok (.bipush 63, 2) := by decide +kernel
theorem dX7_evening_98 : decode cX7_evening 98 = .ok (.if_icmp .ge 7, 3) := by decide +kernel
theorem dX7_evening_101 : decode cX7_evening 101 = .ok (.iconst 1, 1) := by decide +kernel
theorem dX7_evening_102 : decode cX7_evening 102 = .ok (.goto 4, 3) := by decide +kernel
theorem dX7_evening_105 : decode cX7_evening 105 = .ok (.iconst 0, 1) := by decide +kernel
theorem dX7_evening_106 : decode cX7_evening 106 = .ok (.istore 6, 2) := by decide +kernel
theorem dX7_evening_108 : decode cX7_evening 108 = .ok (.aload_n 0, 1) := by decide +kernel
theorem dX7_evening_109 : decode cX7_evening 109 = .ok (.getfield 7, 3) := by decide +kernel
theorem dX7_evening_112 : decode cX7_evening 112 = .ok (.bipush 16, 2) := by decide +kernel
theorem dX7_evening_114 : decode cX7_evening 114 = .ok (.bipush 7, 2) := by decide +kernel
theorem dX7_evening_116 : decode cX7_evening 116 = .ok (.iload 5, 2) := by decide +kernel
theorem dX7_evening_118 : decode cX7_evening 118 = .ok (.imul, 1) := by decide +kernel
theorem dX7_evening_119 : decode cX7_evening 119 = .ok (.iadd, 1) := by decide +kernel
theorem dX7_evening_120 : decode cX7_evening 120 = .ok (.iconst 1, 1) := by decide +kernel
theorem dX7_evening_121 : decode cX7_evening 121 = .ok (.iadd, 1) := by decide +kernel
theorem dX7_evening_122 : decode cX7_evening 122 = .ok (.dup2, 1) := by decide +kernel
theorem dX7_evening_123 : decode cX7_evening 123 = .ok (.iaload, 1) := by decide +kernel
theorem dX7_evening_124 : decode cX7_evening 124 = .ok (.iload 6, 2) := by decide +kernel
theorem dX7_evening_126 : decode cX7_evening 126 = .ok (.ifCond .eq 7, 3) := by decide +kernel
theorem dX7_evening_129 : decode cX7_evening 129 = .ok (.iconst 1, 1) := by decide +kernel
theorem dX7_evening_130 : decode cX7_evening 130 = .ok (.goto 4, 3) := by decide +kernel
theorem dX7_evening_133 : decode cX7_evening 133 = .ok (.iconst 0, 1) := by decide +kernel
theorem dX7_evening_134 : decode cX7_evening 134 = .ok (.iadd, 1) := by decide +kernel
theorem dX7_evening_135 : decode cX7_evening 135 = .ok (.iastore, 1) := by decide +kernel
theorem dX7_evening_136 : decode cX7_evening 136 = .ok (.iinc 5 1, 3) := by decide +kernel
theorem dX7_evening_139 : decode cX7_evening 139 = .ok (.goto (-102), 3) := by decide +kernel
theorem dX7_evening_142 : decode cX7_evening 142 = .ok (.aload_n 0, 1) := by decide +kernel
theorem dX7_evening_143 : decode cX7_evening 143 = .ok (.invokevirtual 152, 3) := by decide +kernel
theorem dX7_evening_146 : decode cX7_evening 146 = .ok (.istore 5, 2) := by decide +kernel
theorem dX7_evening_148 : decode cX7_evening 148 = .ok (.iconst 0, 1) := by decide +kernel
theorem dX7_evening_149 : decode cX7_evening 149 = .ok (.istore 6, 2) := by decide +kernel
theorem dX7_evening_151 : decode cX7_evening 151 = .ok (.iload 6, 2) := by decide +kernel
theorem dX7_evening_153 : decode cX7_evening 153 = .ok (.aload_n 0, 1) := by decide +kernel
theorem dX7_evening_154 : decode cX7_evening 154 = .ok (.invokevirtual 64, 3) := by decide +kernel
theorem dX7_evening_157 : decode cX7_evening 157 = .ok (.if_icmp .ge 31, 3) := by decide +kernel
theorem dX7_evening_160 : decode cX7_evening 160 = .ok (.aload_n 0, 1) := by decide +kernel
theorem dX7_evening_161 : decode cX7_evening 161 = .ok (.getfield 7, 3) := by decide +kernel
theorem dX7_evening_164 : decode cX7_evening 164 = .ok (.bipush 16, 2) := by decide +kernel
theorem dX7_evening_166 : decode cX7_evening 166 = .ok (.bipush 7, 2) := by decide +kernel
theorem dX7_evening_168 : decode cX7_evening 168 = .ok (.iload 6, 2) := by decide +kernel
theorem dX7_evening_170 : decode cX7_evening 170 = .ok (.imul, 1) := by decide +kernel
theorem dX7_evening_171 : decode cX7_evening 171 = .ok (.iadd, 1) := by decide +kernel
theorem dX7_evening_172 : decode cX7_evening 172 = .ok (.iconst 1, 1) := by decide +kernel
theorem dX7_evening_173 : decode cX7_evening 173 = .ok (.iadd, 1) := by decide +kernel
theorem dX7_evening_174 : decode cX7_evening 174 = .ok (.aload_n 0, 1) := by decide +kernel
theorem dX7_evening_175 : decode cX7_evening 175 = .ok (.getfield 48, 3) := by decide +kernel
theorem dX7_evening_178 : decode cX7_evening 178 = .ok (.iload 6, 2) := by decide +kernel
theorem dX7_evening_180 : decode cX7_evening 180 = .ok (.iaload, 1) := by decide +kernel
theorem dX7_evening_181 : decode cX7_evening 181 = .ok (.iastore, 1) := by decide +kernel
theorem dX7_evening_182 : decode cX7_evening 182 = .ok (.iinc 6 1, 3) := by decide +kernel
theorem dX7_evening_185 : decode cX7_evening 185 = .ok (.goto (-34), 3) := by decide +kernel
theorem dX7_evening_188 : decode cX7_evening 188 = .ok (.iload 5, 2) := by decide +kernel
theorem dX7_evening_190 : decode cX7_evening 190 = .ok (.ireturn, 1) := by decide +kernel
theorem dX7_type_0 : decode cX7_type 0 = .ok (.iload_n 1, 1) := by decide +kernel
theorem dX7_type_1 : decode cX7_type 1 = .ok (.i2l, 1) := by decide +kernel
theorem dX7_type_2 : decode cX7_type 2 = .ok (.lconst 0, 1) := by decide +kernel
theorem dX7_type_3 : decode cX7_type 3 = .ok (.ldc2_w 269, 3) := by decide +kernel
theorem dX7_type_6 : decode cX7_type 6 = .ok (.invokestatic 68, 3) := by decide +kernel
theorem dX7_type_9 : decode cX7_type 9 = .ok (.ifCond .ne 10, 3) := by decide +kernel
theorem dX7_type_12 : decode cX7_type 12 = .ok (.aload_n 0, 1) := by decide +kernel
theorem dX7_type_13 : decode cX7_type 13 = .ok (.bipush (-2), 2) := by decide +kernel
theorem dX7_type_15 : decode cX7_type 15 = .ok (.invokevirtual 76, 3) := by decide +kernel
theorem dX7_type_18 : decode cX7_type 18 = .ok (.ireturn, 1) := by decide +kernel
theorem dX7_type_19 : decode cX7_type 19 = .ok (.aload_n 0, 1) := by decide +kernel
theorem dX7_type_20 : decode cX7_type 20 = .ok (.getfield 271, 3) := by decide +kernel
theorem dX7_type_23 : decode cX7_type 23 = .ok (.sipush 150, 3) := by decide +kernel
theorem dX7_type_26 : decode cX7_type 26 = .ok (.if_icmp .ne 8, 3) := by decide +kernel
theorem dX7_type_29 : decode cX7_type 29 = .ok (.aload_n 0, 1) := by decide +kernel
theorem dX7_type_30 : decode cX7_type 30 = .ok (.invokevirtual 100, 3) := by decide +kernel
theorem dX7_type_33 : decode cX7_type 33 = .ok (.ireturn, 1) := by decide +kernel
theorem dX7_type_34 : decode cX7_type 34 = .ok (.aload_n 0, 1) := by decide +kernel
theorem dX7_type_35 : decode cX7_type 35 = .ok (.getfield 51, 3) := by decide +kernel
theorem dX7_type_38 : decode cX7_type 38 = .ok (.aload_n 0, 1) := by decide +kernel
theorem dX7_type_39 : decode cX7_type 39 = .ok (.getfield 271, 3) := by decide +kernel
theorem dX7_type_42 : decode cX7_type 42 = .ok (.iload_n 1, 1) := by decide +kernel
theorem dX7_type_43 : decode cX7_type 43 = .ok (.iastore, 1) := by decide +kernel
theorem dX7_type_44 : decode cX7_type 44 = .ok (.aload_n 0, 1) := by decide +kernel
theorem dX7_type_45 : decode cX7_type 45 = .ok (.dup, 1) := by decide +kernel
theorem dX7_type_46 : decode cX7_type 46 = .ok (.getfield 271, 3) := by decide +kernel
theorem dX7_type_49 : decode cX7_type 49 = .ok (.iconst 1, 1) := by decide +kernel
theorem dX7_type_50 : decode cX7_type 50 = .ok (.iadd, 1) := by decide +kernel
theorem dX7_type_51 : decode cX7_type 51 = .ok (.putfield 271, 3) := by decide +kernel
theorem dX7_type_54 : decode cX7_type 54 = .ok (.aload_n 0, 1) := by decide +kernel
theorem dX7_type_55 : decode cX7_type 55 = .ok (.getfield 271, 3) := by decide +kernel
theorem dX7_type_58 : decode cX7_type 58 = .ok (.ireturn, 1) := by decide +kernel
theorem dX7_clear_0 : decode cX7_clear 0 = .ok (.aload_n 0, 1) := by decide +kernel
theorem dX7_clear_1 : decode cX7_clear 1 = .ok (.getfield 271, 3) := by decide +kernel
theorem dX7_clear_4 : decode cX7_clear 4 = .ok (.istore_n 1, 1) := by decide +kernel
theorem dX7_clear_5 : decode cX7_clear 5 = .ok (.aload_n 0, 1) := by decide +kernel
theorem dX7_clear_6 : decode cX7_clear 6 = .ok (.iconst 0, 1) := by decide +kernel
theorem dX7_clear_7 : decode cX7_clear 7 = .ok (.putfield 271, 3) := by decide +kernel
theorem dX7_clear_10 : decode cX7_clear 10 = .ok (.iload_n 1, 1) := by decide +kernel
theorem dX7_clear_11 : decode cX7_clear 11 = .ok (.ireturn, 1) := by decide +kernel
theorem dX7_isSmall_0 : decode cX7_isSmall 0 = .ok (.iload_n 0, 1) := by decide +kernel
theorem dX7_isSmall_1 : decode cX7_isSmall 1 = .ok (.i2l, 1) := by decide +kernel
theorem dX7_isSmall_2 : decode cX7_isSmall 2 = .ok (.ldc2_w 274, 3) := by decide +kernel
theorem dX7_isSmall_5 : decode cX7_isSmall 5 = .ok (.ldc2_w 276, 3) := by decide +kernel
theorem dX7_isSmall_8 : decode cX7_isSmall 8 = .ok (.invokestatic 68, 3) := by decide +kernel
theorem dX7_isSmall_11 : decode cX7_isSmall 11 = .ok (.ireturn, 1) := by decide +kernel
theorem dX7_isFigure_0 : decode cX7_isFigure 0 = .ok (.iload_n 0, 1) := by decide +kernel
theorem dX7_isFigure_1 : decode cX7_isFigure 1 = .ok (.i2l, 1) := by decide +kernel
theorem dX7_isFigure_2 : decode cX7_isFigure 2 = .ok (.ldc2_w 278, 3) := by decide +kernel
theorem dX7_isFigure_5 : decode cX7_isFigure 5 = .ok (.ldc2_w 280, 3) := by decide +kernel
theorem dX7_isFigure_8 : decode cX7_isFigure 8 = .ok (.invokestatic 68, 3) := by decide +kernel
theorem dX7_isFigure_11 : decode cX7_isFigure 11 = .ok (.ireturn, 1) := by decide +kernel
theorem dX7_lookAt_0 : decode cX7_lookAt 0 = .ok (.aload_n 0, 1) := by decide +kernel
theorem dX7_lookAt_1 : decode cX7_lookAt 1 = .ok (.iload_n 1, 1) := by decide +kernel
theorem dX7_lookAt_2 : decode cX7_lookAt 2 = .ok (.putfield 282, 3) := by decide +kernel
theorem dX7_lookAt_5 : decode cX7_lookAt 5 = .ok (.aload_n 0, 1) := by decide +kernel
theorem dX7_lookAt_6 : decode cX7_lookAt 6 = .ok (.getfield 282, 3) := by decide +kernel
theorem dX7_lookAt_9 : decode cX7_lookAt 9 = .ok (.aload_n 0, 1) := by decide +kernel
theorem dX7_lookAt_10 : decode cX7_lookAt 10 = .ok (.getfield 271, 3) := by decide +kernel
theorem dX7_lookAt_13 : decode cX7_lookAt 13 = .ok (.if_icmp .ge 30, 3) := by decide +kernel
theorem dX7_lookAt_16 : decode cX7_lookAt 16 = .ok (.aload_n 0, 1) := by decide +kernel
theorem dX7_lookAt_17 : decode cX7_lookAt 17 = .ok (.getfield 51, 3) := by decide +kernel
theorem dX7_lookAt_20 : decode cX7_lookAt 20 = .ok (.aload_n 0, 1) := by decide +kernel
theorem dX7_lookAt_21 : decode cX7_lookAt 21 = .ok (.getfield 282, 3) := by decide +kernel
theorem dX7_lookAt_24 : decode cX7_lookAt 24 = .ok (.iaload, 1) := by decide +kernel
theorem dX7_lookAt_25 : decode cX7_lookAt 25 = .ok (.bipush 32, 2) := by decide +kernel
theorem dX7_lookAt_27 : decode cX7_lookAt 27 = .ok (.if_icmp .ne 16, 3) := by decide +kernel
theorem dX7_lookAt_30 : decode cX7_lookAt 30 = .ok (.aload_n 0, 1) := by decide +kernel
theorem dX7_lookAt_31 : decode cX7_lookAt 31 = .ok (.dup, 1) := by decide +kernel
theorem dX7_lookAt_32 : decode cX7_lookAt 32 = .ok (.getfield 282, 3) := by decide +kernel
theorem dX7_lookAt_35 : decode cX7_lookAt 35 = .ok (.iconst 1, 1) := by decide +kernel
theorem dX7_lookAt_36 : decode cX7_lookAt 36 = .ok (.iadd, 1) := by decide +kernel
theorem dX7_lookAt_37 : decode cX7_lookAt 37 = .ok (.putfield 282, 3) := by decide +kernel
theorem dX7_lookAt_40 : decode cX7_lookAt 40 = .ok (.goto (-35), 3) := by decide +kernel
theorem dX7_lookAt_43 : decode cX7_lookAt 43 = .ok (.aload_n 0, 1) := by decide +kernel
theorem dX7_lookAt_44 : decode cX7_lookAt 44 = .ok (.iconst 0, 1) := by decide +kernel
theorem dX7_lookAt_45 : decode cX7_lookAt 45 = .ok (.putfield 285, 3) := by decide +kernel
theorem dX7_lookAt_48 : decode cX7_lookAt 48 = .ok (.aload_n 0, 1) := by decide +kernel
theorem dX7_lookAt_49 : decode cX7_lookAt 49 = .ok (.iconst 0, 1) := by decide +kernel
theorem dX7_lookAt_50 : decode cX7_lookAt 50 = .ok (.putfield 288, 3) := by decide +kernel
theorem dX7_lookAt_53 : decode cX7_lookAt 53 = .ok (.aload_n 0, 1) := by decide +kernel
theorem dX7_lookAt_54 : decode cX7_lookAt 54 = .ok (.iconst 0, 1) := by decide +kernel
theorem dX7_lookAt_55 : decode cX7_lookAt 55 = .ok (.putfield 291, 3) := by decide +kernel
theorem dX7_lookAt_58 : decode cX7_lookAt 58 = .ok (.aload_n 0, 1) := by decide +kernel
theorem dX7_lookAt_59 : decode cX7_lookAt 59 = .ok (.getfield 282, 3) := by decide +kernel
theorem dX7_lookAt_62 : decode cX7_lookAt 62 = .ok (.aload_n 0, 1) := by decide +kernel
theorem dX7_lookAt_63 : decode cX7_lookAt 63 = .ok (.getfield 271, 3) := by decide +kernel
theorem dX7_lookAt_66 : decode cX7_lookAt 66 = .ok (.if_icmp .ne 4, 3) := by decide +kernel
theorem dX7_lookAt_69 : decode cX7_lookAt 69 = .ok (.return_, 1) := by decide +kernel
theorem dX7_lookAt_70 : decode cX7_lookAt 70 = .ok (.aload_n 0, 1) := by decide +kernel
theorem dX7_lookAt_71 : decode cX7_lookAt 71 = .ok (.getfield 51, 3) := by decide +kernel
theorem dX7_lookAt_74 : decode cX7_lookAt 74 = .ok (.aload_n 0, 1) := by decide +kernel
theorem dX7_lookAt_75 : decode cX7_lookAt 75 = .ok (.getfield 282, 3) := by decide +kernel
theorem dX7_lookAt_78 : decode cX7_lookAt 78 = .ok (.iaload, 1) := by decide +kernel
theorem dX7_lookAt_79 : decode cX7_lookAt 79 = .ok (.istore_n 2, 1) := by decide +kernel
theorem dX7_lookAt_80 : decode cX7_lookAt 80 = .ok (.aload_n 0, 1) := by decide +kernel
theorem dX7_lookAt_81 : decode cX7_lookAt 81 = .ok (.iload_n 2, 1) := by decide +kernel
theorem dX7_lookAt_82 : decode cX7_lookAt 82 = .ok (.invokestatic 294, 3) := by decide +kernel
theorem dX7_lookAt_85 : decode cX7_lookAt 85 = .ok (.ifCond .eq 7, 3) := by decide +kernel
theorem dX7_lookAt_88 : decode cX7_lookAt 88 = .ok (.iconst 1, 1) := by decide +kernel
theorem dX7_lookAt_89 : decode cX7_lookAt 89 = .ok (.goto 25, 3) := by decide +kernel
theorem dX7_lookAt_92 : decode cX7_lookAt 92 = .ok (.iload_n 2, 1) := by decide +kernel
theorem dX7_lookAt_93 : decode cX7_lookAt 93 = .ok (.invokestatic 297, 3) := by decide +kernel
theorem dX7_lookAt_96 : decode cX7_lookAt 96 = .ok (.ifCond .eq 7, 3) := by decide +kernel
theorem dX7_lookAt_99 : decode cX7_lookAt 99 = .ok (.iconst 2, 1) := by decide +kernel
theorem dX7_lookAt_100 : decode cX7_lookAt 100 = .ok (.goto 14, 3) := by decide +kernel
theorem dX7_lookAt_103 : decode cX7_lookAt 103 = .ok (.iload_n 2, 1) := by decide +kernel
theorem dX7_lookAt_104 : decode cX7_lookAt 104 = .ok (.bipush 59, 2) := by decide +kernel
theorem dX7_lookAt_106 : decode cX7_lookAt 106 = .ok (.if_icmp .ne 7, 3) := by decide +kernel
theorem dX7_lookAt_109 : decode cX7_lookAt 109 = .ok (.iconst 3, 1) := by decide +kernel
theorem dX7_lookAt_110 : decode cX7_lookAt 110 = .ok (.goto 4, 3) := by decide +kernel
theorem dX7_lookAt_113 : decode cX7_lookAt 113 = .ok (.iconst 4, 1) := by decide +kernel
theorem dX7_lookAt_114 : decode cX7_lookAt 114 = .ok (.putfield 288, 3) := by decide +kernel
theorem dX7_lookAt_117 : decode cX7_lookAt 117 = .ok (.aload_n 0, 1) := by decide +kernel
theorem dX7_lookAt_118 : decode cX7_lookAt 118 = .ok (.iconst 1, 1) := by decide +kernel
theorem dX7_lookAt_119 : decode cX7_lookAt 119 = .ok (.putfield 285, 3) := by decide +kernel
theorem dX7_lookAt_122 : decode cX7_lookAt 122 = .ok (.aload_n 0, 1) := by decide +kernel
theorem dX7_lookAt_123 : decode cX7_lookAt 123 = .ok (.getfield 288, 3) := by decide +kernel
theorem dX7_lookAt_126 : decode cX7_lookAt 126 = .ok (.iconst 3, 1) := by decide +kernel
theorem dX7_lookAt_127 : decode cX7_lookAt 127 = .ok (.if_icmp .ge 7, 3) := by decide +kernel
theorem dX7_lookAt_130 : decode cX7_lookAt 130 = .ok (.iconst 1, 1) := by decide +kernel
theorem dX7_lookAt_131 : decode cX7_lookAt 131 = .ok (.goto 4, 3) := by decide +kernel
theorem dX7_lookAt_134 : decode cX7_lookAt 134 = .ok (.iconst 0, 1) := by decide +kernel
theorem dX7_lookAt_135 : decode cX7_lookAt 135 = .ok (.istore_n 3, 1) := by decide +kernel
theorem dX7_lookAt_136 : decode cX7_lookAt 136 = .ok (.iload_n 3, 1) := by decide +kernel
theorem dX7_lookAt_137 : decode cX7_lookAt 137 = .ok (.ifCond .eq 78, 3) := by decide +kernel
theorem dX7_lookAt_140 : decode cX7_lookAt 140 = .ok (.aload_n 0, 1) := by decide +kernel
theorem dX7_lookAt_141 : decode cX7_lookAt 141 = .ok (.getfield 282, 3) := by decide +kernel
theorem dX7_lookAt_144 : decode cX7_lookAt 144 = .ok (.aload_n 0, 1) := by decide +kernel
theorem dX7_lookAt_145 : decode cX7_lookAt 145 = .ok (.getfield 285, 3) := by decide +kernel
theorem dX7_lookAt_148 : decode cX7_lookAt 148 = .ok (.iadd, 1) := by decide +kernel
theorem dX7_lookAt_149 : decode cX7_lookAt 149 = .ok (.aload_n 0, 1) := by decide +kernel
theorem dX7_lookAt_150 : decode cX7_lookAt 150 = .ok (.getfield 271, 3) := by decide +kernel
theorem dX7_lookAt_153 : decode cX7_lookAt 153 = .ok (.if_icmp .ge 62, 3) := by decide +kernel
theorem dX7_lookAt_156 : decode cX7_lookAt 156 = .ok (.aload_n 0, 1) := by decide +kernel
theorem dX7_lookAt_157 : decode cX7_lookAt 157 = .ok (.getfield 51, 3) := by decide +kernel
theorem dX7_lookAt_160 : decode cX7_lookAt 160 = .ok (.aload_n 0, 1) := by decide +kernel
theorem dX7_lookAt_161 : decode cX7_lookAt 161 = .ok (.getfield 282, 3) := by decide +kernel
theorem dX7_lookAt_164 : decode cX7_lookAt 164 = .ok (.aload_n 0, 1) := by decide +kernel
theorem dX7_lookAt_165 : decode cX7_lookAt 165 = .ok (.getfield 285, 3) := by decide +kernel
theorem dX7_lookAt_168 : decode cX7_lookAt 168 = .ok (.iadd, 1) := by decide +kernel
theorem dX7_lookAt_169 : decode cX7_lookAt 169 = .ok (.iaload, 1) := by decide +kernel
theorem dX7_lookAt_170 : decode cX7_lookAt 170 = .ok (.istore 4, 2) := by decide +kernel
theorem dX7_lookAt_172 : decode cX7_lookAt 172 = .ok (.aload_n 0, 1) := by decide +kernel
theorem dX7_lookAt_173 : decode cX7_lookAt 173 = .ok (.getfield 288, 3) := by decide +kernel
theorem dX7_lookAt_176 : decode cX7_lookAt 176 = .ok (.iconst 1, 1) := by decide +kernel
theorem dX7_lookAt_177 : decode cX7_lookAt 177 = .ok (.if_icmp .ne 11, 3) := by decide +kernel
theorem dX7_lookAt_180 : decode cX7_lookAt 180 = .ok (.iload 4, 2) := by decide +kernel
theorem dX7_lookAt_182 : decode cX7_lookAt 182 = .ok (.invokestatic 294, 3) := by decide +kernel
theorem dX7_lookAt_185 : decode cX7_lookAt 185 = .ok (.goto 8, 3) := by decide +kernel
theorem dX7_lookAt_188 : decode cX7_lookAt 188 = .ok (.iload 4, 2) := by decide +kernel
theorem dX7_lookAt_190 : decode cX7_lookAt 190 = .ok (.invokestatic 297, 3) := by decide +kernel
theorem dX7_lookAt_193 : decode cX7_lookAt 193 = .ok (.istore_n 3, 1) := by decide +kernel
theorem dX7_lookAt_194 : decode cX7_lookAt 194 = .ok (.aload_n 0, 1) := by decide +kernel
theorem dX7_lookAt_195 : decode cX7_lookAt 195 = .ok (.dup, 1) := by decide +kernel
theorem dX7_lookAt_196 : decode cX7_lookAt 196 = .ok (.getfield 285, 3) := by decide +kernel
theorem dX7_lookAt_199 : decode cX7_lookAt 199 = .ok (.iload_n 3, 1) := by decide +kernel
theorem dX7_lookAt_200 : decode cX7_lookAt 200 = .ok (.ifCond .eq 7, 3) := by decide +kernel
theorem dX7_lookAt_203 : decode cX7_lookAt 203 = .ok (.iconst 1, 1) := by decide +kernel
theorem dX7_lookAt_204 : decode cX7_lookAt 204 = .ok (.goto 4, 3) := by decide +kernel
theorem dX7_lookAt_207 : decode cX7_lookAt 207 = .ok (.iconst 0, 1) := by decide +kernel
theorem dX7_lookAt_208 : decode cX7_lookAt 208 = .ok (.iadd, 1) := by decide +kernel
theorem dX7_lookAt_209 : decode cX7_lookAt 209 = .ok (.putfield 285, 3) := by decide +kernel
theorem dX7_lookAt_212 : decode cX7_lookAt 212 = .ok (.goto (-76), 3) := by decide +kernel
theorem dX7_lookAt_215 : decode cX7_lookAt 215 = .ok (.iconst 0, 1) := by decide +kernel
theorem dX7_lookAt_216 : decode cX7_lookAt 216 = .ok (.istore 4, 2) := by decide +kernel
theorem dX7_lookAt_218 : decode cX7_lookAt 218 = .ok (.iload 4, 2) := by decide +kernel
theorem dX7_lookAt_220 : decode cX7_lookAt 220 = .ok (.aload_n 0, 1) := by decide +kernel
theorem dX7_lookAt_221 : decode cX7_lookAt 221 = .ok (.getfield 285, 3) := by decide +kernel
theorem dX7_lookAt_224 : decode cX7_lookAt 224 = .ok (.if_icmp .ge 50, 3) := by decide +kernel
theorem dX7_lookAt_227 : decode cX7_lookAt 227 = .ok (.iload 4, 2) := by decide +kernel
theorem dX7_lookAt_229 : decode cX7_lookAt 229 = .ok (.iconst 2, 1) := by decide +kernel
theorem dX7_lookAt_230 : decode cX7_lookAt 230 = .ok (.if_icmp .ge 44, 3) := by decide +kernel
theorem dX7_lookAt_233 : decode cX7_lookAt 233 = .ok (.aload_n 0, 1) := by decide +kernel
theorem dX7_lookAt_234 : decode cX7_lookAt 234 = .ok (.getfield 288, 3) := by decide +kernel
theorem dX7_lookAt_237 : decode cX7_lookAt 237 = .ok (.iconst 2, 1) := by decide +kernel
theorem dX7_lookAt_238 : decode cX7_lookAt 238 = .ok (.if_icmp .ne 36, 3) := by decide +kernel
theorem dX7_lookAt_241 : decode cX7_lookAt 241 = .ok (.aload_n 0, 1) := by decide +kernel
theorem dX7_lookAt_242 : decode cX7_lookAt 242 = .ok (.bipush 10, 2) := by decide +kernel
theorem dX7_lookAt_244 : decode cX7_lookAt 244 = .ok (.aload_n 0, 1) := by decide +kernel
theorem dX7_lookAt_245 : decode cX7_lookAt 245 = .ok (.getfield 291, 3) := by decide +kernel
theorem dX7_lookAt_248 : decode cX7_lookAt 248 = .ok (.imul, 1) := by decide +kernel
theorem dX7_lookAt_249 : decode cX7_lookAt 249 = .ok (.aload_n 0, 1) := by decide +kernel
theorem dX7_lookAt_250 : decode cX7_lookAt 250 = .ok (.getfield 51, 3) := by decide +kernel
theorem dX7_lookAt_253 : decode cX7_lookAt 253 = .ok (.aload_n 0, 1) := by decide +kernel
theorem dX7_lookAt_254 : decode cX7_lookAt 254 = .ok (.getfield 282, 3) := by decide +kernel
theorem dX7_lookAt_257 : decode cX7_lookAt 257 = .ok (.iload 4, 2) := by decide +kernel
theorem dX7_lookAt_259 : decode cX7_lookAt 259 = .ok (.iadd, 1) := by decide +kernel
theorem dX7_lookAt_260 : decode cX7_lookAt 260 = .ok (.iaload, 1) := by decide +kernel
theorem dX7_lookAt_261 : decode cX7_lookAt 261 = .ok (.iadd, 1) := by decide +kernel
theorem dX7_lookAt_262 : decode cX7_lookAt 262 = .ok (.bipush 48, 2) := by decide +kernel
theorem dX7_lookAt_264 : decode cX7_lookAt 264 = .ok (.isub, 1) := by decide +kernel
theorem dX7_lookAt_265 : decode cX7_lookAt 265 = .ok (.putfield 291, 3) := by decide +kernel
theorem dX7_lookAt_268 : decode cX7_lookAt 268 = .ok (.iinc 4 1, 3) := by decide +kernel
theorem dX7_lookAt_271 : decode cX7_lookAt 271 = .ok (.goto (-53), 3) := by decide +kernel
theorem dX7_lookAt_274 : decode cX7_lookAt 274 = .ok (.aload_n 0, 1) := by decide +kernel
theorem dX7_lookAt_275 : decode cX7_lookAt 275 = .ok (.aload_n 0, 1) := by decide +kernel
theorem dX7_lookAt_276 : decode cX7_lookAt 276 = .ok (.getfield 288, 3) := by decide +kernel
theorem dX7_lookAt_279 : decode cX7_lookAt 279 = .ok (.iconst 2, 1) := by decide +kernel
theorem dX7_lookAt_280 : decode cX7_lookAt 280 = .ok (.if_icmp .ne 15, 3) := by decide +kernel
theorem dX7_lookAt_283 : decode cX7_lookAt 283 = .ok (.aload_n 0, 1) := by decide +kernel
theorem dX7_lookAt_284 : decode cX7_lookAt 284 = .ok (.getfield 285, 3) := by decide +kernel
theorem dX7_lookAt_287 : decode cX7_lookAt 287 = .ok (.iconst 2, 1) := by decide +kernel
theorem dX7_lookAt_288 : decode cX7_lookAt 288 = .ok (.if_icmp .le 7, 3) := by decide +kernel
theorem dX7_lookAt_291 : decode cX7_lookAt 291 = .ok (.iconst 4, 1) := by decide +kernel
theorem dX7_lookAt_292 : decode cX7_lookAt 292 = .ok (.goto 7, 3) := by decide +kernel
theorem dX7_lookAt_295 : decode cX7_lookAt 295 = .ok (.aload_n 0, 1) := by decide +kernel
theorem dX7_lookAt_296 : decode cX7_lookAt 296 = .ok (.getfield 288, 3) := by decide +kernel
theorem dX7_lookAt_299 : decode cX7_lookAt 299 = .ok (.putfield 288, 3) := by decide +kernel
theorem dX7_lookAt_302 : decode cX7_lookAt 302 = .ok (.return_, 1) := by decide +kernel
theorem dX7_goOn_0 : decode cX7_goOn 0 = .ok (.aload_n 0, 1) := by decide +kernel
theorem dX7_goOn_1 : decode cX7_goOn 1 = .ok (.aload_n 0, 1) := by decide +kernel
theorem dX7_goOn_2 : decode cX7_goOn 2 = .ok (.getfield 282, 3) := by decide +kernel
theorem dX7_goOn_5 : decode cX7_goOn 5 = .ok (.aload_n 0, 1) := by decide +kernel
theorem dX7_goOn_6 : decode cX7_goOn 6 = .ok (.getfield 285, 3) := by decide +kernel
theorem dX7_goOn_9 : decode cX7_goOn 9 = .ok (.iadd, 1) := by decide +kernel
theorem dX7_goOn_10 : decode cX7_goOn 10 = .ok (.invokevirtual 300, 3) := by decide +kernel
theorem dX7_goOn_13 : decode cX7_goOn 13 = .ok (.return_, 1) := by decide +kernel
theorem dX7_isName_0 : decode cX7_isName 0 = .ok (.iload 5, 2) := by decide +kernel
theorem dX7_isName_2 : decode cX7_isName 2 = .ok (.ifCond .ne 7, 3) := by decide +kernel
theorem dX7_isName_5 : decode cX7_isName 5 = .ok (.iconst 4, 1) := by decide +kernel
theorem dX7_isName_6 : decode cX7_isName 6 = .ok (.goto 4, 3) := by decide +kernel
theorem dX7_isName_9 : decode cX7_isName 9 = .ok (.iconst 5, 1) := by decide +kernel
theorem dX7_isName_10 : decode cX7_isName 10 = .ok (.istore 6, 2) := by decide +kernel
theorem dX7_isName_12 : decode cX7_isName 12 = .ok (.aload_n 0, 1) := by decide +kernel
theorem dX7_isName_13 : decode cX7_isName 13 = .ok (.getfield 288, 3) := by decide +kernel
theorem dX7_isName_16 : decode cX7_isName 16 = .ok (.iconst 1, 1) := by decide +kernel
theorem dX7_isName_17 : decode cX7_isName 17 = .ok (.if_icmp .ne 16, 3) := by decide +kernel
theorem dX7_isName_20 : decode cX7_isName 20 = .ok (.aload_n 0, 1) := by decide +kernel
theorem dX7_isName_21 : decode cX7_isName 21 = .ok (.getfield 285, 3) := by decide +kernel
theorem dX7_isName_24 : decode cX7_isName 24 = .ok (.iload 6, 2) := by decide +kernel
theorem dX7_isName_26 : decode cX7_isName 26 = .ok (.if_icmp .ne 7, 3) := by decide +kernel
theorem dX7_isName_29 : decode cX7_isName 29 = .ok (.iconst 1, 1) := by decide +kernel
theorem dX7_isName_30 : decode cX7_isName 30 = .ok (.goto 4, 3) := by decide +kernel
theorem dX7_isName_33 : decode cX7_isName 33 = .ok (.iconst 0, 1) := by decide +kernel
theorem dX7_isName_34 : decode cX7_isName 34 = .ok (.istore 7, 2) := by decide +kernel
theorem dX7_isName_36 : decode cX7_isName 36 = .ok (.iconst 0, 1) := by decide +kernel
theorem dX7_isName_37 : decode cX7_isName 37 = .ok (.istore 8, 2) := by decide +kernel
theorem dX7_isName_39 : decode cX7_isName 39 = .ok (.iload 8, 2) := by decide +kernel
theorem dX7_isName_41 : decode cX7_isName 41 = .ok (.iload 6, 2) := by decide +kernel
theorem dX7_isName_43 : decode cX7_isName 43 = .ok (.if_icmp .ge 78, 3) := by decide +kernel
theorem dX7_isName_46 : decode cX7_isName 46 = .ok (.iload 7, 2) := by decide +kernel
theorem dX7_isName_48 : decode cX7_isName 48 = .ok (.ifCond .eq 73, 3) := by decide +kernel
theorem dX7_isName_51 : decode cX7_isName 51 = .ok (.aload_n 0, 1) := by decide +kernel
theorem dX7_isName_52 : decode cX7_isName 52 = .ok (.getfield 51, 3) := by decide +kernel
theorem dX7_isName_55 : decode cX7_isName 55 = .ok (.aload_n 0, 1) := by decide +kernel
theorem dX7_isName_56 : decode cX7_isName 56 = .ok (.getfield 282, 3) := by decide +kernel
theorem dX7_isName_59 : decode cX7_isName 59 = .ok (.iload 8, 2) := by decide +kernel
theorem dX7_isName_61 : decode cX7_isName 61 = .ok (.iadd, 1) := by decide +kernel
theorem dX7_isName_62 : decode cX7_isName 62 = .ok (.iaload, 1) := by decide +kernel
theorem dX7_isName_63 : decode cX7_isName 63 = .ok (.iload 8, 2) := by decide +kernel
theorem dX7_isName_65 : decode cX7_isName 65 = .ok (.ifCond .ne 7, 3) := by decide +kernel
theorem dX7_isName_68 : decode cX7_isName 68 = .ok (.iload_n 1, 1) := by decide +kernel
theorem dX7_isName_69 : decode cX7_isName 69 = .ok (.goto 36, 3) := by decide +kernel
theorem dX7_isName_72 : decode cX7_isName 72 = .ok (.iload 8, 2) := by decide +kernel
theorem dX7_isName_74 : decode cX7_isName 74 = .ok (.iconst 1, 1) := by decide +kernel
theorem dX7_isName_75 : decode cX7_isName 75 = .ok (.if_icmp .ne 7, 3) := by decide +kernel
theorem dX7_isName_78 : decode cX7_isName 78 = .ok (.iload_n 2, 1) := by decide +kernel
theorem dX7_isName_79 : decode cX7_isName 79 = .ok (.goto 26, 3) := by decide +kernel
theorem dX7_isName_82 : decode cX7_isName 82 = .ok (.iload 8, 2) := by decide +kernel
theorem dX7_isName_84 : decode cX7_isName 84 = .ok (.iconst 2, 1) := by decide +kernel
theorem dX7_isName_85 : decode cX7_isName 85 = .ok (.if_icmp .ne 7, 3) := by decide +kernel
theorem dX7_isName_88 : decode cX7_isName 88 = .ok (.iload_n 3, 1) := by decide +kernel
theorem dX7_isName_89 : decode cX7_isName 89 = .ok (.goto 16, 3) := by decide +kernel
theorem dX7_isName_92 : decode cX7_isName 92 = .ok (.iload 8, 2) := by decide +kernel
theorem dX7_isName_94 : decode cX7_isName 94 = .ok (.iconst 3, 1) := by decide +kernel
theorem dX7_isName_95 : decode cX7_isName 95 = .ok (.if_icmp .ne 8, 3) := by decide +kernel
theorem dX7_isName_98 : decode cX7_isName 98 = .ok (.iload 4, 2) := by decide +kernel
theorem dX7_isName_100 : decode cX7_isName 100 = .ok (.goto 5, 3) := by decide +kernel
theorem dX7_isName_103 : decode cX7_isName 103 = .ok (.iload 5, 2) := by decide +kernel
theorem dX7_isName_105 : decode cX7_isName 105 = .ok (.if_icmp .ne 7, 3) := by decide +kernel
theorem dX7_isName_108 : decode cX7_isName 108 = .ok (.iconst 1, 1) := by decide +kernel
theorem dX7_isName_109 : decode cX7_isName 109 = .ok (.goto 4, 3) := by decide +kernel
theorem dX7_isName_112 : decode cX7_isName 112 = .ok (.iconst 0, 1) := by decide +kernel
theorem dX7_isName_113 : decode cX7_isName 113 = .ok (.istore 7, 2) := by decide +kernel
theorem dX7_isName_115 : decode cX7_isName 115 = .ok (.iinc 8 1, 3) := by decide +kernel
theorem dX7_isName_118 : decode cX7_isName 118 = .ok (.goto (-79), 3) := by decide +kernel
theorem dX7_isName_121 : decode cX7_isName 121 = .ok (.iload 7, 2) := by decide +kernel
theorem dX7_isName_123 : decode cX7_isName 123 = .ok (.ireturn, 1) := by decide +kernel
theorem dX7_takes_0 : decode cX7_takes 0 = .ok (.aload_n 0, 1) := by decide +kernel
theorem dX7_takes_1 : decode cX7_takes 1 = .ok (.getfield 288, 3) := by decide +kernel
theorem dX7_takes_4 : decode cX7_takes 4 = .ok (.iconst 2, 1) := by decide +kernel
theorem dX7_takes_5 : decode cX7_takes 5 = .ok (.if_icmp .ne 18, 3) := by decide +kernel
theorem dX7_takes_8 : decode cX7_takes 8 = .ok (.aload_n 0, 1) := by decide +kernel
theorem dX7_takes_9 : decode cX7_takes 9 = .ok (.getfield 291, 3) := by decide +kernel
theorem dX7_takes_12 : decode cX7_takes 12 = .ok (.i2l, 1) := by decide +kernel
theorem dX7_takes_13 : decode cX7_takes 13 = .ok (.iload_n 2, 1) := by decide +kernel
theorem dX7_takes_14 : decode cX7_takes 14 = .ok (.i2l, 1) := by decide +kernel
theorem dX7_takes_15 : decode cX7_takes 15 = .ok (.iload_n 3, 1) := by decide +kernel
theorem dX7_takes_16 : decode cX7_takes 16 = .ok (.i2l, 1) := by decide +kernel
theorem dX7_takes_17 : decode cX7_takes 17 = .ok (.invokestatic 68, 3) := by decide +kernel
theorem dX7_takes_20 : decode cX7_takes 20 = .ok (.ifCond .ne 5, 3) := by decide +kernel
theorem dX7_takes_23 : decode cX7_takes 23 = .ok (.iconst 0, 1) := by decide +kernel
theorem dX7_takes_24 : decode cX7_takes 24 = .ok (.ireturn, 1) := by decide +kernel
theorem dX7_takes_25 : decode cX7_takes 25 = .ok (.aload_n 0, 1) := by decide +kernel
theorem dX7_takes_26 : decode cX7_takes 26 = .ok (.getfield 57, 3) := by decide +kernel
theorem dX7_takes_29 : decode cX7_takes 29 = .ok (.iload_n 1, 1) := by decide +kernel
theorem dX7_takes_30 : decode cX7_takes 30 = .ok (.aload_n 0, 1) := by decide +kernel
theorem dX7_takes_31 : decode cX7_takes 31 = .ok (.getfield 291, 3) := by decide +kernel
theorem dX7_takes_34 : decode cX7_takes 34 = .ok (.iastore, 1) := by decide +kernel
theorem dX7_takes_35 : decode cX7_takes 35 = .ok (.aload_n 0, 1) := by decide +kernel
theorem dX7_takes_36 : decode cX7_takes 36 = .ok (.invokevirtual 303, 3) := by decide +kernel
theorem dX7_takes_39 : decode cX7_takes 39 = .ok (.iconst 1, 1) := by decide +kernel
theorem dX7_takes_40 : decode cX7_takes 40 = .ok (.ireturn, 1) := by decide +kernel
theorem dX7_readsFirst_0 : decode cX7_readsFirst 0 = .ok (.aload_n 0, 1) := by decide +kernel
theorem dX7_readsFirst_1 : decode cX7_readsFirst 1 = .ok (.bipush 112, 2) := by decide +kernel
theorem dX7_readsFirst_3 : decode cX7_readsFirst 3 = .ok (.bipush 105, 2) := by decide +kernel
theorem dX7_readsFirst_5 : decode cX7_readsFirst 5 = .ok (.bipush 101, 2) := by decide +kernel
theorem dX7_readsFirst_7 : decode cX7_readsFirst 7 = .ok (.bipush 99, 2) := by decide +kernel
theorem dX7_readsFirst_9 : decode cX7_readsFirst 9 = .ok (.bipush 101, 2) := by decide +kernel
theorem dX7_readsFirst_11 : decode cX7_readsFirst 11 = .ok (.invokevirtual 306, 3) := by decide +kernel
theorem dX7_readsFirst_14 : decode cX7_readsFirst 14 = .ok (.ifCond .ne 5, 3) := by decide +kernel
theorem dX7_readsFirst_17 : decode cX7_readsFirst 17 = .ok (.iconst 0, 1) := by decide +kernel
theorem dX7_readsFirst_18 : decode cX7_readsFirst 18 = .ok (.ireturn, 1) := by decide +kernel
theorem dX7_readsFirst_19 : decode cX7_readsFirst 19 = .ok (.aload_n 0, 1) := by decide +kernel
theorem dX7_readsFirst_20 : decode cX7_readsFirst 20 = .ok (.invokevirtual 303, 3) := by decide +kernel
theorem dX7_readsFirst_23 : decode cX7_readsFirst 23 = .ok (.aload_n 0, 1) := by decide +kernel
theorem dX7_readsFirst_24 : decode cX7_readsFirst 24 = .ok (.iconst 0, 1) := by decide +kernel
theorem dX7_readsFirst_25 : decode cX7_readsFirst 25 = .ok (.iconst 0, 1) := by decide +kernel
theorem dX7_readsFirst_26 : decode cX7_readsFirst 26 = .ok (.bipush 9, 2) := by decide +kernel
theorem dX7_readsFirst_28 : decode cX7_readsFirst 28 = .ok (.invokevirtual 310, 3) := by decide +kernel
theorem dX7_readsFirst_31 : decode cX7_readsFirst 31 = .ok (.istore_n 1, 1) := by decide +kernel
theorem dX7_readsFirst_32 : decode cX7_readsFirst 32 = .ok (.aload_n 0, 1) := by decide +kernel
theorem dX7_readsFirst_33 : decode cX7_readsFirst 33 = .ok (.getfield 54, 3) := by decide +kernel
theorem dX7_readsFirst_36 : decode cX7_readsFirst 36 = .ok (.iload_n 1, 1) := by decide +kernel
theorem dX7_readsFirst_37 : decode cX7_readsFirst 37 = .ok (.ifCond .eq 12, 3) := by decide +kernel
theorem dX7_readsFirst_40 : decode cX7_readsFirst 40 = .ok (.aload_n 0, 1) := by decide +kernel
theorem dX7_readsFirst_41 : decode cX7_readsFirst 41 = .ok (.getfield 57, 3) := by decide +kernel
theorem dX7_readsFirst_44 : decode cX7_readsFirst 44 = .ok (.iconst 0, 1) := by decide +kernel
theorem dX7_readsFirst_45 : decode cX7_readsFirst 45 = .ok (.iaload, 1) := by decide +kernel
theorem dX7_readsFirst_46 : decode cX7_readsFirst 46 = .ok (.goto 4, 3) := by decide +kernel
theorem dX7_readsFirst_49 : decode cX7_readsFirst 49 = .ok (.iconst 0, 1) := by decide +kernel
theorem dX7_readsFirst_50 : decode cX7_readsFirst 50 = .ok (.invokestatic 60, 3) := by decide +kernel
theorem dX7_readsFirst_53 : decode cX7_readsFirst 53 = .ok (.iload_n 1, 1) := by decide +kernel
theorem dX7_readsFirst_54 : decode cX7_readsFirst 54 = .ok (.ifCond .eq 15, 3) := by decide +kernel
theorem dX7_readsFirst_57 : decode cX7_readsFirst 57 = .ok (.aload_n 0, 1) := by decide +kernel
theorem dX7_readsFirst_58 : decode cX7_readsFirst 58 = .ok (.getfield 288, 3) := by decide +kernel
theorem dX7_readsFirst_61 : decode cX7_readsFirst 61 = .ok (.iconst 3, 1) := by decide +kernel
theorem dX7_readsFirst_62 : decode cX7_readsFirst 62 = .ok (.if_icmp .ne 7, 3) := by decide +kernel
theorem dX7_readsFirst_65 : decode cX7_readsFirst 65 = .ok (.iconst 1, 1) := by decide +kernel
theorem dX7_readsFirst_66 : decode cX7_readsFirst 66 = .ok (.goto 4, 3) := by decide +kernel
theorem dX7_readsFirst_69 : decode cX7_readsFirst 69 = .ok (.iconst 0, 1) := by decide +kernel
theorem dX7_readsFirst_70 : decode cX7_readsFirst 70 = .ok (.ireturn, 1) := by decide +kernel
theorem dX7_readsHand_0 : decode cX7_readsHand 0 = .ok (.aload_n 0, 1) := by decide +kernel
theorem dX7_readsHand_1 : decode cX7_readsHand 1 = .ok (.invokevirtual 303, 3) := by decide +kernel
theorem dX7_readsHand_4 : decode cX7_readsHand 4 = .ok (.aload_n 0, 1) := by decide +kernel
theorem dX7_readsHand_5 : decode cX7_readsHand 5 = .ok (.iconst 0, 1) := by decide +kernel
theorem dX7_readsHand_6 : decode cX7_readsHand 6 = .ok (.iconst 0, 1) := by decide +kernel
theorem dX7_readsHand_7 : decode cX7_readsHand 7 = .ok (.iconst 3, 1) := by decide +kernel
theorem dX7_readsHand_8 : decode cX7_readsHand 8 = .ok (.invokevirtual 310, 3) := by decide +kernel
theorem dX7_readsHand_11 : decode cX7_readsHand 11 = .ok (.ifCond .eq 35, 3) := by decide +kernel
theorem dX7_readsHand_14 : decode cX7_readsHand 14 = .ok (.aload_n 0, 1) := by decide +kernel
theorem dX7_readsHand_15 : decode cX7_readsHand 15 = .ok (.iconst 1, 1) := by decide +kernel
theorem dX7_readsHand_16 : decode cX7_readsHand 16 = .ok (.iconst 0, 1) := by decide +kernel
theorem dX7_readsHand_17 : decode cX7_readsHand 17 = .ok (.iconst 5, 1) := by decide +kernel
theorem dX7_readsHand_18 : decode cX7_readsHand 18 = .ok (.invokevirtual 310, 3) := by decide +kernel
theorem dX7_readsHand_21 : decode cX7_readsHand 21 = .ok (.ifCond .eq 25, 3) := by decide +kernel
theorem dX7_readsHand_24 : decode cX7_readsHand 24 = .ok (.aload_n 0, 1) := by decide +kernel
theorem dX7_readsHand_25 : decode cX7_readsHand 25 = .ok (.iconst 2, 1) := by decide +kernel
theorem dX7_readsHand_26 : decode cX7_readsHand 26 = .ok (.iconst 0, 1) := by decide +kernel
theorem dX7_readsHand_27 : decode cX7_readsHand 27 = .ok (.bipush 15, 2) := by decide +kernel
theorem dX7_readsHand_29 : decode cX7_readsHand 29 = .ok (.invokevirtual 310, 3) := by decide +kernel
theorem dX7_readsHand_32 : decode cX7_readsHand 32 = .ok (.ifCond .eq 14, 3) := by decide +kernel
theorem dX7_readsHand_35 : decode cX7_readsHand 35 = .ok (.aload_n 0, 1) := by decide +kernel
theorem dX7_readsHand_36 : decode cX7_readsHand 36 = .ok (.iconst 3, 1) := by decide +kernel
theorem dX7_readsHand_37 : decode cX7_readsHand 37 = .ok (.iconst 1, 1) := by decide +kernel
theorem dX7_readsHand_38 : decode cX7_readsHand 38 = .ok (.bipush 9, 2) := by decide +kernel
theorem dX7_readsHand_40 : decode cX7_readsHand 40 = .ok (.invokevirtual 310, 3) := by decide +kernel
theorem dX7_readsHand_43 : decode cX7_readsHand 43 = .ok (.ifCond .ne 5, 3) := by decide +kernel
theorem dX7_readsHand_46 : decode cX7_readsHand 46 = .ok (.iconst 0, 1) := by decide +kernel
theorem dX7_readsHand_47 : decode cX7_readsHand 47 = .ok (.ireturn, 1) := by decide +kernel
theorem dX7_readsHand_48 : decode cX7_readsHand 48 = .ok (.aload_n 0, 1) := by decide +kernel
theorem dX7_readsHand_49 : decode cX7_readsHand 49 = .ok (.getfield 54, 3) := by decide +kernel
theorem dX7_readsHand_52 : decode cX7_readsHand 52 = .ok (.aload_n 0, 1) := by decide +kernel
theorem dX7_readsHand_53 : decode cX7_readsHand 53 = .ok (.getfield 57, 3) := by decide +kernel
theorem dX7_readsHand_56 : decode cX7_readsHand 56 = .ok (.iconst 0, 1) := by decide +kernel
theorem dX7_readsHand_57 : decode cX7_readsHand 57 = .ok (.iaload, 1) := by decide +kernel
theorem dX7_readsHand_58 : decode cX7_readsHand 58 = .ok (.aload_n 0, 1) := by decide +kernel
theorem dX7_readsHand_59 : decode cX7_readsHand 59 = .ok (.getfield 57, 3) := by decide +kernel
theorem dX7_readsHand_62 : decode cX7_readsHand 62 = .ok (.iconst 1, 1) := by decide +kernel
theorem dX7_readsHand_63 : decode cX7_readsHand 63 = .ok (.iaload, 1) := by decide +kernel
theorem dX7_readsHand_64 : decode cX7_readsHand 64 = .ok (.aload_n 0, 1) := by decide +kernel
theorem dX7_readsHand_65 : decode cX7_readsHand 65 = .ok (.getfield 57, 3) := by decide +kernel
theorem dX7_readsHand_68 : decode cX7_readsHand 68 = .ok (.iconst 2, 1) := by decide +kernel
theorem dX7_readsHand_69 : decode cX7_readsHand 69 = .ok (.iaload, 1) := by decide +kernel
theorem dX7_readsHand_70 : decode cX7_readsHand 70 = .ok (.aload_n 0, 1) := by decide +kernel
theorem dX7_readsHand_71 : decode cX7_readsHand 71 = .ok (.getfield 57, 3) := by decide +kernel
theorem dX7_readsHand_74 : decode cX7_readsHand 74 = .ok (.iconst 3, 1) := by decide +kernel
theorem dX7_readsHand_75 : decode cX7_readsHand 75 = .ok (.iaload, 1) := by decide +kernel
theorem dX7_readsHand_76 : decode cX7_readsHand 76 = .ok (.invokestatic 88, 3) := by decide +kernel
theorem dX7_readsHand_79 : decode cX7_readsHand 79 = .ok (.iconst 1, 1) := by decide +kernel
theorem dX7_readsHand_80 : decode cX7_readsHand 80 = .ok (.ireturn, 1) := by decide +kernel
theorem dX7_readsNote_0 : decode cX7_readsNote 0 = .ok (.aload_n 0, 1) := by decide +kernel
theorem dX7_readsNote_1 : decode cX7_readsNote 1 = .ok (.getfield 54, 3) := by decide +kernel
theorem dX7_readsNote_4 : decode cX7_readsNote 4 = .ok (.iconst 0, 1) := by decide +kernel
theorem dX7_readsNote_5 : decode cX7_readsNote 5 = .ok (.iaload, 1) := by decide +kernel
theorem dX7_readsNote_6 : decode cX7_readsNote 6 = .ok (.bipush 12, 2) := by decide +kernel
theorem dX7_readsNote_8 : decode cX7_readsNote 8 = .ok (.if_icmp .ne 5, 3) := by decide +kernel
theorem dX7_readsNote_11 : decode cX7_readsNote 11 = .ok (.iconst 0, 1) := by decide +kernel
theorem dX7_readsNote_12 : decode cX7_readsNote 12 = .ok (.ireturn, 1) := by decide +kernel
theorem dX7_readsNote_13 : decode cX7_readsNote 13 = .ok (.aload_n 0, 1) := by decide +kernel
theorem dX7_readsNote_14 : decode cX7_readsNote 14 = .ok (.invokevirtual 303, 3) := by decide +kernel
theorem dX7_readsNote_17 : decode cX7_readsNote 17 = .ok (.aload_n 0, 1) := by decide +kernel
theorem dX7_readsNote_18 : decode cX7_readsNote 18 = .ok (.iconst 0, 1) := by decide +kernel
theorem dX7_readsNote_19 : decode cX7_readsNote 19 = .ok (.iconst 0, 1) := by decide +kernel
theorem dX7_readsNote_20 : decode cX7_readsNote 20 = .ok (.bipush 47, 2) := by decide +kernel
theorem dX7_readsNote_22 : decode cX7_readsNote 22 = .ok (.invokevirtual 310, 3) := by decide +kernel
theorem dX7_readsNote_25 : decode cX7_readsNote 25 = .ok (.ifCond .eq 48, 3) := by decide +kernel
theorem dX7_readsNote_28 : decode cX7_readsNote 28 = .ok (.aload_n 0, 1) := by decide +kernel
theorem dX7_readsNote_29 : decode cX7_readsNote 29 = .ok (.iconst 1, 1) := by decide +kernel
theorem dX7_readsNote_30 : decode cX7_readsNote 30 = .ok (.iconst 0, 1) := by decide +kernel
theorem dX7_readsNote_31 : decode cX7_readsNote 31 = .ok (.bipush 63, 2) := by decide +kernel
theorem dX7_readsNote_33 : decode cX7_readsNote 33 = .ok (.invokevirtual 310, 3) := by decide +kernel
theorem dX7_readsNote_36 : decode cX7_readsNote 36 = .ok (.ifCond .eq 37, 3) := by decide +kernel
theorem dX7_readsNote_39 : decode cX7_readsNote 39 = .ok (.aload_n 0, 1) := by decide +kernel
theorem dX7_readsNote_40 : decode cX7_readsNote 40 = .ok (.iconst 2, 1) := by decide +kernel
theorem dX7_readsNote_41 : decode cX7_readsNote 41 = .ok (.iconst 1, 1) := by decide +kernel
theorem dX7_readsNote_42 : decode cX7_readsNote 42 = .ok (.aload_n 0, 1) := by decide +kernel
theorem dX7_readsNote_43 : decode cX7_readsNote 43 = .ok (.getfield 57, 3) := by decide +kernel
theorem dX7_readsNote_46 : decode cX7_readsNote 46 = .ok (.iconst 1, 1) := by decide +kernel
theorem dX7_readsNote_47 : decode cX7_readsNote 47 = .ok (.iaload, 1) := by decide +kernel
theorem dX7_readsNote_48 : decode cX7_readsNote 48 = .ok (.bipush 56, 2) := by decide +kernel
theorem dX7_readsNote_50 : decode cX7_readsNote 50 = .ok (.if_icmp .le 15, 3) := by decide +kernel
theorem dX7_readsNote_53 : decode cX7_readsNote 53 = .ok (.bipush 64, 2) := by decide +kernel
theorem dX7_readsNote_55 : decode cX7_readsNote 55 = .ok (.aload_n 0, 1) := by decide +kernel
theorem dX7_readsNote_56 : decode cX7_readsNote 56 = .ok (.getfield 57, 3) := by decide +kernel
theorem dX7_readsNote_59 : decode cX7_readsNote 59 = .ok (.iconst 1, 1) := by decide +kernel
theorem dX7_readsNote_60 : decode cX7_readsNote 60 = .ok (.iaload, 1) := by decide +kernel
theorem dX7_readsNote_61 : decode cX7_readsNote 61 = .ok (.isub, 1) := by decide +kernel
theorem dX7_readsNote_62 : decode cX7_readsNote 62 = .ok (.goto 5, 3) := by decide +kernel
theorem dX7_readsNote_65 : decode cX7_readsNote 65 = .ok (.bipush 8, 2) := by decide +kernel
theorem dX7_readsNote_67 : decode cX7_readsNote 67 = .ok (.invokevirtual 310, 3) := by decide +kernel
theorem dX7_readsNote_70 : decode cX7_readsNote 70 = .ok (.ifCond .ne 5, 3) := by decide +kernel
theorem dX7_readsNote_73 : decode cX7_readsNote 73 = .ok (.iconst 0, 1) := by decide +kernel
theorem dX7_readsNote_74 : decode cX7_readsNote 74 = .ok (.ireturn, 1) := by decide +kernel
theorem dX7_readsNote_75 : decode cX7_readsNote 75 = .ok (.aload_n 0, 1) := by decide +kernel
theorem dX7_readsNote_76 : decode cX7_readsNote 76 = .ok (.iconst 3, 1) := by decide +kernel
theorem dX7_readsNote_77 : decode cX7_readsNote 77 = .ok (.iconst 0, 1) := by decide +kernel
theorem dX7_readsNote_78 : decode cX7_readsNote 78 = .ok (.iconst 1, 1) := by decide +kernel
theorem dX7_readsNote_79 : decode cX7_readsNote 79 = .ok (.invokevirtual 310, 3) := by decide +kernel
theorem dX7_readsNote_82 : decode cX7_readsNote 82 = .ok (.ifCond .eq 24, 3) := by decide +kernel
theorem dX7_readsNote_85 : decode cX7_readsNote 85 = .ok (.aload_n 0, 1) := by decide +kernel
theorem dX7_readsNote_86 : decode cX7_readsNote 86 = .ok (.iconst 4, 1) := by decide +kernel
theorem dX7_readsNote_87 : decode cX7_readsNote 87 = .ok (.iconst 0, 1) := by decide +kernel
theorem dX7_readsNote_88 : decode cX7_readsNote 88 = .ok (.bipush 9, 2) := by decide +kernel
theorem dX7_readsNote_90 : decode cX7_readsNote 90 = .ok (.invokevirtual 310, 3) := by decide +kernel
theorem dX7_readsNote_93 : decode cX7_readsNote 93 = .ok (.ifCond .eq 13, 3) := by decide +kernel
theorem dX7_readsNote_96 : decode cX7_readsNote 96 = .ok (.aload_n 0, 1) := by decide +kernel
theorem dX7_readsNote_97 : decode cX7_readsNote 97 = .ok (.iconst 5, 1) := by decide +kernel
theorem dX7_readsNote_98 : decode cX7_readsNote 98 = .ok (.iconst 0, 1) := by decide +kernel
theorem dX7_readsNote_99 : decode cX7_readsNote 99 = .ok (.iconst 4, 1) := by decide +kernel
theorem dX7_readsNote_100 : decode cX7_readsNote 100 = .ok (.invokevirtual 310, 3) := by decide +kernel
theorem dX7_readsNote_103 : decode cX7_readsNote 103 = .ok (.ifCond .ne 5, 3) := by decide +kernel
theorem dX7_readsNote_106 : decode cX7_readsNote 106 = .ok (.iconst 0, 1) := by decide +kernel
theorem dX7_readsNote_107 : decode cX7_readsNote 107 = .ok (.ireturn, 1) := by decide +kernel
theorem dX7_readsNote_108 : decode cX7_readsNote 108 = .ok (.aload_n 0, 1) := by decide +kernel
theorem dX7_readsNote_109 : decode cX7_readsNote 109 = .ok (.getfield 54, 3) := by decide +kernel
theorem dX7_readsNote_112 : decode cX7_readsNote 112 = .ok (.aload_n 0, 1) := by decide +kernel
theorem dX7_readsNote_113 : decode cX7_readsNote 113 = .ok (.getfield 57, 3) := by decide +kernel
theorem dX7_readsNote_116 : decode cX7_readsNote 116 = .ok (.iconst 0, 1) := by decide +kernel
theorem dX7_readsNote_117 : decode cX7_readsNote 117 = .ok (.iaload, 1) := by decide +kernel
theorem dX7_readsNote_118 : decode cX7_readsNote 118 = .ok (.aload_n 0, 1) := by decide +kernel
theorem dX7_readsNote_119 : decode cX7_readsNote 119 = .ok (.getfield 57, 3) := by decide +kernel
theorem dX7_readsNote_122 : decode cX7_readsNote 122 = .ok (.iconst 1, 1) := by decide +kernel
theorem dX7_readsNote_123 : decode cX7_readsNote 123 = .ok (.iaload, 1) := by decide +kernel
theorem dX7_readsNote_124 : decode cX7_readsNote 124 = .ok (.aload_n 0, 1) := by decide +kernel
theorem dX7_readsNote_125 : decode cX7_readsNote 125 = .ok (.getfield 57, 3) := by decide +kernel
theorem dX7_readsNote_128 : decode cX7_readsNote 128 = .ok (.iconst 2, 1) := by decide +kernel
theorem dX7_readsNote_129 : decode cX7_readsNote 129 = .ok (.iaload, 1) := by decide +kernel
theorem dX7_readsNote_130 : decode cX7_readsNote 130 = .ok (.aload_n 0, 1) := by decide +kernel
theorem dX7_readsNote_131 : decode cX7_readsNote 131 = .ok (.getfield 57, 3) := by decide +kernel
theorem dX7_readsNote_134 : decode cX7_readsNote 134 = .ok (.iconst 3, 1) := by decide +kernel
theorem dX7_readsNote_135 : decode cX7_readsNote 135 = .ok (.iaload, 1) := by decide +kernel
theorem dX7_readsNote_136 : decode cX7_readsNote 136 = .ok (.aload_n 0, 1) := by decide +kernel
theorem dX7_readsNote_137 : decode cX7_readsNote 137 = .ok (.getfield 57, 3) := by decide +kernel
theorem dX7_readsNote_140 : decode cX7_readsNote 140 = .ok (.iconst 4, 1) := by decide +kernel
theorem dX7_readsNote_141 : decode cX7_readsNote 141 = .ok (.iaload, 1) := by decide +kernel
theorem dX7_readsNote_142 : decode cX7_readsNote 142 = .ok (.aload_n 0, 1) := by decide +kernel
theorem dX7_readsNote_143 : decode cX7_readsNote 143 = .ok (.getfield 57, 3) := by decide +kernel
theorem dX7_readsNote_146 : decode cX7_readsNote 146 = .ok (.iconst 5, 1) := by decide +kernel
theorem dX7_readsNote_147 : decode cX7_readsNote 147 = .ok (.iaload, 1) := by decide +kernel
theorem dX7_readsNote_148 : decode cX7_readsNote 148 = .ok (.iconst 4, 1) := by decide +kernel
theorem dX7_readsNote_149 : decode cX7_readsNote 149 = .ok (.if_icmp .ne 7, 3) := by decide +kernel
theorem dX7_readsNote_152 : decode cX7_readsNote 152 = .ok (.iconst (-1), 1) := by decide +kernel
theorem dX7_readsNote_153 : decode cX7_readsNote 153 = .ok (.goto 9, 3) := by decide +kernel
theorem dX7_readsNote_156 : decode cX7_readsNote 156 = .ok (.aload_n 0, 1) := by decide +kernel
theorem dX7_readsNote_157 : decode cX7_readsNote 157 = .ok (.getfield 57, 3) := by decide +kernel
theorem dX7_readsNote_160 : decode cX7_readsNote 160 = .ok (.iconst 5, 1) := by decide +kernel
theorem dX7_readsNote_161 : decode cX7_readsNote 161 = .ok (.iaload, 1) := by decide +kernel
theorem dX7_readsNote_162 : decode cX7_readsNote 162 = .ok (.invokestatic 103, 3) := by decide +kernel
theorem dX7_readsNote_165 : decode cX7_readsNote 165 = .ok (.iconst 1, 1) := by decide +kernel
theorem dX7_readsNote_166 : decode cX7_readsNote 166 = .ok (.ireturn, 1) := by decide +kernel
theorem dX7_readsItem_0 : decode cX7_readsItem 0 = .ok (.aload_n 0, 1) := by decide +kernel
theorem dX7_readsItem_1 : decode cX7_readsItem 1 = .ok (.bipush 104, 2) := by decide +kernel
theorem dX7_readsItem_3 : decode cX7_readsItem 3 = .ok (.bipush 97, 2) := by decide +kernel
theorem dX7_readsItem_5 : decode cX7_readsItem 5 = .ok (.bipush 110, 2) := by decide +kernel
theorem dX7_readsItem_7 : decode cX7_readsItem 7 = .ok (.bipush 100, 2) := by decide +kernel
theorem dX7_readsItem_9 : decode cX7_readsItem 9 = .ok (.iconst 0, 1) := by decide +kernel
theorem dX7_readsItem_10 : decode cX7_readsItem 10 = .ok (.invokevirtual 306, 3) := by decide +kernel
theorem dX7_readsItem_13 : decode cX7_readsItem 13 = .ok (.ifCond .eq 8, 3) := by decide +kernel
theorem dX7_readsItem_16 : decode cX7_readsItem 16 = .ok (.aload_n 0, 1) := by decide +kernel
theorem dX7_readsItem_17 : decode cX7_readsItem 17 = .ok (.invokevirtual 313, 3) := by decide +kernel
theorem dX7_readsItem_20 : decode cX7_readsItem 20 = .ok (.ireturn, 1) := by decide +kernel
theorem dX7_readsItem_21 : decode cX7_readsItem 21 = .ok (.aload_n 0, 1) := by decide +kernel
theorem dX7_readsItem_22 : decode cX7_readsItem 22 = .ok (.bipush 110, 2) := by decide +kernel
theorem dX7_readsItem_24 : decode cX7_readsItem 24 = .ok (.bipush 111, 2) := by decide +kernel
theorem dX7_readsItem_26 : decode cX7_readsItem 26 = .ok (.bipush 116, 2) := by decide +kernel
theorem dX7_readsItem_28 : decode cX7_readsItem 28 = .ok (.bipush 101, 2) := by decide +kernel
theorem dX7_readsItem_30 : decode cX7_readsItem 30 = .ok (.iconst 0, 1) := by decide +kernel
theorem dX7_readsItem_31 : decode cX7_readsItem 31 = .ok (.invokevirtual 306, 3) := by decide +kernel
theorem dX7_readsItem_34 : decode cX7_readsItem 34 = .ok (.ifCond .eq 14, 3) := by decide +kernel
theorem dX7_readsItem_37 : decode cX7_readsItem 37 = .ok (.aload_n 0, 1) := by decide +kernel
theorem dX7_readsItem_38 : decode cX7_readsItem 38 = .ok (.invokevirtual 317, 3) := by decide +kernel
theorem dX7_readsItem_41 : decode cX7_readsItem 41 = .ok (.ifCond .eq 7, 3) := by decide +kernel
theorem dX7_readsItem_44 : decode cX7_readsItem 44 = .ok (.iconst 1, 1) := by decide +kernel
theorem dX7_readsItem_45 : decode cX7_readsItem 45 = .ok (.goto 4, 3) := by decide +kernel
theorem dX7_readsItem_48 : decode cX7_readsItem 48 = .ok (.iconst 0, 1) := by decide +kernel
theorem dX7_readsItem_49 : decode cX7_readsItem 49 = .ok (.ireturn, 1) := by decide +kernel
theorem dX7_read_0 : decode cX7_read 0 = .ok (.aload_n 0, 1) := by decide +kernel
theorem dX7_read_1 : decode cX7_read 1 = .ok (.iconst 0, 1) := by decide +kernel
theorem dX7_read_2 : decode cX7_read 2 = .ok (.invokevirtual 300, 3) := by decide +kernel
theorem dX7_read_5 : decode cX7_read 5 = .ok (.aload_n 0, 1) := by decide +kernel
theorem dX7_read_6 : decode cX7_read 6 = .ok (.invokevirtual 320, 3) := by decide +kernel
theorem dX7_read_9 : decode cX7_read 9 = .ok (.ifCond .ne 11, 3) := by decide +kernel
theorem dX7_read_12 : decode cX7_read 12 = .ok (.bipush (-10), 2) := by decide +kernel
theorem dX7_read_14 : decode cX7_read 14 = .ok (.aload_n 0, 1) := by decide +kernel
theorem dX7_read_15 : decode cX7_read 15 = .ok (.getfield 282, 3) := by decide +kernel
theorem dX7_read_18 : decode cX7_read 18 = .ok (.isub, 1) := by decide +kernel
theorem dX7_read_19 : decode cX7_read 19 = .ok (.ireturn, 1) := by decide +kernel
theorem dX7_read_20 : decode cX7_read 20 = .ok (.aload_n 0, 1) := by decide +kernel
theorem dX7_read_21 : decode cX7_read 21 = .ok (.invokevirtual 303, 3) := by decide +kernel
theorem dX7_read_24 : decode cX7_read 24 = .ok (.iconst 1, 1) := by decide +kernel
theorem dX7_read_25 : decode cX7_read 25 = .ok (.istore_n 1, 1) := by decide +kernel
theorem dX7_read_26 : decode cX7_read 26 = .ok (.aload_n 0, 1) := by decide +kernel
theorem dX7_read_27 : decode cX7_read 27 = .ok (.getfield 288, 3) := by decide +kernel
theorem dX7_read_30 : decode cX7_read 30 = .ok (.ifCond .eq 36, 3) := by decide +kernel
theorem dX7_read_33 : decode cX7_read 33 = .ok (.aload_n 0, 1) := by decide +kernel
theorem dX7_read_34 : decode cX7_read 34 = .ok (.invokevirtual 323, 3) := by decide +kernel
theorem dX7_read_37 : decode cX7_read 37 = .ok (.ifCond .eq 11, 3) := by decide +kernel
theorem dX7_read_40 : decode cX7_read 40 = .ok (.aload_n 0, 1) := by decide +kernel
theorem dX7_read_41 : decode cX7_read 41 = .ok (.getfield 288, 3) := by decide +kernel
theorem dX7_read_44 : decode cX7_read 44 = .ok (.iconst 3, 1) := by decide +kernel
theorem dX7_read_45 : decode cX7_read 45 = .ok (.if_icmp .eq 11, 3) := by decide +kernel
theorem dX7_read_48 : decode cX7_read 48 = .ok (.bipush (-10), 2) := by decide +kernel
theorem dX7_read_50 : decode cX7_read 50 = .ok (.aload_n 0, 1) := by decide +kernel
theorem dX7_read_51 : decode cX7_read 51 = .ok (.getfield 282, 3) := by decide +kernel
theorem dX7_read_54 : decode cX7_read 54 = .ok (.isub, 1) := by decide +kernel
theorem dX7_read_55 : decode cX7_read 55 = .ok (.ireturn, 1) := by decide +kernel
theorem dX7_read_56 : decode cX7_read 56 = .ok (.aload_n 0, 1) := by decide +kernel
theorem dX7_read_57 : decode cX7_read 57 = .ok (.invokevirtual 303, 3) := by decide +kernel
theorem dX7_read_60 : decode cX7_read 60 = .ok (.iinc 1 1, 3) := by decide +kernel
theorem dX7_read_63 : decode cX7_read 63 = .ok (.goto (-37), 3) := by decide +kernel
theorem dX7_read_66 : decode cX7_read 66 = .ok (.iconst 0, 1) := by decide +kernel
theorem dX7_read_67 : decode cX7_read 67 = .ok (.istore_n 2, 1) := by decide +kernel
theorem dX7_read_68 : decode cX7_read 68 = .ok (.iload_n 2, 1) := by decide +kernel
theorem dX7_read_69 : decode cX7_read 69 = .ok (.bipush 101, 2) := by decide +kernel
theorem dX7_read_71 : decode cX7_read 71 = .ok (.if_icmp .ge 21, 3) := by decide +kernel
theorem dX7_read_74 : decode cX7_read 74 = .ok (.aload_n 0, 1) := by decide +kernel
theorem dX7_read_75 : decode cX7_read 75 = .ok (.getfield 7, 3) := by decide +kernel
theorem dX7_read_78 : decode cX7_read 78 = .ok (.iload_n 2, 1) := by decide +kernel
theorem dX7_read_79 : decode cX7_read 79 = .ok (.aload_n 0, 1) := by decide +kernel
theorem dX7_read_80 : decode cX7_read 80 = .ok (.getfield 54, 3) := by decide +kernel
theorem dX7_read_83 : decode cX7_read 83 = .ok (.iload_n 2, 1) := by decide +kernel
theorem dX7_read_84 : decode cX7_read 84 = .ok (.iaload, 1) := by decide +kernel
theorem dX7_read_85 : decode cX7_read 85 = .ok (.iastore, 1) := by decide +kernel
theorem dX7_read_86 : decode cX7_read 86 = .ok (.iinc 2 1, 3) := by decide +kernel
theorem dX7_read_89 : decode cX7_read 89 = .ok (.goto (-21), 3) := by decide +kernel
theorem dX7_read_92 : decode cX7_read 92 = .ok (.iload_n 1, 1) := by decide +kernel
theorem dX7_read_93 : decode cX7_read 93 = .ok (.ireturn, 1) := by decide +kernel
theorem dX7_part_0 : decode cX7_part 0 = .ok (.iload_n 1, 1) := by decide +kernel
theorem dX7_part_1 : decode cX7_part 1 = .ok (.ifCond .ne 10, 3) := by decide +kernel
theorem dX7_part_4 : decode cX7_part 4 = .ok (.aload_n 0, 1) := by decide +kernel
theorem dX7_part_5 : decode cX7_part 5 = .ok (.getfield 244, 3) := by decide +kernel
theorem dX7_part_8 : decode cX7_part 8 = .ok (.goto 22, 3) := by decide +kernel
theorem dX7_part_11 : decode cX7_part 11 = .ok (.iload_n 1, 1) := by decide +kernel
theorem dX7_part_12 : decode cX7_part 12 = .ok (.iconst 1, 1) := by decide +kernel
theorem dX7_part_13 : decode cX7_part 13 = .ok (.if_icmp .ne 10, 3) := by decide +kernel
theorem dX7_part_16 : decode cX7_part 16 = .ok (.aload_n 0, 1) := by decide +kernel
theorem dX7_part_17 : decode cX7_part 17 = .ok (.getfield 23, 3) := by decide +kernel
theorem dX7_part_20 : decode cX7_part 20 = .ok (.goto 10, 3) := by decide +kernel
theorem dX7_part_23 : decode cX7_part 23 = .ok (.aload_n 0, 1) := by decide +kernel
theorem dX7_part_24 : decode cX7_part 24 = .ok (.bipush (-2), 2) := by decide +kernel
theorem dX7_part_26 : decode cX7_part 26 = .ok (.invokevirtual 76, 3) := by decide +kernel
theorem dX7_part_29 : decode cX7_part 29 = .ok (.i2l, 1) := by decide +kernel
theorem dX7_part_30 : decode cX7_part 30 = .ok (.lreturn, 1) := by decide +kernel
theorem dX7_image_0 : decode cX7_image 0 = .ok (.iload_n 1, 1) := by decide +kernel
theorem dX7_image_1 : decode cX7_image 1 = .ok (.i2l, 1) := by decide +kernel
theorem dX7_image_2 : decode cX7_image 2 = .ok (.lconst 0, 1) := by decide +kernel
theorem dX7_image_3 : decode cX7_image 3 = .ok (.lconst 1, 1) := by decide +kernel
theorem dX7_image_4 : decode cX7_image 4 = .ok (.invokestatic 68, 3) := by decide +kernel
theorem dX7_image_7 : decode cX7_image 7 = .ok (.ifCond .ne 10, 3) := by decide +kernel
theorem dX7_image_10 : decode cX7_image 10 = .ok (.aload_n 0, 1) := by decide +kernel
theorem dX7_image_11 : decode cX7_image 11 = .ok (.bipush (-2), 2) := by decide +kernel
theorem dX7_image_13 : decode cX7_image 13 = .ok (.invokevirtual 76, 3) := by decide +kernel
theorem dX7_image_16 : decode cX7_image 16 = .ok (.ireturn, 1) := by decide +kernel
theorem dX7_image_17 : decode cX7_image 17 = .ok (.iconst 0, 1) := by decide +kernel
theorem dX7_image_18 : decode cX7_image 18 = .ok (.istore_n 2, 1) := by decide +kernel
theorem dX7_image_19 : decode cX7_image 19 = .ok (.iload_n 2, 1) := by decide +kernel
theorem dX7_image_20 : decode cX7_image 20 = .ok (.sipush 221, 3) := by decide +kernel
theorem dX7_image_23 : decode cX7_image 23 = .ok (.if_icmp .ge 27, 3) := by decide +kernel
theorem dX7_image_26 : decode cX7_image 26 = .ok (.aload_n 0, 1) := by decide +kernel
theorem dX7_image_27 : decode cX7_image 27 = .ok (.getfield 13, 3) := by decide +kernel
theorem dX7_image_30 : decode cX7_image 30 = .ok (.sipush 221, 3) := by decide +kernel
theorem dX7_image_33 : decode cX7_image 33 = .ok (.iload_n 1, 1) := by decide +kernel
theorem dX7_image_34 : decode cX7_image 34 = .ok (.imul, 1) := by decide +kernel
theorem dX7_image_35 : decode cX7_image 35 = .ok (.iload_n 2, 1) := by decide +kernel
theorem dX7_image_36 : decode cX7_image 36 = .ok (.iadd, 1) := by decide +kernel
theorem dX7_image_37 : decode cX7_image 37 = .ok (.aload_n 0, 1) := by decide +kernel
theorem dX7_image_38 : decode cX7_image 38 = .ok (.getfield 7, 3) := by decide +kernel
theorem dX7_image_41 : decode cX7_image 41 = .ok (.iload_n 2, 1) := by decide +kernel
theorem dX7_image_42 : decode cX7_image 42 = .ok (.iaload, 1) := by decide +kernel
theorem dX7_image_43 : decode cX7_image 43 = .ok (.iastore, 1) := by decide +kernel
theorem dX7_image_44 : decode cX7_image 44 = .ok (.iinc 2 1, 3) := by decide +kernel
theorem dX7_image_47 : decode cX7_image 47 = .ok (.goto (-28), 3) := by decide +kernel
theorem dX7_image_50 : decode cX7_image 50 = .ok (.aload_n 0, 1) := by decide +kernel
theorem dX7_image_51 : decode cX7_image 51 = .ok (.getfield 16, 3) := by decide +kernel
theorem dX7_image_54 : decode cX7_image 54 = .ok (.iload_n 1, 1) := by decide +kernel
theorem dX7_image_55 : decode cX7_image 55 = .ok (.iconst 1, 1) := by decide +kernel
theorem dX7_image_56 : decode cX7_image 56 = .ok (.bastore, 1) := by decide +kernel
theorem dX7_image_57 : decode cX7_image 57 = .ok (.iconst 1, 1) := by decide +kernel
theorem dX7_image_58 : decode cX7_image 58 = .ok (.ireturn, 1) := by decide +kernel
theorem dX7_from_0 : decode cX7_from 0 = .ok (.iload_n 1, 1) := by decide +kernel
theorem dX7_from_1 : decode cX7_from 1 = .ok (.i2l, 1) := by decide +kernel
theorem dX7_from_2 : decode cX7_from 2 = .ok (.lconst 0, 1) := by decide +kernel
theorem dX7_from_3 : decode cX7_from 3 = .ok (.lconst 1, 1) := by decide +kernel
theorem dX7_from_4 : decode cX7_from 4 = .ok (.invokestatic 68, 3) := by decide +kernel
theorem dX7_from_7 : decode cX7_from 7 = .ok (.ifCond .ne 10, 3) := by decide +kernel
theorem dX7_from_10 : decode cX7_from 10 = .ok (.aload_n 0, 1) := by decide +kernel
theorem dX7_from_11 : decode cX7_from 11 = .ok (.bipush (-2), 2) := by decide +kernel
theorem dX7_from_13 : decode cX7_from 13 = .ok (.invokevirtual 76, 3) := by decide +kernel
theorem dX7_from_16 : decode cX7_from 16 = .ok (.ireturn, 1) := by decide +kernel
theorem dX7_from_17 : decode cX7_from 17 = .ok (.aload_n 0, 1) := by decide +kernel
theorem dX7_from_18 : decode cX7_from 18 = .ok (.getfield 16, 3) := by decide +kernel
theorem dX7_from_21 : decode cX7_from 21 = .ok (.iload_n 1, 1) := by decide +kernel
theorem dX7_from_22 : decode cX7_from 22 = .ok (.baload, 1) := by decide +kernel
theorem dX7_from_23 : decode cX7_from 23 = .ok (.ifCond .ne 10, 3) := by decide +kernel
theorem dX7_from_26 : decode cX7_from 26 = .ok (.aload_n 0, 1) := by decide +kernel
theorem dX7_from_27 : decode cX7_from 27 = .ok (.bipush (-3), 2) := by decide +kernel
theorem dX7_from_29 : decode cX7_from 29 = .ok (.invokevirtual 155, 3) := by decide +kernel
theorem dX7_from_32 : decode cX7_from 32 = .ok (.ireturn, 1) := by decide +kernel
theorem dX7_from_33 : decode cX7_from 33 = .ok (.iconst 0, 1) := by decide +kernel
theorem dX7_from_34 : decode cX7_from 34 = .ok (.istore_n 2, 1) := by decide +kernel
theorem dX7_from_35 : decode cX7_from 35 = .ok (.iload_n 2, 1) := by decide +kernel
theorem dX7_from_36 : decode cX7_from 36 = .ok (.sipush 221, 3) := by decide +kernel
theorem dX7_from_39 : decode cX7_from 39 = .ok (.if_icmp .ge 27, 3) := by decide +kernel
theorem dX7_from_42 : decode cX7_from 42 = .ok (.aload_n 0, 1) := by decide +kernel
theorem dX7_from_43 : decode cX7_from 43 = .ok (.getfield 7, 3) := by decide +kernel
theorem dX7_from_46 : decode cX7_from 46 = .ok (.iload_n 2, 1) := by decide +kernel
theorem dX7_from_47 : decode cX7_from 47 = .ok (.aload_n 0, 1) := by decide +kernel
theorem dX7_from_48 : decode cX7_from 48 = .ok (.getfield 13, 3) := by decide +kernel
theorem dX7_from_51 : decode cX7_from 51 = .ok (.sipush 221, 3) := by decide +kernel
theorem dX7_from_54 : decode cX7_from 54 = .ok (.iload_n 1, 1) := by decide +kernel
theorem dX7_from_55 : decode cX7_from 55 = .ok (.imul, 1) := by decide +kernel
theorem dX7_from_56 : decode cX7_from 56 = .ok (.iload_n 2, 1) := by decide +kernel
theorem dX7_from_57 : decode cX7_from 57 = .ok (.iadd, 1) := by decide +kernel
theorem dX7_from_58 : decode cX7_from 58 = .ok (.iaload, 1) := by decide +kernel
theorem dX7_from_59 : decode cX7_from 59 = .ok (.iastore, 1) := by decide +kernel
theorem dX7_from_60 : decode cX7_from 60 = .ok (.iinc 2 1, 3) := by decide +kernel
theorem dX7_from_63 : decode cX7_from 63 = .ok (.goto (-28), 3) := by decide +kernel
theorem dX7_from_66 : decode cX7_from 66 = .ok (.iconst 1, 1) := by decide +kernel
theorem dX7_from_67 : decode cX7_from 67 = .ok (.ireturn, 1) := by decide +kernel
theorem dX7_status_0 : decode cX7_status 0 = .ok (.iload_n 1, 1) := by decide +kernel
theorem dX7_status_1 : decode cX7_status 1 = .ok (.i2l, 1) := by decide +kernel
theorem dX7_status_2 : decode cX7_status 2 = .ok (.lconst 0, 1) := by decide +kernel
theorem dX7_status_3 : decode cX7_status 3 = .ok (.ldc2_w 183, 3) := by decide +kernel
theorem dX7_status_6 : decode cX7_status 6 = .ok (.invokestatic 68, 3) := by decide +kernel
theorem dX7_status_9 : decode cX7_status 9 = .ok (.ifCond .eq 12, 3) := by decide +kernel
theorem dX7_status_12 : decode cX7_status 12 = .ok (.aload_n 0, 1) := by decide +kernel
theorem dX7_status_13 : decode cX7_status 13 = .ok (.getfield 20, 3) := by decide +kernel
theorem dX7_status_16 : decode cX7_status 16 = .ok (.iload_n 1, 1) := by decide +kernel
theorem dX7_status_17 : decode cX7_status 17 = .ok (.iaload, 1) := by decide +kernel
theorem dX7_status_18 : decode cX7_status 18 = .ok (.goto 8, 3) := by decide +kernel
theorem dX7_status_21 : decode cX7_status 21 = .ok (.aload_n 0, 1) := by decide +kernel
theorem dX7_status_22 : decode cX7_status 22 = .ok (.iconst (-1), 1) := by decide +kernel
theorem dX7_status_23 : decode cX7_status 23 = .ok (.invokevirtual 76, 3) := by decide +kernel
theorem dX7_status_26 : decode cX7_status 26 = .ok (.ireturn, 1) := by decide +kernel
theorem dX7_played_0 : decode cX7_played 0 = .ok (.iconst 0, 1) := by decide +kernel
theorem dX7_played_1 : decode cX7_played 1 = .ok (.istore_n 1, 1) := by decide +kernel
theorem dX7_played_2 : decode cX7_played 2 = .ok (.iconst 0, 1) := by decide +kernel
theorem dX7_played_3 : decode cX7_played 3 = .ok (.istore_n 2, 1) := by decide +kernel
theorem dX7_played_4 : decode cX7_played 4 = .ok (.iload_n 2, 1) := by decide +kernel
theorem dX7_played_5 : decode cX7_played 5 = .ok (.aload_n 0, 1) := by decide +kernel
theorem dX7_played_6 : decode cX7_played 6 = .ok (.invokevirtual 64, 3) := by decide +kernel
theorem dX7_played_9 : decode cX7_played 9 = .ok (.if_icmp .ge 25, 3) := by decide +kernel
theorem dX7_played_12 : decode cX7_played 12 = .ok (.iload_n 1, 1) := by decide +kernel
theorem dX7_played_13 : decode cX7_played 13 = .ok (.aload_n 0, 1) := by decide +kernel
theorem dX7_played_14 : decode cX7_played 14 = .ok (.iload_n 2, 1) := by decide +kernel
theorem dX7_played_15 : decode cX7_played 15 = .ok (.invokevirtual 123, 3) := by decide +kernel
theorem dX7_played_18 : decode cX7_played 18 = .ok (.ifCond .eq 7, 3) := by decide +kernel
theorem dX7_played_21 : decode cX7_played 21 = .ok (.iconst 1, 1) := by decide +kernel
theorem dX7_played_22 : decode cX7_played 22 = .ok (.goto 4, 3) := by decide +kernel
theorem dX7_played_25 : decode cX7_played 25 = .ok (.iconst 0, 1) := by decide +kernel
theorem dX7_played_26 : decode cX7_played 26 = .ok (.iadd, 1) := by decide +kernel
theorem dX7_played_27 : decode cX7_played 27 = .ok (.istore_n 1, 1) := by decide +kernel
theorem dX7_played_28 : decode cX7_played 28 = .ok (.iinc 2 1, 3) := by decide +kernel
theorem dX7_played_31 : decode cX7_played 31 = .ok (.goto (-27), 3) := by decide +kernel
theorem dX7_played_34 : decode cX7_played 34 = .ok (.iload_n 1, 1) := by decide +kernel
theorem dX7_played_35 : decode cX7_played 35 = .ok (.ireturn, 1) := by decide +kernel
theorem dX7_counted_0 : decode cX7_counted 0 = .ok (.iload_n 1, 1) := by decide +kernel
theorem dX7_counted_1 : decode cX7_counted 1 = .ok (.tableswitch 74 0 4 #[35, 40, 45, 52, 66], 35) := by decide +kernel
theorem dX7_counted_36 : decode cX7_counted 36 = .ok (.aload_n 0, 1) := by decide +kernel
theorem dX7_counted_37 : decode cX7_counted 37 = .ok (.invokevirtual 64, 3) := by decide +kernel
theorem dX7_counted_40 : decode cX7_counted 40 = .ok (.ireturn, 1) := by decide +kernel
theorem dX7_counted_41 : decode cX7_counted 41 = .ok (.aload_n 0, 1) := by decide +kernel
theorem dX7_counted_42 : decode cX7_counted 42 = .ok (.invokevirtual 326, 3) := by decide +kernel
theorem dX7_counted_45 : decode cX7_counted 45 = .ok (.ireturn, 1) := by decide +kernel
theorem dX7_counted_46 : decode cX7_counted 46 = .ok (.aload_n 0, 1) := by decide +kernel
theorem dX7_counted_47 : decode cX7_counted 47 = .ok (.getfield 7, 3) := by decide +kernel
theorem dX7_counted_50 : decode cX7_counted 50 = .ok (.iconst 1, 1) := by decide +kernel
theorem dX7_counted_51 : decode cX7_counted 51 = .ok (.iaload, 1) := by decide +kernel
theorem dX7_counted_52 : decode cX7_counted 52 = .ok (.ireturn, 1) := by decide +kernel
theorem dX7_counted_53 : decode cX7_counted 53 = .ok (.aload_n 0, 1) := by decide +kernel
theorem dX7_counted_54 : decode cX7_counted 54 = .ok (.getfield 7, 3) := by decide +kernel
theorem dX7_counted_57 : decode cX7_counted 57 = .ok (.iconst 3, 1) := by decide +kernel
theorem dX7_counted_58 : decode cX7_counted 58 = .ok (.iaload, 1) := by decide +kernel
theorem dX7_counted_59 : decode cX7_counted 59 = .ok (.aload_n 0, 1) := by decide +kernel
theorem dX7_counted_60 : decode cX7_counted 60 = .ok (.getfield 7, 3) := by decide +kernel
theorem dX7_counted_63 : decode cX7_counted 63 = .ok (.iconst 2, 1) := by decide +kernel
theorem dX7_counted_64 : decode cX7_counted 64 = .ok (.iaload, 1) := by decide +kernel
theorem dX7_counted_65 : decode cX7_counted 65 = .ok (.isub, 1) := by decide +kernel
theorem dX7_counted_66 : decode cX7_counted 66 = .ok (.ireturn, 1) := by decide +kernel
theorem dX7_counted_67 : decode cX7_counted 67 = .ok (.aload_n 0, 1) := by decide +kernel
theorem dX7_counted_68 : decode cX7_counted 68 = .ok (.getfield 7, 3) := by decide +kernel
theorem dX7_counted_71 : decode cX7_counted 71 = .ok (.bipush 100, 2) := by decide +kernel
theorem dX7_counted_73 : decode cX7_counted 73 = .ok (.iaload, 1) := by decide +kernel
theorem dX7_counted_74 : decode cX7_counted 74 = .ok (.ireturn, 1) := by decide +kernel
theorem dX7_counted_75 : decode cX7_counted 75 = .ok (.aload_n 0, 1) := by decide +kernel
theorem dX7_counted_76 : decode cX7_counted 76 = .ok (.getfield 271, 3) := by decide +kernel
theorem dX7_counted_79 : decode cX7_counted 79 = .ok (.ireturn, 1) := by decide +kernel
theorem dX7_count_0 : decode cX7_count 0 = .ok (.iload_n 1, 1) := by decide +kernel
theorem dX7_count_1 : decode cX7_count 1 = .ok (.i2l, 1) := by decide +kernel
theorem dX7_count_2 : decode cX7_count 2 = .ok (.lconst 0, 1) := by decide +kernel
theorem dX7_count_3 : decode cX7_count 3 = .ok (.ldc2_w 84, 3) := by decide +kernel
theorem dX7_count_6 : decode cX7_count 6 = .ok (.invokestatic 68, 3) := by decide +kernel
theorem dX7_count_9 : decode cX7_count 9 = .ok (.ifCond .eq 11, 3) := by decide +kernel
theorem dX7_count_12 : decode cX7_count 12 = .ok (.aload_n 0, 1) := by decide +kernel
theorem dX7_count_13 : decode cX7_count 13 = .ok (.iload_n 1, 1) := by decide +kernel
theorem dX7_count_14 : decode cX7_count 14 = .ok (.invokevirtual 329, 3) := by decide +kernel
theorem dX7_count_17 : decode cX7_count 17 = .ok (.goto 9, 3) := by decide +kernel
theorem dX7_count_20 : decode cX7_count 20 = .ok (.aload_n 0, 1) := by decide +kernel
theorem dX7_count_21 : decode cX7_count 21 = .ok (.bipush (-2), 2) := by decide +kernel
theorem dX7_count_23 : decode cX7_count 23 = .ok (.invokevirtual 76, 3) := by decide +kernel
theorem dX7_count_26 : decode cX7_count 26 = .ok (.ireturn, 1) := by decide +kernel
theorem dX7_sums_0 : decode cX7_sums 0 = .ok (.lload_n 1, 1) := by decide +kernel
theorem dX7_sums_1 : decode cX7_sums 1 = .ok (.lstore 5, 2) := by decide +kernel
theorem dX7_sums_3 : decode cX7_sums 3 = .ok (.iconst 0, 1) := by decide +kernel
theorem dX7_sums_4 : decode cX7_sums 4 = .ok (.istore 7, 2) := by decide +kernel
theorem dX7_sums_6 : decode cX7_sums 6 = .ok (.iload 7, 2) := by decide +kernel
theorem dX7_sums_8 : decode cX7_sums 8 = .ok (.iload 4, 2) := by decide +kernel
theorem dX7_sums_10 : decode cX7_sums 10 = .ok (.if_icmp .ge 28, 3) := by decide +kernel
theorem dX7_sums_13 : decode cX7_sums 13 = .ok (.ldc2_w 332, 3) := by decide +kernel
theorem dX7_sums_16 : decode cX7_sums 16 = .ok (.lload 5, 2) := by decide +kernel
theorem dX7_sums_18 : decode cX7_sums 18 = .ok (.lmul, 1) := by decide +kernel
theorem dX7_sums_19 : decode cX7_sums 19 = .ok (.aload_n 0, 1) := by decide +kernel
theorem dX7_sums_20 : decode cX7_sums 20 = .ok (.getfield 7, 3) := by decide +kernel
theorem dX7_sums_23 : decode cX7_sums 23 = .ok (.iload_n 3, 1) := by decide +kernel
theorem dX7_sums_24 : decode cX7_sums 24 = .ok (.iload 7, 2) := by decide +kernel
theorem dX7_sums_26 : decode cX7_sums 26 = .ok (.iadd, 1) := by decide +kernel
theorem dX7_sums_27 : decode cX7_sums 27 = .ok (.iaload, 1) := by decide +kernel
theorem dX7_sums_28 : decode cX7_sums 28 = .ok (.i2l, 1) := by decide +kernel
theorem dX7_sums_29 : decode cX7_sums 29 = .ok (.ladd, 1) := by decide +kernel
theorem dX7_sums_30 : decode cX7_sums 30 = .ok (.lstore 5, 2) := by decide +kernel
theorem dX7_sums_32 : decode cX7_sums 32 = .ok (.iinc 7 1, 3) := by decide +kernel
theorem dX7_sums_35 : decode cX7_sums 35 = .ok (.goto (-29), 3) := by decide +kernel
theorem dX7_sums_38 : decode cX7_sums 38 = .ok (.lload 5, 2) := by decide +kernel
theorem dX7_sums_40 : decode cX7_sums 40 = .ok (.lreturn, 1) := by decide +kernel
theorem dX7_digest_0 : decode cX7_digest 0 = .ok (.ldc2_w 334, 3) := by decide +kernel
theorem dX7_digest_3 : decode cX7_digest 3 = .ok (.lstore_n 1, 1) := by decide +kernel
theorem dX7_digest_4 : decode cX7_digest 4 = .ok (.iconst 0, 1) := by decide +kernel
theorem dX7_digest_5 : decode cX7_digest 5 = .ok (.istore_n 3, 1) := by decide +kernel
theorem dX7_digest_6 : decode cX7_digest 6 = .ok (.iload_n 3, 1) := by decide +kernel
theorem dX7_digest_7 : decode cX7_digest 7 = .ok (.bipush 6, 2) := by decide +kernel
theorem dX7_digest_9 : decode cX7_digest 9 = .ok (.if_icmp .ge 22, 3) := by decide +kernel
theorem dX7_digest_12 : decode cX7_digest 12 = .ok (.ldc2_w 332, 3) := by decide +kernel
theorem dX7_digest_15 : decode cX7_digest 15 = .ok (.lload_n 1, 1) := by decide +kernel
theorem dX7_digest_16 : decode cX7_digest 16 = .ok (.lmul, 1) := by decide +kernel
theorem dX7_digest_17 : decode cX7_digest 17 = .ok (.aload_n 0, 1) := by decide +kernel
theorem dX7_digest_18 : decode cX7_digest 18 = .ok (.iload_n 3, 1) := by decide +kernel
theorem dX7_digest_19 : decode cX7_digest 19 = .ok (.invokevirtual 329, 3) := by decide +kernel
theorem dX7_digest_22 : decode cX7_digest 22 = .ok (.i2l, 1) := by decide +kernel
theorem dX7_digest_23 : decode cX7_digest 23 = .ok (.ladd, 1) := by decide +kernel
theorem dX7_digest_24 : decode cX7_digest 24 = .ok (.lstore_n 1, 1) := by decide +kernel
theorem dX7_digest_25 : decode cX7_digest 25 = .ok (.iinc 3 1, 3) := by decide +kernel
theorem dX7_digest_28 : decode cX7_digest 28 = .ok (.goto (-22), 3) := by decide +kernel
theorem dX7_digest_31 : decode cX7_digest 31 = .ok (.aload_n 0, 1) := by decide +kernel
theorem dX7_digest_32 : decode cX7_digest 32 = .ok (.lload_n 1, 1) := by decide +kernel
theorem dX7_digest_33 : decode cX7_digest 33 = .ok (.iconst 4, 1) := by decide +kernel
theorem dX7_digest_34 : decode cX7_digest 34 = .ok (.bipush 12, 2) := by decide +kernel
theorem dX7_digest_36 : decode cX7_digest 36 = .ok (.invokevirtual 336, 3) := by decide +kernel
theorem dX7_digest_39 : decode cX7_digest 39 = .ok (.lstore_n 1, 1) := by decide +kernel
theorem dX7_digest_40 : decode cX7_digest 40 = .ok (.ldc2_w 332, 3) := by decide +kernel
theorem dX7_digest_43 : decode cX7_digest 43 = .ok (.ldc2_w 332, 3) := by decide +kernel
theorem dX7_digest_46 : decode cX7_digest 46 = .ok (.lload_n 1, 1) := by decide +kernel
theorem dX7_digest_47 : decode cX7_digest 47 = .ok (.lmul, 1) := by decide +kernel
theorem dX7_digest_48 : decode cX7_digest 48 = .ok (.aload_n 0, 1) := by decide +kernel
theorem dX7_digest_49 : decode cX7_digest 49 = .ok (.getfield 7, 3) := by decide +kernel
theorem dX7_digest_52 : decode cX7_digest 52 = .ok (.iconst 2, 1) := by decide +kernel
theorem dX7_digest_53 : decode cX7_digest 53 = .ok (.iaload, 1) := by decide +kernel
theorem dX7_digest_54 : decode cX7_digest 54 = .ok (.i2l, 1) := by decide +kernel
theorem dX7_digest_55 : decode cX7_digest 55 = .ok (.ladd, 1) := by decide +kernel
theorem dX7_digest_56 : decode cX7_digest 56 = .ok (.lmul, 1) := by decide +kernel
theorem dX7_digest_57 : decode cX7_digest 57 = .ok (.aload_n 0, 1) := by decide +kernel
theorem dX7_digest_58 : decode cX7_digest 58 = .ok (.getfield 7, 3) := by decide +kernel
theorem dX7_digest_61 : decode cX7_digest 61 = .ok (.iconst 3, 1) := by decide +kernel
theorem dX7_digest_62 : decode cX7_digest 62 = .ok (.iaload, 1) := by decide +kernel
theorem dX7_digest_63 : decode cX7_digest 63 = .ok (.i2l, 1) := by decide +kernel
theorem dX7_digest_64 : decode cX7_digest 64 = .ok (.ladd, 1) := by decide +kernel
theorem dX7_digest_65 : decode cX7_digest 65 = .ok (.lstore_n 1, 1) := by decide +kernel
theorem dX7_digest_66 : decode cX7_digest 66 = .ok (.aload_n 0, 1) := by decide +kernel
theorem dX7_digest_67 : decode cX7_digest 67 = .ok (.lload_n 1, 1) := by decide +kernel
theorem dX7_digest_68 : decode cX7_digest 68 = .ok (.bipush 16, 2) := by decide +kernel
theorem dX7_digest_70 : decode cX7_digest 70 = .ok (.bipush 7, 2) := by decide +kernel
theorem dX7_digest_72 : decode cX7_digest 72 = .ok (.aload_n 0, 1) := by decide +kernel
theorem dX7_digest_73 : decode cX7_digest 73 = .ok (.invokevirtual 64, 3) := by decide +kernel
theorem dX7_digest_76 : decode cX7_digest 76 = .ok (.imul, 1) := by decide +kernel
theorem dX7_digest_77 : decode cX7_digest 77 = .ok (.invokevirtual 336, 3) := by decide +kernel
theorem dX7_digest_80 : decode cX7_digest 80 = .ok (.lstore_n 1, 1) := by decide +kernel
theorem dX7_digest_81 : decode cX7_digest 81 = .ok (.ldc2_w 332, 3) := by decide +kernel
theorem dX7_digest_84 : decode cX7_digest 84 = .ok (.ldc2_w 332, 3) := by decide +kernel
theorem dX7_digest_87 : decode cX7_digest 87 = .ok (.lload_n 1, 1) := by decide +kernel
theorem dX7_digest_88 : decode cX7_digest 88 = .ok (.lmul, 1) := by decide +kernel
theorem dX7_digest_89 : decode cX7_digest 89 = .ok (.aload_n 0, 1) := by decide +kernel
theorem dX7_digest_90 : decode cX7_digest 90 = .ok (.getfield 244, 3) := by decide +kernel
theorem dX7_digest_93 : decode cX7_digest 93 = .ok (.ladd, 1) := by decide +kernel
theorem dX7_digest_94 : decode cX7_digest 94 = .ok (.lmul, 1) := by decide +kernel
theorem dX7_digest_95 : decode cX7_digest 95 = .ok (.aload_n 0, 1) := by decide +kernel
theorem dX7_digest_96 : decode cX7_digest 96 = .ok (.getfield 23, 3) := by decide +kernel
theorem dX7_digest_99 : decode cX7_digest 99 = .ok (.ladd, 1) := by decide +kernel
theorem dX7_digest_100 : decode cX7_digest 100 = .ok (.lreturn, 1) := by decide +kernel
theorem dL_law_0 : decode cL_law 0 = .ok (.new 7, 3) := by decide +kernel
theorem dL_law_3 : decode cL_law 3 = .ok (.dup, 1) := by decide +kernel
theorem dL_law_4 : decode cL_law 4 = .ok (.invokespecial 9, 3) := by decide +kernel
theorem dL_law_7 : decode cL_law 7 = .ok (.astore_n 1, 1) := by decide +kernel
theorem dL_law_8 : decode cL_law 8 = .ok (.new 10, 3) := by decide +kernel
theorem dL_law_11 : decode cL_law 11 = .ok (.dup, 1) := by decide +kernel
theorem dL_law_12 : decode cL_law 12 = .ok (.invokespecial 12, 3) := by decide +kernel
theorem dL_law_15 : decode cL_law 15 = .ok (.astore_n 2, 1) := by decide +kernel
theorem dL_law_16 : decode cL_law 16 = .ok (.iconst 0, 1) := by decide +kernel
theorem dL_law_17 : decode cL_law 17 = .ok (.istore_n 3, 1) := by decide +kernel
theorem dL_law_18 : decode cL_law 18 = .ok (.iload_n 3, 1) := by decide +kernel
theorem dL_law_19 : decode cL_law 19 = .ok (.aload_n 0, 1) := by decide +kernel
theorem dL_law_20 : decode cL_law 20 = .ok (.arraylength, 1) := by decide +kernel
theorem dL_law_21 : decode cL_law 21 = .ok (.bipush 7, 2) := by decide +kernel
theorem dL_law_23 : decode cL_law 23 = .ok (.isub, 1) := by decide +kernel
theorem dL_law_24 : decode cL_law 24 = .ok (.if_icmp .gt 1036, 3) := by decide +kernel
theorem dL_law_27 : decode cL_law 27 = .ok (.aload_n 0, 1) := by decide +kernel
theorem dL_law_28 : decode cL_law 28 = .ok (.iload_n 3, 1) := by decide +kernel
theorem dL_law_29 : decode cL_law 29 = .ok (.iaload, 1) := by decide +kernel
theorem dL_law_30 : decode cL_law 30 = .ok (.bipush 31, 2) := by decide +kernel
theorem dL_law_32 : decode cL_law 32 = .ok (.iand, 1) := by decide +kernel
theorem dL_law_33 : decode cL_law 33 = .ok (.tableswitch 1021 0 31 #[143, 166, 219, 294, 317, 330, 343, 376, 389, 422, 455, 488, 521, 554, 567, 600, 633, 656, 679, 722, 735, 748, 781, 814, 847, 860, 893, 916, 939, 962, 985, 1008], 143) := by decide +kernel
theorem dL_law_176 : decode cL_law 176 = .ok (.aload_n 1, 1) := by decide +kernel
theorem dL_law_177 : decode cL_law 177 = .ok (.aload_n 0, 1) := by decide +kernel
theorem dL_law_178 : decode cL_law 178 = .ok (.iload_n 3, 1) := by decide +kernel
theorem dL_law_179 : decode cL_law 179 = .ok (.iconst 1, 1) := by decide +kernel
theorem dL_law_180 : decode cL_law 180 = .ok (.iadd, 1) := by decide +kernel
theorem dL_law_181 : decode cL_law 181 = .ok (.iaload, 1) := by decide +kernel
theorem dL_law_182 : decode cL_law 182 = .ok (.invokevirtual 13, 3) := by decide +kernel
theorem dL_law_185 : decode cL_law 185 = .ok (.pop, 1) := by decide +kernel
theorem dL_law_186 : decode cL_law 186 = .ok (.aload_n 2, 1) := by decide +kernel
theorem dL_law_187 : decode cL_law 187 = .ok (.aload_n 0, 1) := by decide +kernel
theorem dL_law_188 : decode cL_law 188 = .ok (.iload_n 3, 1) := by decide +kernel
theorem dL_law_189 : decode cL_law 189 = .ok (.iconst 1, 1) := by decide +kernel
theorem dL_law_190 : decode cL_law 190 = .ok (.iadd, 1) := by decide +kernel
theorem dL_law_191 : decode cL_law 191 = .ok (.iaload, 1) := by decide +kernel
theorem dL_law_192 : decode cL_law 192 = .ok (.invokevirtual 17, 3) := by decide +kernel
theorem dL_law_195 : decode cL_law 195 = .ok (.pop, 1) := by decide +kernel
theorem dL_law_196 : decode cL_law 196 = .ok (.goto 858, 3) := by decide +kernel
theorem dL_law_199 : decode cL_law 199 = .ok (.aload_n 1, 1) := by decide +kernel
theorem dL_law_200 : decode cL_law 200 = .ok (.aload_n 0, 1) := by decide +kernel
theorem dL_law_201 : decode cL_law 201 = .ok (.iload_n 3, 1) := by decide +kernel
theorem dL_law_202 : decode cL_law 202 = .ok (.iconst 1, 1) := by decide +kernel
theorem dL_law_203 : decode cL_law 203 = .ok (.iadd, 1) := by decide +kernel
theorem dL_law_204 : decode cL_law 204 = .ok (.iaload, 1) := by decide +kernel
theorem dL_law_205 : decode cL_law 205 = .ok (.aload_n 0, 1) := by decide +kernel
theorem dL_law_206 : decode cL_law 206 = .ok (.iload_n 3, 1) := by decide +kernel
theorem dL_law_207 : decode cL_law 207 = .ok (.iconst 2, 1) := by decide +kernel
theorem dL_law_208 : decode cL_law 208 = .ok (.iadd, 1) := by decide +kernel
theorem dL_law_209 : decode cL_law 209 = .ok (.iaload, 1) := by decide +kernel
theorem dL_law_210 : decode cL_law 210 = .ok (.aload_n 0, 1) := by decide +kernel
theorem dL_law_211 : decode cL_law 211 = .ok (.iload_n 3, 1) := by decide +kernel
theorem dL_law_212 : decode cL_law 212 = .ok (.iconst 3, 1) := by decide +kernel
theorem dL_law_213 : decode cL_law 213 = .ok (.iadd, 1) := by decide +kernel
theorem dL_law_214 : decode cL_law 214 = .ok (.iaload, 1) := by decide +kernel
theorem dL_law_215 : decode cL_law 215 = .ok (.aload_n 0, 1) := by decide +kernel
theorem dL_law_216 : decode cL_law 216 = .ok (.iload_n 3, 1) := by decide +kernel
theorem dL_law_217 : decode cL_law 217 = .ok (.iconst 4, 1) := by decide +kernel
theorem dL_law_218 : decode cL_law 218 = .ok (.iadd, 1) := by decide +kernel
theorem dL_law_219 : decode cL_law 219 = .ok (.iaload, 1) := by decide +kernel
theorem dL_law_220 : decode cL_law 220 = .ok (.invokevirtual 18, 3) := by decide +kernel
theorem dL_law_223 : decode cL_law 223 = .ok (.pop, 1) := by decide +kernel
theorem dL_law_224 : decode cL_law 224 = .ok (.aload_n 2, 1) := by decide +kernel
theorem dL_law_225 : decode cL_law 225 = .ok (.aload_n 0, 1) := by decide +kernel
theorem dL_law_226 : decode cL_law 226 = .ok (.iload_n 3, 1) := by decide +kernel
theorem dL_law_227 : decode cL_law 227 = .ok (.iconst 1, 1) := by decide +kernel
theorem dL_law_228 : decode cL_law 228 = .ok (.iadd, 1) := by decide +kernel
theorem dL_law_229 : decode cL_law 229 = .ok (.iaload, 1) := by decide +kernel
theorem dL_law_230 : decode cL_law 230 = .ok (.aload_n 0, 1) := by decide +kernel
theorem dL_law_231 : decode cL_law 231 = .ok (.iload_n 3, 1) := by decide +kernel
theorem dL_law_232 : decode cL_law 232 = .ok (.iconst 2, 1) := by decide +kernel
theorem dL_law_233 : decode cL_law 233 = .ok (.iadd, 1) := by decide +kernel
theorem dL_law_234 : decode cL_law 234 = .ok (.iaload, 1) := by decide +kernel
theorem dL_law_235 : decode cL_law 235 = .ok (.aload_n 0, 1) := by decide +kernel
theorem dL_law_236 : decode cL_law 236 = .ok (.iload_n 3, 1) := by decide +kernel
theorem dL_law_237 : decode cL_law 237 = .ok (.iconst 3, 1) := by decide +kernel
theorem dL_law_238 : decode cL_law 238 = .ok (.iadd, 1) := by decide +kernel
theorem dL_law_239 : decode cL_law 239 = .ok (.iaload, 1) := by decide +kernel
theorem dL_law_240 : decode cL_law 240 = .ok (.aload_n 0, 1) := by decide +kernel
theorem dL_law_241 : decode cL_law 241 = .ok (.iload_n 3, 1) := by decide +kernel
theorem dL_law_242 : decode cL_law 242 = .ok (.iconst 4, 1) := by decide +kernel
theorem dL_law_243 : decode cL_law 243 = .ok (.iadd, 1) := by decide +kernel
theorem dL_law_244 : decode cL_law 244 = .ok (.iaload, 1) := by decide +kernel
theorem dL_law_245 : decode cL_law 245 = .ok (.invokevirtual 22, 3) := by decide +kernel
theorem dL_law_248 : decode cL_law 248 = .ok (.pop, 1) := by decide +kernel
theorem dL_law_249 : decode cL_law 249 = .ok (.goto 805, 3) := by decide +kernel
theorem dL_law_252 : decode cL_law 252 = .ok (.aload_n 1, 1) := by decide +kernel
theorem dL_law_253 : decode cL_law 253 = .ok (.aload_n 0, 1) := by decide +kernel
theorem dL_law_254 : decode cL_law 254 = .ok (.iload_n 3, 1) := by decide +kernel
theorem dL_law_255 : decode cL_law 255 = .ok (.iconst 1, 1) := by decide +kernel
theorem dL_law_256 : decode cL_law 256 = .ok (.iadd, 1) := by decide +kernel
theorem dL_law_257 : decode cL_law 257 = .ok (.iaload, 1) := by decide +kernel
theorem dL_law_258 : decode cL_law 258 = .ok (.aload_n 0, 1) := by decide +kernel
theorem dL_law_259 : decode cL_law 259 = .ok (.iload_n 3, 1) := by decide +kernel
theorem dL_law_260 : decode cL_law 260 = .ok (.iconst 2, 1) := by decide +kernel
theorem dL_law_261 : decode cL_law 261 = .ok (.iadd, 1) := by decide +kernel
theorem dL_law_262 : decode cL_law 262 = .ok (.iaload, 1) := by decide +kernel
theorem dL_law_263 : decode cL_law 263 = .ok (.aload_n 0, 1) := by decide +kernel
theorem dL_law_264 : decode cL_law 264 = .ok (.iload_n 3, 1) := by decide +kernel
theorem dL_law_265 : decode cL_law 265 = .ok (.iconst 3, 1) := by decide +kernel
theorem dL_law_266 : decode cL_law 266 = .ok (.iadd, 1) := by decide +kernel
theorem dL_law_267 : decode cL_law 267 = .ok (.iaload, 1) := by decide +kernel
theorem dL_law_268 : decode cL_law 268 = .ok (.aload_n 0, 1) := by decide +kernel
theorem dL_law_269 : decode cL_law 269 = .ok (.iload_n 3, 1) := by decide +kernel
theorem dL_law_270 : decode cL_law 270 = .ok (.iconst 4, 1) := by decide +kernel
theorem dL_law_271 : decode cL_law 271 = .ok (.iadd, 1) := by decide +kernel
theorem dL_law_272 : decode cL_law 272 = .ok (.iaload, 1) := by decide +kernel
theorem dL_law_273 : decode cL_law 273 = .ok (.aload_n 0, 1) := by decide +kernel
theorem dL_law_274 : decode cL_law 274 = .ok (.iload_n 3, 1) := by decide +kernel
theorem dL_law_275 : decode cL_law 275 = .ok (.iconst 5, 1) := by decide +kernel
theorem dL_law_276 : decode cL_law 276 = .ok (.iadd, 1) := by decide +kernel
theorem dL_law_277 : decode cL_law 277 = .ok (.iaload, 1) := by decide +kernel
theorem dL_law_278 : decode cL_law 278 = .ok (.aload_n 0, 1) := by decide +kernel
theorem dL_law_279 : decode cL_law 279 = .ok (.iload_n 3, 1) := by decide +kernel
theorem dL_law_280 : decode cL_law 280 = .ok (.bipush 6, 2) := by decide +kernel
theorem dL_law_282 : decode cL_law 282 = .ok (.iadd, 1) := by decide +kernel
theorem dL_law_283 : decode cL_law 283 = .ok (.iaload, 1) := by decide +kernel
theorem dL_law_284 : decode cL_law 284 = .ok (.invokevirtual 23, 3) := by decide +kernel
theorem dL_law_287 : decode cL_law 287 = .ok (.pop, 1) := by decide +kernel
theorem dL_law_288 : decode cL_law 288 = .ok (.aload_n 2, 1) := by decide +kernel
theorem dL_law_289 : decode cL_law 289 = .ok (.aload_n 0, 1) := by decide +kernel
theorem dL_law_290 : decode cL_law 290 = .ok (.iload_n 3, 1) := by decide +kernel
theorem dL_law_291 : decode cL_law 291 = .ok (.iconst 1, 1) := by decide +kernel
theorem dL_law_292 : decode cL_law 292 = .ok (.iadd, 1) := by decide +kernel
theorem dL_law_293 : decode cL_law 293 = .ok (.iaload, 1) := by decide +kernel
theorem dL_law_294 : decode cL_law 294 = .ok (.aload_n 0, 1) := by decide +kernel
theorem dL_law_295 : decode cL_law 295 = .ok (.iload_n 3, 1) := by decide +kernel
theorem dL_law_296 : decode cL_law 296 = .ok (.iconst 2, 1) := by decide +kernel
theorem dL_law_297 : decode cL_law 297 = .ok (.iadd, 1) := by decide +kernel
theorem dL_law_298 : decode cL_law 298 = .ok (.iaload, 1) := by decide +kernel
theorem dL_law_299 : decode cL_law 299 = .ok (.aload_n 0, 1) := by decide +kernel
theorem dL_law_300 : decode cL_law 300 = .ok (.iload_n 3, 1) := by decide +kernel
theorem dL_law_301 : decode cL_law 301 = .ok (.iconst 3, 1) := by decide +kernel
theorem dL_law_302 : decode cL_law 302 = .ok (.iadd, 1) := by decide +kernel
theorem dL_law_303 : decode cL_law 303 = .ok (.iaload, 1) := by decide +kernel
theorem dL_law_304 : decode cL_law 304 = .ok (.aload_n 0, 1) := by decide +kernel
theorem dL_law_305 : decode cL_law 305 = .ok (.iload_n 3, 1) := by decide +kernel
theorem dL_law_306 : decode cL_law 306 = .ok (.iconst 4, 1) := by decide +kernel
theorem dL_law_307 : decode cL_law 307 = .ok (.iadd, 1) := by decide +kernel
theorem dL_law_308 : decode cL_law 308 = .ok (.iaload, 1) := by decide +kernel
theorem dL_law_309 : decode cL_law 309 = .ok (.aload_n 0, 1) := by decide +kernel
theorem dL_law_310 : decode cL_law 310 = .ok (.iload_n 3, 1) := by decide +kernel
theorem dL_law_311 : decode cL_law 311 = .ok (.iconst 5, 1) := by decide +kernel
theorem dL_law_312 : decode cL_law 312 = .ok (.iadd, 1) := by decide +kernel
theorem dL_law_313 : decode cL_law 313 = .ok (.iaload, 1) := by decide +kernel
theorem dL_law_314 : decode cL_law 314 = .ok (.aload_n 0, 1) := by decide +kernel
theorem dL_law_315 : decode cL_law 315 = .ok (.iload_n 3, 1) := by decide +kernel
theorem dL_law_316 : decode cL_law 316 = .ok (.bipush 6, 2) := by decide +kernel
theorem dL_law_318 : decode cL_law 318 = .ok (.iadd, 1) := by decide +kernel
theorem dL_law_319 : decode cL_law 319 = .ok (.iaload, 1) := by decide +kernel
theorem dL_law_320 : decode cL_law 320 = .ok (.invokevirtual 27, 3) := by decide +kernel
theorem dL_law_323 : decode cL_law 323 = .ok (.pop, 1) := by decide +kernel
theorem dL_law_324 : decode cL_law 324 = .ok (.goto 730, 3) := by decide +kernel
theorem dL_law_327 : decode cL_law 327 = .ok (.aload_n 1, 1) := by decide +kernel
theorem dL_law_328 : decode cL_law 328 = .ok (.aload_n 0, 1) := by decide +kernel
theorem dL_law_329 : decode cL_law 329 = .ok (.iload_n 3, 1) := by decide +kernel
theorem dL_law_330 : decode cL_law 330 = .ok (.iconst 1, 1) := by decide +kernel
theorem dL_law_331 : decode cL_law 331 = .ok (.iadd, 1) := by decide +kernel
theorem dL_law_332 : decode cL_law 332 = .ok (.iaload, 1) := by decide +kernel
theorem dL_law_333 : decode cL_law 333 = .ok (.invokevirtual 28, 3) := by decide +kernel
theorem dL_law_336 : decode cL_law 336 = .ok (.pop, 1) := by decide +kernel
theorem dL_law_337 : decode cL_law 337 = .ok (.aload_n 2, 1) := by decide +kernel
theorem dL_law_338 : decode cL_law 338 = .ok (.aload_n 0, 1) := by decide +kernel
theorem dL_law_339 : decode cL_law 339 = .ok (.iload_n 3, 1) := by decide +kernel
theorem dL_law_340 : decode cL_law 340 = .ok (.iconst 1, 1) := by decide +kernel
theorem dL_law_341 : decode cL_law 341 = .ok (.iadd, 1) := by decide +kernel
theorem dL_law_342 : decode cL_law 342 = .ok (.iaload, 1) := by decide +kernel
theorem dL_law_343 : decode cL_law 343 = .ok (.invokevirtual 31, 3) := by decide +kernel
theorem dL_law_346 : decode cL_law 346 = .ok (.pop, 1) := by decide +kernel
theorem dL_law_347 : decode cL_law 347 = .ok (.goto 707, 3) := by decide +kernel
theorem dL_law_350 : decode cL_law 350 = .ok (.aload_n 1, 1) := by decide +kernel
theorem dL_law_351 : decode cL_law 351 = .ok (.invokevirtual 32, 3) := by decide +kernel
theorem dL_law_354 : decode cL_law 354 = .ok (.pop, 1) := by decide +kernel
theorem dL_law_355 : decode cL_law 355 = .ok (.aload_n 2, 1) := by decide +kernel
theorem dL_law_356 : decode cL_law 356 = .ok (.invokevirtual 36, 3) := by decide +kernel
theorem dL_law_359 : decode cL_law 359 = .ok (.pop, 1) := by decide +kernel
theorem dL_law_360 : decode cL_law 360 = .ok (.goto 694, 3) := by decide +kernel
theorem dL_law_363 : decode cL_law 363 = .ok (.aload_n 1, 1) := by decide +kernel
theorem dL_law_364 : decode cL_law 364 = .ok (.invokevirtual 37, 3) := by decide +kernel
theorem dL_law_367 : decode cL_law 367 = .ok (.pop, 1) := by decide +kernel
theorem dL_law_368 : decode cL_law 368 = .ok (.aload_n 2, 1) := by decide +kernel
theorem dL_law_369 : decode cL_law 369 = .ok (.invokevirtual 40, 3) := by decide +kernel
theorem dL_law_372 : decode cL_law 372 = .ok (.pop, 1) := by decide +kernel
theorem dL_law_373 : decode cL_law 373 = .ok (.goto 681, 3) := by decide +kernel
theorem dL_law_376 : decode cL_law 376 = .ok (.aload_n 1, 1) := by decide +kernel
theorem dL_law_377 : decode cL_law 377 = .ok (.aload_n 0, 1) := by decide +kernel
theorem dL_law_378 : decode cL_law 378 = .ok (.iload_n 3, 1) := by decide +kernel
theorem dL_law_379 : decode cL_law 379 = .ok (.iconst 1, 1) := by decide +kernel
theorem dL_law_380 : decode cL_law 380 = .ok (.iadd, 1) := by decide +kernel
theorem dL_law_381 : decode cL_law 381 = .ok (.iaload, 1) := by decide +kernel
theorem dL_law_382 : decode cL_law 382 = .ok (.aload_n 0, 1) := by decide +kernel
theorem dL_law_383 : decode cL_law 383 = .ok (.iload_n 3, 1) := by decide +kernel
theorem dL_law_384 : decode cL_law 384 = .ok (.iconst 2, 1) := by decide +kernel
theorem dL_law_385 : decode cL_law 385 = .ok (.iadd, 1) := by decide +kernel
theorem dL_law_386 : decode cL_law 386 = .ok (.iaload, 1) := by decide +kernel
theorem dL_law_387 : decode cL_law 387 = .ok (.invokevirtual 41, 3) := by decide +kernel
theorem dL_law_390 : decode cL_law 390 = .ok (.pop, 1) := by decide +kernel
theorem dL_law_391 : decode cL_law 391 = .ok (.aload_n 2, 1) := by decide +kernel
theorem dL_law_392 : decode cL_law 392 = .ok (.aload_n 0, 1) := by decide +kernel
theorem dL_law_393 : decode cL_law 393 = .ok (.iload_n 3, 1) := by decide +kernel
theorem dL_law_394 : decode cL_law 394 = .ok (.iconst 1, 1) := by decide +kernel
theorem dL_law_395 : decode cL_law 395 = .ok (.iadd, 1) := by decide +kernel
theorem dL_law_396 : decode cL_law 396 = .ok (.iaload, 1) := by decide +kernel
theorem dL_law_397 : decode cL_law 397 = .ok (.aload_n 0, 1) := by decide +kernel
theorem dL_law_398 : decode cL_law 398 = .ok (.iload_n 3, 1) := by decide +kernel
theorem dL_law_399 : decode cL_law 399 = .ok (.iconst 2, 1) := by decide +kernel
theorem dL_law_400 : decode cL_law 400 = .ok (.iadd, 1) := by decide +kernel
theorem dL_law_401 : decode cL_law 401 = .ok (.iaload, 1) := by decide +kernel
theorem dL_law_402 : decode cL_law 402 = .ok (.invokevirtual 45, 3) := by decide +kernel
theorem dL_law_405 : decode cL_law 405 = .ok (.pop, 1) := by decide +kernel
theorem dL_law_406 : decode cL_law 406 = .ok (.goto 648, 3) := by decide +kernel
theorem dL_law_409 : decode cL_law 409 = .ok (.aload_n 1, 1) := by decide +kernel
theorem dL_law_410 : decode cL_law 410 = .ok (.invokevirtual 46, 3) := by decide +kernel
theorem dL_law_413 : decode cL_law 413 = .ok (.pop, 1) := by decide +kernel
theorem dL_law_414 : decode cL_law 414 = .ok (.aload_n 2, 1) := by decide +kernel
theorem dL_law_415 : decode cL_law 415 = .ok (.invokevirtual 49, 3) := by decide +kernel
theorem dL_law_418 : decode cL_law 418 = .ok (.pop, 1) := by decide +kernel
theorem dL_law_419 : decode cL_law 419 = .ok (.goto 635, 3) := by decide +kernel
theorem dL_law_422 : decode cL_law 422 = .ok (.aload_n 1, 1) := by decide +kernel
theorem dL_law_423 : decode cL_law 423 = .ok (.aload_n 0, 1) := by decide +kernel
theorem dL_law_424 : decode cL_law 424 = .ok (.iload_n 3, 1) := by decide +kernel
theorem dL_law_425 : decode cL_law 425 = .ok (.iconst 1, 1) := by decide +kernel
theorem dL_law_426 : decode cL_law 426 = .ok (.iadd, 1) := by decide +kernel
theorem dL_law_427 : decode cL_law 427 = .ok (.iaload, 1) := by decide +kernel
theorem dL_law_428 : decode cL_law 428 = .ok (.aload_n 0, 1) := by decide +kernel
theorem dL_law_429 : decode cL_law 429 = .ok (.iload_n 3, 1) := by decide +kernel
theorem dL_law_430 : decode cL_law 430 = .ok (.iconst 2, 1) := by decide +kernel
theorem dL_law_431 : decode cL_law 431 = .ok (.iadd, 1) := by decide +kernel
theorem dL_law_432 : decode cL_law 432 = .ok (.iaload, 1) := by decide +kernel
theorem dL_law_433 : decode cL_law 433 = .ok (.invokevirtual 50, 3) := by decide +kernel
theorem dL_law_436 : decode cL_law 436 = .ok (.pop, 1) := by decide +kernel
theorem dL_law_437 : decode cL_law 437 = .ok (.aload_n 2, 1) := by decide +kernel
theorem dL_law_438 : decode cL_law 438 = .ok (.aload_n 0, 1) := by decide +kernel
theorem dL_law_439 : decode cL_law 439 = .ok (.iload_n 3, 1) := by decide +kernel
theorem dL_law_440 : decode cL_law 440 = .ok (.iconst 1, 1) := by decide +kernel
theorem dL_law_441 : decode cL_law 441 = .ok (.iadd, 1) := by decide +kernel
theorem dL_law_442 : decode cL_law 442 = .ok (.iaload, 1) := by decide +kernel
theorem dL_law_443 : decode cL_law 443 = .ok (.aload_n 0, 1) := by decide +kernel
theorem dL_law_444 : decode cL_law 444 = .ok (.iload_n 3, 1) := by decide +kernel
theorem dL_law_445 : decode cL_law 445 = .ok (.iconst 2, 1) := by decide +kernel
theorem dL_law_446 : decode cL_law 446 = .ok (.iadd, 1) := by decide +kernel
theorem dL_law_447 : decode cL_law 447 = .ok (.iaload, 1) := by decide +kernel
theorem dL_law_448 : decode cL_law 448 = .ok (.invokevirtual 53, 3) := by decide +kernel
theorem dL_law_451 : decode cL_law 451 = .ok (.pop, 1) := by decide +kernel
theorem dL_law_452 : decode cL_law 452 = .ok (.goto 602, 3) := by decide +kernel
theorem dL_law_455 : decode cL_law 455 = .ok (.aload_n 1, 1) := by decide +kernel
theorem dL_law_456 : decode cL_law 456 = .ok (.aload_n 0, 1) := by decide +kernel
theorem dL_law_457 : decode cL_law 457 = .ok (.iload_n 3, 1) := by decide +kernel
theorem dL_law_458 : decode cL_law 458 = .ok (.iconst 1, 1) := by decide +kernel
theorem dL_law_459 : decode cL_law 459 = .ok (.iadd, 1) := by decide +kernel
theorem dL_law_460 : decode cL_law 460 = .ok (.iaload, 1) := by decide +kernel
theorem dL_law_461 : decode cL_law 461 = .ok (.aload_n 0, 1) := by decide +kernel
theorem dL_law_462 : decode cL_law 462 = .ok (.iload_n 3, 1) := by decide +kernel
theorem dL_law_463 : decode cL_law 463 = .ok (.iconst 2, 1) := by decide +kernel
theorem dL_law_464 : decode cL_law 464 = .ok (.iadd, 1) := by decide +kernel
theorem dL_law_465 : decode cL_law 465 = .ok (.iaload, 1) := by decide +kernel
theorem dL_law_466 : decode cL_law 466 = .ok (.invokevirtual 54, 3) := by decide +kernel
theorem dL_law_469 : decode cL_law 469 = .ok (.pop, 1) := by decide +kernel
theorem dL_law_470 : decode cL_law 470 = .ok (.aload_n 2, 1) := by decide +kernel
theorem dL_law_471 : decode cL_law 471 = .ok (.aload_n 0, 1) := by decide +kernel
theorem dL_law_472 : decode cL_law 472 = .ok (.iload_n 3, 1) := by decide +kernel
theorem dL_law_473 : decode cL_law 473 = .ok (.iconst 1, 1) := by decide +kernel
theorem dL_law_474 : decode cL_law 474 = .ok (.iadd, 1) := by decide +kernel
theorem dL_law_475 : decode cL_law 475 = .ok (.iaload, 1) := by decide +kernel
theorem dL_law_476 : decode cL_law 476 = .ok (.aload_n 0, 1) := by decide +kernel
theorem dL_law_477 : decode cL_law 477 = .ok (.iload_n 3, 1) := by decide +kernel
theorem dL_law_478 : decode cL_law 478 = .ok (.iconst 2, 1) := by decide +kernel
theorem dL_law_479 : decode cL_law 479 = .ok (.iadd, 1) := by decide +kernel
theorem dL_law_480 : decode cL_law 480 = .ok (.iaload, 1) := by decide +kernel
theorem dL_law_481 : decode cL_law 481 = .ok (.invokevirtual 57, 3) := by decide +kernel
theorem dL_law_484 : decode cL_law 484 = .ok (.pop, 1) := by decide +kernel
theorem dL_law_485 : decode cL_law 485 = .ok (.goto 569, 3) := by decide +kernel
theorem dL_law_488 : decode cL_law 488 = .ok (.aload_n 1, 1) := by decide +kernel
theorem dL_law_489 : decode cL_law 489 = .ok (.aload_n 0, 1) := by decide +kernel
theorem dL_law_490 : decode cL_law 490 = .ok (.iload_n 3, 1) := by decide +kernel
theorem dL_law_491 : decode cL_law 491 = .ok (.iconst 1, 1) := by decide +kernel
theorem dL_law_492 : decode cL_law 492 = .ok (.iadd, 1) := by decide +kernel
theorem dL_law_493 : decode cL_law 493 = .ok (.iaload, 1) := by decide +kernel
theorem dL_law_494 : decode cL_law 494 = .ok (.aload_n 0, 1) := by decide +kernel
theorem dL_law_495 : decode cL_law 495 = .ok (.iload_n 3, 1) := by decide +kernel
theorem dL_law_496 : decode cL_law 496 = .ok (.iconst 2, 1) := by decide +kernel
theorem dL_law_497 : decode cL_law 497 = .ok (.iadd, 1) := by decide +kernel
theorem dL_law_498 : decode cL_law 498 = .ok (.iaload, 1) := by decide +kernel
theorem dL_law_499 : decode cL_law 499 = .ok (.invokevirtual 58, 3) := by decide +kernel
theorem dL_law_502 : decode cL_law 502 = .ok (.pop, 1) := by decide +kernel
theorem dL_law_503 : decode cL_law 503 = .ok (.aload_n 2, 1) := by decide +kernel
theorem dL_law_504 : decode cL_law 504 = .ok (.aload_n 0, 1) := by decide +kernel
theorem dL_law_505 : decode cL_law 505 = .ok (.iload_n 3, 1) := by decide +kernel
theorem dL_law_506 : decode cL_law 506 = .ok (.iconst 1, 1) := by decide +kernel
theorem dL_law_507 : decode cL_law 507 = .ok (.iadd, 1) := by decide +kernel
theorem dL_law_508 : decode cL_law 508 = .ok (.iaload, 1) := by decide +kernel
theorem dL_law_509 : decode cL_law 509 = .ok (.aload_n 0, 1) := by decide +kernel
theorem dL_law_510 : decode cL_law 510 = .ok (.iload_n 3, 1) := by decide +kernel
theorem dL_law_511 : decode cL_law 511 = .ok (.iconst 2, 1) := by decide +kernel
theorem dL_law_512 : decode cL_law 512 = .ok (.iadd, 1) := by decide +kernel
theorem dL_law_513 : decode cL_law 513 = .ok (.iaload, 1) := by decide +kernel
theorem dL_law_514 : decode cL_law 514 = .ok (.invokevirtual 61, 3) := by decide +kernel
theorem dL_law_517 : decode cL_law 517 = .ok (.pop, 1) := by decide +kernel
theorem dL_law_518 : decode cL_law 518 = .ok (.goto 536, 3) := by decide +kernel
theorem dL_law_521 : decode cL_law 521 = .ok (.aload_n 1, 1) := by decide +kernel
theorem dL_law_522 : decode cL_law 522 = .ok (.aload_n 0, 1) := by decide +kernel
theorem dL_law_523 : decode cL_law 523 = .ok (.iload_n 3, 1) := by decide +kernel
theorem dL_law_524 : decode cL_law 524 = .ok (.iconst 1, 1) := by decide +kernel
theorem dL_law_525 : decode cL_law 525 = .ok (.iadd, 1) := by decide +kernel
theorem dL_law_526 : decode cL_law 526 = .ok (.iaload, 1) := by decide +kernel
theorem dL_law_527 : decode cL_law 527 = .ok (.aload_n 0, 1) := by decide +kernel
theorem dL_law_528 : decode cL_law 528 = .ok (.iload_n 3, 1) := by decide +kernel
theorem dL_law_529 : decode cL_law 529 = .ok (.iconst 2, 1) := by decide +kernel
theorem dL_law_530 : decode cL_law 530 = .ok (.iadd, 1) := by decide +kernel
theorem dL_law_531 : decode cL_law 531 = .ok (.iaload, 1) := by decide +kernel
theorem dL_law_532 : decode cL_law 532 = .ok (.invokevirtual 62, 3) := by decide +kernel
theorem dL_law_535 : decode cL_law 535 = .ok (.pop, 1) := by decide +kernel
theorem dL_law_536 : decode cL_law 536 = .ok (.aload_n 2, 1) := by decide +kernel
theorem dL_law_537 : decode cL_law 537 = .ok (.aload_n 0, 1) := by decide +kernel
theorem dL_law_538 : decode cL_law 538 = .ok (.iload_n 3, 1) := by decide +kernel
theorem dL_law_539 : decode cL_law 539 = .ok (.iconst 1, 1) := by decide +kernel
theorem dL_law_540 : decode cL_law 540 = .ok (.iadd, 1) := by decide +kernel
theorem dL_law_541 : decode cL_law 541 = .ok (.iaload, 1) := by decide +kernel
theorem dL_law_542 : decode cL_law 542 = .ok (.aload_n 0, 1) := by decide +kernel
theorem dL_law_543 : decode cL_law 543 = .ok (.iload_n 3, 1) := by decide +kernel
theorem dL_law_544 : decode cL_law 544 = .ok (.iconst 2, 1) := by decide +kernel
theorem dL_law_545 : decode cL_law 545 = .ok (.iadd, 1) := by decide +kernel
theorem dL_law_546 : decode cL_law 546 = .ok (.iaload, 1) := by decide +kernel
theorem dL_law_547 : decode cL_law 547 = .ok (.invokevirtual 65, 3) := by decide +kernel
theorem dL_law_550 : decode cL_law 550 = .ok (.pop, 1) := by decide +kernel
theorem dL_law_551 : decode cL_law 551 = .ok (.goto 503, 3) := by decide +kernel
theorem dL_law_554 : decode cL_law 554 = .ok (.aload_n 1, 1) := by decide +kernel
theorem dL_law_555 : decode cL_law 555 = .ok (.aload_n 0, 1) := by decide +kernel
theorem dL_law_556 : decode cL_law 556 = .ok (.iload_n 3, 1) := by decide +kernel
theorem dL_law_557 : decode cL_law 557 = .ok (.iconst 1, 1) := by decide +kernel
theorem dL_law_558 : decode cL_law 558 = .ok (.iadd, 1) := by decide +kernel
theorem dL_law_559 : decode cL_law 559 = .ok (.iaload, 1) := by decide +kernel
theorem dL_law_560 : decode cL_law 560 = .ok (.aload_n 0, 1) := by decide +kernel
theorem dL_law_561 : decode cL_law 561 = .ok (.iload_n 3, 1) := by decide +kernel
theorem dL_law_562 : decode cL_law 562 = .ok (.iconst 2, 1) := by decide +kernel
theorem dL_law_563 : decode cL_law 563 = .ok (.iadd, 1) := by decide +kernel
theorem dL_law_564 : decode cL_law 564 = .ok (.iaload, 1) := by decide +kernel
theorem dL_law_565 : decode cL_law 565 = .ok (.invokevirtual 66, 3) := by decide +kernel
theorem dL_law_568 : decode cL_law 568 = .ok (.pop, 1) := by decide +kernel
theorem dL_law_569 : decode cL_law 569 = .ok (.aload_n 2, 1) := by decide +kernel
theorem dL_law_570 : decode cL_law 570 = .ok (.aload_n 0, 1) := by decide +kernel
theorem dL_law_571 : decode cL_law 571 = .ok (.iload_n 3, 1) := by decide +kernel
theorem dL_law_572 : decode cL_law 572 = .ok (.iconst 1, 1) := by decide +kernel
theorem dL_law_573 : decode cL_law 573 = .ok (.iadd, 1) := by decide +kernel
theorem dL_law_574 : decode cL_law 574 = .ok (.iaload, 1) := by decide +kernel
theorem dL_law_575 : decode cL_law 575 = .ok (.aload_n 0, 1) := by decide +kernel
theorem dL_law_576 : decode cL_law 576 = .ok (.iload_n 3, 1) := by decide +kernel
theorem dL_law_577 : decode cL_law 577 = .ok (.iconst 2, 1) := by decide +kernel
theorem dL_law_578 : decode cL_law 578 = .ok (.iadd, 1) := by decide +kernel
theorem dL_law_579 : decode cL_law 579 = .ok (.iaload, 1) := by decide +kernel
theorem dL_law_580 : decode cL_law 580 = .ok (.invokevirtual 69, 3) := by decide +kernel
theorem dL_law_583 : decode cL_law 583 = .ok (.pop, 1) := by decide +kernel
theorem dL_law_584 : decode cL_law 584 = .ok (.goto 470, 3) := by decide +kernel
theorem dL_law_587 : decode cL_law 587 = .ok (.aload_n 1, 1) := by decide +kernel
theorem dL_law_588 : decode cL_law 588 = .ok (.invokevirtual 70, 3) := by decide +kernel
theorem dL_law_591 : decode cL_law 591 = .ok (.pop, 1) := by decide +kernel
theorem dL_law_592 : decode cL_law 592 = .ok (.aload_n 2, 1) := by decide +kernel
theorem dL_law_593 : decode cL_law 593 = .ok (.invokevirtual 73, 3) := by decide +kernel
theorem dL_law_596 : decode cL_law 596 = .ok (.pop, 1) := by decide +kernel
theorem dL_law_597 : decode cL_law 597 = .ok (.goto 457, 3) := by decide +kernel
theorem dL_law_600 : decode cL_law 600 = .ok (.aload_n 1, 1) := by decide +kernel
theorem dL_law_601 : decode cL_law 601 = .ok (.aload_n 0, 1) := by decide +kernel
theorem dL_law_602 : decode cL_law 602 = .ok (.iload_n 3, 1) := by decide +kernel
theorem dL_law_603 : decode cL_law 603 = .ok (.iconst 1, 1) := by decide +kernel
theorem dL_law_604 : decode cL_law 604 = .ok (.iadd, 1) := by decide +kernel
theorem dL_law_605 : decode cL_law 605 = .ok (.iaload, 1) := by decide +kernel
theorem dL_law_606 : decode cL_law 606 = .ok (.aload_n 0, 1) := by decide +kernel
theorem dL_law_607 : decode cL_law 607 = .ok (.iload_n 3, 1) := by decide +kernel
theorem dL_law_608 : decode cL_law 608 = .ok (.iconst 2, 1) := by decide +kernel
theorem dL_law_609 : decode cL_law 609 = .ok (.iadd, 1) := by decide +kernel
theorem dL_law_610 : decode cL_law 610 = .ok (.iaload, 1) := by decide +kernel
theorem dL_law_611 : decode cL_law 611 = .ok (.invokevirtual 74, 3) := by decide +kernel
theorem dL_law_614 : decode cL_law 614 = .ok (.pop, 1) := by decide +kernel
theorem dL_law_615 : decode cL_law 615 = .ok (.aload_n 2, 1) := by decide +kernel
theorem dL_law_616 : decode cL_law 616 = .ok (.aload_n 0, 1) := by decide +kernel
theorem dL_law_617 : decode cL_law 617 = .ok (.iload_n 3, 1) := by decide +kernel
theorem dL_law_618 : decode cL_law 618 = .ok (.iconst 1, 1) := by decide +kernel
theorem dL_law_619 : decode cL_law 619 = .ok (.iadd, 1) := by decide +kernel
theorem dL_law_620 : decode cL_law 620 = .ok (.iaload, 1) := by decide +kernel
theorem dL_law_621 : decode cL_law 621 = .ok (.aload_n 0, 1) := by decide +kernel
theorem dL_law_622 : decode cL_law 622 = .ok (.iload_n 3, 1) := by decide +kernel
theorem dL_law_623 : decode cL_law 623 = .ok (.iconst 2, 1) := by decide +kernel
theorem dL_law_624 : decode cL_law 624 = .ok (.iadd, 1) := by decide +kernel
theorem dL_law_625 : decode cL_law 625 = .ok (.iaload, 1) := by decide +kernel
theorem dL_law_626 : decode cL_law 626 = .ok (.invokevirtual 77, 3) := by decide +kernel
theorem dL_law_629 : decode cL_law 629 = .ok (.pop, 1) := by decide +kernel
theorem dL_law_630 : decode cL_law 630 = .ok (.goto 424, 3) := by decide +kernel
theorem dL_law_633 : decode cL_law 633 = .ok (.aload_n 1, 1) := by decide +kernel
theorem dL_law_634 : decode cL_law 634 = .ok (.aload_n 0, 1) := by decide +kernel
theorem dL_law_635 : decode cL_law 635 = .ok (.iload_n 3, 1) := by decide +kernel
theorem dL_law_636 : decode cL_law 636 = .ok (.iconst 1, 1) := by decide +kernel
theorem dL_law_637 : decode cL_law 637 = .ok (.iadd, 1) := by decide +kernel
theorem dL_law_638 : decode cL_law 638 = .ok (.iaload, 1) := by decide +kernel
theorem dL_law_639 : decode cL_law 639 = .ok (.aload_n 0, 1) := by decide +kernel
theorem dL_law_640 : decode cL_law 640 = .ok (.iload_n 3, 1) := by decide +kernel
theorem dL_law_641 : decode cL_law 641 = .ok (.iconst 2, 1) := by decide +kernel
theorem dL_law_642 : decode cL_law 642 = .ok (.iadd, 1) := by decide +kernel
theorem dL_law_643 : decode cL_law 643 = .ok (.iaload, 1) := by decide +kernel
theorem dL_law_644 : decode cL_law 644 = .ok (.invokevirtual 78, 3) := by decide +kernel
theorem dL_law_647 : decode cL_law 647 = .ok (.pop, 1) := by decide +kernel
theorem dL_law_648 : decode cL_law 648 = .ok (.aload_n 2, 1) := by decide +kernel
theorem dL_law_649 : decode cL_law 649 = .ok (.aload_n 0, 1) := by decide +kernel
theorem dL_law_650 : decode cL_law 650 = .ok (.iload_n 3, 1) := by decide +kernel
theorem dL_law_651 : decode cL_law 651 = .ok (.iconst 1, 1) := by decide +kernel
theorem dL_law_652 : decode cL_law 652 = .ok (.iadd, 1) := by decide +kernel
theorem dL_law_653 : decode cL_law 653 = .ok (.iaload, 1) := by decide +kernel
theorem dL_law_654 : decode cL_law 654 = .ok (.aload_n 0, 1) := by decide +kernel
theorem dL_law_655 : decode cL_law 655 = .ok (.iload_n 3, 1) := by decide +kernel
theorem dL_law_656 : decode cL_law 656 = .ok (.iconst 2, 1) := by decide +kernel
theorem dL_law_657 : decode cL_law 657 = .ok (.iadd, 1) := by decide +kernel
theorem dL_law_658 : decode cL_law 658 = .ok (.iaload, 1) := by decide +kernel
theorem dL_law_659 : decode cL_law 659 = .ok (.invokevirtual 81, 3) := by decide +kernel
theorem dL_law_662 : decode cL_law 662 = .ok (.pop, 1) := by decide +kernel
theorem dL_law_663 : decode cL_law 663 = .ok (.goto 391, 3) := by decide +kernel
theorem dL_law_666 : decode cL_law 666 = .ok (.aload_n 1, 1) := by decide +kernel
theorem dL_law_667 : decode cL_law 667 = .ok (.aload_n 0, 1) := by decide +kernel
theorem dL_law_668 : decode cL_law 668 = .ok (.iload_n 3, 1) := by decide +kernel
theorem dL_law_669 : decode cL_law 669 = .ok (.iconst 1, 1) := by decide +kernel
theorem dL_law_670 : decode cL_law 670 = .ok (.iadd, 1) := by decide +kernel
theorem dL_law_671 : decode cL_law 671 = .ok (.iaload, 1) := by decide +kernel
theorem dL_law_672 : decode cL_law 672 = .ok (.invokevirtual 82, 3) := by decide +kernel
theorem dL_law_675 : decode cL_law 675 = .ok (.pop, 1) := by decide +kernel
theorem dL_law_676 : decode cL_law 676 = .ok (.aload_n 2, 1) := by decide +kernel
theorem dL_law_677 : decode cL_law 677 = .ok (.aload_n 0, 1) := by decide +kernel
theorem dL_law_678 : decode cL_law 678 = .ok (.iload_n 3, 1) := by decide +kernel
theorem dL_law_679 : decode cL_law 679 = .ok (.iconst 1, 1) := by decide +kernel
theorem dL_law_680 : decode cL_law 680 = .ok (.iadd, 1) := by decide +kernel
theorem dL_law_681 : decode cL_law 681 = .ok (.iaload, 1) := by decide +kernel
theorem dL_law_682 : decode cL_law 682 = .ok (.invokevirtual 85, 3) := by decide +kernel
theorem dL_law_685 : decode cL_law 685 = .ok (.pop, 1) := by decide +kernel
theorem dL_law_686 : decode cL_law 686 = .ok (.goto 368, 3) := by decide +kernel
theorem dL_law_689 : decode cL_law 689 = .ok (.aload_n 1, 1) := by decide +kernel
theorem dL_law_690 : decode cL_law 690 = .ok (.aload_n 0, 1) := by decide +kernel
theorem dL_law_691 : decode cL_law 691 = .ok (.iload_n 3, 1) := by decide +kernel
theorem dL_law_692 : decode cL_law 692 = .ok (.iconst 1, 1) := by decide +kernel
theorem dL_law_693 : decode cL_law 693 = .ok (.iadd, 1) := by decide +kernel
theorem dL_law_694 : decode cL_law 694 = .ok (.iaload, 1) := by decide +kernel
theorem dL_law_695 : decode cL_law 695 = .ok (.invokevirtual 86, 3) := by decide +kernel
theorem dL_law_698 : decode cL_law 698 = .ok (.pop, 1) := by decide +kernel
theorem dL_law_699 : decode cL_law 699 = .ok (.aload_n 2, 1) := by decide +kernel
theorem dL_law_700 : decode cL_law 700 = .ok (.aload_n 0, 1) := by decide +kernel
theorem dL_law_701 : decode cL_law 701 = .ok (.iload_n 3, 1) := by decide +kernel
theorem dL_law_702 : decode cL_law 702 = .ok (.iconst 1, 1) := by decide +kernel
theorem dL_law_703 : decode cL_law 703 = .ok (.iadd, 1) := by decide +kernel
theorem dL_law_704 : decode cL_law 704 = .ok (.iaload, 1) := by decide +kernel
theorem dL_law_705 : decode cL_law 705 = .ok (.invokevirtual 89, 3) := by decide +kernel
theorem dL_law_708 : decode cL_law 708 = .ok (.pop, 1) := by decide +kernel
theorem dL_law_709 : decode cL_law 709 = .ok (.goto 345, 3) := by decide +kernel
theorem dL_law_712 : decode cL_law 712 = .ok (.aload_n 1, 1) := by decide +kernel
theorem dL_law_713 : decode cL_law 713 = .ok (.aload_n 0, 1) := by decide +kernel
theorem dL_law_714 : decode cL_law 714 = .ok (.iload_n 3, 1) := by decide +kernel
theorem dL_law_715 : decode cL_law 715 = .ok (.iconst 1, 1) := by decide +kernel
theorem dL_law_716 : decode cL_law 716 = .ok (.iadd, 1) := by decide +kernel
theorem dL_law_717 : decode cL_law 717 = .ok (.iaload, 1) := by decide +kernel
theorem dL_law_718 : decode cL_law 718 = .ok (.aload_n 0, 1) := by decide +kernel
theorem dL_law_719 : decode cL_law 719 = .ok (.iload_n 3, 1) := by decide +kernel
theorem dL_law_720 : decode cL_law 720 = .ok (.iconst 2, 1) := by decide +kernel
theorem dL_law_721 : decode cL_law 721 = .ok (.iadd, 1) := by decide +kernel
theorem dL_law_722 : decode cL_law 722 = .ok (.iaload, 1) := by decide +kernel
theorem dL_law_723 : decode cL_law 723 = .ok (.aload_n 0, 1) := by decide +kernel
theorem dL_law_724 : decode cL_law 724 = .ok (.iload_n 3, 1) := by decide +kernel
theorem dL_law_725 : decode cL_law 725 = .ok (.iconst 3, 1) := by decide +kernel
theorem dL_law_726 : decode cL_law 726 = .ok (.iadd, 1) := by decide +kernel
theorem dL_law_727 : decode cL_law 727 = .ok (.iaload, 1) := by decide +kernel
theorem dL_law_728 : decode cL_law 728 = .ok (.invokevirtual 90, 3) := by decide +kernel
theorem dL_law_731 : decode cL_law 731 = .ok (.pop, 1) := by decide +kernel
theorem dL_law_732 : decode cL_law 732 = .ok (.aload_n 2, 1) := by decide +kernel
theorem dL_law_733 : decode cL_law 733 = .ok (.aload_n 0, 1) := by decide +kernel
theorem dL_law_734 : decode cL_law 734 = .ok (.iload_n 3, 1) := by decide +kernel
theorem dL_law_735 : decode cL_law 735 = .ok (.iconst 1, 1) := by decide +kernel
theorem dL_law_736 : decode cL_law 736 = .ok (.iadd, 1) := by decide +kernel
theorem dL_law_737 : decode cL_law 737 = .ok (.iaload, 1) := by decide +kernel
theorem dL_law_738 : decode cL_law 738 = .ok (.aload_n 0, 1) := by decide +kernel
theorem dL_law_739 : decode cL_law 739 = .ok (.iload_n 3, 1) := by decide +kernel
theorem dL_law_740 : decode cL_law 740 = .ok (.iconst 2, 1) := by decide +kernel
theorem dL_law_741 : decode cL_law 741 = .ok (.iadd, 1) := by decide +kernel
theorem dL_law_742 : decode cL_law 742 = .ok (.iaload, 1) := by decide +kernel
theorem dL_law_743 : decode cL_law 743 = .ok (.aload_n 0, 1) := by decide +kernel
theorem dL_law_744 : decode cL_law 744 = .ok (.iload_n 3, 1) := by decide +kernel
theorem dL_law_745 : decode cL_law 745 = .ok (.iconst 3, 1) := by decide +kernel
theorem dL_law_746 : decode cL_law 746 = .ok (.iadd, 1) := by decide +kernel
theorem dL_law_747 : decode cL_law 747 = .ok (.iaload, 1) := by decide +kernel
theorem dL_law_748 : decode cL_law 748 = .ok (.invokevirtual 94, 3) := by decide +kernel
theorem dL_law_751 : decode cL_law 751 = .ok (.pop, 1) := by decide +kernel
theorem dL_law_752 : decode cL_law 752 = .ok (.goto 302, 3) := by decide +kernel
theorem dL_law_755 : decode cL_law 755 = .ok (.aload_n 1, 1) := by decide +kernel
theorem dL_law_756 : decode cL_law 756 = .ok (.invokevirtual 95, 3) := by decide +kernel
theorem dL_law_759 : decode cL_law 759 = .ok (.pop2, 1) := by decide +kernel
theorem dL_law_760 : decode cL_law 760 = .ok (.aload_n 2, 1) := by decide +kernel
theorem dL_law_761 : decode cL_law 761 = .ok (.invokevirtual 99, 3) := by decide +kernel
theorem dL_law_764 : decode cL_law 764 = .ok (.pop2, 1) := by decide +kernel
theorem dL_law_765 : decode cL_law 765 = .ok (.goto 289, 3) := by decide +kernel
theorem dL_law_768 : decode cL_law 768 = .ok (.aload_n 1, 1) := by decide +kernel
theorem dL_law_769 : decode cL_law 769 = .ok (.invokevirtual 100, 3) := by decide +kernel
theorem dL_law_772 : decode cL_law 772 = .ok (.pop, 1) := by decide +kernel
theorem dL_law_773 : decode cL_law 773 = .ok (.aload_n 2, 1) := by decide +kernel
theorem dL_law_774 : decode cL_law 774 = .ok (.invokevirtual 103, 3) := by decide +kernel
theorem dL_law_777 : decode cL_law 777 = .ok (.pop, 1) := by decide +kernel
theorem dL_law_778 : decode cL_law 778 = .ok (.goto 276, 3) := by decide +kernel
theorem dL_law_781 : decode cL_law 781 = .ok (.aload_n 1, 1) := by decide +kernel
theorem dL_law_782 : decode cL_law 782 = .ok (.aload_n 0, 1) := by decide +kernel
theorem dL_law_783 : decode cL_law 783 = .ok (.iload_n 3, 1) := by decide +kernel
theorem dL_law_784 : decode cL_law 784 = .ok (.iconst 1, 1) := by decide +kernel
theorem dL_law_785 : decode cL_law 785 = .ok (.iadd, 1) := by decide +kernel
theorem dL_law_786 : decode cL_law 786 = .ok (.iaload, 1) := by decide +kernel
theorem dL_law_787 : decode cL_law 787 = .ok (.aload_n 0, 1) := by decide +kernel
theorem dL_law_788 : decode cL_law 788 = .ok (.iload_n 3, 1) := by decide +kernel
theorem dL_law_789 : decode cL_law 789 = .ok (.iconst 2, 1) := by decide +kernel
theorem dL_law_790 : decode cL_law 790 = .ok (.iadd, 1) := by decide +kernel
theorem dL_law_791 : decode cL_law 791 = .ok (.iaload, 1) := by decide +kernel
theorem dL_law_792 : decode cL_law 792 = .ok (.invokevirtual 104, 3) := by decide +kernel
theorem dL_law_795 : decode cL_law 795 = .ok (.pop, 1) := by decide +kernel
theorem dL_law_796 : decode cL_law 796 = .ok (.aload_n 2, 1) := by decide +kernel
theorem dL_law_797 : decode cL_law 797 = .ok (.aload_n 0, 1) := by decide +kernel
theorem dL_law_798 : decode cL_law 798 = .ok (.iload_n 3, 1) := by decide +kernel
theorem dL_law_799 : decode cL_law 799 = .ok (.iconst 1, 1) := by decide +kernel
theorem dL_law_800 : decode cL_law 800 = .ok (.iadd, 1) := by decide +kernel
theorem dL_law_801 : decode cL_law 801 = .ok (.iaload, 1) := by decide +kernel
theorem dL_law_802 : decode cL_law 802 = .ok (.aload_n 0, 1) := by decide +kernel
theorem dL_law_803 : decode cL_law 803 = .ok (.iload_n 3, 1) := by decide +kernel
theorem dL_law_804 : decode cL_law 804 = .ok (.iconst 2, 1) := by decide +kernel
theorem dL_law_805 : decode cL_law 805 = .ok (.iadd, 1) := by decide +kernel
theorem dL_law_806 : decode cL_law 806 = .ok (.iaload, 1) := by decide +kernel
theorem dL_law_807 : decode cL_law 807 = .ok (.invokevirtual 107, 3) := by decide +kernel
theorem dL_law_810 : decode cL_law 810 = .ok (.pop, 1) := by decide +kernel
theorem dL_law_811 : decode cL_law 811 = .ok (.goto 243, 3) := by decide +kernel
theorem dL_law_814 : decode cL_law 814 = .ok (.aload_n 1, 1) := by decide +kernel
theorem dL_law_815 : decode cL_law 815 = .ok (.aload_n 0, 1) := by decide +kernel
theorem dL_law_816 : decode cL_law 816 = .ok (.iload_n 3, 1) := by decide +kernel
theorem dL_law_817 : decode cL_law 817 = .ok (.iconst 1, 1) := by decide +kernel
theorem dL_law_818 : decode cL_law 818 = .ok (.iadd, 1) := by decide +kernel
theorem dL_law_819 : decode cL_law 819 = .ok (.iaload, 1) := by decide +kernel
theorem dL_law_820 : decode cL_law 820 = .ok (.aload_n 0, 1) := by decide +kernel
theorem dL_law_821 : decode cL_law 821 = .ok (.iload_n 3, 1) := by decide +kernel
theorem dL_law_822 : decode cL_law 822 = .ok (.iconst 2, 1) := by decide +kernel
theorem dL_law_823 : decode cL_law 823 = .ok (.iadd, 1) := by decide +kernel
theorem dL_law_824 : decode cL_law 824 = .ok (.iaload, 1) := by decide +kernel
theorem dL_law_825 : decode cL_law 825 = .ok (.invokevirtual 108, 3) := by decide +kernel
theorem dL_law_828 : decode cL_law 828 = .ok (.pop, 1) := by decide +kernel
theorem dL_law_829 : decode cL_law 829 = .ok (.aload_n 2, 1) := by decide +kernel
theorem dL_law_830 : decode cL_law 830 = .ok (.aload_n 0, 1) := by decide +kernel
theorem dL_law_831 : decode cL_law 831 = .ok (.iload_n 3, 1) := by decide +kernel
theorem dL_law_832 : decode cL_law 832 = .ok (.iconst 1, 1) := by decide +kernel
theorem dL_law_833 : decode cL_law 833 = .ok (.iadd, 1) := by decide +kernel
theorem dL_law_834 : decode cL_law 834 = .ok (.iaload, 1) := by decide +kernel
theorem dL_law_835 : decode cL_law 835 = .ok (.aload_n 0, 1) := by decide +kernel
theorem dL_law_836 : decode cL_law 836 = .ok (.iload_n 3, 1) := by decide +kernel
theorem dL_law_837 : decode cL_law 837 = .ok (.iconst 2, 1) := by decide +kernel
theorem dL_law_838 : decode cL_law 838 = .ok (.iadd, 1) := by decide +kernel
theorem dL_law_839 : decode cL_law 839 = .ok (.iaload, 1) := by decide +kernel
theorem dL_law_840 : decode cL_law 840 = .ok (.invokevirtual 111, 3) := by decide +kernel
theorem dL_law_843 : decode cL_law 843 = .ok (.pop, 1) := by decide +kernel
theorem dL_law_844 : decode cL_law 844 = .ok (.goto 210, 3) := by decide +kernel
theorem dL_law_847 : decode cL_law 847 = .ok (.aload_n 1, 1) := by decide +kernel
theorem dL_law_848 : decode cL_law 848 = .ok (.aload_n 0, 1) := by decide +kernel
theorem dL_law_849 : decode cL_law 849 = .ok (.iload_n 3, 1) := by decide +kernel
theorem dL_law_850 : decode cL_law 850 = .ok (.iconst 1, 1) := by decide +kernel
theorem dL_law_851 : decode cL_law 851 = .ok (.iadd, 1) := by decide +kernel
theorem dL_law_852 : decode cL_law 852 = .ok (.iaload, 1) := by decide +kernel
theorem dL_law_853 : decode cL_law 853 = .ok (.aload_n 0, 1) := by decide +kernel
theorem dL_law_854 : decode cL_law 854 = .ok (.iload_n 3, 1) := by decide +kernel
theorem dL_law_855 : decode cL_law 855 = .ok (.iconst 2, 1) := by decide +kernel
theorem dL_law_856 : decode cL_law 856 = .ok (.iadd, 1) := by decide +kernel
theorem dL_law_857 : decode cL_law 857 = .ok (.iaload, 1) := by decide +kernel
theorem dL_law_858 : decode cL_law 858 = .ok (.invokevirtual 112, 3) := by decide +kernel
theorem dL_law_861 : decode cL_law 861 = .ok (.pop, 1) := by decide +kernel
theorem dL_law_862 : decode cL_law 862 = .ok (.aload_n 2, 1) := by decide +kernel
theorem dL_law_863 : decode cL_law 863 = .ok (.aload_n 0, 1) := by decide +kernel
theorem dL_law_864 : decode cL_law 864 = .ok (.iload_n 3, 1) := by decide +kernel
theorem dL_law_865 : decode cL_law 865 = .ok (.iconst 1, 1) := by decide +kernel
theorem dL_law_866 : decode cL_law 866 = .ok (.iadd, 1) := by decide +kernel
theorem dL_law_867 : decode cL_law 867 = .ok (.iaload, 1) := by decide +kernel
theorem dL_law_868 : decode cL_law 868 = .ok (.aload_n 0, 1) := by decide +kernel
theorem dL_law_869 : decode cL_law 869 = .ok (.iload_n 3, 1) := by decide +kernel
theorem dL_law_870 : decode cL_law 870 = .ok (.iconst 2, 1) := by decide +kernel
theorem dL_law_871 : decode cL_law 871 = .ok (.iadd, 1) := by decide +kernel
theorem dL_law_872 : decode cL_law 872 = .ok (.iaload, 1) := by decide +kernel
theorem dL_law_873 : decode cL_law 873 = .ok (.invokevirtual 115, 3) := by decide +kernel
theorem dL_law_876 : decode cL_law 876 = .ok (.pop, 1) := by decide +kernel
theorem dL_law_877 : decode cL_law 877 = .ok (.goto 177, 3) := by decide +kernel
theorem dL_law_880 : decode cL_law 880 = .ok (.aload_n 1, 1) := by decide +kernel
theorem dL_law_881 : decode cL_law 881 = .ok (.invokevirtual 116, 3) := by decide +kernel
theorem dL_law_884 : decode cL_law 884 = .ok (.pop, 1) := by decide +kernel
theorem dL_law_885 : decode cL_law 885 = .ok (.aload_n 2, 1) := by decide +kernel
theorem dL_law_886 : decode cL_law 886 = .ok (.invokevirtual 119, 3) := by decide +kernel
theorem dL_law_889 : decode cL_law 889 = .ok (.pop, 1) := by decide +kernel
theorem dL_law_890 : decode cL_law 890 = .ok (.goto 164, 3) := by decide +kernel
theorem dL_law_893 : decode cL_law 893 = .ok (.aload_n 1, 1) := by decide +kernel
theorem dL_law_894 : decode cL_law 894 = .ok (.aload_n 0, 1) := by decide +kernel
theorem dL_law_895 : decode cL_law 895 = .ok (.iload_n 3, 1) := by decide +kernel
theorem dL_law_896 : decode cL_law 896 = .ok (.iconst 1, 1) := by decide +kernel
theorem dL_law_897 : decode cL_law 897 = .ok (.iadd, 1) := by decide +kernel
theorem dL_law_898 : decode cL_law 898 = .ok (.iaload, 1) := by decide +kernel
theorem dL_law_899 : decode cL_law 899 = .ok (.aload_n 0, 1) := by decide +kernel
theorem dL_law_900 : decode cL_law 900 = .ok (.iload_n 3, 1) := by decide +kernel
theorem dL_law_901 : decode cL_law 901 = .ok (.iconst 2, 1) := by decide +kernel
theorem dL_law_902 : decode cL_law 902 = .ok (.iadd, 1) := by decide +kernel
theorem dL_law_903 : decode cL_law 903 = .ok (.iaload, 1) := by decide +kernel
theorem dL_law_904 : decode cL_law 904 = .ok (.invokevirtual 120, 3) := by decide +kernel
theorem dL_law_907 : decode cL_law 907 = .ok (.pop, 1) := by decide +kernel
theorem dL_law_908 : decode cL_law 908 = .ok (.aload_n 2, 1) := by decide +kernel
theorem dL_law_909 : decode cL_law 909 = .ok (.aload_n 0, 1) := by decide +kernel
theorem dL_law_910 : decode cL_law 910 = .ok (.iload_n 3, 1) := by decide +kernel
theorem dL_law_911 : decode cL_law 911 = .ok (.iconst 1, 1) := by decide +kernel
theorem dL_law_912 : decode cL_law 912 = .ok (.iadd, 1) := by decide +kernel
theorem dL_law_913 : decode cL_law 913 = .ok (.iaload, 1) := by decide +kernel
theorem dL_law_914 : decode cL_law 914 = .ok (.aload_n 0, 1) := by decide +kernel
theorem dL_law_915 : decode cL_law 915 = .ok (.iload_n 3, 1) := by decide +kernel
theorem dL_law_916 : decode cL_law 916 = .ok (.iconst 2, 1) := by decide +kernel
theorem dL_law_917 : decode cL_law 917 = .ok (.iadd, 1) := by decide +kernel
theorem dL_law_918 : decode cL_law 918 = .ok (.iaload, 1) := by decide +kernel
theorem dL_law_919 : decode cL_law 919 = .ok (.invokevirtual 123, 3) := by decide +kernel
theorem dL_law_922 : decode cL_law 922 = .ok (.pop, 1) := by decide +kernel
theorem dL_law_923 : decode cL_law 923 = .ok (.goto 131, 3) := by decide +kernel
theorem dL_law_926 : decode cL_law 926 = .ok (.aload_n 1, 1) := by decide +kernel
theorem dL_law_927 : decode cL_law 927 = .ok (.aload_n 0, 1) := by decide +kernel
theorem dL_law_928 : decode cL_law 928 = .ok (.iload_n 3, 1) := by decide +kernel
theorem dL_law_929 : decode cL_law 929 = .ok (.iconst 1, 1) := by decide +kernel
theorem dL_law_930 : decode cL_law 930 = .ok (.iadd, 1) := by decide +kernel
theorem dL_law_931 : decode cL_law 931 = .ok (.iaload, 1) := by decide +kernel
theorem dL_law_932 : decode cL_law 932 = .ok (.invokevirtual 124, 3) := by decide +kernel
theorem dL_law_935 : decode cL_law 935 = .ok (.pop2, 1) := by decide +kernel
theorem dL_law_936 : decode cL_law 936 = .ok (.aload_n 2, 1) := by decide +kernel
theorem dL_law_937 : decode cL_law 937 = .ok (.aload_n 0, 1) := by decide +kernel
theorem dL_law_938 : decode cL_law 938 = .ok (.iload_n 3, 1) := by decide +kernel
theorem dL_law_939 : decode cL_law 939 = .ok (.iconst 1, 1) := by decide +kernel
theorem dL_law_940 : decode cL_law 940 = .ok (.iadd, 1) := by decide +kernel
theorem dL_law_941 : decode cL_law 941 = .ok (.iaload, 1) := by decide +kernel
theorem dL_law_942 : decode cL_law 942 = .ok (.invokevirtual 128, 3) := by decide +kernel
theorem dL_law_945 : decode cL_law 945 = .ok (.pop2, 1) := by decide +kernel
theorem dL_law_946 : decode cL_law 946 = .ok (.goto 108, 3) := by decide +kernel
theorem dL_law_949 : decode cL_law 949 = .ok (.aload_n 1, 1) := by decide +kernel
theorem dL_law_950 : decode cL_law 950 = .ok (.aload_n 0, 1) := by decide +kernel
theorem dL_law_951 : decode cL_law 951 = .ok (.iload_n 3, 1) := by decide +kernel
theorem dL_law_952 : decode cL_law 952 = .ok (.iconst 1, 1) := by decide +kernel
theorem dL_law_953 : decode cL_law 953 = .ok (.iadd, 1) := by decide +kernel
theorem dL_law_954 : decode cL_law 954 = .ok (.iaload, 1) := by decide +kernel
theorem dL_law_955 : decode cL_law 955 = .ok (.invokevirtual 129, 3) := by decide +kernel
theorem dL_law_958 : decode cL_law 958 = .ok (.aload_n 2, 1) := by decide +kernel
theorem dL_law_959 : decode cL_law 959 = .ok (.aload_n 0, 1) := by decide +kernel
theorem dL_law_960 : decode cL_law 960 = .ok (.iload_n 3, 1) := by decide +kernel
theorem dL_law_961 : decode cL_law 961 = .ok (.iconst 1, 1) := by decide +kernel
theorem dL_law_962 : decode cL_law 962 = .ok (.iadd, 1) := by decide +kernel
theorem dL_law_963 : decode cL_law 963 = .ok (.iaload, 1) := by decide +kernel
theorem dL_law_964 : decode cL_law 964 = .ok (.invokevirtual 132, 3) := by decide +kernel
theorem dL_law_967 : decode cL_law 967 = .ok (.if_icmp .eq 87, 3) := by decide +kernel
theorem dL_law_970 : decode cL_law 970 = .ok (.iconst 0, 1) := by decide +kernel
theorem dL_law_971 : decode cL_law 971 = .ok (.ireturn, 1) := by decide +kernel
theorem dL_law_972 : decode cL_law 972 = .ok (.aload_n 1, 1) := by decide +kernel
theorem dL_law_973 : decode cL_law 973 = .ok (.aload_n 0, 1) := by decide +kernel
theorem dL_law_974 : decode cL_law 974 = .ok (.iload_n 3, 1) := by decide +kernel
theorem dL_law_975 : decode cL_law 975 = .ok (.iconst 1, 1) := by decide +kernel
theorem dL_law_976 : decode cL_law 976 = .ok (.iadd, 1) := by decide +kernel
theorem dL_law_977 : decode cL_law 977 = .ok (.iaload, 1) := by decide +kernel
theorem dL_law_978 : decode cL_law 978 = .ok (.invokevirtual 133, 3) := by decide +kernel
theorem dL_law_981 : decode cL_law 981 = .ok (.pop, 1) := by decide +kernel
theorem dL_law_982 : decode cL_law 982 = .ok (.aload_n 2, 1) := by decide +kernel
theorem dL_law_983 : decode cL_law 983 = .ok (.aload_n 0, 1) := by decide +kernel
theorem dL_law_984 : decode cL_law 984 = .ok (.iload_n 3, 1) := by decide +kernel
theorem dL_law_985 : decode cL_law 985 = .ok (.iconst 1, 1) := by decide +kernel
theorem dL_law_986 : decode cL_law 986 = .ok (.iadd, 1) := by decide +kernel
theorem dL_law_987 : decode cL_law 987 = .ok (.iaload, 1) := by decide +kernel
theorem dL_law_988 : decode cL_law 988 = .ok (.invokevirtual 136, 3) := by decide +kernel
theorem dL_law_991 : decode cL_law 991 = .ok (.pop, 1) := by decide +kernel
theorem dL_law_992 : decode cL_law 992 = .ok (.goto 62, 3) := by decide +kernel
theorem dL_law_995 : decode cL_law 995 = .ok (.aload_n 1, 1) := by decide +kernel
theorem dL_law_996 : decode cL_law 996 = .ok (.aload_n 0, 1) := by decide +kernel
theorem dL_law_997 : decode cL_law 997 = .ok (.iload_n 3, 1) := by decide +kernel
theorem dL_law_998 : decode cL_law 998 = .ok (.iconst 1, 1) := by decide +kernel
theorem dL_law_999 : decode cL_law 999 = .ok (.iadd, 1) := by decide +kernel
theorem dL_law_1000 : decode cL_law 1000 = .ok (.iaload, 1) := by decide +kernel
theorem dL_law_1001 : decode cL_law 1001 = .ok (.invokevirtual 137, 3) := by decide +kernel
theorem dL_law_1004 : decode cL_law 1004 = .ok (.pop, 1) := by decide +kernel
theorem dL_law_1005 : decode cL_law 1005 = .ok (.aload_n 2, 1) := by decide +kernel
theorem dL_law_1006 : decode cL_law 1006 = .ok (.aload_n 0, 1) := by decide +kernel
theorem dL_law_1007 : decode cL_law 1007 = .ok (.iload_n 3, 1) := by decide +kernel
theorem dL_law_1008 : decode cL_law 1008 = .ok (.iconst 1, 1) := by decide +kernel
theorem dL_law_1009 : decode cL_law 1009 = .ok (.iadd, 1) := by decide +kernel
theorem dL_law_1010 : decode cL_law 1010 = .ok (.iaload, 1) := by decide +kernel
theorem dL_law_1011 : decode cL_law 1011 = .ok (.invokevirtual 140, 3) := by decide +kernel
theorem dL_law_1014 : decode cL_law 1014 = .ok (.pop, 1) := by decide +kernel
theorem dL_law_1015 : decode cL_law 1015 = .ok (.goto 39, 3) := by decide +kernel
theorem dL_law_1018 : decode cL_law 1018 = .ok (.aload_n 1, 1) := by decide +kernel
theorem dL_law_1019 : decode cL_law 1019 = .ok (.aload_n 0, 1) := by decide +kernel
theorem dL_law_1020 : decode cL_law 1020 = .ok (.iload_n 3, 1) := by decide +kernel
theorem dL_law_1021 : decode cL_law 1021 = .ok (.iconst 1, 1) := by decide +kernel
theorem dL_law_1022 : decode cL_law 1022 = .ok (.iadd, 1) := by decide +kernel
theorem dL_law_1023 : decode cL_law 1023 = .ok (.iaload, 1) := by decide +kernel
theorem dL_law_1024 : decode cL_law 1024 = .ok (.invokevirtual 141, 3) := by decide +kernel
theorem dL_law_1027 : decode cL_law 1027 = .ok (.pop, 1) := by decide +kernel
theorem dL_law_1028 : decode cL_law 1028 = .ok (.aload_n 2, 1) := by decide +kernel
theorem dL_law_1029 : decode cL_law 1029 = .ok (.aload_n 0, 1) := by decide +kernel
theorem dL_law_1030 : decode cL_law 1030 = .ok (.iload_n 3, 1) := by decide +kernel
theorem dL_law_1031 : decode cL_law 1031 = .ok (.iconst 1, 1) := by decide +kernel
theorem dL_law_1032 : decode cL_law 1032 = .ok (.iadd, 1) := by decide +kernel
theorem dL_law_1033 : decode cL_law 1033 = .ok (.iaload, 1) := by decide +kernel
theorem dL_law_1034 : decode cL_law 1034 = .ok (.invokevirtual 144, 3) := by decide +kernel
theorem dL_law_1037 : decode cL_law 1037 = .ok (.pop, 1) := by decide +kernel
theorem dL_law_1038 : decode cL_law 1038 = .ok (.goto 16, 3) := by decide +kernel
theorem dL_law_1041 : decode cL_law 1041 = .ok (.aload_n 1, 1) := by decide +kernel
theorem dL_law_1042 : decode cL_law 1042 = .ok (.invokevirtual 145, 3) := by decide +kernel
theorem dL_law_1045 : decode cL_law 1045 = .ok (.pop2, 1) := by decide +kernel
theorem dL_law_1046 : decode cL_law 1046 = .ok (.aload_n 2, 1) := by decide +kernel
theorem dL_law_1047 : decode cL_law 1047 = .ok (.invokevirtual 148, 3) := by decide +kernel
theorem dL_law_1050 : decode cL_law 1050 = .ok (.pop2, 1) := by decide +kernel
theorem dL_law_1051 : decode cL_law 1051 = .ok (.goto 3, 3) := by decide +kernel
theorem dL_law_1054 : decode cL_law 1054 = .ok (.iinc 3 7, 3) := by decide +kernel
theorem dL_law_1057 : decode cL_law 1057 = .ok (.goto (-1039), 3) := by decide +kernel
theorem dL_law_1060 : decode cL_law 1060 = .ok (.iconst 1, 1) := by decide +kernel
theorem dL_law_1061 : decode cL_law 1061 = .ok (.ireturn, 1) := by decide +kernel
