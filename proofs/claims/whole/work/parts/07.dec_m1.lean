theorem dX10_init_0 : decode cX10_init 0 = .ok (.aload_n 0, 1) := by decide +kernel
theorem dX10_init_1 : decode cX10_init 1 = .ok (.invokespecial 1, 3) := by decide +kernel
theorem dX10_init_4 : decode cX10_init 4 = .ok (.aload_n 0, 1) := by decide +kernel
theorem dX10_init_5 : decode cX10_init 5 = .ok (.sipush 190, 3) := by decide +kernel
theorem dX10_init_8 : decode cX10_init 8 = .ok (.newarray .int, 2) := by decide +kernel
theorem dX10_init_10 : decode cX10_init 10 = .ok (.putfield 7, 3) := by decide +kernel
theorem dX10_init_13 : decode cX10_init 13 = .ok (.aload_n 0, 1) := by decide +kernel
theorem dX10_init_14 : decode cX10_init 14 = .ok (.sipush 380, 3) := by decide +kernel
theorem dX10_init_17 : decode cX10_init 17 = .ok (.newarray .int, 2) := by decide +kernel
theorem dX10_init_19 : decode cX10_init 19 = .ok (.putfield 13, 3) := by decide +kernel
theorem dX10_init_22 : decode cX10_init 22 = .ok (.aload_n 0, 1) := by decide +kernel
theorem dX10_init_23 : decode cX10_init 23 = .ok (.iconst 2, 1) := by decide +kernel
theorem dX10_init_24 : decode cX10_init 24 = .ok (.newarray .boolean, 2) := by decide +kernel
theorem dX10_init_26 : decode cX10_init 26 = .ok (.putfield 16, 3) := by decide +kernel
theorem dX10_init_29 : decode cX10_init 29 = .ok (.aload_n 0, 1) := by decide +kernel
theorem dX10_init_30 : decode cX10_init 30 = .ok (.iconst 3, 1) := by decide +kernel
theorem dX10_init_31 : decode cX10_init 31 = .ok (.newarray .int, 2) := by decide +kernel
theorem dX10_init_33 : decode cX10_init 33 = .ok (.putfield 20, 3) := by decide +kernel
theorem dX10_init_36 : decode cX10_init 36 = .ok (.aload_n 0, 1) := by decide +kernel
theorem dX10_init_37 : decode cX10_init 37 = .ok (.lconst 1, 1) := by decide +kernel
theorem dX10_init_38 : decode cX10_init 38 = .ok (.putfield 23, 3) := by decide +kernel
theorem dX10_init_41 : decode cX10_init 41 = .ok (.aload_n 0, 1) := by decide +kernel
theorem dX10_init_42 : decode cX10_init 42 = .ok (.bipush 6, 2) := by decide +kernel
theorem dX10_init_44 : decode cX10_init 44 = .ok (.newarray .int, 2) := by decide +kernel
theorem dX10_init_46 : decode cX10_init 46 = .ok (.putfield 27, 3) := by decide +kernel
theorem dX10_init_49 : decode cX10_init 49 = .ok (.aload_n 0, 1) := by decide +kernel
theorem dX10_init_50 : decode cX10_init 50 = .ok (.bipush 6, 2) := by decide +kernel
theorem dX10_init_52 : decode cX10_init 52 = .ok (.newarray .int, 2) := by decide +kernel
theorem dX10_init_54 : decode cX10_init 54 = .ok (.putfield 30, 3) := by decide +kernel
theorem dX10_init_57 : decode cX10_init 57 = .ok (.aload_n 0, 1) := by decide +kernel
theorem dX10_init_58 : decode cX10_init 58 = .ok (.bipush 6, 2) := by decide +kernel
theorem dX10_init_60 : decode cX10_init 60 = .ok (.newarray .int, 2) := by decide +kernel
theorem dX10_init_62 : decode cX10_init 62 = .ok (.putfield 33, 3) := by decide +kernel
theorem dX10_init_65 : decode cX10_init 65 = .ok (.aload_n 0, 1) := by decide +kernel
theorem dX10_init_66 : decode cX10_init 66 = .ok (.bipush 6, 2) := by decide +kernel
theorem dX10_init_68 : decode cX10_init 68 = .ok (.newarray .int, 2) := by decide +kernel
theorem dX10_init_70 : decode cX10_init 70 = .ok (.putfield 36, 3) := by decide +kernel
theorem dX10_init_73 : decode cX10_init 73 = .ok (.aload_n 0, 1) := by decide +kernel
theorem dX10_init_74 : decode cX10_init 74 = .ok (.bipush 6, 2) := by decide +kernel
theorem dX10_init_76 : decode cX10_init 76 = .ok (.newarray .int, 2) := by decide +kernel
theorem dX10_init_78 : decode cX10_init 78 = .ok (.putfield 39, 3) := by decide +kernel
theorem dX10_init_81 : decode cX10_init 81 = .ok (.aload_n 0, 1) := by decide +kernel
theorem dX10_init_82 : decode cX10_init 82 = .ok (.iconst 4, 1) := by decide +kernel
theorem dX10_init_83 : decode cX10_init 83 = .ok (.newarray .int, 2) := by decide +kernel
theorem dX10_init_85 : decode cX10_init 85 = .ok (.putfield 42, 3) := by decide +kernel
theorem dX10_init_88 : decode cX10_init 88 = .ok (.aload_n 0, 1) := by decide +kernel
theorem dX10_init_89 : decode cX10_init 89 = .ok (.iconst 4, 1) := by decide +kernel
theorem dX10_init_90 : decode cX10_init 90 = .ok (.newarray .int, 2) := by decide +kernel
theorem dX10_init_92 : decode cX10_init 92 = .ok (.putfield 45, 3) := by decide +kernel
theorem dX10_init_95 : decode cX10_init 95 = .ok (.aload_n 0, 1) := by decide +kernel
theorem dX10_init_96 : decode cX10_init 96 = .ok (.sipush 150, 3) := by decide +kernel
theorem dX10_init_99 : decode cX10_init 99 = .ok (.newarray .int, 2) := by decide +kernel
theorem dX10_init_101 : decode cX10_init 101 = .ok (.putfield 48, 3) := by decide +kernel
theorem dX10_init_104 : decode cX10_init 104 = .ok (.aload_n 0, 1) := by decide +kernel
theorem dX10_init_105 : decode cX10_init 105 = .ok (.bipush 78, 2) := by decide +kernel
theorem dX10_init_107 : decode cX10_init 107 = .ok (.newarray .int, 2) := by decide +kernel
theorem dX10_init_109 : decode cX10_init 109 = .ok (.putfield 51, 3) := by decide +kernel
theorem dX10_init_112 : decode cX10_init 112 = .ok (.aload_n 0, 1) := by decide +kernel
theorem dX10_init_113 : decode cX10_init 113 = .ok (.iconst 3, 1) := by decide +kernel
theorem dX10_init_114 : decode cX10_init 114 = .ok (.newarray .int, 2) := by decide +kernel
theorem dX10_init_116 : decode cX10_init 116 = .ok (.putfield 54, 3) := by decide +kernel
theorem dX10_init_119 : decode cX10_init 119 = .ok (.aload_n 0, 1) := by decide +kernel
theorem dX10_init_120 : decode cX10_init 120 = .ok (.getfield 7, 3) := by decide +kernel
theorem dX10_init_123 : decode cX10_init 123 = .ok (.invokestatic 57, 3) := by decide +kernel
theorem dX10_init_126 : decode cX10_init 126 = .ok (.return_, 1) := by decide +kernel
theorem dX10_in_0 : decode cX10_in 0 = .ok (.lload_n 0, 1) := by decide +kernel
theorem dX10_in_1 : decode cX10_in 1 = .ok (.lload_n 2, 1) := by decide +kernel
theorem dX10_in_2 : decode cX10_in 2 = .ok (.lcmp, 1) := by decide +kernel
theorem dX10_in_3 : decode cX10_in 3 = .ok (.ifCond .lt 14, 3) := by decide +kernel
theorem dX10_in_6 : decode cX10_in 6 = .ok (.lload_n 0, 1) := by decide +kernel
theorem dX10_in_7 : decode cX10_in 7 = .ok (.lload 4, 2) := by decide +kernel
theorem dX10_in_9 : decode cX10_in 9 = .ok (.lcmp, 1) := by decide +kernel
theorem dX10_in_10 : decode cX10_in 10 = .ok (.ifCond .gt 7, 3) := by decide +kernel
theorem dX10_in_13 : decode cX10_in 13 = .ok (.iconst 1, 1) := by decide +kernel
theorem dX10_in_14 : decode cX10_in 14 = .ok (.goto 4, 3) := by decide +kernel
theorem dX10_in_17 : decode cX10_in 17 = .ok (.iconst 0, 1) := by decide +kernel
theorem dX10_in_18 : decode cX10_in 18 = .ok (.ireturn, 1) := by decide +kernel
theorem dX10_bad_0 : decode cX10_bad 0 = .ok (.aload_n 0, 1) := by decide +kernel
theorem dX10_bad_1 : decode cX10_bad 1 = .ok (.getfield 20, 3) := by decide +kernel
theorem dX10_bad_4 : decode cX10_bad 4 = .ok (.iconst 0, 1) := by decide +kernel
theorem dX10_bad_5 : decode cX10_bad 5 = .ok (.dup2, 1) := by decide +kernel
theorem dX10_bad_6 : decode cX10_bad 6 = .ok (.iaload, 1) := by decide +kernel
theorem dX10_bad_7 : decode cX10_bad 7 = .ok (.iconst 1, 1) := by decide +kernel
theorem dX10_bad_8 : decode cX10_bad 8 = .ok (.iadd, 1) := by decide +kernel
theorem dX10_bad_9 : decode cX10_bad 9 = .ok (.iastore, 1) := by decide +kernel
theorem dX10_bad_10 : decode cX10_bad 10 = .ok (.iload_n 1, 1) := by decide +kernel
theorem dX10_bad_11 : decode cX10_bad 11 = .ok (.ireturn, 1) := by decide +kernel
theorem dX10_no_0 : decode cX10_no 0 = .ok (.aload_n 0, 1) := by decide +kernel
theorem dX10_no_1 : decode cX10_no 1 = .ok (.getfield 20, 3) := by decide +kernel
theorem dX10_no_4 : decode cX10_no 4 = .ok (.iconst 1, 1) := by decide +kernel
theorem dX10_no_5 : decode cX10_no 5 = .ok (.dup2, 1) := by decide +kernel
theorem dX10_no_6 : decode cX10_no 6 = .ok (.iaload, 1) := by decide +kernel
theorem dX10_no_7 : decode cX10_no 7 = .ok (.iconst 1, 1) := by decide +kernel
theorem dX10_no_8 : decode cX10_no 8 = .ok (.iadd, 1) := by decide +kernel
theorem dX10_no_9 : decode cX10_no 9 = .ok (.iastore, 1) := by decide +kernel
theorem dX10_no_10 : decode cX10_no 10 = .ok (.bipush (-3), 2) := by decide +kernel
theorem dX10_no_12 : decode cX10_no 12 = .ok (.ireturn, 1) := by decide +kernel
theorem dX10_full_0 : decode cX10_full 0 = .ok (.aload_n 0, 1) := by decide +kernel
theorem dX10_full_1 : decode cX10_full 1 = .ok (.getfield 20, 3) := by decide +kernel
theorem dX10_full_4 : decode cX10_full 4 = .ok (.iconst 2, 1) := by decide +kernel
theorem dX10_full_5 : decode cX10_full 5 = .ok (.dup2, 1) := by decide +kernel
theorem dX10_full_6 : decode cX10_full 6 = .ok (.iaload, 1) := by decide +kernel
theorem dX10_full_7 : decode cX10_full 7 = .ok (.iconst 1, 1) := by decide +kernel
theorem dX10_full_8 : decode cX10_full 8 = .ok (.iadd, 1) := by decide +kernel
theorem dX10_full_9 : decode cX10_full 9 = .ok (.iastore, 1) := by decide +kernel
theorem dX10_full_10 : decode cX10_full 10 = .ok (.bipush (-4), 2) := by decide +kernel
theorem dX10_full_12 : decode cX10_full 12 = .ok (.ireturn, 1) := by decide +kernel
theorem dX10_bits_0 : decode cX10_bits 0 = .ok (.iconst 0, 1) := by decide +kernel
theorem dX10_bits_1 : decode cX10_bits 1 = .ok (.istore_n 1, 1) := by decide +kernel
theorem dX10_bits_2 : decode cX10_bits 2 = .ok (.iload_n 0, 1) := by decide +kernel
theorem dX10_bits_3 : decode cX10_bits 3 = .ok (.istore_n 2, 1) := by decide +kernel
theorem dX10_bits_4 : decode cX10_bits 4 = .ok (.iload_n 2, 1) := by decide +kernel
theorem dX10_bits_5 : decode cX10_bits 5 = .ok (.ifCond .le 16, 3) := by decide +kernel
theorem dX10_bits_8 : decode cX10_bits 8 = .ok (.iload_n 1, 1) := by decide +kernel
theorem dX10_bits_9 : decode cX10_bits 9 = .ok (.iload_n 2, 1) := by decide +kernel
theorem dX10_bits_10 : decode cX10_bits 10 = .ok (.iconst 1, 1) := by decide +kernel
theorem dX10_bits_11 : decode cX10_bits 11 = .ok (.iand, 1) := by decide +kernel
theorem dX10_bits_12 : decode cX10_bits 12 = .ok (.iadd, 1) := by decide +kernel
theorem dX10_bits_13 : decode cX10_bits 13 = .ok (.istore_n 1, 1) := by decide +kernel
theorem dX10_bits_14 : decode cX10_bits 14 = .ok (.iload_n 2, 1) := by decide +kernel
theorem dX10_bits_15 : decode cX10_bits 15 = .ok (.iconst 1, 1) := by decide +kernel
theorem dX10_bits_16 : decode cX10_bits 16 = .ok (.ishr, 1) := by decide +kernel
theorem dX10_bits_17 : decode cX10_bits 17 = .ok (.istore_n 2, 1) := by decide +kernel
theorem dX10_bits_18 : decode cX10_bits 18 = .ok (.goto (-14), 3) := by decide +kernel
theorem dX10_bits_21 : decode cX10_bits 21 = .ok (.iload_n 1, 1) := by decide +kernel
theorem dX10_bits_22 : decode cX10_bits 22 = .ok (.ireturn, 1) := by decide +kernel
theorem dX10_has_0 : decode cX10_has 0 = .ok (.iload_n 0, 1) := by decide +kernel
theorem dX10_has_1 : decode cX10_has 1 = .ok (.iload_n 1, 1) := by decide +kernel
theorem dX10_has_2 : decode cX10_has 2 = .ok (.ishr, 1) := by decide +kernel
theorem dX10_has_3 : decode cX10_has 3 = .ok (.iconst 1, 1) := by decide +kernel
theorem dX10_has_4 : decode cX10_has 4 = .ok (.iand, 1) := by decide +kernel
theorem dX10_has_5 : decode cX10_has 5 = .ok (.iconst 1, 1) := by decide +kernel
theorem dX10_has_6 : decode cX10_has 6 = .ok (.if_icmp .ne 7, 3) := by decide +kernel
theorem dX10_has_9 : decode cX10_has 9 = .ok (.iconst 1, 1) := by decide +kernel
theorem dX10_has_10 : decode cX10_has 10 = .ok (.goto 4, 3) := by decide +kernel
theorem dX10_has_13 : decode cX10_has 13 = .ok (.iconst 0, 1) := by decide +kernel
theorem dX10_has_14 : decode cX10_has 14 = .ok (.ireturn, 1) := by decide +kernel
theorem dX10_begin_0 : decode cX10_begin 0 = .ok (.iconst 0, 1) := by decide +kernel
theorem dX10_begin_1 : decode cX10_begin 1 = .ok (.istore_n 1, 1) := by decide +kernel
theorem dX10_begin_2 : decode cX10_begin 2 = .ok (.iload_n 1, 1) := by decide +kernel
theorem dX10_begin_3 : decode cX10_begin 3 = .ok (.bipush 78, 2) := by decide +kernel
theorem dX10_begin_5 : decode cX10_begin 5 = .ok (.if_icmp .ge 13, 3) := by decide +kernel
theorem dX10_begin_8 : decode cX10_begin 8 = .ok (.aload_n 0, 1) := by decide +kernel
theorem dX10_begin_9 : decode cX10_begin 9 = .ok (.iload_n 1, 1) := by decide +kernel
theorem dX10_begin_10 : decode cX10_begin 10 = .ok (.iconst 0, 1) := by decide +kernel
theorem dX10_begin_11 : decode cX10_begin 11 = .ok (.iastore, 1) := by decide +kernel
theorem dX10_begin_12 : decode cX10_begin 12 = .ok (.iinc 1 1, 3) := by decide +kernel
theorem dX10_begin_15 : decode cX10_begin 15 = .ok (.goto (-13), 3) := by decide +kernel
theorem dX10_begin_18 : decode cX10_begin 18 = .ok (.return_, 1) := by decide +kernel
theorem dX10_many_0 : decode cX10_many 0 = .ok (.aload_n 0, 1) := by decide +kernel
theorem dX10_many_1 : decode cX10_many 1 = .ok (.getfield 7, 3) := by decide +kernel
theorem dX10_many_4 : decode cX10_many 4 = .ok (.iconst 0, 1) := by decide +kernel
theorem dX10_many_5 : decode cX10_many 5 = .ok (.iaload, 1) := by decide +kernel
theorem dX10_many_6 : decode cX10_many 6 = .ok (.ireturn, 1) := by decide +kernel
theorem dX10_isInfant_0 : decode cX10_isInfant 0 = .ok (.iload_n 1, 1) := by decide +kernel
theorem dX10_isInfant_1 : decode cX10_isInfant 1 = .ok (.i2l, 1) := by decide +kernel
theorem dX10_isInfant_2 : decode cX10_isInfant 2 = .ok (.lconst 0, 1) := by decide +kernel
theorem dX10_isInfant_3 : decode cX10_isInfant 3 = .ok (.aload_n 0, 1) := by decide +kernel
theorem dX10_isInfant_4 : decode cX10_isInfant 4 = .ok (.invokevirtual 61, 3) := by decide +kernel
theorem dX10_isInfant_7 : decode cX10_isInfant 7 = .ok (.iconst 1, 1) := by decide +kernel
theorem dX10_isInfant_8 : decode cX10_isInfant 8 = .ok (.isub, 1) := by decide +kernel
theorem dX10_isInfant_9 : decode cX10_isInfant 9 = .ok (.i2l, 1) := by decide +kernel
theorem dX10_isInfant_10 : decode cX10_isInfant 10 = .ok (.invokestatic 65, 3) := by decide +kernel
theorem dX10_isInfant_13 : decode cX10_isInfant 13 = .ok (.ireturn, 1) := by decide +kernel
theorem dX10_isNurse_0 : decode cX10_isNurse 0 = .ok (.iload_n 0, 1) := by decide +kernel
theorem dX10_isNurse_1 : decode cX10_isNurse 1 = .ok (.i2l, 1) := by decide +kernel
theorem dX10_isNurse_2 : decode cX10_isNurse 2 = .ok (.lconst 0, 1) := by decide +kernel
theorem dX10_isNurse_3 : decode cX10_isNurse 3 = .ok (.ldc2_w 69, 3) := by decide +kernel
theorem dX10_isNurse_6 : decode cX10_isNurse 6 = .ok (.invokestatic 65, 3) := by decide +kernel
theorem dX10_isNurse_9 : decode cX10_isNurse 9 = .ok (.ireturn, 1) := by decide +kernel
theorem dX10_isHour_0 : decode cX10_isHour 0 = .ok (.iload_n 0, 1) := by decide +kernel
theorem dX10_isHour_1 : decode cX10_isHour 1 = .ok (.i2l, 1) := by decide +kernel
theorem dX10_isHour_2 : decode cX10_isHour 2 = .ok (.lconst 0, 1) := by decide +kernel
theorem dX10_isHour_3 : decode cX10_isHour 3 = .ok (.ldc2_w 71, 3) := by decide +kernel
theorem dX10_isHour_6 : decode cX10_isHour 6 = .ok (.invokestatic 65, 3) := by decide +kernel
theorem dX10_isHour_9 : decode cX10_isHour 9 = .ok (.ireturn, 1) := by decide +kernel
theorem dX10_court_0 : decode cX10_court 0 = .ok (.aload_n 0, 1) := by decide +kernel
theorem dX10_court_1 : decode cX10_court 1 = .ok (.invokevirtual 61, 3) := by decide +kernel
theorem dX10_court_4 : decode cX10_court 4 = .ok (.istore_n 1, 1) := by decide +kernel
theorem dX10_court_5 : decode cX10_court 5 = .ok (.aload_n 0, 1) := by decide +kernel
theorem dX10_court_6 : decode cX10_court 6 = .ok (.getfield 7, 3) := by decide +kernel
theorem dX10_court_9 : decode cX10_court 9 = .ok (.invokestatic 57, 3) := by decide +kernel
theorem dX10_court_12 : decode cX10_court 12 = .ok (.iload_n 1, 1) := by decide +kernel
theorem dX10_court_13 : decode cX10_court 13 = .ok (.ireturn, 1) := by decide +kernel
theorem dX10_layInfant_0 : decode cX10_layInfant 0 = .ok (.aload_n 0, 1) := by decide +kernel
theorem dX10_layInfant_1 : decode cX10_layInfant 1 = .ok (.iconst 0, 1) := by decide +kernel
theorem dX10_layInfant_2 : decode cX10_layInfant 2 = .ok (.iaload, 1) := by decide +kernel
theorem dX10_layInfant_3 : decode cX10_layInfant 3 = .ok (.istore 4, 2) := by decide +kernel
theorem dX10_layInfant_5 : decode cX10_layInfant 5 = .ok (.aload_n 0, 1) := by decide +kernel
theorem dX10_layInfant_6 : decode cX10_layInfant 6 = .ok (.bipush 24, 2) := by decide +kernel
theorem dX10_layInfant_8 : decode cX10_layInfant 8 = .ok (.iload 4, 2) := by decide +kernel
theorem dX10_layInfant_10 : decode cX10_layInfant 10 = .ok (.iadd, 1) := by decide +kernel
theorem dX10_layInfant_11 : decode cX10_layInfant 11 = .ok (.iload_n 1, 1) := by decide +kernel
theorem dX10_layInfant_12 : decode cX10_layInfant 12 = .ok (.iastore, 1) := by decide +kernel
theorem dX10_layInfant_13 : decode cX10_layInfant 13 = .ok (.aload_n 0, 1) := by decide +kernel
theorem dX10_layInfant_14 : decode cX10_layInfant 14 = .ok (.iconst 4, 1) := by decide +kernel
theorem dX10_layInfant_15 : decode cX10_layInfant 15 = .ok (.iload 4, 2) := by decide +kernel
theorem dX10_layInfant_17 : decode cX10_layInfant 17 = .ok (.iadd, 1) := by decide +kernel
theorem dX10_layInfant_18 : decode cX10_layInfant 18 = .ok (.iload_n 2, 1) := by decide +kernel
theorem dX10_layInfant_19 : decode cX10_layInfant 19 = .ok (.iastore, 1) := by decide +kernel
theorem dX10_layInfant_20 : decode cX10_layInfant 20 = .ok (.aload_n 0, 1) := by decide +kernel
theorem dX10_layInfant_21 : decode cX10_layInfant 21 = .ok (.bipush 30, 2) := by decide +kernel
theorem dX10_layInfant_23 : decode cX10_layInfant 23 = .ok (.iload 4, 2) := by decide +kernel
theorem dX10_layInfant_25 : decode cX10_layInfant 25 = .ok (.iadd, 1) := by decide +kernel
theorem dX10_layInfant_26 : decode cX10_layInfant 26 = .ok (.iload_n 3, 1) := by decide +kernel
theorem dX10_layInfant_27 : decode cX10_layInfant 27 = .ok (.iastore, 1) := by decide +kernel
theorem dX10_layInfant_28 : decode cX10_layInfant 28 = .ok (.aload_n 0, 1) := by decide +kernel
theorem dX10_layInfant_29 : decode cX10_layInfant 29 = .ok (.bipush 11, 2) := by decide +kernel
theorem dX10_layInfant_31 : decode cX10_layInfant 31 = .ok (.iload 4, 2) := by decide +kernel
theorem dX10_layInfant_33 : decode cX10_layInfant 33 = .ok (.iadd, 1) := by decide +kernel
theorem dX10_layInfant_34 : decode cX10_layInfant 34 = .ok (.iload 4, 2) := by decide +kernel
theorem dX10_layInfant_36 : decode cX10_layInfant 36 = .ok (.iastore, 1) := by decide +kernel
theorem dX10_layInfant_37 : decode cX10_layInfant 37 = .ok (.aload_n 0, 1) := by decide +kernel
theorem dX10_layInfant_38 : decode cX10_layInfant 38 = .ok (.iconst 0, 1) := by decide +kernel
theorem dX10_layInfant_39 : decode cX10_layInfant 39 = .ok (.dup2, 1) := by decide +kernel
theorem dX10_layInfant_40 : decode cX10_layInfant 40 = .ok (.iaload, 1) := by decide +kernel
theorem dX10_layInfant_41 : decode cX10_layInfant 41 = .ok (.iconst 1, 1) := by decide +kernel
theorem dX10_layInfant_42 : decode cX10_layInfant 42 = .ok (.iadd, 1) := by decide +kernel
theorem dX10_layInfant_43 : decode cX10_layInfant 43 = .ok (.iastore, 1) := by decide +kernel
theorem dX10_layInfant_44 : decode cX10_layInfant 44 = .ok (.return_, 1) := by decide +kernel
theorem dX10_infant_0 : decode cX10_infant 0 = .ok (.iload_n 1, 1) := by decide +kernel
theorem dX10_infant_1 : decode cX10_infant 1 = .ok (.i2l, 1) := by decide +kernel
theorem dX10_infant_2 : decode cX10_infant 2 = .ok (.lconst 0, 1) := by decide +kernel
theorem dX10_infant_3 : decode cX10_infant 3 = .ok (.ldc2_w 69, 3) := by decide +kernel
theorem dX10_infant_6 : decode cX10_infant 6 = .ok (.invokestatic 65, 3) := by decide +kernel
theorem dX10_infant_9 : decode cX10_infant 9 = .ok (.ifCond .eq 27, 3) := by decide +kernel
theorem dX10_infant_12 : decode cX10_infant 12 = .ok (.iload_n 2, 1) := by decide +kernel
theorem dX10_infant_13 : decode cX10_infant 13 = .ok (.i2l, 1) := by decide +kernel
theorem dX10_infant_14 : decode cX10_infant 14 = .ok (.lconst 0, 1) := by decide +kernel
theorem dX10_infant_15 : decode cX10_infant 15 = .ok (.ldc2_w 73, 3) := by decide +kernel
theorem dX10_infant_18 : decode cX10_infant 18 = .ok (.invokestatic 65, 3) := by decide +kernel
theorem dX10_infant_21 : decode cX10_infant 21 = .ok (.ifCond .eq 15, 3) := by decide +kernel
theorem dX10_infant_24 : decode cX10_infant 24 = .ok (.iload_n 3, 1) := by decide +kernel
theorem dX10_infant_25 : decode cX10_infant 25 = .ok (.i2l, 1) := by decide +kernel
theorem dX10_infant_26 : decode cX10_infant 26 = .ok (.lconst 0, 1) := by decide +kernel
theorem dX10_infant_27 : decode cX10_infant 27 = .ok (.ldc2_w 69, 3) := by decide +kernel
theorem dX10_infant_30 : decode cX10_infant 30 = .ok (.invokestatic 65, 3) := by decide +kernel
theorem dX10_infant_33 : decode cX10_infant 33 = .ok (.ifCond .ne 10, 3) := by decide +kernel
theorem dX10_infant_36 : decode cX10_infant 36 = .ok (.aload_n 0, 1) := by decide +kernel
theorem dX10_infant_37 : decode cX10_infant 37 = .ok (.bipush (-2), 2) := by decide +kernel
theorem dX10_infant_39 : decode cX10_infant 39 = .ok (.invokevirtual 75, 3) := by decide +kernel
theorem dX10_infant_42 : decode cX10_infant 42 = .ok (.ireturn, 1) := by decide +kernel
theorem dX10_infant_43 : decode cX10_infant 43 = .ok (.aload_n 0, 1) := by decide +kernel
theorem dX10_infant_44 : decode cX10_infant 44 = .ok (.invokevirtual 61, 3) := by decide +kernel
theorem dX10_infant_47 : decode cX10_infant 47 = .ok (.bipush 6, 2) := by decide +kernel
theorem dX10_infant_49 : decode cX10_infant 49 = .ok (.if_icmp .ne 8, 3) := by decide +kernel
theorem dX10_infant_52 : decode cX10_infant 52 = .ok (.aload_n 0, 1) := by decide +kernel
theorem dX10_infant_53 : decode cX10_infant 53 = .ok (.invokevirtual 79, 3) := by decide +kernel
theorem dX10_infant_56 : decode cX10_infant 56 = .ok (.ireturn, 1) := by decide +kernel
theorem dX10_infant_57 : decode cX10_infant 57 = .ok (.aload_n 0, 1) := by decide +kernel
theorem dX10_infant_58 : decode cX10_infant 58 = .ok (.getfield 7, 3) := by decide +kernel
theorem dX10_infant_61 : decode cX10_infant 61 = .ok (.iload_n 1, 1) := by decide +kernel
theorem dX10_infant_62 : decode cX10_infant 62 = .ok (.iload_n 2, 1) := by decide +kernel
theorem dX10_infant_63 : decode cX10_infant 63 = .ok (.iload_n 3, 1) := by decide +kernel
theorem dX10_infant_64 : decode cX10_infant 64 = .ok (.invokestatic 82, 3) := by decide +kernel
theorem dX10_infant_67 : decode cX10_infant 67 = .ok (.aload_n 0, 1) := by decide +kernel
theorem dX10_infant_68 : decode cX10_infant 68 = .ok (.getfield 7, 3) := by decide +kernel
theorem dX10_infant_71 : decode cX10_infant 71 = .ok (.iconst 3, 1) := by decide +kernel
theorem dX10_infant_72 : decode cX10_infant 72 = .ok (.iconst 0, 1) := by decide +kernel
theorem dX10_infant_73 : decode cX10_infant 73 = .ok (.iastore, 1) := by decide +kernel
theorem dX10_infant_74 : decode cX10_infant 74 = .ok (.aload_n 0, 1) := by decide +kernel
theorem dX10_infant_75 : decode cX10_infant 75 = .ok (.invokevirtual 61, 3) := by decide +kernel
theorem dX10_infant_78 : decode cX10_infant 78 = .ok (.iconst 1, 1) := by decide +kernel
theorem dX10_infant_79 : decode cX10_infant 79 = .ok (.isub, 1) := by decide +kernel
theorem dX10_infant_80 : decode cX10_infant 80 = .ok (.ireturn, 1) := by decide +kernel
theorem dX10_skill_0 : decode cX10_skill 0 = .ok (.iload_n 1, 1) := by decide +kernel
theorem dX10_skill_1 : decode cX10_skill 1 = .ok (.invokestatic 86, 3) := by decide +kernel
theorem dX10_skill_4 : decode cX10_skill 4 = .ok (.ifCond .eq 15, 3) := by decide +kernel
theorem dX10_skill_7 : decode cX10_skill 7 = .ok (.iload_n 2, 1) := by decide +kernel
theorem dX10_skill_8 : decode cX10_skill 8 = .ok (.i2l, 1) := by decide +kernel
theorem dX10_skill_9 : decode cX10_skill 9 = .ok (.lconst 0, 1) := by decide +kernel
theorem dX10_skill_10 : decode cX10_skill 10 = .ok (.ldc2_w 90, 3) := by decide +kernel
theorem dX10_skill_13 : decode cX10_skill 13 = .ok (.invokestatic 65, 3) := by decide +kernel
theorem dX10_skill_16 : decode cX10_skill 16 = .ok (.ifCond .ne 10, 3) := by decide +kernel
theorem dX10_skill_19 : decode cX10_skill 19 = .ok (.aload_n 0, 1) := by decide +kernel
theorem dX10_skill_20 : decode cX10_skill 20 = .ok (.bipush (-2), 2) := by decide +kernel
theorem dX10_skill_22 : decode cX10_skill 22 = .ok (.invokevirtual 75, 3) := by decide +kernel
theorem dX10_skill_25 : decode cX10_skill 25 = .ok (.ireturn, 1) := by decide +kernel
theorem dX10_skill_26 : decode cX10_skill 26 = .ok (.aload_n 0, 1) := by decide +kernel
theorem dX10_skill_27 : decode cX10_skill 27 = .ok (.getfield 7, 3) := by decide +kernel
theorem dX10_skill_30 : decode cX10_skill 30 = .ok (.bipush 18, 2) := by decide +kernel
theorem dX10_skill_32 : decode cX10_skill 32 = .ok (.iload_n 1, 1) := by decide +kernel
theorem dX10_skill_33 : decode cX10_skill 33 = .ok (.iadd, 1) := by decide +kernel
theorem dX10_skill_34 : decode cX10_skill 34 = .ok (.iaload, 1) := by decide +kernel
theorem dX10_skill_35 : decode cX10_skill 35 = .ok (.istore_n 3, 1) := by decide +kernel
theorem dX10_skill_36 : decode cX10_skill 36 = .ok (.aload_n 0, 1) := by decide +kernel
theorem dX10_skill_37 : decode cX10_skill 37 = .ok (.getfield 7, 3) := by decide +kernel
theorem dX10_skill_40 : decode cX10_skill 40 = .ok (.bipush 18, 2) := by decide +kernel
theorem dX10_skill_42 : decode cX10_skill 42 = .ok (.iload_n 1, 1) := by decide +kernel
theorem dX10_skill_43 : decode cX10_skill 43 = .ok (.iadd, 1) := by decide +kernel
theorem dX10_skill_44 : decode cX10_skill 44 = .ok (.iload_n 2, 1) := by decide +kernel
theorem dX10_skill_45 : decode cX10_skill 45 = .ok (.iastore, 1) := by decide +kernel
theorem dX10_skill_46 : decode cX10_skill 46 = .ok (.aload_n 0, 1) := by decide +kernel
theorem dX10_skill_47 : decode cX10_skill 47 = .ok (.getfield 7, 3) := by decide +kernel
theorem dX10_skill_50 : decode cX10_skill 50 = .ok (.iconst 3, 1) := by decide +kernel
theorem dX10_skill_51 : decode cX10_skill 51 = .ok (.iconst 0, 1) := by decide +kernel
theorem dX10_skill_52 : decode cX10_skill 52 = .ok (.iastore, 1) := by decide +kernel
theorem dX10_skill_53 : decode cX10_skill 53 = .ok (.iload_n 3, 1) := by decide +kernel
theorem dX10_skill_54 : decode cX10_skill 54 = .ok (.ireturn, 1) := by decide +kernel
theorem dX10_sleepsAs_0 : decode cX10_sleepsAs 0 = .ok (.iload_n 1, 1) := by decide +kernel
theorem dX10_sleepsAs_1 : decode cX10_sleepsAs 1 = .ok (.bipush 19, 2) := by decide +kernel
theorem dX10_sleepsAs_3 : decode cX10_sleepsAs 3 = .ok (.if_icmp .ge 21, 3) := by decide +kernel
theorem dX10_sleepsAs_6 : decode cX10_sleepsAs 6 = .ok (.iload_n 1, 1) := by decide +kernel
theorem dX10_sleepsAs_7 : decode cX10_sleepsAs 7 = .ok (.bipush 7, 2) := by decide +kernel
theorem dX10_sleepsAs_9 : decode cX10_sleepsAs 9 = .ok (.if_icmp .lt 15, 3) := by decide +kernel
theorem dX10_sleepsAs_12 : decode cX10_sleepsAs 12 = .ok (.iload_n 1, 1) := by decide +kernel
theorem dX10_sleepsAs_13 : decode cX10_sleepsAs 13 = .ok (.bipush 12, 2) := by decide +kernel
theorem dX10_sleepsAs_15 : decode cX10_sleepsAs 15 = .ok (.if_icmp .eq 9, 3) := by decide +kernel
theorem dX10_sleepsAs_18 : decode cX10_sleepsAs 18 = .ok (.iload_n 1, 1) := by decide +kernel
theorem dX10_sleepsAs_19 : decode cX10_sleepsAs 19 = .ok (.bipush 13, 2) := by decide +kernel
theorem dX10_sleepsAs_21 : decode cX10_sleepsAs 21 = .ok (.if_icmp .ne 7, 3) := by decide +kernel
theorem dX10_sleepsAs_24 : decode cX10_sleepsAs 24 = .ok (.iconst 1, 1) := by decide +kernel
theorem dX10_sleepsAs_25 : decode cX10_sleepsAs 25 = .ok (.goto 4, 3) := by decide +kernel
theorem dX10_sleepsAs_28 : decode cX10_sleepsAs 28 = .ok (.iconst 0, 1) := by decide +kernel
theorem dX10_sleepsAs_29 : decode cX10_sleepsAs 29 = .ok (.istore_n 2, 1) := by decide +kernel
theorem dX10_sleepsAs_30 : decode cX10_sleepsAs 30 = .ok (.iload_n 0, 1) := by decide +kernel
theorem dX10_sleepsAs_31 : decode cX10_sleepsAs 31 = .ok (.tableswitch 87 2 5 #[29, 87, 49, 71], 29) := by decide +kernel
theorem dX10_sleepsAs_60 : decode cX10_sleepsAs 60 = .ok (.iload_n 2, 1) := by decide +kernel
theorem dX10_sleepsAs_61 : decode cX10_sleepsAs 61 = .ok (.ifCond .eq 17, 3) := by decide +kernel
theorem dX10_sleepsAs_64 : decode cX10_sleepsAs 64 = .ok (.iload_n 1, 1) := by decide +kernel
theorem dX10_sleepsAs_65 : decode cX10_sleepsAs 65 = .ok (.iconst 2, 1) := by decide +kernel
theorem dX10_sleepsAs_66 : decode cX10_sleepsAs 66 = .ok (.if_icmp .eq 12, 3) := by decide +kernel
theorem dX10_sleepsAs_69 : decode cX10_sleepsAs 69 = .ok (.iload_n 1, 1) := by decide +kernel
theorem dX10_sleepsAs_70 : decode cX10_sleepsAs 70 = .ok (.iconst 3, 1) := by decide +kernel
theorem dX10_sleepsAs_71 : decode cX10_sleepsAs 71 = .ok (.if_icmp .eq 7, 3) := by decide +kernel
theorem dX10_sleepsAs_74 : decode cX10_sleepsAs 74 = .ok (.iconst 1, 1) := by decide +kernel
theorem dX10_sleepsAs_75 : decode cX10_sleepsAs 75 = .ok (.goto 4, 3) := by decide +kernel
theorem dX10_sleepsAs_78 : decode cX10_sleepsAs 78 = .ok (.iconst 0, 1) := by decide +kernel
theorem dX10_sleepsAs_79 : decode cX10_sleepsAs 79 = .ok (.ireturn, 1) := by decide +kernel
theorem dX10_sleepsAs_80 : decode cX10_sleepsAs 80 = .ok (.iload_n 2, 1) := by decide +kernel
theorem dX10_sleepsAs_81 : decode cX10_sleepsAs 81 = .ok (.ifCond .eq 9, 3) := by decide +kernel
theorem dX10_sleepsAs_84 : decode cX10_sleepsAs 84 = .ok (.iload_n 1, 1) := by decide +kernel
theorem dX10_sleepsAs_85 : decode cX10_sleepsAs 85 = .ok (.bipush 12, 2) := by decide +kernel
theorem dX10_sleepsAs_87 : decode cX10_sleepsAs 87 = .ok (.if_icmp .ne 9, 3) := by decide +kernel
theorem dX10_sleepsAs_90 : decode cX10_sleepsAs 90 = .ok (.iload_n 1, 1) := by decide +kernel
theorem dX10_sleepsAs_91 : decode cX10_sleepsAs 91 = .ok (.bipush 14, 2) := by decide +kernel
theorem dX10_sleepsAs_93 : decode cX10_sleepsAs 93 = .ok (.if_icmp .ne 7, 3) := by decide +kernel
theorem dX10_sleepsAs_96 : decode cX10_sleepsAs 96 = .ok (.iconst 1, 1) := by decide +kernel
theorem dX10_sleepsAs_97 : decode cX10_sleepsAs 97 = .ok (.goto 4, 3) := by decide +kernel
theorem dX10_sleepsAs_100 : decode cX10_sleepsAs 100 = .ok (.iconst 0, 1) := by decide +kernel
theorem dX10_sleepsAs_101 : decode cX10_sleepsAs 101 = .ok (.ireturn, 1) := by decide +kernel
theorem dX10_sleepsAs_102 : decode cX10_sleepsAs 102 = .ok (.iload_n 2, 1) := by decide +kernel
theorem dX10_sleepsAs_103 : decode cX10_sleepsAs 103 = .ok (.ifCond .ne 9, 3) := by decide +kernel
theorem dX10_sleepsAs_106 : decode cX10_sleepsAs 106 = .ok (.iload_n 1, 1) := by decide +kernel
theorem dX10_sleepsAs_107 : decode cX10_sleepsAs 107 = .ok (.bipush 17, 2) := by decide +kernel
theorem dX10_sleepsAs_109 : decode cX10_sleepsAs 109 = .ok (.if_icmp .ne 7, 3) := by decide +kernel
theorem dX10_sleepsAs_112 : decode cX10_sleepsAs 112 = .ok (.iconst 1, 1) := by decide +kernel
theorem dX10_sleepsAs_113 : decode cX10_sleepsAs 113 = .ok (.goto 4, 3) := by decide +kernel
theorem dX10_sleepsAs_116 : decode cX10_sleepsAs 116 = .ok (.iconst 0, 1) := by decide +kernel
theorem dX10_sleepsAs_117 : decode cX10_sleepsAs 117 = .ok (.ireturn, 1) := by decide +kernel
theorem dX10_sleepsAs_118 : decode cX10_sleepsAs 118 = .ok (.iload_n 2, 1) := by decide +kernel
theorem dX10_sleepsAs_119 : decode cX10_sleepsAs 119 = .ok (.ireturn, 1) := by decide +kernel
theorem dX10_criesAs_0 : decode cX10_criesAs 0 = .ok (.iload_n 1, 1) := by decide +kernel
theorem dX10_criesAs_1 : decode cX10_criesAs 1 = .ok (.bipush 6, 2) := by decide +kernel
theorem dX10_criesAs_3 : decode cX10_criesAs 3 = .ok (.if_icmp .ge 7, 3) := by decide +kernel
theorem dX10_criesAs_6 : decode cX10_criesAs 6 = .ok (.iconst 3, 1) := by decide +kernel
theorem dX10_criesAs_7 : decode cX10_criesAs 7 = .ok (.goto 4, 3) := by decide +kernel
theorem dX10_criesAs_10 : decode cX10_criesAs 10 = .ok (.iconst 2, 1) := by decide +kernel
theorem dX10_criesAs_11 : decode cX10_criesAs 11 = .ok (.istore_n 2, 1) := by decide +kernel
theorem dX10_criesAs_12 : decode cX10_criesAs 12 = .ok (.iload_n 0, 1) := by decide +kernel
theorem dX10_criesAs_13 : decode cX10_criesAs 13 = .ok (.tableswitch 67 1 5 #[35, 39, 67, 67, 61], 35) := by decide +kernel
theorem dX10_criesAs_48 : decode cX10_criesAs 48 = .ok (.iconst 2, 1) := by decide +kernel
theorem dX10_criesAs_49 : decode cX10_criesAs 49 = .ok (.iload_n 2, 1) := by decide +kernel
theorem dX10_criesAs_50 : decode cX10_criesAs 50 = .ok (.imul, 1) := by decide +kernel
theorem dX10_criesAs_51 : decode cX10_criesAs 51 = .ok (.ireturn, 1) := by decide +kernel
theorem dX10_criesAs_52 : decode cX10_criesAs 52 = .ok (.iload_n 1, 1) := by decide +kernel
theorem dX10_criesAs_53 : decode cX10_criesAs 53 = .ok (.i2l, 1) := by decide +kernel
theorem dX10_criesAs_54 : decode cX10_criesAs 54 = .ok (.ldc2_w 92, 3) := by decide +kernel
theorem dX10_criesAs_57 : decode cX10_criesAs 57 = .ok (.ldc2_w 94, 3) := by decide +kernel
theorem dX10_criesAs_60 : decode cX10_criesAs 60 = .ok (.invokestatic 65, 3) := by decide +kernel
theorem dX10_criesAs_63 : decode cX10_criesAs 63 = .ok (.ifCond .eq 9, 3) := by decide +kernel
theorem dX10_criesAs_66 : decode cX10_criesAs 66 = .ok (.iload_n 2, 1) := by decide +kernel
theorem dX10_criesAs_67 : decode cX10_criesAs 67 = .ok (.iconst 3, 1) := by decide +kernel
theorem dX10_criesAs_68 : decode cX10_criesAs 68 = .ok (.iadd, 1) := by decide +kernel
theorem dX10_criesAs_69 : decode cX10_criesAs 69 = .ok (.goto 4, 3) := by decide +kernel
theorem dX10_criesAs_72 : decode cX10_criesAs 72 = .ok (.iload_n 2, 1) := by decide +kernel
theorem dX10_criesAs_73 : decode cX10_criesAs 73 = .ok (.ireturn, 1) := by decide +kernel
theorem dX10_criesAs_74 : decode cX10_criesAs 74 = .ok (.iconst 2, 1) := by decide +kernel
theorem dX10_criesAs_75 : decode cX10_criesAs 75 = .ok (.iload_n 2, 1) := by decide +kernel
theorem dX10_criesAs_76 : decode cX10_criesAs 76 = .ok (.imul, 1) := by decide +kernel
theorem dX10_criesAs_77 : decode cX10_criesAs 77 = .ok (.iconst 1, 1) := by decide +kernel
theorem dX10_criesAs_78 : decode cX10_criesAs 78 = .ok (.isub, 1) := by decide +kernel
theorem dX10_criesAs_79 : decode cX10_criesAs 79 = .ok (.ireturn, 1) := by decide +kernel
theorem dX10_criesAs_80 : decode cX10_criesAs 80 = .ok (.iload_n 2, 1) := by decide +kernel
theorem dX10_criesAs_81 : decode cX10_criesAs 81 = .ok (.ireturn, 1) := by decide +kernel
theorem dX10_walksAs_0 : decode cX10_walksAs 0 = .ok (.iload_n 0, 1) := by decide +kernel
theorem dX10_walksAs_1 : decode cX10_walksAs 1 = .ok (.iconst 3, 1) := by decide +kernel
theorem dX10_walksAs_2 : decode cX10_walksAs 2 = .ok (.if_icmp .ne 8, 3) := by decide +kernel
theorem dX10_walksAs_5 : decode cX10_walksAs 5 = .ok (.bipush 11, 2) := by decide +kernel
theorem dX10_walksAs_7 : decode cX10_walksAs 7 = .ok (.goto 15, 3) := by decide +kernel
theorem dX10_walksAs_10 : decode cX10_walksAs 10 = .ok (.iload_n 0, 1) := by decide +kernel
theorem dX10_walksAs_11 : decode cX10_walksAs 11 = .ok (.iconst 4, 1) := by decide +kernel
theorem dX10_walksAs_12 : decode cX10_walksAs 12 = .ok (.if_icmp .ne 8, 3) := by decide +kernel
theorem dX10_walksAs_15 : decode cX10_walksAs 15 = .ok (.bipush 18, 2) := by decide +kernel
theorem dX10_walksAs_17 : decode cX10_walksAs 17 = .ok (.goto 5, 3) := by decide +kernel
theorem dX10_walksAs_20 : decode cX10_walksAs 20 = .ok (.bipush 14, 2) := by decide +kernel
theorem dX10_walksAs_22 : decode cX10_walksAs 22 = .ok (.ireturn, 1) := by decide +kernel
theorem dX10_kindOf_0 : decode cX10_kindOf 0 = .ok (.aload_n 0, 1) := by decide +kernel
theorem dX10_kindOf_1 : decode cX10_kindOf 1 = .ok (.getfield 7, 3) := by decide +kernel
theorem dX10_kindOf_4 : decode cX10_kindOf 4 = .ok (.bipush 24, 2) := by decide +kernel
theorem dX10_kindOf_6 : decode cX10_kindOf 6 = .ok (.iload_n 1, 1) := by decide +kernel
theorem dX10_kindOf_7 : decode cX10_kindOf 7 = .ok (.iadd, 1) := by decide +kernel
theorem dX10_kindOf_8 : decode cX10_kindOf 8 = .ok (.iaload, 1) := by decide +kernel
theorem dX10_kindOf_9 : decode cX10_kindOf 9 = .ok (.ireturn, 1) := by decide +kernel
theorem dX10_isAwake_0 : decode cX10_isAwake 0 = .ok (.aload_n 0, 1) := by decide +kernel
theorem dX10_isAwake_1 : decode cX10_isAwake 1 = .ok (.iload_n 1, 1) := by decide +kernel
theorem dX10_isAwake_2 : decode cX10_isAwake 2 = .ok (.invokevirtual 96, 3) := by decide +kernel
theorem dX10_isAwake_5 : decode cX10_isAwake 5 = .ok (.iload_n 2, 1) := by decide +kernel
theorem dX10_isAwake_6 : decode cX10_isAwake 6 = .ok (.invokestatic 99, 3) := by decide +kernel
theorem dX10_isAwake_9 : decode cX10_isAwake 9 = .ok (.ifCond .ne 7, 3) := by decide +kernel
theorem dX10_isAwake_12 : decode cX10_isAwake 12 = .ok (.iconst 1, 1) := by decide +kernel
theorem dX10_isAwake_13 : decode cX10_isAwake 13 = .ok (.goto 4, 3) := by decide +kernel
theorem dX10_isAwake_16 : decode cX10_isAwake 16 = .ok (.iconst 0, 1) := by decide +kernel
theorem dX10_isAwake_17 : decode cX10_isAwake 17 = .ok (.ireturn, 1) := by decide +kernel
theorem dX10_criesBy_0 : decode cX10_criesBy 0 = .ok (.aload_n 0, 1) := by decide +kernel
theorem dX10_criesBy_1 : decode cX10_criesBy 1 = .ok (.iload_n 1, 1) := by decide +kernel
theorem dX10_criesBy_2 : decode cX10_criesBy 2 = .ok (.invokevirtual 96, 3) := by decide +kernel
theorem dX10_criesBy_5 : decode cX10_criesBy 5 = .ok (.aload_n 0, 1) := by decide +kernel
theorem dX10_criesBy_6 : decode cX10_criesBy 6 = .ok (.getfield 7, 3) := by decide +kernel
theorem dX10_criesBy_9 : decode cX10_criesBy 9 = .ok (.iconst 4, 1) := by decide +kernel
theorem dX10_criesBy_10 : decode cX10_criesBy 10 = .ok (.iload_n 1, 1) := by decide +kernel
theorem dX10_criesBy_11 : decode cX10_criesBy 11 = .ok (.iadd, 1) := by decide +kernel
theorem dX10_criesBy_12 : decode cX10_criesBy 12 = .ok (.iaload, 1) := by decide +kernel
theorem dX10_criesBy_13 : decode cX10_criesBy 13 = .ok (.invokestatic 103, 3) := by decide +kernel
theorem dX10_criesBy_16 : decode cX10_criesBy 16 = .ok (.aload_n 0, 1) := by decide +kernel
theorem dX10_criesBy_17 : decode cX10_criesBy 17 = .ok (.getfield 7, 3) := by decide +kernel
theorem dX10_criesBy_20 : decode cX10_criesBy 20 = .ok (.bipush 18, 2) := by decide +kernel
theorem dX10_criesBy_22 : decode cX10_criesBy 22 = .ok (.iload_n 2, 1) := by decide +kernel
theorem dX10_criesBy_23 : decode cX10_criesBy 23 = .ok (.iadd, 1) := by decide +kernel
theorem dX10_criesBy_24 : decode cX10_criesBy 24 = .ok (.iaload, 1) := by decide +kernel
theorem dX10_criesBy_25 : decode cX10_criesBy 25 = .ok (.iconst 2, 1) := by decide +kernel
theorem dX10_criesBy_26 : decode cX10_criesBy 26 = .ok (.idiv, 1) := by decide +kernel
theorem dX10_criesBy_27 : decode cX10_criesBy 27 = .ok (.isub, 1) := by decide +kernel
theorem dX10_criesBy_28 : decode cX10_criesBy 28 = .ok (.istore_n 3, 1) := by decide +kernel
theorem dX10_criesBy_29 : decode cX10_criesBy 29 = .ok (.iload_n 3, 1) := by decide +kernel
theorem dX10_criesBy_30 : decode cX10_criesBy 30 = .ok (.ifCond .ge 7, 3) := by decide +kernel
theorem dX10_criesBy_33 : decode cX10_criesBy 33 = .ok (.iconst 0, 1) := by decide +kernel
theorem dX10_criesBy_34 : decode cX10_criesBy 34 = .ok (.goto 4, 3) := by decide +kernel
theorem dX10_criesBy_37 : decode cX10_criesBy 37 = .ok (.iload_n 3, 1) := by decide +kernel
theorem dX10_criesBy_38 : decode cX10_criesBy 38 = .ok (.ireturn, 1) := by decide +kernel
theorem dX10_criesIn_0 : decode cX10_criesIn 0 = .ok (.aload_n 0, 1) := by decide +kernel
theorem dX10_criesIn_1 : decode cX10_criesIn 1 = .ok (.iload_n 1, 1) := by decide +kernel
theorem dX10_criesIn_2 : decode cX10_criesIn 2 = .ok (.iload_n 2, 1) := by decide +kernel
theorem dX10_criesIn_3 : decode cX10_criesIn 3 = .ok (.invokevirtual 107, 3) := by decide +kernel
theorem dX10_criesIn_6 : decode cX10_criesIn 6 = .ok (.ifCond .eq 20, 3) := by decide +kernel
theorem dX10_criesIn_9 : decode cX10_criesIn 9 = .ok (.aload_n 0, 1) := by decide +kernel
theorem dX10_criesIn_10 : decode cX10_criesIn 10 = .ok (.iload_n 1, 1) := by decide +kernel
theorem dX10_criesIn_11 : decode cX10_criesIn 11 = .ok (.aload_n 0, 1) := by decide +kernel
theorem dX10_criesIn_12 : decode cX10_criesIn 12 = .ok (.getfield 7, 3) := by decide +kernel
theorem dX10_criesIn_15 : decode cX10_criesIn 15 = .ok (.bipush 11, 2) := by decide +kernel
theorem dX10_criesIn_17 : decode cX10_criesIn 17 = .ok (.iload_n 1, 1) := by decide +kernel
theorem dX10_criesIn_18 : decode cX10_criesIn 18 = .ok (.iadd, 1) := by decide +kernel
theorem dX10_criesIn_19 : decode cX10_criesIn 19 = .ok (.iaload, 1) := by decide +kernel
theorem dX10_criesIn_20 : decode cX10_criesIn 20 = .ok (.invokevirtual 110, 3) := by decide +kernel
theorem dX10_criesIn_23 : decode cX10_criesIn 23 = .ok (.goto 4, 3) := by decide +kernel
theorem dX10_criesIn_26 : decode cX10_criesIn 26 = .ok (.iconst 0, 1) := by decide +kernel
theorem dX10_criesIn_27 : decode cX10_criesIn 27 = .ok (.ireturn, 1) := by decide +kernel
theorem dX10_dayBy_0 : decode cX10_dayBy 0 = .ok (.iconst 0, 1) := by decide +kernel
theorem dX10_dayBy_1 : decode cX10_dayBy 1 = .ok (.istore_n 3, 1) := by decide +kernel
theorem dX10_dayBy_2 : decode cX10_dayBy 2 = .ok (.iconst 0, 1) := by decide +kernel
theorem dX10_dayBy_3 : decode cX10_dayBy 3 = .ok (.istore 4, 2) := by decide +kernel
theorem dX10_dayBy_5 : decode cX10_dayBy 5 = .ok (.iload 4, 2) := by decide +kernel
theorem dX10_dayBy_7 : decode cX10_dayBy 7 = .ok (.bipush 24, 2) := by decide +kernel
theorem dX10_dayBy_9 : decode cX10_dayBy 9 = .ok (.if_icmp .ge 32, 3) := by decide +kernel
theorem dX10_dayBy_12 : decode cX10_dayBy 12 = .ok (.iload_n 3, 1) := by decide +kernel
theorem dX10_dayBy_13 : decode cX10_dayBy 13 = .ok (.aload_n 0, 1) := by decide +kernel
theorem dX10_dayBy_14 : decode cX10_dayBy 14 = .ok (.iload_n 1, 1) := by decide +kernel
theorem dX10_dayBy_15 : decode cX10_dayBy 15 = .ok (.iload 4, 2) := by decide +kernel
theorem dX10_dayBy_17 : decode cX10_dayBy 17 = .ok (.invokevirtual 107, 3) := by decide +kernel
theorem dX10_dayBy_20 : decode cX10_dayBy 20 = .ok (.ifCond .eq 12, 3) := by decide +kernel
theorem dX10_dayBy_23 : decode cX10_dayBy 23 = .ok (.aload_n 0, 1) := by decide +kernel
theorem dX10_dayBy_24 : decode cX10_dayBy 24 = .ok (.iload_n 1, 1) := by decide +kernel
theorem dX10_dayBy_25 : decode cX10_dayBy 25 = .ok (.iload_n 2, 1) := by decide +kernel
theorem dX10_dayBy_26 : decode cX10_dayBy 26 = .ok (.invokevirtual 110, 3) := by decide +kernel
theorem dX10_dayBy_29 : decode cX10_dayBy 29 = .ok (.goto 4, 3) := by decide +kernel
theorem dX10_dayBy_32 : decode cX10_dayBy 32 = .ok (.iconst 0, 1) := by decide +kernel
theorem dX10_dayBy_33 : decode cX10_dayBy 33 = .ok (.iadd, 1) := by decide +kernel
theorem dX10_dayBy_34 : decode cX10_dayBy 34 = .ok (.istore_n 3, 1) := by decide +kernel
theorem dX10_dayBy_35 : decode cX10_dayBy 35 = .ok (.iinc 4 1, 3) := by decide +kernel
theorem dX10_dayBy_38 : decode cX10_dayBy 38 = .ok (.goto (-33), 3) := by decide +kernel
theorem dX10_dayBy_41 : decode cX10_dayBy 41 = .ok (.iload_n 3, 1) := by decide +kernel
theorem dX10_dayBy_42 : decode cX10_dayBy 42 = .ok (.ireturn, 1) := by decide +kernel
theorem dX10_layHand_0 : decode cX10_layHand 0 = .ok (.iconst 0, 1) := by decide +kernel
theorem dX10_layHand_1 : decode cX10_layHand 1 = .ok (.istore_n 1, 1) := by decide +kernel
theorem dX10_layHand_2 : decode cX10_layHand 2 = .ok (.iload_n 1, 1) := by decide +kernel
theorem dX10_layHand_3 : decode cX10_layHand 3 = .ok (.aload_n 0, 1) := by decide +kernel
theorem dX10_layHand_4 : decode cX10_layHand 4 = .ok (.invokevirtual 61, 3) := by decide +kernel
theorem dX10_layHand_7 : decode cX10_layHand 7 = .ok (.if_icmp .ge 23, 3) := by decide +kernel
theorem dX10_layHand_10 : decode cX10_layHand 10 = .ok (.aload_n 0, 1) := by decide +kernel
theorem dX10_layHand_11 : decode cX10_layHand 11 = .ok (.getfield 27, 3) := by decide +kernel
theorem dX10_layHand_14 : decode cX10_layHand 14 = .ok (.iload_n 1, 1) := by decide +kernel
theorem dX10_layHand_15 : decode cX10_layHand 15 = .ok (.aload_n 0, 1) := by decide +kernel
theorem dX10_layHand_16 : decode cX10_layHand 16 = .ok (.getfield 7, 3) := by decide +kernel
theorem dX10_layHand_19 : decode cX10_layHand 19 = .ok (.iconst 4, 1) := by decide +kernel
theorem dX10_layHand_20 : decode cX10_layHand 20 = .ok (.iload_n 1, 1) := by decide +kernel
theorem dX10_layHand_21 : decode cX10_layHand 21 = .ok (.iadd, 1) := by decide +kernel
theorem dX10_layHand_22 : decode cX10_layHand 22 = .ok (.iaload, 1) := by decide +kernel
theorem dX10_layHand_23 : decode cX10_layHand 23 = .ok (.iastore, 1) := by decide +kernel
theorem dX10_layHand_24 : decode cX10_layHand 24 = .ok (.iinc 1 1, 3) := by decide +kernel
theorem dX10_layHand_27 : decode cX10_layHand 27 = .ok (.goto (-25), 3) := by decide +kernel
theorem dX10_layHand_30 : decode cX10_layHand 30 = .ok (.aload_n 0, 1) := by decide +kernel
theorem dX10_layHand_31 : decode cX10_layHand 31 = .ok (.aload_n 0, 1) := by decide +kernel
theorem dX10_layHand_32 : decode cX10_layHand 32 = .ok (.getfield 7, 3) := by decide +kernel
theorem dX10_layHand_35 : decode cX10_layHand 35 = .ok (.bipush 10, 2) := by decide +kernel
theorem dX10_layHand_37 : decode cX10_layHand 37 = .ok (.iaload, 1) := by decide +kernel
theorem dX10_layHand_38 : decode cX10_layHand 38 = .ok (.putfield 113, 3) := by decide +kernel
theorem dX10_layHand_41 : decode cX10_layHand 41 = .ok (.return_, 1) := by decide +kernel
theorem dX10_reigns_0 : decode cX10_reigns 0 = .ok (.iconst (-1), 1) := by decide +kernel
theorem dX10_reigns_1 : decode cX10_reigns 1 = .ok (.istore_n 1, 1) := by decide +kernel
theorem dX10_reigns_2 : decode cX10_reigns 2 = .ok (.iconst 0, 1) := by decide +kernel
theorem dX10_reigns_3 : decode cX10_reigns 3 = .ok (.istore_n 2, 1) := by decide +kernel
theorem dX10_reigns_4 : decode cX10_reigns 4 = .ok (.iload_n 2, 1) := by decide +kernel
theorem dX10_reigns_5 : decode cX10_reigns 5 = .ok (.aload_n 0, 1) := by decide +kernel
theorem dX10_reigns_6 : decode cX10_reigns 6 = .ok (.invokevirtual 61, 3) := by decide +kernel
theorem dX10_reigns_9 : decode cX10_reigns 9 = .ok (.if_icmp .ge 56, 3) := by decide +kernel
theorem dX10_reigns_12 : decode cX10_reigns 12 = .ok (.iload_n 1, 1) := by decide +kernel
theorem dX10_reigns_13 : decode cX10_reigns 13 = .ok (.iconst (-1), 1) := by decide +kernel
theorem dX10_reigns_14 : decode cX10_reigns 14 = .ok (.if_icmp .eq 18, 3) := by decide +kernel
theorem dX10_reigns_17 : decode cX10_reigns 17 = .ok (.aload_n 0, 1) := by decide +kernel
theorem dX10_reigns_18 : decode cX10_reigns 18 = .ok (.getfield 27, 3) := by decide +kernel
theorem dX10_reigns_21 : decode cX10_reigns 21 = .ok (.iload_n 2, 1) := by decide +kernel
theorem dX10_reigns_22 : decode cX10_reigns 22 = .ok (.iaload, 1) := by decide +kernel
theorem dX10_reigns_23 : decode cX10_reigns 23 = .ok (.aload_n 0, 1) := by decide +kernel
theorem dX10_reigns_24 : decode cX10_reigns 24 = .ok (.getfield 27, 3) := by decide +kernel
theorem dX10_reigns_27 : decode cX10_reigns 27 = .ok (.iload_n 1, 1) := by decide +kernel
theorem dX10_reigns_28 : decode cX10_reigns 28 = .ok (.iaload, 1) := by decide +kernel
theorem dX10_reigns_29 : decode cX10_reigns 29 = .ok (.if_icmp .le 7, 3) := by decide +kernel
theorem dX10_reigns_32 : decode cX10_reigns 32 = .ok (.iconst 1, 1) := by decide +kernel
theorem dX10_reigns_33 : decode cX10_reigns 33 = .ok (.goto 4, 3) := by decide +kernel
theorem dX10_reigns_36 : decode cX10_reigns 36 = .ok (.iconst 0, 1) := by decide +kernel
theorem dX10_reigns_37 : decode cX10_reigns 37 = .ok (.istore_n 3, 1) := by decide +kernel
theorem dX10_reigns_38 : decode cX10_reigns 38 = .ok (.aload_n 0, 1) := by decide +kernel
theorem dX10_reigns_39 : decode cX10_reigns 39 = .ok (.getfield 113, 3) := by decide +kernel
theorem dX10_reigns_42 : decode cX10_reigns 42 = .ok (.iload_n 2, 1) := by decide +kernel
theorem dX10_reigns_43 : decode cX10_reigns 43 = .ok (.invokestatic 117, 3) := by decide +kernel
theorem dX10_reigns_46 : decode cX10_reigns 46 = .ok (.ifCond .ne 11, 3) := by decide +kernel
theorem dX10_reigns_49 : decode cX10_reigns 49 = .ok (.iload_n 3, 1) := by decide +kernel
theorem dX10_reigns_50 : decode cX10_reigns 50 = .ok (.ifCond .eq 7, 3) := by decide +kernel
theorem dX10_reigns_53 : decode cX10_reigns 53 = .ok (.iload_n 2, 1) := by decide +kernel
theorem dX10_reigns_54 : decode cX10_reigns 54 = .ok (.goto 4, 3) := by decide +kernel
theorem dX10_reigns_57 : decode cX10_reigns 57 = .ok (.iload_n 1, 1) := by decide +kernel
theorem dX10_reigns_58 : decode cX10_reigns 58 = .ok (.istore_n 1, 1) := by decide +kernel
theorem dX10_reigns_59 : decode cX10_reigns 59 = .ok (.iinc 2 1, 3) := by decide +kernel
theorem dX10_reigns_62 : decode cX10_reigns 62 = .ok (.goto (-58), 3) := by decide +kernel
theorem dX10_reigns_65 : decode cX10_reigns 65 = .ok (.iload_n 1, 1) := by decide +kernel
theorem dX10_reigns_66 : decode cX10_reigns 66 = .ok (.ireturn, 1) := by decide +kernel
theorem dX10_reignsNow_0 : decode cX10_reignsNow 0 = .ok (.aload_n 0, 1) := by decide +kernel
theorem dX10_reignsNow_1 : decode cX10_reignsNow 1 = .ok (.invokevirtual 120, 3) := by decide +kernel
theorem dX10_reignsNow_4 : decode cX10_reignsNow 4 = .ok (.aload_n 0, 1) := by decide +kernel
theorem dX10_reignsNow_5 : decode cX10_reignsNow 5 = .ok (.invokevirtual 123, 3) := by decide +kernel
theorem dX10_reignsNow_8 : decode cX10_reignsNow 8 = .ok (.ireturn, 1) := by decide +kernel
theorem dX10_goMonth_0 : decode cX10_goMonth 0 = .ok (.iconst 0, 1) := by decide +kernel
theorem dX10_goMonth_1 : decode cX10_goMonth 1 = .ok (.istore_n 1, 1) := by decide +kernel
theorem dX10_goMonth_2 : decode cX10_goMonth 2 = .ok (.iload_n 1, 1) := by decide +kernel
theorem dX10_goMonth_3 : decode cX10_goMonth 3 = .ok (.aload_n 0, 1) := by decide +kernel
theorem dX10_goMonth_4 : decode cX10_goMonth 4 = .ok (.invokevirtual 61, 3) := by decide +kernel
theorem dX10_goMonth_7 : decode cX10_goMonth 7 = .ok (.if_icmp .ge 63, 3) := by decide +kernel
theorem dX10_goMonth_10 : decode cX10_goMonth 10 = .ok (.aload_n 0, 1) := by decide +kernel
theorem dX10_goMonth_11 : decode cX10_goMonth 11 = .ok (.getfield 113, 3) := by decide +kernel
theorem dX10_goMonth_14 : decode cX10_goMonth 14 = .ok (.iload_n 1, 1) := by decide +kernel
theorem dX10_goMonth_15 : decode cX10_goMonth 15 = .ok (.invokestatic 117, 3) := by decide +kernel
theorem dX10_goMonth_18 : decode cX10_goMonth 18 = .ok (.ifCond .ne 46, 3) := by decide +kernel
theorem dX10_goMonth_21 : decode cX10_goMonth 21 = .ok (.aload_n 0, 1) := by decide +kernel
theorem dX10_goMonth_22 : decode cX10_goMonth 22 = .ok (.getfield 27, 3) := by decide +kernel
theorem dX10_goMonth_25 : decode cX10_goMonth 25 = .ok (.iload_n 1, 1) := by decide +kernel
theorem dX10_goMonth_26 : decode cX10_goMonth 26 = .ok (.dup2, 1) := by decide +kernel
theorem dX10_goMonth_27 : decode cX10_goMonth 27 = .ok (.iaload, 1) := by decide +kernel
theorem dX10_goMonth_28 : decode cX10_goMonth 28 = .ok (.iconst 1, 1) := by decide +kernel
theorem dX10_goMonth_29 : decode cX10_goMonth 29 = .ok (.iadd, 1) := by decide +kernel
theorem dX10_goMonth_30 : decode cX10_goMonth 30 = .ok (.iastore, 1) := by decide +kernel
theorem dX10_goMonth_31 : decode cX10_goMonth 31 = .ok (.aload_n 0, 1) := by decide +kernel
theorem dX10_goMonth_32 : decode cX10_goMonth 32 = .ok (.dup, 1) := by decide +kernel
theorem dX10_goMonth_33 : decode cX10_goMonth 33 = .ok (.getfield 113, 3) := by decide +kernel
theorem dX10_goMonth_36 : decode cX10_goMonth 36 = .ok (.aload_n 0, 1) := by decide +kernel
theorem dX10_goMonth_37 : decode cX10_goMonth 37 = .ok (.getfield 27, 3) := by decide +kernel
theorem dX10_goMonth_40 : decode cX10_goMonth 40 = .ok (.iload_n 1, 1) := by decide +kernel
theorem dX10_goMonth_41 : decode cX10_goMonth 41 = .ok (.iaload, 1) := by decide +kernel
theorem dX10_goMonth_42 : decode cX10_goMonth 42 = .ok (.aload_n 0, 1) := by decide +kernel
theorem dX10_goMonth_43 : decode cX10_goMonth 43 = .ok (.iload_n 1, 1) := by decide +kernel
theorem dX10_goMonth_44 : decode cX10_goMonth 44 = .ok (.invokevirtual 96, 3) := by decide +kernel
theorem dX10_goMonth_47 : decode cX10_goMonth 47 = .ok (.invokestatic 126, 3) := by decide +kernel
theorem dX10_goMonth_50 : decode cX10_goMonth 50 = .ok (.if_icmp .lt 9, 3) := by decide +kernel
theorem dX10_goMonth_53 : decode cX10_goMonth 53 = .ok (.iconst 1, 1) := by decide +kernel
theorem dX10_goMonth_54 : decode cX10_goMonth 54 = .ok (.iload_n 1, 1) := by decide +kernel
theorem dX10_goMonth_55 : decode cX10_goMonth 55 = .ok (.ishl, 1) := by decide +kernel
theorem dX10_goMonth_56 : decode cX10_goMonth 56 = .ok (.goto 4, 3) := by decide +kernel
theorem dX10_goMonth_59 : decode cX10_goMonth 59 = .ok (.iconst 0, 1) := by decide +kernel
theorem dX10_goMonth_60 : decode cX10_goMonth 60 = .ok (.ior, 1) := by decide +kernel
theorem dX10_goMonth_61 : decode cX10_goMonth 61 = .ok (.putfield 113, 3) := by decide +kernel
theorem dX10_goMonth_64 : decode cX10_goMonth 64 = .ok (.iinc 1 1, 3) := by decide +kernel
theorem dX10_goMonth_67 : decode cX10_goMonth 67 = .ok (.goto (-65), 3) := by decide +kernel
theorem dX10_goMonth_70 : decode cX10_goMonth 70 = .ok (.return_, 1) := by decide +kernel
theorem dX10_keep_0 : decode cX10_keep 0 = .ok (.aload_n 0, 1) := by decide +kernel
theorem dX10_keep_1 : decode cX10_keep 1 = .ok (.getfield 7, 3) := by decide +kernel
theorem dX10_keep_4 : decode cX10_keep 4 = .ok (.iconst 3, 1) := by decide +kernel
theorem dX10_keep_5 : decode cX10_keep 5 = .ok (.iaload, 1) := by decide +kernel
theorem dX10_keep_6 : decode cX10_keep 6 = .ok (.bipush 8, 2) := by decide +kernel
theorem dX10_keep_8 : decode cX10_keep 8 = .ok (.if_icmp .ne 43, 3) := by decide +kernel
theorem dX10_keep_11 : decode cX10_keep 11 = .ok (.iconst 0, 1) := by decide +kernel
theorem dX10_keep_12 : decode cX10_keep 12 = .ok (.istore_n 1, 1) := by decide +kernel
theorem dX10_keep_13 : decode cX10_keep 13 = .ok (.iload_n 1, 1) := by decide +kernel
theorem dX10_keep_14 : decode cX10_keep 14 = .ok (.bipush 98, 2) := by decide +kernel
theorem dX10_keep_16 : decode cX10_keep 16 = .ok (.if_icmp .ge 27, 3) := by decide +kernel
theorem dX10_keep_19 : decode cX10_keep 19 = .ok (.aload_n 0, 1) := by decide +kernel
theorem dX10_keep_20 : decode cX10_keep 20 = .ok (.getfield 7, 3) := by decide +kernel
theorem dX10_keep_23 : decode cX10_keep 23 = .ok (.bipush 78, 2) := by decide +kernel
theorem dX10_keep_25 : decode cX10_keep 25 = .ok (.iload_n 1, 1) := by decide +kernel
theorem dX10_keep_26 : decode cX10_keep 26 = .ok (.iadd, 1) := by decide +kernel
theorem dX10_keep_27 : decode cX10_keep 27 = .ok (.aload_n 0, 1) := by decide +kernel
theorem dX10_keep_28 : decode cX10_keep 28 = .ok (.getfield 7, 3) := by decide +kernel
theorem dX10_keep_31 : decode cX10_keep 31 = .ok (.bipush 92, 2) := by decide +kernel
theorem dX10_keep_33 : decode cX10_keep 33 = .ok (.iload_n 1, 1) := by decide +kernel
theorem dX10_keep_34 : decode cX10_keep 34 = .ok (.iadd, 1) := by decide +kernel
theorem dX10_keep_35 : decode cX10_keep 35 = .ok (.iaload, 1) := by decide +kernel
theorem dX10_keep_36 : decode cX10_keep 36 = .ok (.iastore, 1) := by decide +kernel
theorem dX10_keep_37 : decode cX10_keep 37 = .ok (.iinc 1 1, 3) := by decide +kernel
theorem dX10_keep_40 : decode cX10_keep 40 = .ok (.goto (-27), 3) := by decide +kernel
theorem dX10_keep_43 : decode cX10_keep 43 = .ok (.aload_n 0, 1) := by decide +kernel
theorem dX10_keep_44 : decode cX10_keep 44 = .ok (.getfield 7, 3) := by decide +kernel
theorem dX10_keep_47 : decode cX10_keep 47 = .ok (.iconst 3, 1) := by decide +kernel
theorem dX10_keep_48 : decode cX10_keep 48 = .ok (.bipush 7, 2) := by decide +kernel
theorem dX10_keep_50 : decode cX10_keep 50 = .ok (.iastore, 1) := by decide +kernel
theorem dX10_keep_51 : decode cX10_keep 51 = .ok (.iconst 0, 1) := by decide +kernel
theorem dX10_keep_52 : decode cX10_keep 52 = .ok (.istore_n 1, 1) := by decide +kernel
theorem dX10_keep_53 : decode cX10_keep 53 = .ok (.iload_n 1, 1) := by decide +kernel
theorem dX10_keep_54 : decode cX10_keep 54 = .ok (.bipush 14, 2) := by decide +kernel
theorem dX10_keep_56 : decode cX10_keep 56 = .ok (.if_icmp .ge 36, 3) := by decide +kernel
theorem dX10_keep_59 : decode cX10_keep 59 = .ok (.aload_n 0, 1) := by decide +kernel
theorem dX10_keep_60 : decode cX10_keep 60 = .ok (.getfield 7, 3) := by decide +kernel
theorem dX10_keep_63 : decode cX10_keep 63 = .ok (.bipush 78, 2) := by decide +kernel
theorem dX10_keep_65 : decode cX10_keep 65 = .ok (.bipush 14, 2) := by decide +kernel
theorem dX10_keep_67 : decode cX10_keep 67 = .ok (.aload_n 0, 1) := by decide +kernel
theorem dX10_keep_68 : decode cX10_keep 68 = .ok (.getfield 7, 3) := by decide +kernel
theorem dX10_keep_71 : decode cX10_keep 71 = .ok (.iconst 3, 1) := by decide +kernel
theorem dX10_keep_72 : decode cX10_keep 72 = .ok (.iaload, 1) := by decide +kernel
theorem dX10_keep_73 : decode cX10_keep 73 = .ok (.imul, 1) := by decide +kernel
theorem dX10_keep_74 : decode cX10_keep 74 = .ok (.iadd, 1) := by decide +kernel
theorem dX10_keep_75 : decode cX10_keep 75 = .ok (.iload_n 1, 1) := by decide +kernel
theorem dX10_keep_76 : decode cX10_keep 76 = .ok (.iadd, 1) := by decide +kernel
theorem dX10_keep_77 : decode cX10_keep 77 = .ok (.aload_n 0, 1) := by decide +kernel
theorem dX10_keep_78 : decode cX10_keep 78 = .ok (.getfield 7, 3) := by decide +kernel
theorem dX10_keep_81 : decode cX10_keep 81 = .ok (.iconst 4, 1) := by decide +kernel
theorem dX10_keep_82 : decode cX10_keep 82 = .ok (.iload_n 1, 1) := by decide +kernel
theorem dX10_keep_83 : decode cX10_keep 83 = .ok (.iadd, 1) := by decide +kernel
theorem dX10_keep_84 : decode cX10_keep 84 = .ok (.iaload, 1) := by decide +kernel
theorem dX10_keep_85 : decode cX10_keep 85 = .ok (.iastore, 1) := by decide +kernel
theorem dX10_keep_86 : decode cX10_keep 86 = .ok (.iinc 1 1, 3) := by decide +kernel
theorem dX10_keep_89 : decode cX10_keep 89 = .ok (.goto (-36), 3) := by decide +kernel
theorem dX10_keep_92 : decode cX10_keep 92 = .ok (.aload_n 0, 1) := by decide +kernel
theorem dX10_keep_93 : decode cX10_keep 93 = .ok (.getfield 7, 3) := by decide +kernel
theorem dX10_keep_96 : decode cX10_keep 96 = .ok (.iconst 3, 1) := by decide +kernel
theorem dX10_keep_97 : decode cX10_keep 97 = .ok (.dup2, 1) := by decide +kernel
theorem dX10_keep_98 : decode cX10_keep 98 = .ok (.iaload, 1) := by decide +kernel
theorem dX10_keep_99 : decode cX10_keep 99 = .ok (.iconst 1, 1) := by decide +kernel
theorem dX10_keep_100 : decode cX10_keep 100 = .ok (.iadd, 1) := by decide +kernel
theorem dX10_keep_101 : decode cX10_keep 101 = .ok (.iastore, 1) := by decide +kernel
theorem dX10_keep_102 : decode cX10_keep 102 = .ok (.return_, 1) := by decide +kernel
theorem dX10_month_0 : decode cX10_month 0 = .ok (.iload_n 1, 1) := by decide +kernel
theorem dX10_month_1 : decode cX10_month 1 = .ok (.i2l, 1) := by decide +kernel
theorem dX10_month_2 : decode cX10_month 2 = .ok (.lconst 1, 1) := by decide +kernel
theorem dX10_month_3 : decode cX10_month 3 = .ok (.ldc2_w 129, 3) := by decide +kernel
theorem dX10_month_6 : decode cX10_month 6 = .ok (.invokestatic 65, 3) := by decide +kernel
theorem dX10_month_9 : decode cX10_month 9 = .ok (.ifCond .ne 10, 3) := by decide +kernel
theorem dX10_month_12 : decode cX10_month 12 = .ok (.aload_n 0, 1) := by decide +kernel
theorem dX10_month_13 : decode cX10_month 13 = .ok (.bipush (-2), 2) := by decide +kernel
theorem dX10_month_15 : decode cX10_month 15 = .ok (.invokevirtual 75, 3) := by decide +kernel
theorem dX10_month_18 : decode cX10_month 18 = .ok (.ireturn, 1) := by decide +kernel
theorem dX10_month_19 : decode cX10_month 19 = .ok (.aload_n 0, 1) := by decide +kernel
theorem dX10_month_20 : decode cX10_month 20 = .ok (.invokevirtual 131, 3) := by decide +kernel
theorem dX10_month_23 : decode cX10_month 23 = .ok (.aload_n 0, 1) := by decide +kernel
theorem dX10_month_24 : decode cX10_month 24 = .ok (.invokevirtual 120, 3) := by decide +kernel
theorem dX10_month_27 : decode cX10_month 27 = .ok (.iconst 0, 1) := by decide +kernel
theorem dX10_month_28 : decode cX10_month 28 = .ok (.istore_n 2, 1) := by decide +kernel
theorem dX10_month_29 : decode cX10_month 29 = .ok (.iload_n 2, 1) := by decide +kernel
theorem dX10_month_30 : decode cX10_month 30 = .ok (.iload_n 1, 1) := by decide +kernel
theorem dX10_month_31 : decode cX10_month 31 = .ok (.if_icmp .ge 13, 3) := by decide +kernel
theorem dX10_month_34 : decode cX10_month 34 = .ok (.aload_n 0, 1) := by decide +kernel
theorem dX10_month_35 : decode cX10_month 35 = .ok (.invokevirtual 134, 3) := by decide +kernel
theorem dX10_month_38 : decode cX10_month 38 = .ok (.iinc 2 1, 3) := by decide +kernel
theorem dX10_month_41 : decode cX10_month 41 = .ok (.goto (-12), 3) := by decide +kernel
theorem dX10_month_44 : decode cX10_month 44 = .ok (.iconst 0, 1) := by decide +kernel
theorem dX10_month_45 : decode cX10_month 45 = .ok (.istore_n 2, 1) := by decide +kernel
theorem dX10_month_46 : decode cX10_month 46 = .ok (.iload_n 2, 1) := by decide +kernel
theorem dX10_month_47 : decode cX10_month 47 = .ok (.aload_n 0, 1) := by decide +kernel
theorem dX10_month_48 : decode cX10_month 48 = .ok (.invokevirtual 61, 3) := by decide +kernel
theorem dX10_month_51 : decode cX10_month 51 = .ok (.if_icmp .ge 23, 3) := by decide +kernel
theorem dX10_month_54 : decode cX10_month 54 = .ok (.aload_n 0, 1) := by decide +kernel
theorem dX10_month_55 : decode cX10_month 55 = .ok (.getfield 7, 3) := by decide +kernel
theorem dX10_month_58 : decode cX10_month 58 = .ok (.iconst 4, 1) := by decide +kernel
theorem dX10_month_59 : decode cX10_month 59 = .ok (.iload_n 2, 1) := by decide +kernel
theorem dX10_month_60 : decode cX10_month 60 = .ok (.iadd, 1) := by decide +kernel
theorem dX10_month_61 : decode cX10_month 61 = .ok (.aload_n 0, 1) := by decide +kernel
theorem dX10_month_62 : decode cX10_month 62 = .ok (.getfield 27, 3) := by decide +kernel
theorem dX10_month_65 : decode cX10_month 65 = .ok (.iload_n 2, 1) := by decide +kernel
theorem dX10_month_66 : decode cX10_month 66 = .ok (.iaload, 1) := by decide +kernel
theorem dX10_month_67 : decode cX10_month 67 = .ok (.iastore, 1) := by decide +kernel
theorem dX10_month_68 : decode cX10_month 68 = .ok (.iinc 2 1, 3) := by decide +kernel
theorem dX10_month_71 : decode cX10_month 71 = .ok (.goto (-25), 3) := by decide +kernel
theorem dX10_month_74 : decode cX10_month 74 = .ok (.aload_n 0, 1) := by decide +kernel
theorem dX10_month_75 : decode cX10_month 75 = .ok (.getfield 7, 3) := by decide +kernel
theorem dX10_month_78 : decode cX10_month 78 = .ok (.bipush 10, 2) := by decide +kernel
theorem dX10_month_80 : decode cX10_month 80 = .ok (.aload_n 0, 1) := by decide +kernel
theorem dX10_month_81 : decode cX10_month 81 = .ok (.getfield 113, 3) := by decide +kernel
theorem dX10_month_84 : decode cX10_month 84 = .ok (.iastore, 1) := by decide +kernel
theorem dX10_month_85 : decode cX10_month 85 = .ok (.aload_n 0, 1) := by decide +kernel
theorem dX10_month_86 : decode cX10_month 86 = .ok (.getfield 7, 3) := by decide +kernel
theorem dX10_month_89 : decode cX10_month 89 = .ok (.bipush 17, 2) := by decide +kernel
theorem dX10_month_91 : decode cX10_month 91 = .ok (.aload_n 0, 1) := by decide +kernel
theorem dX10_month_92 : decode cX10_month 92 = .ok (.getfield 7, 3) := by decide +kernel
theorem dX10_month_95 : decode cX10_month 95 = .ok (.bipush 17, 2) := by decide +kernel
theorem dX10_month_97 : decode cX10_month 97 = .ok (.iaload, 1) := by decide +kernel
theorem dX10_month_98 : decode cX10_month 98 = .ok (.iload_n 1, 1) := by decide +kernel
theorem dX10_month_99 : decode cX10_month 99 = .ok (.iadd, 1) := by decide +kernel
theorem dX10_month_100 : decode cX10_month 100 = .ok (.sipush 999, 3) := by decide +kernel
theorem dX10_month_103 : decode cX10_month 103 = .ok (.if_icmp .le 9, 3) := by decide +kernel
theorem dX10_month_106 : decode cX10_month 106 = .ok (.sipush 999, 3) := by decide +kernel
theorem dX10_month_109 : decode cX10_month 109 = .ok (.goto 12, 3) := by decide +kernel
theorem dX10_month_112 : decode cX10_month 112 = .ok (.aload_n 0, 1) := by decide +kernel
theorem dX10_month_113 : decode cX10_month 113 = .ok (.getfield 7, 3) := by decide +kernel
theorem dX10_month_116 : decode cX10_month 116 = .ok (.bipush 17, 2) := by decide +kernel
theorem dX10_month_118 : decode cX10_month 118 = .ok (.iaload, 1) := by decide +kernel
theorem dX10_month_119 : decode cX10_month 119 = .ok (.iload_n 1, 1) := by decide +kernel
theorem dX10_month_120 : decode cX10_month 120 = .ok (.iadd, 1) := by decide +kernel
theorem dX10_month_121 : decode cX10_month 121 = .ok (.iastore, 1) := by decide +kernel
theorem dX10_month_122 : decode cX10_month 122 = .ok (.aload_n 0, 1) := by decide +kernel
theorem dX10_month_123 : decode cX10_month 123 = .ok (.invokevirtual 123, 3) := by decide +kernel
theorem dX10_month_126 : decode cX10_month 126 = .ok (.ireturn, 1) := by decide +kernel
theorem dX10_nurse_0 : decode cX10_nurse 0 = .ok (.aload_n 0, 1) := by decide +kernel
theorem dX10_nurse_1 : decode cX10_nurse 1 = .ok (.iload_n 1, 1) := by decide +kernel
theorem dX10_nurse_2 : decode cX10_nurse 2 = .ok (.invokevirtual 137, 3) := by decide +kernel
theorem dX10_nurse_5 : decode cX10_nurse 5 = .ok (.ifCond .eq 10, 3) := by decide +kernel
theorem dX10_nurse_8 : decode cX10_nurse 8 = .ok (.iload_n 2, 1) := by decide +kernel
theorem dX10_nurse_9 : decode cX10_nurse 9 = .ok (.invokestatic 86, 3) := by decide +kernel
theorem dX10_nurse_12 : decode cX10_nurse 12 = .ok (.ifCond .ne 10, 3) := by decide +kernel
theorem dX10_nurse_15 : decode cX10_nurse 15 = .ok (.aload_n 0, 1) := by decide +kernel
theorem dX10_nurse_16 : decode cX10_nurse 16 = .ok (.bipush (-2), 2) := by decide +kernel
theorem dX10_nurse_18 : decode cX10_nurse 18 = .ok (.invokevirtual 75, 3) := by decide +kernel
theorem dX10_nurse_21 : decode cX10_nurse 21 = .ok (.ireturn, 1) := by decide +kernel
theorem dX10_nurse_22 : decode cX10_nurse 22 = .ok (.aload_n 0, 1) := by decide +kernel
theorem dX10_nurse_23 : decode cX10_nurse 23 = .ok (.getfield 7, 3) := by decide +kernel
theorem dX10_nurse_26 : decode cX10_nurse 26 = .ok (.bipush 11, 2) := by decide +kernel
theorem dX10_nurse_28 : decode cX10_nurse 28 = .ok (.iload_n 1, 1) := by decide +kernel
theorem dX10_nurse_29 : decode cX10_nurse 29 = .ok (.iadd, 1) := by decide +kernel
theorem dX10_nurse_30 : decode cX10_nurse 30 = .ok (.iaload, 1) := by decide +kernel
theorem dX10_nurse_31 : decode cX10_nurse 31 = .ok (.istore_n 3, 1) := by decide +kernel
theorem dX10_nurse_32 : decode cX10_nurse 32 = .ok (.aload_n 0, 1) := by decide +kernel
theorem dX10_nurse_33 : decode cX10_nurse 33 = .ok (.invokevirtual 131, 3) := by decide +kernel
theorem dX10_nurse_36 : decode cX10_nurse 36 = .ok (.aload_n 0, 1) := by decide +kernel
theorem dX10_nurse_37 : decode cX10_nurse 37 = .ok (.getfield 7, 3) := by decide +kernel
theorem dX10_nurse_40 : decode cX10_nurse 40 = .ok (.bipush 11, 2) := by decide +kernel
theorem dX10_nurse_42 : decode cX10_nurse 42 = .ok (.iload_n 1, 1) := by decide +kernel
theorem dX10_nurse_43 : decode cX10_nurse 43 = .ok (.iadd, 1) := by decide +kernel
theorem dX10_nurse_44 : decode cX10_nurse 44 = .ok (.iload_n 2, 1) := by decide +kernel
theorem dX10_nurse_45 : decode cX10_nurse 45 = .ok (.iastore, 1) := by decide +kernel
theorem dX10_nurse_46 : decode cX10_nurse 46 = .ok (.iload_n 3, 1) := by decide +kernel
theorem dX10_nurse_47 : decode cX10_nurse 47 = .ok (.ireturn, 1) := by decide +kernel
theorem dX10_retire_0 : decode cX10_retire 0 = .ok (.aload_n 0, 1) := by decide +kernel
theorem dX10_retire_1 : decode cX10_retire 1 = .ok (.iload_n 1, 1) := by decide +kernel
theorem dX10_retire_2 : decode cX10_retire 2 = .ok (.invokevirtual 137, 3) := by decide +kernel
theorem dX10_retire_5 : decode cX10_retire 5 = .ok (.ifCond .ne 10, 3) := by decide +kernel
theorem dX10_retire_8 : decode cX10_retire 8 = .ok (.aload_n 0, 1) := by decide +kernel
theorem dX10_retire_9 : decode cX10_retire 9 = .ok (.bipush (-2), 2) := by decide +kernel
theorem dX10_retire_11 : decode cX10_retire 11 = .ok (.invokevirtual 75, 3) := by decide +kernel
theorem dX10_retire_14 : decode cX10_retire 14 = .ok (.ireturn, 1) := by decide +kernel
theorem dX10_retire_15 : decode cX10_retire 15 = .ok (.aload_n 0, 1) := by decide +kernel
theorem dX10_retire_16 : decode cX10_retire 16 = .ok (.getfield 7, 3) := by decide +kernel
theorem dX10_retire_19 : decode cX10_retire 19 = .ok (.bipush 10, 2) := by decide +kernel
theorem dX10_retire_21 : decode cX10_retire 21 = .ok (.iaload, 1) := by decide +kernel
theorem dX10_retire_22 : decode cX10_retire 22 = .ok (.iload_n 1, 1) := by decide +kernel
theorem dX10_retire_23 : decode cX10_retire 23 = .ok (.invokestatic 117, 3) := by decide +kernel
theorem dX10_retire_26 : decode cX10_retire 26 = .ok (.ifCond .eq 8, 3) := by decide +kernel
theorem dX10_retire_29 : decode cX10_retire 29 = .ok (.aload_n 0, 1) := by decide +kernel
theorem dX10_retire_30 : decode cX10_retire 30 = .ok (.invokevirtual 140, 3) := by decide +kernel
theorem dX10_retire_33 : decode cX10_retire 33 = .ok (.ireturn, 1) := by decide +kernel
theorem dX10_retire_34 : decode cX10_retire 34 = .ok (.aload_n 0, 1) := by decide +kernel
theorem dX10_retire_35 : decode cX10_retire 35 = .ok (.invokevirtual 131, 3) := by decide +kernel
theorem dX10_retire_38 : decode cX10_retire 38 = .ok (.aload_n 0, 1) := by decide +kernel
theorem dX10_retire_39 : decode cX10_retire 39 = .ok (.getfield 7, 3) := by decide +kernel
theorem dX10_retire_42 : decode cX10_retire 42 = .ok (.bipush 10, 2) := by decide +kernel
theorem dX10_retire_44 : decode cX10_retire 44 = .ok (.dup2, 1) := by decide +kernel
theorem dX10_retire_45 : decode cX10_retire 45 = .ok (.iaload, 1) := by decide +kernel
theorem dX10_retire_46 : decode cX10_retire 46 = .ok (.iconst 1, 1) := by decide +kernel
theorem dX10_retire_47 : decode cX10_retire 47 = .ok (.iload_n 1, 1) := by decide +kernel
theorem dX10_retire_48 : decode cX10_retire 48 = .ok (.ishl, 1) := by decide +kernel
theorem dX10_retire_49 : decode cX10_retire 49 = .ok (.ior, 1) := by decide +kernel
theorem dX10_retire_50 : decode cX10_retire 50 = .ok (.iastore, 1) := by decide +kernel
theorem dX10_retire_51 : decode cX10_retire 51 = .ok (.aload_n 0, 1) := by decide +kernel
theorem dX10_retire_52 : decode cX10_retire 52 = .ok (.getfield 7, 3) := by decide +kernel
theorem dX10_retire_55 : decode cX10_retire 55 = .ok (.bipush 10, 2) := by decide +kernel
theorem dX10_retire_57 : decode cX10_retire 57 = .ok (.iaload, 1) := by decide +kernel
theorem dX10_retire_58 : decode cX10_retire 58 = .ok (.invokestatic 143, 3) := by decide +kernel
theorem dX10_retire_61 : decode cX10_retire 61 = .ok (.ireturn, 1) := by decide +kernel
theorem dX10_undo_0 : decode cX10_undo 0 = .ok (.aload_n 0, 1) := by decide +kernel
theorem dX10_undo_1 : decode cX10_undo 1 = .ok (.getfield 7, 3) := by decide +kernel
theorem dX10_undo_4 : decode cX10_undo 4 = .ok (.iconst 3, 1) := by decide +kernel
theorem dX10_undo_5 : decode cX10_undo 5 = .ok (.iaload, 1) := by decide +kernel
theorem dX10_undo_6 : decode cX10_undo 6 = .ok (.ifCond .ne 8, 3) := by decide +kernel
theorem dX10_undo_9 : decode cX10_undo 9 = .ok (.aload_n 0, 1) := by decide +kernel
theorem dX10_undo_10 : decode cX10_undo 10 = .ok (.invokevirtual 140, 3) := by decide +kernel
theorem dX10_undo_13 : decode cX10_undo 13 = .ok (.ireturn, 1) := by decide +kernel
theorem dX10_undo_14 : decode cX10_undo 14 = .ok (.aload_n 0, 1) := by decide +kernel
theorem dX10_undo_15 : decode cX10_undo 15 = .ok (.getfield 7, 3) := by decide +kernel
theorem dX10_undo_18 : decode cX10_undo 18 = .ok (.iconst 3, 1) := by decide +kernel
theorem dX10_undo_19 : decode cX10_undo 19 = .ok (.dup2, 1) := by decide +kernel
theorem dX10_undo_20 : decode cX10_undo 20 = .ok (.iaload, 1) := by decide +kernel
theorem dX10_undo_21 : decode cX10_undo 21 = .ok (.iconst 1, 1) := by decide +kernel
theorem dX10_undo_22 : decode cX10_undo 22 = .ok (.isub, 1) := by decide +kernel
theorem dX10_undo_23 : decode cX10_undo 23 = .ok (.iastore, 1) := by decide +kernel
theorem dX10_undo_24 : decode cX10_undo 24 = .ok (.iconst 0, 1) := by decide +kernel
theorem dX10_undo_25 : decode cX10_undo 25 = .ok (.istore_n 1, 1) := by decide +kernel
theorem dX10_undo_26 : decode cX10_undo 26 = .ok (.iload_n 1, 1) := by decide +kernel
theorem dX10_undo_27 : decode cX10_undo 27 = .ok (.bipush 14, 2) := by decide +kernel
theorem dX10_undo_29 : decode cX10_undo 29 = .ok (.if_icmp .ge 36, 3) := by decide +kernel
theorem dX10_undo_32 : decode cX10_undo 32 = .ok (.aload_n 0, 1) := by decide +kernel
theorem dX10_undo_33 : decode cX10_undo 33 = .ok (.getfield 7, 3) := by decide +kernel
theorem dX10_undo_36 : decode cX10_undo 36 = .ok (.iconst 4, 1) := by decide +kernel
theorem dX10_undo_37 : decode cX10_undo 37 = .ok (.iload_n 1, 1) := by decide +kernel
theorem dX10_undo_38 : decode cX10_undo 38 = .ok (.iadd, 1) := by decide +kernel
theorem dX10_undo_39 : decode cX10_undo 39 = .ok (.aload_n 0, 1) := by decide +kernel
theorem dX10_undo_40 : decode cX10_undo 40 = .ok (.getfield 7, 3) := by decide +kernel
theorem dX10_undo_43 : decode cX10_undo 43 = .ok (.bipush 78, 2) := by decide +kernel
theorem dX10_undo_45 : decode cX10_undo 45 = .ok (.bipush 14, 2) := by decide +kernel
theorem dX10_undo_47 : decode cX10_undo 47 = .ok (.aload_n 0, 1) := by decide +kernel
theorem dX10_undo_48 : decode cX10_undo 48 = .ok (.getfield 7, 3) := by decide +kernel
theorem dX10_undo_51 : decode cX10_undo 51 = .ok (.iconst 3, 1) := by decide +kernel
theorem dX10_undo_52 : decode cX10_undo 52 = .ok (.iaload, 1) := by decide +kernel
theorem dX10_undo_53 : decode cX10_undo 53 = .ok (.imul, 1) := by decide +kernel
theorem dX10_undo_54 : decode cX10_undo 54 = .ok (.iadd, 1) := by decide +kernel
theorem dX10_undo_55 : decode cX10_undo 55 = .ok (.iload_n 1, 1) := by decide +kernel
theorem dX10_undo_56 : decode cX10_undo 56 = .ok (.iadd, 1) := by decide +kernel
theorem dX10_undo_57 : decode cX10_undo 57 = .ok (.iaload, 1) := by decide +kernel
theorem dX10_undo_58 : decode cX10_undo 58 = .ok (.iastore, 1) := by decide +kernel
theorem dX10_undo_59 : decode cX10_undo 59 = .ok (.iinc 1 1, 3) := by decide +kernel
theorem dX10_undo_62 : decode cX10_undo 62 = .ok (.goto (-36), 3) := by decide +kernel
theorem dX10_undo_65 : decode cX10_undo 65 = .ok (.aload_n 0, 1) := by decide +kernel
theorem dX10_undo_66 : decode cX10_undo 66 = .ok (.getfield 7, 3) := by decide +kernel
theorem dX10_undo_69 : decode cX10_undo 69 = .ok (.bipush 17, 2) := by decide +kernel
theorem dX10_undo_71 : decode cX10_undo 71 = .ok (.iaload, 1) := by decide +kernel
theorem dX10_undo_72 : decode cX10_undo 72 = .ok (.ireturn, 1) := by decide +kernel
theorem dX10_of_0 : decode cX10_of 0 = .ok (.aload_n 0, 1) := by decide +kernel
theorem dX10_of_1 : decode cX10_of 1 = .ok (.iload_n 1, 1) := by decide +kernel
theorem dX10_of_2 : decode cX10_of 2 = .ok (.invokevirtual 137, 3) := by decide +kernel
theorem dX10_of_5 : decode cX10_of 5 = .ok (.ifCond .eq 15, 3) := by decide +kernel
theorem dX10_of_8 : decode cX10_of 8 = .ok (.iload_n 2, 1) := by decide +kernel
theorem dX10_of_9 : decode cX10_of 9 = .ok (.i2l, 1) := by decide +kernel
theorem dX10_of_10 : decode cX10_of 10 = .ok (.lconst 0, 1) := by decide +kernel
theorem dX10_of_11 : decode cX10_of 11 = .ok (.ldc2_w 69, 3) := by decide +kernel
theorem dX10_of_14 : decode cX10_of 14 = .ok (.invokestatic 65, 3) := by decide +kernel
theorem dX10_of_17 : decode cX10_of 17 = .ok (.ifCond .ne 10, 3) := by decide +kernel
theorem dX10_of_20 : decode cX10_of 20 = .ok (.aload_n 0, 1) := by decide +kernel
theorem dX10_of_21 : decode cX10_of 21 = .ok (.bipush (-2), 2) := by decide +kernel
theorem dX10_of_23 : decode cX10_of 23 = .ok (.invokevirtual 75, 3) := by decide +kernel
theorem dX10_of_26 : decode cX10_of 26 = .ok (.ireturn, 1) := by decide +kernel
theorem dX10_of_27 : decode cX10_of 27 = .ok (.iload_n 2, 1) := by decide +kernel
theorem dX10_of_28 : decode cX10_of 28 = .ok (.tableswitch 83 0 4 #[36, 42, 51, 61, 71], 36) := by decide +kernel
theorem dX10_of_64 : decode cX10_of 64 = .ok (.aload_n 0, 1) := by decide +kernel
theorem dX10_of_65 : decode cX10_of 65 = .ok (.iload_n 1, 1) := by decide +kernel
theorem dX10_of_66 : decode cX10_of 66 = .ok (.invokevirtual 96, 3) := by decide +kernel
theorem dX10_of_69 : decode cX10_of 69 = .ok (.ireturn, 1) := by decide +kernel
theorem dX10_of_70 : decode cX10_of 70 = .ok (.aload_n 0, 1) := by decide +kernel
theorem dX10_of_71 : decode cX10_of 71 = .ok (.getfield 7, 3) := by decide +kernel
theorem dX10_of_74 : decode cX10_of 74 = .ok (.iconst 4, 1) := by decide +kernel
theorem dX10_of_75 : decode cX10_of 75 = .ok (.iload_n 1, 1) := by decide +kernel
theorem dX10_of_76 : decode cX10_of 76 = .ok (.iadd, 1) := by decide +kernel
theorem dX10_of_77 : decode cX10_of 77 = .ok (.iaload, 1) := by decide +kernel
theorem dX10_of_78 : decode cX10_of 78 = .ok (.ireturn, 1) := by decide +kernel
theorem dX10_of_79 : decode cX10_of 79 = .ok (.aload_n 0, 1) := by decide +kernel
theorem dX10_of_80 : decode cX10_of 80 = .ok (.getfield 7, 3) := by decide +kernel
theorem dX10_of_83 : decode cX10_of 83 = .ok (.bipush 30, 2) := by decide +kernel
theorem dX10_of_85 : decode cX10_of 85 = .ok (.iload_n 1, 1) := by decide +kernel
theorem dX10_of_86 : decode cX10_of 86 = .ok (.iadd, 1) := by decide +kernel
theorem dX10_of_87 : decode cX10_of 87 = .ok (.iaload, 1) := by decide +kernel
theorem dX10_of_88 : decode cX10_of 88 = .ok (.ireturn, 1) := by decide +kernel
theorem dX10_of_89 : decode cX10_of 89 = .ok (.aload_n 0, 1) := by decide +kernel
theorem dX10_of_90 : decode cX10_of 90 = .ok (.getfield 7, 3) := by decide +kernel
theorem dX10_of_93 : decode cX10_of 93 = .ok (.bipush 11, 2) := by decide +kernel
theorem dX10_of_95 : decode cX10_of 95 = .ok (.iload_n 1, 1) := by decide +kernel
theorem dX10_of_96 : decode cX10_of 96 = .ok (.iadd, 1) := by decide +kernel
theorem dX10_of_97 : decode cX10_of 97 = .ok (.iaload, 1) := by decide +kernel
theorem dX10_of_98 : decode cX10_of 98 = .ok (.ireturn, 1) := by decide +kernel
theorem dX10_of_99 : decode cX10_of 99 = .ok (.aload_n 0, 1) := by decide +kernel
theorem dX10_of_100 : decode cX10_of 100 = .ok (.getfield 7, 3) := by decide +kernel
theorem dX10_of_103 : decode cX10_of 103 = .ok (.bipush 10, 2) := by decide +kernel
theorem dX10_of_105 : decode cX10_of 105 = .ok (.iaload, 1) := by decide +kernel
theorem dX10_of_106 : decode cX10_of 106 = .ok (.iload_n 1, 1) := by decide +kernel
theorem dX10_of_107 : decode cX10_of 107 = .ok (.ishr, 1) := by decide +kernel
theorem dX10_of_108 : decode cX10_of 108 = .ok (.iconst 1, 1) := by decide +kernel
theorem dX10_of_109 : decode cX10_of 109 = .ok (.iand, 1) := by decide +kernel
theorem dX10_of_110 : decode cX10_of 110 = .ok (.ireturn, 1) := by decide +kernel
theorem dX10_of_111 : decode cX10_of 111 = .ok (.aload_n 0, 1) := by decide +kernel
theorem dX10_of_112 : decode cX10_of 112 = .ok (.iload_n 1, 1) := by decide +kernel
theorem dX10_of_113 : decode cX10_of 113 = .ok (.invokevirtual 96, 3) := by decide +kernel
theorem dX10_of_116 : decode cX10_of 116 = .ok (.invokestatic 126, 3) := by decide +kernel
theorem dX10_of_119 : decode cX10_of 119 = .ok (.ireturn, 1) := by decide +kernel
theorem dX10_hour_0 : decode cX10_hour 0 = .ok (.aload_n 0, 1) := by decide +kernel
theorem dX10_hour_1 : decode cX10_hour 1 = .ok (.iload_n 1, 1) := by decide +kernel
theorem dX10_hour_2 : decode cX10_hour 2 = .ok (.invokevirtual 137, 3) := by decide +kernel
theorem dX10_hour_5 : decode cX10_hour 5 = .ok (.ifCond .eq 20, 3) := by decide +kernel
theorem dX10_hour_8 : decode cX10_hour 8 = .ok (.iload_n 2, 1) := by decide +kernel
theorem dX10_hour_9 : decode cX10_hour 9 = .ok (.invokestatic 146, 3) := by decide +kernel
theorem dX10_hour_12 : decode cX10_hour 12 = .ok (.ifCond .eq 13, 3) := by decide +kernel
theorem dX10_hour_15 : decode cX10_hour 15 = .ok (.iload_n 3, 1) := by decide +kernel
theorem dX10_hour_16 : decode cX10_hour 16 = .ok (.i2l, 1) := by decide +kernel
theorem dX10_hour_17 : decode cX10_hour 17 = .ok (.lconst 0, 1) := by decide +kernel
theorem dX10_hour_18 : decode cX10_hour 18 = .ok (.lconst 1, 1) := by decide +kernel
theorem dX10_hour_19 : decode cX10_hour 19 = .ok (.invokestatic 65, 3) := by decide +kernel
theorem dX10_hour_22 : decode cX10_hour 22 = .ok (.ifCond .ne 10, 3) := by decide +kernel
theorem dX10_hour_25 : decode cX10_hour 25 = .ok (.aload_n 0, 1) := by decide +kernel
theorem dX10_hour_26 : decode cX10_hour 26 = .ok (.bipush (-2), 2) := by decide +kernel
theorem dX10_hour_28 : decode cX10_hour 28 = .ok (.invokevirtual 75, 3) := by decide +kernel
theorem dX10_hour_31 : decode cX10_hour 31 = .ok (.ireturn, 1) := by decide +kernel
theorem dX10_hour_32 : decode cX10_hour 32 = .ok (.iload_n 3, 1) := by decide +kernel
theorem dX10_hour_33 : decode cX10_hour 33 = .ok (.iconst 1, 1) := by decide +kernel
theorem dX10_hour_34 : decode cX10_hour 34 = .ok (.if_icmp .ne 12, 3) := by decide +kernel
theorem dX10_hour_37 : decode cX10_hour 37 = .ok (.aload_n 0, 1) := by decide +kernel
theorem dX10_hour_38 : decode cX10_hour 38 = .ok (.iload_n 1, 1) := by decide +kernel
theorem dX10_hour_39 : decode cX10_hour 39 = .ok (.iload_n 2, 1) := by decide +kernel
theorem dX10_hour_40 : decode cX10_hour 40 = .ok (.invokevirtual 149, 3) := by decide +kernel
theorem dX10_hour_43 : decode cX10_hour 43 = .ok (.goto 17, 3) := by decide +kernel
theorem dX10_hour_46 : decode cX10_hour 46 = .ok (.aload_n 0, 1) := by decide +kernel
theorem dX10_hour_47 : decode cX10_hour 47 = .ok (.iload_n 1, 1) := by decide +kernel
theorem dX10_hour_48 : decode cX10_hour 48 = .ok (.iload_n 2, 1) := by decide +kernel
theorem dX10_hour_49 : decode cX10_hour 49 = .ok (.invokevirtual 107, 3) := by decide +kernel
theorem dX10_hour_52 : decode cX10_hour 52 = .ok (.ifCond .eq 7, 3) := by decide +kernel
theorem dX10_hour_55 : decode cX10_hour 55 = .ok (.iconst 0, 1) := by decide +kernel
theorem dX10_hour_56 : decode cX10_hour 56 = .ok (.goto 4, 3) := by decide +kernel
theorem dX10_hour_59 : decode cX10_hour 59 = .ok (.iconst 1, 1) := by decide +kernel
theorem dX10_hour_60 : decode cX10_hour 60 = .ok (.ireturn, 1) := by decide +kernel
theorem dX10_day_0 : decode cX10_day 0 = .ok (.aload_n 0, 1) := by decide +kernel
theorem dX10_day_1 : decode cX10_day 1 = .ok (.iload_n 1, 1) := by decide +kernel
theorem dX10_day_2 : decode cX10_day 2 = .ok (.invokevirtual 137, 3) := by decide +kernel
theorem dX10_day_5 : decode cX10_day 5 = .ok (.ifCond .eq 20, 3) := by decide +kernel
theorem dX10_day_8 : decode cX10_day 8 = .ok (.aload_n 0, 1) := by decide +kernel
theorem dX10_day_9 : decode cX10_day 9 = .ok (.iload_n 1, 1) := by decide +kernel
theorem dX10_day_10 : decode cX10_day 10 = .ok (.aload_n 0, 1) := by decide +kernel
theorem dX10_day_11 : decode cX10_day 11 = .ok (.getfield 7, 3) := by decide +kernel
theorem dX10_day_14 : decode cX10_day 14 = .ok (.bipush 11, 2) := by decide +kernel
theorem dX10_day_16 : decode cX10_day 16 = .ok (.iload_n 1, 1) := by decide +kernel
theorem dX10_day_17 : decode cX10_day 17 = .ok (.iadd, 1) := by decide +kernel
theorem dX10_day_18 : decode cX10_day 18 = .ok (.iaload, 1) := by decide +kernel
theorem dX10_day_19 : decode cX10_day 19 = .ok (.invokevirtual 152, 3) := by decide +kernel
theorem dX10_day_22 : decode cX10_day 22 = .ok (.goto 9, 3) := by decide +kernel
theorem dX10_day_25 : decode cX10_day 25 = .ok (.aload_n 0, 1) := by decide +kernel
theorem dX10_day_26 : decode cX10_day 26 = .ok (.bipush (-2), 2) := by decide +kernel
theorem dX10_day_28 : decode cX10_day 28 = .ok (.invokevirtual 75, 3) := by decide +kernel
theorem dX10_day_31 : decode cX10_day 31 = .ok (.ireturn, 1) := by decide +kernel
theorem dX10_reign_0 : decode cX10_reign 0 = .ok (.iload_n 1, 1) := by decide +kernel
theorem dX10_reign_1 : decode cX10_reign 1 = .ok (.i2l, 1) := by decide +kernel
theorem dX10_reign_2 : decode cX10_reign 2 = .ok (.lconst 0, 1) := by decide +kernel
theorem dX10_reign_3 : decode cX10_reign 3 = .ok (.ldc2_w 129, 3) := by decide +kernel
theorem dX10_reign_6 : decode cX10_reign 6 = .ok (.invokestatic 65, 3) := by decide +kernel
theorem dX10_reign_9 : decode cX10_reign 9 = .ok (.ifCond .ne 10, 3) := by decide +kernel
theorem dX10_reign_12 : decode cX10_reign 12 = .ok (.aload_n 0, 1) := by decide +kernel
theorem dX10_reign_13 : decode cX10_reign 13 = .ok (.bipush (-2), 2) := by decide +kernel
theorem dX10_reign_15 : decode cX10_reign 15 = .ok (.invokevirtual 75, 3) := by decide +kernel
theorem dX10_reign_18 : decode cX10_reign 18 = .ok (.ireturn, 1) := by decide +kernel
theorem dX10_reign_19 : decode cX10_reign 19 = .ok (.aload_n 0, 1) := by decide +kernel
theorem dX10_reign_20 : decode cX10_reign 20 = .ok (.invokevirtual 120, 3) := by decide +kernel
theorem dX10_reign_23 : decode cX10_reign 23 = .ok (.iconst 0, 1) := by decide +kernel
theorem dX10_reign_24 : decode cX10_reign 24 = .ok (.istore_n 2, 1) := by decide +kernel
theorem dX10_reign_25 : decode cX10_reign 25 = .ok (.iload_n 2, 1) := by decide +kernel
theorem dX10_reign_26 : decode cX10_reign 26 = .ok (.iload_n 1, 1) := by decide +kernel
theorem dX10_reign_27 : decode cX10_reign 27 = .ok (.if_icmp .ge 13, 3) := by decide +kernel
theorem dX10_reign_30 : decode cX10_reign 30 = .ok (.aload_n 0, 1) := by decide +kernel
theorem dX10_reign_31 : decode cX10_reign 31 = .ok (.invokevirtual 134, 3) := by decide +kernel
theorem dX10_reign_34 : decode cX10_reign 34 = .ok (.iinc 2 1, 3) := by decide +kernel
theorem dX10_reign_37 : decode cX10_reign 37 = .ok (.goto (-12), 3) := by decide +kernel
theorem dX10_reign_40 : decode cX10_reign 40 = .ok (.aload_n 0, 1) := by decide +kernel
theorem dX10_reign_41 : decode cX10_reign 41 = .ok (.invokevirtual 123, 3) := by decide +kernel
theorem dX10_reign_44 : decode cX10_reign 44 = .ok (.ireturn, 1) := by decide +kernel
theorem dX10_falls_0 : decode cX10_falls 0 = .ok (.aload_n 0, 1) := by decide +kernel
theorem dX10_falls_1 : decode cX10_falls 1 = .ok (.invokevirtual 155, 3) := by decide +kernel
theorem dX10_falls_4 : decode cX10_falls 4 = .ok (.istore_n 1, 1) := by decide +kernel
theorem dX10_falls_5 : decode cX10_falls 5 = .ok (.iconst 1, 1) := by decide +kernel
theorem dX10_falls_6 : decode cX10_falls 6 = .ok (.istore_n 2, 1) := by decide +kernel
theorem dX10_falls_7 : decode cX10_falls 7 = .ok (.iload_n 2, 1) := by decide +kernel
theorem dX10_falls_8 : decode cX10_falls 8 = .ok (.bipush 60, 2) := by decide +kernel
theorem dX10_falls_10 : decode cX10_falls 10 = .ok (.if_icmp .gt 28, 3) := by decide +kernel
theorem dX10_falls_13 : decode cX10_falls 13 = .ok (.iload_n 1, 1) := by decide +kernel
theorem dX10_falls_14 : decode cX10_falls 14 = .ok (.iconst (-1), 1) := by decide +kernel
theorem dX10_falls_15 : decode cX10_falls 15 = .ok (.if_icmp .eq 23, 3) := by decide +kernel
theorem dX10_falls_18 : decode cX10_falls 18 = .ok (.aload_n 0, 1) := by decide +kernel
theorem dX10_falls_19 : decode cX10_falls 19 = .ok (.invokevirtual 134, 3) := by decide +kernel
theorem dX10_falls_22 : decode cX10_falls 22 = .ok (.aload_n 0, 1) := by decide +kernel
theorem dX10_falls_23 : decode cX10_falls 23 = .ok (.invokevirtual 123, 3) := by decide +kernel
theorem dX10_falls_26 : decode cX10_falls 26 = .ok (.iload_n 1, 1) := by decide +kernel
theorem dX10_falls_27 : decode cX10_falls 27 = .ok (.if_icmp .eq 5, 3) := by decide +kernel
theorem dX10_falls_30 : decode cX10_falls 30 = .ok (.iload_n 2, 1) := by decide +kernel
theorem dX10_falls_31 : decode cX10_falls 31 = .ok (.ireturn, 1) := by decide +kernel
theorem dX10_falls_32 : decode cX10_falls 32 = .ok (.iinc 2 1, 3) := by decide +kernel
theorem dX10_falls_35 : decode cX10_falls 35 = .ok (.goto (-28), 3) := by decide +kernel
theorem dX10_falls_38 : decode cX10_falls 38 = .ok (.iconst (-1), 1) := by decide +kernel
theorem dX10_falls_39 : decode cX10_falls 39 = .ok (.ireturn, 1) := by decide +kernel
theorem dX10_layLine_0 : decode cX10_layLine 0 = .ok (.aload_n 0, 1) := by decide +kernel
theorem dX10_layLine_1 : decode cX10_layLine 1 = .ok (.iconst 0, 1) := by decide +kernel
theorem dX10_layLine_2 : decode cX10_layLine 2 = .ok (.putfield 158, 3) := by decide +kernel
theorem dX10_layLine_5 : decode cX10_layLine 5 = .ok (.aload_n 0, 1) := by decide +kernel
theorem dX10_layLine_6 : decode cX10_layLine 6 = .ok (.invokevirtual 120, 3) := by decide +kernel
theorem dX10_layLine_9 : decode cX10_layLine 9 = .ok (.iconst 0, 1) := by decide +kernel
theorem dX10_layLine_10 : decode cX10_layLine 10 = .ok (.istore_n 1, 1) := by decide +kernel
theorem dX10_layLine_11 : decode cX10_layLine 11 = .ok (.iload_n 1, 1) := by decide +kernel
theorem dX10_layLine_12 : decode cX10_layLine 12 = .ok (.bipush 60, 2) := by decide +kernel
theorem dX10_layLine_14 : decode cX10_layLine 14 = .ok (.if_icmp .gt 110, 3) := by decide +kernel
theorem dX10_layLine_17 : decode cX10_layLine 17 = .ok (.aload_n 0, 1) := by decide +kernel
theorem dX10_layLine_18 : decode cX10_layLine 18 = .ok (.invokevirtual 123, 3) := by decide +kernel
theorem dX10_layLine_21 : decode cX10_layLine 21 = .ok (.istore_n 2, 1) := by decide +kernel
theorem dX10_layLine_22 : decode cX10_layLine 22 = .ok (.iconst (-1), 1) := by decide +kernel
theorem dX10_layLine_23 : decode cX10_layLine 23 = .ok (.istore_n 3, 1) := by decide +kernel
theorem dX10_layLine_24 : decode cX10_layLine 24 = .ok (.iconst 0, 1) := by decide +kernel
theorem dX10_layLine_25 : decode cX10_layLine 25 = .ok (.istore 4, 2) := by decide +kernel
theorem dX10_layLine_27 : decode cX10_layLine 27 = .ok (.iload 4, 2) := by decide +kernel
theorem dX10_layLine_29 : decode cX10_layLine 29 = .ok (.aload_n 0, 1) := by decide +kernel
theorem dX10_layLine_30 : decode cX10_layLine 30 = .ok (.getfield 158, 3) := by decide +kernel
theorem dX10_layLine_33 : decode cX10_layLine 33 = .ok (.if_icmp .ge 27, 3) := by decide +kernel
theorem dX10_layLine_36 : decode cX10_layLine 36 = .ok (.aload_n 0, 1) := by decide +kernel
theorem dX10_layLine_37 : decode cX10_layLine 37 = .ok (.getfield 30, 3) := by decide +kernel
theorem dX10_layLine_40 : decode cX10_layLine 40 = .ok (.iload 4, 2) := by decide +kernel
theorem dX10_layLine_42 : decode cX10_layLine 42 = .ok (.iaload, 1) := by decide +kernel
theorem dX10_layLine_43 : decode cX10_layLine 43 = .ok (.iload_n 2, 1) := by decide +kernel
theorem dX10_layLine_44 : decode cX10_layLine 44 = .ok (.if_icmp .ne 8, 3) := by decide +kernel
theorem dX10_layLine_47 : decode cX10_layLine 47 = .ok (.iload 4, 2) := by decide +kernel
theorem dX10_layLine_49 : decode cX10_layLine 49 = .ok (.goto 4, 3) := by decide +kernel
theorem dX10_layLine_52 : decode cX10_layLine 52 = .ok (.iload_n 3, 1) := by decide +kernel
theorem dX10_layLine_53 : decode cX10_layLine 53 = .ok (.istore_n 3, 1) := by decide +kernel
theorem dX10_layLine_54 : decode cX10_layLine 54 = .ok (.iinc 4 1, 3) := by decide +kernel
theorem dX10_layLine_57 : decode cX10_layLine 57 = .ok (.goto (-30), 3) := by decide +kernel
theorem dX10_layLine_60 : decode cX10_layLine 60 = .ok (.iload_n 2, 1) := by decide +kernel
theorem dX10_layLine_61 : decode cX10_layLine 61 = .ok (.iconst (-1), 1) := by decide +kernel
theorem dX10_layLine_62 : decode cX10_layLine 62 = .ok (.if_icmp .eq 37, 3) := by decide +kernel
theorem dX10_layLine_65 : decode cX10_layLine 65 = .ok (.iload_n 3, 1) := by decide +kernel
theorem dX10_layLine_66 : decode cX10_layLine 66 = .ok (.iconst (-1), 1) := by decide +kernel
theorem dX10_layLine_67 : decode cX10_layLine 67 = .ok (.if_icmp .ne 32, 3) := by decide +kernel
theorem dX10_layLine_70 : decode cX10_layLine 70 = .ok (.aload_n 0, 1) := by decide +kernel
theorem dX10_layLine_71 : decode cX10_layLine 71 = .ok (.getfield 158, 3) := by decide +kernel
theorem dX10_layLine_74 : decode cX10_layLine 74 = .ok (.istore_n 3, 1) := by decide +kernel
theorem dX10_layLine_75 : decode cX10_layLine 75 = .ok (.aload_n 0, 1) := by decide +kernel
theorem dX10_layLine_76 : decode cX10_layLine 76 = .ok (.getfield 30, 3) := by decide +kernel
theorem dX10_layLine_79 : decode cX10_layLine 79 = .ok (.iload_n 3, 1) := by decide +kernel
theorem dX10_layLine_80 : decode cX10_layLine 80 = .ok (.iload_n 2, 1) := by decide +kernel
theorem dX10_layLine_81 : decode cX10_layLine 81 = .ok (.iastore, 1) := by decide +kernel
theorem dX10_layLine_82 : decode cX10_layLine 82 = .ok (.aload_n 0, 1) := by decide +kernel
theorem dX10_layLine_83 : decode cX10_layLine 83 = .ok (.getfield 33, 3) := by decide +kernel
theorem dX10_layLine_86 : decode cX10_layLine 86 = .ok (.iload_n 3, 1) := by decide +kernel
theorem dX10_layLine_87 : decode cX10_layLine 87 = .ok (.iconst 0, 1) := by decide +kernel
theorem dX10_layLine_88 : decode cX10_layLine 88 = .ok (.iastore, 1) := by decide +kernel
theorem dX10_layLine_89 : decode cX10_layLine 89 = .ok (.aload_n 0, 1) := by decide +kernel
theorem dX10_layLine_90 : decode cX10_layLine 90 = .ok (.dup, 1) := by decide +kernel
theorem dX10_layLine_91 : decode cX10_layLine 91 = .ok (.getfield 158, 3) := by decide +kernel
theorem dX10_layLine_94 : decode cX10_layLine 94 = .ok (.iconst 1, 1) := by decide +kernel
theorem dX10_layLine_95 : decode cX10_layLine 95 = .ok (.iadd, 1) := by decide +kernel
theorem dX10_layLine_96 : decode cX10_layLine 96 = .ok (.putfield 158, 3) := by decide +kernel
theorem dX10_layLine_99 : decode cX10_layLine 99 = .ok (.iload_n 2, 1) := by decide +kernel
theorem dX10_layLine_100 : decode cX10_layLine 100 = .ok (.iconst (-1), 1) := by decide +kernel
theorem dX10_layLine_101 : decode cX10_layLine 101 = .ok (.if_icmp .eq 13, 3) := by decide +kernel
theorem dX10_layLine_104 : decode cX10_layLine 104 = .ok (.aload_n 0, 1) := by decide +kernel
theorem dX10_layLine_105 : decode cX10_layLine 105 = .ok (.getfield 33, 3) := by decide +kernel
theorem dX10_layLine_108 : decode cX10_layLine 108 = .ok (.iload_n 3, 1) := by decide +kernel
theorem dX10_layLine_109 : decode cX10_layLine 109 = .ok (.dup2, 1) := by decide +kernel
theorem dX10_layLine_110 : decode cX10_layLine 110 = .ok (.iaload, 1) := by decide +kernel
theorem dX10_layLine_111 : decode cX10_layLine 111 = .ok (.iconst 1, 1) := by decide +kernel
theorem dX10_layLine_112 : decode cX10_layLine 112 = .ok (.iadd, 1) := by decide +kernel
theorem dX10_layLine_113 : decode cX10_layLine 113 = .ok (.iastore, 1) := by decide +kernel
theorem dX10_layLine_114 : decode cX10_layLine 114 = .ok (.aload_n 0, 1) := by decide +kernel
theorem dX10_layLine_115 : decode cX10_layLine 115 = .ok (.invokevirtual 134, 3) := by decide +kernel
theorem dX10_layLine_118 : decode cX10_layLine 118 = .ok (.iinc 1 1, 3) := by decide +kernel
theorem dX10_layLine_121 : decode cX10_layLine 121 = .ok (.goto (-110), 3) := by decide +kernel
theorem dX10_layLine_124 : decode cX10_layLine 124 = .ok (.return_, 1) := by decide +kernel
theorem dX10_line_0 : decode cX10_line 0 = .ok (.iload_n 1, 1) := by decide +kernel
theorem dX10_line_1 : decode cX10_line 1 = .ok (.iconst (-1), 1) := by decide +kernel
theorem dX10_line_2 : decode cX10_line 2 = .ok (.if_icmp .lt 13, 3) := by decide +kernel
theorem dX10_line_5 : decode cX10_line 5 = .ok (.iload_n 2, 1) := by decide +kernel
theorem dX10_line_6 : decode cX10_line 6 = .ok (.i2l, 1) := by decide +kernel
theorem dX10_line_7 : decode cX10_line 7 = .ok (.lconst 0, 1) := by decide +kernel
theorem dX10_line_8 : decode cX10_line 8 = .ok (.lconst 1, 1) := by decide +kernel
theorem dX10_line_9 : decode cX10_line 9 = .ok (.invokestatic 65, 3) := by decide +kernel
theorem dX10_line_12 : decode cX10_line 12 = .ok (.ifCond .ne 10, 3) := by decide +kernel
theorem dX10_line_15 : decode cX10_line 15 = .ok (.aload_n 0, 1) := by decide +kernel
theorem dX10_line_16 : decode cX10_line 16 = .ok (.bipush (-10), 2) := by decide +kernel
theorem dX10_line_18 : decode cX10_line 18 = .ok (.invokevirtual 75, 3) := by decide +kernel
theorem dX10_line_21 : decode cX10_line 21 = .ok (.ireturn, 1) := by decide +kernel
theorem dX10_line_22 : decode cX10_line 22 = .ok (.aload_n 0, 1) := by decide +kernel
theorem dX10_line_23 : decode cX10_line 23 = .ok (.invokevirtual 161, 3) := by decide +kernel
theorem dX10_line_26 : decode cX10_line 26 = .ok (.iload_n 1, 1) := by decide +kernel
theorem dX10_line_27 : decode cX10_line 27 = .ok (.iconst (-1), 1) := by decide +kernel
theorem dX10_line_28 : decode cX10_line 28 = .ok (.if_icmp .ne 10, 3) := by decide +kernel
theorem dX10_line_31 : decode cX10_line 31 = .ok (.aload_n 0, 1) := by decide +kernel
theorem dX10_line_32 : decode cX10_line 32 = .ok (.getfield 158, 3) := by decide +kernel
theorem dX10_line_35 : decode cX10_line 35 = .ok (.goto 35, 3) := by decide +kernel
theorem dX10_line_38 : decode cX10_line 38 = .ok (.iload_n 1, 1) := by decide +kernel
theorem dX10_line_39 : decode cX10_line 39 = .ok (.aload_n 0, 1) := by decide +kernel
theorem dX10_line_40 : decode cX10_line 40 = .ok (.getfield 158, 3) := by decide +kernel
theorem dX10_line_43 : decode cX10_line 43 = .ok (.if_icmp .lt 8, 3) := by decide +kernel
theorem dX10_line_46 : decode cX10_line 46 = .ok (.bipush (-5), 2) := by decide +kernel
theorem dX10_line_48 : decode cX10_line 48 = .ok (.goto 22, 3) := by decide +kernel
theorem dX10_line_51 : decode cX10_line 51 = .ok (.iload_n 2, 1) := by decide +kernel
theorem dX10_line_52 : decode cX10_line 52 = .ok (.ifCond .ne 12, 3) := by decide +kernel
theorem dX10_line_55 : decode cX10_line 55 = .ok (.aload_n 0, 1) := by decide +kernel
theorem dX10_line_56 : decode cX10_line 56 = .ok (.getfield 30, 3) := by decide +kernel
theorem dX10_line_59 : decode cX10_line 59 = .ok (.iload_n 1, 1) := by decide +kernel
theorem dX10_line_60 : decode cX10_line 60 = .ok (.iaload, 1) := by decide +kernel
theorem dX10_line_61 : decode cX10_line 61 = .ok (.goto 9, 3) := by decide +kernel
theorem dX10_line_64 : decode cX10_line 64 = .ok (.aload_n 0, 1) := by decide +kernel
theorem dX10_line_65 : decode cX10_line 65 = .ok (.getfield 33, 3) := by decide +kernel
theorem dX10_line_68 : decode cX10_line 68 = .ok (.iload_n 1, 1) := by decide +kernel
theorem dX10_line_69 : decode cX10_line 69 = .ok (.iaload, 1) := by decide +kernel
theorem dX10_line_70 : decode cX10_line 70 = .ok (.ireturn, 1) := by decide +kernel
theorem dX10_far_0 : decode cX10_far 0 = .ok (.iload_n 0, 1) := by decide +kernel
theorem dX10_far_1 : decode cX10_far 1 = .ok (.iload_n 1, 1) := by decide +kernel
theorem dX10_far_2 : decode cX10_far 2 = .ok (.if_icmp .ge 9, 3) := by decide +kernel
theorem dX10_far_5 : decode cX10_far 5 = .ok (.iload_n 1, 1) := by decide +kernel
theorem dX10_far_6 : decode cX10_far 6 = .ok (.iload_n 0, 1) := by decide +kernel
theorem dX10_far_7 : decode cX10_far 7 = .ok (.isub, 1) := by decide +kernel
theorem dX10_far_8 : decode cX10_far 8 = .ok (.goto 6, 3) := by decide +kernel
theorem dX10_far_11 : decode cX10_far 11 = .ok (.iload_n 0, 1) := by decide +kernel
theorem dX10_far_12 : decode cX10_far 12 = .ok (.iload_n 1, 1) := by decide +kernel
theorem dX10_far_13 : decode cX10_far 13 = .ok (.isub, 1) := by decide +kernel
theorem dX10_far_14 : decode cX10_far 14 = .ok (.istore_n 2, 1) := by decide +kernel
theorem dX10_far_15 : decode cX10_far 15 = .ok (.iload_n 2, 1) := by decide +kernel
theorem dX10_far_16 : decode cX10_far 16 = .ok (.iconst 3, 1) := by decide +kernel
theorem dX10_far_17 : decode cX10_far 17 = .ok (.if_icmp .le 10, 3) := by decide +kernel
theorem dX10_far_20 : decode cX10_far 20 = .ok (.bipush 6, 2) := by decide +kernel
theorem dX10_far_22 : decode cX10_far 22 = .ok (.iload_n 2, 1) := by decide +kernel
theorem dX10_far_23 : decode cX10_far 23 = .ok (.isub, 1) := by decide +kernel
theorem dX10_far_24 : decode cX10_far 24 = .ok (.goto 4, 3) := by decide +kernel
theorem dX10_far_27 : decode cX10_far 27 = .ok (.iload_n 2, 1) := by decide +kernel
theorem dX10_far_28 : decode cX10_far 28 = .ok (.ireturn, 1) := by decide +kernel
theorem dX10_canBe_0 : decode cX10_canBe 0 = .ok (.aload_n 0, 1) := by decide +kernel
theorem dX10_canBe_1 : decode cX10_canBe 1 = .ok (.getfield 7, 3) := by decide +kernel
theorem dX10_canBe_4 : decode cX10_canBe 4 = .ok (.bipush 10, 2) := by decide +kernel
theorem dX10_canBe_6 : decode cX10_canBe 6 = .ok (.iaload, 1) := by decide +kernel
theorem dX10_canBe_7 : decode cX10_canBe 7 = .ok (.iload_n 1, 1) := by decide +kernel
theorem dX10_canBe_8 : decode cX10_canBe 8 = .ok (.invokestatic 117, 3) := by decide +kernel
theorem dX10_canBe_11 : decode cX10_canBe 11 = .ok (.ifCond .ne 36, 3) := by decide +kernel
theorem dX10_canBe_14 : decode cX10_canBe 14 = .ok (.aload_n 0, 1) := by decide +kernel
theorem dX10_canBe_15 : decode cX10_canBe 15 = .ok (.iload_n 1, 1) := by decide +kernel
theorem dX10_canBe_16 : decode cX10_canBe 16 = .ok (.iload_n 2, 1) := by decide +kernel
theorem dX10_canBe_17 : decode cX10_canBe 17 = .ok (.invokevirtual 107, 3) := by decide +kernel
theorem dX10_canBe_20 : decode cX10_canBe 20 = .ok (.ifCond .eq 27, 3) := by decide +kernel
theorem dX10_canBe_23 : decode cX10_canBe 23 = .ok (.aload_n 0, 1) := by decide +kernel
theorem dX10_canBe_24 : decode cX10_canBe 24 = .ok (.getfield 7, 3) := by decide +kernel
theorem dX10_canBe_27 : decode cX10_canBe 27 = .ok (.bipush 30, 2) := by decide +kernel
theorem dX10_canBe_29 : decode cX10_canBe 29 = .ok (.iload_n 1, 1) := by decide +kernel
theorem dX10_canBe_30 : decode cX10_canBe 30 = .ok (.iadd, 1) := by decide +kernel
theorem dX10_canBe_31 : decode cX10_canBe 31 = .ok (.iaload, 1) := by decide +kernel
theorem dX10_canBe_32 : decode cX10_canBe 32 = .ok (.iload_n 3, 1) := by decide +kernel
theorem dX10_canBe_33 : decode cX10_canBe 33 = .ok (.invokestatic 164, 3) := by decide +kernel
theorem dX10_canBe_36 : decode cX10_canBe 36 = .ok (.iload_n 2, 1) := by decide +kernel
theorem dX10_canBe_37 : decode cX10_canBe 37 = .ok (.bipush 7, 2) := by decide +kernel
theorem dX10_canBe_39 : decode cX10_canBe 39 = .ok (.isub, 1) := by decide +kernel
theorem dX10_canBe_40 : decode cX10_canBe 40 = .ok (.if_icmp .gt 7, 3) := by decide +kernel
theorem dX10_canBe_43 : decode cX10_canBe 43 = .ok (.iconst 1, 1) := by decide +kernel
theorem dX10_canBe_44 : decode cX10_canBe 44 = .ok (.goto 4, 3) := by decide +kernel
theorem dX10_canBe_47 : decode cX10_canBe 47 = .ok (.iconst 0, 1) := by decide +kernel
theorem dX10_canBe_48 : decode cX10_canBe 48 = .ok (.ireturn, 1) := by decide +kernel
theorem dX10_meet_0 : decode cX10_meet 0 = .ok (.aload_n 0, 1) := by decide +kernel
theorem dX10_meet_1 : decode cX10_meet 1 = .ok (.iload_n 1, 1) := by decide +kernel
theorem dX10_meet_2 : decode cX10_meet 2 = .ok (.invokevirtual 137, 3) := by decide +kernel
theorem dX10_meet_5 : decode cX10_meet 5 = .ok (.ifCond .eq 16, 3) := by decide +kernel
theorem dX10_meet_8 : decode cX10_meet 8 = .ok (.aload_n 0, 1) := by decide +kernel
theorem dX10_meet_9 : decode cX10_meet 9 = .ok (.iload_n 2, 1) := by decide +kernel
theorem dX10_meet_10 : decode cX10_meet 10 = .ok (.invokevirtual 137, 3) := by decide +kernel
theorem dX10_meet_13 : decode cX10_meet 13 = .ok (.ifCond .eq 8, 3) := by decide +kernel
theorem dX10_meet_16 : decode cX10_meet 16 = .ok (.iload_n 1, 1) := by decide +kernel
theorem dX10_meet_17 : decode cX10_meet 17 = .ok (.iload_n 2, 1) := by decide +kernel
theorem dX10_meet_18 : decode cX10_meet 18 = .ok (.if_icmp .ne 10, 3) := by decide +kernel
theorem dX10_meet_21 : decode cX10_meet 21 = .ok (.aload_n 0, 1) := by decide +kernel
theorem dX10_meet_22 : decode cX10_meet 22 = .ok (.bipush (-2), 2) := by decide +kernel
theorem dX10_meet_24 : decode cX10_meet 24 = .ok (.invokevirtual 75, 3) := by decide +kernel
theorem dX10_meet_27 : decode cX10_meet 27 = .ok (.ireturn, 1) := by decide +kernel
theorem dX10_meet_28 : decode cX10_meet 28 = .ok (.aload_n 0, 1) := by decide +kernel
theorem dX10_meet_29 : decode cX10_meet 29 = .ok (.getfield 7, 3) := by decide +kernel
theorem dX10_meet_32 : decode cX10_meet 32 = .ok (.bipush 10, 2) := by decide +kernel
theorem dX10_meet_34 : decode cX10_meet 34 = .ok (.iaload, 1) := by decide +kernel
theorem dX10_meet_35 : decode cX10_meet 35 = .ok (.iload_n 1, 1) := by decide +kernel
theorem dX10_meet_36 : decode cX10_meet 36 = .ok (.invokestatic 117, 3) := by decide +kernel
theorem dX10_meet_39 : decode cX10_meet 39 = .ok (.ifCond .ne 17, 3) := by decide +kernel
theorem dX10_meet_42 : decode cX10_meet 42 = .ok (.aload_n 0, 1) := by decide +kernel
theorem dX10_meet_43 : decode cX10_meet 43 = .ok (.getfield 7, 3) := by decide +kernel
theorem dX10_meet_46 : decode cX10_meet 46 = .ok (.bipush 10, 2) := by decide +kernel
theorem dX10_meet_48 : decode cX10_meet 48 = .ok (.iaload, 1) := by decide +kernel
theorem dX10_meet_49 : decode cX10_meet 49 = .ok (.iload_n 2, 1) := by decide +kernel
theorem dX10_meet_50 : decode cX10_meet 50 = .ok (.invokestatic 117, 3) := by decide +kernel
theorem dX10_meet_53 : decode cX10_meet 53 = .ok (.ifCond .eq 8, 3) := by decide +kernel
theorem dX10_meet_56 : decode cX10_meet 56 = .ok (.aload_n 0, 1) := by decide +kernel
theorem dX10_meet_57 : decode cX10_meet 57 = .ok (.invokevirtual 140, 3) := by decide +kernel
theorem dX10_meet_60 : decode cX10_meet 60 = .ok (.ireturn, 1) := by decide +kernel
theorem dX10_meet_61 : decode cX10_meet 61 = .ok (.bipush 7, 2) := by decide +kernel
theorem dX10_meet_63 : decode cX10_meet 63 = .ok (.istore_n 3, 1) := by decide +kernel
theorem dX10_meet_64 : decode cX10_meet 64 = .ok (.iload_n 3, 1) := by decide +kernel
theorem dX10_meet_65 : decode cX10_meet 65 = .ok (.bipush 24, 2) := by decide +kernel
theorem dX10_meet_67 : decode cX10_meet 67 = .ok (.if_icmp .ge 55, 3) := by decide +kernel
theorem dX10_meet_70 : decode cX10_meet 70 = .ok (.iconst 0, 1) := by decide +kernel
theorem dX10_meet_71 : decode cX10_meet 71 = .ok (.istore 4, 2) := by decide +kernel
theorem dX10_meet_73 : decode cX10_meet 73 = .ok (.iload 4, 2) := by decide +kernel
theorem dX10_meet_75 : decode cX10_meet 75 = .ok (.bipush 6, 2) := by decide +kernel
theorem dX10_meet_77 : decode cX10_meet 77 = .ok (.if_icmp .ge 39, 3) := by decide +kernel
theorem dX10_meet_80 : decode cX10_meet 80 = .ok (.aload_n 0, 1) := by decide +kernel
theorem dX10_meet_81 : decode cX10_meet 81 = .ok (.iload_n 1, 1) := by decide +kernel
theorem dX10_meet_82 : decode cX10_meet 82 = .ok (.iload_n 3, 1) := by decide +kernel
theorem dX10_meet_83 : decode cX10_meet 83 = .ok (.iload 4, 2) := by decide +kernel
theorem dX10_meet_85 : decode cX10_meet 85 = .ok (.invokevirtual 167, 3) := by decide +kernel
theorem dX10_meet_88 : decode cX10_meet 88 = .ok (.ifCond .eq 22, 3) := by decide +kernel
theorem dX10_meet_91 : decode cX10_meet 91 = .ok (.aload_n 0, 1) := by decide +kernel
theorem dX10_meet_92 : decode cX10_meet 92 = .ok (.iload_n 2, 1) := by decide +kernel
theorem dX10_meet_93 : decode cX10_meet 93 = .ok (.iload_n 3, 1) := by decide +kernel
theorem dX10_meet_94 : decode cX10_meet 94 = .ok (.iload 4, 2) := by decide +kernel
theorem dX10_meet_96 : decode cX10_meet 96 = .ok (.invokevirtual 167, 3) := by decide +kernel
theorem dX10_meet_99 : decode cX10_meet 99 = .ok (.ifCond .eq 11, 3) := by decide +kernel
theorem dX10_meet_102 : decode cX10_meet 102 = .ok (.bipush 10, 2) := by decide +kernel
theorem dX10_meet_104 : decode cX10_meet 104 = .ok (.iload_n 3, 1) := by decide +kernel
theorem dX10_meet_105 : decode cX10_meet 105 = .ok (.imul, 1) := by decide +kernel
theorem dX10_meet_106 : decode cX10_meet 106 = .ok (.iload 4, 2) := by decide +kernel
theorem dX10_meet_108 : decode cX10_meet 108 = .ok (.iadd, 1) := by decide +kernel
theorem dX10_meet_109 : decode cX10_meet 109 = .ok (.ireturn, 1) := by decide +kernel
theorem dX10_meet_110 : decode cX10_meet 110 = .ok (.iinc 4 1, 3) := by decide +kernel
theorem dX10_meet_113 : decode cX10_meet 113 = .ok (.goto (-40), 3) := by decide +kernel
theorem dX10_meet_116 : decode cX10_meet 116 = .ok (.iinc 3 1, 3) := by decide +kernel
theorem dX10_meet_119 : decode cX10_meet 119 = .ok (.goto (-55), 3) := by decide +kernel
theorem dX10_meet_122 : decode cX10_meet 122 = .ok (.iconst (-1), 1) := by decide +kernel
theorem dX10_meet_123 : decode cX10_meet 123 = .ok (.ireturn, 1) := by decide +kernel
theorem dX10_congress_0 : decode cX10_congress 0 = .ok (.iload_n 1, 1) := by decide +kernel
theorem dX10_congress_1 : decode cX10_congress 1 = .ok (.i2l, 1) := by decide +kernel
theorem dX10_congress_2 : decode cX10_congress 2 = .ok (.lconst 0, 1) := by decide +kernel
theorem dX10_congress_3 : decode cX10_congress 3 = .ok (.lconst 1, 1) := by decide +kernel
theorem dX10_congress_4 : decode cX10_congress 4 = .ok (.invokestatic 65, 3) := by decide +kernel
theorem dX10_congress_7 : decode cX10_congress 7 = .ok (.ifCond .ne 10, 3) := by decide +kernel
theorem dX10_congress_10 : decode cX10_congress 10 = .ok (.aload_n 0, 1) := by decide +kernel
theorem dX10_congress_11 : decode cX10_congress 11 = .ok (.bipush (-2), 2) := by decide +kernel
theorem dX10_congress_13 : decode cX10_congress 13 = .ok (.invokevirtual 75, 3) := by decide +kernel
theorem dX10_congress_16 : decode cX10_congress 16 = .ok (.ireturn, 1) := by decide +kernel
theorem dX10_congress_17 : decode cX10_congress 17 = .ok (.iconst (-1), 1) := by decide +kernel
theorem dX10_congress_18 : decode cX10_congress 18 = .ok (.istore_n 2, 1) := by decide +kernel
theorem dX10_congress_19 : decode cX10_congress 19 = .ok (.iconst 0, 1) := by decide +kernel
theorem dX10_congress_20 : decode cX10_congress 20 = .ok (.istore_n 3, 1) := by decide +kernel
theorem dX10_congress_21 : decode cX10_congress 21 = .ok (.bipush 7, 2) := by decide +kernel
theorem dX10_congress_23 : decode cX10_congress 23 = .ok (.istore 4, 2) := by decide +kernel
theorem dX10_congress_25 : decode cX10_congress 25 = .ok (.iload 4, 2) := by decide +kernel
theorem dX10_congress_27 : decode cX10_congress 27 = .ok (.bipush 24, 2) := by decide +kernel
theorem dX10_congress_29 : decode cX10_congress 29 = .ok (.if_icmp .ge 101, 3) := by decide +kernel
theorem dX10_congress_32 : decode cX10_congress 32 = .ok (.iconst 0, 1) := by decide +kernel
theorem dX10_congress_33 : decode cX10_congress 33 = .ok (.istore 5, 2) := by decide +kernel
theorem dX10_congress_35 : decode cX10_congress 35 = .ok (.iload 5, 2) := by decide +kernel
theorem dX10_congress_37 : decode cX10_congress 37 = .ok (.bipush 6, 2) := by decide +kernel
theorem dX10_congress_39 : decode cX10_congress 39 = .ok (.if_icmp .ge 85, 3) := by decide +kernel
theorem dX10_congress_42 : decode cX10_congress 42 = .ok (.iconst 0, 1) := by decide +kernel
theorem dX10_congress_43 : decode cX10_congress 43 = .ok (.istore 6, 2) := by decide +kernel
theorem dX10_congress_45 : decode cX10_congress 45 = .ok (.iconst 0, 1) := by decide +kernel
theorem dX10_congress_46 : decode cX10_congress 46 = .ok (.istore 7, 2) := by decide +kernel
theorem dX10_congress_48 : decode cX10_congress 48 = .ok (.iload 7, 2) := by decide +kernel
theorem dX10_congress_50 : decode cX10_congress 50 = .ok (.aload_n 0, 1) := by decide +kernel
theorem dX10_congress_51 : decode cX10_congress 51 = .ok (.invokevirtual 61, 3) := by decide +kernel
theorem dX10_congress_54 : decode cX10_congress 54 = .ok (.if_icmp .ge 32, 3) := by decide +kernel
theorem dX10_congress_57 : decode cX10_congress 57 = .ok (.iload 6, 2) := by decide +kernel
theorem dX10_congress_59 : decode cX10_congress 59 = .ok (.aload_n 0, 1) := by decide +kernel
theorem dX10_congress_60 : decode cX10_congress 60 = .ok (.iload 7, 2) := by decide +kernel
theorem dX10_congress_62 : decode cX10_congress 62 = .ok (.iload 4, 2) := by decide +kernel
theorem dX10_congress_64 : decode cX10_congress 64 = .ok (.iload 5, 2) := by decide +kernel
theorem dX10_congress_66 : decode cX10_congress 66 = .ok (.invokevirtual 167, 3) := by decide +kernel
theorem dX10_congress_69 : decode cX10_congress 69 = .ok (.ifCond .eq 7, 3) := by decide +kernel
theorem dX10_congress_72 : decode cX10_congress 72 = .ok (.iconst 1, 1) := by decide +kernel
theorem dX10_congress_73 : decode cX10_congress 73 = .ok (.goto 4, 3) := by decide +kernel
theorem dX10_congress_76 : decode cX10_congress 76 = .ok (.iconst 0, 1) := by decide +kernel
theorem dX10_congress_77 : decode cX10_congress 77 = .ok (.iadd, 1) := by decide +kernel
theorem dX10_congress_78 : decode cX10_congress 78 = .ok (.istore 6, 2) := by decide +kernel
theorem dX10_congress_80 : decode cX10_congress 80 = .ok (.iinc 7 1, 3) := by decide +kernel
theorem dX10_congress_83 : decode cX10_congress 83 = .ok (.goto (-35), 3) := by decide +kernel
theorem dX10_congress_86 : decode cX10_congress 86 = .ok (.iload 6, 2) := by decide +kernel
theorem dX10_congress_88 : decode cX10_congress 88 = .ok (.iload_n 3, 1) := by decide +kernel
theorem dX10_congress_89 : decode cX10_congress 89 = .ok (.if_icmp .le 14, 3) := by decide +kernel
theorem dX10_congress_92 : decode cX10_congress 92 = .ok (.bipush 10, 2) := by decide +kernel
theorem dX10_congress_94 : decode cX10_congress 94 = .ok (.iload 4, 2) := by decide +kernel
theorem dX10_congress_96 : decode cX10_congress 96 = .ok (.imul, 1) := by decide +kernel
theorem dX10_congress_97 : decode cX10_congress 97 = .ok (.iload 5, 2) := by decide +kernel
theorem dX10_congress_99 : decode cX10_congress 99 = .ok (.iadd, 1) := by decide +kernel
theorem dX10_congress_100 : decode cX10_congress 100 = .ok (.goto 4, 3) := by decide +kernel
theorem dX10_congress_103 : decode cX10_congress 103 = .ok (.iload_n 2, 1) := by decide +kernel
theorem dX10_congress_104 : decode cX10_congress 104 = .ok (.istore_n 2, 1) := by decide +kernel
theorem dX10_congress_105 : decode cX10_congress 105 = .ok (.iload 6, 2) := by decide +kernel
theorem dX10_congress_107 : decode cX10_congress 107 = .ok (.iload_n 3, 1) := by decide +kernel
theorem dX10_congress_108 : decode cX10_congress 108 = .ok (.if_icmp .le 8, 3) := by decide +kernel
theorem dX10_congress_111 : decode cX10_congress 111 = .ok (.iload 6, 2) := by decide +kernel
theorem dX10_congress_113 : decode cX10_congress 113 = .ok (.goto 4, 3) := by decide +kernel
theorem dX10_congress_116 : decode cX10_congress 116 = .ok (.iload_n 3, 1) := by decide +kernel
theorem dX10_congress_117 : decode cX10_congress 117 = .ok (.istore_n 3, 1) := by decide +kernel
theorem dX10_congress_118 : decode cX10_congress 118 = .ok (.iinc 5 1, 3) := by decide +kernel
theorem dX10_congress_121 : decode cX10_congress 121 = .ok (.goto (-86), 3) := by decide +kernel
theorem dX10_congress_124 : decode cX10_congress 124 = .ok (.iinc 4 1, 3) := by decide +kernel
theorem dX10_congress_127 : decode cX10_congress 127 = .ok (.goto (-102), 3) := by decide +kernel
theorem dX10_congress_130 : decode cX10_congress 130 = .ok (.iload_n 1, 1) := by decide +kernel
theorem dX10_congress_131 : decode cX10_congress 131 = .ok (.ifCond .eq 8, 3) := by decide +kernel
theorem dX10_congress_134 : decode cX10_congress 134 = .ok (.iload_n 2, 1) := by decide +kernel
theorem dX10_congress_135 : decode cX10_congress 135 = .ok (.iconst (-1), 1) := by decide +kernel
theorem dX10_congress_136 : decode cX10_congress 136 = .ok (.if_icmp .ne 7, 3) := by decide +kernel
theorem dX10_congress_139 : decode cX10_congress 139 = .ok (.iload_n 2, 1) := by decide +kernel
theorem dX10_congress_140 : decode cX10_congress 140 = .ok (.goto 4, 3) := by decide +kernel
theorem dX10_congress_143 : decode cX10_congress 143 = .ok (.iload_n 3, 1) := by decide +kernel
theorem dX10_congress_144 : decode cX10_congress 144 = .ok (.ireturn, 1) := by decide +kernel
theorem dX10_criedBy_0 : decode cX10_criedBy 0 = .ok (.iload_n 1, 1) := by decide +kernel
theorem dX10_criedBy_1 : decode cX10_criedBy 1 = .ok (.istore_n 2, 1) := by decide +kernel
theorem dX10_criedBy_2 : decode cX10_criedBy 2 = .ok (.iconst 0, 1) := by decide +kernel
theorem dX10_criedBy_3 : decode cX10_criedBy 3 = .ok (.istore_n 3, 1) := by decide +kernel
theorem dX10_criedBy_4 : decode cX10_criedBy 4 = .ok (.iconst 0, 1) := by decide +kernel
theorem dX10_criedBy_5 : decode cX10_criedBy 5 = .ok (.istore 4, 2) := by decide +kernel
theorem dX10_criedBy_7 : decode cX10_criedBy 7 = .ok (.aload_n 0, 1) := by decide +kernel
theorem dX10_criedBy_8 : decode cX10_criedBy 8 = .ok (.invokevirtual 61, 3) := by decide +kernel
theorem dX10_criedBy_11 : decode cX10_criedBy 11 = .ok (.iconst 1, 1) := by decide +kernel
theorem dX10_criedBy_12 : decode cX10_criedBy 12 = .ok (.isub, 1) := by decide +kernel
theorem dX10_criedBy_13 : decode cX10_criedBy 13 = .ok (.istore 5, 2) := by decide +kernel
theorem dX10_criedBy_15 : decode cX10_criedBy 15 = .ok (.iload 5, 2) := by decide +kernel
theorem dX10_criedBy_17 : decode cX10_criedBy 17 = .ok (.ifCond .lt 115, 3) := by decide +kernel
theorem dX10_criedBy_20 : decode cX10_criedBy 20 = .ok (.iload_n 2, 1) := by decide +kernel
theorem dX10_criedBy_21 : decode cX10_criedBy 21 = .ok (.bipush 6, 2) := by decide +kernel
theorem dX10_criedBy_23 : decode cX10_criedBy 23 = .ok (.irem, 1) := by decide +kernel
theorem dX10_criedBy_24 : decode cX10_criedBy 24 = .ok (.istore 6, 2) := by decide +kernel
theorem dX10_criedBy_26 : decode cX10_criedBy 26 = .ok (.iload_n 2, 1) := by decide +kernel
theorem dX10_criedBy_27 : decode cX10_criedBy 27 = .ok (.bipush 6, 2) := by decide +kernel
theorem dX10_criedBy_29 : decode cX10_criedBy 29 = .ok (.idiv, 1) := by decide +kernel
theorem dX10_criedBy_30 : decode cX10_criedBy 30 = .ok (.istore_n 2, 1) := by decide +kernel
theorem dX10_criedBy_31 : decode cX10_criedBy 31 = .ok (.aload_n 0, 1) := by decide +kernel
theorem dX10_criedBy_32 : decode cX10_criedBy 32 = .ok (.getfield 7, 3) := by decide +kernel
theorem dX10_criedBy_35 : decode cX10_criedBy 35 = .ok (.bipush 10, 2) := by decide +kernel
theorem dX10_criedBy_37 : decode cX10_criedBy 37 = .ok (.iaload, 1) := by decide +kernel
theorem dX10_criedBy_38 : decode cX10_criedBy 38 = .ok (.iload 5, 2) := by decide +kernel
theorem dX10_criedBy_40 : decode cX10_criedBy 40 = .ok (.invokestatic 117, 3) := by decide +kernel
theorem dX10_criedBy_43 : decode cX10_criedBy 43 = .ok (.istore 7, 2) := by decide +kernel
theorem dX10_criedBy_45 : decode cX10_criedBy 45 = .ok (.aload_n 0, 1) := by decide +kernel
theorem dX10_criedBy_46 : decode cX10_criedBy 46 = .ok (.getfield 36, 3) := by decide +kernel
theorem dX10_criedBy_49 : decode cX10_criedBy 49 = .ok (.iload 5, 2) := by decide +kernel
theorem dX10_criedBy_51 : decode cX10_criedBy 51 = .ok (.iload 7, 2) := by decide +kernel
theorem dX10_criedBy_53 : decode cX10_criedBy 53 = .ok (.ifCond .eq 7, 3) := by decide +kernel
theorem dX10_criedBy_56 : decode cX10_criedBy 56 = .ok (.iconst (-1), 1) := by decide +kernel
theorem dX10_criedBy_57 : decode cX10_criedBy 57 = .ok (.goto 5, 3) := by decide +kernel
theorem dX10_criedBy_60 : decode cX10_criedBy 60 = .ok (.iload 6, 2) := by decide +kernel
theorem dX10_criedBy_62 : decode cX10_criedBy 62 = .ok (.iastore, 1) := by decide +kernel
theorem dX10_criedBy_63 : decode cX10_criedBy 63 = .ok (.iload 7, 2) := by decide +kernel
theorem dX10_criedBy_65 : decode cX10_criedBy 65 = .ok (.ifCond .eq 11, 3) := by decide +kernel
theorem dX10_criedBy_68 : decode cX10_criedBy 68 = .ok (.iload 6, 2) := by decide +kernel
theorem dX10_criedBy_70 : decode cX10_criedBy 70 = .ok (.ifCond .le 18, 3) := by decide +kernel
theorem dX10_criedBy_73 : decode cX10_criedBy 73 = .ok (.goto 12, 3) := by decide +kernel
theorem dX10_criedBy_76 : decode cX10_criedBy 76 = .ok (.iload_n 3, 1) := by decide +kernel
theorem dX10_criedBy_77 : decode cX10_criedBy 77 = .ok (.iload 6, 2) := by decide +kernel
theorem dX10_criedBy_79 : decode cX10_criedBy 79 = .ok (.invokestatic 117, 3) := by decide +kernel
theorem dX10_criedBy_82 : decode cX10_criedBy 82 = .ok (.ifCond .eq 6, 3) := by decide +kernel
theorem dX10_criedBy_85 : decode cX10_criedBy 85 = .ok (.ldc 171, 2) := by decide +kernel
theorem dX10_criedBy_87 : decode cX10_criedBy 87 = .ok (.ireturn, 1) := by decide +kernel
theorem dX10_criedBy_88 : decode cX10_criedBy 88 = .ok (.iload_n 3, 1) := by decide +kernel
theorem dX10_criedBy_89 : decode cX10_criedBy 89 = .ok (.iload 7, 2) := by decide +kernel
theorem dX10_criedBy_91 : decode cX10_criedBy 91 = .ok (.ifCond .eq 7, 3) := by decide +kernel
theorem dX10_criedBy_94 : decode cX10_criedBy 94 = .ok (.iconst 0, 1) := by decide +kernel
theorem dX10_criedBy_95 : decode cX10_criedBy 95 = .ok (.goto 7, 3) := by decide +kernel
theorem dX10_criedBy_98 : decode cX10_criedBy 98 = .ok (.iconst 1, 1) := by decide +kernel
theorem dX10_criedBy_99 : decode cX10_criedBy 99 = .ok (.iload 6, 2) := by decide +kernel
theorem dX10_criedBy_101 : decode cX10_criedBy 101 = .ok (.ishl, 1) := by decide +kernel
theorem dX10_criedBy_102 : decode cX10_criedBy 102 = .ok (.ior, 1) := by decide +kernel
theorem dX10_criedBy_103 : decode cX10_criedBy 103 = .ok (.istore_n 3, 1) := by decide +kernel
theorem dX10_criedBy_104 : decode cX10_criedBy 104 = .ok (.iload 4, 2) := by decide +kernel
theorem dX10_criedBy_106 : decode cX10_criedBy 106 = .ok (.iload 7, 2) := by decide +kernel
theorem dX10_criedBy_108 : decode cX10_criedBy 108 = .ok (.ifCond .eq 7, 3) := by decide +kernel
theorem dX10_criedBy_111 : decode cX10_criedBy 111 = .ok (.iconst 0, 1) := by decide +kernel
theorem dX10_criedBy_112 : decode cX10_criedBy 112 = .ok (.goto 11, 3) := by decide +kernel
theorem dX10_criedBy_115 : decode cX10_criedBy 115 = .ok (.aload_n 0, 1) := by decide +kernel
theorem dX10_criedBy_116 : decode cX10_criedBy 116 = .ok (.iload 5, 2) := by decide +kernel
theorem dX10_criedBy_118 : decode cX10_criedBy 118 = .ok (.iload 6, 2) := by decide +kernel
theorem dX10_criedBy_120 : decode cX10_criedBy 120 = .ok (.invokevirtual 152, 3) := by decide +kernel
theorem dX10_criedBy_123 : decode cX10_criedBy 123 = .ok (.iadd, 1) := by decide +kernel
theorem dX10_criedBy_124 : decode cX10_criedBy 124 = .ok (.istore 4, 2) := by decide +kernel
theorem dX10_criedBy_126 : decode cX10_criedBy 126 = .ok (.iinc 5 (-1), 3) := by decide +kernel
theorem dX10_criedBy_129 : decode cX10_criedBy 129 = .ok (.goto (-114), 3) := by decide +kernel
theorem dX10_criedBy_132 : decode cX10_criedBy 132 = .ok (.iload 4, 2) := by decide +kernel
theorem dX10_criedBy_134 : decode cX10_criedBy 134 = .ok (.ireturn, 1) := by decide +kernel
theorem dX10_nurses_0 : decode cX10_nurses 0 = .ok (.iload_n 1, 1) := by decide +kernel
theorem dX10_nurses_1 : decode cX10_nurses 1 = .ok (.i2l, 1) := by decide +kernel
theorem dX10_nurses_2 : decode cX10_nurses 2 = .ok (.ldc2_w 172, 3) := by decide +kernel
theorem dX10_nurses_5 : decode cX10_nurses 5 = .ok (.aload_n 0, 1) := by decide +kernel
theorem dX10_nurses_6 : decode cX10_nurses 6 = .ok (.invokevirtual 61, 3) := by decide +kernel
theorem dX10_nurses_9 : decode cX10_nurses 9 = .ok (.iconst 1, 1) := by decide +kernel
theorem dX10_nurses_10 : decode cX10_nurses 10 = .ok (.isub, 1) := by decide +kernel
theorem dX10_nurses_11 : decode cX10_nurses 11 = .ok (.i2l, 1) := by decide +kernel
theorem dX10_nurses_12 : decode cX10_nurses 12 = .ok (.invokestatic 65, 3) := by decide +kernel
theorem dX10_nurses_15 : decode cX10_nurses 15 = .ok (.ifCond .ne 10, 3) := by decide +kernel
theorem dX10_nurses_18 : decode cX10_nurses 18 = .ok (.aload_n 0, 1) := by decide +kernel
theorem dX10_nurses_19 : decode cX10_nurses 19 = .ok (.bipush (-10), 2) := by decide +kernel
theorem dX10_nurses_21 : decode cX10_nurses 21 = .ok (.invokevirtual 75, 3) := by decide +kernel
theorem dX10_nurses_24 : decode cX10_nurses 24 = .ok (.ireturn, 1) := by decide +kernel
theorem dX10_nurses_25 : decode cX10_nurses 25 = .ok (.iconst 1, 1) := by decide +kernel
theorem dX10_nurses_26 : decode cX10_nurses 26 = .ok (.istore_n 2, 1) := by decide +kernel
theorem dX10_nurses_27 : decode cX10_nurses 27 = .ok (.ldc 171, 2) := by decide +kernel
theorem dX10_nurses_29 : decode cX10_nurses 29 = .ok (.istore_n 3, 1) := by decide +kernel
theorem dX10_nurses_30 : decode cX10_nurses 30 = .ok (.iconst 0, 1) := by decide +kernel
theorem dX10_nurses_31 : decode cX10_nurses 31 = .ok (.istore 4, 2) := by decide +kernel
theorem dX10_nurses_33 : decode cX10_nurses 33 = .ok (.iload 4, 2) := by decide +kernel
theorem dX10_nurses_35 : decode cX10_nurses 35 = .ok (.aload_n 0, 1) := by decide +kernel
theorem dX10_nurses_36 : decode cX10_nurses 36 = .ok (.invokevirtual 61, 3) := by decide +kernel
theorem dX10_nurses_39 : decode cX10_nurses 39 = .ok (.if_icmp .ge 14, 3) := by decide +kernel
theorem dX10_nurses_42 : decode cX10_nurses 42 = .ok (.iload_n 2, 1) := by decide +kernel
theorem dX10_nurses_43 : decode cX10_nurses 43 = .ok (.bipush 6, 2) := by decide +kernel
theorem dX10_nurses_45 : decode cX10_nurses 45 = .ok (.imul, 1) := by decide +kernel
theorem dX10_nurses_46 : decode cX10_nurses 46 = .ok (.istore_n 2, 1) := by decide +kernel
theorem dX10_nurses_47 : decode cX10_nurses 47 = .ok (.iinc 4 1, 3) := by decide +kernel
theorem dX10_nurses_50 : decode cX10_nurses 50 = .ok (.goto (-17), 3) := by decide +kernel
theorem dX10_nurses_53 : decode cX10_nurses 53 = .ok (.iconst 0, 1) := by decide +kernel
theorem dX10_nurses_54 : decode cX10_nurses 54 = .ok (.istore 4, 2) := by decide +kernel
theorem dX10_nurses_56 : decode cX10_nurses 56 = .ok (.iload 4, 2) := by decide +kernel
theorem dX10_nurses_58 : decode cX10_nurses 58 = .ok (.iload_n 2, 1) := by decide +kernel
theorem dX10_nurses_59 : decode cX10_nurses 59 = .ok (.if_icmp .ge 68, 3) := by decide +kernel
theorem dX10_nurses_62 : decode cX10_nurses 62 = .ok (.aload_n 0, 1) := by decide +kernel
theorem dX10_nurses_63 : decode cX10_nurses 63 = .ok (.iload 4, 2) := by decide +kernel
theorem dX10_nurses_65 : decode cX10_nurses 65 = .ok (.invokevirtual 174, 3) := by decide +kernel
theorem dX10_nurses_68 : decode cX10_nurses 68 = .ok (.istore 5, 2) := by decide +kernel
theorem dX10_nurses_70 : decode cX10_nurses 70 = .ok (.iconst 0, 1) := by decide +kernel
theorem dX10_nurses_71 : decode cX10_nurses 71 = .ok (.istore 6, 2) := by decide +kernel
theorem dX10_nurses_73 : decode cX10_nurses 73 = .ok (.iload 6, 2) := by decide +kernel
theorem dX10_nurses_75 : decode cX10_nurses 75 = .ok (.aload_n 0, 1) := by decide +kernel
theorem dX10_nurses_76 : decode cX10_nurses 76 = .ok (.invokevirtual 61, 3) := by decide +kernel
theorem dX10_nurses_79 : decode cX10_nurses 79 = .ok (.if_icmp .ge 29, 3) := by decide +kernel
theorem dX10_nurses_82 : decode cX10_nurses 82 = .ok (.iload 5, 2) := by decide +kernel
theorem dX10_nurses_84 : decode cX10_nurses 84 = .ok (.iload_n 3, 1) := by decide +kernel
theorem dX10_nurses_85 : decode cX10_nurses 85 = .ok (.if_icmp .ge 23, 3) := by decide +kernel
theorem dX10_nurses_88 : decode cX10_nurses 88 = .ok (.aload_n 0, 1) := by decide +kernel
theorem dX10_nurses_89 : decode cX10_nurses 89 = .ok (.getfield 39, 3) := by decide +kernel
theorem dX10_nurses_92 : decode cX10_nurses 92 = .ok (.iload 6, 2) := by decide +kernel
theorem dX10_nurses_94 : decode cX10_nurses 94 = .ok (.aload_n 0, 1) := by decide +kernel
theorem dX10_nurses_95 : decode cX10_nurses 95 = .ok (.getfield 36, 3) := by decide +kernel
theorem dX10_nurses_98 : decode cX10_nurses 98 = .ok (.iload 6, 2) := by decide +kernel
theorem dX10_nurses_100 : decode cX10_nurses 100 = .ok (.iaload, 1) := by decide +kernel
theorem dX10_nurses_101 : decode cX10_nurses 101 = .ok (.iastore, 1) := by decide +kernel
theorem dX10_nurses_102 : decode cX10_nurses 102 = .ok (.iinc 6 1, 3) := by decide +kernel
theorem dX10_nurses_105 : decode cX10_nurses 105 = .ok (.goto (-32), 3) := by decide +kernel
theorem dX10_nurses_108 : decode cX10_nurses 108 = .ok (.iload 5, 2) := by decide +kernel
theorem dX10_nurses_110 : decode cX10_nurses 110 = .ok (.iload_n 3, 1) := by decide +kernel
theorem dX10_nurses_111 : decode cX10_nurses 111 = .ok (.if_icmp .ge 8, 3) := by decide +kernel
theorem dX10_nurses_114 : decode cX10_nurses 114 = .ok (.iload 5, 2) := by decide +kernel
theorem dX10_nurses_116 : decode cX10_nurses 116 = .ok (.goto 4, 3) := by decide +kernel
theorem dX10_nurses_119 : decode cX10_nurses 119 = .ok (.iload_n 3, 1) := by decide +kernel
theorem dX10_nurses_120 : decode cX10_nurses 120 = .ok (.istore_n 3, 1) := by decide +kernel
theorem dX10_nurses_121 : decode cX10_nurses 121 = .ok (.iinc 4 1, 3) := by decide +kernel
theorem dX10_nurses_124 : decode cX10_nurses 124 = .ok (.goto (-68), 3) := by decide +kernel
theorem dX10_nurses_127 : decode cX10_nurses 127 = .ok (.iload_n 1, 1) := by decide +kernel
theorem dX10_nurses_128 : decode cX10_nurses 128 = .ok (.iconst (-1), 1) := by decide +kernel
theorem dX10_nurses_129 : decode cX10_nurses 129 = .ok (.if_icmp .ne 7, 3) := by decide +kernel
theorem dX10_nurses_132 : decode cX10_nurses 132 = .ok (.iload_n 3, 1) := by decide +kernel
theorem dX10_nurses_133 : decode cX10_nurses 133 = .ok (.goto 9, 3) := by decide +kernel
theorem dX10_nurses_136 : decode cX10_nurses 136 = .ok (.aload_n 0, 1) := by decide +kernel
theorem dX10_nurses_137 : decode cX10_nurses 137 = .ok (.getfield 39, 3) := by decide +kernel
theorem dX10_nurses_140 : decode cX10_nurses 140 = .ok (.iload_n 1, 1) := by decide +kernel
theorem dX10_nurses_141 : decode cX10_nurses 141 = .ok (.iaload, 1) := by decide +kernel
theorem dX10_nurses_142 : decode cX10_nurses 142 = .ok (.ireturn, 1) := by decide +kernel
theorem dX10_visit_0 : decode cX10_visit 0 = .ok (.aload_n 0, 1) := by decide +kernel
theorem dX10_visit_1 : decode cX10_visit 1 = .ok (.invokevirtual 155, 3) := by decide +kernel
theorem dX10_visit_4 : decode cX10_visit 4 = .ok (.istore_n 1, 1) := by decide +kernel
theorem dX10_visit_5 : decode cX10_visit 5 = .ok (.iconst (-1), 1) := by decide +kernel
theorem dX10_visit_6 : decode cX10_visit 6 = .ok (.istore_n 2, 1) := by decide +kernel
theorem dX10_visit_7 : decode cX10_visit 7 = .ok (.ldc 171, 2) := by decide +kernel
theorem dX10_visit_9 : decode cX10_visit 9 = .ok (.istore_n 3, 1) := by decide +kernel
theorem dX10_visit_10 : decode cX10_visit 10 = .ok (.iconst 0, 1) := by decide +kernel
theorem dX10_visit_11 : decode cX10_visit 11 = .ok (.istore 4, 2) := by decide +kernel
theorem dX10_visit_13 : decode cX10_visit 13 = .ok (.iload 4, 2) := by decide +kernel
theorem dX10_visit_15 : decode cX10_visit 15 = .ok (.bipush 24, 2) := by decide +kernel
theorem dX10_visit_17 : decode cX10_visit 17 = .ok (.if_icmp .ge 64, 3) := by decide +kernel
theorem dX10_visit_20 : decode cX10_visit 20 = .ok (.iload_n 1, 1) := by decide +kernel
theorem dX10_visit_21 : decode cX10_visit 21 = .ok (.iconst (-1), 1) := by decide +kernel
theorem dX10_visit_22 : decode cX10_visit 22 = .ok (.if_icmp .eq 59, 3) := by decide +kernel
theorem dX10_visit_25 : decode cX10_visit 25 = .ok (.aload_n 0, 1) := by decide +kernel
theorem dX10_visit_26 : decode cX10_visit 26 = .ok (.iload_n 1, 1) := by decide +kernel
theorem dX10_visit_27 : decode cX10_visit 27 = .ok (.iload 4, 2) := by decide +kernel
theorem dX10_visit_29 : decode cX10_visit 29 = .ok (.invokevirtual 107, 3) := by decide +kernel
theorem dX10_visit_32 : decode cX10_visit 32 = .ok (.ifCond .eq 13, 3) := by decide +kernel
theorem dX10_visit_35 : decode cX10_visit 35 = .ok (.aload_n 0, 1) := by decide +kernel
theorem dX10_visit_36 : decode cX10_visit 36 = .ok (.iload_n 1, 1) := by decide +kernel
theorem dX10_visit_37 : decode cX10_visit 37 = .ok (.iload 4, 2) := by decide +kernel
theorem dX10_visit_39 : decode cX10_visit 39 = .ok (.invokevirtual 149, 3) := by decide +kernel
theorem dX10_visit_42 : decode cX10_visit 42 = .ok (.goto 5, 3) := by decide +kernel
theorem dX10_visit_45 : decode cX10_visit 45 = .ok (.ldc 171, 2) := by decide +kernel
theorem dX10_visit_47 : decode cX10_visit 47 = .ok (.istore 5, 2) := by decide +kernel
theorem dX10_visit_49 : decode cX10_visit 49 = .ok (.iload 5, 2) := by decide +kernel
theorem dX10_visit_51 : decode cX10_visit 51 = .ok (.iload_n 3, 1) := by decide +kernel
theorem dX10_visit_52 : decode cX10_visit 52 = .ok (.if_icmp .ge 8, 3) := by decide +kernel
theorem dX10_visit_55 : decode cX10_visit 55 = .ok (.iload 4, 2) := by decide +kernel
theorem dX10_visit_57 : decode cX10_visit 57 = .ok (.goto 4, 3) := by decide +kernel
theorem dX10_visit_60 : decode cX10_visit 60 = .ok (.iload_n 2, 1) := by decide +kernel
theorem dX10_visit_61 : decode cX10_visit 61 = .ok (.istore_n 2, 1) := by decide +kernel
theorem dX10_visit_62 : decode cX10_visit 62 = .ok (.iload 5, 2) := by decide +kernel
theorem dX10_visit_64 : decode cX10_visit 64 = .ok (.iload_n 3, 1) := by decide +kernel
theorem dX10_visit_65 : decode cX10_visit 65 = .ok (.if_icmp .ge 8, 3) := by decide +kernel
theorem dX10_visit_68 : decode cX10_visit 68 = .ok (.iload 5, 2) := by decide +kernel
theorem dX10_visit_70 : decode cX10_visit 70 = .ok (.goto 4, 3) := by decide +kernel
theorem dX10_visit_73 : decode cX10_visit 73 = .ok (.iload_n 3, 1) := by decide +kernel
theorem dX10_visit_74 : decode cX10_visit 74 = .ok (.istore_n 3, 1) := by decide +kernel
theorem dX10_visit_75 : decode cX10_visit 75 = .ok (.iinc 4 1, 3) := by decide +kernel
theorem dX10_visit_78 : decode cX10_visit 78 = .ok (.goto (-65), 3) := by decide +kernel
theorem dX10_visit_81 : decode cX10_visit 81 = .ok (.iload_n 2, 1) := by decide +kernel
theorem dX10_visit_82 : decode cX10_visit 82 = .ok (.ireturn, 1) := by decide +kernel
theorem dX10_note_0 : decode cX10_note 0 = .ok (.aload_n 0, 1) := by decide +kernel
theorem dX10_note_1 : decode cX10_note 1 = .ok (.iload_n 1, 1) := by decide +kernel
theorem dX10_note_2 : decode cX10_note 2 = .ok (.invokevirtual 137, 3) := by decide +kernel
theorem dX10_note_5 : decode cX10_note 5 = .ok (.ifCond .eq 46, 3) := by decide +kernel
theorem dX10_note_8 : decode cX10_note 8 = .ok (.iload_n 2, 1) := by decide +kernel
theorem dX10_note_9 : decode cX10_note 9 = .ok (.i2l, 1) := by decide +kernel
theorem dX10_note_10 : decode cX10_note 10 = .ok (.lconst 0, 1) := by decide +kernel
theorem dX10_note_11 : decode cX10_note 11 = .ok (.ldc2_w 73, 3) := by decide +kernel
theorem dX10_note_14 : decode cX10_note 14 = .ok (.invokestatic 65, 3) := by decide +kernel
theorem dX10_note_17 : decode cX10_note 17 = .ok (.ifCond .eq 34, 3) := by decide +kernel
theorem dX10_note_20 : decode cX10_note 20 = .ok (.iload_n 3, 1) := by decide +kernel
theorem dX10_note_21 : decode cX10_note 21 = .ok (.invokestatic 146, 3) := by decide +kernel
theorem dX10_note_24 : decode cX10_note 24 = .ok (.ifCond .eq 27, 3) := by decide +kernel
theorem dX10_note_27 : decode cX10_note 27 = .ok (.iload 4, 2) := by decide +kernel
theorem dX10_note_29 : decode cX10_note 29 = .ok (.i2l, 1) := by decide +kernel
theorem dX10_note_30 : decode cX10_note 30 = .ok (.lconst 0, 1) := by decide +kernel
theorem dX10_note_31 : decode cX10_note 31 = .ok (.lconst 1, 1) := by decide +kernel
theorem dX10_note_32 : decode cX10_note 32 = .ok (.invokestatic 65, 3) := by decide +kernel
theorem dX10_note_35 : decode cX10_note 35 = .ok (.ifCond .eq 16, 3) := by decide +kernel
theorem dX10_note_38 : decode cX10_note 38 = .ok (.iload 5, 2) := by decide +kernel
theorem dX10_note_40 : decode cX10_note 40 = .ok (.i2l, 1) := by decide +kernel
theorem dX10_note_41 : decode cX10_note 41 = .ok (.lconst 0, 1) := by decide +kernel
theorem dX10_note_42 : decode cX10_note 42 = .ok (.ldc2_w 177, 3) := by decide +kernel
theorem dX10_note_45 : decode cX10_note 45 = .ok (.invokestatic 65, 3) := by decide +kernel
theorem dX10_note_48 : decode cX10_note 48 = .ok (.ifCond .ne 10, 3) := by decide +kernel
theorem dX10_note_51 : decode cX10_note 51 = .ok (.aload_n 0, 1) := by decide +kernel
theorem dX10_note_52 : decode cX10_note 52 = .ok (.bipush (-2), 2) := by decide +kernel
theorem dX10_note_54 : decode cX10_note 54 = .ok (.invokevirtual 75, 3) := by decide +kernel
theorem dX10_note_57 : decode cX10_note 57 = .ok (.ireturn, 1) := by decide +kernel
theorem dX10_note_58 : decode cX10_note 58 = .ok (.aload_n 0, 1) := by decide +kernel
theorem dX10_note_59 : decode cX10_note 59 = .ok (.getfield 7, 3) := by decide +kernel
theorem dX10_note_62 : decode cX10_note 62 = .ok (.iconst 1, 1) := by decide +kernel
theorem dX10_note_63 : decode cX10_note 63 = .ok (.iaload, 1) := by decide +kernel
theorem dX10_note_64 : decode cX10_note 64 = .ok (.bipush 6, 2) := by decide +kernel
theorem dX10_note_66 : decode cX10_note 66 = .ok (.if_icmp .ne 8, 3) := by decide +kernel
theorem dX10_note_69 : decode cX10_note 69 = .ok (.aload_n 0, 1) := by decide +kernel
theorem dX10_note_70 : decode cX10_note 70 = .ok (.invokevirtual 79, 3) := by decide +kernel
theorem dX10_note_73 : decode cX10_note 73 = .ok (.ireturn, 1) := by decide +kernel
theorem dX10_note_74 : decode cX10_note 74 = .ok (.bipush 36, 2) := by decide +kernel
theorem dX10_note_76 : decode cX10_note 76 = .ok (.iconst 5, 1) := by decide +kernel
theorem dX10_note_77 : decode cX10_note 77 = .ok (.aload_n 0, 1) := by decide +kernel
theorem dX10_note_78 : decode cX10_note 78 = .ok (.getfield 7, 3) := by decide +kernel
theorem dX10_note_81 : decode cX10_note 81 = .ok (.iconst 1, 1) := by decide +kernel
theorem dX10_note_82 : decode cX10_note 82 = .ok (.iaload, 1) := by decide +kernel
theorem dX10_note_83 : decode cX10_note 83 = .ok (.imul, 1) := by decide +kernel
