theorem dX9_init_0 : decode cX9_init 0 = .ok (.aload_n 0, 1) := by decide +kernel
theorem dX9_init_1 : decode cX9_init 1 = .ok (.invokespecial 1, 3) := by decide +kernel
theorem dX9_init_4 : decode cX9_init 4 = .ok (.bipush 6, 2) := by decide +kernel
theorem dX9_init_6 : decode cX9_init 6 = .ok (.anewarray 7, 3) := by decide +kernel
theorem dX9_init_9 : decode cX9_init 9 = .ok (.dup, 1) := by decide +kernel
theorem dX9_init_10 : decode cX9_init 10 = .ok (.iconst 0, 1) := by decide +kernel
theorem dX9_init_11 : decode cX9_init 11 = .ok (.new 7, 3) := by decide +kernel
theorem dX9_init_14 : decode cX9_init 14 = .ok (.dup, 1) := by decide +kernel
theorem dX9_init_15 : decode cX9_init 15 = .ok (.invokespecial 9, 3) := by decide +kernel
theorem dX9_init_18 : decode cX9_init 18 = .ok (.aastore, 1) := by decide +kernel
theorem dX9_init_19 : decode cX9_init 19 = .ok (.dup, 1) := by decide +kernel
theorem dX9_init_20 : decode cX9_init 20 = .ok (.iconst 1, 1) := by decide +kernel
theorem dX9_init_21 : decode cX9_init 21 = .ok (.new 10, 3) := by decide +kernel
theorem dX9_init_24 : decode cX9_init 24 = .ok (.dup, 1) := by decide +kernel
theorem dX9_init_25 : decode cX9_init 25 = .ok (.invokespecial 12, 3) := by decide +kernel
theorem dX9_init_28 : decode cX9_init 28 = .ok (.aastore, 1) := by decide +kernel
theorem dX9_init_29 : decode cX9_init 29 = .ok (.dup, 1) := by decide +kernel
theorem dX9_init_30 : decode cX9_init 30 = .ok (.iconst 2, 1) := by decide +kernel
theorem dX9_init_31 : decode cX9_init 31 = .ok (.new 13, 3) := by decide +kernel
theorem dX9_init_34 : decode cX9_init 34 = .ok (.dup, 1) := by decide +kernel
theorem dX9_init_35 : decode cX9_init 35 = .ok (.invokespecial 15, 3) := by decide +kernel
theorem dX9_init_38 : decode cX9_init 38 = .ok (.aastore, 1) := by decide +kernel
theorem dX9_init_39 : decode cX9_init 39 = .ok (.dup, 1) := by decide +kernel
theorem dX9_init_40 : decode cX9_init 40 = .ok (.iconst 3, 1) := by decide +kernel
theorem dX9_init_41 : decode cX9_init 41 = .ok (.new 16, 3) := by decide +kernel
theorem dX9_init_44 : decode cX9_init 44 = .ok (.dup, 1) := by decide +kernel
theorem dX9_init_45 : decode cX9_init 45 = .ok (.invokespecial 18, 3) := by decide +kernel
theorem dX9_init_48 : decode cX9_init 48 = .ok (.aastore, 1) := by decide +kernel
theorem dX9_init_49 : decode cX9_init 49 = .ok (.dup, 1) := by decide +kernel
theorem dX9_init_50 : decode cX9_init 50 = .ok (.iconst 4, 1) := by decide +kernel
theorem dX9_init_51 : decode cX9_init 51 = .ok (.new 19, 3) := by decide +kernel
theorem dX9_init_54 : decode cX9_init 54 = .ok (.dup, 1) := by decide +kernel
theorem dX9_init_55 : decode cX9_init 55 = .ok (.invokespecial 21, 3) := by decide +kernel
theorem dX9_init_58 : decode cX9_init 58 = .ok (.aastore, 1) := by decide +kernel
theorem dX9_init_59 : decode cX9_init 59 = .ok (.dup, 1) := by decide +kernel
theorem dX9_init_60 : decode cX9_init 60 = .ok (.iconst 5, 1) := by decide +kernel
theorem dX9_init_61 : decode cX9_init 61 = .ok (.new 22, 3) := by decide +kernel
theorem dX9_init_64 : decode cX9_init 64 = .ok (.dup, 1) := by decide +kernel
theorem dX9_init_65 : decode cX9_init 65 = .ok (.invokespecial 24, 3) := by decide +kernel
theorem dX9_init_68 : decode cX9_init 68 = .ok (.aastore, 1) := by decide +kernel
theorem dX9_init_69 : decode cX9_init 69 = .ok (.astore_n 1, 1) := by decide +kernel
theorem dX9_init_70 : decode cX9_init 70 = .ok (.aload_n 0, 1) := by decide +kernel
theorem dX9_init_71 : decode cX9_init 71 = .ok (.new 25, 3) := by decide +kernel
theorem dX9_init_74 : decode cX9_init 74 = .ok (.dup, 1) := by decide +kernel
theorem dX9_init_75 : decode cX9_init 75 = .ok (.aload_n 1, 1) := by decide +kernel
theorem dX9_init_76 : decode cX9_init 76 = .ok (.invokespecial 27, 3) := by decide +kernel
theorem dX9_init_79 : decode cX9_init 79 = .ok (.putfield 30, 3) := by decide +kernel
theorem dX9_init_82 : decode cX9_init 82 = .ok (.aload_n 0, 1) := by decide +kernel
theorem dX9_init_83 : decode cX9_init 83 = .ok (.iconst 2, 1) := by decide +kernel
theorem dX9_init_84 : decode cX9_init 84 = .ok (.anewarray 25, 3) := by decide +kernel
theorem dX9_init_87 : decode cX9_init 87 = .ok (.dup, 1) := by decide +kernel
theorem dX9_init_88 : decode cX9_init 88 = .ok (.iconst 0, 1) := by decide +kernel
theorem dX9_init_89 : decode cX9_init 89 = .ok (.new 25, 3) := by decide +kernel
theorem dX9_init_92 : decode cX9_init 92 = .ok (.dup, 1) := by decide +kernel
theorem dX9_init_93 : decode cX9_init 93 = .ok (.aload_n 1, 1) := by decide +kernel
theorem dX9_init_94 : decode cX9_init 94 = .ok (.invokespecial 27, 3) := by decide +kernel
theorem dX9_init_97 : decode cX9_init 97 = .ok (.aastore, 1) := by decide +kernel
theorem dX9_init_98 : decode cX9_init 98 = .ok (.dup, 1) := by decide +kernel
theorem dX9_init_99 : decode cX9_init 99 = .ok (.iconst 1, 1) := by decide +kernel
theorem dX9_init_100 : decode cX9_init 100 = .ok (.new 25, 3) := by decide +kernel
theorem dX9_init_103 : decode cX9_init 103 = .ok (.dup, 1) := by decide +kernel
theorem dX9_init_104 : decode cX9_init 104 = .ok (.aload_n 1, 1) := by decide +kernel
theorem dX9_init_105 : decode cX9_init 105 = .ok (.invokespecial 27, 3) := by decide +kernel
theorem dX9_init_108 : decode cX9_init 108 = .ok (.aastore, 1) := by decide +kernel
theorem dX9_init_109 : decode cX9_init 109 = .ok (.putfield 36, 3) := by decide +kernel
theorem dX9_init_112 : decode cX9_init 112 = .ok (.aload_n 0, 1) := by decide +kernel
theorem dX9_init_113 : decode cX9_init 113 = .ok (.iconst 2, 1) := by decide +kernel
theorem dX9_init_114 : decode cX9_init 114 = .ok (.newarray .boolean, 2) := by decide +kernel
theorem dX9_init_116 : decode cX9_init 116 = .ok (.putfield 40, 3) := by decide +kernel
theorem dX9_init_119 : decode cX9_init 119 = .ok (.aload_n 0, 1) := by decide +kernel
theorem dX9_init_120 : decode cX9_init 120 = .ok (.new 44, 3) := by decide +kernel
theorem dX9_init_123 : decode cX9_init 123 = .ok (.dup, 1) := by decide +kernel
theorem dX9_init_124 : decode cX9_init 124 = .ok (.new 25, 3) := by decide +kernel
theorem dX9_init_127 : decode cX9_init 127 = .ok (.dup, 1) := by decide +kernel
theorem dX9_init_128 : decode cX9_init 128 = .ok (.aload_n 1, 1) := by decide +kernel
theorem dX9_init_129 : decode cX9_init 129 = .ok (.invokespecial 27, 3) := by decide +kernel
theorem dX9_init_132 : decode cX9_init 132 = .ok (.invokespecial 46, 3) := by decide +kernel
theorem dX9_init_135 : decode cX9_init 135 = .ok (.putfield 49, 3) := by decide +kernel
theorem dX9_init_138 : decode cX9_init 138 = .ok (.aload_n 0, 1) := by decide +kernel
theorem dX9_init_139 : decode cX9_init 139 = .ok (.new 53, 3) := by decide +kernel
theorem dX9_init_142 : decode cX9_init 142 = .ok (.dup, 1) := by decide +kernel
theorem dX9_init_143 : decode cX9_init 143 = .ok (.invokespecial 55, 3) := by decide +kernel
theorem dX9_init_146 : decode cX9_init 146 = .ok (.putfield 56, 3) := by decide +kernel
theorem dX9_init_149 : decode cX9_init 149 = .ok (.aload_n 0, 1) := by decide +kernel
theorem dX9_init_150 : decode cX9_init 150 = .ok (.lconst 0, 1) := by decide +kernel
theorem dX9_init_151 : decode cX9_init 151 = .ok (.putfield 60, 3) := by decide +kernel
theorem dX9_init_154 : decode cX9_init 154 = .ok (.aload_n 0, 1) := by decide +kernel
theorem dX9_init_155 : decode cX9_init 155 = .ok (.lconst 1, 1) := by decide +kernel
theorem dX9_init_156 : decode cX9_init 156 = .ok (.putfield 64, 3) := by decide +kernel
theorem dX9_init_159 : decode cX9_init 159 = .ok (.return_, 1) := by decide +kernel
theorem dX9_court_0 : decode cX9_court 0 = .ok (.aload_n 0, 1) := by decide +kernel
theorem dX9_court_1 : decode cX9_court 1 = .ok (.getfield 30, 3) := by decide +kernel
theorem dX9_court_4 : decode cX9_court 4 = .ok (.getfield 67, 3) := by decide +kernel
theorem dX9_court_7 : decode cX9_court 7 = .ok (.istore_n 1, 1) := by decide +kernel
theorem dX9_court_8 : decode cX9_court 8 = .ok (.aload_n 0, 1) := by decide +kernel
theorem dX9_court_9 : decode cX9_court 9 = .ok (.getfield 30, 3) := by decide +kernel
theorem dX9_court_12 : decode cX9_court 12 = .ok (.invokevirtual 71, 3) := by decide +kernel
theorem dX9_court_15 : decode cX9_court 15 = .ok (.iload_n 1, 1) := by decide +kernel
theorem dX9_court_16 : decode cX9_court 16 = .ok (.ireturn, 1) := by decide +kernel
theorem dX9_infant_0 : decode cX9_infant 0 = .ok (.iload_n 1, 1) := by decide +kernel
theorem dX9_infant_1 : decode cX9_infant 1 = .ok (.iconst 5, 1) := by decide +kernel
theorem dX9_infant_2 : decode cX9_infant 2 = .ok (.invokestatic 74, 3) := by decide +kernel
theorem dX9_infant_5 : decode cX9_infant 5 = .ok (.ifCond .eq 20, 3) := by decide +kernel
theorem dX9_infant_8 : decode cX9_infant 8 = .ok (.iload_n 2, 1) := by decide +kernel
theorem dX9_infant_9 : decode cX9_infant 9 = .ok (.bipush 35, 2) := by decide +kernel
theorem dX9_infant_11 : decode cX9_infant 11 = .ok (.invokestatic 74, 3) := by decide +kernel
theorem dX9_infant_14 : decode cX9_infant 14 = .ok (.ifCond .eq 11, 3) := by decide +kernel
theorem dX9_infant_17 : decode cX9_infant 17 = .ok (.iload_n 3, 1) := by decide +kernel
theorem dX9_infant_18 : decode cX9_infant 18 = .ok (.iconst 5, 1) := by decide +kernel
theorem dX9_infant_19 : decode cX9_infant 19 = .ok (.invokestatic 74, 3) := by decide +kernel
theorem dX9_infant_22 : decode cX9_infant 22 = .ok (.ifCond .ne 10, 3) := by decide +kernel
theorem dX9_infant_25 : decode cX9_infant 25 = .ok (.aload_n 0, 1) := by decide +kernel
theorem dX9_infant_26 : decode cX9_infant 26 = .ok (.bipush (-2), 2) := by decide +kernel
theorem dX9_infant_28 : decode cX9_infant 28 = .ok (.invokevirtual 78, 3) := by decide +kernel
theorem dX9_infant_31 : decode cX9_infant 31 = .ok (.ireturn, 1) := by decide +kernel
theorem dX9_infant_32 : decode cX9_infant 32 = .ok (.aload_n 0, 1) := by decide +kernel
theorem dX9_infant_33 : decode cX9_infant 33 = .ok (.getfield 30, 3) := by decide +kernel
theorem dX9_infant_36 : decode cX9_infant 36 = .ok (.getfield 67, 3) := by decide +kernel
theorem dX9_infant_39 : decode cX9_infant 39 = .ok (.bipush 6, 2) := by decide +kernel
theorem dX9_infant_41 : decode cX9_infant 41 = .ok (.if_icmp .lt 8, 3) := by decide +kernel
theorem dX9_infant_44 : decode cX9_infant 44 = .ok (.aload_n 0, 1) := by decide +kernel
theorem dX9_infant_45 : decode cX9_infant 45 = .ok (.invokevirtual 82, 3) := by decide +kernel
theorem dX9_infant_48 : decode cX9_infant 48 = .ok (.ireturn, 1) := by decide +kernel
theorem dX9_infant_49 : decode cX9_infant 49 = .ok (.aload_n 0, 1) := by decide +kernel
theorem dX9_infant_50 : decode cX9_infant 50 = .ok (.getfield 30, 3) := by decide +kernel
theorem dX9_infant_53 : decode cX9_infant 53 = .ok (.iload_n 1, 1) := by decide +kernel
theorem dX9_infant_54 : decode cX9_infant 54 = .ok (.iload_n 2, 1) := by decide +kernel
theorem dX9_infant_55 : decode cX9_infant 55 = .ok (.iload_n 3, 1) := by decide +kernel
theorem dX9_infant_56 : decode cX9_infant 56 = .ok (.invokevirtual 86, 3) := by decide +kernel
theorem dX9_infant_59 : decode cX9_infant 59 = .ok (.aload_n 0, 1) := by decide +kernel
theorem dX9_infant_60 : decode cX9_infant 60 = .ok (.getfield 30, 3) := by decide +kernel
theorem dX9_infant_63 : decode cX9_infant 63 = .ok (.getfield 67, 3) := by decide +kernel
theorem dX9_infant_66 : decode cX9_infant 66 = .ok (.iconst 1, 1) := by decide +kernel
theorem dX9_infant_67 : decode cX9_infant 67 = .ok (.isub, 1) := by decide +kernel
theorem dX9_infant_68 : decode cX9_infant 68 = .ok (.ireturn, 1) := by decide +kernel
theorem dX9_skill_0 : decode cX9_skill 0 = .ok (.iload_n 1, 1) := by decide +kernel
theorem dX9_skill_1 : decode cX9_skill 1 = .ok (.iconst 5, 1) := by decide +kernel
theorem dX9_skill_2 : decode cX9_skill 2 = .ok (.invokestatic 74, 3) := by decide +kernel
theorem dX9_skill_5 : decode cX9_skill 5 = .ok (.ifCond .eq 12, 3) := by decide +kernel
theorem dX9_skill_8 : decode cX9_skill 8 = .ok (.iload_n 2, 1) := by decide +kernel
theorem dX9_skill_9 : decode cX9_skill 9 = .ok (.bipush 9, 2) := by decide +kernel
theorem dX9_skill_11 : decode cX9_skill 11 = .ok (.invokestatic 74, 3) := by decide +kernel
theorem dX9_skill_14 : decode cX9_skill 14 = .ok (.ifCond .ne 10, 3) := by decide +kernel
theorem dX9_skill_17 : decode cX9_skill 17 = .ok (.aload_n 0, 1) := by decide +kernel
theorem dX9_skill_18 : decode cX9_skill 18 = .ok (.bipush (-2), 2) := by decide +kernel
theorem dX9_skill_20 : decode cX9_skill 20 = .ok (.invokevirtual 78, 3) := by decide +kernel
theorem dX9_skill_23 : decode cX9_skill 23 = .ok (.ireturn, 1) := by decide +kernel
theorem dX9_skill_24 : decode cX9_skill 24 = .ok (.aload_n 0, 1) := by decide +kernel
theorem dX9_skill_25 : decode cX9_skill 25 = .ok (.getfield 30, 3) := by decide +kernel
theorem dX9_skill_28 : decode cX9_skill 28 = .ok (.getfield 90, 3) := by decide +kernel
theorem dX9_skill_31 : decode cX9_skill 31 = .ok (.iload_n 1, 1) := by decide +kernel
theorem dX9_skill_32 : decode cX9_skill 32 = .ok (.iaload, 1) := by decide +kernel
theorem dX9_skill_33 : decode cX9_skill 33 = .ok (.istore_n 3, 1) := by decide +kernel
theorem dX9_skill_34 : decode cX9_skill 34 = .ok (.aload_n 0, 1) := by decide +kernel
theorem dX9_skill_35 : decode cX9_skill 35 = .ok (.getfield 30, 3) := by decide +kernel
theorem dX9_skill_38 : decode cX9_skill 38 = .ok (.iload_n 1, 1) := by decide +kernel
theorem dX9_skill_39 : decode cX9_skill 39 = .ok (.iload_n 2, 1) := by decide +kernel
theorem dX9_skill_40 : decode cX9_skill 40 = .ok (.invokevirtual 94, 3) := by decide +kernel
theorem dX9_skill_43 : decode cX9_skill 43 = .ok (.iload_n 3, 1) := by decide +kernel
theorem dX9_skill_44 : decode cX9_skill 44 = .ok (.ireturn, 1) := by decide +kernel
theorem dX9_type_0 : decode cX9_type 0 = .ok (.iload_n 1, 1) := by decide +kernel
theorem dX9_type_1 : decode cX9_type 1 = .ok (.bipush 127, 2) := by decide +kernel
theorem dX9_type_3 : decode cX9_type 3 = .ok (.invokestatic 74, 3) := by decide +kernel
theorem dX9_type_6 : decode cX9_type 6 = .ok (.ifCond .ne 10, 3) := by decide +kernel
theorem dX9_type_9 : decode cX9_type 9 = .ok (.aload_n 0, 1) := by decide +kernel
theorem dX9_type_10 : decode cX9_type 10 = .ok (.bipush (-2), 2) := by decide +kernel
theorem dX9_type_12 : decode cX9_type 12 = .ok (.invokevirtual 78, 3) := by decide +kernel
theorem dX9_type_15 : decode cX9_type 15 = .ok (.ireturn, 1) := by decide +kernel
theorem dX9_type_16 : decode cX9_type 16 = .ok (.aload_n 0, 1) := by decide +kernel
theorem dX9_type_17 : decode cX9_type 17 = .ok (.getfield 49, 3) := by decide +kernel
theorem dX9_type_20 : decode cX9_type 20 = .ok (.getfield 98, 3) := by decide +kernel
theorem dX9_type_23 : decode cX9_type 23 = .ok (.sipush 150, 3) := by decide +kernel
theorem dX9_type_26 : decode cX9_type 26 = .ok (.if_icmp .lt 8, 3) := by decide +kernel
theorem dX9_type_29 : decode cX9_type 29 = .ok (.aload_n 0, 1) := by decide +kernel
theorem dX9_type_30 : decode cX9_type 30 = .ok (.invokevirtual 82, 3) := by decide +kernel
theorem dX9_type_33 : decode cX9_type 33 = .ok (.ireturn, 1) := by decide +kernel
theorem dX9_type_34 : decode cX9_type 34 = .ok (.aload_n 0, 1) := by decide +kernel
theorem dX9_type_35 : decode cX9_type 35 = .ok (.getfield 49, 3) := by decide +kernel
theorem dX9_type_38 : decode cX9_type 38 = .ok (.iload_n 1, 1) := by decide +kernel
theorem dX9_type_39 : decode cX9_type 39 = .ok (.invokevirtual 101, 3) := by decide +kernel
theorem dX9_type_42 : decode cX9_type 42 = .ok (.aload_n 0, 1) := by decide +kernel
theorem dX9_type_43 : decode cX9_type 43 = .ok (.getfield 49, 3) := by decide +kernel
theorem dX9_type_46 : decode cX9_type 46 = .ok (.getfield 98, 3) := by decide +kernel
theorem dX9_type_49 : decode cX9_type 49 = .ok (.ireturn, 1) := by decide +kernel
theorem dX9_clear_0 : decode cX9_clear 0 = .ok (.aload_n 0, 1) := by decide +kernel
theorem dX9_clear_1 : decode cX9_clear 1 = .ok (.getfield 49, 3) := by decide +kernel
theorem dX9_clear_4 : decode cX9_clear 4 = .ok (.getfield 98, 3) := by decide +kernel
theorem dX9_clear_7 : decode cX9_clear 7 = .ok (.istore_n 1, 1) := by decide +kernel
theorem dX9_clear_8 : decode cX9_clear 8 = .ok (.aload_n 0, 1) := by decide +kernel
theorem dX9_clear_9 : decode cX9_clear 9 = .ok (.getfield 49, 3) := by decide +kernel
theorem dX9_clear_12 : decode cX9_clear 12 = .ok (.iconst 0, 1) := by decide +kernel
theorem dX9_clear_13 : decode cX9_clear 13 = .ok (.putfield 98, 3) := by decide +kernel
theorem dX9_clear_16 : decode cX9_clear 16 = .ok (.iload_n 1, 1) := by decide +kernel
theorem dX9_clear_17 : decode cX9_clear 17 = .ok (.ireturn, 1) := by decide +kernel
theorem dX9_read_0 : decode cX9_read 0 = .ok (.aload_n 0, 1) := by decide +kernel
theorem dX9_read_1 : decode cX9_read 1 = .ok (.getfield 49, 3) := by decide +kernel
theorem dX9_read_4 : decode cX9_read 4 = .ok (.invokevirtual 105, 3) := by decide +kernel
theorem dX9_read_7 : decode cX9_read 7 = .ok (.istore_n 1, 1) := by decide +kernel
theorem dX9_read_8 : decode cX9_read 8 = .ok (.iload_n 1, 1) := by decide +kernel
theorem dX9_read_9 : decode cX9_read 9 = .ok (.ifCond .lt 17, 3) := by decide +kernel
theorem dX9_read_12 : decode cX9_read 12 = .ok (.aload_n 0, 1) := by decide +kernel
theorem dX9_read_13 : decode cX9_read 13 = .ok (.getfield 30, 3) := by decide +kernel
theorem dX9_read_16 : decode cX9_read 16 = .ok (.aload_n 0, 1) := by decide +kernel
theorem dX9_read_17 : decode cX9_read 17 = .ok (.getfield 49, 3) := by decide +kernel
theorem dX9_read_20 : decode cX9_read 20 = .ok (.getfield 108, 3) := by decide +kernel
theorem dX9_read_23 : decode cX9_read 23 = .ok (.invokevirtual 111, 3) := by decide +kernel
theorem dX9_read_26 : decode cX9_read 26 = .ok (.iload_n 1, 1) := by decide +kernel
theorem dX9_read_27 : decode cX9_read 27 = .ok (.ireturn, 1) := by decide +kernel
theorem dX9_month_0 : decode cX9_month 0 = .ok (.iload_n 1, 1) := by decide +kernel
theorem dX9_month_1 : decode cX9_month 1 = .ok (.iconst 1, 1) := by decide +kernel
theorem dX9_month_2 : decode cX9_month 2 = .ok (.if_icmp .lt 9, 3) := by decide +kernel
theorem dX9_month_5 : decode cX9_month 5 = .ok (.iload_n 1, 1) := by decide +kernel
theorem dX9_month_6 : decode cX9_month 6 = .ok (.bipush 60, 2) := by decide +kernel
theorem dX9_month_8 : decode cX9_month 8 = .ok (.if_icmp .le 10, 3) := by decide +kernel
theorem dX9_month_11 : decode cX9_month 11 = .ok (.aload_n 0, 1) := by decide +kernel
theorem dX9_month_12 : decode cX9_month 12 = .ok (.bipush (-2), 2) := by decide +kernel
theorem dX9_month_14 : decode cX9_month 14 = .ok (.invokevirtual 78, 3) := by decide +kernel
theorem dX9_month_17 : decode cX9_month 17 = .ok (.ireturn, 1) := by decide +kernel
theorem dX9_month_18 : decode cX9_month 18 = .ok (.aload_n 0, 1) := by decide +kernel
theorem dX9_month_19 : decode cX9_month 19 = .ok (.getfield 30, 3) := by decide +kernel
theorem dX9_month_22 : decode cX9_month 22 = .ok (.invokevirtual 114, 3) := by decide +kernel
theorem dX9_month_25 : decode cX9_month 25 = .ok (.iconst 0, 1) := by decide +kernel
theorem dX9_month_26 : decode cX9_month 26 = .ok (.istore_n 2, 1) := by decide +kernel
theorem dX9_month_27 : decode cX9_month 27 = .ok (.iload_n 2, 1) := by decide +kernel
theorem dX9_month_28 : decode cX9_month 28 = .ok (.iload_n 1, 1) := by decide +kernel
theorem dX9_month_29 : decode cX9_month 29 = .ok (.if_icmp .ge 16, 3) := by decide +kernel
theorem dX9_month_32 : decode cX9_month 32 = .ok (.aload_n 0, 1) := by decide +kernel
theorem dX9_month_33 : decode cX9_month 33 = .ok (.getfield 30, 3) := by decide +kernel
theorem dX9_month_36 : decode cX9_month 36 = .ok (.invokevirtual 117, 3) := by decide +kernel
theorem dX9_month_39 : decode cX9_month 39 = .ok (.iinc 2 1, 3) := by decide +kernel
theorem dX9_month_42 : decode cX9_month 42 = .ok (.goto (-15), 3) := by decide +kernel
theorem dX9_month_45 : decode cX9_month 45 = .ok (.aload_n 0, 1) := by decide +kernel
theorem dX9_month_46 : decode cX9_month 46 = .ok (.getfield 30, 3) := by decide +kernel
theorem dX9_month_49 : decode cX9_month 49 = .ok (.iconst 0, 1) := by decide +kernel
theorem dX9_month_50 : decode cX9_month 50 = .ok (.invokevirtual 120, 3) := by decide +kernel
theorem dX9_month_53 : decode cX9_month 53 = .ok (.ireturn, 1) := by decide +kernel
theorem dX9_nurse_0 : decode cX9_nurse 0 = .ok (.aload_n 0, 1) := by decide +kernel
theorem dX9_nurse_1 : decode cX9_nurse 1 = .ok (.iload_n 1, 1) := by decide +kernel
theorem dX9_nurse_2 : decode cX9_nurse 2 = .ok (.invokevirtual 123, 3) := by decide +kernel
theorem dX9_nurse_5 : decode cX9_nurse 5 = .ok (.ifCond .eq 11, 3) := by decide +kernel
theorem dX9_nurse_8 : decode cX9_nurse 8 = .ok (.iload_n 2, 1) := by decide +kernel
theorem dX9_nurse_9 : decode cX9_nurse 9 = .ok (.iconst 5, 1) := by decide +kernel
theorem dX9_nurse_10 : decode cX9_nurse 10 = .ok (.invokestatic 74, 3) := by decide +kernel
theorem dX9_nurse_13 : decode cX9_nurse 13 = .ok (.ifCond .ne 10, 3) := by decide +kernel
theorem dX9_nurse_16 : decode cX9_nurse 16 = .ok (.aload_n 0, 1) := by decide +kernel
theorem dX9_nurse_17 : decode cX9_nurse 17 = .ok (.bipush (-2), 2) := by decide +kernel
theorem dX9_nurse_19 : decode cX9_nurse 19 = .ok (.invokevirtual 78, 3) := by decide +kernel
theorem dX9_nurse_22 : decode cX9_nurse 22 = .ok (.ireturn, 1) := by decide +kernel
theorem dX9_nurse_23 : decode cX9_nurse 23 = .ok (.aload_n 0, 1) := by decide +kernel
theorem dX9_nurse_24 : decode cX9_nurse 24 = .ok (.getfield 30, 3) := by decide +kernel
theorem dX9_nurse_27 : decode cX9_nurse 27 = .ok (.getfield 127, 3) := by decide +kernel
theorem dX9_nurse_30 : decode cX9_nurse 30 = .ok (.iload_n 1, 1) := by decide +kernel
theorem dX9_nurse_31 : decode cX9_nurse 31 = .ok (.iaload, 1) := by decide +kernel
theorem dX9_nurse_32 : decode cX9_nurse 32 = .ok (.istore_n 3, 1) := by decide +kernel
theorem dX9_nurse_33 : decode cX9_nurse 33 = .ok (.aload_n 0, 1) := by decide +kernel
theorem dX9_nurse_34 : decode cX9_nurse 34 = .ok (.getfield 30, 3) := by decide +kernel
theorem dX9_nurse_37 : decode cX9_nurse 37 = .ok (.invokevirtual 114, 3) := by decide +kernel
theorem dX9_nurse_40 : decode cX9_nurse 40 = .ok (.aload_n 0, 1) := by decide +kernel
theorem dX9_nurse_41 : decode cX9_nurse 41 = .ok (.getfield 30, 3) := by decide +kernel
theorem dX9_nurse_44 : decode cX9_nurse 44 = .ok (.getfield 127, 3) := by decide +kernel
theorem dX9_nurse_47 : decode cX9_nurse 47 = .ok (.iload_n 1, 1) := by decide +kernel
theorem dX9_nurse_48 : decode cX9_nurse 48 = .ok (.iload_n 2, 1) := by decide +kernel
theorem dX9_nurse_49 : decode cX9_nurse 49 = .ok (.iastore, 1) := by decide +kernel
theorem dX9_nurse_50 : decode cX9_nurse 50 = .ok (.iload_n 3, 1) := by decide +kernel
theorem dX9_nurse_51 : decode cX9_nurse 51 = .ok (.ireturn, 1) := by decide +kernel
theorem dX9_retire_0 : decode cX9_retire 0 = .ok (.aload_n 0, 1) := by decide +kernel
theorem dX9_retire_1 : decode cX9_retire 1 = .ok (.iload_n 1, 1) := by decide +kernel
theorem dX9_retire_2 : decode cX9_retire 2 = .ok (.invokevirtual 123, 3) := by decide +kernel
theorem dX9_retire_5 : decode cX9_retire 5 = .ok (.ifCond .ne 10, 3) := by decide +kernel
theorem dX9_retire_8 : decode cX9_retire 8 = .ok (.aload_n 0, 1) := by decide +kernel
theorem dX9_retire_9 : decode cX9_retire 9 = .ok (.bipush (-2), 2) := by decide +kernel
theorem dX9_retire_11 : decode cX9_retire 11 = .ok (.invokevirtual 78, 3) := by decide +kernel
theorem dX9_retire_14 : decode cX9_retire 14 = .ok (.ireturn, 1) := by decide +kernel
theorem dX9_retire_15 : decode cX9_retire 15 = .ok (.aload_n 0, 1) := by decide +kernel
theorem dX9_retire_16 : decode cX9_retire 16 = .ok (.getfield 30, 3) := by decide +kernel
theorem dX9_retire_19 : decode cX9_retire 19 = .ok (.iload_n 1, 1) := by decide +kernel
theorem dX9_retire_20 : decode cX9_retire 20 = .ok (.invokevirtual 130, 3) := by decide +kernel
theorem dX9_retire_23 : decode cX9_retire 23 = .ok (.ifCond .eq 8, 3) := by decide +kernel
theorem dX9_retire_26 : decode cX9_retire 26 = .ok (.aload_n 0, 1) := by decide +kernel
theorem dX9_retire_27 : decode cX9_retire 27 = .ok (.invokevirtual 133, 3) := by decide +kernel
theorem dX9_retire_30 : decode cX9_retire 30 = .ok (.ireturn, 1) := by decide +kernel
theorem dX9_retire_31 : decode cX9_retire 31 = .ok (.aload_n 0, 1) := by decide +kernel
theorem dX9_retire_32 : decode cX9_retire 32 = .ok (.getfield 30, 3) := by decide +kernel
theorem dX9_retire_35 : decode cX9_retire 35 = .ok (.invokevirtual 114, 3) := by decide +kernel
theorem dX9_retire_38 : decode cX9_retire 38 = .ok (.aload_n 0, 1) := by decide +kernel
theorem dX9_retire_39 : decode cX9_retire 39 = .ok (.getfield 30, 3) := by decide +kernel
theorem dX9_retire_42 : decode cX9_retire 42 = .ok (.dup, 1) := by decide +kernel
theorem dX9_retire_43 : decode cX9_retire 43 = .ok (.getfield 136, 3) := by decide +kernel
theorem dX9_retire_46 : decode cX9_retire 46 = .ok (.iconst 1, 1) := by decide +kernel
theorem dX9_retire_47 : decode cX9_retire 47 = .ok (.iload_n 1, 1) := by decide +kernel
theorem dX9_retire_48 : decode cX9_retire 48 = .ok (.ishl, 1) := by decide +kernel
theorem dX9_retire_49 : decode cX9_retire 49 = .ok (.ior, 1) := by decide +kernel
theorem dX9_retire_50 : decode cX9_retire 50 = .ok (.putfield 136, 3) := by decide +kernel
theorem dX9_retire_53 : decode cX9_retire 53 = .ok (.aload_n 0, 1) := by decide +kernel
theorem dX9_retire_54 : decode cX9_retire 54 = .ok (.getfield 30, 3) := by decide +kernel
theorem dX9_retire_57 : decode cX9_retire 57 = .ok (.getfield 136, 3) := by decide +kernel
theorem dX9_retire_60 : decode cX9_retire 60 = .ok (.invokestatic 139, 3) := by decide +kernel
theorem dX9_retire_63 : decode cX9_retire 63 = .ok (.ireturn, 1) := by decide +kernel
theorem dX9_undo_0 : decode cX9_undo 0 = .ok (.aload_n 0, 1) := by decide +kernel
theorem dX9_undo_1 : decode cX9_undo 1 = .ok (.getfield 30, 3) := by decide +kernel
theorem dX9_undo_4 : decode cX9_undo 4 = .ok (.getfield 144, 3) := by decide +kernel
theorem dX9_undo_7 : decode cX9_undo 7 = .ok (.ifCond .gt 8, 3) := by decide +kernel
theorem dX9_undo_10 : decode cX9_undo 10 = .ok (.aload_n 0, 1) := by decide +kernel
theorem dX9_undo_11 : decode cX9_undo 11 = .ok (.invokevirtual 133, 3) := by decide +kernel
theorem dX9_undo_14 : decode cX9_undo 14 = .ok (.ireturn, 1) := by decide +kernel
theorem dX9_undo_15 : decode cX9_undo 15 = .ok (.aload_n 0, 1) := by decide +kernel
theorem dX9_undo_16 : decode cX9_undo 16 = .ok (.getfield 30, 3) := by decide +kernel
theorem dX9_undo_19 : decode cX9_undo 19 = .ok (.invokevirtual 147, 3) := by decide +kernel
theorem dX9_undo_22 : decode cX9_undo 22 = .ok (.aload_n 0, 1) := by decide +kernel
theorem dX9_undo_23 : decode cX9_undo 23 = .ok (.getfield 30, 3) := by decide +kernel
theorem dX9_undo_26 : decode cX9_undo 26 = .ok (.getfield 150, 3) := by decide +kernel
theorem dX9_undo_29 : decode cX9_undo 29 = .ok (.ireturn, 1) := by decide +kernel
theorem dX9_of_0 : decode cX9_of 0 = .ok (.aload_n 0, 1) := by decide +kernel
theorem dX9_of_1 : decode cX9_of 1 = .ok (.iload_n 1, 1) := by decide +kernel
theorem dX9_of_2 : decode cX9_of 2 = .ok (.invokevirtual 123, 3) := by decide +kernel
theorem dX9_of_5 : decode cX9_of 5 = .ok (.ifCond .ne 10, 3) := by decide +kernel
theorem dX9_of_8 : decode cX9_of 8 = .ok (.aload_n 0, 1) := by decide +kernel
theorem dX9_of_9 : decode cX9_of 9 = .ok (.bipush (-2), 2) := by decide +kernel
theorem dX9_of_11 : decode cX9_of 11 = .ok (.invokevirtual 78, 3) := by decide +kernel
theorem dX9_of_14 : decode cX9_of 14 = .ok (.ireturn, 1) := by decide +kernel
theorem dX9_of_15 : decode cX9_of 15 = .ok (.iload_n 2, 1) := by decide +kernel
theorem dX9_of_16 : decode cX9_of 16 = .ok (.tableswitch 101 0 5 #[40, 50, 60, 70, 80, 92], 40) := by decide +kernel
theorem dX9_of_56 : decode cX9_of 56 = .ok (.aload_n 0, 1) := by decide +kernel
theorem dX9_of_57 : decode cX9_of 57 = .ok (.getfield 30, 3) := by decide +kernel
theorem dX9_of_60 : decode cX9_of 60 = .ok (.getfield 153, 3) := by decide +kernel
theorem dX9_of_63 : decode cX9_of 63 = .ok (.iload_n 1, 1) := by decide +kernel
theorem dX9_of_64 : decode cX9_of 64 = .ok (.iaload, 1) := by decide +kernel
theorem dX9_of_65 : decode cX9_of 65 = .ok (.ireturn, 1) := by decide +kernel
theorem dX9_of_66 : decode cX9_of 66 = .ok (.aload_n 0, 1) := by decide +kernel
theorem dX9_of_67 : decode cX9_of 67 = .ok (.getfield 30, 3) := by decide +kernel
theorem dX9_of_70 : decode cX9_of 70 = .ok (.getfield 156, 3) := by decide +kernel
theorem dX9_of_73 : decode cX9_of 73 = .ok (.iload_n 1, 1) := by decide +kernel
theorem dX9_of_74 : decode cX9_of 74 = .ok (.iaload, 1) := by decide +kernel
theorem dX9_of_75 : decode cX9_of 75 = .ok (.ireturn, 1) := by decide +kernel
theorem dX9_of_76 : decode cX9_of 76 = .ok (.aload_n 0, 1) := by decide +kernel
theorem dX9_of_77 : decode cX9_of 77 = .ok (.getfield 30, 3) := by decide +kernel
theorem dX9_of_80 : decode cX9_of 80 = .ok (.getfield 159, 3) := by decide +kernel
theorem dX9_of_83 : decode cX9_of 83 = .ok (.iload_n 1, 1) := by decide +kernel
theorem dX9_of_84 : decode cX9_of 84 = .ok (.iaload, 1) := by decide +kernel
theorem dX9_of_85 : decode cX9_of 85 = .ok (.ireturn, 1) := by decide +kernel
theorem dX9_of_86 : decode cX9_of 86 = .ok (.aload_n 0, 1) := by decide +kernel
theorem dX9_of_87 : decode cX9_of 87 = .ok (.getfield 30, 3) := by decide +kernel
theorem dX9_of_90 : decode cX9_of 90 = .ok (.getfield 127, 3) := by decide +kernel
theorem dX9_of_93 : decode cX9_of 93 = .ok (.iload_n 1, 1) := by decide +kernel
theorem dX9_of_94 : decode cX9_of 94 = .ok (.iaload, 1) := by decide +kernel
theorem dX9_of_95 : decode cX9_of 95 = .ok (.ireturn, 1) := by decide +kernel
theorem dX9_of_96 : decode cX9_of 96 = .ok (.aload_n 0, 1) := by decide +kernel
theorem dX9_of_97 : decode cX9_of 97 = .ok (.getfield 30, 3) := by decide +kernel
theorem dX9_of_100 : decode cX9_of 100 = .ok (.iload_n 1, 1) := by decide +kernel
theorem dX9_of_101 : decode cX9_of 101 = .ok (.invokevirtual 130, 3) := by decide +kernel
theorem dX9_of_104 : decode cX9_of 104 = .ok (.invokestatic 162, 3) := by decide +kernel
theorem dX9_of_107 : decode cX9_of 107 = .ok (.ireturn, 1) := by decide +kernel
theorem dX9_of_108 : decode cX9_of 108 = .ok (.aload_n 0, 1) := by decide +kernel
theorem dX9_of_109 : decode cX9_of 109 = .ok (.getfield 30, 3) := by decide +kernel
theorem dX9_of_112 : decode cX9_of 112 = .ok (.iload_n 1, 1) := by decide +kernel
theorem dX9_of_113 : decode cX9_of 113 = .ok (.invokevirtual 166, 3) := by decide +kernel
theorem dX9_of_116 : decode cX9_of 116 = .ok (.ireturn, 1) := by decide +kernel
theorem dX9_of_117 : decode cX9_of 117 = .ok (.aload_n 0, 1) := by decide +kernel
theorem dX9_of_118 : decode cX9_of 118 = .ok (.bipush (-2), 2) := by decide +kernel
theorem dX9_of_120 : decode cX9_of 120 = .ok (.invokevirtual 78, 3) := by decide +kernel
theorem dX9_of_123 : decode cX9_of 123 = .ok (.ireturn, 1) := by decide +kernel
theorem dX9_hour_0 : decode cX9_hour 0 = .ok (.aload_n 0, 1) := by decide +kernel
theorem dX9_hour_1 : decode cX9_hour 1 = .ok (.iload_n 1, 1) := by decide +kernel
theorem dX9_hour_2 : decode cX9_hour 2 = .ok (.invokevirtual 123, 3) := by decide +kernel
theorem dX9_hour_5 : decode cX9_hour 5 = .ok (.ifCond .eq 20, 3) := by decide +kernel
theorem dX9_hour_8 : decode cX9_hour 8 = .ok (.iload_n 2, 1) := by decide +kernel
theorem dX9_hour_9 : decode cX9_hour 9 = .ok (.bipush 23, 2) := by decide +kernel
theorem dX9_hour_11 : decode cX9_hour 11 = .ok (.invokestatic 74, 3) := by decide +kernel
theorem dX9_hour_14 : decode cX9_hour 14 = .ok (.ifCond .eq 11, 3) := by decide +kernel
theorem dX9_hour_17 : decode cX9_hour 17 = .ok (.iload_n 3, 1) := by decide +kernel
theorem dX9_hour_18 : decode cX9_hour 18 = .ok (.iconst 1, 1) := by decide +kernel
theorem dX9_hour_19 : decode cX9_hour 19 = .ok (.invokestatic 74, 3) := by decide +kernel
theorem dX9_hour_22 : decode cX9_hour 22 = .ok (.ifCond .ne 10, 3) := by decide +kernel
theorem dX9_hour_25 : decode cX9_hour 25 = .ok (.aload_n 0, 1) := by decide +kernel
theorem dX9_hour_26 : decode cX9_hour 26 = .ok (.bipush (-2), 2) := by decide +kernel
theorem dX9_hour_28 : decode cX9_hour 28 = .ok (.invokevirtual 78, 3) := by decide +kernel
theorem dX9_hour_31 : decode cX9_hour 31 = .ok (.ireturn, 1) := by decide +kernel
theorem dX9_hour_32 : decode cX9_hour 32 = .ok (.iload_n 3, 1) := by decide +kernel
theorem dX9_hour_33 : decode cX9_hour 33 = .ok (.ifCond .ne 18, 3) := by decide +kernel
theorem dX9_hour_36 : decode cX9_hour 36 = .ok (.aload_n 0, 1) := by decide +kernel
theorem dX9_hour_37 : decode cX9_hour 37 = .ok (.getfield 30, 3) := by decide +kernel
theorem dX9_hour_40 : decode cX9_hour 40 = .ok (.iload_n 1, 1) := by decide +kernel
theorem dX9_hour_41 : decode cX9_hour 41 = .ok (.iload_n 2, 1) := by decide +kernel
theorem dX9_hour_42 : decode cX9_hour 42 = .ok (.invokevirtual 169, 3) := by decide +kernel
theorem dX9_hour_45 : decode cX9_hour 45 = .ok (.invokestatic 162, 3) := by decide +kernel
theorem dX9_hour_48 : decode cX9_hour 48 = .ok (.goto 21, 3) := by decide +kernel
theorem dX9_hour_51 : decode cX9_hour 51 = .ok (.aload_n 0, 1) := by decide +kernel
theorem dX9_hour_52 : decode cX9_hour 52 = .ok (.getfield 30, 3) := by decide +kernel
theorem dX9_hour_55 : decode cX9_hour 55 = .ok (.iload_n 1, 1) := by decide +kernel
theorem dX9_hour_56 : decode cX9_hour 56 = .ok (.iload_n 2, 1) := by decide +kernel
theorem dX9_hour_57 : decode cX9_hour 57 = .ok (.aload_n 0, 1) := by decide +kernel
theorem dX9_hour_58 : decode cX9_hour 58 = .ok (.getfield 30, 3) := by decide +kernel
theorem dX9_hour_61 : decode cX9_hour 61 = .ok (.getfield 127, 3) := by decide +kernel
theorem dX9_hour_64 : decode cX9_hour 64 = .ok (.iload_n 1, 1) := by decide +kernel
theorem dX9_hour_65 : decode cX9_hour 65 = .ok (.iaload, 1) := by decide +kernel
theorem dX9_hour_66 : decode cX9_hour 66 = .ok (.invokevirtual 172, 3) := by decide +kernel
theorem dX9_hour_69 : decode cX9_hour 69 = .ok (.ireturn, 1) := by decide +kernel
theorem dX9_day_0 : decode cX9_day 0 = .ok (.aload_n 0, 1) := by decide +kernel
theorem dX9_day_1 : decode cX9_day 1 = .ok (.iload_n 1, 1) := by decide +kernel
theorem dX9_day_2 : decode cX9_day 2 = .ok (.invokevirtual 123, 3) := by decide +kernel
theorem dX9_day_5 : decode cX9_day 5 = .ok (.ifCond .ne 10, 3) := by decide +kernel
theorem dX9_day_8 : decode cX9_day 8 = .ok (.aload_n 0, 1) := by decide +kernel
theorem dX9_day_9 : decode cX9_day 9 = .ok (.bipush (-2), 2) := by decide +kernel
theorem dX9_day_11 : decode cX9_day 11 = .ok (.invokevirtual 78, 3) := by decide +kernel
theorem dX9_day_14 : decode cX9_day 14 = .ok (.ireturn, 1) := by decide +kernel
theorem dX9_day_15 : decode cX9_day 15 = .ok (.aload_n 0, 1) := by decide +kernel
theorem dX9_day_16 : decode cX9_day 16 = .ok (.getfield 30, 3) := by decide +kernel
theorem dX9_day_19 : decode cX9_day 19 = .ok (.iload_n 1, 1) := by decide +kernel
theorem dX9_day_20 : decode cX9_day 20 = .ok (.aload_n 0, 1) := by decide +kernel
theorem dX9_day_21 : decode cX9_day 21 = .ok (.getfield 30, 3) := by decide +kernel
theorem dX9_day_24 : decode cX9_day 24 = .ok (.getfield 127, 3) := by decide +kernel
theorem dX9_day_27 : decode cX9_day 27 = .ok (.iload_n 1, 1) := by decide +kernel
theorem dX9_day_28 : decode cX9_day 28 = .ok (.iaload, 1) := by decide +kernel
theorem dX9_day_29 : decode cX9_day 29 = .ok (.invokevirtual 176, 3) := by decide +kernel
theorem dX9_day_32 : decode cX9_day 32 = .ok (.ireturn, 1) := by decide +kernel
theorem dX9_reign_0 : decode cX9_reign 0 = .ok (.iload_n 1, 1) := by decide +kernel
theorem dX9_reign_1 : decode cX9_reign 1 = .ok (.bipush 60, 2) := by decide +kernel
theorem dX9_reign_3 : decode cX9_reign 3 = .ok (.invokestatic 74, 3) := by decide +kernel
theorem dX9_reign_6 : decode cX9_reign 6 = .ok (.ifCond .ne 10, 3) := by decide +kernel
theorem dX9_reign_9 : decode cX9_reign 9 = .ok (.aload_n 0, 1) := by decide +kernel
theorem dX9_reign_10 : decode cX9_reign 10 = .ok (.bipush (-2), 2) := by decide +kernel
theorem dX9_reign_12 : decode cX9_reign 12 = .ok (.invokevirtual 78, 3) := by decide +kernel
theorem dX9_reign_15 : decode cX9_reign 15 = .ok (.ireturn, 1) := by decide +kernel
theorem dX9_reign_16 : decode cX9_reign 16 = .ok (.aload_n 0, 1) := by decide +kernel
theorem dX9_reign_17 : decode cX9_reign 17 = .ok (.getfield 30, 3) := by decide +kernel
theorem dX9_reign_20 : decode cX9_reign 20 = .ok (.iload_n 1, 1) := by decide +kernel
theorem dX9_reign_21 : decode cX9_reign 21 = .ok (.invokevirtual 120, 3) := by decide +kernel
theorem dX9_reign_24 : decode cX9_reign 24 = .ok (.ireturn, 1) := by decide +kernel
theorem dX9_falls_0 : decode cX9_falls 0 = .ok (.aload_n 0, 1) := by decide +kernel
theorem dX9_falls_1 : decode cX9_falls 1 = .ok (.getfield 30, 3) := by decide +kernel
theorem dX9_falls_4 : decode cX9_falls 4 = .ok (.iconst 0, 1) := by decide +kernel
theorem dX9_falls_5 : decode cX9_falls 5 = .ok (.invokevirtual 120, 3) := by decide +kernel
theorem dX9_falls_8 : decode cX9_falls 8 = .ok (.istore_n 1, 1) := by decide +kernel
theorem dX9_falls_9 : decode cX9_falls 9 = .ok (.iload_n 1, 1) := by decide +kernel
theorem dX9_falls_10 : decode cX9_falls 10 = .ok (.iconst (-1), 1) := by decide +kernel
theorem dX9_falls_11 : decode cX9_falls 11 = .ok (.if_icmp .ne 5, 3) := by decide +kernel
theorem dX9_falls_14 : decode cX9_falls 14 = .ok (.iconst (-1), 1) := by decide +kernel
theorem dX9_falls_15 : decode cX9_falls 15 = .ok (.ireturn, 1) := by decide +kernel
theorem dX9_falls_16 : decode cX9_falls 16 = .ok (.iconst 1, 1) := by decide +kernel
theorem dX9_falls_17 : decode cX9_falls 17 = .ok (.istore_n 2, 1) := by decide +kernel
theorem dX9_falls_18 : decode cX9_falls 18 = .ok (.iload_n 2, 1) := by decide +kernel
theorem dX9_falls_19 : decode cX9_falls 19 = .ok (.bipush 60, 2) := by decide +kernel
theorem dX9_falls_21 : decode cX9_falls 21 = .ok (.if_icmp .gt 23, 3) := by decide +kernel
theorem dX9_falls_24 : decode cX9_falls 24 = .ok (.aload_n 0, 1) := by decide +kernel
theorem dX9_falls_25 : decode cX9_falls 25 = .ok (.getfield 30, 3) := by decide +kernel
theorem dX9_falls_28 : decode cX9_falls 28 = .ok (.iload_n 2, 1) := by decide +kernel
theorem dX9_falls_29 : decode cX9_falls 29 = .ok (.invokevirtual 120, 3) := by decide +kernel
theorem dX9_falls_32 : decode cX9_falls 32 = .ok (.iload_n 1, 1) := by decide +kernel
theorem dX9_falls_33 : decode cX9_falls 33 = .ok (.if_icmp .eq 5, 3) := by decide +kernel
theorem dX9_falls_36 : decode cX9_falls 36 = .ok (.iload_n 2, 1) := by decide +kernel
theorem dX9_falls_37 : decode cX9_falls 37 = .ok (.ireturn, 1) := by decide +kernel
theorem dX9_falls_38 : decode cX9_falls 38 = .ok (.iinc 2 1, 3) := by decide +kernel
theorem dX9_falls_41 : decode cX9_falls 41 = .ok (.goto (-23), 3) := by decide +kernel
theorem dX9_falls_44 : decode cX9_falls 44 = .ok (.iconst (-1), 1) := by decide +kernel
theorem dX9_falls_45 : decode cX9_falls 45 = .ok (.ireturn, 1) := by decide +kernel
theorem dX9_line_0 : decode cX9_line 0 = .ok (.iload_n 1, 1) := by decide +kernel
theorem dX9_line_1 : decode cX9_line 1 = .ok (.iconst (-1), 1) := by decide +kernel
theorem dX9_line_2 : decode cX9_line 2 = .ok (.if_icmp .lt 11, 3) := by decide +kernel
theorem dX9_line_5 : decode cX9_line 5 = .ok (.iload_n 2, 1) := by decide +kernel
theorem dX9_line_6 : decode cX9_line 6 = .ok (.iconst 1, 1) := by decide +kernel
theorem dX9_line_7 : decode cX9_line 7 = .ok (.invokestatic 74, 3) := by decide +kernel
theorem dX9_line_10 : decode cX9_line 10 = .ok (.ifCond .ne 10, 3) := by decide +kernel
theorem dX9_line_13 : decode cX9_line 13 = .ok (.aload_n 0, 1) := by decide +kernel
theorem dX9_line_14 : decode cX9_line 14 = .ok (.bipush (-10), 2) := by decide +kernel
theorem dX9_line_16 : decode cX9_line 16 = .ok (.invokevirtual 78, 3) := by decide +kernel
theorem dX9_line_19 : decode cX9_line 19 = .ok (.ireturn, 1) := by decide +kernel
theorem dX9_line_20 : decode cX9_line 20 = .ok (.iconst 0, 1) := by decide +kernel
theorem dX9_line_21 : decode cX9_line 21 = .ok (.istore_n 3, 1) := by decide +kernel
theorem dX9_line_22 : decode cX9_line 22 = .ok (.iconst (-1), 1) := by decide +kernel
theorem dX9_line_23 : decode cX9_line 23 = .ok (.istore 4, 2) := by decide +kernel
theorem dX9_line_25 : decode cX9_line 25 = .ok (.iconst 0, 1) := by decide +kernel
theorem dX9_line_26 : decode cX9_line 26 = .ok (.istore 5, 2) := by decide +kernel
theorem dX9_line_28 : decode cX9_line 28 = .ok (.iconst 0, 1) := by decide +kernel
theorem dX9_line_29 : decode cX9_line 29 = .ok (.istore 6, 2) := by decide +kernel
theorem dX9_line_31 : decode cX9_line 31 = .ok (.iload 6, 2) := by decide +kernel
theorem dX9_line_33 : decode cX9_line 33 = .ok (.bipush 60, 2) := by decide +kernel
theorem dX9_line_35 : decode cX9_line 35 = .ok (.if_icmp .gt 63, 3) := by decide +kernel
theorem dX9_line_38 : decode cX9_line 38 = .ok (.aload_n 0, 1) := by decide +kernel
theorem dX9_line_39 : decode cX9_line 39 = .ok (.getfield 30, 3) := by decide +kernel
theorem dX9_line_42 : decode cX9_line 42 = .ok (.iload 6, 2) := by decide +kernel
theorem dX9_line_44 : decode cX9_line 44 = .ok (.invokevirtual 120, 3) := by decide +kernel
theorem dX9_line_47 : decode cX9_line 47 = .ok (.istore 7, 2) := by decide +kernel
theorem dX9_line_49 : decode cX9_line 49 = .ok (.iload 7, 2) := by decide +kernel
theorem dX9_line_51 : decode cX9_line 51 = .ok (.iconst (-1), 1) := by decide +kernel
theorem dX9_line_52 : decode cX9_line 52 = .ok (.if_icmp .ne 6, 3) := by decide +kernel
theorem dX9_line_55 : decode cX9_line 55 = .ok (.goto 43, 3) := by decide +kernel
theorem dX9_line_58 : decode cX9_line 58 = .ok (.iload 7, 2) := by decide +kernel
theorem dX9_line_60 : decode cX9_line 60 = .ok (.iload 4, 2) := by decide +kernel
theorem dX9_line_62 : decode cX9_line 62 = .ok (.if_icmp .eq 27, 3) := by decide +kernel
theorem dX9_line_65 : decode cX9_line 65 = .ok (.iload_n 1, 1) := by decide +kernel
theorem dX9_line_66 : decode cX9_line 66 = .ok (.ifCond .lt 13, 3) := by decide +kernel
theorem dX9_line_69 : decode cX9_line 69 = .ok (.iload_n 3, 1) := by decide +kernel
theorem dX9_line_70 : decode cX9_line 70 = .ok (.iload_n 1, 1) := by decide +kernel
theorem dX9_line_71 : decode cX9_line 71 = .ok (.iconst 1, 1) := by decide +kernel
theorem dX9_line_72 : decode cX9_line 72 = .ok (.iadd, 1) := by decide +kernel
theorem dX9_line_73 : decode cX9_line 73 = .ok (.if_icmp .ne 6, 3) := by decide +kernel
theorem dX9_line_76 : decode cX9_line 76 = .ok (.goto 22, 3) := by decide +kernel
theorem dX9_line_79 : decode cX9_line 79 = .ok (.iinc 3 1, 3) := by decide +kernel
theorem dX9_line_82 : decode cX9_line 82 = .ok (.iload 7, 2) := by decide +kernel
theorem dX9_line_84 : decode cX9_line 84 = .ok (.istore 4, 2) := by decide +kernel
theorem dX9_line_86 : decode cX9_line 86 = .ok (.iconst 0, 1) := by decide +kernel
theorem dX9_line_87 : decode cX9_line 87 = .ok (.istore 5, 2) := by decide +kernel
theorem dX9_line_89 : decode cX9_line 89 = .ok (.iinc 5 1, 3) := by decide +kernel
theorem dX9_line_92 : decode cX9_line 92 = .ok (.iinc 6 1, 3) := by decide +kernel
theorem dX9_line_95 : decode cX9_line 95 = .ok (.goto (-64), 3) := by decide +kernel
theorem dX9_line_98 : decode cX9_line 98 = .ok (.iload_n 1, 1) := by decide +kernel
theorem dX9_line_99 : decode cX9_line 99 = .ok (.iconst (-1), 1) := by decide +kernel
theorem dX9_line_100 : decode cX9_line 100 = .ok (.if_icmp .ne 5, 3) := by decide +kernel
theorem dX9_line_103 : decode cX9_line 103 = .ok (.iload_n 3, 1) := by decide +kernel
theorem dX9_line_104 : decode cX9_line 104 = .ok (.ireturn, 1) := by decide +kernel
theorem dX9_line_105 : decode cX9_line 105 = .ok (.iload_n 1, 1) := by decide +kernel
theorem dX9_line_106 : decode cX9_line 106 = .ok (.iload_n 3, 1) := by decide +kernel
theorem dX9_line_107 : decode cX9_line 107 = .ok (.if_icmp .lt 6, 3) := by decide +kernel
theorem dX9_line_110 : decode cX9_line 110 = .ok (.bipush (-5), 2) := by decide +kernel
theorem dX9_line_112 : decode cX9_line 112 = .ok (.ireturn, 1) := by decide +kernel
theorem dX9_line_113 : decode cX9_line 113 = .ok (.iload_n 2, 1) := by decide +kernel
theorem dX9_line_114 : decode cX9_line 114 = .ok (.ifCond .ne 8, 3) := by decide +kernel
theorem dX9_line_117 : decode cX9_line 117 = .ok (.iload 4, 2) := by decide +kernel
theorem dX9_line_119 : decode cX9_line 119 = .ok (.goto 5, 3) := by decide +kernel
theorem dX9_line_122 : decode cX9_line 122 = .ok (.iload 5, 2) := by decide +kernel
theorem dX9_line_124 : decode cX9_line 124 = .ok (.ireturn, 1) := by decide +kernel
theorem dX9_meet_0 : decode cX9_meet 0 = .ok (.aload_n 0, 1) := by decide +kernel
theorem dX9_meet_1 : decode cX9_meet 1 = .ok (.iload_n 1, 1) := by decide +kernel
theorem dX9_meet_2 : decode cX9_meet 2 = .ok (.invokevirtual 123, 3) := by decide +kernel
theorem dX9_meet_5 : decode cX9_meet 5 = .ok (.ifCond .eq 16, 3) := by decide +kernel
theorem dX9_meet_8 : decode cX9_meet 8 = .ok (.aload_n 0, 1) := by decide +kernel
theorem dX9_meet_9 : decode cX9_meet 9 = .ok (.iload_n 2, 1) := by decide +kernel
theorem dX9_meet_10 : decode cX9_meet 10 = .ok (.invokevirtual 123, 3) := by decide +kernel
theorem dX9_meet_13 : decode cX9_meet 13 = .ok (.ifCond .eq 8, 3) := by decide +kernel
theorem dX9_meet_16 : decode cX9_meet 16 = .ok (.iload_n 1, 1) := by decide +kernel
theorem dX9_meet_17 : decode cX9_meet 17 = .ok (.iload_n 2, 1) := by decide +kernel
theorem dX9_meet_18 : decode cX9_meet 18 = .ok (.if_icmp .ne 10, 3) := by decide +kernel
theorem dX9_meet_21 : decode cX9_meet 21 = .ok (.aload_n 0, 1) := by decide +kernel
theorem dX9_meet_22 : decode cX9_meet 22 = .ok (.bipush (-2), 2) := by decide +kernel
theorem dX9_meet_24 : decode cX9_meet 24 = .ok (.invokevirtual 78, 3) := by decide +kernel
theorem dX9_meet_27 : decode cX9_meet 27 = .ok (.ireturn, 1) := by decide +kernel
theorem dX9_meet_28 : decode cX9_meet 28 = .ok (.aload_n 0, 1) := by decide +kernel
theorem dX9_meet_29 : decode cX9_meet 29 = .ok (.getfield 30, 3) := by decide +kernel
theorem dX9_meet_32 : decode cX9_meet 32 = .ok (.iload_n 1, 1) := by decide +kernel
theorem dX9_meet_33 : decode cX9_meet 33 = .ok (.invokevirtual 130, 3) := by decide +kernel
theorem dX9_meet_36 : decode cX9_meet 36 = .ok (.ifCond .ne 14, 3) := by decide +kernel
theorem dX9_meet_39 : decode cX9_meet 39 = .ok (.aload_n 0, 1) := by decide +kernel
theorem dX9_meet_40 : decode cX9_meet 40 = .ok (.getfield 30, 3) := by decide +kernel
theorem dX9_meet_43 : decode cX9_meet 43 = .ok (.iload_n 2, 1) := by decide +kernel
theorem dX9_meet_44 : decode cX9_meet 44 = .ok (.invokevirtual 130, 3) := by decide +kernel
theorem dX9_meet_47 : decode cX9_meet 47 = .ok (.ifCond .eq 8, 3) := by decide +kernel
theorem dX9_meet_50 : decode cX9_meet 50 = .ok (.aload_n 0, 1) := by decide +kernel
theorem dX9_meet_51 : decode cX9_meet 51 = .ok (.invokevirtual 133, 3) := by decide +kernel
theorem dX9_meet_54 : decode cX9_meet 54 = .ok (.ireturn, 1) := by decide +kernel
theorem dX9_meet_55 : decode cX9_meet 55 = .ok (.bipush 7, 2) := by decide +kernel
theorem dX9_meet_57 : decode cX9_meet 57 = .ok (.istore_n 3, 1) := by decide +kernel
theorem dX9_meet_58 : decode cX9_meet 58 = .ok (.iload_n 3, 1) := by decide +kernel
theorem dX9_meet_59 : decode cX9_meet 59 = .ok (.bipush 24, 2) := by decide +kernel
theorem dX9_meet_61 : decode cX9_meet 61 = .ok (.if_icmp .ge 61, 3) := by decide +kernel
theorem dX9_meet_64 : decode cX9_meet 64 = .ok (.iconst 0, 1) := by decide +kernel
theorem dX9_meet_65 : decode cX9_meet 65 = .ok (.istore 4, 2) := by decide +kernel
theorem dX9_meet_67 : decode cX9_meet 67 = .ok (.iload 4, 2) := by decide +kernel
theorem dX9_meet_69 : decode cX9_meet 69 = .ok (.bipush 6, 2) := by decide +kernel
theorem dX9_meet_71 : decode cX9_meet 71 = .ok (.if_icmp .ge 45, 3) := by decide +kernel
theorem dX9_meet_74 : decode cX9_meet 74 = .ok (.aload_n 0, 1) := by decide +kernel
theorem dX9_meet_75 : decode cX9_meet 75 = .ok (.getfield 30, 3) := by decide +kernel
theorem dX9_meet_78 : decode cX9_meet 78 = .ok (.iload_n 1, 1) := by decide +kernel
theorem dX9_meet_79 : decode cX9_meet 79 = .ok (.iload_n 3, 1) := by decide +kernel
theorem dX9_meet_80 : decode cX9_meet 80 = .ok (.iload 4, 2) := by decide +kernel
theorem dX9_meet_82 : decode cX9_meet 82 = .ok (.invokevirtual 180, 3) := by decide +kernel
theorem dX9_meet_85 : decode cX9_meet 85 = .ok (.ifCond .eq 25, 3) := by decide +kernel
theorem dX9_meet_88 : decode cX9_meet 88 = .ok (.aload_n 0, 1) := by decide +kernel
theorem dX9_meet_89 : decode cX9_meet 89 = .ok (.getfield 30, 3) := by decide +kernel
theorem dX9_meet_92 : decode cX9_meet 92 = .ok (.iload_n 2, 1) := by decide +kernel
theorem dX9_meet_93 : decode cX9_meet 93 = .ok (.iload_n 3, 1) := by decide +kernel
theorem dX9_meet_94 : decode cX9_meet 94 = .ok (.iload 4, 2) := by decide +kernel
theorem dX9_meet_96 : decode cX9_meet 96 = .ok (.invokevirtual 180, 3) := by decide +kernel
theorem dX9_meet_99 : decode cX9_meet 99 = .ok (.ifCond .eq 11, 3) := by decide +kernel
theorem dX9_meet_102 : decode cX9_meet 102 = .ok (.bipush 10, 2) := by decide +kernel
theorem dX9_meet_104 : decode cX9_meet 104 = .ok (.iload_n 3, 1) := by decide +kernel
theorem dX9_meet_105 : decode cX9_meet 105 = .ok (.imul, 1) := by decide +kernel
theorem dX9_meet_106 : decode cX9_meet 106 = .ok (.iload 4, 2) := by decide +kernel
theorem dX9_meet_108 : decode cX9_meet 108 = .ok (.iadd, 1) := by decide +kernel
theorem dX9_meet_109 : decode cX9_meet 109 = .ok (.ireturn, 1) := by decide +kernel
theorem dX9_meet_110 : decode cX9_meet 110 = .ok (.iinc 4 1, 3) := by decide +kernel
theorem dX9_meet_113 : decode cX9_meet 113 = .ok (.goto (-46), 3) := by decide +kernel
theorem dX9_meet_116 : decode cX9_meet 116 = .ok (.iinc 3 1, 3) := by decide +kernel
theorem dX9_meet_119 : decode cX9_meet 119 = .ok (.goto (-61), 3) := by decide +kernel
theorem dX9_meet_122 : decode cX9_meet 122 = .ok (.iconst (-1), 1) := by decide +kernel
theorem dX9_meet_123 : decode cX9_meet 123 = .ok (.ireturn, 1) := by decide +kernel
theorem dX9_congress_0 : decode cX9_congress 0 = .ok (.iload_n 1, 1) := by decide +kernel
theorem dX9_congress_1 : decode cX9_congress 1 = .ok (.iconst 1, 1) := by decide +kernel
theorem dX9_congress_2 : decode cX9_congress 2 = .ok (.invokestatic 74, 3) := by decide +kernel
theorem dX9_congress_5 : decode cX9_congress 5 = .ok (.ifCond .ne 10, 3) := by decide +kernel
theorem dX9_congress_8 : decode cX9_congress 8 = .ok (.aload_n 0, 1) := by decide +kernel
theorem dX9_congress_9 : decode cX9_congress 9 = .ok (.bipush (-2), 2) := by decide +kernel
theorem dX9_congress_11 : decode cX9_congress 11 = .ok (.invokevirtual 78, 3) := by decide +kernel
theorem dX9_congress_14 : decode cX9_congress 14 = .ok (.ireturn, 1) := by decide +kernel
theorem dX9_congress_15 : decode cX9_congress 15 = .ok (.iconst 0, 1) := by decide +kernel
theorem dX9_congress_16 : decode cX9_congress 16 = .ok (.istore_n 2, 1) := by decide +kernel
theorem dX9_congress_17 : decode cX9_congress 17 = .ok (.iconst (-1), 1) := by decide +kernel
theorem dX9_congress_18 : decode cX9_congress 18 = .ok (.istore_n 3, 1) := by decide +kernel
theorem dX9_congress_19 : decode cX9_congress 19 = .ok (.bipush 7, 2) := by decide +kernel
theorem dX9_congress_21 : decode cX9_congress 21 = .ok (.istore 4, 2) := by decide +kernel
theorem dX9_congress_23 : decode cX9_congress 23 = .ok (.iload 4, 2) := by decide +kernel
theorem dX9_congress_25 : decode cX9_congress 25 = .ok (.bipush 24, 2) := by decide +kernel
theorem dX9_congress_27 : decode cX9_congress 27 = .ok (.if_icmp .ge 56, 3) := by decide +kernel
theorem dX9_congress_30 : decode cX9_congress 30 = .ok (.iconst 0, 1) := by decide +kernel
theorem dX9_congress_31 : decode cX9_congress 31 = .ok (.istore 5, 2) := by decide +kernel
theorem dX9_congress_33 : decode cX9_congress 33 = .ok (.iload 5, 2) := by decide +kernel
theorem dX9_congress_35 : decode cX9_congress 35 = .ok (.bipush 6, 2) := by decide +kernel
theorem dX9_congress_37 : decode cX9_congress 37 = .ok (.if_icmp .ge 40, 3) := by decide +kernel
theorem dX9_congress_40 : decode cX9_congress 40 = .ok (.aload_n 0, 1) := by decide +kernel
theorem dX9_congress_41 : decode cX9_congress 41 = .ok (.getfield 30, 3) := by decide +kernel
theorem dX9_congress_44 : decode cX9_congress 44 = .ok (.iload 4, 2) := by decide +kernel
theorem dX9_congress_46 : decode cX9_congress 46 = .ok (.iload 5, 2) := by decide +kernel
theorem dX9_congress_48 : decode cX9_congress 48 = .ok (.invokevirtual 184, 3) := by decide +kernel
theorem dX9_congress_51 : decode cX9_congress 51 = .ok (.istore 6, 2) := by decide +kernel
theorem dX9_congress_53 : decode cX9_congress 53 = .ok (.iload 6, 2) := by decide +kernel
theorem dX9_congress_55 : decode cX9_congress 55 = .ok (.iload_n 2, 1) := by decide +kernel
theorem dX9_congress_56 : decode cX9_congress 56 = .ok (.if_icmp .le 15, 3) := by decide +kernel
theorem dX9_congress_59 : decode cX9_congress 59 = .ok (.iload 6, 2) := by decide +kernel
theorem dX9_congress_61 : decode cX9_congress 61 = .ok (.istore_n 2, 1) := by decide +kernel
theorem dX9_congress_62 : decode cX9_congress 62 = .ok (.bipush 10, 2) := by decide +kernel
theorem dX9_congress_64 : decode cX9_congress 64 = .ok (.iload 4, 2) := by decide +kernel
theorem dX9_congress_66 : decode cX9_congress 66 = .ok (.imul, 1) := by decide +kernel
theorem dX9_congress_67 : decode cX9_congress 67 = .ok (.iload 5, 2) := by decide +kernel
theorem dX9_congress_69 : decode cX9_congress 69 = .ok (.iadd, 1) := by decide +kernel
theorem dX9_congress_70 : decode cX9_congress 70 = .ok (.istore_n 3, 1) := by decide +kernel
theorem dX9_congress_71 : decode cX9_congress 71 = .ok (.iinc 5 1, 3) := by decide +kernel
theorem dX9_congress_74 : decode cX9_congress 74 = .ok (.goto (-41), 3) := by decide +kernel
theorem dX9_congress_77 : decode cX9_congress 77 = .ok (.iinc 4 1, 3) := by decide +kernel
theorem dX9_congress_80 : decode cX9_congress 80 = .ok (.goto (-57), 3) := by decide +kernel
theorem dX9_congress_83 : decode cX9_congress 83 = .ok (.iload_n 2, 1) := by decide +kernel
theorem dX9_congress_84 : decode cX9_congress 84 = .ok (.ifCond .ne 5, 3) := by decide +kernel
theorem dX9_congress_87 : decode cX9_congress 87 = .ok (.iconst (-1), 1) := by decide +kernel
theorem dX9_congress_88 : decode cX9_congress 88 = .ok (.ireturn, 1) := by decide +kernel
theorem dX9_congress_89 : decode cX9_congress 89 = .ok (.iload_n 1, 1) := by decide +kernel
theorem dX9_congress_90 : decode cX9_congress 90 = .ok (.ifCond .ne 7, 3) := by decide +kernel
theorem dX9_congress_93 : decode cX9_congress 93 = .ok (.iload_n 3, 1) := by decide +kernel
theorem dX9_congress_94 : decode cX9_congress 94 = .ok (.goto 4, 3) := by decide +kernel
theorem dX9_congress_97 : decode cX9_congress 97 = .ok (.iload_n 2, 1) := by decide +kernel
theorem dX9_congress_98 : decode cX9_congress 98 = .ok (.ireturn, 1) := by decide +kernel
theorem dX9_nurses_0 : decode cX9_nurses 0 = .ok (.iload_n 1, 1) := by decide +kernel
theorem dX9_nurses_1 : decode cX9_nurses 1 = .ok (.iconst (-1), 1) := by decide +kernel
theorem dX9_nurses_2 : decode cX9_nurses 2 = .ok (.if_icmp .eq 18, 3) := by decide +kernel
theorem dX9_nurses_5 : decode cX9_nurses 5 = .ok (.aload_n 0, 1) := by decide +kernel
theorem dX9_nurses_6 : decode cX9_nurses 6 = .ok (.iload_n 1, 1) := by decide +kernel
theorem dX9_nurses_7 : decode cX9_nurses 7 = .ok (.invokevirtual 123, 3) := by decide +kernel
theorem dX9_nurses_10 : decode cX9_nurses 10 = .ok (.ifCond .ne 10, 3) := by decide +kernel
theorem dX9_nurses_13 : decode cX9_nurses 13 = .ok (.aload_n 0, 1) := by decide +kernel
theorem dX9_nurses_14 : decode cX9_nurses 14 = .ok (.bipush (-10), 2) := by decide +kernel
theorem dX9_nurses_16 : decode cX9_nurses 16 = .ok (.invokevirtual 78, 3) := by decide +kernel
theorem dX9_nurses_19 : decode cX9_nurses 19 = .ok (.ireturn, 1) := by decide +kernel
theorem dX9_nurses_20 : decode cX9_nurses 20 = .ok (.aload_n 0, 1) := by decide +kernel
theorem dX9_nurses_21 : decode cX9_nurses 21 = .ok (.getfield 56, 3) := by decide +kernel
theorem dX9_nurses_24 : decode cX9_nurses 24 = .ok (.aload_n 0, 1) := by decide +kernel
theorem dX9_nurses_25 : decode cX9_nurses 25 = .ok (.getfield 30, 3) := by decide +kernel
theorem dX9_nurses_28 : decode cX9_nurses 28 = .ok (.invokevirtual 187, 3) := by decide +kernel
theorem dX9_nurses_31 : decode cX9_nurses 31 = .ok (.iload_n 1, 1) := by decide +kernel
theorem dX9_nurses_32 : decode cX9_nurses 32 = .ok (.iconst (-1), 1) := by decide +kernel
theorem dX9_nurses_33 : decode cX9_nurses 33 = .ok (.if_icmp .ne 13, 3) := by decide +kernel
theorem dX9_nurses_36 : decode cX9_nurses 36 = .ok (.aload_n 0, 1) := by decide +kernel
theorem dX9_nurses_37 : decode cX9_nurses 37 = .ok (.getfield 56, 3) := by decide +kernel
theorem dX9_nurses_40 : decode cX9_nurses 40 = .ok (.invokevirtual 190, 3) := by decide +kernel
theorem dX9_nurses_43 : decode cX9_nurses 43 = .ok (.goto 11, 3) := by decide +kernel
theorem dX9_nurses_46 : decode cX9_nurses 46 = .ok (.aload_n 0, 1) := by decide +kernel
theorem dX9_nurses_47 : decode cX9_nurses 47 = .ok (.getfield 56, 3) := by decide +kernel
theorem dX9_nurses_50 : decode cX9_nurses 50 = .ok (.iload_n 1, 1) := by decide +kernel
theorem dX9_nurses_51 : decode cX9_nurses 51 = .ok (.invokevirtual 193, 3) := by decide +kernel
theorem dX9_nurses_54 : decode cX9_nurses 54 = .ok (.ireturn, 1) := by decide +kernel
theorem dX9_visit_0 : decode cX9_visit 0 = .ok (.aload_n 0, 1) := by decide +kernel
theorem dX9_visit_1 : decode cX9_visit 1 = .ok (.getfield 30, 3) := by decide +kernel
theorem dX9_visit_4 : decode cX9_visit 4 = .ok (.iconst 0, 1) := by decide +kernel
theorem dX9_visit_5 : decode cX9_visit 5 = .ok (.invokevirtual 120, 3) := by decide +kernel
theorem dX9_visit_8 : decode cX9_visit 8 = .ok (.istore_n 1, 1) := by decide +kernel
theorem dX9_visit_9 : decode cX9_visit 9 = .ok (.iload_n 1, 1) := by decide +kernel
theorem dX9_visit_10 : decode cX9_visit 10 = .ok (.iconst (-1), 1) := by decide +kernel
theorem dX9_visit_11 : decode cX9_visit 11 = .ok (.if_icmp .ne 5, 3) := by decide +kernel
theorem dX9_visit_14 : decode cX9_visit 14 = .ok (.iconst (-1), 1) := by decide +kernel
theorem dX9_visit_15 : decode cX9_visit 15 = .ok (.ireturn, 1) := by decide +kernel
theorem dX9_visit_16 : decode cX9_visit 16 = .ok (.iconst (-1), 1) := by decide +kernel
theorem dX9_visit_17 : decode cX9_visit 17 = .ok (.istore_n 2, 1) := by decide +kernel
theorem dX9_visit_18 : decode cX9_visit 18 = .ok (.iconst 0, 1) := by decide +kernel
theorem dX9_visit_19 : decode cX9_visit 19 = .ok (.istore_n 3, 1) := by decide +kernel
theorem dX9_visit_20 : decode cX9_visit 20 = .ok (.iconst 0, 1) := by decide +kernel
theorem dX9_visit_21 : decode cX9_visit 21 = .ok (.istore 4, 2) := by decide +kernel
theorem dX9_visit_23 : decode cX9_visit 23 = .ok (.iload 4, 2) := by decide +kernel
theorem dX9_visit_25 : decode cX9_visit 25 = .ok (.bipush 24, 2) := by decide +kernel
theorem dX9_visit_27 : decode cX9_visit 27 = .ok (.if_icmp .ge 63, 3) := by decide +kernel
theorem dX9_visit_30 : decode cX9_visit 30 = .ok (.aload_n 0, 1) := by decide +kernel
theorem dX9_visit_31 : decode cX9_visit 31 = .ok (.getfield 30, 3) := by decide +kernel
theorem dX9_visit_34 : decode cX9_visit 34 = .ok (.iload_n 1, 1) := by decide +kernel
theorem dX9_visit_35 : decode cX9_visit 35 = .ok (.iload 4, 2) := by decide +kernel
theorem dX9_visit_37 : decode cX9_visit 37 = .ok (.invokevirtual 169, 3) := by decide +kernel
theorem dX9_visit_40 : decode cX9_visit 40 = .ok (.ifCond .eq 6, 3) := by decide +kernel
theorem dX9_visit_43 : decode cX9_visit 43 = .ok (.goto 41, 3) := by decide +kernel
theorem dX9_visit_46 : decode cX9_visit 46 = .ok (.aload_n 0, 1) := by decide +kernel
theorem dX9_visit_47 : decode cX9_visit 47 = .ok (.getfield 30, 3) := by decide +kernel
theorem dX9_visit_50 : decode cX9_visit 50 = .ok (.iload_n 1, 1) := by decide +kernel
theorem dX9_visit_51 : decode cX9_visit 51 = .ok (.iload 4, 2) := by decide +kernel
theorem dX9_visit_53 : decode cX9_visit 53 = .ok (.aload_n 0, 1) := by decide +kernel
theorem dX9_visit_54 : decode cX9_visit 54 = .ok (.getfield 30, 3) := by decide +kernel
theorem dX9_visit_57 : decode cX9_visit 57 = .ok (.getfield 127, 3) := by decide +kernel
theorem dX9_visit_60 : decode cX9_visit 60 = .ok (.iload_n 1, 1) := by decide +kernel
theorem dX9_visit_61 : decode cX9_visit 61 = .ok (.iaload, 1) := by decide +kernel
theorem dX9_visit_62 : decode cX9_visit 62 = .ok (.invokevirtual 172, 3) := by decide +kernel
theorem dX9_visit_65 : decode cX9_visit 65 = .ok (.istore 5, 2) := by decide +kernel
theorem dX9_visit_67 : decode cX9_visit 67 = .ok (.iload_n 2, 1) := by decide +kernel
theorem dX9_visit_68 : decode cX9_visit 68 = .ok (.iconst (-1), 1) := by decide +kernel
theorem dX9_visit_69 : decode cX9_visit 69 = .ok (.if_icmp .eq 9, 3) := by decide +kernel
theorem dX9_visit_72 : decode cX9_visit 72 = .ok (.iload 5, 2) := by decide +kernel
theorem dX9_visit_74 : decode cX9_visit 74 = .ok (.iload_n 3, 1) := by decide +kernel
theorem dX9_visit_75 : decode cX9_visit 75 = .ok (.if_icmp .ge 9, 3) := by decide +kernel
theorem dX9_visit_78 : decode cX9_visit 78 = .ok (.iload 4, 2) := by decide +kernel
theorem dX9_visit_80 : decode cX9_visit 80 = .ok (.istore_n 2, 1) := by decide +kernel
theorem dX9_visit_81 : decode cX9_visit 81 = .ok (.iload 5, 2) := by decide +kernel
theorem dX9_visit_83 : decode cX9_visit 83 = .ok (.istore_n 3, 1) := by decide +kernel
theorem dX9_visit_84 : decode cX9_visit 84 = .ok (.iinc 4 1, 3) := by decide +kernel
theorem dX9_visit_87 : decode cX9_visit 87 = .ok (.goto (-64), 3) := by decide +kernel
theorem dX9_visit_90 : decode cX9_visit 90 = .ok (.iload_n 2, 1) := by decide +kernel
theorem dX9_visit_91 : decode cX9_visit 91 = .ok (.ireturn, 1) := by decide +kernel
theorem dX9_note_0 : decode cX9_note 0 = .ok (.aload_n 0, 1) := by decide +kernel
theorem dX9_note_1 : decode cX9_note 1 = .ok (.iload_n 1, 1) := by decide +kernel
theorem dX9_note_2 : decode cX9_note 2 = .ok (.invokevirtual 123, 3) := by decide +kernel
theorem dX9_note_5 : decode cX9_note 5 = .ok (.ifCond .eq 21, 3) := by decide +kernel
theorem dX9_note_8 : decode cX9_note 8 = .ok (.iload_n 2, 1) := by decide +kernel
theorem dX9_note_9 : decode cX9_note 9 = .ok (.bipush 35, 2) := by decide +kernel
theorem dX9_note_11 : decode cX9_note 11 = .ok (.invokestatic 74, 3) := by decide +kernel
theorem dX9_note_14 : decode cX9_note 14 = .ok (.ifCond .eq 12, 3) := by decide +kernel
theorem dX9_note_17 : decode cX9_note 17 = .ok (.iload_n 3, 1) := by decide +kernel
theorem dX9_note_18 : decode cX9_note 18 = .ok (.bipush 23, 2) := by decide +kernel
theorem dX9_note_20 : decode cX9_note 20 = .ok (.invokestatic 74, 3) := by decide +kernel
theorem dX9_note_23 : decode cX9_note 23 = .ok (.ifCond .ne 10, 3) := by decide +kernel
theorem dX9_note_26 : decode cX9_note 26 = .ok (.aload_n 0, 1) := by decide +kernel
theorem dX9_note_27 : decode cX9_note 27 = .ok (.bipush (-2), 2) := by decide +kernel
theorem dX9_note_29 : decode cX9_note 29 = .ok (.invokevirtual 78, 3) := by decide +kernel
theorem dX9_note_32 : decode cX9_note 32 = .ok (.ireturn, 1) := by decide +kernel
theorem dX9_note_33 : decode cX9_note 33 = .ok (.iload 4, 2) := by decide +kernel
theorem dX9_note_35 : decode cX9_note 35 = .ok (.iconst 1, 1) := by decide +kernel
theorem dX9_note_36 : decode cX9_note 36 = .ok (.invokestatic 74, 3) := by decide +kernel
theorem dX9_note_39 : decode cX9_note 39 = .ok (.ifCond .eq 13, 3) := by decide +kernel
theorem dX9_note_42 : decode cX9_note 42 = .ok (.iload 5, 2) := by decide +kernel
theorem dX9_note_44 : decode cX9_note 44 = .ok (.bipush 20, 2) := by decide +kernel
theorem dX9_note_46 : decode cX9_note 46 = .ok (.invokestatic 74, 3) := by decide +kernel
theorem dX9_note_49 : decode cX9_note 49 = .ok (.ifCond .ne 10, 3) := by decide +kernel
theorem dX9_note_52 : decode cX9_note 52 = .ok (.aload_n 0, 1) := by decide +kernel
theorem dX9_note_53 : decode cX9_note 53 = .ok (.bipush (-2), 2) := by decide +kernel
theorem dX9_note_55 : decode cX9_note 55 = .ok (.invokevirtual 78, 3) := by decide +kernel
theorem dX9_note_58 : decode cX9_note 58 = .ok (.ireturn, 1) := by decide +kernel
theorem dX9_note_59 : decode cX9_note 59 = .ok (.aload_n 0, 1) := by decide +kernel
theorem dX9_note_60 : decode cX9_note 60 = .ok (.getfield 30, 3) := by decide +kernel
theorem dX9_note_63 : decode cX9_note 63 = .ok (.getfield 196, 3) := by decide +kernel
theorem dX9_note_66 : decode cX9_note 66 = .ok (.bipush 6, 2) := by decide +kernel
theorem dX9_note_68 : decode cX9_note 68 = .ok (.if_icmp .lt 8, 3) := by decide +kernel
theorem dX9_note_71 : decode cX9_note 71 = .ok (.aload_n 0, 1) := by decide +kernel
theorem dX9_note_72 : decode cX9_note 72 = .ok (.invokevirtual 82, 3) := by decide +kernel
theorem dX9_note_75 : decode cX9_note 75 = .ok (.ireturn, 1) := by decide +kernel
theorem dX9_note_76 : decode cX9_note 76 = .ok (.aload_n 0, 1) := by decide +kernel
theorem dX9_note_77 : decode cX9_note 77 = .ok (.getfield 30, 3) := by decide +kernel
theorem dX9_note_80 : decode cX9_note 80 = .ok (.iload_n 1, 1) := by decide +kernel
theorem dX9_note_81 : decode cX9_note 81 = .ok (.iload_n 2, 1) := by decide +kernel
theorem dX9_note_82 : decode cX9_note 82 = .ok (.iload_n 3, 1) := by decide +kernel
theorem dX9_note_83 : decode cX9_note 83 = .ok (.iload 4, 2) := by decide +kernel
theorem dX9_note_85 : decode cX9_note 85 = .ok (.iload 5, 2) := by decide +kernel
theorem dX9_note_87 : decode cX9_note 87 = .ok (.invokevirtual 199, 3) := by decide +kernel
theorem dX9_note_90 : decode cX9_note 90 = .ok (.aload_n 0, 1) := by decide +kernel
theorem dX9_note_91 : decode cX9_note 91 = .ok (.getfield 30, 3) := by decide +kernel
theorem dX9_note_94 : decode cX9_note 94 = .ok (.getfield 196, 3) := by decide +kernel
theorem dX9_note_97 : decode cX9_note 97 = .ok (.ireturn, 1) := by decide +kernel
theorem dX9_heard_0 : decode cX9_heard 0 = .ok (.aload_n 0, 1) := by decide +kernel
theorem dX9_heard_1 : decode cX9_heard 1 = .ok (.iload_n 1, 1) := by decide +kernel
theorem dX9_heard_2 : decode cX9_heard 2 = .ok (.invokevirtual 123, 3) := by decide +kernel
theorem dX9_heard_5 : decode cX9_heard 5 = .ok (.ifCond .eq 11, 3) := by decide +kernel
theorem dX9_heard_8 : decode cX9_heard 8 = .ok (.iload_n 2, 1) := by decide +kernel
theorem dX9_heard_9 : decode cX9_heard 9 = .ok (.iconst 1, 1) := by decide +kernel
theorem dX9_heard_10 : decode cX9_heard 10 = .ok (.invokestatic 74, 3) := by decide +kernel
theorem dX9_heard_13 : decode cX9_heard 13 = .ok (.ifCond .ne 10, 3) := by decide +kernel
theorem dX9_heard_16 : decode cX9_heard 16 = .ok (.aload_n 0, 1) := by decide +kernel
theorem dX9_heard_17 : decode cX9_heard 17 = .ok (.bipush (-2), 2) := by decide +kernel
theorem dX9_heard_19 : decode cX9_heard 19 = .ok (.invokevirtual 78, 3) := by decide +kernel
theorem dX9_heard_22 : decode cX9_heard 22 = .ok (.ireturn, 1) := by decide +kernel
theorem dX9_heard_23 : decode cX9_heard 23 = .ok (.aload_n 0, 1) := by decide +kernel
theorem dX9_heard_24 : decode cX9_heard 24 = .ok (.getfield 30, 3) := by decide +kernel
theorem dX9_heard_27 : decode cX9_heard 27 = .ok (.getfield 203, 3) := by decide +kernel
theorem dX9_heard_30 : decode cX9_heard 30 = .ok (.bipush 6, 2) := by decide +kernel
theorem dX9_heard_32 : decode cX9_heard 32 = .ok (.if_icmp .lt 8, 3) := by decide +kernel
theorem dX9_heard_35 : decode cX9_heard 35 = .ok (.aload_n 0, 1) := by decide +kernel
theorem dX9_heard_36 : decode cX9_heard 36 = .ok (.invokevirtual 82, 3) := by decide +kernel
theorem dX9_heard_39 : decode cX9_heard 39 = .ok (.ireturn, 1) := by decide +kernel
theorem dX9_heard_40 : decode cX9_heard 40 = .ok (.aload_n 0, 1) := by decide +kernel
theorem dX9_heard_41 : decode cX9_heard 41 = .ok (.getfield 30, 3) := by decide +kernel
theorem dX9_heard_44 : decode cX9_heard 44 = .ok (.iload_n 1, 1) := by decide +kernel
theorem dX9_heard_45 : decode cX9_heard 45 = .ok (.iload_n 2, 1) := by decide +kernel
theorem dX9_heard_46 : decode cX9_heard 46 = .ok (.invokevirtual 206, 3) := by decide +kernel
theorem dX9_heard_49 : decode cX9_heard 49 = .ok (.aload_n 0, 1) := by decide +kernel
theorem dX9_heard_50 : decode cX9_heard 50 = .ok (.getfield 30, 3) := by decide +kernel
theorem dX9_heard_53 : decode cX9_heard 53 = .ok (.getfield 203, 3) := by decide +kernel
theorem dX9_heard_56 : decode cX9_heard 56 = .ok (.ireturn, 1) := by decide +kernel
theorem dX9_forget_0 : decode cX9_forget 0 = .ok (.iload_n 1, 1) := by decide +kernel
theorem dX9_forget_1 : decode cX9_forget 1 = .ok (.iconst 1, 1) := by decide +kernel
theorem dX9_forget_2 : decode cX9_forget 2 = .ok (.invokestatic 74, 3) := by decide +kernel
theorem dX9_forget_5 : decode cX9_forget 5 = .ok (.ifCond .ne 10, 3) := by decide +kernel
theorem dX9_forget_8 : decode cX9_forget 8 = .ok (.aload_n 0, 1) := by decide +kernel
theorem dX9_forget_9 : decode cX9_forget 9 = .ok (.bipush (-2), 2) := by decide +kernel
theorem dX9_forget_11 : decode cX9_forget 11 = .ok (.invokevirtual 78, 3) := by decide +kernel
theorem dX9_forget_14 : decode cX9_forget 14 = .ok (.ireturn, 1) := by decide +kernel
theorem dX9_forget_15 : decode cX9_forget 15 = .ok (.iload_n 1, 1) := by decide +kernel
theorem dX9_forget_16 : decode cX9_forget 16 = .ok (.ifCond .ne 13, 3) := by decide +kernel
theorem dX9_forget_19 : decode cX9_forget 19 = .ok (.aload_n 0, 1) := by decide +kernel
theorem dX9_forget_20 : decode cX9_forget 20 = .ok (.getfield 30, 3) := by decide +kernel
theorem dX9_forget_23 : decode cX9_forget 23 = .ok (.getfield 196, 3) := by decide +kernel
theorem dX9_forget_26 : decode cX9_forget 26 = .ok (.goto 10, 3) := by decide +kernel
theorem dX9_forget_29 : decode cX9_forget 29 = .ok (.aload_n 0, 1) := by decide +kernel
theorem dX9_forget_30 : decode cX9_forget 30 = .ok (.getfield 30, 3) := by decide +kernel
theorem dX9_forget_33 : decode cX9_forget 33 = .ok (.getfield 203, 3) := by decide +kernel
theorem dX9_forget_36 : decode cX9_forget 36 = .ok (.istore_n 2, 1) := by decide +kernel
theorem dX9_forget_37 : decode cX9_forget 37 = .ok (.iload_n 1, 1) := by decide +kernel
theorem dX9_forget_38 : decode cX9_forget 38 = .ok (.ifCond .ne 14, 3) := by decide +kernel
theorem dX9_forget_41 : decode cX9_forget 41 = .ok (.aload_n 0, 1) := by decide +kernel
theorem dX9_forget_42 : decode cX9_forget 42 = .ok (.getfield 30, 3) := by decide +kernel
theorem dX9_forget_45 : decode cX9_forget 45 = .ok (.iconst 0, 1) := by decide +kernel
theorem dX9_forget_46 : decode cX9_forget 46 = .ok (.putfield 196, 3) := by decide +kernel
theorem dX9_forget_49 : decode cX9_forget 49 = .ok (.goto 11, 3) := by decide +kernel
theorem dX9_forget_52 : decode cX9_forget 52 = .ok (.aload_n 0, 1) := by decide +kernel
theorem dX9_forget_53 : decode cX9_forget 53 = .ok (.getfield 30, 3) := by decide +kernel
theorem dX9_forget_56 : decode cX9_forget 56 = .ok (.iconst 0, 1) := by decide +kernel
theorem dX9_forget_57 : decode cX9_forget 57 = .ok (.putfield 203, 3) := by decide +kernel
theorem dX9_forget_60 : decode cX9_forget 60 = .ok (.iload_n 2, 1) := by decide +kernel
theorem dX9_forget_61 : decode cX9_forget 61 = .ok (.ireturn, 1) := by decide +kernel
theorem dX9_is_0 : decode cX9_is 0 = .ok (.aload_n 0, 1) := by decide +kernel
theorem dX9_is_1 : decode cX9_is 1 = .ok (.iload_n 1, 1) := by decide +kernel
theorem dX9_is_2 : decode cX9_is 2 = .ok (.invokevirtual 123, 3) := by decide +kernel
theorem dX9_is_5 : decode cX9_is 5 = .ok (.ifCond .ne 10, 3) := by decide +kernel
theorem dX9_is_8 : decode cX9_is 8 = .ok (.aload_n 0, 1) := by decide +kernel
theorem dX9_is_9 : decode cX9_is 9 = .ok (.bipush (-2), 2) := by decide +kernel
theorem dX9_is_11 : decode cX9_is 11 = .ok (.invokevirtual 78, 3) := by decide +kernel
theorem dX9_is_14 : decode cX9_is 14 = .ok (.ireturn, 1) := by decide +kernel
theorem dX9_is_15 : decode cX9_is 15 = .ok (.aload_n 0, 1) := by decide +kernel
theorem dX9_is_16 : decode cX9_is 16 = .ok (.getfield 30, 3) := by decide +kernel
theorem dX9_is_19 : decode cX9_is 19 = .ok (.iload_n 1, 1) := by decide +kernel
theorem dX9_is_20 : decode cX9_is 20 = .ok (.invokevirtual 209, 3) := by decide +kernel
theorem dX9_is_23 : decode cX9_is 23 = .ok (.ireturn, 1) := by decide +kernel
theorem dX9_listen_0 : decode cX9_listen 0 = .ok (.aload_n 0, 1) := by decide +kernel
theorem dX9_listen_1 : decode cX9_listen 1 = .ok (.iload_n 1, 1) := by decide +kernel
theorem dX9_listen_2 : decode cX9_listen 2 = .ok (.invokevirtual 123, 3) := by decide +kernel
theorem dX9_listen_5 : decode cX9_listen 5 = .ok (.ifCond .ne 10, 3) := by decide +kernel
theorem dX9_listen_8 : decode cX9_listen 8 = .ok (.aload_n 0, 1) := by decide +kernel
theorem dX9_listen_9 : decode cX9_listen 9 = .ok (.bipush (-2), 2) := by decide +kernel
theorem dX9_listen_11 : decode cX9_listen 11 = .ok (.invokevirtual 78, 3) := by decide +kernel
theorem dX9_listen_14 : decode cX9_listen 14 = .ok (.ireturn, 1) := by decide +kernel
theorem dX9_listen_15 : decode cX9_listen 15 = .ok (.aload_n 0, 1) := by decide +kernel
theorem dX9_listen_16 : decode cX9_listen 16 = .ok (.getfield 30, 3) := by decide +kernel
theorem dX9_listen_19 : decode cX9_listen 19 = .ok (.iload_n 1, 1) := by decide +kernel
theorem dX9_listen_20 : decode cX9_listen 20 = .ok (.invokevirtual 209, 3) := by decide +kernel
theorem dX9_listen_23 : decode cX9_listen 23 = .ok (.istore_n 2, 1) := by decide +kernel
theorem dX9_listen_24 : decode cX9_listen 24 = .ok (.iload_n 2, 1) := by decide +kernel
theorem dX9_listen_25 : decode cX9_listen 25 = .ok (.ifCond .ne 5, 3) := by decide +kernel
theorem dX9_listen_28 : decode cX9_listen 28 = .ok (.iconst (-1), 1) := by decide +kernel
theorem dX9_listen_29 : decode cX9_listen 29 = .ok (.ireturn, 1) := by decide +kernel
theorem dX9_listen_30 : decode cX9_listen 30 = .ok (.iconst 0, 1) := by decide +kernel
theorem dX9_listen_31 : decode cX9_listen 31 = .ok (.istore_n 3, 1) := by decide +kernel
theorem dX9_listen_32 : decode cX9_listen 32 = .ok (.bipush 7, 2) := by decide +kernel
theorem dX9_listen_34 : decode cX9_listen 34 = .ok (.istore 4, 2) := by decide +kernel
theorem dX9_listen_36 : decode cX9_listen 36 = .ok (.iconst 0, 1) := by decide +kernel
theorem dX9_listen_37 : decode cX9_listen 37 = .ok (.istore 5, 2) := by decide +kernel
theorem dX9_listen_39 : decode cX9_listen 39 = .ok (.iload 5, 2) := by decide +kernel
theorem dX9_listen_41 : decode cX9_listen 41 = .ok (.bipush 24, 2) := by decide +kernel
theorem dX9_listen_43 : decode cX9_listen 43 = .ok (.if_icmp .ge 44, 3) := by decide +kernel
theorem dX9_listen_46 : decode cX9_listen 46 = .ok (.aload_n 0, 1) := by decide +kernel
theorem dX9_listen_47 : decode cX9_listen 47 = .ok (.getfield 30, 3) := by decide +kernel
theorem dX9_listen_50 : decode cX9_listen 50 = .ok (.iload_n 2, 1) := by decide +kernel
theorem dX9_listen_51 : decode cX9_listen 51 = .ok (.aload_n 0, 1) := by decide +kernel
theorem dX9_listen_52 : decode cX9_listen 52 = .ok (.getfield 30, 3) := by decide +kernel
theorem dX9_listen_55 : decode cX9_listen 55 = .ok (.getfield 156, 3) := by decide +kernel
theorem dX9_listen_58 : decode cX9_listen 58 = .ok (.iload_n 1, 1) := by decide +kernel
theorem dX9_listen_59 : decode cX9_listen 59 = .ok (.iaload, 1) := by decide +kernel
theorem dX9_listen_60 : decode cX9_listen 60 = .ok (.iload 5, 2) := by decide +kernel
theorem dX9_listen_62 : decode cX9_listen 62 = .ok (.invokevirtual 212, 3) := by decide +kernel
theorem dX9_listen_65 : decode cX9_listen 65 = .ok (.istore 6, 2) := by decide +kernel
theorem dX9_listen_67 : decode cX9_listen 67 = .ok (.iload 6, 2) := by decide +kernel
theorem dX9_listen_69 : decode cX9_listen 69 = .ok (.iload 4, 2) := by decide +kernel
theorem dX9_listen_71 : decode cX9_listen 71 = .ok (.if_icmp .ge 10, 3) := by decide +kernel
theorem dX9_listen_74 : decode cX9_listen 74 = .ok (.iload 6, 2) := by decide +kernel
theorem dX9_listen_76 : decode cX9_listen 76 = .ok (.istore 4, 2) := by decide +kernel
theorem dX9_listen_78 : decode cX9_listen 78 = .ok (.iload 5, 2) := by decide +kernel
theorem dX9_listen_80 : decode cX9_listen 80 = .ok (.istore_n 3, 1) := by decide +kernel
theorem dX9_listen_81 : decode cX9_listen 81 = .ok (.iinc 5 1, 3) := by decide +kernel
theorem dX9_listen_84 : decode cX9_listen 84 = .ok (.goto (-45), 3) := by decide +kernel
theorem dX9_listen_87 : decode cX9_listen 87 = .ok (.iload_n 3, 1) := by decide +kernel
theorem dX9_listen_88 : decode cX9_listen 88 = .ok (.ireturn, 1) := by decide +kernel
theorem dX9_which_0 : decode cX9_which 0 = .ok (.iconst 0, 1) := by decide +kernel
theorem dX9_which_1 : decode cX9_which 1 = .ok (.istore_n 1, 1) := by decide +kernel
theorem dX9_which_2 : decode cX9_which 2 = .ok (.iconst 0, 1) := by decide +kernel
theorem dX9_which_3 : decode cX9_which 3 = .ok (.istore_n 2, 1) := by decide +kernel
theorem dX9_which_4 : decode cX9_which 4 = .ok (.iload_n 2, 1) := by decide +kernel
theorem dX9_which_5 : decode cX9_which 5 = .ok (.bipush 24, 2) := by decide +kernel
theorem dX9_which_7 : decode cX9_which 7 = .ok (.if_icmp .ge 26, 3) := by decide +kernel
theorem dX9_which_10 : decode cX9_which 10 = .ok (.aload_n 0, 1) := by decide +kernel
theorem dX9_which_11 : decode cX9_which 11 = .ok (.getfield 30, 3) := by decide +kernel
theorem dX9_which_14 : decode cX9_which 14 = .ok (.iload_n 2, 1) := by decide +kernel
theorem dX9_which_15 : decode cX9_which 15 = .ok (.invokevirtual 215, 3) := by decide +kernel
theorem dX9_which_18 : decode cX9_which 18 = .ok (.ifCond .eq 9, 3) := by decide +kernel
theorem dX9_which_21 : decode cX9_which 21 = .ok (.iload_n 1, 1) := by decide +kernel
theorem dX9_which_22 : decode cX9_which 22 = .ok (.iconst 1, 1) := by decide +kernel
theorem dX9_which_23 : decode cX9_which 23 = .ok (.iload_n 2, 1) := by decide +kernel
theorem dX9_which_24 : decode cX9_which 24 = .ok (.ishl, 1) := by decide +kernel
theorem dX9_which_25 : decode cX9_which 25 = .ok (.ior, 1) := by decide +kernel
theorem dX9_which_26 : decode cX9_which 26 = .ok (.istore_n 1, 1) := by decide +kernel
theorem dX9_which_27 : decode cX9_which 27 = .ok (.iinc 2 1, 3) := by decide +kernel
theorem dX9_which_30 : decode cX9_which 30 = .ok (.goto (-26), 3) := by decide +kernel
theorem dX9_which_33 : decode cX9_which 33 = .ok (.iload_n 1, 1) := by decide +kernel
theorem dX9_which_34 : decode cX9_which 34 = .ok (.ireturn, 1) := by decide +kernel
theorem dX9_powers_0 : decode cX9_powers 0 = .ok (.iload_n 1, 1) := by decide +kernel
theorem dX9_powers_1 : decode cX9_powers 1 = .ok (.bipush 23, 2) := by decide +kernel
theorem dX9_powers_3 : decode cX9_powers 3 = .ok (.invokestatic 74, 3) := by decide +kernel
theorem dX9_powers_6 : decode cX9_powers 6 = .ok (.ifCond .ne 10, 3) := by decide +kernel
theorem dX9_powers_9 : decode cX9_powers 9 = .ok (.aload_n 0, 1) := by decide +kernel
theorem dX9_powers_10 : decode cX9_powers 10 = .ok (.bipush (-2), 2) := by decide +kernel
theorem dX9_powers_12 : decode cX9_powers 12 = .ok (.invokevirtual 78, 3) := by decide +kernel
theorem dX9_powers_15 : decode cX9_powers 15 = .ok (.ireturn, 1) := by decide +kernel
theorem dX9_powers_16 : decode cX9_powers 16 = .ok (.aload_n 0, 1) := by decide +kernel
theorem dX9_powers_17 : decode cX9_powers 17 = .ok (.getfield 30, 3) := by decide +kernel
theorem dX9_powers_20 : decode cX9_powers 20 = .ok (.iconst 0, 1) := by decide +kernel
theorem dX9_powers_21 : decode cX9_powers 21 = .ok (.invokevirtual 120, 3) := by decide +kernel
theorem dX9_powers_24 : decode cX9_powers 24 = .ok (.istore_n 2, 1) := by decide +kernel
theorem dX9_powers_25 : decode cX9_powers 25 = .ok (.iload_n 2, 1) := by decide +kernel
theorem dX9_powers_26 : decode cX9_powers 26 = .ok (.iconst (-1), 1) := by decide +kernel
theorem dX9_powers_27 : decode cX9_powers 27 = .ok (.if_icmp .eq 15, 3) := by decide +kernel
theorem dX9_powers_30 : decode cX9_powers 30 = .ok (.aload_n 0, 1) := by decide +kernel
theorem dX9_powers_31 : decode cX9_powers 31 = .ok (.getfield 30, 3) := by decide +kernel
theorem dX9_powers_34 : decode cX9_powers 34 = .ok (.iload_n 2, 1) := by decide +kernel
theorem dX9_powers_35 : decode cX9_powers 35 = .ok (.iload_n 1, 1) := by decide +kernel
theorem dX9_powers_36 : decode cX9_powers 36 = .ok (.invokevirtual 169, 3) := by decide +kernel
theorem dX9_powers_39 : decode cX9_powers 39 = .ok (.ifCond .eq 6, 3) := by decide +kernel
theorem dX9_powers_42 : decode cX9_powers 42 = .ok (.bipush 15, 2) := by decide +kernel
theorem dX9_powers_44 : decode cX9_powers 44 = .ok (.ireturn, 1) := by decide +kernel
theorem dX9_powers_45 : decode cX9_powers 45 = .ok (.aload_n 0, 1) := by decide +kernel
theorem dX9_powers_46 : decode cX9_powers 46 = .ok (.getfield 30, 3) := by decide +kernel
theorem dX9_powers_49 : decode cX9_powers 49 = .ok (.iload_n 2, 1) := by decide +kernel
theorem dX9_powers_50 : decode cX9_powers 50 = .ok (.iload_n 1, 1) := by decide +kernel
theorem dX9_powers_51 : decode cX9_powers 51 = .ok (.aload_n 0, 1) := by decide +kernel
theorem dX9_powers_52 : decode cX9_powers 52 = .ok (.getfield 30, 3) := by decide +kernel
theorem dX9_powers_55 : decode cX9_powers 55 = .ok (.getfield 127, 3) := by decide +kernel
theorem dX9_powers_58 : decode cX9_powers 58 = .ok (.iload_n 2, 1) := by decide +kernel
theorem dX9_powers_59 : decode cX9_powers 59 = .ok (.iaload, 1) := by decide +kernel
theorem dX9_powers_60 : decode cX9_powers 60 = .ok (.invokevirtual 172, 3) := by decide +kernel
theorem dX9_powers_63 : decode cX9_powers 63 = .ok (.istore_n 3, 1) := by decide +kernel
theorem dX9_powers_64 : decode cX9_powers 64 = .ok (.iconst 0, 1) := by decide +kernel
theorem dX9_powers_65 : decode cX9_powers 65 = .ok (.istore 4, 2) := by decide +kernel
theorem dX9_powers_67 : decode cX9_powers 67 = .ok (.iconst 0, 1) := by decide +kernel
theorem dX9_powers_68 : decode cX9_powers 68 = .ok (.istore 5, 2) := by decide +kernel
theorem dX9_powers_70 : decode cX9_powers 70 = .ok (.iload 5, 2) := by decide +kernel
theorem dX9_powers_72 : decode cX9_powers 72 = .ok (.iconst 3, 1) := by decide +kernel
theorem dX9_powers_73 : decode cX9_powers 73 = .ok (.if_icmp .gt 52, 3) := by decide +kernel
theorem dX9_powers_76 : decode cX9_powers 76 = .ok (.iload 5, 2) := by decide +kernel
theorem dX9_powers_78 : decode cX9_powers 78 = .ok (.iconst 1, 1) := by decide +kernel
theorem dX9_powers_79 : decode cX9_powers 79 = .ok (.iand, 1) := by decide +kernel
theorem dX9_powers_80 : decode cX9_powers 80 = .ok (.istore 6, 2) := by decide +kernel
theorem dX9_powers_82 : decode cX9_powers 82 = .ok (.iload 5, 2) := by decide +kernel
theorem dX9_powers_84 : decode cX9_powers 84 = .ok (.iconst 1, 1) := by decide +kernel
theorem dX9_powers_85 : decode cX9_powers 85 = .ok (.ishr, 1) := by decide +kernel
theorem dX9_powers_86 : decode cX9_powers 86 = .ok (.istore 7, 2) := by decide +kernel
theorem dX9_powers_88 : decode cX9_powers 88 = .ok (.iload_n 3, 1) := by decide +kernel
theorem dX9_powers_89 : decode cX9_powers 89 = .ok (.iload 6, 2) := by decide +kernel
theorem dX9_powers_91 : decode cX9_powers 91 = .ok (.iload 7, 2) := by decide +kernel
theorem dX9_powers_93 : decode cX9_powers 93 = .ok (.invokestatic 218, 3) := by decide +kernel
theorem dX9_powers_96 : decode cX9_powers 96 = .ok (.ifCond .eq 23, 3) := by decide +kernel
theorem dX9_powers_99 : decode cX9_powers 99 = .ok (.iload_n 3, 1) := by decide +kernel
theorem dX9_powers_100 : decode cX9_powers 100 = .ok (.iload 7, 2) := by decide +kernel
theorem dX9_powers_102 : decode cX9_powers 102 = .ok (.iload 6, 2) := by decide +kernel
theorem dX9_powers_104 : decode cX9_powers 104 = .ok (.invokestatic 218, 3) := by decide +kernel
theorem dX9_powers_107 : decode cX9_powers 107 = .ok (.ifCond .eq 12, 3) := by decide +kernel
theorem dX9_powers_110 : decode cX9_powers 110 = .ok (.iload 4, 2) := by decide +kernel
theorem dX9_powers_112 : decode cX9_powers 112 = .ok (.iconst 1, 1) := by decide +kernel
theorem dX9_powers_113 : decode cX9_powers 113 = .ok (.iload 5, 2) := by decide +kernel
theorem dX9_powers_115 : decode cX9_powers 115 = .ok (.ishl, 1) := by decide +kernel
theorem dX9_powers_116 : decode cX9_powers 116 = .ok (.ior, 1) := by decide +kernel
theorem dX9_powers_117 : decode cX9_powers 117 = .ok (.istore 4, 2) := by decide +kernel
theorem dX9_powers_119 : decode cX9_powers 119 = .ok (.iinc 5 1, 3) := by decide +kernel
theorem dX9_powers_122 : decode cX9_powers 122 = .ok (.goto (-52), 3) := by decide +kernel
theorem dX9_powers_125 : decode cX9_powers 125 = .ok (.iload 4, 2) := by decide +kernel
theorem dX9_powers_127 : decode cX9_powers 127 = .ok (.ireturn, 1) := by decide +kernel
theorem dX9_walks_0 : decode cX9_walks 0 = .ok (.iload_n 1, 1) := by decide +kernel
theorem dX9_walks_1 : decode cX9_walks 1 = .ok (.bipush 9, 2) := by decide +kernel
theorem dX9_walks_3 : decode cX9_walks 3 = .ok (.invokestatic 74, 3) := by decide +kernel
theorem dX9_walks_6 : decode cX9_walks 6 = .ok (.ifCond .eq 12, 3) := by decide +kernel
theorem dX9_walks_9 : decode cX9_walks 9 = .ok (.iload_n 2, 1) := by decide +kernel
theorem dX9_walks_10 : decode cX9_walks 10 = .ok (.bipush 10, 2) := by decide +kernel
theorem dX9_walks_12 : decode cX9_walks 12 = .ok (.invokestatic 74, 3) := by decide +kernel
theorem dX9_walks_15 : decode cX9_walks 15 = .ok (.ifCond .ne 10, 3) := by decide +kernel
theorem dX9_walks_18 : decode cX9_walks 18 = .ok (.aload_n 0, 1) := by decide +kernel
theorem dX9_walks_19 : decode cX9_walks 19 = .ok (.bipush (-2), 2) := by decide +kernel
theorem dX9_walks_21 : decode cX9_walks 21 = .ok (.invokevirtual 78, 3) := by decide +kernel
theorem dX9_walks_24 : decode cX9_walks 24 = .ok (.ireturn, 1) := by decide +kernel
theorem dX9_walks_25 : decode cX9_walks 25 = .ok (.aload_n 0, 1) := by decide +kernel
theorem dX9_walks_26 : decode cX9_walks 26 = .ok (.getfield 30, 3) := by decide +kernel
theorem dX9_walks_29 : decode cX9_walks 29 = .ok (.iconst 0, 1) := by decide +kernel
theorem dX9_walks_30 : decode cX9_walks 30 = .ok (.invokevirtual 120, 3) := by decide +kernel
theorem dX9_walks_33 : decode cX9_walks 33 = .ok (.istore_n 3, 1) := by decide +kernel
theorem dX9_walks_34 : decode cX9_walks 34 = .ok (.iload_n 3, 1) := by decide +kernel
theorem dX9_walks_35 : decode cX9_walks 35 = .ok (.iconst (-1), 1) := by decide +kernel
theorem dX9_walks_36 : decode cX9_walks 36 = .ok (.if_icmp .ne 8, 3) := by decide +kernel
theorem dX9_walks_39 : decode cX9_walks 39 = .ok (.aload_n 0, 1) := by decide +kernel
theorem dX9_walks_40 : decode cX9_walks 40 = .ok (.invokevirtual 133, 3) := by decide +kernel
theorem dX9_walks_43 : decode cX9_walks 43 = .ok (.ireturn, 1) := by decide +kernel
theorem dX9_walks_44 : decode cX9_walks 44 = .ok (.aload_n 0, 1) := by decide +kernel
theorem dX9_walks_45 : decode cX9_walks 45 = .ok (.lconst 0, 1) := by decide +kernel
theorem dX9_walks_46 : decode cX9_walks 46 = .ok (.putfield 60, 3) := by decide +kernel
theorem dX9_walks_49 : decode cX9_walks 49 = .ok (.aload_n 0, 1) := by decide +kernel
theorem dX9_walks_50 : decode cX9_walks 50 = .ok (.lconst 1, 1) := by decide +kernel
theorem dX9_walks_51 : decode cX9_walks 51 = .ok (.putfield 64, 3) := by decide +kernel
theorem dX9_walks_54 : decode cX9_walks 54 = .ok (.aload_n 0, 1) := by decide +kernel
theorem dX9_walks_55 : decode cX9_walks 55 = .ok (.getfield 30, 3) := by decide +kernel
theorem dX9_walks_58 : decode cX9_walks 58 = .ok (.iload_n 1, 1) := by decide +kernel
theorem dX9_walks_59 : decode cX9_walks 59 = .ok (.invokevirtual 120, 3) := by decide +kernel
theorem dX9_walks_62 : decode cX9_walks 62 = .ok (.iload_n 3, 1) := by decide +kernel
theorem dX9_walks_63 : decode cX9_walks 63 = .ok (.if_icmp .ne 12, 3) := by decide +kernel
theorem dX9_walks_66 : decode cX9_walks 66 = .ok (.aload_n 0, 1) := by decide +kernel
theorem dX9_walks_67 : decode cX9_walks 67 = .ok (.bipush 10, 2) := by decide +kernel
theorem dX9_walks_69 : decode cX9_walks 69 = .ok (.iload_n 2, 1) := by decide +kernel
theorem dX9_walks_70 : decode cX9_walks 70 = .ok (.isub, 1) := by decide +kernel
theorem dX9_walks_71 : decode cX9_walks 71 = .ok (.iload_n 1, 1) := by decide +kernel
theorem dX9_walks_72 : decode cX9_walks 72 = .ok (.invokevirtual 221, 3) := by decide +kernel
theorem dX9_walks_75 : decode cX9_walks 75 = .ok (.iconst 1, 1) := by decide +kernel
theorem dX9_walks_76 : decode cX9_walks 76 = .ok (.ireturn, 1) := by decide +kernel
theorem dX9_dynasties_0 : decode cX9_dynasties 0 = .ok (.iload_n 1, 1) := by decide +kernel
theorem dX9_dynasties_1 : decode cX9_dynasties 1 = .ok (.ldc 224, 2) := by decide +kernel
theorem dX9_dynasties_3 : decode cX9_dynasties 3 = .ok (.invokestatic 74, 3) := by decide +kernel
theorem dX9_dynasties_6 : decode cX9_dynasties 6 = .ok (.ifCond .eq 12, 3) := by decide +kernel
theorem dX9_dynasties_9 : decode cX9_dynasties 9 = .ok (.iload_n 2, 1) := by decide +kernel
theorem dX9_dynasties_10 : decode cX9_dynasties 10 = .ok (.bipush 60, 2) := by decide +kernel
theorem dX9_dynasties_12 : decode cX9_dynasties 12 = .ok (.invokestatic 74, 3) := by decide +kernel
theorem dX9_dynasties_15 : decode cX9_dynasties 15 = .ok (.ifCond .ne 10, 3) := by decide +kernel
theorem dX9_dynasties_18 : decode cX9_dynasties 18 = .ok (.aload_n 0, 1) := by decide +kernel
theorem dX9_dynasties_19 : decode cX9_dynasties 19 = .ok (.bipush (-2), 2) := by decide +kernel
theorem dX9_dynasties_21 : decode cX9_dynasties 21 = .ok (.invokevirtual 78, 3) := by decide +kernel
theorem dX9_dynasties_24 : decode cX9_dynasties 24 = .ok (.ireturn, 1) := by decide +kernel
theorem dX9_dynasties_25 : decode cX9_dynasties 25 = .ok (.iload_n 1, 1) := by decide +kernel
theorem dX9_dynasties_26 : decode cX9_dynasties 26 = .ok (.i2l, 1) := by decide +kernel
theorem dX9_dynasties_27 : decode cX9_dynasties 27 = .ok (.lstore_n 3, 1) := by decide +kernel
theorem dX9_dynasties_28 : decode cX9_dynasties 28 = .ok (.iconst 0, 1) := by decide +kernel
theorem dX9_dynasties_29 : decode cX9_dynasties 29 = .ok (.istore 5, 2) := by decide +kernel
theorem dX9_dynasties_31 : decode cX9_dynasties 31 = .ok (.iconst 0, 1) := by decide +kernel
theorem dX9_dynasties_32 : decode cX9_dynasties 32 = .ok (.istore 6, 2) := by decide +kernel
theorem dX9_dynasties_34 : decode cX9_dynasties 34 = .ok (.iload 6, 2) := by decide +kernel
theorem dX9_dynasties_36 : decode cX9_dynasties 36 = .ok (.iload_n 2, 1) := by decide +kernel
theorem dX9_dynasties_37 : decode cX9_dynasties 37 = .ok (.if_icmp .ge 102, 3) := by decide +kernel
theorem dX9_dynasties_40 : decode cX9_dynasties 40 = .ok (.iconst (-1), 1) := by decide +kernel
theorem dX9_dynasties_41 : decode cX9_dynasties 41 = .ok (.istore 7, 2) := by decide +kernel
theorem dX9_dynasties_43 : decode cX9_dynasties 43 = .ok (.iconst (-1), 1) := by decide +kernel
theorem dX9_dynasties_44 : decode cX9_dynasties 44 = .ok (.istore 8, 2) := by decide +kernel
theorem dX9_dynasties_46 : decode cX9_dynasties 46 = .ok (.iconst 0, 1) := by decide +kernel
theorem dX9_dynasties_47 : decode cX9_dynasties 47 = .ok (.istore 9, 2) := by decide +kernel
theorem dX9_dynasties_49 : decode cX9_dynasties 49 = .ok (.iload 9, 2) := by decide +kernel
theorem dX9_dynasties_51 : decode cX9_dynasties 51 = .ok (.aload_n 0, 1) := by decide +kernel
theorem dX9_dynasties_52 : decode cX9_dynasties 52 = .ok (.getfield 30, 3) := by decide +kernel
theorem dX9_dynasties_55 : decode cX9_dynasties 55 = .ok (.getfield 67, 3) := by decide +kernel
theorem dX9_dynasties_58 : decode cX9_dynasties 58 = .ok (.if_icmp .ge 66, 3) := by decide +kernel
theorem dX9_dynasties_61 : decode cX9_dynasties 61 = .ok (.lload_n 3, 1) := by decide +kernel
theorem dX9_dynasties_62 : decode cX9_dynasties 62 = .ok (.ldc2_w 225, 3) := by decide +kernel
theorem dX9_dynasties_65 : decode cX9_dynasties 65 = .ok (.lmul, 1) := by decide +kernel
theorem dX9_dynasties_66 : decode cX9_dynasties 66 = .ok (.ldc2_w 227, 3) := by decide +kernel
theorem dX9_dynasties_69 : decode cX9_dynasties 69 = .ok (.ladd, 1) := by decide +kernel
theorem dX9_dynasties_70 : decode cX9_dynasties 70 = .ok (.ldc2_w 229, 3) := by decide +kernel
theorem dX9_dynasties_73 : decode cX9_dynasties 73 = .ok (.lrem, 1) := by decide +kernel
theorem dX9_dynasties_74 : decode cX9_dynasties 74 = .ok (.lstore_n 3, 1) := by decide +kernel
theorem dX9_dynasties_75 : decode cX9_dynasties 75 = .ok (.lload_n 3, 1) := by decide +kernel
theorem dX9_dynasties_76 : decode cX9_dynasties 76 = .ok (.ldc2_w 231, 3) := by decide +kernel
theorem dX9_dynasties_79 : decode cX9_dynasties 79 = .ok (.ldiv, 1) := by decide +kernel
theorem dX9_dynasties_80 : decode cX9_dynasties 80 = .ok (.ldc2_w 233, 3) := by decide +kernel
theorem dX9_dynasties_83 : decode cX9_dynasties 83 = .ok (.lrem, 1) := by decide +kernel
theorem dX9_dynasties_84 : decode cX9_dynasties 84 = .ok (.l2i, 1) := by decide +kernel
theorem dX9_dynasties_85 : decode cX9_dynasties 85 = .ok (.iconst 1, 1) := by decide +kernel
theorem dX9_dynasties_86 : decode cX9_dynasties 86 = .ok (.iadd, 1) := by decide +kernel
theorem dX9_dynasties_87 : decode cX9_dynasties 87 = .ok (.istore 10, 2) := by decide +kernel
theorem dX9_dynasties_89 : decode cX9_dynasties 89 = .ok (.iload 10, 2) := by decide +kernel
theorem dX9_dynasties_91 : decode cX9_dynasties 91 = .ok (.aload_n 0, 1) := by decide +kernel
theorem dX9_dynasties_92 : decode cX9_dynasties 92 = .ok (.getfield 30, 3) := by decide +kernel
theorem dX9_dynasties_95 : decode cX9_dynasties 95 = .ok (.iload 9, 2) := by decide +kernel
theorem dX9_dynasties_97 : decode cX9_dynasties 97 = .ok (.invokevirtual 166, 3) := by decide +kernel
theorem dX9_dynasties_100 : decode cX9_dynasties 100 = .ok (.if_icmp .ge 18, 3) := by decide +kernel
theorem dX9_dynasties_103 : decode cX9_dynasties 103 = .ok (.iload 10, 2) := by decide +kernel
theorem dX9_dynasties_105 : decode cX9_dynasties 105 = .ok (.iload 8, 2) := by decide +kernel
theorem dX9_dynasties_107 : decode cX9_dynasties 107 = .ok (.if_icmp .le 11, 3) := by decide +kernel
theorem dX9_dynasties_110 : decode cX9_dynasties 110 = .ok (.iload 10, 2) := by decide +kernel
theorem dX9_dynasties_112 : decode cX9_dynasties 112 = .ok (.istore 8, 2) := by decide +kernel
theorem dX9_dynasties_114 : decode cX9_dynasties 114 = .ok (.iload 9, 2) := by decide +kernel
theorem dX9_dynasties_116 : decode cX9_dynasties 116 = .ok (.istore 7, 2) := by decide +kernel
theorem dX9_dynasties_118 : decode cX9_dynasties 118 = .ok (.iinc 9 1, 3) := by decide +kernel
theorem dX9_dynasties_121 : decode cX9_dynasties 121 = .ok (.goto (-72), 3) := by decide +kernel
theorem dX9_dynasties_124 : decode cX9_dynasties 124 = .ok (.iload 5, 2) := by decide +kernel
theorem dX9_dynasties_126 : decode cX9_dynasties 126 = .ok (.iload 7, 2) := by decide +kernel
theorem dX9_dynasties_128 : decode cX9_dynasties 128 = .ok (.iconst 1, 1) := by decide +kernel
theorem dX9_dynasties_129 : decode cX9_dynasties 129 = .ok (.iadd, 1) := by decide +kernel
theorem dX9_dynasties_130 : decode cX9_dynasties 130 = .ok (.iadd, 1) := by decide +kernel
theorem dX9_dynasties_131 : decode cX9_dynasties 131 = .ok (.istore 5, 2) := by decide +kernel
theorem dX9_dynasties_133 : decode cX9_dynasties 133 = .ok (.iinc 6 1, 3) := by decide +kernel
theorem dX9_dynasties_136 : decode cX9_dynasties 136 = .ok (.goto (-102), 3) := by decide +kernel
theorem dX9_dynasties_139 : decode cX9_dynasties 139 = .ok (.iload 5, 2) := by decide +kernel
theorem dX9_dynasties_141 : decode cX9_dynasties 141 = .ok (.ireturn, 1) := by decide +kernel
theorem dX9_part_0 : decode cX9_part 0 = .ok (.iload_n 1, 1) := by decide +kernel
theorem dX9_part_1 : decode cX9_part 1 = .ok (.iconst 1, 1) := by decide +kernel
theorem dX9_part_2 : decode cX9_part 2 = .ok (.invokestatic 74, 3) := by decide +kernel
theorem dX9_part_5 : decode cX9_part 5 = .ok (.ifCond .ne 11, 3) := by decide +kernel
theorem dX9_part_8 : decode cX9_part 8 = .ok (.aload_n 0, 1) := by decide +kernel
theorem dX9_part_9 : decode cX9_part 9 = .ok (.bipush (-2), 2) := by decide +kernel
theorem dX9_part_11 : decode cX9_part 11 = .ok (.invokevirtual 78, 3) := by decide +kernel
theorem dX9_part_14 : decode cX9_part 14 = .ok (.i2l, 1) := by decide +kernel
theorem dX9_part_15 : decode cX9_part 15 = .ok (.lreturn, 1) := by decide +kernel
theorem dX9_part_16 : decode cX9_part 16 = .ok (.iload_n 1, 1) := by decide +kernel
theorem dX9_part_17 : decode cX9_part 17 = .ok (.ifCond .ne 10, 3) := by decide +kernel
theorem dX9_part_20 : decode cX9_part 20 = .ok (.aload_n 0, 1) := by decide +kernel
theorem dX9_part_21 : decode cX9_part 21 = .ok (.getfield 60, 3) := by decide +kernel
theorem dX9_part_24 : decode cX9_part 24 = .ok (.goto 7, 3) := by decide +kernel
theorem dX9_part_27 : decode cX9_part 27 = .ok (.aload_n 0, 1) := by decide +kernel
theorem dX9_part_28 : decode cX9_part 28 = .ok (.getfield 64, 3) := by decide +kernel
theorem dX9_part_31 : decode cX9_part 31 = .ok (.lreturn, 1) := by decide +kernel
theorem dX9_image_0 : decode cX9_image 0 = .ok (.iload_n 1, 1) := by decide +kernel
theorem dX9_image_1 : decode cX9_image 1 = .ok (.iconst 1, 1) := by decide +kernel
theorem dX9_image_2 : decode cX9_image 2 = .ok (.invokestatic 74, 3) := by decide +kernel
theorem dX9_image_5 : decode cX9_image 5 = .ok (.ifCond .ne 10, 3) := by decide +kernel
theorem dX9_image_8 : decode cX9_image 8 = .ok (.aload_n 0, 1) := by decide +kernel
theorem dX9_image_9 : decode cX9_image 9 = .ok (.bipush (-2), 2) := by decide +kernel
theorem dX9_image_11 : decode cX9_image 11 = .ok (.invokevirtual 78, 3) := by decide +kernel
theorem dX9_image_14 : decode cX9_image 14 = .ok (.ireturn, 1) := by decide +kernel
theorem dX9_image_15 : decode cX9_image 15 = .ok (.aload_n 0, 1) := by decide +kernel
theorem dX9_image_16 : decode cX9_image 16 = .ok (.getfield 36, 3) := by decide +kernel
theorem dX9_image_19 : decode cX9_image 19 = .ok (.iload_n 1, 1) := by decide +kernel
theorem dX9_image_20 : decode cX9_image 20 = .ok (.aaload, 1) := by decide +kernel
theorem dX9_image_21 : decode cX9_image 21 = .ok (.aload_n 0, 1) := by decide +kernel
theorem dX9_image_22 : decode cX9_image 22 = .ok (.getfield 30, 3) := by decide +kernel
theorem dX9_image_25 : decode cX9_image 25 = .ok (.invokevirtual 111, 3) := by decide +kernel
theorem dX9_image_28 : decode cX9_image 28 = .ok (.aload_n 0, 1) := by decide +kernel
theorem dX9_image_29 : decode cX9_image 29 = .ok (.getfield 40, 3) := by decide +kernel
theorem dX9_image_32 : decode cX9_image 32 = .ok (.iload_n 1, 1) := by decide +kernel
theorem dX9_image_33 : decode cX9_image 33 = .ok (.iconst 1, 1) := by decide +kernel
theorem dX9_image_34 : decode cX9_image 34 = .ok (.bastore, 1) := by decide +kernel
theorem dX9_image_35 : decode cX9_image 35 = .ok (.iconst 1, 1) := by decide +kernel
theorem dX9_image_36 : decode cX9_image 36 = .ok (.ireturn, 1) := by decide +kernel
theorem dX9_from_0 : decode cX9_from 0 = .ok (.iload_n 1, 1) := by decide +kernel
theorem dX9_from_1 : decode cX9_from 1 = .ok (.iconst 1, 1) := by decide +kernel
theorem dX9_from_2 : decode cX9_from 2 = .ok (.invokestatic 74, 3) := by decide +kernel
theorem dX9_from_5 : decode cX9_from 5 = .ok (.ifCond .ne 10, 3) := by decide +kernel
theorem dX9_from_8 : decode cX9_from 8 = .ok (.aload_n 0, 1) := by decide +kernel
theorem dX9_from_9 : decode cX9_from 9 = .ok (.bipush (-2), 2) := by decide +kernel
theorem dX9_from_11 : decode cX9_from 11 = .ok (.invokevirtual 78, 3) := by decide +kernel
theorem dX9_from_14 : decode cX9_from 14 = .ok (.ireturn, 1) := by decide +kernel
theorem dX9_from_15 : decode cX9_from 15 = .ok (.aload_n 0, 1) := by decide +kernel
theorem dX9_from_16 : decode cX9_from 16 = .ok (.getfield 40, 3) := by decide +kernel
theorem dX9_from_19 : decode cX9_from 19 = .ok (.iload_n 1, 1) := by decide +kernel
theorem dX9_from_20 : decode cX9_from 20 = .ok (.baload, 1) := by decide +kernel
theorem dX9_from_21 : decode cX9_from 21 = .ok (.ifCond .ne 8, 3) := by decide +kernel
theorem dX9_from_24 : decode cX9_from 24 = .ok (.aload_n 0, 1) := by decide +kernel
theorem dX9_from_25 : decode cX9_from 25 = .ok (.invokevirtual 133, 3) := by decide +kernel
theorem dX9_from_28 : decode cX9_from 28 = .ok (.ireturn, 1) := by decide +kernel
theorem dX9_from_29 : decode cX9_from 29 = .ok (.aload_n 0, 1) := by decide +kernel
theorem dX9_from_30 : decode cX9_from 30 = .ok (.getfield 30, 3) := by decide +kernel
theorem dX9_from_33 : decode cX9_from 33 = .ok (.aload_n 0, 1) := by decide +kernel
theorem dX9_from_34 : decode cX9_from 34 = .ok (.getfield 36, 3) := by decide +kernel
theorem dX9_from_37 : decode cX9_from 37 = .ok (.iload_n 1, 1) := by decide +kernel
theorem dX9_from_38 : decode cX9_from 38 = .ok (.aaload, 1) := by decide +kernel
theorem dX9_from_39 : decode cX9_from 39 = .ok (.invokevirtual 111, 3) := by decide +kernel
theorem dX9_from_42 : decode cX9_from 42 = .ok (.iconst 1, 1) := by decide +kernel
theorem dX9_from_43 : decode cX9_from 43 = .ok (.ireturn, 1) := by decide +kernel
theorem dX9_status_0 : decode cX9_status 0 = .ok (.iload_n 1, 1) := by decide +kernel
theorem dX9_status_1 : decode cX9_status 1 = .ok (.tableswitch 42 0 2 #[27, 32, 37], 27) := by decide +kernel
theorem dX9_status_28 : decode cX9_status 28 = .ok (.aload_n 0, 1) := by decide +kernel
theorem dX9_status_29 : decode cX9_status 29 = .ok (.getfield 235, 3) := by decide +kernel
theorem dX9_status_32 : decode cX9_status 32 = .ok (.ireturn, 1) := by decide +kernel
theorem dX9_status_33 : decode cX9_status 33 = .ok (.aload_n 0, 1) := by decide +kernel
theorem dX9_status_34 : decode cX9_status 34 = .ok (.getfield 238, 3) := by decide +kernel
theorem dX9_status_37 : decode cX9_status 37 = .ok (.ireturn, 1) := by decide +kernel
theorem dX9_status_38 : decode cX9_status 38 = .ok (.aload_n 0, 1) := by decide +kernel
theorem dX9_status_39 : decode cX9_status 39 = .ok (.getfield 241, 3) := by decide +kernel
theorem dX9_status_42 : decode cX9_status 42 = .ok (.ireturn, 1) := by decide +kernel
theorem dX9_status_43 : decode cX9_status 43 = .ok (.aload_n 0, 1) := by decide +kernel
theorem dX9_status_44 : decode cX9_status 44 = .ok (.iconst (-1), 1) := by decide +kernel
theorem dX9_status_45 : decode cX9_status 45 = .ok (.invokevirtual 78, 3) := by decide +kernel
theorem dX9_status_48 : decode cX9_status 48 = .ok (.ireturn, 1) := by decide +kernel
theorem dX9_count_0 : decode cX9_count 0 = .ok (.iload_n 1, 1) := by decide +kernel
theorem dX9_count_1 : decode cX9_count 1 = .ok (.bipush 6, 2) := by decide +kernel
theorem dX9_count_3 : decode cX9_count 3 = .ok (.invokestatic 74, 3) := by decide +kernel
theorem dX9_count_6 : decode cX9_count 6 = .ok (.ifCond .ne 10, 3) := by decide +kernel
theorem dX9_count_9 : decode cX9_count 9 = .ok (.aload_n 0, 1) := by decide +kernel
theorem dX9_count_10 : decode cX9_count 10 = .ok (.bipush (-2), 2) := by decide +kernel
theorem dX9_count_12 : decode cX9_count 12 = .ok (.invokevirtual 78, 3) := by decide +kernel
theorem dX9_count_15 : decode cX9_count 15 = .ok (.ireturn, 1) := by decide +kernel
theorem dX9_count_16 : decode cX9_count 16 = .ok (.aload_n 0, 1) := by decide +kernel
theorem dX9_count_17 : decode cX9_count 17 = .ok (.iload_n 1, 1) := by decide +kernel
theorem dX9_count_18 : decode cX9_count 18 = .ok (.invokevirtual 244, 3) := by decide +kernel
theorem dX9_count_21 : decode cX9_count 21 = .ok (.ireturn, 1) := by decide +kernel
theorem dX9_digest_0 : decode cX9_digest 0 = .ok (.ldc2_w 247, 3) := by decide +kernel
theorem dX9_digest_3 : decode cX9_digest 3 = .ok (.lstore_n 1, 1) := by decide +kernel
theorem dX9_digest_4 : decode cX9_digest 4 = .ok (.iconst 0, 1) := by decide +kernel
theorem dX9_digest_5 : decode cX9_digest 5 = .ok (.istore_n 3, 1) := by decide +kernel
theorem dX9_digest_6 : decode cX9_digest 6 = .ok (.iload_n 3, 1) := by decide +kernel
theorem dX9_digest_7 : decode cX9_digest 7 = .ok (.bipush 6, 2) := by decide +kernel
theorem dX9_digest_9 : decode cX9_digest 9 = .ok (.if_icmp .gt 22, 3) := by decide +kernel
theorem dX9_digest_12 : decode cX9_digest 12 = .ok (.ldc2_w 249, 3) := by decide +kernel
theorem dX9_digest_15 : decode cX9_digest 15 = .ok (.lload_n 1, 1) := by decide +kernel
theorem dX9_digest_16 : decode cX9_digest 16 = .ok (.lmul, 1) := by decide +kernel
theorem dX9_digest_17 : decode cX9_digest 17 = .ok (.aload_n 0, 1) := by decide +kernel
theorem dX9_digest_18 : decode cX9_digest 18 = .ok (.iload_n 3, 1) := by decide +kernel
theorem dX9_digest_19 : decode cX9_digest 19 = .ok (.invokevirtual 244, 3) := by decide +kernel
theorem dX9_digest_22 : decode cX9_digest 22 = .ok (.i2l, 1) := by decide +kernel
theorem dX9_digest_23 : decode cX9_digest 23 = .ok (.ladd, 1) := by decide +kernel
theorem dX9_digest_24 : decode cX9_digest 24 = .ok (.lstore_n 1, 1) := by decide +kernel
theorem dX9_digest_25 : decode cX9_digest 25 = .ok (.iinc 3 1, 3) := by decide +kernel
theorem dX9_digest_28 : decode cX9_digest 28 = .ok (.goto (-22), 3) := by decide +kernel
theorem dX9_digest_31 : decode cX9_digest 31 = .ok (.aload_n 0, 1) := by decide +kernel
theorem dX9_digest_32 : decode cX9_digest 32 = .ok (.getfield 30, 3) := by decide +kernel
theorem dX9_digest_35 : decode cX9_digest 35 = .ok (.lload_n 1, 1) := by decide +kernel
theorem dX9_digest_36 : decode cX9_digest 36 = .ok (.invokevirtual 251, 3) := by decide +kernel
theorem dX9_digest_39 : decode cX9_digest 39 = .ok (.lstore_n 1, 1) := by decide +kernel
theorem dX9_digest_40 : decode cX9_digest 40 = .ok (.ldc2_w 249, 3) := by decide +kernel
theorem dX9_digest_43 : decode cX9_digest 43 = .ok (.lload_n 1, 1) := by decide +kernel
theorem dX9_digest_44 : decode cX9_digest 44 = .ok (.lmul, 1) := by decide +kernel
theorem dX9_digest_45 : decode cX9_digest 45 = .ok (.aload_n 0, 1) := by decide +kernel
theorem dX9_digest_46 : decode cX9_digest 46 = .ok (.getfield 60, 3) := by decide +kernel
theorem dX9_digest_49 : decode cX9_digest 49 = .ok (.ladd, 1) := by decide +kernel
theorem dX9_digest_50 : decode cX9_digest 50 = .ok (.lstore_n 1, 1) := by decide +kernel
theorem dX9_digest_51 : decode cX9_digest 51 = .ok (.ldc2_w 249, 3) := by decide +kernel
theorem dX9_digest_54 : decode cX9_digest 54 = .ok (.lload_n 1, 1) := by decide +kernel
theorem dX9_digest_55 : decode cX9_digest 55 = .ok (.lmul, 1) := by decide +kernel
theorem dX9_digest_56 : decode cX9_digest 56 = .ok (.aload_n 0, 1) := by decide +kernel
theorem dX9_digest_57 : decode cX9_digest 57 = .ok (.getfield 64, 3) := by decide +kernel
theorem dX9_digest_60 : decode cX9_digest 60 = .ok (.ladd, 1) := by decide +kernel
theorem dX9_digest_61 : decode cX9_digest 61 = .ok (.lreturn, 1) := by decide +kernel
theorem dX9_bad_0 : decode cX9_bad 0 = .ok (.aload_n 0, 1) := by decide +kernel
theorem dX9_bad_1 : decode cX9_bad 1 = .ok (.dup, 1) := by decide +kernel
theorem dX9_bad_2 : decode cX9_bad 2 = .ok (.getfield 235, 3) := by decide +kernel
theorem dX9_bad_5 : decode cX9_bad 5 = .ok (.iconst 1, 1) := by decide +kernel
theorem dX9_bad_6 : decode cX9_bad 6 = .ok (.iadd, 1) := by decide +kernel
theorem dX9_bad_7 : decode cX9_bad 7 = .ok (.putfield 235, 3) := by decide +kernel
theorem dX9_bad_10 : decode cX9_bad 10 = .ok (.iload_n 1, 1) := by decide +kernel
theorem dX9_bad_11 : decode cX9_bad 11 = .ok (.ireturn, 1) := by decide +kernel
theorem dX9_no_0 : decode cX9_no 0 = .ok (.aload_n 0, 1) := by decide +kernel
theorem dX9_no_1 : decode cX9_no 1 = .ok (.dup, 1) := by decide +kernel
theorem dX9_no_2 : decode cX9_no 2 = .ok (.getfield 238, 3) := by decide +kernel
theorem dX9_no_5 : decode cX9_no 5 = .ok (.iconst 1, 1) := by decide +kernel
theorem dX9_no_6 : decode cX9_no 6 = .ok (.iadd, 1) := by decide +kernel
theorem dX9_no_7 : decode cX9_no 7 = .ok (.putfield 238, 3) := by decide +kernel
theorem dX9_no_10 : decode cX9_no 10 = .ok (.bipush (-3), 2) := by decide +kernel
theorem dX9_no_12 : decode cX9_no 12 = .ok (.ireturn, 1) := by decide +kernel
theorem dX9_full_0 : decode cX9_full 0 = .ok (.aload_n 0, 1) := by decide +kernel
theorem dX9_full_1 : decode cX9_full 1 = .ok (.dup, 1) := by decide +kernel
theorem dX9_full_2 : decode cX9_full 2 = .ok (.getfield 241, 3) := by decide +kernel
theorem dX9_full_5 : decode cX9_full 5 = .ok (.iconst 1, 1) := by decide +kernel
theorem dX9_full_6 : decode cX9_full 6 = .ok (.iadd, 1) := by decide +kernel
theorem dX9_full_7 : decode cX9_full 7 = .ok (.putfield 241, 3) := by decide +kernel
theorem dX9_full_10 : decode cX9_full 10 = .ok (.bipush (-4), 2) := by decide +kernel
theorem dX9_full_12 : decode cX9_full 12 = .ok (.ireturn, 1) := by decide +kernel
theorem dX9_isInfant_0 : decode cX9_isInfant 0 = .ok (.iload_n 1, 1) := by decide +kernel
theorem dX9_isInfant_1 : decode cX9_isInfant 1 = .ok (.ifCond .lt 18, 3) := by decide +kernel
theorem dX9_isInfant_4 : decode cX9_isInfant 4 = .ok (.iload_n 1, 1) := by decide +kernel
theorem dX9_isInfant_5 : decode cX9_isInfant 5 = .ok (.aload_n 0, 1) := by decide +kernel
theorem dX9_isInfant_6 : decode cX9_isInfant 6 = .ok (.getfield 30, 3) := by decide +kernel
theorem dX9_isInfant_9 : decode cX9_isInfant 9 = .ok (.getfield 67, 3) := by decide +kernel
theorem dX9_isInfant_12 : decode cX9_isInfant 12 = .ok (.if_icmp .ge 7, 3) := by decide +kernel
theorem dX9_isInfant_15 : decode cX9_isInfant 15 = .ok (.iconst 1, 1) := by decide +kernel
theorem dX9_isInfant_16 : decode cX9_isInfant 16 = .ok (.goto 4, 3) := by decide +kernel
theorem dX9_isInfant_19 : decode cX9_isInfant 19 = .ok (.iconst 0, 1) := by decide +kernel
theorem dX9_isInfant_20 : decode cX9_isInfant 20 = .ok (.ireturn, 1) := by decide +kernel
theorem dX9_tally_0 : decode cX9_tally 0 = .ok (.iload_n 1, 1) := by decide +kernel
theorem dX9_tally_1 : decode cX9_tally 1 = .ok (.tableswitch 90 0 5 #[39, 47, 58, 66, 74, 82], 39) := by decide +kernel
theorem dX9_tally_40 : decode cX9_tally 40 = .ok (.aload_n 0, 1) := by decide +kernel
theorem dX9_tally_41 : decode cX9_tally 41 = .ok (.getfield 30, 3) := by decide +kernel
theorem dX9_tally_44 : decode cX9_tally 44 = .ok (.getfield 67, 3) := by decide +kernel
theorem dX9_tally_47 : decode cX9_tally 47 = .ok (.ireturn, 1) := by decide +kernel
theorem dX9_tally_48 : decode cX9_tally 48 = .ok (.aload_n 0, 1) := by decide +kernel
theorem dX9_tally_49 : decode cX9_tally 49 = .ok (.getfield 30, 3) := by decide +kernel
theorem dX9_tally_52 : decode cX9_tally 52 = .ok (.getfield 136, 3) := by decide +kernel
theorem dX9_tally_55 : decode cX9_tally 55 = .ok (.invokestatic 139, 3) := by decide +kernel
theorem dX9_tally_58 : decode cX9_tally 58 = .ok (.ireturn, 1) := by decide +kernel
theorem dX9_tally_59 : decode cX9_tally 59 = .ok (.aload_n 0, 1) := by decide +kernel
theorem dX9_tally_60 : decode cX9_tally 60 = .ok (.getfield 30, 3) := by decide +kernel
theorem dX9_tally_63 : decode cX9_tally 63 = .ok (.getfield 150, 3) := by decide +kernel
theorem dX9_tally_66 : decode cX9_tally 66 = .ok (.ireturn, 1) := by decide +kernel
theorem dX9_tally_67 : decode cX9_tally 67 = .ok (.aload_n 0, 1) := by decide +kernel
theorem dX9_tally_68 : decode cX9_tally 68 = .ok (.getfield 30, 3) := by decide +kernel
theorem dX9_tally_71 : decode cX9_tally 71 = .ok (.getfield 196, 3) := by decide +kernel
theorem dX9_tally_74 : decode cX9_tally 74 = .ok (.ireturn, 1) := by decide +kernel
theorem dX9_tally_75 : decode cX9_tally 75 = .ok (.aload_n 0, 1) := by decide +kernel
theorem dX9_tally_76 : decode cX9_tally 76 = .ok (.getfield 30, 3) := by decide +kernel
theorem dX9_tally_79 : decode cX9_tally 79 = .ok (.getfield 203, 3) := by decide +kernel
theorem dX9_tally_82 : decode cX9_tally 82 = .ok (.ireturn, 1) := by decide +kernel
theorem dX9_tally_83 : decode cX9_tally 83 = .ok (.aload_n 0, 1) := by decide +kernel
theorem dX9_tally_84 : decode cX9_tally 84 = .ok (.getfield 30, 3) := by decide +kernel
theorem dX9_tally_87 : decode cX9_tally 87 = .ok (.getfield 144, 3) := by decide +kernel
theorem dX9_tally_90 : decode cX9_tally 90 = .ok (.ireturn, 1) := by decide +kernel
theorem dX9_tally_91 : decode cX9_tally 91 = .ok (.aload_n 0, 1) := by decide +kernel
theorem dX9_tally_92 : decode cX9_tally 92 = .ok (.getfield 49, 3) := by decide +kernel
theorem dX9_tally_95 : decode cX9_tally 95 = .ok (.getfield 98, 3) := by decide +kernel
theorem dX9_tally_98 : decode cX9_tally 98 = .ok (.ireturn, 1) := by decide +kernel
theorem dX9_within_0 : decode cX9_within 0 = .ok (.iload_n 0, 1) := by decide +kernel
theorem dX9_within_1 : decode cX9_within 1 = .ok (.ifCond .lt 12, 3) := by decide +kernel
theorem dX9_within_4 : decode cX9_within 4 = .ok (.iload_n 0, 1) := by decide +kernel
theorem dX9_within_5 : decode cX9_within 5 = .ok (.iload_n 1, 1) := by decide +kernel
theorem dX9_within_6 : decode cX9_within 6 = .ok (.if_icmp .gt 7, 3) := by decide +kernel
theorem dX9_within_9 : decode cX9_within 9 = .ok (.iconst 1, 1) := by decide +kernel
theorem dX9_within_10 : decode cX9_within 10 = .ok (.goto 4, 3) := by decide +kernel
theorem dX9_within_13 : decode cX9_within 13 = .ok (.iconst 0, 1) := by decide +kernel
theorem dX9_within_14 : decode cX9_within 14 = .ok (.ireturn, 1) := by decide +kernel
theorem dX9_bit_0 : decode cX9_bit 0 = .ok (.iload_n 0, 1) := by decide +kernel
theorem dX9_bit_1 : decode cX9_bit 1 = .ok (.ifCond .eq 7, 3) := by decide +kernel
theorem dX9_bit_4 : decode cX9_bit 4 = .ok (.iconst 1, 1) := by decide +kernel
theorem dX9_bit_5 : decode cX9_bit 5 = .ok (.goto 4, 3) := by decide +kernel
theorem dX9_bit_8 : decode cX9_bit 8 = .ok (.iconst 0, 1) := by decide +kernel
theorem dX9_bit_9 : decode cX9_bit 9 = .ok (.ireturn, 1) := by decide +kernel
theorem dX9_contentWith_0 : decode cX9_contentWith 0 = .ok (.iload_n 0, 1) := by decide +kernel
theorem dX9_contentWith_1 : decode cX9_contentWith 1 = .ok (.iload_n 1, 1) := by decide +kernel
theorem dX9_contentWith_2 : decode cX9_contentWith 2 = .ok (.iload_n 2, 1) := by decide +kernel
theorem dX9_contentWith_3 : decode cX9_contentWith 3 = .ok (.invokestatic 255, 3) := by decide +kernel
theorem dX9_contentWith_6 : decode cX9_contentWith 6 = .ok (.iload_n 0, 1) := by decide +kernel
theorem dX9_contentWith_7 : decode cX9_contentWith 7 = .ok (.iconst 1, 1) := by decide +kernel
theorem dX9_contentWith_8 : decode cX9_contentWith 8 = .ok (.iload_n 1, 1) := by decide +kernel
theorem dX9_contentWith_9 : decode cX9_contentWith 9 = .ok (.isub, 1) := by decide +kernel
theorem dX9_contentWith_10 : decode cX9_contentWith 10 = .ok (.iload_n 2, 1) := by decide +kernel
theorem dX9_contentWith_11 : decode cX9_contentWith 11 = .ok (.invokestatic 255, 3) := by decide +kernel
theorem dX9_contentWith_14 : decode cX9_contentWith 14 = .ok (.if_icmp .lt 7, 3) := by decide +kernel
theorem dX9_contentWith_17 : decode cX9_contentWith 17 = .ok (.iconst 1, 1) := by decide +kernel
theorem dX9_contentWith_18 : decode cX9_contentWith 18 = .ok (.goto 4, 3) := by decide +kernel
theorem dX9_contentWith_21 : decode cX9_contentWith 21 = .ok (.iconst 0, 1) := by decide +kernel
theorem dX9_contentWith_22 : decode cX9_contentWith 22 = .ok (.ireturn, 1) := by decide +kernel
theorem dX9_gain_0 : decode cX9_gain 0 = .ok (.iload_n 0, 1) := by decide +kernel
theorem dX9_gain_1 : decode cX9_gain 1 = .ok (.iconst 2, 1) := by decide +kernel
theorem dX9_gain_2 : decode cX9_gain 2 = .ok (.iload_n 1, 1) := by decide +kernel
theorem dX9_gain_3 : decode cX9_gain 3 = .ok (.iload_n 2, 1) := by decide +kernel
theorem dX9_gain_4 : decode cX9_gain 4 = .ok (.iadd, 1) := by decide +kernel
theorem dX9_gain_5 : decode cX9_gain 5 = .ok (.imul, 1) := by decide +kernel
theorem dX9_gain_6 : decode cX9_gain 6 = .ok (.iadd, 1) := by decide +kernel
theorem dX9_gain_7 : decode cX9_gain 7 = .ok (.istore_n 3, 1) := by decide +kernel
theorem dX9_gain_8 : decode cX9_gain 8 = .ok (.iload_n 1, 1) := by decide +kernel
theorem dX9_gain_9 : decode cX9_gain 9 = .ok (.ifCond .ne 11, 3) := by decide +kernel
theorem dX9_gain_12 : decode cX9_gain 12 = .ok (.iconst 3, 1) := by decide +kernel
theorem dX9_gain_13 : decode cX9_gain 13 = .ok (.iload_n 3, 1) := by decide +kernel
theorem dX9_gain_14 : decode cX9_gain 14 = .ok (.iconst 2, 1) := by decide +kernel
theorem dX9_gain_15 : decode cX9_gain 15 = .ok (.idiv, 1) := by decide +kernel
theorem dX9_gain_16 : decode cX9_gain 16 = .ok (.isub, 1) := by decide +kernel
theorem dX9_gain_17 : decode cX9_gain 17 = .ok (.goto 6, 3) := by decide +kernel
theorem dX9_gain_20 : decode cX9_gain 20 = .ok (.iconst 4, 1) := by decide +kernel
theorem dX9_gain_21 : decode cX9_gain 21 = .ok (.iload_n 3, 1) := by decide +kernel
theorem dX9_gain_22 : decode cX9_gain 22 = .ok (.isub, 1) := by decide +kernel
theorem dX9_gain_23 : decode cX9_gain 23 = .ok (.ireturn, 1) := by decide +kernel
theorem dX9_setPower_0 : decode cX9_setPower 0 = .ok (.iload_n 1, 1) := by decide +kernel
theorem dX9_setPower_1 : decode cX9_setPower 1 = .ok (.invokestatic 258, 3) := by decide +kernel
theorem dX9_setPower_4 : decode cX9_setPower 4 = .ok (.istore_n 3, 1) := by decide +kernel
theorem dX9_setPower_5 : decode cX9_setPower 5 = .ok (.aload_n 0, 1) := by decide +kernel
theorem dX9_setPower_6 : decode cX9_setPower 6 = .ok (.lconst 1, 1) := by decide +kernel
theorem dX9_setPower_7 : decode cX9_setPower 7 = .ok (.putfield 60, 3) := by decide +kernel
theorem dX9_setPower_10 : decode cX9_setPower 10 = .ok (.aload_n 0, 1) := by decide +kernel
theorem dX9_setPower_11 : decode cX9_setPower 11 = .ok (.lconst 1, 1) := by decide +kernel
theorem dX9_setPower_12 : decode cX9_setPower 12 = .ok (.putfield 64, 3) := by decide +kernel
theorem dX9_setPower_15 : decode cX9_setPower 15 = .ok (.iconst 0, 1) := by decide +kernel
theorem dX9_setPower_16 : decode cX9_setPower 16 = .ok (.istore 4, 2) := by decide +kernel
theorem dX9_setPower_18 : decode cX9_setPower 18 = .ok (.iload 4, 2) := by decide +kernel
theorem dX9_setPower_20 : decode cX9_setPower 20 = .ok (.iload_n 2, 1) := by decide +kernel
theorem dX9_setPower_21 : decode cX9_setPower 21 = .ok (.if_icmp .ge 36, 3) := by decide +kernel
theorem dX9_setPower_24 : decode cX9_setPower 24 = .ok (.aload_n 0, 1) := by decide +kernel
theorem dX9_setPower_25 : decode cX9_setPower 25 = .ok (.dup, 1) := by decide +kernel
theorem dX9_setPower_26 : decode cX9_setPower 26 = .ok (.getfield 60, 3) := by decide +kernel
theorem dX9_setPower_29 : decode cX9_setPower 29 = .ok (.iload_n 1, 1) := by decide +kernel
theorem dX9_setPower_30 : decode cX9_setPower 30 = .ok (.iload_n 3, 1) := by decide +kernel
theorem dX9_setPower_31 : decode cX9_setPower 31 = .ok (.idiv, 1) := by decide +kernel
theorem dX9_setPower_32 : decode cX9_setPower 32 = .ok (.i2l, 1) := by decide +kernel
theorem dX9_setPower_33 : decode cX9_setPower 33 = .ok (.lmul, 1) := by decide +kernel
theorem dX9_setPower_34 : decode cX9_setPower 34 = .ok (.putfield 60, 3) := by decide +kernel
theorem dX9_setPower_37 : decode cX9_setPower 37 = .ok (.aload_n 0, 1) := by decide +kernel
theorem dX9_setPower_38 : decode cX9_setPower 38 = .ok (.dup, 1) := by decide +kernel
theorem dX9_setPower_39 : decode cX9_setPower 39 = .ok (.getfield 64, 3) := by decide +kernel
theorem dX9_setPower_42 : decode cX9_setPower 42 = .ok (.bipush 10, 2) := by decide +kernel
theorem dX9_setPower_44 : decode cX9_setPower 44 = .ok (.iload_n 3, 1) := by decide +kernel
theorem dX9_setPower_45 : decode cX9_setPower 45 = .ok (.idiv, 1) := by decide +kernel
theorem dX9_setPower_46 : decode cX9_setPower 46 = .ok (.i2l, 1) := by decide +kernel
theorem dX9_setPower_47 : decode cX9_setPower 47 = .ok (.lmul, 1) := by decide +kernel
theorem dX9_setPower_48 : decode cX9_setPower 48 = .ok (.putfield 64, 3) := by decide +kernel
theorem dX9_setPower_51 : decode cX9_setPower 51 = .ok (.iinc 4 1, 3) := by decide +kernel
theorem dX9_setPower_54 : decode cX9_setPower 54 = .ok (.goto (-36), 3) := by decide +kernel
theorem dX9_setPower_57 : decode cX9_setPower 57 = .ok (.return_, 1) := by decide +kernel
theorem dX9_commonWithTen_0 : decode cX9_commonWithTen 0 = .ok (.iload_n 0, 1) := by decide +kernel
theorem dX9_commonWithTen_1 : decode cX9_commonWithTen 1 = .ok (.bipush 10, 2) := by decide +kernel
theorem dX9_commonWithTen_3 : decode cX9_commonWithTen 3 = .ok (.irem, 1) := by decide +kernel
theorem dX9_commonWithTen_4 : decode cX9_commonWithTen 4 = .ok (.ifCond .ne 6, 3) := by decide +kernel
theorem dX9_commonWithTen_7 : decode cX9_commonWithTen 7 = .ok (.bipush 10, 2) := by decide +kernel
theorem dX9_commonWithTen_9 : decode cX9_commonWithTen 9 = .ok (.ireturn, 1) := by decide +kernel
theorem dX9_commonWithTen_10 : decode cX9_commonWithTen 10 = .ok (.iload_n 0, 1) := by decide +kernel
theorem dX9_commonWithTen_11 : decode cX9_commonWithTen 11 = .ok (.iconst 5, 1) := by decide +kernel
theorem dX9_commonWithTen_12 : decode cX9_commonWithTen 12 = .ok (.irem, 1) := by decide +kernel
theorem dX9_commonWithTen_13 : decode cX9_commonWithTen 13 = .ok (.ifCond .ne 5, 3) := by decide +kernel
theorem dX9_commonWithTen_16 : decode cX9_commonWithTen 16 = .ok (.iconst 5, 1) := by decide +kernel
theorem dX9_commonWithTen_17 : decode cX9_commonWithTen 17 = .ok (.ireturn, 1) := by decide +kernel
theorem dX9_commonWithTen_18 : decode cX9_commonWithTen 18 = .ok (.iload_n 0, 1) := by decide +kernel
theorem dX9_commonWithTen_19 : decode cX9_commonWithTen 19 = .ok (.iconst 2, 1) := by decide +kernel
theorem dX9_commonWithTen_20 : decode cX9_commonWithTen 20 = .ok (.irem, 1) := by decide +kernel
theorem dX9_commonWithTen_21 : decode cX9_commonWithTen 21 = .ok (.ifCond .ne 7, 3) := by decide +kernel
theorem dX9_commonWithTen_24 : decode cX9_commonWithTen 24 = .ok (.iconst 2, 1) := by decide +kernel
theorem dX9_commonWithTen_25 : decode cX9_commonWithTen 25 = .ok (.goto 4, 3) := by decide +kernel
theorem dX9_commonWithTen_28 : decode cX9_commonWithTen 28 = .ok (.iconst 1, 1) := by decide +kernel
theorem dX9_commonWithTen_29 : decode cX9_commonWithTen 29 = .ok (.ireturn, 1) := by decide +kernel
