theorem dX1_init_0 : decode cX1_init 0 = .ok (.aload_n 0, 1) := by decide +kernel
theorem dX1_init_1 : decode cX1_init 1 = .ok (.invokespecial 3, 3) := by decide +kernel
theorem dX1_init_4 : decode cX1_init 4 = .ok (.aload_n 0, 1) := by decide +kernel
theorem dX1_init_5 : decode cX1_init 5 = .ok (.bipush 6, 2) := by decide +kernel
theorem dX1_init_7 : decode cX1_init 7 = .ok (.newarray .int, 2) := by decide +kernel
theorem dX1_init_9 : decode cX1_init 9 = .ok (.putfield 9, 3) := by decide +kernel
theorem dX1_init_12 : decode cX1_init 12 = .ok (.aload_n 0, 1) := by decide +kernel
theorem dX1_init_13 : decode cX1_init 13 = .ok (.bipush 6, 2) := by decide +kernel
theorem dX1_init_15 : decode cX1_init 15 = .ok (.newarray .int, 2) := by decide +kernel
theorem dX1_init_17 : decode cX1_init 17 = .ok (.putfield 15, 3) := by decide +kernel
theorem dX1_init_20 : decode cX1_init 20 = .ok (.aload_n 0, 1) := by decide +kernel
theorem dX1_init_21 : decode cX1_init 21 = .ok (.bipush 6, 2) := by decide +kernel
theorem dX1_init_23 : decode cX1_init 23 = .ok (.newarray .int, 2) := by decide +kernel
theorem dX1_init_25 : decode cX1_init 25 = .ok (.putfield 18, 3) := by decide +kernel
theorem dX1_init_28 : decode cX1_init 28 = .ok (.aload_n 0, 1) := by decide +kernel
theorem dX1_init_29 : decode cX1_init 29 = .ok (.bipush 6, 2) := by decide +kernel
theorem dX1_init_31 : decode cX1_init 31 = .ok (.newarray .int, 2) := by decide +kernel
theorem dX1_init_33 : decode cX1_init 33 = .ok (.putfield 21, 3) := by decide +kernel
theorem dX1_init_36 : decode cX1_init 36 = .ok (.aload_n 0, 1) := by decide +kernel
theorem dX1_init_37 : decode cX1_init 37 = .ok (.bipush 6, 2) := by decide +kernel
theorem dX1_init_39 : decode cX1_init 39 = .ok (.newarray .int, 2) := by decide +kernel
theorem dX1_init_41 : decode cX1_init 41 = .ok (.putfield 24, 3) := by decide +kernel
theorem dX1_init_44 : decode cX1_init 44 = .ok (.aload_n 0, 1) := by decide +kernel
theorem dX1_init_45 : decode cX1_init 45 = .ok (.bipush 30, 2) := by decide +kernel
theorem dX1_init_47 : decode cX1_init 47 = .ok (.newarray .int, 2) := by decide +kernel
theorem dX1_init_49 : decode cX1_init 49 = .ok (.putfield 27, 3) := by decide +kernel
theorem dX1_init_52 : decode cX1_init 52 = .ok (.aload_n 0, 1) := by decide +kernel
theorem dX1_init_53 : decode cX1_init 53 = .ok (.bipush 12, 2) := by decide +kernel
theorem dX1_init_55 : decode cX1_init 55 = .ok (.newarray .int, 2) := by decide +kernel
theorem dX1_init_57 : decode cX1_init 57 = .ok (.putfield 30, 3) := by decide +kernel
theorem dX1_init_60 : decode cX1_init 60 = .ok (.aload_n 0, 1) := by decide +kernel
theorem dX1_init_61 : decode cX1_init 61 = .ok (.bipush 112, 2) := by decide +kernel
theorem dX1_init_63 : decode cX1_init 63 = .ok (.newarray .int, 2) := by decide +kernel
theorem dX1_init_65 : decode cX1_init 65 = .ok (.putfield 33, 3) := by decide +kernel
theorem dX1_init_68 : decode cX1_init 68 = .ok (.aload_n 0, 1) := by decide +kernel
theorem dX1_init_69 : decode cX1_init 69 = .ok (.aload_n 1, 1) := by decide +kernel
theorem dX1_init_70 : decode cX1_init 70 = .ok (.putfield 36, 3) := by decide +kernel
theorem dX1_init_73 : decode cX1_init 73 = .ok (.return_, 1) := by decide +kernel
theorem dX1_begin_0 : decode cX1_begin 0 = .ok (.aload_n 0, 1) := by decide +kernel
theorem dX1_begin_1 : decode cX1_begin 1 = .ok (.iconst 0, 1) := by decide +kernel
theorem dX1_begin_2 : decode cX1_begin 2 = .ok (.putfield 40, 3) := by decide +kernel
theorem dX1_begin_5 : decode cX1_begin 5 = .ok (.aload_n 0, 1) := by decide +kernel
theorem dX1_begin_6 : decode cX1_begin 6 = .ok (.iconst 0, 1) := by decide +kernel
theorem dX1_begin_7 : decode cX1_begin 7 = .ok (.putfield 44, 3) := by decide +kernel
theorem dX1_begin_10 : decode cX1_begin 10 = .ok (.aload_n 0, 1) := by decide +kernel
theorem dX1_begin_11 : decode cX1_begin 11 = .ok (.iconst 0, 1) := by decide +kernel
theorem dX1_begin_12 : decode cX1_begin 12 = .ok (.putfield 47, 3) := by decide +kernel
theorem dX1_begin_15 : decode cX1_begin 15 = .ok (.aload_n 0, 1) := by decide +kernel
theorem dX1_begin_16 : decode cX1_begin 16 = .ok (.iconst 0, 1) := by decide +kernel
theorem dX1_begin_17 : decode cX1_begin 17 = .ok (.putfield 50, 3) := by decide +kernel
theorem dX1_begin_20 : decode cX1_begin 20 = .ok (.aload_n 0, 1) := by decide +kernel
theorem dX1_begin_21 : decode cX1_begin 21 = .ok (.iconst 0, 1) := by decide +kernel
theorem dX1_begin_22 : decode cX1_begin 22 = .ok (.putfield 53, 3) := by decide +kernel
theorem dX1_begin_25 : decode cX1_begin 25 = .ok (.aload_n 0, 1) := by decide +kernel
theorem dX1_begin_26 : decode cX1_begin 26 = .ok (.iconst 0, 1) := by decide +kernel
theorem dX1_begin_27 : decode cX1_begin 27 = .ok (.putfield 56, 3) := by decide +kernel
theorem dX1_begin_30 : decode cX1_begin 30 = .ok (.aload_n 0, 1) := by decide +kernel
theorem dX1_begin_31 : decode cX1_begin 31 = .ok (.getfield 24, 3) := by decide +kernel
theorem dX1_begin_34 : decode cX1_begin 34 = .ok (.iconst 0, 1) := by decide +kernel
theorem dX1_begin_35 : decode cX1_begin 35 = .ok (.invokestatic 59, 3) := by decide +kernel
theorem dX1_begin_38 : decode cX1_begin 38 = .ok (.return_, 1) := by decide +kernel
theorem dX1_copyFrom_0 : decode cX1_copyFrom 0 = .ok (.aload_n 1, 1) := by decide +kernel
theorem dX1_copyFrom_1 : decode cX1_copyFrom 1 = .ok (.getfield 9, 3) := by decide +kernel
theorem dX1_copyFrom_4 : decode cX1_copyFrom 4 = .ok (.iconst 0, 1) := by decide +kernel
theorem dX1_copyFrom_5 : decode cX1_copyFrom 5 = .ok (.aload_n 0, 1) := by decide +kernel
theorem dX1_copyFrom_6 : decode cX1_copyFrom 6 = .ok (.getfield 9, 3) := by decide +kernel
theorem dX1_copyFrom_9 : decode cX1_copyFrom 9 = .ok (.iconst 0, 1) := by decide +kernel
theorem dX1_copyFrom_10 : decode cX1_copyFrom 10 = .ok (.bipush 6, 2) := by decide +kernel
theorem dX1_copyFrom_12 : decode cX1_copyFrom 12 = .ok (.invokestatic 65, 3) := by decide +kernel
theorem dX1_copyFrom_15 : decode cX1_copyFrom 15 = .ok (.aload_n 1, 1) := by decide +kernel
theorem dX1_copyFrom_16 : decode cX1_copyFrom 16 = .ok (.getfield 15, 3) := by decide +kernel
theorem dX1_copyFrom_19 : decode cX1_copyFrom 19 = .ok (.iconst 0, 1) := by decide +kernel
theorem dX1_copyFrom_20 : decode cX1_copyFrom 20 = .ok (.aload_n 0, 1) := by decide +kernel
theorem dX1_copyFrom_21 : decode cX1_copyFrom 21 = .ok (.getfield 15, 3) := by decide +kernel
theorem dX1_copyFrom_24 : decode cX1_copyFrom 24 = .ok (.iconst 0, 1) := by decide +kernel
theorem dX1_copyFrom_25 : decode cX1_copyFrom 25 = .ok (.bipush 6, 2) := by decide +kernel
theorem dX1_copyFrom_27 : decode cX1_copyFrom 27 = .ok (.invokestatic 65, 3) := by decide +kernel
theorem dX1_copyFrom_30 : decode cX1_copyFrom 30 = .ok (.aload_n 1, 1) := by decide +kernel
theorem dX1_copyFrom_31 : decode cX1_copyFrom 31 = .ok (.getfield 18, 3) := by decide +kernel
theorem dX1_copyFrom_34 : decode cX1_copyFrom 34 = .ok (.iconst 0, 1) := by decide +kernel
theorem dX1_copyFrom_35 : decode cX1_copyFrom 35 = .ok (.aload_n 0, 1) := by decide +kernel
theorem dX1_copyFrom_36 : decode cX1_copyFrom 36 = .ok (.getfield 18, 3) := by decide +kernel
theorem dX1_copyFrom_39 : decode cX1_copyFrom 39 = .ok (.iconst 0, 1) := by decide +kernel
theorem dX1_copyFrom_40 : decode cX1_copyFrom 40 = .ok (.bipush 6, 2) := by decide +kernel
theorem dX1_copyFrom_42 : decode cX1_copyFrom 42 = .ok (.invokestatic 65, 3) := by decide +kernel
theorem dX1_copyFrom_45 : decode cX1_copyFrom 45 = .ok (.aload_n 1, 1) := by decide +kernel
theorem dX1_copyFrom_46 : decode cX1_copyFrom 46 = .ok (.getfield 21, 3) := by decide +kernel
theorem dX1_copyFrom_49 : decode cX1_copyFrom 49 = .ok (.iconst 0, 1) := by decide +kernel
theorem dX1_copyFrom_50 : decode cX1_copyFrom 50 = .ok (.aload_n 0, 1) := by decide +kernel
theorem dX1_copyFrom_51 : decode cX1_copyFrom 51 = .ok (.getfield 21, 3) := by decide +kernel
theorem dX1_copyFrom_54 : decode cX1_copyFrom 54 = .ok (.iconst 0, 1) := by decide +kernel
theorem dX1_copyFrom_55 : decode cX1_copyFrom 55 = .ok (.bipush 6, 2) := by decide +kernel
theorem dX1_copyFrom_57 : decode cX1_copyFrom 57 = .ok (.invokestatic 65, 3) := by decide +kernel
theorem dX1_copyFrom_60 : decode cX1_copyFrom 60 = .ok (.aload_n 1, 1) := by decide +kernel
theorem dX1_copyFrom_61 : decode cX1_copyFrom 61 = .ok (.getfield 24, 3) := by decide +kernel
theorem dX1_copyFrom_64 : decode cX1_copyFrom 64 = .ok (.iconst 0, 1) := by decide +kernel
theorem dX1_copyFrom_65 : decode cX1_copyFrom 65 = .ok (.aload_n 0, 1) := by decide +kernel
theorem dX1_copyFrom_66 : decode cX1_copyFrom 66 = .ok (.getfield 24, 3) := by decide +kernel
theorem dX1_copyFrom_69 : decode cX1_copyFrom 69 = .ok (.iconst 0, 1) := by decide +kernel
theorem dX1_copyFrom_70 : decode cX1_copyFrom 70 = .ok (.bipush 6, 2) := by decide +kernel
theorem dX1_copyFrom_72 : decode cX1_copyFrom 72 = .ok (.invokestatic 65, 3) := by decide +kernel
theorem dX1_copyFrom_75 : decode cX1_copyFrom 75 = .ok (.aload_n 1, 1) := by decide +kernel
theorem dX1_copyFrom_76 : decode cX1_copyFrom 76 = .ok (.getfield 27, 3) := by decide +kernel
theorem dX1_copyFrom_79 : decode cX1_copyFrom 79 = .ok (.iconst 0, 1) := by decide +kernel
theorem dX1_copyFrom_80 : decode cX1_copyFrom 80 = .ok (.aload_n 0, 1) := by decide +kernel
theorem dX1_copyFrom_81 : decode cX1_copyFrom 81 = .ok (.getfield 27, 3) := by decide +kernel
theorem dX1_copyFrom_84 : decode cX1_copyFrom 84 = .ok (.iconst 0, 1) := by decide +kernel
theorem dX1_copyFrom_85 : decode cX1_copyFrom 85 = .ok (.bipush 30, 2) := by decide +kernel
theorem dX1_copyFrom_87 : decode cX1_copyFrom 87 = .ok (.invokestatic 65, 3) := by decide +kernel
theorem dX1_copyFrom_90 : decode cX1_copyFrom 90 = .ok (.aload_n 1, 1) := by decide +kernel
theorem dX1_copyFrom_91 : decode cX1_copyFrom 91 = .ok (.getfield 30, 3) := by decide +kernel
theorem dX1_copyFrom_94 : decode cX1_copyFrom 94 = .ok (.iconst 0, 1) := by decide +kernel
theorem dX1_copyFrom_95 : decode cX1_copyFrom 95 = .ok (.aload_n 0, 1) := by decide +kernel
theorem dX1_copyFrom_96 : decode cX1_copyFrom 96 = .ok (.getfield 30, 3) := by decide +kernel
theorem dX1_copyFrom_99 : decode cX1_copyFrom 99 = .ok (.iconst 0, 1) := by decide +kernel
theorem dX1_copyFrom_100 : decode cX1_copyFrom 100 = .ok (.bipush 12, 2) := by decide +kernel
theorem dX1_copyFrom_102 : decode cX1_copyFrom 102 = .ok (.invokestatic 65, 3) := by decide +kernel
theorem dX1_copyFrom_105 : decode cX1_copyFrom 105 = .ok (.aload_n 1, 1) := by decide +kernel
theorem dX1_copyFrom_106 : decode cX1_copyFrom 106 = .ok (.getfield 33, 3) := by decide +kernel
theorem dX1_copyFrom_109 : decode cX1_copyFrom 109 = .ok (.iconst 0, 1) := by decide +kernel
theorem dX1_copyFrom_110 : decode cX1_copyFrom 110 = .ok (.aload_n 0, 1) := by decide +kernel
theorem dX1_copyFrom_111 : decode cX1_copyFrom 111 = .ok (.getfield 33, 3) := by decide +kernel
theorem dX1_copyFrom_114 : decode cX1_copyFrom 114 = .ok (.iconst 0, 1) := by decide +kernel
theorem dX1_copyFrom_115 : decode cX1_copyFrom 115 = .ok (.bipush 112, 2) := by decide +kernel
theorem dX1_copyFrom_117 : decode cX1_copyFrom 117 = .ok (.invokestatic 65, 3) := by decide +kernel
theorem dX1_copyFrom_120 : decode cX1_copyFrom 120 = .ok (.aload_n 0, 1) := by decide +kernel
theorem dX1_copyFrom_121 : decode cX1_copyFrom 121 = .ok (.aload_n 1, 1) := by decide +kernel
theorem dX1_copyFrom_122 : decode cX1_copyFrom 122 = .ok (.getfield 40, 3) := by decide +kernel
theorem dX1_copyFrom_125 : decode cX1_copyFrom 125 = .ok (.putfield 40, 3) := by decide +kernel
theorem dX1_copyFrom_128 : decode cX1_copyFrom 128 = .ok (.aload_n 0, 1) := by decide +kernel
theorem dX1_copyFrom_129 : decode cX1_copyFrom 129 = .ok (.aload_n 1, 1) := by decide +kernel
theorem dX1_copyFrom_130 : decode cX1_copyFrom 130 = .ok (.getfield 44, 3) := by decide +kernel
theorem dX1_copyFrom_133 : decode cX1_copyFrom 133 = .ok (.putfield 44, 3) := by decide +kernel
theorem dX1_copyFrom_136 : decode cX1_copyFrom 136 = .ok (.aload_n 0, 1) := by decide +kernel
theorem dX1_copyFrom_137 : decode cX1_copyFrom 137 = .ok (.aload_n 1, 1) := by decide +kernel
theorem dX1_copyFrom_138 : decode cX1_copyFrom 138 = .ok (.getfield 47, 3) := by decide +kernel
theorem dX1_copyFrom_141 : decode cX1_copyFrom 141 = .ok (.putfield 47, 3) := by decide +kernel
theorem dX1_copyFrom_144 : decode cX1_copyFrom 144 = .ok (.aload_n 0, 1) := by decide +kernel
theorem dX1_copyFrom_145 : decode cX1_copyFrom 145 = .ok (.aload_n 1, 1) := by decide +kernel
theorem dX1_copyFrom_146 : decode cX1_copyFrom 146 = .ok (.getfield 50, 3) := by decide +kernel
theorem dX1_copyFrom_149 : decode cX1_copyFrom 149 = .ok (.putfield 50, 3) := by decide +kernel
theorem dX1_copyFrom_152 : decode cX1_copyFrom 152 = .ok (.aload_n 0, 1) := by decide +kernel
theorem dX1_copyFrom_153 : decode cX1_copyFrom 153 = .ok (.aload_n 1, 1) := by decide +kernel
theorem dX1_copyFrom_154 : decode cX1_copyFrom 154 = .ok (.getfield 53, 3) := by decide +kernel
theorem dX1_copyFrom_157 : decode cX1_copyFrom 157 = .ok (.putfield 53, 3) := by decide +kernel
theorem dX1_copyFrom_160 : decode cX1_copyFrom 160 = .ok (.aload_n 0, 1) := by decide +kernel
theorem dX1_copyFrom_161 : decode cX1_copyFrom 161 = .ok (.aload_n 1, 1) := by decide +kernel
theorem dX1_copyFrom_162 : decode cX1_copyFrom 162 = .ok (.getfield 56, 3) := by decide +kernel
theorem dX1_copyFrom_165 : decode cX1_copyFrom 165 = .ok (.putfield 56, 3) := by decide +kernel
theorem dX1_copyFrom_168 : decode cX1_copyFrom 168 = .ok (.return_, 1) := by decide +kernel
theorem dX1_add_0 : decode cX1_add 0 = .ok (.aload_n 0, 1) := by decide +kernel
theorem dX1_add_1 : decode cX1_add 1 = .ok (.getfield 40, 3) := by decide +kernel
theorem dX1_add_4 : decode cX1_add 4 = .ok (.istore 4, 2) := by decide +kernel
theorem dX1_add_6 : decode cX1_add 6 = .ok (.iload 4, 2) := by decide +kernel
theorem dX1_add_8 : decode cX1_add 8 = .ok (.bipush 6, 2) := by decide +kernel
theorem dX1_add_10 : decode cX1_add 10 = .ok (.if_icmp .lt 4, 3) := by decide +kernel
theorem dX1_add_13 : decode cX1_add 13 = .ok (.return_, 1) := by decide +kernel
theorem dX1_add_14 : decode cX1_add 14 = .ok (.aload_n 0, 1) := by decide +kernel
theorem dX1_add_15 : decode cX1_add 15 = .ok (.getfield 9, 3) := by decide +kernel
theorem dX1_add_18 : decode cX1_add 18 = .ok (.iload 4, 2) := by decide +kernel
theorem dX1_add_20 : decode cX1_add 20 = .ok (.iload_n 1, 1) := by decide +kernel
theorem dX1_add_21 : decode cX1_add 21 = .ok (.iastore, 1) := by decide +kernel
theorem dX1_add_22 : decode cX1_add 22 = .ok (.aload_n 0, 1) := by decide +kernel
theorem dX1_add_23 : decode cX1_add 23 = .ok (.getfield 15, 3) := by decide +kernel
theorem dX1_add_26 : decode cX1_add 26 = .ok (.iload 4, 2) := by decide +kernel
theorem dX1_add_28 : decode cX1_add 28 = .ok (.iload_n 2, 1) := by decide +kernel
theorem dX1_add_29 : decode cX1_add 29 = .ok (.iastore, 1) := by decide +kernel
theorem dX1_add_30 : decode cX1_add 30 = .ok (.aload_n 0, 1) := by decide +kernel
theorem dX1_add_31 : decode cX1_add 31 = .ok (.getfield 18, 3) := by decide +kernel
theorem dX1_add_34 : decode cX1_add 34 = .ok (.iload 4, 2) := by decide +kernel
theorem dX1_add_36 : decode cX1_add 36 = .ok (.iload_n 3, 1) := by decide +kernel
theorem dX1_add_37 : decode cX1_add 37 = .ok (.iastore, 1) := by decide +kernel
theorem dX1_add_38 : decode cX1_add 38 = .ok (.aload_n 0, 1) := by decide +kernel
theorem dX1_add_39 : decode cX1_add 39 = .ok (.getfield 21, 3) := by decide +kernel
theorem dX1_add_42 : decode cX1_add 42 = .ok (.iload 4, 2) := by decide +kernel
theorem dX1_add_44 : decode cX1_add 44 = .ok (.iload 4, 2) := by decide +kernel
theorem dX1_add_46 : decode cX1_add 46 = .ok (.iastore, 1) := by decide +kernel
theorem dX1_add_47 : decode cX1_add 47 = .ok (.aload_n 0, 1) := by decide +kernel
theorem dX1_add_48 : decode cX1_add 48 = .ok (.iload 4, 2) := by decide +kernel
theorem dX1_add_50 : decode cX1_add 50 = .ok (.iconst 1, 1) := by decide +kernel
theorem dX1_add_51 : decode cX1_add 51 = .ok (.iadd, 1) := by decide +kernel
theorem dX1_add_52 : decode cX1_add 52 = .ok (.putfield 40, 3) := by decide +kernel
theorem dX1_add_55 : decode cX1_add 55 = .ok (.aload_n 0, 1) := by decide +kernel
theorem dX1_add_56 : decode cX1_add 56 = .ok (.iconst 0, 1) := by decide +kernel
theorem dX1_add_57 : decode cX1_add 57 = .ok (.putfield 56, 3) := by decide +kernel
theorem dX1_add_60 : decode cX1_add 60 = .ok (.return_, 1) := by decide +kernel
theorem dX1_setSkill_0 : decode cX1_setSkill 0 = .ok (.aload_n 0, 1) := by decide +kernel
theorem dX1_setSkill_1 : decode cX1_setSkill 1 = .ok (.getfield 24, 3) := by decide +kernel
theorem dX1_setSkill_4 : decode cX1_setSkill 4 = .ok (.iload_n 1, 1) := by decide +kernel
theorem dX1_setSkill_5 : decode cX1_setSkill 5 = .ok (.iload_n 2, 1) := by decide +kernel
theorem dX1_setSkill_6 : decode cX1_setSkill 6 = .ok (.iastore, 1) := by decide +kernel
theorem dX1_setSkill_7 : decode cX1_setSkill 7 = .ok (.aload_n 0, 1) := by decide +kernel
theorem dX1_setSkill_8 : decode cX1_setSkill 8 = .ok (.iconst 0, 1) := by decide +kernel
theorem dX1_setSkill_9 : decode cX1_setSkill 9 = .ok (.putfield 56, 3) := by decide +kernel
theorem dX1_setSkill_12 : decode cX1_setSkill 12 = .ok (.return_, 1) := by decide +kernel
theorem dX1_addNote_0 : decode cX1_addNote 0 = .ok (.aload_n 0, 1) := by decide +kernel
theorem dX1_addNote_1 : decode cX1_addNote 1 = .ok (.getfield 50, 3) := by decide +kernel
theorem dX1_addNote_4 : decode cX1_addNote 4 = .ok (.bipush 6, 2) := by decide +kernel
theorem dX1_addNote_6 : decode cX1_addNote 6 = .ok (.if_icmp .lt 4, 3) := by decide +kernel
theorem dX1_addNote_9 : decode cX1_addNote 9 = .ok (.return_, 1) := by decide +kernel
theorem dX1_addNote_10 : decode cX1_addNote 10 = .ok (.aload_n 0, 1) := by decide +kernel
theorem dX1_addNote_11 : decode cX1_addNote 11 = .ok (.getfield 50, 3) := by decide +kernel
theorem dX1_addNote_14 : decode cX1_addNote 14 = .ok (.iconst 5, 1) := by decide +kernel
theorem dX1_addNote_15 : decode cX1_addNote 15 = .ok (.imul, 1) := by decide +kernel
theorem dX1_addNote_16 : decode cX1_addNote 16 = .ok (.istore 6, 2) := by decide +kernel
theorem dX1_addNote_18 : decode cX1_addNote 18 = .ok (.aload_n 0, 1) := by decide +kernel
theorem dX1_addNote_19 : decode cX1_addNote 19 = .ok (.getfield 27, 3) := by decide +kernel
theorem dX1_addNote_22 : decode cX1_addNote 22 = .ok (.iload 6, 2) := by decide +kernel
theorem dX1_addNote_24 : decode cX1_addNote 24 = .ok (.iload_n 1, 1) := by decide +kernel
theorem dX1_addNote_25 : decode cX1_addNote 25 = .ok (.iastore, 1) := by decide +kernel
theorem dX1_addNote_26 : decode cX1_addNote 26 = .ok (.aload_n 0, 1) := by decide +kernel
theorem dX1_addNote_27 : decode cX1_addNote 27 = .ok (.getfield 27, 3) := by decide +kernel
theorem dX1_addNote_30 : decode cX1_addNote 30 = .ok (.iload 6, 2) := by decide +kernel
theorem dX1_addNote_32 : decode cX1_addNote 32 = .ok (.iconst 1, 1) := by decide +kernel
theorem dX1_addNote_33 : decode cX1_addNote 33 = .ok (.iadd, 1) := by decide +kernel
theorem dX1_addNote_34 : decode cX1_addNote 34 = .ok (.iload_n 2, 1) := by decide +kernel
theorem dX1_addNote_35 : decode cX1_addNote 35 = .ok (.iastore, 1) := by decide +kernel
theorem dX1_addNote_36 : decode cX1_addNote 36 = .ok (.aload_n 0, 1) := by decide +kernel
theorem dX1_addNote_37 : decode cX1_addNote 37 = .ok (.getfield 27, 3) := by decide +kernel
theorem dX1_addNote_40 : decode cX1_addNote 40 = .ok (.iload 6, 2) := by decide +kernel
theorem dX1_addNote_42 : decode cX1_addNote 42 = .ok (.iconst 2, 1) := by decide +kernel
theorem dX1_addNote_43 : decode cX1_addNote 43 = .ok (.iadd, 1) := by decide +kernel
theorem dX1_addNote_44 : decode cX1_addNote 44 = .ok (.iload_n 3, 1) := by decide +kernel
theorem dX1_addNote_45 : decode cX1_addNote 45 = .ok (.iastore, 1) := by decide +kernel
theorem dX1_addNote_46 : decode cX1_addNote 46 = .ok (.aload_n 0, 1) := by decide +kernel
theorem dX1_addNote_47 : decode cX1_addNote 47 = .ok (.getfield 27, 3) := by decide +kernel
theorem dX1_addNote_50 : decode cX1_addNote 50 = .ok (.iload 6, 2) := by decide +kernel
theorem dX1_addNote_52 : decode cX1_addNote 52 = .ok (.iconst 3, 1) := by decide +kernel
theorem dX1_addNote_53 : decode cX1_addNote 53 = .ok (.iadd, 1) := by decide +kernel
theorem dX1_addNote_54 : decode cX1_addNote 54 = .ok (.iload 4, 2) := by decide +kernel
theorem dX1_addNote_56 : decode cX1_addNote 56 = .ok (.iastore, 1) := by decide +kernel
theorem dX1_addNote_57 : decode cX1_addNote 57 = .ok (.aload_n 0, 1) := by decide +kernel
theorem dX1_addNote_58 : decode cX1_addNote 58 = .ok (.getfield 27, 3) := by decide +kernel
theorem dX1_addNote_61 : decode cX1_addNote 61 = .ok (.iload 6, 2) := by decide +kernel
theorem dX1_addNote_63 : decode cX1_addNote 63 = .ok (.iconst 4, 1) := by decide +kernel
theorem dX1_addNote_64 : decode cX1_addNote 64 = .ok (.iadd, 1) := by decide +kernel
theorem dX1_addNote_65 : decode cX1_addNote 65 = .ok (.iload 5, 2) := by decide +kernel
theorem dX1_addNote_67 : decode cX1_addNote 67 = .ok (.iastore, 1) := by decide +kernel
theorem dX1_addNote_68 : decode cX1_addNote 68 = .ok (.aload_n 0, 1) := by decide +kernel
theorem dX1_addNote_69 : decode cX1_addNote 69 = .ok (.dup, 1) := by decide +kernel
theorem dX1_addNote_70 : decode cX1_addNote 70 = .ok (.getfield 50, 3) := by decide +kernel
theorem dX1_addNote_73 : decode cX1_addNote 73 = .ok (.iconst 1, 1) := by decide +kernel
theorem dX1_addNote_74 : decode cX1_addNote 74 = .ok (.iadd, 1) := by decide +kernel
theorem dX1_addNote_75 : decode cX1_addNote 75 = .ok (.putfield 50, 3) := by decide +kernel
theorem dX1_addNote_78 : decode cX1_addNote 78 = .ok (.return_, 1) := by decide +kernel
theorem dX1_addSound_0 : decode cX1_addSound 0 = .ok (.aload_n 0, 1) := by decide +kernel
theorem dX1_addSound_1 : decode cX1_addSound 1 = .ok (.getfield 53, 3) := by decide +kernel
theorem dX1_addSound_4 : decode cX1_addSound 4 = .ok (.bipush 6, 2) := by decide +kernel
theorem dX1_addSound_6 : decode cX1_addSound 6 = .ok (.if_icmp .lt 4, 3) := by decide +kernel
theorem dX1_addSound_9 : decode cX1_addSound 9 = .ok (.return_, 1) := by decide +kernel
theorem dX1_addSound_10 : decode cX1_addSound 10 = .ok (.aload_n 0, 1) := by decide +kernel
theorem dX1_addSound_11 : decode cX1_addSound 11 = .ok (.getfield 53, 3) := by decide +kernel
theorem dX1_addSound_14 : decode cX1_addSound 14 = .ok (.iconst 2, 1) := by decide +kernel
theorem dX1_addSound_15 : decode cX1_addSound 15 = .ok (.imul, 1) := by decide +kernel
theorem dX1_addSound_16 : decode cX1_addSound 16 = .ok (.istore_n 3, 1) := by decide +kernel
theorem dX1_addSound_17 : decode cX1_addSound 17 = .ok (.aload_n 0, 1) := by decide +kernel
theorem dX1_addSound_18 : decode cX1_addSound 18 = .ok (.getfield 30, 3) := by decide +kernel
theorem dX1_addSound_21 : decode cX1_addSound 21 = .ok (.iload_n 3, 1) := by decide +kernel
theorem dX1_addSound_22 : decode cX1_addSound 22 = .ok (.iload_n 1, 1) := by decide +kernel
theorem dX1_addSound_23 : decode cX1_addSound 23 = .ok (.iastore, 1) := by decide +kernel
theorem dX1_addSound_24 : decode cX1_addSound 24 = .ok (.aload_n 0, 1) := by decide +kernel
theorem dX1_addSound_25 : decode cX1_addSound 25 = .ok (.getfield 30, 3) := by decide +kernel
theorem dX1_addSound_28 : decode cX1_addSound 28 = .ok (.iload_n 3, 1) := by decide +kernel
theorem dX1_addSound_29 : decode cX1_addSound 29 = .ok (.iconst 1, 1) := by decide +kernel
theorem dX1_addSound_30 : decode cX1_addSound 30 = .ok (.iadd, 1) := by decide +kernel
theorem dX1_addSound_31 : decode cX1_addSound 31 = .ok (.iload_n 2, 1) := by decide +kernel
theorem dX1_addSound_32 : decode cX1_addSound 32 = .ok (.iastore, 1) := by decide +kernel
theorem dX1_addSound_33 : decode cX1_addSound 33 = .ok (.aload_n 0, 1) := by decide +kernel
theorem dX1_addSound_34 : decode cX1_addSound 34 = .ok (.dup, 1) := by decide +kernel
theorem dX1_addSound_35 : decode cX1_addSound 35 = .ok (.getfield 53, 3) := by decide +kernel
theorem dX1_addSound_38 : decode cX1_addSound 38 = .ok (.iconst 1, 1) := by decide +kernel
theorem dX1_addSound_39 : decode cX1_addSound 39 = .ok (.iadd, 1) := by decide +kernel
theorem dX1_addSound_40 : decode cX1_addSound 40 = .ok (.putfield 53, 3) := by decide +kernel
theorem dX1_addSound_43 : decode cX1_addSound 43 = .ok (.return_, 1) := by decide +kernel
theorem dX1_remember_0 : decode cX1_remember 0 = .ok (.aload_n 0, 1) := by decide +kernel
theorem dX1_remember_1 : decode cX1_remember 1 = .ok (.getfield 56, 3) := by decide +kernel
theorem dX1_remember_4 : decode cX1_remember 4 = .ok (.bipush 8, 2) := by decide +kernel
theorem dX1_remember_6 : decode cX1_remember 6 = .ok (.if_icmp .lt 25, 3) := by decide +kernel
theorem dX1_remember_9 : decode cX1_remember 9 = .ok (.aload_n 0, 1) := by decide +kernel
theorem dX1_remember_10 : decode cX1_remember 10 = .ok (.getfield 33, 3) := by decide +kernel
theorem dX1_remember_13 : decode cX1_remember 13 = .ok (.bipush 14, 2) := by decide +kernel
theorem dX1_remember_15 : decode cX1_remember 15 = .ok (.aload_n 0, 1) := by decide +kernel
theorem dX1_remember_16 : decode cX1_remember 16 = .ok (.getfield 33, 3) := by decide +kernel
theorem dX1_remember_19 : decode cX1_remember 19 = .ok (.iconst 0, 1) := by decide +kernel
theorem dX1_remember_20 : decode cX1_remember 20 = .ok (.bipush 98, 2) := by decide +kernel
theorem dX1_remember_22 : decode cX1_remember 22 = .ok (.invokestatic 65, 3) := by decide +kernel
theorem dX1_remember_25 : decode cX1_remember 25 = .ok (.aload_n 0, 1) := by decide +kernel
theorem dX1_remember_26 : decode cX1_remember 26 = .ok (.bipush 7, 2) := by decide +kernel
theorem dX1_remember_28 : decode cX1_remember 28 = .ok (.putfield 56, 3) := by decide +kernel
theorem dX1_remember_31 : decode cX1_remember 31 = .ok (.aload_n 0, 1) := by decide +kernel
theorem dX1_remember_32 : decode cX1_remember 32 = .ok (.getfield 56, 3) := by decide +kernel
theorem dX1_remember_35 : decode cX1_remember 35 = .ok (.bipush 14, 2) := by decide +kernel
theorem dX1_remember_37 : decode cX1_remember 37 = .ok (.imul, 1) := by decide +kernel
theorem dX1_remember_38 : decode cX1_remember 38 = .ok (.istore_n 1, 1) := by decide +kernel
theorem dX1_remember_39 : decode cX1_remember 39 = .ok (.aload_n 0, 1) := by decide +kernel
theorem dX1_remember_40 : decode cX1_remember 40 = .ok (.getfield 33, 3) := by decide +kernel
theorem dX1_remember_43 : decode cX1_remember 43 = .ok (.iload_n 1, 1) := by decide +kernel
theorem dX1_remember_44 : decode cX1_remember 44 = .ok (.aload_n 0, 1) := by decide +kernel
theorem dX1_remember_45 : decode cX1_remember 45 = .ok (.getfield 47, 3) := by decide +kernel
theorem dX1_remember_48 : decode cX1_remember 48 = .ok (.iastore, 1) := by decide +kernel
theorem dX1_remember_49 : decode cX1_remember 49 = .ok (.aload_n 0, 1) := by decide +kernel
theorem dX1_remember_50 : decode cX1_remember 50 = .ok (.getfield 33, 3) := by decide +kernel
theorem dX1_remember_53 : decode cX1_remember 53 = .ok (.iload_n 1, 1) := by decide +kernel
theorem dX1_remember_54 : decode cX1_remember 54 = .ok (.iconst 1, 1) := by decide +kernel
theorem dX1_remember_55 : decode cX1_remember 55 = .ok (.iadd, 1) := by decide +kernel
theorem dX1_remember_56 : decode cX1_remember 56 = .ok (.aload_n 0, 1) := by decide +kernel
theorem dX1_remember_57 : decode cX1_remember 57 = .ok (.getfield 44, 3) := by decide +kernel
theorem dX1_remember_60 : decode cX1_remember 60 = .ok (.iastore, 1) := by decide +kernel
theorem dX1_remember_61 : decode cX1_remember 61 = .ok (.aload_n 0, 1) := by decide +kernel
theorem dX1_remember_62 : decode cX1_remember 62 = .ok (.getfield 15, 3) := by decide +kernel
theorem dX1_remember_65 : decode cX1_remember 65 = .ok (.iconst 0, 1) := by decide +kernel
theorem dX1_remember_66 : decode cX1_remember 66 = .ok (.aload_n 0, 1) := by decide +kernel
theorem dX1_remember_67 : decode cX1_remember 67 = .ok (.getfield 33, 3) := by decide +kernel
theorem dX1_remember_70 : decode cX1_remember 70 = .ok (.iload_n 1, 1) := by decide +kernel
theorem dX1_remember_71 : decode cX1_remember 71 = .ok (.iconst 2, 1) := by decide +kernel
theorem dX1_remember_72 : decode cX1_remember 72 = .ok (.iadd, 1) := by decide +kernel
theorem dX1_remember_73 : decode cX1_remember 73 = .ok (.bipush 6, 2) := by decide +kernel
theorem dX1_remember_75 : decode cX1_remember 75 = .ok (.invokestatic 65, 3) := by decide +kernel
theorem dX1_remember_78 : decode cX1_remember 78 = .ok (.aload_n 0, 1) := by decide +kernel
theorem dX1_remember_79 : decode cX1_remember 79 = .ok (.getfield 21, 3) := by decide +kernel
theorem dX1_remember_82 : decode cX1_remember 82 = .ok (.iconst 0, 1) := by decide +kernel
theorem dX1_remember_83 : decode cX1_remember 83 = .ok (.aload_n 0, 1) := by decide +kernel
theorem dX1_remember_84 : decode cX1_remember 84 = .ok (.getfield 33, 3) := by decide +kernel
theorem dX1_remember_87 : decode cX1_remember 87 = .ok (.iload_n 1, 1) := by decide +kernel
theorem dX1_remember_88 : decode cX1_remember 88 = .ok (.iconst 2, 1) := by decide +kernel
theorem dX1_remember_89 : decode cX1_remember 89 = .ok (.iadd, 1) := by decide +kernel
theorem dX1_remember_90 : decode cX1_remember 90 = .ok (.bipush 6, 2) := by decide +kernel
theorem dX1_remember_92 : decode cX1_remember 92 = .ok (.iadd, 1) := by decide +kernel
theorem dX1_remember_93 : decode cX1_remember 93 = .ok (.bipush 6, 2) := by decide +kernel
theorem dX1_remember_95 : decode cX1_remember 95 = .ok (.invokestatic 65, 3) := by decide +kernel
theorem dX1_remember_98 : decode cX1_remember 98 = .ok (.aload_n 0, 1) := by decide +kernel
theorem dX1_remember_99 : decode cX1_remember 99 = .ok (.dup, 1) := by decide +kernel
theorem dX1_remember_100 : decode cX1_remember 100 = .ok (.getfield 56, 3) := by decide +kernel
theorem dX1_remember_103 : decode cX1_remember 103 = .ok (.iconst 1, 1) := by decide +kernel
theorem dX1_remember_104 : decode cX1_remember 104 = .ok (.iadd, 1) := by decide +kernel
theorem dX1_remember_105 : decode cX1_remember 105 = .ok (.putfield 56, 3) := by decide +kernel
theorem dX1_remember_108 : decode cX1_remember 108 = .ok (.return_, 1) := by decide +kernel
theorem dX1_recall_0 : decode cX1_recall 0 = .ok (.aload_n 0, 1) := by decide +kernel
theorem dX1_recall_1 : decode cX1_recall 1 = .ok (.getfield 56, 3) := by decide +kernel
theorem dX1_recall_4 : decode cX1_recall 4 = .ok (.ifCond .gt 4, 3) := by decide +kernel
theorem dX1_recall_7 : decode cX1_recall 7 = .ok (.return_, 1) := by decide +kernel
theorem dX1_recall_8 : decode cX1_recall 8 = .ok (.aload_n 0, 1) := by decide +kernel
theorem dX1_recall_9 : decode cX1_recall 9 = .ok (.dup, 1) := by decide +kernel
theorem dX1_recall_10 : decode cX1_recall 10 = .ok (.getfield 56, 3) := by decide +kernel
theorem dX1_recall_13 : decode cX1_recall 13 = .ok (.iconst 1, 1) := by decide +kernel
theorem dX1_recall_14 : decode cX1_recall 14 = .ok (.isub, 1) := by decide +kernel
theorem dX1_recall_15 : decode cX1_recall 15 = .ok (.putfield 56, 3) := by decide +kernel
theorem dX1_recall_18 : decode cX1_recall 18 = .ok (.aload_n 0, 1) := by decide +kernel
theorem dX1_recall_19 : decode cX1_recall 19 = .ok (.getfield 56, 3) := by decide +kernel
theorem dX1_recall_22 : decode cX1_recall 22 = .ok (.bipush 14, 2) := by decide +kernel
theorem dX1_recall_24 : decode cX1_recall 24 = .ok (.imul, 1) := by decide +kernel
theorem dX1_recall_25 : decode cX1_recall 25 = .ok (.istore_n 1, 1) := by decide +kernel
theorem dX1_recall_26 : decode cX1_recall 26 = .ok (.aload_n 0, 1) := by decide +kernel
theorem dX1_recall_27 : decode cX1_recall 27 = .ok (.aload_n 0, 1) := by decide +kernel
theorem dX1_recall_28 : decode cX1_recall 28 = .ok (.getfield 33, 3) := by decide +kernel
theorem dX1_recall_31 : decode cX1_recall 31 = .ok (.iload_n 1, 1) := by decide +kernel
theorem dX1_recall_32 : decode cX1_recall 32 = .ok (.iaload, 1) := by decide +kernel
theorem dX1_recall_33 : decode cX1_recall 33 = .ok (.putfield 47, 3) := by decide +kernel
theorem dX1_recall_36 : decode cX1_recall 36 = .ok (.aload_n 0, 1) := by decide +kernel
theorem dX1_recall_37 : decode cX1_recall 37 = .ok (.aload_n 0, 1) := by decide +kernel
theorem dX1_recall_38 : decode cX1_recall 38 = .ok (.getfield 33, 3) := by decide +kernel
theorem dX1_recall_41 : decode cX1_recall 41 = .ok (.iload_n 1, 1) := by decide +kernel
theorem dX1_recall_42 : decode cX1_recall 42 = .ok (.iconst 1, 1) := by decide +kernel
theorem dX1_recall_43 : decode cX1_recall 43 = .ok (.iadd, 1) := by decide +kernel
theorem dX1_recall_44 : decode cX1_recall 44 = .ok (.iaload, 1) := by decide +kernel
theorem dX1_recall_45 : decode cX1_recall 45 = .ok (.putfield 44, 3) := by decide +kernel
theorem dX1_recall_48 : decode cX1_recall 48 = .ok (.aload_n 0, 1) := by decide +kernel
theorem dX1_recall_49 : decode cX1_recall 49 = .ok (.getfield 33, 3) := by decide +kernel
theorem dX1_recall_52 : decode cX1_recall 52 = .ok (.iload_n 1, 1) := by decide +kernel
theorem dX1_recall_53 : decode cX1_recall 53 = .ok (.iconst 2, 1) := by decide +kernel
theorem dX1_recall_54 : decode cX1_recall 54 = .ok (.iadd, 1) := by decide +kernel
theorem dX1_recall_55 : decode cX1_recall 55 = .ok (.aload_n 0, 1) := by decide +kernel
theorem dX1_recall_56 : decode cX1_recall 56 = .ok (.getfield 15, 3) := by decide +kernel
theorem dX1_recall_59 : decode cX1_recall 59 = .ok (.iconst 0, 1) := by decide +kernel
theorem dX1_recall_60 : decode cX1_recall 60 = .ok (.bipush 6, 2) := by decide +kernel
theorem dX1_recall_62 : decode cX1_recall 62 = .ok (.invokestatic 65, 3) := by decide +kernel
theorem dX1_recall_65 : decode cX1_recall 65 = .ok (.aload_n 0, 1) := by decide +kernel
theorem dX1_recall_66 : decode cX1_recall 66 = .ok (.getfield 33, 3) := by decide +kernel
theorem dX1_recall_69 : decode cX1_recall 69 = .ok (.iload_n 1, 1) := by decide +kernel
theorem dX1_recall_70 : decode cX1_recall 70 = .ok (.iconst 2, 1) := by decide +kernel
theorem dX1_recall_71 : decode cX1_recall 71 = .ok (.iadd, 1) := by decide +kernel
theorem dX1_recall_72 : decode cX1_recall 72 = .ok (.bipush 6, 2) := by decide +kernel
theorem dX1_recall_74 : decode cX1_recall 74 = .ok (.iadd, 1) := by decide +kernel
theorem dX1_recall_75 : decode cX1_recall 75 = .ok (.aload_n 0, 1) := by decide +kernel
theorem dX1_recall_76 : decode cX1_recall 76 = .ok (.getfield 21, 3) := by decide +kernel
theorem dX1_recall_79 : decode cX1_recall 79 = .ok (.iconst 0, 1) := by decide +kernel
theorem dX1_recall_80 : decode cX1_recall 80 = .ok (.bipush 6, 2) := by decide +kernel
theorem dX1_recall_82 : decode cX1_recall 82 = .ok (.invokestatic 65, 3) := by decide +kernel
theorem dX1_recall_85 : decode cX1_recall 85 = .ok (.return_, 1) := by decide +kernel
theorem dX1_passMonth_0 : decode cX1_passMonth 0 = .ok (.iconst 0, 1) := by decide +kernel
theorem dX1_passMonth_1 : decode cX1_passMonth 1 = .ok (.istore_n 1, 1) := by decide +kernel
theorem dX1_passMonth_2 : decode cX1_passMonth 2 = .ok (.iload_n 1, 1) := by decide +kernel
theorem dX1_passMonth_3 : decode cX1_passMonth 3 = .ok (.aload_n 0, 1) := by decide +kernel
theorem dX1_passMonth_4 : decode cX1_passMonth 4 = .ok (.getfield 40, 3) := by decide +kernel
theorem dX1_passMonth_7 : decode cX1_passMonth 7 = .ok (.if_icmp .ge 56, 3) := by decide +kernel
theorem dX1_passMonth_10 : decode cX1_passMonth 10 = .ok (.aload_n 0, 1) := by decide +kernel
theorem dX1_passMonth_11 : decode cX1_passMonth 11 = .ok (.iload_n 1, 1) := by decide +kernel
theorem dX1_passMonth_12 : decode cX1_passMonth 12 = .ok (.invokevirtual 71, 3) := by decide +kernel
theorem dX1_passMonth_15 : decode cX1_passMonth 15 = .ok (.ifCond .eq 6, 3) := by decide +kernel
theorem dX1_passMonth_18 : decode cX1_passMonth 18 = .ok (.goto 39, 3) := by decide +kernel
theorem dX1_passMonth_21 : decode cX1_passMonth 21 = .ok (.aload_n 0, 1) := by decide +kernel
theorem dX1_passMonth_22 : decode cX1_passMonth 22 = .ok (.getfield 15, 3) := by decide +kernel
theorem dX1_passMonth_25 : decode cX1_passMonth 25 = .ok (.iload_n 1, 1) := by decide +kernel
theorem dX1_passMonth_26 : decode cX1_passMonth 26 = .ok (.dup2, 1) := by decide +kernel
theorem dX1_passMonth_27 : decode cX1_passMonth 27 = .ok (.iaload, 1) := by decide +kernel
theorem dX1_passMonth_28 : decode cX1_passMonth 28 = .ok (.iconst 1, 1) := by decide +kernel
theorem dX1_passMonth_29 : decode cX1_passMonth 29 = .ok (.iadd, 1) := by decide +kernel
theorem dX1_passMonth_30 : decode cX1_passMonth 30 = .ok (.iastore, 1) := by decide +kernel
theorem dX1_passMonth_31 : decode cX1_passMonth 31 = .ok (.aload_n 0, 1) := by decide +kernel
theorem dX1_passMonth_32 : decode cX1_passMonth 32 = .ok (.getfield 15, 3) := by decide +kernel
theorem dX1_passMonth_35 : decode cX1_passMonth 35 = .ok (.iload_n 1, 1) := by decide +kernel
theorem dX1_passMonth_36 : decode cX1_passMonth 36 = .ok (.iaload, 1) := by decide +kernel
theorem dX1_passMonth_37 : decode cX1_passMonth 37 = .ok (.aload_n 0, 1) := by decide +kernel
theorem dX1_passMonth_38 : decode cX1_passMonth 38 = .ok (.iload_n 1, 1) := by decide +kernel
theorem dX1_passMonth_39 : decode cX1_passMonth 39 = .ok (.invokevirtual 75, 3) := by decide +kernel
theorem dX1_passMonth_42 : decode cX1_passMonth 42 = .ok (.if_icmp .lt 15, 3) := by decide +kernel
theorem dX1_passMonth_45 : decode cX1_passMonth 45 = .ok (.aload_n 0, 1) := by decide +kernel
theorem dX1_passMonth_46 : decode cX1_passMonth 46 = .ok (.dup, 1) := by decide +kernel
theorem dX1_passMonth_47 : decode cX1_passMonth 47 = .ok (.getfield 44, 3) := by decide +kernel
theorem dX1_passMonth_50 : decode cX1_passMonth 50 = .ok (.iconst 1, 1) := by decide +kernel
theorem dX1_passMonth_51 : decode cX1_passMonth 51 = .ok (.iload_n 1, 1) := by decide +kernel
theorem dX1_passMonth_52 : decode cX1_passMonth 52 = .ok (.ishl, 1) := by decide +kernel
theorem dX1_passMonth_53 : decode cX1_passMonth 53 = .ok (.ior, 1) := by decide +kernel
theorem dX1_passMonth_54 : decode cX1_passMonth 54 = .ok (.putfield 44, 3) := by decide +kernel
theorem dX1_passMonth_57 : decode cX1_passMonth 57 = .ok (.iinc 1 1, 3) := by decide +kernel
theorem dX1_passMonth_60 : decode cX1_passMonth 60 = .ok (.goto (-58), 3) := by decide +kernel
theorem dX1_passMonth_63 : decode cX1_passMonth 63 = .ok (.aload_n 0, 1) := by decide +kernel
theorem dX1_passMonth_64 : decode cX1_passMonth 64 = .ok (.getfield 47, 3) := by decide +kernel
theorem dX1_passMonth_67 : decode cX1_passMonth 67 = .ok (.sipush 999, 3) := by decide +kernel
theorem dX1_passMonth_70 : decode cX1_passMonth 70 = .ok (.if_icmp .ge 13, 3) := by decide +kernel
theorem dX1_passMonth_73 : decode cX1_passMonth 73 = .ok (.aload_n 0, 1) := by decide +kernel
theorem dX1_passMonth_74 : decode cX1_passMonth 74 = .ok (.dup, 1) := by decide +kernel
theorem dX1_passMonth_75 : decode cX1_passMonth 75 = .ok (.getfield 47, 3) := by decide +kernel
theorem dX1_passMonth_78 : decode cX1_passMonth 78 = .ok (.iconst 1, 1) := by decide +kernel
theorem dX1_passMonth_79 : decode cX1_passMonth 79 = .ok (.iadd, 1) := by decide +kernel
theorem dX1_passMonth_80 : decode cX1_passMonth 80 = .ok (.putfield 47, 3) := by decide +kernel
theorem dX1_passMonth_83 : decode cX1_passMonth 83 = .ok (.return_, 1) := by decide +kernel
theorem dX1_isRetired_0 : decode cX1_isRetired 0 = .ok (.aload_n 0, 1) := by decide +kernel
theorem dX1_isRetired_1 : decode cX1_isRetired 1 = .ok (.getfield 44, 3) := by decide +kernel
theorem dX1_isRetired_4 : decode cX1_isRetired 4 = .ok (.iload_n 1, 1) := by decide +kernel
theorem dX1_isRetired_5 : decode cX1_isRetired 5 = .ok (.ishr, 1) := by decide +kernel
theorem dX1_isRetired_6 : decode cX1_isRetired 6 = .ok (.iconst 1, 1) := by decide +kernel
theorem dX1_isRetired_7 : decode cX1_isRetired 7 = .ok (.iand, 1) := by decide +kernel
theorem dX1_isRetired_8 : decode cX1_isRetired 8 = .ok (.iconst 1, 1) := by decide +kernel
theorem dX1_isRetired_9 : decode cX1_isRetired 9 = .ok (.if_icmp .ne 7, 3) := by decide +kernel
theorem dX1_isRetired_12 : decode cX1_isRetired 12 = .ok (.iconst 1, 1) := by decide +kernel
theorem dX1_isRetired_13 : decode cX1_isRetired 13 = .ok (.goto 4, 3) := by decide +kernel
theorem dX1_isRetired_16 : decode cX1_isRetired 16 = .ok (.iconst 0, 1) := by decide +kernel
theorem dX1_isRetired_17 : decode cX1_isRetired 17 = .ok (.ireturn, 1) := by decide +kernel
theorem dX1_walkingAge_0 : decode cX1_walkingAge 0 = .ok (.aload_n 0, 1) := by decide +kernel
theorem dX1_walkingAge_1 : decode cX1_walkingAge 1 = .ok (.getfield 36, 3) := by decide +kernel
theorem dX1_walkingAge_4 : decode cX1_walkingAge 4 = .ok (.aload_n 0, 1) := by decide +kernel
theorem dX1_walkingAge_5 : decode cX1_walkingAge 5 = .ok (.getfield 9, 3) := by decide +kernel
theorem dX1_walkingAge_8 : decode cX1_walkingAge 8 = .ok (.iload_n 1, 1) := by decide +kernel
theorem dX1_walkingAge_9 : decode cX1_walkingAge 9 = .ok (.iaload, 1) := by decide +kernel
theorem dX1_walkingAge_10 : decode cX1_walkingAge 10 = .ok (.aaload, 1) := by decide +kernel
theorem dX1_walkingAge_11 : decode cX1_walkingAge 11 = .ok (.invokevirtual 79, 3) := by decide +kernel
theorem dX1_walkingAge_14 : decode cX1_walkingAge 14 = .ok (.ireturn, 1) := by decide +kernel
theorem dX1_isAsleep_0 : decode cX1_isAsleep 0 = .ok (.aload_n 0, 1) := by decide +kernel
theorem dX1_isAsleep_1 : decode cX1_isAsleep 1 = .ok (.getfield 36, 3) := by decide +kernel
theorem dX1_isAsleep_4 : decode cX1_isAsleep 4 = .ok (.aload_n 0, 1) := by decide +kernel
theorem dX1_isAsleep_5 : decode cX1_isAsleep 5 = .ok (.getfield 9, 3) := by decide +kernel
theorem dX1_isAsleep_8 : decode cX1_isAsleep 8 = .ok (.iload_n 1, 1) := by decide +kernel
theorem dX1_isAsleep_9 : decode cX1_isAsleep 9 = .ok (.iaload, 1) := by decide +kernel
theorem dX1_isAsleep_10 : decode cX1_isAsleep 10 = .ok (.aaload, 1) := by decide +kernel
theorem dX1_isAsleep_11 : decode cX1_isAsleep 11 = .ok (.iload_n 2, 1) := by decide +kernel
theorem dX1_isAsleep_12 : decode cX1_isAsleep 12 = .ok (.invokevirtual 85, 3) := by decide +kernel
theorem dX1_isAsleep_15 : decode cX1_isAsleep 15 = .ok (.ireturn, 1) := by decide +kernel
theorem dX1_criesAt_0 : decode cX1_criesAt 0 = .ok (.aload_n 0, 1) := by decide +kernel
theorem dX1_criesAt_1 : decode cX1_criesAt 1 = .ok (.iload_n 1, 1) := by decide +kernel
theorem dX1_criesAt_2 : decode cX1_criesAt 2 = .ok (.iload_n 2, 1) := by decide +kernel
theorem dX1_criesAt_3 : decode cX1_criesAt 3 = .ok (.invokevirtual 88, 3) := by decide +kernel
theorem dX1_criesAt_6 : decode cX1_criesAt 6 = .ok (.ifCond .eq 5, 3) := by decide +kernel
theorem dX1_criesAt_9 : decode cX1_criesAt 9 = .ok (.iconst 0, 1) := by decide +kernel
theorem dX1_criesAt_10 : decode cX1_criesAt 10 = .ok (.ireturn, 1) := by decide +kernel
theorem dX1_criesAt_11 : decode cX1_criesAt 11 = .ok (.iconst 0, 1) := by decide +kernel
theorem dX1_criesAt_12 : decode cX1_criesAt 12 = .ok (.aload_n 0, 1) := by decide +kernel
theorem dX1_criesAt_13 : decode cX1_criesAt 13 = .ok (.getfield 36, 3) := by decide +kernel
theorem dX1_criesAt_16 : decode cX1_criesAt 16 = .ok (.aload_n 0, 1) := by decide +kernel
theorem dX1_criesAt_17 : decode cX1_criesAt 17 = .ok (.getfield 9, 3) := by decide +kernel
theorem dX1_criesAt_20 : decode cX1_criesAt 20 = .ok (.iload_n 1, 1) := by decide +kernel
theorem dX1_criesAt_21 : decode cX1_criesAt 21 = .ok (.iaload, 1) := by decide +kernel
theorem dX1_criesAt_22 : decode cX1_criesAt 22 = .ok (.aaload, 1) := by decide +kernel
theorem dX1_criesAt_23 : decode cX1_criesAt 23 = .ok (.aload_n 0, 1) := by decide +kernel
theorem dX1_criesAt_24 : decode cX1_criesAt 24 = .ok (.getfield 15, 3) := by decide +kernel
theorem dX1_criesAt_27 : decode cX1_criesAt 27 = .ok (.iload_n 1, 1) := by decide +kernel
theorem dX1_criesAt_28 : decode cX1_criesAt 28 = .ok (.iaload, 1) := by decide +kernel
theorem dX1_criesAt_29 : decode cX1_criesAt 29 = .ok (.invokevirtual 92, 3) := by decide +kernel
theorem dX1_criesAt_32 : decode cX1_criesAt 32 = .ok (.aload_n 0, 1) := by decide +kernel
theorem dX1_criesAt_33 : decode cX1_criesAt 33 = .ok (.getfield 24, 3) := by decide +kernel
theorem dX1_criesAt_36 : decode cX1_criesAt 36 = .ok (.iload_n 3, 1) := by decide +kernel
theorem dX1_criesAt_37 : decode cX1_criesAt 37 = .ok (.iaload, 1) := by decide +kernel
theorem dX1_criesAt_38 : decode cX1_criesAt 38 = .ok (.iconst 2, 1) := by decide +kernel
theorem dX1_criesAt_39 : decode cX1_criesAt 39 = .ok (.idiv, 1) := by decide +kernel
theorem dX1_criesAt_40 : decode cX1_criesAt 40 = .ok (.isub, 1) := by decide +kernel
theorem dX1_criesAt_41 : decode cX1_criesAt 41 = .ok (.invokestatic 95, 3) := by decide +kernel
theorem dX1_criesAt_44 : decode cX1_criesAt 44 = .ok (.ireturn, 1) := by decide +kernel
theorem dX1_criesAllDay_0 : decode cX1_criesAllDay 0 = .ok (.iconst 0, 1) := by decide +kernel
theorem dX1_criesAllDay_1 : decode cX1_criesAllDay 1 = .ok (.istore_n 3, 1) := by decide +kernel
theorem dX1_criesAllDay_2 : decode cX1_criesAllDay 2 = .ok (.iconst 0, 1) := by decide +kernel
theorem dX1_criesAllDay_3 : decode cX1_criesAllDay 3 = .ok (.istore 4, 2) := by decide +kernel
theorem dX1_criesAllDay_5 : decode cX1_criesAllDay 5 = .ok (.iload 4, 2) := by decide +kernel
theorem dX1_criesAllDay_7 : decode cX1_criesAllDay 7 = .ok (.bipush 24, 2) := by decide +kernel
theorem dX1_criesAllDay_9 : decode cX1_criesAllDay 9 = .ok (.if_icmp .ge 20, 3) := by decide +kernel
theorem dX1_criesAllDay_12 : decode cX1_criesAllDay 12 = .ok (.iload_n 3, 1) := by decide +kernel
theorem dX1_criesAllDay_13 : decode cX1_criesAllDay 13 = .ok (.aload_n 0, 1) := by decide +kernel
theorem dX1_criesAllDay_14 : decode cX1_criesAllDay 14 = .ok (.iload_n 1, 1) := by decide +kernel
theorem dX1_criesAllDay_15 : decode cX1_criesAllDay 15 = .ok (.iload 4, 2) := by decide +kernel
theorem dX1_criesAllDay_17 : decode cX1_criesAllDay 17 = .ok (.iload_n 2, 1) := by decide +kernel
theorem dX1_criesAllDay_18 : decode cX1_criesAllDay 18 = .ok (.invokevirtual 101, 3) := by decide +kernel
theorem dX1_criesAllDay_21 : decode cX1_criesAllDay 21 = .ok (.iadd, 1) := by decide +kernel
theorem dX1_criesAllDay_22 : decode cX1_criesAllDay 22 = .ok (.istore_n 3, 1) := by decide +kernel
theorem dX1_criesAllDay_23 : decode cX1_criesAllDay 23 = .ok (.iinc 4 1, 3) := by decide +kernel
theorem dX1_criesAllDay_26 : decode cX1_criesAllDay 26 = .ok (.goto (-21), 3) := by decide +kernel
theorem dX1_criesAllDay_29 : decode cX1_criesAllDay 29 = .ok (.iload_n 3, 1) := by decide +kernel
theorem dX1_criesAllDay_30 : decode cX1_criesAllDay 30 = .ok (.ireturn, 1) := by decide +kernel
theorem dX1_sovereign_0 : decode cX1_sovereign 0 = .ok (.iconst (-1), 1) := by decide +kernel
theorem dX1_sovereign_1 : decode cX1_sovereign 1 = .ok (.istore_n 2, 1) := by decide +kernel
theorem dX1_sovereign_2 : decode cX1_sovereign 2 = .ok (.iconst 0, 1) := by decide +kernel
theorem dX1_sovereign_3 : decode cX1_sovereign 3 = .ok (.istore_n 3, 1) := by decide +kernel
theorem dX1_sovereign_4 : decode cX1_sovereign 4 = .ok (.iload_n 3, 1) := by decide +kernel
theorem dX1_sovereign_5 : decode cX1_sovereign 5 = .ok (.aload_n 0, 1) := by decide +kernel
theorem dX1_sovereign_6 : decode cX1_sovereign 6 = .ok (.getfield 40, 3) := by decide +kernel
theorem dX1_sovereign_9 : decode cX1_sovereign 9 = .ok (.if_icmp .ge 62, 3) := by decide +kernel
theorem dX1_sovereign_12 : decode cX1_sovereign 12 = .ok (.aload_n 0, 1) := by decide +kernel
theorem dX1_sovereign_13 : decode cX1_sovereign 13 = .ok (.iload_n 3, 1) := by decide +kernel
theorem dX1_sovereign_14 : decode cX1_sovereign 14 = .ok (.invokevirtual 71, 3) := by decide +kernel
theorem dX1_sovereign_17 : decode cX1_sovereign 17 = .ok (.ifCond .ne 48, 3) := by decide +kernel
theorem dX1_sovereign_20 : decode cX1_sovereign 20 = .ok (.iload_n 1, 1) := by decide +kernel
theorem dX1_sovereign_21 : decode cX1_sovereign 21 = .ok (.ifCond .le 22, 3) := by decide +kernel
theorem dX1_sovereign_24 : decode cX1_sovereign 24 = .ok (.aload_n 0, 1) := by decide +kernel
theorem dX1_sovereign_25 : decode cX1_sovereign 25 = .ok (.getfield 15, 3) := by decide +kernel
theorem dX1_sovereign_28 : decode cX1_sovereign 28 = .ok (.iload_n 3, 1) := by decide +kernel
theorem dX1_sovereign_29 : decode cX1_sovereign 29 = .ok (.iaload, 1) := by decide +kernel
theorem dX1_sovereign_30 : decode cX1_sovereign 30 = .ok (.iload_n 1, 1) := by decide +kernel
theorem dX1_sovereign_31 : decode cX1_sovereign 31 = .ok (.iadd, 1) := by decide +kernel
theorem dX1_sovereign_32 : decode cX1_sovereign 32 = .ok (.aload_n 0, 1) := by decide +kernel
theorem dX1_sovereign_33 : decode cX1_sovereign 33 = .ok (.iload_n 3, 1) := by decide +kernel
theorem dX1_sovereign_34 : decode cX1_sovereign 34 = .ok (.invokevirtual 75, 3) := by decide +kernel
theorem dX1_sovereign_37 : decode cX1_sovereign 37 = .ok (.if_icmp .lt 6, 3) := by decide +kernel
theorem dX1_sovereign_40 : decode cX1_sovereign 40 = .ok (.goto 25, 3) := by decide +kernel
theorem dX1_sovereign_43 : decode cX1_sovereign 43 = .ok (.iload_n 2, 1) := by decide +kernel
theorem dX1_sovereign_44 : decode cX1_sovereign 44 = .ok (.iconst (-1), 1) := by decide +kernel
theorem dX1_sovereign_45 : decode cX1_sovereign 45 = .ok (.if_icmp .eq 18, 3) := by decide +kernel
theorem dX1_sovereign_48 : decode cX1_sovereign 48 = .ok (.aload_n 0, 1) := by decide +kernel
theorem dX1_sovereign_49 : decode cX1_sovereign 49 = .ok (.getfield 15, 3) := by decide +kernel
theorem dX1_sovereign_52 : decode cX1_sovereign 52 = .ok (.iload_n 3, 1) := by decide +kernel
theorem dX1_sovereign_53 : decode cX1_sovereign 53 = .ok (.iaload, 1) := by decide +kernel
theorem dX1_sovereign_54 : decode cX1_sovereign 54 = .ok (.aload_n 0, 1) := by decide +kernel
theorem dX1_sovereign_55 : decode cX1_sovereign 55 = .ok (.getfield 15, 3) := by decide +kernel
theorem dX1_sovereign_58 : decode cX1_sovereign 58 = .ok (.iload_n 2, 1) := by decide +kernel
theorem dX1_sovereign_59 : decode cX1_sovereign 59 = .ok (.iaload, 1) := by decide +kernel
theorem dX1_sovereign_60 : decode cX1_sovereign 60 = .ok (.if_icmp .le 5, 3) := by decide +kernel
theorem dX1_sovereign_63 : decode cX1_sovereign 63 = .ok (.iload_n 3, 1) := by decide +kernel
theorem dX1_sovereign_64 : decode cX1_sovereign 64 = .ok (.istore_n 2, 1) := by decide +kernel
theorem dX1_sovereign_65 : decode cX1_sovereign 65 = .ok (.iinc 3 1, 3) := by decide +kernel
theorem dX1_sovereign_68 : decode cX1_sovereign 68 = .ok (.goto (-64), 3) := by decide +kernel
theorem dX1_sovereign_71 : decode cX1_sovereign 71 = .ok (.iload_n 2, 1) := by decide +kernel
theorem dX1_sovereign_72 : decode cX1_sovereign 72 = .ok (.ireturn, 1) := by decide +kernel
theorem dX1_canBeAwakeAt_0 : decode cX1_canBeAwakeAt 0 = .ok (.aload_n 0, 1) := by decide +kernel
theorem dX1_canBeAwakeAt_1 : decode cX1_canBeAwakeAt 1 = .ok (.getfield 18, 3) := by decide +kernel
theorem dX1_canBeAwakeAt_4 : decode cX1_canBeAwakeAt 4 = .ok (.iload_n 1, 1) := by decide +kernel
theorem dX1_canBeAwakeAt_5 : decode cX1_canBeAwakeAt 5 = .ok (.iaload, 1) := by decide +kernel
theorem dX1_canBeAwakeAt_6 : decode cX1_canBeAwakeAt 6 = .ok (.iload_n 3, 1) := by decide +kernel
theorem dX1_canBeAwakeAt_7 : decode cX1_canBeAwakeAt 7 = .ok (.isub, 1) := by decide +kernel
theorem dX1_canBeAwakeAt_8 : decode cX1_canBeAwakeAt 8 = .ok (.invokestatic 105, 3) := by decide +kernel
theorem dX1_canBeAwakeAt_11 : decode cX1_canBeAwakeAt 11 = .ok (.istore 4, 2) := by decide +kernel
theorem dX1_canBeAwakeAt_13 : decode cX1_canBeAwakeAt 13 = .ok (.iload 4, 2) := by decide +kernel
theorem dX1_canBeAwakeAt_15 : decode cX1_canBeAwakeAt 15 = .ok (.bipush 6, 2) := by decide +kernel
theorem dX1_canBeAwakeAt_17 : decode cX1_canBeAwakeAt 17 = .ok (.iload 4, 2) := by decide +kernel
theorem dX1_canBeAwakeAt_19 : decode cX1_canBeAwakeAt 19 = .ok (.isub, 1) := by decide +kernel
theorem dX1_canBeAwakeAt_20 : decode cX1_canBeAwakeAt 20 = .ok (.invokestatic 108, 3) := by decide +kernel
theorem dX1_canBeAwakeAt_23 : decode cX1_canBeAwakeAt 23 = .ok (.iload_n 2, 1) := by decide +kernel
theorem dX1_canBeAwakeAt_24 : decode cX1_canBeAwakeAt 24 = .ok (.bipush 7, 2) := by decide +kernel
theorem dX1_canBeAwakeAt_26 : decode cX1_canBeAwakeAt 26 = .ok (.isub, 1) := by decide +kernel
theorem dX1_canBeAwakeAt_27 : decode cX1_canBeAwakeAt 27 = .ok (.if_icmp .gt 16, 3) := by decide +kernel
theorem dX1_canBeAwakeAt_30 : decode cX1_canBeAwakeAt 30 = .ok (.aload_n 0, 1) := by decide +kernel
theorem dX1_canBeAwakeAt_31 : decode cX1_canBeAwakeAt 31 = .ok (.iload_n 1, 1) := by decide +kernel
theorem dX1_canBeAwakeAt_32 : decode cX1_canBeAwakeAt 32 = .ok (.iload_n 2, 1) := by decide +kernel
theorem dX1_canBeAwakeAt_33 : decode cX1_canBeAwakeAt 33 = .ok (.invokevirtual 88, 3) := by decide +kernel
theorem dX1_canBeAwakeAt_36 : decode cX1_canBeAwakeAt 36 = .ok (.ifCond .ne 7, 3) := by decide +kernel
theorem dX1_canBeAwakeAt_39 : decode cX1_canBeAwakeAt 39 = .ok (.iconst 1, 1) := by decide +kernel
theorem dX1_canBeAwakeAt_40 : decode cX1_canBeAwakeAt 40 = .ok (.goto 4, 3) := by decide +kernel
theorem dX1_canBeAwakeAt_43 : decode cX1_canBeAwakeAt 43 = .ok (.iconst 0, 1) := by decide +kernel
theorem dX1_canBeAwakeAt_44 : decode cX1_canBeAwakeAt 44 = .ok (.ireturn, 1) := by decide +kernel
theorem dX1_awakeAt_0 : decode cX1_awakeAt 0 = .ok (.iconst 0, 1) := by decide +kernel
theorem dX1_awakeAt_1 : decode cX1_awakeAt 1 = .ok (.istore_n 3, 1) := by decide +kernel
theorem dX1_awakeAt_2 : decode cX1_awakeAt 2 = .ok (.iconst 0, 1) := by decide +kernel
theorem dX1_awakeAt_3 : decode cX1_awakeAt 3 = .ok (.istore 4, 2) := by decide +kernel
theorem dX1_awakeAt_5 : decode cX1_awakeAt 5 = .ok (.iload 4, 2) := by decide +kernel
theorem dX1_awakeAt_7 : decode cX1_awakeAt 7 = .ok (.aload_n 0, 1) := by decide +kernel
theorem dX1_awakeAt_8 : decode cX1_awakeAt 8 = .ok (.getfield 40, 3) := by decide +kernel
theorem dX1_awakeAt_11 : decode cX1_awakeAt 11 = .ok (.if_icmp .ge 32, 3) := by decide +kernel
theorem dX1_awakeAt_14 : decode cX1_awakeAt 14 = .ok (.aload_n 0, 1) := by decide +kernel
theorem dX1_awakeAt_15 : decode cX1_awakeAt 15 = .ok (.iload 4, 2) := by decide +kernel
theorem dX1_awakeAt_17 : decode cX1_awakeAt 17 = .ok (.invokevirtual 71, 3) := by decide +kernel
theorem dX1_awakeAt_20 : decode cX1_awakeAt 20 = .ok (.ifCond .ne 17, 3) := by decide +kernel
theorem dX1_awakeAt_23 : decode cX1_awakeAt 23 = .ok (.aload_n 0, 1) := by decide +kernel
theorem dX1_awakeAt_24 : decode cX1_awakeAt 24 = .ok (.iload 4, 2) := by decide +kernel
theorem dX1_awakeAt_26 : decode cX1_awakeAt 26 = .ok (.iload_n 1, 1) := by decide +kernel
theorem dX1_awakeAt_27 : decode cX1_awakeAt 27 = .ok (.iload_n 2, 1) := by decide +kernel
theorem dX1_awakeAt_28 : decode cX1_awakeAt 28 = .ok (.invokevirtual 111, 3) := by decide +kernel
theorem dX1_awakeAt_31 : decode cX1_awakeAt 31 = .ok (.ifCond .eq 6, 3) := by decide +kernel
theorem dX1_awakeAt_34 : decode cX1_awakeAt 34 = .ok (.iinc 3 1, 3) := by decide +kernel
theorem dX1_awakeAt_37 : decode cX1_awakeAt 37 = .ok (.iinc 4 1, 3) := by decide +kernel
theorem dX1_awakeAt_40 : decode cX1_awakeAt 40 = .ok (.goto (-35), 3) := by decide +kernel
theorem dX1_awakeAt_43 : decode cX1_awakeAt 43 = .ok (.iload_n 3, 1) := by decide +kernel
theorem dX1_awakeAt_44 : decode cX1_awakeAt 44 = .ok (.ireturn, 1) := by decide +kernel
theorem dX1_kindsThatFit_0 : decode cX1_kindsThatFit 0 = .ok (.iconst 0, 1) := by decide +kernel
theorem dX1_kindsThatFit_1 : decode cX1_kindsThatFit 1 = .ok (.istore_n 2, 1) := by decide +kernel
theorem dX1_kindsThatFit_2 : decode cX1_kindsThatFit 2 = .ok (.iconst 0, 1) := by decide +kernel
theorem dX1_kindsThatFit_3 : decode cX1_kindsThatFit 3 = .ok (.istore_n 3, 1) := by decide +kernel
theorem dX1_kindsThatFit_4 : decode cX1_kindsThatFit 4 = .ok (.iload_n 3, 1) := by decide +kernel
theorem dX1_kindsThatFit_5 : decode cX1_kindsThatFit 5 = .ok (.bipush 6, 2) := by decide +kernel
theorem dX1_kindsThatFit_7 : decode cX1_kindsThatFit 7 = .ok (.if_icmp .ge 24, 3) := by decide +kernel
theorem dX1_kindsThatFit_10 : decode cX1_kindsThatFit 10 = .ok (.aload_n 0, 1) := by decide +kernel
theorem dX1_kindsThatFit_11 : decode cX1_kindsThatFit 11 = .ok (.iload_n 3, 1) := by decide +kernel
theorem dX1_kindsThatFit_12 : decode cX1_kindsThatFit 12 = .ok (.iload_n 1, 1) := by decide +kernel
theorem dX1_kindsThatFit_13 : decode cX1_kindsThatFit 13 = .ok (.invokevirtual 115, 3) := by decide +kernel
theorem dX1_kindsThatFit_16 : decode cX1_kindsThatFit 16 = .ok (.ifCond .eq 9, 3) := by decide +kernel
theorem dX1_kindsThatFit_19 : decode cX1_kindsThatFit 19 = .ok (.iload_n 2, 1) := by decide +kernel
theorem dX1_kindsThatFit_20 : decode cX1_kindsThatFit 20 = .ok (.iconst 1, 1) := by decide +kernel
theorem dX1_kindsThatFit_21 : decode cX1_kindsThatFit 21 = .ok (.iload_n 3, 1) := by decide +kernel
theorem dX1_kindsThatFit_22 : decode cX1_kindsThatFit 22 = .ok (.ishl, 1) := by decide +kernel
theorem dX1_kindsThatFit_23 : decode cX1_kindsThatFit 23 = .ok (.ior, 1) := by decide +kernel
theorem dX1_kindsThatFit_24 : decode cX1_kindsThatFit 24 = .ok (.istore_n 2, 1) := by decide +kernel
theorem dX1_kindsThatFit_25 : decode cX1_kindsThatFit 25 = .ok (.iinc 3 1, 3) := by decide +kernel
theorem dX1_kindsThatFit_28 : decode cX1_kindsThatFit 28 = .ok (.goto (-24), 3) := by decide +kernel
theorem dX1_kindsThatFit_31 : decode cX1_kindsThatFit 31 = .ok (.iload_n 2, 1) := by decide +kernel
theorem dX1_kindsThatFit_32 : decode cX1_kindsThatFit 32 = .ok (.ireturn, 1) := by decide +kernel
theorem dX1_fitsNotes_0 : decode cX1_fitsNotes 0 = .ok (.iconst 0, 1) := by decide +kernel
theorem dX1_fitsNotes_1 : decode cX1_fitsNotes 1 = .ok (.istore_n 3, 1) := by decide +kernel
theorem dX1_fitsNotes_2 : decode cX1_fitsNotes 2 = .ok (.iload_n 3, 1) := by decide +kernel
theorem dX1_fitsNotes_3 : decode cX1_fitsNotes 3 = .ok (.aload_n 0, 1) := by decide +kernel
theorem dX1_fitsNotes_4 : decode cX1_fitsNotes 4 = .ok (.getfield 50, 3) := by decide +kernel
theorem dX1_fitsNotes_7 : decode cX1_fitsNotes 7 = .ok (.if_icmp .ge 82, 3) := by decide +kernel
theorem dX1_fitsNotes_10 : decode cX1_fitsNotes 10 = .ok (.iload_n 3, 1) := by decide +kernel
theorem dX1_fitsNotes_11 : decode cX1_fitsNotes 11 = .ok (.iconst 5, 1) := by decide +kernel
theorem dX1_fitsNotes_12 : decode cX1_fitsNotes 12 = .ok (.imul, 1) := by decide +kernel
theorem dX1_fitsNotes_13 : decode cX1_fitsNotes 13 = .ok (.istore 4, 2) := by decide +kernel
theorem dX1_fitsNotes_15 : decode cX1_fitsNotes 15 = .ok (.aload_n 0, 1) := by decide +kernel
theorem dX1_fitsNotes_16 : decode cX1_fitsNotes 16 = .ok (.getfield 27, 3) := by decide +kernel
theorem dX1_fitsNotes_19 : decode cX1_fitsNotes 19 = .ok (.iload 4, 2) := by decide +kernel
theorem dX1_fitsNotes_21 : decode cX1_fitsNotes 21 = .ok (.iaload, 1) := by decide +kernel
theorem dX1_fitsNotes_22 : decode cX1_fitsNotes 22 = .ok (.iload_n 2, 1) := by decide +kernel
theorem dX1_fitsNotes_23 : decode cX1_fitsNotes 23 = .ok (.if_icmp .eq 6, 3) := by decide +kernel
theorem dX1_fitsNotes_26 : decode cX1_fitsNotes 26 = .ok (.goto 57, 3) := by decide +kernel
theorem dX1_fitsNotes_29 : decode cX1_fitsNotes 29 = .ok (.aload_n 0, 1) := by decide +kernel
theorem dX1_fitsNotes_30 : decode cX1_fitsNotes 30 = .ok (.getfield 27, 3) := by decide +kernel
theorem dX1_fitsNotes_33 : decode cX1_fitsNotes 33 = .ok (.iload 4, 2) := by decide +kernel
theorem dX1_fitsNotes_35 : decode cX1_fitsNotes 35 = .ok (.iconst 3, 1) := by decide +kernel
theorem dX1_fitsNotes_36 : decode cX1_fitsNotes 36 = .ok (.iadd, 1) := by decide +kernel
theorem dX1_fitsNotes_37 : decode cX1_fitsNotes 37 = .ok (.iaload, 1) := by decide +kernel
theorem dX1_fitsNotes_38 : decode cX1_fitsNotes 38 = .ok (.bipush 100, 2) := by decide +kernel
theorem dX1_fitsNotes_40 : decode cX1_fitsNotes 40 = .ok (.imul, 1) := by decide +kernel
theorem dX1_fitsNotes_41 : decode cX1_fitsNotes 41 = .ok (.aload_n 0, 1) := by decide +kernel
theorem dX1_fitsNotes_42 : decode cX1_fitsNotes 42 = .ok (.getfield 27, 3) := by decide +kernel
theorem dX1_fitsNotes_45 : decode cX1_fitsNotes 45 = .ok (.iload 4, 2) := by decide +kernel
theorem dX1_fitsNotes_47 : decode cX1_fitsNotes 47 = .ok (.iconst 4, 1) := by decide +kernel
theorem dX1_fitsNotes_48 : decode cX1_fitsNotes 48 = .ok (.iadd, 1) := by decide +kernel
theorem dX1_fitsNotes_49 : decode cX1_fitsNotes 49 = .ok (.iaload, 1) := by decide +kernel
theorem dX1_fitsNotes_50 : decode cX1_fitsNotes 50 = .ok (.iadd, 1) := by decide +kernel
theorem dX1_fitsNotes_51 : decode cX1_fitsNotes 51 = .ok (.istore 5, 2) := by decide +kernel
theorem dX1_fitsNotes_53 : decode cX1_fitsNotes 53 = .ok (.aload_n 0, 1) := by decide +kernel
theorem dX1_fitsNotes_54 : decode cX1_fitsNotes 54 = .ok (.iload_n 1, 1) := by decide +kernel
theorem dX1_fitsNotes_55 : decode cX1_fitsNotes 55 = .ok (.aload_n 0, 1) := by decide +kernel
theorem dX1_fitsNotes_56 : decode cX1_fitsNotes 56 = .ok (.getfield 27, 3) := by decide +kernel
theorem dX1_fitsNotes_59 : decode cX1_fitsNotes 59 = .ok (.iload 4, 2) := by decide +kernel
theorem dX1_fitsNotes_61 : decode cX1_fitsNotes 61 = .ok (.iconst 1, 1) := by decide +kernel
theorem dX1_fitsNotes_62 : decode cX1_fitsNotes 62 = .ok (.iadd, 1) := by decide +kernel
theorem dX1_fitsNotes_63 : decode cX1_fitsNotes 63 = .ok (.iaload, 1) := by decide +kernel
theorem dX1_fitsNotes_64 : decode cX1_fitsNotes 64 = .ok (.aload_n 0, 1) := by decide +kernel
theorem dX1_fitsNotes_65 : decode cX1_fitsNotes 65 = .ok (.getfield 27, 3) := by decide +kernel
theorem dX1_fitsNotes_68 : decode cX1_fitsNotes 68 = .ok (.iload 4, 2) := by decide +kernel
theorem dX1_fitsNotes_70 : decode cX1_fitsNotes 70 = .ok (.iconst 2, 1) := by decide +kernel
theorem dX1_fitsNotes_71 : decode cX1_fitsNotes 71 = .ok (.iadd, 1) := by decide +kernel
theorem dX1_fitsNotes_72 : decode cX1_fitsNotes 72 = .ok (.iaload, 1) := by decide +kernel
theorem dX1_fitsNotes_73 : decode cX1_fitsNotes 73 = .ok (.invokevirtual 118, 3) := by decide +kernel
theorem dX1_fitsNotes_76 : decode cX1_fitsNotes 76 = .ok (.iload 5, 2) := by decide +kernel
theorem dX1_fitsNotes_78 : decode cX1_fitsNotes 78 = .ok (.if_icmp .eq 5, 3) := by decide +kernel
theorem dX1_fitsNotes_81 : decode cX1_fitsNotes 81 = .ok (.iconst 0, 1) := by decide +kernel
theorem dX1_fitsNotes_82 : decode cX1_fitsNotes 82 = .ok (.ireturn, 1) := by decide +kernel
theorem dX1_fitsNotes_83 : decode cX1_fitsNotes 83 = .ok (.iinc 3 1, 3) := by decide +kernel
theorem dX1_fitsNotes_86 : decode cX1_fitsNotes 86 = .ok (.goto (-84), 3) := by decide +kernel
theorem dX1_fitsNotes_89 : decode cX1_fitsNotes 89 = .ok (.iconst 1, 1) := by decide +kernel
theorem dX1_fitsNotes_90 : decode cX1_fitsNotes 90 = .ok (.ireturn, 1) := by decide +kernel
theorem dX1_manner_0 : decode cX1_manner 0 = .ok (.aload_n 0, 1) := by decide +kernel
theorem dX1_manner_1 : decode cX1_manner 1 = .ok (.getfield 36, 3) := by decide +kernel
theorem dX1_manner_4 : decode cX1_manner 4 = .ok (.iload_n 1, 1) := by decide +kernel
theorem dX1_manner_5 : decode cX1_manner 5 = .ok (.aaload, 1) := by decide +kernel
theorem dX1_manner_6 : decode cX1_manner 6 = .ok (.iload_n 3, 1) := by decide +kernel
theorem dX1_manner_7 : decode cX1_manner 7 = .ok (.invokevirtual 85, 3) := by decide +kernel
theorem dX1_manner_10 : decode cX1_manner 10 = .ok (.ifCond .eq 8, 3) := by decide +kernel
theorem dX1_manner_13 : decode cX1_manner 13 = .ok (.bipush 100, 2) := by decide +kernel
theorem dX1_manner_15 : decode cX1_manner 15 = .ok (.goto 13, 3) := by decide +kernel
theorem dX1_manner_18 : decode cX1_manner 18 = .ok (.aload_n 0, 1) := by decide +kernel
theorem dX1_manner_19 : decode cX1_manner 19 = .ok (.getfield 36, 3) := by decide +kernel
theorem dX1_manner_22 : decode cX1_manner 22 = .ok (.iload_n 1, 1) := by decide +kernel
theorem dX1_manner_23 : decode cX1_manner 23 = .ok (.aaload, 1) := by decide +kernel
theorem dX1_manner_24 : decode cX1_manner 24 = .ok (.iload_n 2, 1) := by decide +kernel
theorem dX1_manner_25 : decode cX1_manner 25 = .ok (.invokevirtual 92, 3) := by decide +kernel
theorem dX1_manner_28 : decode cX1_manner 28 = .ok (.ireturn, 1) := by decide +kernel
theorem dX1_mostAlike_0 : decode cX1_mostAlike 0 = .ok (.iconst 0, 1) := by decide +kernel
theorem dX1_mostAlike_1 : decode cX1_mostAlike 1 = .ok (.istore 4, 2) := by decide +kernel
theorem dX1_mostAlike_3 : decode cX1_mostAlike 3 = .ok (.iconst 0, 1) := by decide +kernel
theorem dX1_mostAlike_4 : decode cX1_mostAlike 4 = .ok (.istore 5, 2) := by decide +kernel
theorem dX1_mostAlike_6 : decode cX1_mostAlike 6 = .ok (.iload 5, 2) := by decide +kernel
theorem dX1_mostAlike_8 : decode cX1_mostAlike 8 = .ok (.bipush 6, 2) := by decide +kernel
theorem dX1_mostAlike_10 : decode cX1_mostAlike 10 = .ok (.if_icmp .ge 81, 3) := by decide +kernel
theorem dX1_mostAlike_13 : decode cX1_mostAlike 13 = .ok (.iload_n 1, 1) := by decide +kernel
theorem dX1_mostAlike_14 : decode cX1_mostAlike 14 = .ok (.iload 5, 2) := by decide +kernel
theorem dX1_mostAlike_16 : decode cX1_mostAlike 16 = .ok (.ishr, 1) := by decide +kernel
theorem dX1_mostAlike_17 : decode cX1_mostAlike 17 = .ok (.iconst 1, 1) := by decide +kernel
theorem dX1_mostAlike_18 : decode cX1_mostAlike 18 = .ok (.iand, 1) := by decide +kernel
theorem dX1_mostAlike_19 : decode cX1_mostAlike 19 = .ok (.ifCond .ne 6, 3) := by decide +kernel
theorem dX1_mostAlike_22 : decode cX1_mostAlike 22 = .ok (.goto 63, 3) := by decide +kernel
theorem dX1_mostAlike_25 : decode cX1_mostAlike 25 = .ok (.iconst 0, 1) := by decide +kernel
theorem dX1_mostAlike_26 : decode cX1_mostAlike 26 = .ok (.istore 6, 2) := by decide +kernel
theorem dX1_mostAlike_28 : decode cX1_mostAlike 28 = .ok (.iconst 0, 1) := by decide +kernel
theorem dX1_mostAlike_29 : decode cX1_mostAlike 29 = .ok (.istore 7, 2) := by decide +kernel
theorem dX1_mostAlike_31 : decode cX1_mostAlike 31 = .ok (.iload 7, 2) := by decide +kernel
theorem dX1_mostAlike_33 : decode cX1_mostAlike 33 = .ok (.bipush 6, 2) := by decide +kernel
theorem dX1_mostAlike_35 : decode cX1_mostAlike 35 = .ok (.if_icmp .ge 41, 3) := by decide +kernel
theorem dX1_mostAlike_38 : decode cX1_mostAlike 38 = .ok (.iload_n 1, 1) := by decide +kernel
theorem dX1_mostAlike_39 : decode cX1_mostAlike 39 = .ok (.iload 7, 2) := by decide +kernel
theorem dX1_mostAlike_41 : decode cX1_mostAlike 41 = .ok (.ishr, 1) := by decide +kernel
theorem dX1_mostAlike_42 : decode cX1_mostAlike 42 = .ok (.iconst 1, 1) := by decide +kernel
theorem dX1_mostAlike_43 : decode cX1_mostAlike 43 = .ok (.iand, 1) := by decide +kernel
theorem dX1_mostAlike_44 : decode cX1_mostAlike 44 = .ok (.iconst 1, 1) := by decide +kernel
theorem dX1_mostAlike_45 : decode cX1_mostAlike 45 = .ok (.if_icmp .ne 25, 3) := by decide +kernel
theorem dX1_mostAlike_48 : decode cX1_mostAlike 48 = .ok (.aload_n 0, 1) := by decide +kernel
theorem dX1_mostAlike_49 : decode cX1_mostAlike 49 = .ok (.iload 7, 2) := by decide +kernel
theorem dX1_mostAlike_51 : decode cX1_mostAlike 51 = .ok (.iload_n 2, 1) := by decide +kernel
theorem dX1_mostAlike_52 : decode cX1_mostAlike 52 = .ok (.iload_n 3, 1) := by decide +kernel
theorem dX1_mostAlike_53 : decode cX1_mostAlike 53 = .ok (.invokevirtual 118, 3) := by decide +kernel
theorem dX1_mostAlike_56 : decode cX1_mostAlike 56 = .ok (.aload_n 0, 1) := by decide +kernel
theorem dX1_mostAlike_57 : decode cX1_mostAlike 57 = .ok (.iload 5, 2) := by decide +kernel
theorem dX1_mostAlike_59 : decode cX1_mostAlike 59 = .ok (.iload_n 2, 1) := by decide +kernel
theorem dX1_mostAlike_60 : decode cX1_mostAlike 60 = .ok (.iload_n 3, 1) := by decide +kernel
theorem dX1_mostAlike_61 : decode cX1_mostAlike 61 = .ok (.invokevirtual 118, 3) := by decide +kernel
theorem dX1_mostAlike_64 : decode cX1_mostAlike 64 = .ok (.if_icmp .ne 6, 3) := by decide +kernel
theorem dX1_mostAlike_67 : decode cX1_mostAlike 67 = .ok (.iinc 6 1, 3) := by decide +kernel
theorem dX1_mostAlike_70 : decode cX1_mostAlike 70 = .ok (.iinc 7 1, 3) := by decide +kernel
theorem dX1_mostAlike_73 : decode cX1_mostAlike 73 = .ok (.goto (-42), 3) := by decide +kernel
theorem dX1_mostAlike_76 : decode cX1_mostAlike 76 = .ok (.iload 4, 2) := by decide +kernel
theorem dX1_mostAlike_78 : decode cX1_mostAlike 78 = .ok (.iload 6, 2) := by decide +kernel
theorem dX1_mostAlike_80 : decode cX1_mostAlike 80 = .ok (.invokestatic 95, 3) := by decide +kernel
theorem dX1_mostAlike_83 : decode cX1_mostAlike 83 = .ok (.istore 4, 2) := by decide +kernel
theorem dX1_mostAlike_85 : decode cX1_mostAlike 85 = .ok (.iinc 5 1, 3) := by decide +kernel
theorem dX1_mostAlike_88 : decode cX1_mostAlike 88 = .ok (.goto (-82), 3) := by decide +kernel
theorem dX1_mostAlike_91 : decode cX1_mostAlike 91 = .ok (.iload 4, 2) := by decide +kernel
theorem dX1_mostAlike_93 : decode cX1_mostAlike 93 = .ok (.ireturn, 1) := by decide +kernel
theorem dX1_mayHaveBeen_0 : decode cX1_mayHaveBeen 0 = .ok (.iconst 0, 1) := by decide +kernel
theorem dX1_mayHaveBeen_1 : decode cX1_mayHaveBeen 1 = .ok (.istore_n 2, 1) := by decide +kernel
theorem dX1_mayHaveBeen_2 : decode cX1_mayHaveBeen 2 = .ok (.iload_n 2, 1) := by decide +kernel
theorem dX1_mayHaveBeen_3 : decode cX1_mayHaveBeen 3 = .ok (.aload_n 0, 1) := by decide +kernel
theorem dX1_mayHaveBeen_4 : decode cX1_mayHaveBeen 4 = .ok (.getfield 53, 3) := by decide +kernel
theorem dX1_mayHaveBeen_7 : decode cX1_mayHaveBeen 7 = .ok (.if_icmp .ge 46, 3) := by decide +kernel
theorem dX1_mayHaveBeen_10 : decode cX1_mayHaveBeen 10 = .ok (.iload_n 2, 1) := by decide +kernel
theorem dX1_mayHaveBeen_11 : decode cX1_mayHaveBeen 11 = .ok (.iconst 2, 1) := by decide +kernel
theorem dX1_mayHaveBeen_12 : decode cX1_mayHaveBeen 12 = .ok (.imul, 1) := by decide +kernel
theorem dX1_mayHaveBeen_13 : decode cX1_mayHaveBeen 13 = .ok (.istore_n 3, 1) := by decide +kernel
theorem dX1_mayHaveBeen_14 : decode cX1_mayHaveBeen 14 = .ok (.aload_n 0, 1) := by decide +kernel
theorem dX1_mayHaveBeen_15 : decode cX1_mayHaveBeen 15 = .ok (.aload_n 0, 1) := by decide +kernel
theorem dX1_mayHaveBeen_16 : decode cX1_mayHaveBeen 16 = .ok (.getfield 30, 3) := by decide +kernel
theorem dX1_mayHaveBeen_19 : decode cX1_mayHaveBeen 19 = .ok (.iload_n 3, 1) := by decide +kernel
theorem dX1_mayHaveBeen_20 : decode cX1_mayHaveBeen 20 = .ok (.iaload, 1) := by decide +kernel
theorem dX1_mayHaveBeen_21 : decode cX1_mayHaveBeen 21 = .ok (.iload_n 1, 1) := by decide +kernel
theorem dX1_mayHaveBeen_22 : decode cX1_mayHaveBeen 22 = .ok (.invokevirtual 88, 3) := by decide +kernel
theorem dX1_mayHaveBeen_25 : decode cX1_mayHaveBeen 25 = .ok (.aload_n 0, 1) := by decide +kernel
theorem dX1_mayHaveBeen_26 : decode cX1_mayHaveBeen 26 = .ok (.getfield 30, 3) := by decide +kernel
theorem dX1_mayHaveBeen_29 : decode cX1_mayHaveBeen 29 = .ok (.iload_n 3, 1) := by decide +kernel
theorem dX1_mayHaveBeen_30 : decode cX1_mayHaveBeen 30 = .ok (.iconst 1, 1) := by decide +kernel
theorem dX1_mayHaveBeen_31 : decode cX1_mayHaveBeen 31 = .ok (.iadd, 1) := by decide +kernel
theorem dX1_mayHaveBeen_32 : decode cX1_mayHaveBeen 32 = .ok (.iaload, 1) := by decide +kernel
theorem dX1_mayHaveBeen_33 : decode cX1_mayHaveBeen 33 = .ok (.iconst 1, 1) := by decide +kernel
theorem dX1_mayHaveBeen_34 : decode cX1_mayHaveBeen 34 = .ok (.if_icmp .ne 7, 3) := by decide +kernel
theorem dX1_mayHaveBeen_37 : decode cX1_mayHaveBeen 37 = .ok (.iconst 1, 1) := by decide +kernel
theorem dX1_mayHaveBeen_38 : decode cX1_mayHaveBeen 38 = .ok (.goto 4, 3) := by decide +kernel
theorem dX1_mayHaveBeen_41 : decode cX1_mayHaveBeen 41 = .ok (.iconst 0, 1) := by decide +kernel
theorem dX1_mayHaveBeen_42 : decode cX1_mayHaveBeen 42 = .ok (.if_icmp .ne 5, 3) := by decide +kernel
theorem dX1_mayHaveBeen_45 : decode cX1_mayHaveBeen 45 = .ok (.iconst 0, 1) := by decide +kernel
theorem dX1_mayHaveBeen_46 : decode cX1_mayHaveBeen 46 = .ok (.ireturn, 1) := by decide +kernel
theorem dX1_mayHaveBeen_47 : decode cX1_mayHaveBeen 47 = .ok (.iinc 2 1, 3) := by decide +kernel
theorem dX1_mayHaveBeen_50 : decode cX1_mayHaveBeen 50 = .ok (.goto (-48), 3) := by decide +kernel
theorem dX1_mayHaveBeen_53 : decode cX1_mayHaveBeen 53 = .ok (.iconst 1, 1) := by decide +kernel
theorem dX1_mayHaveBeen_54 : decode cX1_mayHaveBeen 54 = .ok (.ireturn, 1) := by decide +kernel
theorem dX1_digestFrom_0 : decode cX1_digestFrom 0 = .ok (.lload_n 1, 1) := by decide +kernel
theorem dX1_digestFrom_1 : decode cX1_digestFrom 1 = .ok (.lstore_n 3, 1) := by decide +kernel
theorem dX1_digestFrom_2 : decode cX1_digestFrom 2 = .ok (.iconst 0, 1) := by decide +kernel
theorem dX1_digestFrom_3 : decode cX1_digestFrom 3 = .ok (.istore 5, 2) := by decide +kernel
theorem dX1_digestFrom_5 : decode cX1_digestFrom 5 = .ok (.iload 5, 2) := by decide +kernel
theorem dX1_digestFrom_7 : decode cX1_digestFrom 7 = .ok (.bipush 6, 2) := by decide +kernel
theorem dX1_digestFrom_9 : decode cX1_digestFrom 9 = .ok (.if_icmp .ge 24, 3) := by decide +kernel
theorem dX1_digestFrom_12 : decode cX1_digestFrom 12 = .ok (.ldc2_w 121, 3) := by decide +kernel
theorem dX1_digestFrom_15 : decode cX1_digestFrom 15 = .ok (.lload_n 3, 1) := by decide +kernel
theorem dX1_digestFrom_16 : decode cX1_digestFrom 16 = .ok (.lmul, 1) := by decide +kernel
theorem dX1_digestFrom_17 : decode cX1_digestFrom 17 = .ok (.aload_n 0, 1) := by decide +kernel
theorem dX1_digestFrom_18 : decode cX1_digestFrom 18 = .ok (.getfield 24, 3) := by decide +kernel
theorem dX1_digestFrom_21 : decode cX1_digestFrom 21 = .ok (.iload 5, 2) := by decide +kernel
theorem dX1_digestFrom_23 : decode cX1_digestFrom 23 = .ok (.iaload, 1) := by decide +kernel
theorem dX1_digestFrom_24 : decode cX1_digestFrom 24 = .ok (.i2l, 1) := by decide +kernel
theorem dX1_digestFrom_25 : decode cX1_digestFrom 25 = .ok (.ladd, 1) := by decide +kernel
theorem dX1_digestFrom_26 : decode cX1_digestFrom 26 = .ok (.lstore_n 3, 1) := by decide +kernel
theorem dX1_digestFrom_27 : decode cX1_digestFrom 27 = .ok (.iinc 5 1, 3) := by decide +kernel
theorem dX1_digestFrom_30 : decode cX1_digestFrom 30 = .ok (.goto (-25), 3) := by decide +kernel
theorem dX1_digestFrom_33 : decode cX1_digestFrom 33 = .ok (.iconst 0, 1) := by decide +kernel
theorem dX1_digestFrom_34 : decode cX1_digestFrom 34 = .ok (.istore 5, 2) := by decide +kernel
theorem dX1_digestFrom_36 : decode cX1_digestFrom 36 = .ok (.iload 5, 2) := by decide +kernel
theorem dX1_digestFrom_38 : decode cX1_digestFrom 38 = .ok (.aload_n 0, 1) := by decide +kernel
theorem dX1_digestFrom_39 : decode cX1_digestFrom 39 = .ok (.getfield 40, 3) := by decide +kernel
theorem dX1_digestFrom_42 : decode cX1_digestFrom 42 = .ok (.if_icmp .ge 86, 3) := by decide +kernel
theorem dX1_digestFrom_45 : decode cX1_digestFrom 45 = .ok (.ldc2_w 121, 3) := by decide +kernel
theorem dX1_digestFrom_48 : decode cX1_digestFrom 48 = .ok (.lload_n 3, 1) := by decide +kernel
theorem dX1_digestFrom_49 : decode cX1_digestFrom 49 = .ok (.lmul, 1) := by decide +kernel
theorem dX1_digestFrom_50 : decode cX1_digestFrom 50 = .ok (.aload_n 0, 1) := by decide +kernel
theorem dX1_digestFrom_51 : decode cX1_digestFrom 51 = .ok (.getfield 9, 3) := by decide +kernel
theorem dX1_digestFrom_54 : decode cX1_digestFrom 54 = .ok (.iload 5, 2) := by decide +kernel
theorem dX1_digestFrom_56 : decode cX1_digestFrom 56 = .ok (.iaload, 1) := by decide +kernel
theorem dX1_digestFrom_57 : decode cX1_digestFrom 57 = .ok (.i2l, 1) := by decide +kernel
theorem dX1_digestFrom_58 : decode cX1_digestFrom 58 = .ok (.ladd, 1) := by decide +kernel
theorem dX1_digestFrom_59 : decode cX1_digestFrom 59 = .ok (.lstore_n 3, 1) := by decide +kernel
theorem dX1_digestFrom_60 : decode cX1_digestFrom 60 = .ok (.ldc2_w 121, 3) := by decide +kernel
theorem dX1_digestFrom_63 : decode cX1_digestFrom 63 = .ok (.lload_n 3, 1) := by decide +kernel
theorem dX1_digestFrom_64 : decode cX1_digestFrom 64 = .ok (.lmul, 1) := by decide +kernel
theorem dX1_digestFrom_65 : decode cX1_digestFrom 65 = .ok (.aload_n 0, 1) := by decide +kernel
theorem dX1_digestFrom_66 : decode cX1_digestFrom 66 = .ok (.getfield 15, 3) := by decide +kernel
theorem dX1_digestFrom_69 : decode cX1_digestFrom 69 = .ok (.iload 5, 2) := by decide +kernel
theorem dX1_digestFrom_71 : decode cX1_digestFrom 71 = .ok (.iaload, 1) := by decide +kernel
theorem dX1_digestFrom_72 : decode cX1_digestFrom 72 = .ok (.i2l, 1) := by decide +kernel
theorem dX1_digestFrom_73 : decode cX1_digestFrom 73 = .ok (.ladd, 1) := by decide +kernel
theorem dX1_digestFrom_74 : decode cX1_digestFrom 74 = .ok (.lstore_n 3, 1) := by decide +kernel
theorem dX1_digestFrom_75 : decode cX1_digestFrom 75 = .ok (.ldc2_w 121, 3) := by decide +kernel
theorem dX1_digestFrom_78 : decode cX1_digestFrom 78 = .ok (.lload_n 3, 1) := by decide +kernel
theorem dX1_digestFrom_79 : decode cX1_digestFrom 79 = .ok (.lmul, 1) := by decide +kernel
theorem dX1_digestFrom_80 : decode cX1_digestFrom 80 = .ok (.aload_n 0, 1) := by decide +kernel
theorem dX1_digestFrom_81 : decode cX1_digestFrom 81 = .ok (.getfield 18, 3) := by decide +kernel
theorem dX1_digestFrom_84 : decode cX1_digestFrom 84 = .ok (.iload 5, 2) := by decide +kernel
theorem dX1_digestFrom_86 : decode cX1_digestFrom 86 = .ok (.iaload, 1) := by decide +kernel
theorem dX1_digestFrom_87 : decode cX1_digestFrom 87 = .ok (.i2l, 1) := by decide +kernel
theorem dX1_digestFrom_88 : decode cX1_digestFrom 88 = .ok (.ladd, 1) := by decide +kernel
theorem dX1_digestFrom_89 : decode cX1_digestFrom 89 = .ok (.lstore_n 3, 1) := by decide +kernel
theorem dX1_digestFrom_90 : decode cX1_digestFrom 90 = .ok (.ldc2_w 121, 3) := by decide +kernel
theorem dX1_digestFrom_93 : decode cX1_digestFrom 93 = .ok (.lload_n 3, 1) := by decide +kernel
theorem dX1_digestFrom_94 : decode cX1_digestFrom 94 = .ok (.lmul, 1) := by decide +kernel
theorem dX1_digestFrom_95 : decode cX1_digestFrom 95 = .ok (.aload_n 0, 1) := by decide +kernel
theorem dX1_digestFrom_96 : decode cX1_digestFrom 96 = .ok (.getfield 21, 3) := by decide +kernel
theorem dX1_digestFrom_99 : decode cX1_digestFrom 99 = .ok (.iload 5, 2) := by decide +kernel
theorem dX1_digestFrom_101 : decode cX1_digestFrom 101 = .ok (.iaload, 1) := by decide +kernel
theorem dX1_digestFrom_102 : decode cX1_digestFrom 102 = .ok (.i2l, 1) := by decide +kernel
theorem dX1_digestFrom_103 : decode cX1_digestFrom 103 = .ok (.ladd, 1) := by decide +kernel
theorem dX1_digestFrom_104 : decode cX1_digestFrom 104 = .ok (.lstore_n 3, 1) := by decide +kernel
theorem dX1_digestFrom_105 : decode cX1_digestFrom 105 = .ok (.ldc2_w 121, 3) := by decide +kernel
theorem dX1_digestFrom_108 : decode cX1_digestFrom 108 = .ok (.lload_n 3, 1) := by decide +kernel
theorem dX1_digestFrom_109 : decode cX1_digestFrom 109 = .ok (.lmul, 1) := by decide +kernel
theorem dX1_digestFrom_110 : decode cX1_digestFrom 110 = .ok (.aload_n 0, 1) := by decide +kernel
theorem dX1_digestFrom_111 : decode cX1_digestFrom 111 = .ok (.getfield 44, 3) := by decide +kernel
theorem dX1_digestFrom_114 : decode cX1_digestFrom 114 = .ok (.iload 5, 2) := by decide +kernel
theorem dX1_digestFrom_116 : decode cX1_digestFrom 116 = .ok (.ishr, 1) := by decide +kernel
theorem dX1_digestFrom_117 : decode cX1_digestFrom 117 = .ok (.iconst 1, 1) := by decide +kernel
theorem dX1_digestFrom_118 : decode cX1_digestFrom 118 = .ok (.iand, 1) := by decide +kernel
theorem dX1_digestFrom_119 : decode cX1_digestFrom 119 = .ok (.i2l, 1) := by decide +kernel
theorem dX1_digestFrom_120 : decode cX1_digestFrom 120 = .ok (.ladd, 1) := by decide +kernel
theorem dX1_digestFrom_121 : decode cX1_digestFrom 121 = .ok (.lstore_n 3, 1) := by decide +kernel
theorem dX1_digestFrom_122 : decode cX1_digestFrom 122 = .ok (.iinc 5 1, 3) := by decide +kernel
theorem dX1_digestFrom_125 : decode cX1_digestFrom 125 = .ok (.goto (-89), 3) := by decide +kernel
theorem dX1_digestFrom_128 : decode cX1_digestFrom 128 = .ok (.iconst 0, 1) := by decide +kernel
theorem dX1_digestFrom_129 : decode cX1_digestFrom 129 = .ok (.istore 5, 2) := by decide +kernel
theorem dX1_digestFrom_131 : decode cX1_digestFrom 131 = .ok (.iload 5, 2) := by decide +kernel
theorem dX1_digestFrom_133 : decode cX1_digestFrom 133 = .ok (.aload_n 0, 1) := by decide +kernel
theorem dX1_digestFrom_134 : decode cX1_digestFrom 134 = .ok (.getfield 50, 3) := by decide +kernel
theorem dX1_digestFrom_137 : decode cX1_digestFrom 137 = .ok (.iconst 5, 1) := by decide +kernel
theorem dX1_digestFrom_138 : decode cX1_digestFrom 138 = .ok (.imul, 1) := by decide +kernel
theorem dX1_digestFrom_139 : decode cX1_digestFrom 139 = .ok (.if_icmp .ge 24, 3) := by decide +kernel
theorem dX1_digestFrom_142 : decode cX1_digestFrom 142 = .ok (.ldc2_w 121, 3) := by decide +kernel
theorem dX1_digestFrom_145 : decode cX1_digestFrom 145 = .ok (.lload_n 3, 1) := by decide +kernel
theorem dX1_digestFrom_146 : decode cX1_digestFrom 146 = .ok (.lmul, 1) := by decide +kernel
theorem dX1_digestFrom_147 : decode cX1_digestFrom 147 = .ok (.aload_n 0, 1) := by decide +kernel
theorem dX1_digestFrom_148 : decode cX1_digestFrom 148 = .ok (.getfield 27, 3) := by decide +kernel
theorem dX1_digestFrom_151 : decode cX1_digestFrom 151 = .ok (.iload 5, 2) := by decide +kernel
theorem dX1_digestFrom_153 : decode cX1_digestFrom 153 = .ok (.iaload, 1) := by decide +kernel
theorem dX1_digestFrom_154 : decode cX1_digestFrom 154 = .ok (.i2l, 1) := by decide +kernel
theorem dX1_digestFrom_155 : decode cX1_digestFrom 155 = .ok (.ladd, 1) := by decide +kernel
theorem dX1_digestFrom_156 : decode cX1_digestFrom 156 = .ok (.lstore_n 3, 1) := by decide +kernel
theorem dX1_digestFrom_157 : decode cX1_digestFrom 157 = .ok (.iinc 5 1, 3) := by decide +kernel
theorem dX1_digestFrom_160 : decode cX1_digestFrom 160 = .ok (.goto (-29), 3) := by decide +kernel
theorem dX1_digestFrom_163 : decode cX1_digestFrom 163 = .ok (.iconst 0, 1) := by decide +kernel
theorem dX1_digestFrom_164 : decode cX1_digestFrom 164 = .ok (.istore 5, 2) := by decide +kernel
theorem dX1_digestFrom_166 : decode cX1_digestFrom 166 = .ok (.iload 5, 2) := by decide +kernel
theorem dX1_digestFrom_168 : decode cX1_digestFrom 168 = .ok (.aload_n 0, 1) := by decide +kernel
theorem dX1_digestFrom_169 : decode cX1_digestFrom 169 = .ok (.getfield 53, 3) := by decide +kernel
theorem dX1_digestFrom_172 : decode cX1_digestFrom 172 = .ok (.iconst 2, 1) := by decide +kernel
theorem dX1_digestFrom_173 : decode cX1_digestFrom 173 = .ok (.imul, 1) := by decide +kernel
theorem dX1_digestFrom_174 : decode cX1_digestFrom 174 = .ok (.if_icmp .ge 24, 3) := by decide +kernel
theorem dX1_digestFrom_177 : decode cX1_digestFrom 177 = .ok (.ldc2_w 121, 3) := by decide +kernel
theorem dX1_digestFrom_180 : decode cX1_digestFrom 180 = .ok (.lload_n 3, 1) := by decide +kernel
theorem dX1_digestFrom_181 : decode cX1_digestFrom 181 = .ok (.lmul, 1) := by decide +kernel
theorem dX1_digestFrom_182 : decode cX1_digestFrom 182 = .ok (.aload_n 0, 1) := by decide +kernel
theorem dX1_digestFrom_183 : decode cX1_digestFrom 183 = .ok (.getfield 30, 3) := by decide +kernel
theorem dX1_digestFrom_186 : decode cX1_digestFrom 186 = .ok (.iload 5, 2) := by decide +kernel
theorem dX1_digestFrom_188 : decode cX1_digestFrom 188 = .ok (.iaload, 1) := by decide +kernel
theorem dX1_digestFrom_189 : decode cX1_digestFrom 189 = .ok (.i2l, 1) := by decide +kernel
theorem dX1_digestFrom_190 : decode cX1_digestFrom 190 = .ok (.ladd, 1) := by decide +kernel
theorem dX1_digestFrom_191 : decode cX1_digestFrom 191 = .ok (.lstore_n 3, 1) := by decide +kernel
theorem dX1_digestFrom_192 : decode cX1_digestFrom 192 = .ok (.iinc 5 1, 3) := by decide +kernel
theorem dX1_digestFrom_195 : decode cX1_digestFrom 195 = .ok (.goto (-29), 3) := by decide +kernel
theorem dX1_digestFrom_198 : decode cX1_digestFrom 198 = .ok (.lload_n 3, 1) := by decide +kernel
theorem dX1_digestFrom_199 : decode cX1_digestFrom 199 = .ok (.lreturn, 1) := by decide +kernel
theorem dX2_init_0 : decode cX2_init 0 = .ok (.aload_n 0, 1) := by decide +kernel
theorem dX2_init_1 : decode cX2_init 1 = .ok (.invokespecial 3, 3) := by decide +kernel
theorem dX2_init_4 : decode cX2_init 4 = .ok (.aload_n 0, 1) := by decide +kernel
theorem dX2_init_5 : decode cX2_init 5 = .ok (.sipush 150, 3) := by decide +kernel
theorem dX2_init_8 : decode cX2_init 8 = .ok (.newarray .byte, 2) := by decide +kernel
theorem dX2_init_10 : decode cX2_init 10 = .ok (.putfield 9, 3) := by decide +kernel
theorem dX2_init_13 : decode cX2_init 13 = .ok (.aload_n 0, 1) := by decide +kernel
theorem dX2_init_14 : decode cX2_init 14 = .ok (.aload_n 1, 1) := by decide +kernel
theorem dX2_init_15 : decode cX2_init 15 = .ok (.putfield 15, 3) := by decide +kernel
theorem dX2_init_18 : decode cX2_init 18 = .ok (.return_, 1) := by decide +kernel
theorem dX2_append_0 : decode cX2_append 0 = .ok (.aload_n 0, 1) := by decide +kernel
theorem dX2_append_1 : decode cX2_append 1 = .ok (.getfield 19, 3) := by decide +kernel
theorem dX2_append_4 : decode cX2_append 4 = .ok (.sipush 150, 3) := by decide +kernel
theorem dX2_append_7 : decode cX2_append 7 = .ok (.if_icmp .lt 4, 3) := by decide +kernel
theorem dX2_append_10 : decode cX2_append 10 = .ok (.return_, 1) := by decide +kernel
theorem dX2_append_11 : decode cX2_append 11 = .ok (.aload_n 0, 1) := by decide +kernel
theorem dX2_append_12 : decode cX2_append 12 = .ok (.getfield 9, 3) := by decide +kernel
theorem dX2_append_15 : decode cX2_append 15 = .ok (.aload_n 0, 1) := by decide +kernel
theorem dX2_append_16 : decode cX2_append 16 = .ok (.getfield 19, 3) := by decide +kernel
theorem dX2_append_19 : decode cX2_append 19 = .ok (.iload_n 1, 1) := by decide +kernel
theorem dX2_append_20 : decode cX2_append 20 = .ok (.i2b, 1) := by decide +kernel
theorem dX2_append_21 : decode cX2_append 21 = .ok (.bastore, 1) := by decide +kernel
theorem dX2_append_22 : decode cX2_append 22 = .ok (.aload_n 0, 1) := by decide +kernel
theorem dX2_append_23 : decode cX2_append 23 = .ok (.dup, 1) := by decide +kernel
theorem dX2_append_24 : decode cX2_append 24 = .ok (.getfield 19, 3) := by decide +kernel
theorem dX2_append_27 : decode cX2_append 27 = .ok (.iconst 1, 1) := by decide +kernel
theorem dX2_append_28 : decode cX2_append 28 = .ok (.iadd, 1) := by decide +kernel
theorem dX2_append_29 : decode cX2_append 29 = .ok (.putfield 19, 3) := by decide +kernel
theorem dX2_append_32 : decode cX2_append 32 = .ok (.return_, 1) := by decide +kernel
theorem dX2_readCourt_0 : decode cX2_readCourt 0 = .ok (.aload_n 0, 1) := by decide +kernel
theorem dX2_readCourt_1 : decode cX2_readCourt 1 = .ok (.iconst 0, 1) := by decide +kernel
theorem dX2_readCourt_2 : decode cX2_readCourt 2 = .ok (.putfield 23, 3) := by decide +kernel
theorem dX2_readCourt_5 : decode cX2_readCourt 5 = .ok (.aload_n 0, 1) := by decide +kernel
theorem dX2_readCourt_6 : decode cX2_readCourt 6 = .ok (.getfield 15, 3) := by decide +kernel
theorem dX2_readCourt_9 : decode cX2_readCourt 9 = .ok (.invokevirtual 26, 3) := by decide +kernel
theorem dX2_readCourt_12 : decode cX2_readCourt 12 = .ok (.aload_n 0, 1) := by decide +kernel
theorem dX2_readCourt_13 : decode cX2_readCourt 13 = .ok (.invokevirtual 31, 3) := by decide +kernel
theorem dX2_readCourt_16 : decode cX2_readCourt 16 = .ok (.iconst 0, 1) := by decide +kernel
theorem dX2_readCourt_17 : decode cX2_readCourt 17 = .ok (.istore_n 1, 1) := by decide +kernel
theorem dX2_readCourt_18 : decode cX2_readCourt 18 = .ok (.iconst 0, 1) := by decide +kernel
theorem dX2_readCourt_19 : decode cX2_readCourt 19 = .ok (.istore_n 2, 1) := by decide +kernel
theorem dX2_readCourt_20 : decode cX2_readCourt 20 = .ok (.iload_n 2, 1) := by decide +kernel
theorem dX2_readCourt_21 : decode cX2_readCourt 21 = .ok (.aload_n 0, 1) := by decide +kernel
theorem dX2_readCourt_22 : decode cX2_readCourt 22 = .ok (.getfield 19, 3) := by decide +kernel
theorem dX2_readCourt_25 : decode cX2_readCourt 25 = .ok (.if_icmp .gt 48, 3) := by decide +kernel
theorem dX2_readCourt_28 : decode cX2_readCourt 28 = .ok (.aload_n 0, 1) := by decide +kernel
theorem dX2_readCourt_29 : decode cX2_readCourt 29 = .ok (.getfield 34, 3) := by decide +kernel
theorem dX2_readCourt_32 : decode cX2_readCourt 32 = .ok (.ifCond .ne 9, 3) := by decide +kernel
theorem dX2_readCourt_35 : decode cX2_readCourt 35 = .ok (.iload_n 1, 1) := by decide +kernel
theorem dX2_readCourt_36 : decode cX2_readCourt 36 = .ok (.ifCond .le 5, 3) := by decide +kernel
theorem dX2_readCourt_39 : decode cX2_readCourt 39 = .ok (.iload_n 1, 1) := by decide +kernel
theorem dX2_readCourt_40 : decode cX2_readCourt 40 = .ok (.ireturn, 1) := by decide +kernel
theorem dX2_readCourt_41 : decode cX2_readCourt 41 = .ok (.iload_n 1, 1) := by decide +kernel
theorem dX2_readCourt_42 : decode cX2_readCourt 42 = .ok (.ifCond .ne 10, 3) := by decide +kernel
theorem dX2_readCourt_45 : decode cX2_readCourt 45 = .ok (.aload_n 0, 1) := by decide +kernel
theorem dX2_readCourt_46 : decode cX2_readCourt 46 = .ok (.invokevirtual 37, 3) := by decide +kernel
theorem dX2_readCourt_49 : decode cX2_readCourt 49 = .ok (.goto 7, 3) := by decide +kernel
theorem dX2_readCourt_52 : decode cX2_readCourt 52 = .ok (.aload_n 0, 1) := by decide +kernel
theorem dX2_readCourt_53 : decode cX2_readCourt 53 = .ok (.invokevirtual 41, 3) := by decide +kernel
theorem dX2_readCourt_56 : decode cX2_readCourt 56 = .ok (.istore_n 3, 1) := by decide +kernel
theorem dX2_readCourt_57 : decode cX2_readCourt 57 = .ok (.iload_n 3, 1) := by decide +kernel
theorem dX2_readCourt_58 : decode cX2_readCourt 58 = .ok (.ifCond .ne 6, 3) := by decide +kernel
theorem dX2_readCourt_61 : decode cX2_readCourt 61 = .ok (.goto 12, 3) := by decide +kernel
theorem dX2_readCourt_64 : decode cX2_readCourt 64 = .ok (.iinc 1 1, 3) := by decide +kernel
theorem dX2_readCourt_67 : decode cX2_readCourt 67 = .ok (.iinc 2 1, 3) := by decide +kernel
theorem dX2_readCourt_70 : decode cX2_readCourt 70 = .ok (.goto (-50), 3) := by decide +kernel
theorem dX2_readCourt_73 : decode cX2_readCourt 73 = .ok (.bipush (-10), 2) := by decide +kernel
theorem dX2_readCourt_75 : decode cX2_readCourt 75 = .ok (.aload_n 0, 1) := by decide +kernel
theorem dX2_readCourt_76 : decode cX2_readCourt 76 = .ok (.getfield 44, 3) := by decide +kernel
theorem dX2_readCourt_79 : decode cX2_readCourt 79 = .ok (.isub, 1) := by decide +kernel
theorem dX2_readCourt_80 : decode cX2_readCourt 80 = .ok (.ireturn, 1) := by decide +kernel
theorem dX2_readOpening_0 : decode cX2_readOpening 0 = .ok (.aload_n 0, 1) := by decide +kernel
theorem dX2_readOpening_1 : decode cX2_readOpening 1 = .ok (.ldc 47, 2) := by decide +kernel
theorem dX2_readOpening_3 : decode cX2_readOpening 3 = .ok (.invokevirtual 49, 3) := by decide +kernel
theorem dX2_readOpening_6 : decode cX2_readOpening 6 = .ok (.ifCond .ne 5, 3) := by decide +kernel
theorem dX2_readOpening_9 : decode cX2_readOpening 9 = .ok (.iconst 0, 1) := by decide +kernel
theorem dX2_readOpening_10 : decode cX2_readOpening 10 = .ok (.ireturn, 1) := by decide +kernel
theorem dX2_readOpening_11 : decode cX2_readOpening 11 = .ok (.aload_n 0, 1) := by decide +kernel
theorem dX2_readOpening_12 : decode cX2_readOpening 12 = .ok (.invokevirtual 31, 3) := by decide +kernel
theorem dX2_readOpening_15 : decode cX2_readOpening 15 = .ok (.aload_n 0, 1) := by decide +kernel
theorem dX2_readOpening_16 : decode cX2_readOpening 16 = .ok (.invokevirtual 53, 3) := by decide +kernel
theorem dX2_readOpening_19 : decode cX2_readOpening 19 = .ok (.ireturn, 1) := by decide +kernel
theorem dX2_readItem_0 : decode cX2_readItem 0 = .ok (.aload_n 0, 1) := by decide +kernel
theorem dX2_readItem_1 : decode cX2_readItem 1 = .ok (.ldc 56, 2) := by decide +kernel
theorem dX2_readItem_3 : decode cX2_readItem 3 = .ok (.invokevirtual 49, 3) := by decide +kernel
theorem dX2_readItem_6 : decode cX2_readItem 6 = .ok (.ifCond .eq 8, 3) := by decide +kernel
theorem dX2_readItem_9 : decode cX2_readItem 9 = .ok (.aload_n 0, 1) := by decide +kernel
theorem dX2_readItem_10 : decode cX2_readItem 10 = .ok (.invokevirtual 58, 3) := by decide +kernel
theorem dX2_readItem_13 : decode cX2_readItem 13 = .ok (.ireturn, 1) := by decide +kernel
theorem dX2_readItem_14 : decode cX2_readItem 14 = .ok (.aload_n 0, 1) := by decide +kernel
theorem dX2_readItem_15 : decode cX2_readItem 15 = .ok (.ldc 61, 2) := by decide +kernel
theorem dX2_readItem_17 : decode cX2_readItem 17 = .ok (.invokevirtual 49, 3) := by decide +kernel
theorem dX2_readItem_20 : decode cX2_readItem 20 = .ok (.ifCond .eq 8, 3) := by decide +kernel
theorem dX2_readItem_23 : decode cX2_readItem 23 = .ok (.aload_n 0, 1) := by decide +kernel
theorem dX2_readItem_24 : decode cX2_readItem 24 = .ok (.invokevirtual 63, 3) := by decide +kernel
theorem dX2_readItem_27 : decode cX2_readItem 27 = .ok (.ireturn, 1) := by decide +kernel
theorem dX2_readItem_28 : decode cX2_readItem 28 = .ok (.aload_n 0, 1) := by decide +kernel
theorem dX2_readItem_29 : decode cX2_readItem 29 = .ok (.ldc 66, 2) := by decide +kernel
theorem dX2_readItem_31 : decode cX2_readItem 31 = .ok (.invokevirtual 49, 3) := by decide +kernel
theorem dX2_readItem_34 : decode cX2_readItem 34 = .ok (.ifCond .eq 8, 3) := by decide +kernel
theorem dX2_readItem_37 : decode cX2_readItem 37 = .ok (.aload_n 0, 1) := by decide +kernel
theorem dX2_readItem_38 : decode cX2_readItem 38 = .ok (.invokevirtual 68, 3) := by decide +kernel
theorem dX2_readItem_41 : decode cX2_readItem 41 = .ok (.ireturn, 1) := by decide +kernel
theorem dX2_readItem_42 : decode cX2_readItem 42 = .ok (.iconst 0, 1) := by decide +kernel
theorem dX2_readItem_43 : decode cX2_readItem 43 = .ok (.ireturn, 1) := by decide +kernel
theorem dX2_readInfant_0 : decode cX2_readInfant 0 = .ok (.aload_n 0, 1) := by decide +kernel
theorem dX2_readInfant_1 : decode cX2_readInfant 1 = .ok (.getfield 15, 3) := by decide +kernel
theorem dX2_readInfant_4 : decode cX2_readInfant 4 = .ok (.getfield 71, 3) := by decide +kernel
theorem dX2_readInfant_7 : decode cX2_readInfant 7 = .ok (.bipush 6, 2) := by decide +kernel
theorem dX2_readInfant_9 : decode cX2_readInfant 9 = .ok (.if_icmp .lt 5, 3) := by decide +kernel
theorem dX2_readInfant_12 : decode cX2_readInfant 12 = .ok (.iconst 0, 1) := by decide +kernel
theorem dX2_readInfant_13 : decode cX2_readInfant 13 = .ok (.ireturn, 1) := by decide +kernel
theorem dX2_readInfant_14 : decode cX2_readInfant 14 = .ok (.aload_n 0, 1) := by decide +kernel
theorem dX2_readInfant_15 : decode cX2_readInfant 15 = .ok (.invokevirtual 31, 3) := by decide +kernel
theorem dX2_readInfant_18 : decode cX2_readInfant 18 = .ok (.aload_n 0, 1) := by decide +kernel
theorem dX2_readInfant_19 : decode cX2_readInfant 19 = .ok (.iconst 5, 1) := by decide +kernel
theorem dX2_readInfant_20 : decode cX2_readInfant 20 = .ok (.invokevirtual 74, 3) := by decide +kernel
theorem dX2_readInfant_23 : decode cX2_readInfant 23 = .ok (.istore_n 1, 1) := by decide +kernel
theorem dX2_readInfant_24 : decode cX2_readInfant 24 = .ok (.iload_n 1, 1) := by decide +kernel
theorem dX2_readInfant_25 : decode cX2_readInfant 25 = .ok (.iconst (-1), 1) := by decide +kernel
theorem dX2_readInfant_26 : decode cX2_readInfant 26 = .ok (.if_icmp .ne 5, 3) := by decide +kernel
theorem dX2_readInfant_29 : decode cX2_readInfant 29 = .ok (.iconst 0, 1) := by decide +kernel
theorem dX2_readInfant_30 : decode cX2_readInfant 30 = .ok (.ireturn, 1) := by decide +kernel
theorem dX2_readInfant_31 : decode cX2_readInfant 31 = .ok (.aload_n 0, 1) := by decide +kernel
theorem dX2_readInfant_32 : decode cX2_readInfant 32 = .ok (.bipush 35, 2) := by decide +kernel
theorem dX2_readInfant_34 : decode cX2_readInfant 34 = .ok (.invokevirtual 74, 3) := by decide +kernel
theorem dX2_readInfant_37 : decode cX2_readInfant 37 = .ok (.istore_n 2, 1) := by decide +kernel
theorem dX2_readInfant_38 : decode cX2_readInfant 38 = .ok (.iload_n 2, 1) := by decide +kernel
theorem dX2_readInfant_39 : decode cX2_readInfant 39 = .ok (.iconst (-1), 1) := by decide +kernel
theorem dX2_readInfant_40 : decode cX2_readInfant 40 = .ok (.if_icmp .ne 5, 3) := by decide +kernel
theorem dX2_readInfant_43 : decode cX2_readInfant 43 = .ok (.iconst 0, 1) := by decide +kernel
theorem dX2_readInfant_44 : decode cX2_readInfant 44 = .ok (.ireturn, 1) := by decide +kernel
theorem dX2_readInfant_45 : decode cX2_readInfant 45 = .ok (.aload_n 0, 1) := by decide +kernel
theorem dX2_readInfant_46 : decode cX2_readInfant 46 = .ok (.iconst 5, 1) := by decide +kernel
theorem dX2_readInfant_47 : decode cX2_readInfant 47 = .ok (.invokevirtual 74, 3) := by decide +kernel
theorem dX2_readInfant_50 : decode cX2_readInfant 50 = .ok (.istore_n 3, 1) := by decide +kernel
theorem dX2_readInfant_51 : decode cX2_readInfant 51 = .ok (.iload_n 3, 1) := by decide +kernel
theorem dX2_readInfant_52 : decode cX2_readInfant 52 = .ok (.iconst (-1), 1) := by decide +kernel
theorem dX2_readInfant_53 : decode cX2_readInfant 53 = .ok (.if_icmp .ne 5, 3) := by decide +kernel
theorem dX2_readInfant_56 : decode cX2_readInfant 56 = .ok (.iconst 0, 1) := by decide +kernel
theorem dX2_readInfant_57 : decode cX2_readInfant 57 = .ok (.ireturn, 1) := by decide +kernel
theorem dX2_readInfant_58 : decode cX2_readInfant 58 = .ok (.aload_n 0, 1) := by decide +kernel
theorem dX2_readInfant_59 : decode cX2_readInfant 59 = .ok (.getfield 15, 3) := by decide +kernel
theorem dX2_readInfant_62 : decode cX2_readInfant 62 = .ok (.iload_n 1, 1) := by decide +kernel
theorem dX2_readInfant_63 : decode cX2_readInfant 63 = .ok (.iload_n 2, 1) := by decide +kernel
theorem dX2_readInfant_64 : decode cX2_readInfant 64 = .ok (.iload_n 3, 1) := by decide +kernel
theorem dX2_readInfant_65 : decode cX2_readInfant 65 = .ok (.invokevirtual 78, 3) := by decide +kernel
theorem dX2_readInfant_68 : decode cX2_readInfant 68 = .ok (.aload_n 0, 1) := by decide +kernel
theorem dX2_readInfant_69 : decode cX2_readInfant 69 = .ok (.invokevirtual 53, 3) := by decide +kernel
theorem dX2_readInfant_72 : decode cX2_readInfant 72 = .ok (.ireturn, 1) := by decide +kernel
theorem dX2_readSkill_0 : decode cX2_readSkill 0 = .ok (.aload_n 0, 1) := by decide +kernel
theorem dX2_readSkill_1 : decode cX2_readSkill 1 = .ok (.invokevirtual 31, 3) := by decide +kernel
theorem dX2_readSkill_4 : decode cX2_readSkill 4 = .ok (.aload_n 0, 1) := by decide +kernel
theorem dX2_readSkill_5 : decode cX2_readSkill 5 = .ok (.iconst 5, 1) := by decide +kernel
theorem dX2_readSkill_6 : decode cX2_readSkill 6 = .ok (.invokevirtual 74, 3) := by decide +kernel
theorem dX2_readSkill_9 : decode cX2_readSkill 9 = .ok (.istore_n 1, 1) := by decide +kernel
theorem dX2_readSkill_10 : decode cX2_readSkill 10 = .ok (.iload_n 1, 1) := by decide +kernel
theorem dX2_readSkill_11 : decode cX2_readSkill 11 = .ok (.iconst (-1), 1) := by decide +kernel
theorem dX2_readSkill_12 : decode cX2_readSkill 12 = .ok (.if_icmp .ne 5, 3) := by decide +kernel
theorem dX2_readSkill_15 : decode cX2_readSkill 15 = .ok (.iconst 0, 1) := by decide +kernel
theorem dX2_readSkill_16 : decode cX2_readSkill 16 = .ok (.ireturn, 1) := by decide +kernel
theorem dX2_readSkill_17 : decode cX2_readSkill 17 = .ok (.aload_n 0, 1) := by decide +kernel
theorem dX2_readSkill_18 : decode cX2_readSkill 18 = .ok (.bipush 9, 2) := by decide +kernel
theorem dX2_readSkill_20 : decode cX2_readSkill 20 = .ok (.invokevirtual 74, 3) := by decide +kernel
theorem dX2_readSkill_23 : decode cX2_readSkill 23 = .ok (.istore_n 2, 1) := by decide +kernel
theorem dX2_readSkill_24 : decode cX2_readSkill 24 = .ok (.iload_n 2, 1) := by decide +kernel
theorem dX2_readSkill_25 : decode cX2_readSkill 25 = .ok (.iconst (-1), 1) := by decide +kernel
theorem dX2_readSkill_26 : decode cX2_readSkill 26 = .ok (.if_icmp .ne 5, 3) := by decide +kernel
theorem dX2_readSkill_29 : decode cX2_readSkill 29 = .ok (.iconst 0, 1) := by decide +kernel
theorem dX2_readSkill_30 : decode cX2_readSkill 30 = .ok (.ireturn, 1) := by decide +kernel
theorem dX2_readSkill_31 : decode cX2_readSkill 31 = .ok (.aload_n 0, 1) := by decide +kernel
theorem dX2_readSkill_32 : decode cX2_readSkill 32 = .ok (.getfield 15, 3) := by decide +kernel
theorem dX2_readSkill_35 : decode cX2_readSkill 35 = .ok (.iload_n 1, 1) := by decide +kernel
theorem dX2_readSkill_36 : decode cX2_readSkill 36 = .ok (.iload_n 2, 1) := by decide +kernel
theorem dX2_readSkill_37 : decode cX2_readSkill 37 = .ok (.invokevirtual 82, 3) := by decide +kernel
theorem dX2_readSkill_40 : decode cX2_readSkill 40 = .ok (.aload_n 0, 1) := by decide +kernel
theorem dX2_readSkill_41 : decode cX2_readSkill 41 = .ok (.invokevirtual 53, 3) := by decide +kernel
theorem dX2_readSkill_44 : decode cX2_readSkill 44 = .ok (.ireturn, 1) := by decide +kernel
theorem dX2_readNurse_0 : decode cX2_readNurse 0 = .ok (.aload_n 0, 1) := by decide +kernel
theorem dX2_readNurse_1 : decode cX2_readNurse 1 = .ok (.invokevirtual 31, 3) := by decide +kernel
theorem dX2_readNurse_4 : decode cX2_readNurse 4 = .ok (.aload_n 0, 1) := by decide +kernel
theorem dX2_readNurse_5 : decode cX2_readNurse 5 = .ok (.aload_n 0, 1) := by decide +kernel
theorem dX2_readNurse_6 : decode cX2_readNurse 6 = .ok (.getfield 15, 3) := by decide +kernel
theorem dX2_readNurse_9 : decode cX2_readNurse 9 = .ok (.getfield 71, 3) := by decide +kernel
theorem dX2_readNurse_12 : decode cX2_readNurse 12 = .ok (.iconst 1, 1) := by decide +kernel
theorem dX2_readNurse_13 : decode cX2_readNurse 13 = .ok (.isub, 1) := by decide +kernel
theorem dX2_readNurse_14 : decode cX2_readNurse 14 = .ok (.invokevirtual 74, 3) := by decide +kernel
theorem dX2_readNurse_17 : decode cX2_readNurse 17 = .ok (.istore_n 1, 1) := by decide +kernel
theorem dX2_readNurse_18 : decode cX2_readNurse 18 = .ok (.iload_n 1, 1) := by decide +kernel
theorem dX2_readNurse_19 : decode cX2_readNurse 19 = .ok (.iconst (-1), 1) := by decide +kernel
theorem dX2_readNurse_20 : decode cX2_readNurse 20 = .ok (.if_icmp .ne 5, 3) := by decide +kernel
theorem dX2_readNurse_23 : decode cX2_readNurse 23 = .ok (.iconst 0, 1) := by decide +kernel
theorem dX2_readNurse_24 : decode cX2_readNurse 24 = .ok (.ireturn, 1) := by decide +kernel
theorem dX2_readNurse_25 : decode cX2_readNurse 25 = .ok (.aload_n 0, 1) := by decide +kernel
theorem dX2_readNurse_26 : decode cX2_readNurse 26 = .ok (.iconst 5, 1) := by decide +kernel
theorem dX2_readNurse_27 : decode cX2_readNurse 27 = .ok (.invokevirtual 74, 3) := by decide +kernel
theorem dX2_readNurse_30 : decode cX2_readNurse 30 = .ok (.istore_n 2, 1) := by decide +kernel
theorem dX2_readNurse_31 : decode cX2_readNurse 31 = .ok (.iload_n 2, 1) := by decide +kernel
theorem dX2_readNurse_32 : decode cX2_readNurse 32 = .ok (.iconst (-1), 1) := by decide +kernel
theorem dX2_readNurse_33 : decode cX2_readNurse 33 = .ok (.if_icmp .ne 5, 3) := by decide +kernel
theorem dX2_readNurse_36 : decode cX2_readNurse 36 = .ok (.iconst 0, 1) := by decide +kernel
theorem dX2_readNurse_37 : decode cX2_readNurse 37 = .ok (.ireturn, 1) := by decide +kernel
theorem dX2_readNurse_38 : decode cX2_readNurse 38 = .ok (.aload_n 0, 1) := by decide +kernel
theorem dX2_readNurse_39 : decode cX2_readNurse 39 = .ok (.getfield 15, 3) := by decide +kernel
theorem dX2_readNurse_42 : decode cX2_readNurse 42 = .ok (.getfield 86, 3) := by decide +kernel
theorem dX2_readNurse_45 : decode cX2_readNurse 45 = .ok (.iload_n 1, 1) := by decide +kernel
theorem dX2_readNurse_46 : decode cX2_readNurse 46 = .ok (.iload_n 2, 1) := by decide +kernel
theorem dX2_readNurse_47 : decode cX2_readNurse 47 = .ok (.iastore, 1) := by decide +kernel
theorem dX2_readNurse_48 : decode cX2_readNurse 48 = .ok (.aload_n 0, 1) := by decide +kernel
theorem dX2_readNurse_49 : decode cX2_readNurse 49 = .ok (.invokevirtual 53, 3) := by decide +kernel
theorem dX2_readNurse_52 : decode cX2_readNurse 52 = .ok (.ireturn, 1) := by decide +kernel
theorem dX2_endItem_0 : decode cX2_endItem 0 = .ok (.aload_n 0, 1) := by decide +kernel
theorem dX2_endItem_1 : decode cX2_endItem 1 = .ok (.getfield 34, 3) := by decide +kernel
theorem dX2_endItem_4 : decode cX2_endItem 4 = .ok (.iconst 3, 1) := by decide +kernel
theorem dX2_endItem_5 : decode cX2_endItem 5 = .ok (.if_icmp .eq 5, 3) := by decide +kernel
theorem dX2_endItem_8 : decode cX2_endItem 8 = .ok (.iconst 0, 1) := by decide +kernel
theorem dX2_endItem_9 : decode cX2_endItem 9 = .ok (.ireturn, 1) := by decide +kernel
theorem dX2_endItem_10 : decode cX2_endItem 10 = .ok (.aload_n 0, 1) := by decide +kernel
theorem dX2_endItem_11 : decode cX2_endItem 11 = .ok (.invokevirtual 31, 3) := by decide +kernel
theorem dX2_endItem_14 : decode cX2_endItem 14 = .ok (.iconst 1, 1) := by decide +kernel
theorem dX2_endItem_15 : decode cX2_endItem 15 = .ok (.ireturn, 1) := by decide +kernel
theorem dX2_number_0 : decode cX2_number 0 = .ok (.aload_n 0, 1) := by decide +kernel
theorem dX2_number_1 : decode cX2_number 1 = .ok (.getfield 34, 3) := by decide +kernel
theorem dX2_number_4 : decode cX2_number 4 = .ok (.iconst 2, 1) := by decide +kernel
theorem dX2_number_5 : decode cX2_number 5 = .ok (.if_icmp .ne 11, 3) := by decide +kernel
theorem dX2_number_8 : decode cX2_number 8 = .ok (.aload_n 0, 1) := by decide +kernel
theorem dX2_number_9 : decode cX2_number 9 = .ok (.getfield 89, 3) := by decide +kernel
theorem dX2_number_12 : decode cX2_number 12 = .ok (.iload_n 1, 1) := by decide +kernel
theorem dX2_number_13 : decode cX2_number 13 = .ok (.if_icmp .le 5, 3) := by decide +kernel
theorem dX2_number_16 : decode cX2_number 16 = .ok (.iconst (-1), 1) := by decide +kernel
theorem dX2_number_17 : decode cX2_number 17 = .ok (.ireturn, 1) := by decide +kernel
theorem dX2_number_18 : decode cX2_number 18 = .ok (.aload_n 0, 1) := by decide +kernel
theorem dX2_number_19 : decode cX2_number 19 = .ok (.getfield 89, 3) := by decide +kernel
theorem dX2_number_22 : decode cX2_number 22 = .ok (.istore_n 2, 1) := by decide +kernel
theorem dX2_number_23 : decode cX2_number 23 = .ok (.aload_n 0, 1) := by decide +kernel
theorem dX2_number_24 : decode cX2_number 24 = .ok (.invokevirtual 31, 3) := by decide +kernel
theorem dX2_number_27 : decode cX2_number 27 = .ok (.iload_n 2, 1) := by decide +kernel
theorem dX2_number_28 : decode cX2_number 28 = .ok (.ireturn, 1) := by decide +kernel
theorem dX2_isWord_0 : decode cX2_isWord 0 = .ok (.aload_n 0, 1) := by decide +kernel
theorem dX2_isWord_1 : decode cX2_isWord 1 = .ok (.getfield 34, 3) := by decide +kernel
theorem dX2_isWord_4 : decode cX2_isWord 4 = .ok (.iconst 1, 1) := by decide +kernel
theorem dX2_isWord_5 : decode cX2_isWord 5 = .ok (.if_icmp .ne 19, 3) := by decide +kernel
theorem dX2_isWord_8 : decode cX2_isWord 8 = .ok (.aload_n 0, 1) := by decide +kernel
theorem dX2_isWord_9 : decode cX2_isWord 9 = .ok (.getfield 23, 3) := by decide +kernel
theorem dX2_isWord_12 : decode cX2_isWord 12 = .ok (.aload_n 0, 1) := by decide +kernel
theorem dX2_isWord_13 : decode cX2_isWord 13 = .ok (.getfield 44, 3) := by decide +kernel
theorem dX2_isWord_16 : decode cX2_isWord 16 = .ok (.isub, 1) := by decide +kernel
theorem dX2_isWord_17 : decode cX2_isWord 17 = .ok (.aload_n 1, 1) := by decide +kernel
theorem dX2_isWord_18 : decode cX2_isWord 18 = .ok (.invokevirtual 92, 3) := by decide +kernel
theorem dX2_isWord_21 : decode cX2_isWord 21 = .ok (.if_icmp .eq 5, 3) := by decide +kernel
theorem dX2_isWord_24 : decode cX2_isWord 24 = .ok (.iconst 0, 1) := by decide +kernel
theorem dX2_isWord_25 : decode cX2_isWord 25 = .ok (.ireturn, 1) := by decide +kernel
theorem dX2_isWord_26 : decode cX2_isWord 26 = .ok (.iconst 0, 1) := by decide +kernel
theorem dX2_isWord_27 : decode cX2_isWord 27 = .ok (.istore_n 2, 1) := by decide +kernel
theorem dX2_isWord_28 : decode cX2_isWord 28 = .ok (.iload_n 2, 1) := by decide +kernel
theorem dX2_isWord_29 : decode cX2_isWord 29 = .ok (.aload_n 1, 1) := by decide +kernel
theorem dX2_isWord_30 : decode cX2_isWord 30 = .ok (.invokevirtual 92, 3) := by decide +kernel
theorem dX2_isWord_33 : decode cX2_isWord 33 = .ok (.if_icmp .ge 30, 3) := by decide +kernel
theorem dX2_isWord_36 : decode cX2_isWord 36 = .ok (.aload_n 0, 1) := by decide +kernel
theorem dX2_isWord_37 : decode cX2_isWord 37 = .ok (.getfield 9, 3) := by decide +kernel
theorem dX2_isWord_40 : decode cX2_isWord 40 = .ok (.aload_n 0, 1) := by decide +kernel
theorem dX2_isWord_41 : decode cX2_isWord 41 = .ok (.getfield 44, 3) := by decide +kernel
theorem dX2_isWord_44 : decode cX2_isWord 44 = .ok (.iload_n 2, 1) := by decide +kernel
theorem dX2_isWord_45 : decode cX2_isWord 45 = .ok (.iadd, 1) := by decide +kernel
theorem dX2_isWord_46 : decode cX2_isWord 46 = .ok (.baload, 1) := by decide +kernel
theorem dX2_isWord_47 : decode cX2_isWord 47 = .ok (.aload_n 1, 1) := by decide +kernel
theorem dX2_isWord_48 : decode cX2_isWord 48 = .ok (.iload_n 2, 1) := by decide +kernel
theorem dX2_isWord_49 : decode cX2_isWord 49 = .ok (.invokevirtual 97, 3) := by decide +kernel
theorem dX2_isWord_52 : decode cX2_isWord 52 = .ok (.if_icmp .eq 5, 3) := by decide +kernel
theorem dX2_isWord_55 : decode cX2_isWord 55 = .ok (.iconst 0, 1) := by decide +kernel
theorem dX2_isWord_56 : decode cX2_isWord 56 = .ok (.ireturn, 1) := by decide +kernel
theorem dX2_isWord_57 : decode cX2_isWord 57 = .ok (.iinc 2 1, 3) := by decide +kernel
theorem dX2_isWord_60 : decode cX2_isWord 60 = .ok (.goto (-32), 3) := by decide +kernel
theorem dX2_isWord_63 : decode cX2_isWord 63 = .ok (.iconst 1, 1) := by decide +kernel
theorem dX2_isWord_64 : decode cX2_isWord 64 = .ok (.ireturn, 1) := by decide +kernel
theorem dX2_advance_0 : decode cX2_advance 0 = .ok (.aload_n 0, 1) := by decide +kernel
theorem dX2_advance_1 : decode cX2_advance 1 = .ok (.bipush 32, 2) := by decide +kernel
theorem dX2_advance_3 : decode cX2_advance 3 = .ok (.bipush 32, 2) := by decide +kernel
theorem dX2_advance_5 : decode cX2_advance 5 = .ok (.invokevirtual 101, 3) := by decide +kernel
theorem dX2_advance_8 : decode cX2_advance 8 = .ok (.pop, 1) := by decide +kernel
theorem dX2_advance_9 : decode cX2_advance 9 = .ok (.aload_n 0, 1) := by decide +kernel
theorem dX2_advance_10 : decode cX2_advance 10 = .ok (.aload_n 0, 1) := by decide +kernel
theorem dX2_advance_11 : decode cX2_advance 11 = .ok (.getfield 23, 3) := by decide +kernel
theorem dX2_advance_14 : decode cX2_advance 14 = .ok (.putfield 44, 3) := by decide +kernel
theorem dX2_advance_17 : decode cX2_advance 17 = .ok (.aload_n 0, 1) := by decide +kernel
theorem dX2_advance_18 : decode cX2_advance 18 = .ok (.bipush 97, 2) := by decide +kernel
theorem dX2_advance_20 : decode cX2_advance 20 = .ok (.bipush 122, 2) := by decide +kernel
theorem dX2_advance_22 : decode cX2_advance 22 = .ok (.invokevirtual 101, 3) := by decide +kernel
theorem dX2_advance_25 : decode cX2_advance 25 = .ok (.ifCond .le 11, 3) := by decide +kernel
theorem dX2_advance_28 : decode cX2_advance 28 = .ok (.aload_n 0, 1) := by decide +kernel
theorem dX2_advance_29 : decode cX2_advance 29 = .ok (.iconst 1, 1) := by decide +kernel
theorem dX2_advance_30 : decode cX2_advance 30 = .ok (.putfield 34, 3) := by decide +kernel
theorem dX2_advance_33 : decode cX2_advance 33 = .ok (.goto 146, 3) := by decide +kernel
theorem dX2_advance_36 : decode cX2_advance 36 = .ok (.aload_n 0, 1) := by decide +kernel
theorem dX2_advance_37 : decode cX2_advance 37 = .ok (.bipush 48, 2) := by decide +kernel
theorem dX2_advance_39 : decode cX2_advance 39 = .ok (.bipush 57, 2) := by decide +kernel
theorem dX2_advance_41 : decode cX2_advance 41 = .ok (.invokevirtual 101, 3) := by decide +kernel
theorem dX2_advance_44 : decode cX2_advance 44 = .ok (.ifCond .le 83, 3) := by decide +kernel
theorem dX2_advance_47 : decode cX2_advance 47 = .ok (.aload_n 0, 1) := by decide +kernel
theorem dX2_advance_48 : decode cX2_advance 48 = .ok (.aload_n 0, 1) := by decide +kernel
theorem dX2_advance_49 : decode cX2_advance 49 = .ok (.getfield 23, 3) := by decide +kernel
theorem dX2_advance_52 : decode cX2_advance 52 = .ok (.aload_n 0, 1) := by decide +kernel
theorem dX2_advance_53 : decode cX2_advance 53 = .ok (.getfield 44, 3) := by decide +kernel
theorem dX2_advance_56 : decode cX2_advance 56 = .ok (.isub, 1) := by decide +kernel
theorem dX2_advance_57 : decode cX2_advance 57 = .ok (.iconst 2, 1) := by decide +kernel
theorem dX2_advance_58 : decode cX2_advance 58 = .ok (.if_icmp .gt 7, 3) := by decide +kernel
theorem dX2_advance_61 : decode cX2_advance 61 = .ok (.iconst 2, 1) := by decide +kernel
theorem dX2_advance_62 : decode cX2_advance 62 = .ok (.goto 4, 3) := by decide +kernel
theorem dX2_advance_65 : decode cX2_advance 65 = .ok (.iconst 4, 1) := by decide +kernel
theorem dX2_advance_66 : decode cX2_advance 66 = .ok (.putfield 34, 3) := by decide +kernel
theorem dX2_advance_69 : decode cX2_advance 69 = .ok (.aload_n 0, 1) := by decide +kernel
theorem dX2_advance_70 : decode cX2_advance 70 = .ok (.aload_n 0, 1) := by decide +kernel
theorem dX2_advance_71 : decode cX2_advance 71 = .ok (.getfield 9, 3) := by decide +kernel
theorem dX2_advance_74 : decode cX2_advance 74 = .ok (.aload_n 0, 1) := by decide +kernel
theorem dX2_advance_75 : decode cX2_advance 75 = .ok (.getfield 23, 3) := by decide +kernel
theorem dX2_advance_78 : decode cX2_advance 78 = .ok (.iconst 1, 1) := by decide +kernel
theorem dX2_advance_79 : decode cX2_advance 79 = .ok (.isub, 1) := by decide +kernel
theorem dX2_advance_80 : decode cX2_advance 80 = .ok (.baload, 1) := by decide +kernel
theorem dX2_advance_81 : decode cX2_advance 81 = .ok (.bipush 48, 2) := by decide +kernel
theorem dX2_advance_83 : decode cX2_advance 83 = .ok (.isub, 1) := by decide +kernel
theorem dX2_advance_84 : decode cX2_advance 84 = .ok (.putfield 89, 3) := by decide +kernel
theorem dX2_advance_87 : decode cX2_advance 87 = .ok (.aload_n 0, 1) := by decide +kernel
theorem dX2_advance_88 : decode cX2_advance 88 = .ok (.getfield 23, 3) := by decide +kernel
theorem dX2_advance_91 : decode cX2_advance 91 = .ok (.aload_n 0, 1) := by decide +kernel
theorem dX2_advance_92 : decode cX2_advance 92 = .ok (.getfield 44, 3) := by decide +kernel
theorem dX2_advance_95 : decode cX2_advance 95 = .ok (.isub, 1) := by decide +kernel
theorem dX2_advance_96 : decode cX2_advance 96 = .ok (.iconst 1, 1) := by decide +kernel
theorem dX2_advance_97 : decode cX2_advance 97 = .ok (.if_icmp .le 82, 3) := by decide +kernel
theorem dX2_advance_100 : decode cX2_advance 100 = .ok (.aload_n 0, 1) := by decide +kernel
theorem dX2_advance_101 : decode cX2_advance 101 = .ok (.dup, 1) := by decide +kernel
theorem dX2_advance_102 : decode cX2_advance 102 = .ok (.getfield 89, 3) := by decide +kernel
theorem dX2_advance_105 : decode cX2_advance 105 = .ok (.bipush 10, 2) := by decide +kernel
theorem dX2_advance_107 : decode cX2_advance 107 = .ok (.aload_n 0, 1) := by decide +kernel
theorem dX2_advance_108 : decode cX2_advance 108 = .ok (.getfield 9, 3) := by decide +kernel
theorem dX2_advance_111 : decode cX2_advance 111 = .ok (.aload_n 0, 1) := by decide +kernel
theorem dX2_advance_112 : decode cX2_advance 112 = .ok (.getfield 44, 3) := by decide +kernel
theorem dX2_advance_115 : decode cX2_advance 115 = .ok (.baload, 1) := by decide +kernel
theorem dX2_advance_116 : decode cX2_advance 116 = .ok (.bipush 48, 2) := by decide +kernel
theorem dX2_advance_118 : decode cX2_advance 118 = .ok (.isub, 1) := by decide +kernel
theorem dX2_advance_119 : decode cX2_advance 119 = .ok (.imul, 1) := by decide +kernel
theorem dX2_advance_120 : decode cX2_advance 120 = .ok (.iadd, 1) := by decide +kernel
theorem dX2_advance_121 : decode cX2_advance 121 = .ok (.putfield 89, 3) := by decide +kernel
theorem dX2_advance_124 : decode cX2_advance 124 = .ok (.goto 55, 3) := by decide +kernel
theorem dX2_advance_127 : decode cX2_advance 127 = .ok (.aload_n 0, 1) := by decide +kernel
theorem dX2_advance_128 : decode cX2_advance 128 = .ok (.getfield 44, 3) := by decide +kernel
theorem dX2_advance_131 : decode cX2_advance 131 = .ok (.aload_n 0, 1) := by decide +kernel
theorem dX2_advance_132 : decode cX2_advance 132 = .ok (.getfield 19, 3) := by decide +kernel
theorem dX2_advance_135 : decode cX2_advance 135 = .ok (.if_icmp .lt 11, 3) := by decide +kernel
theorem dX2_advance_138 : decode cX2_advance 138 = .ok (.aload_n 0, 1) := by decide +kernel
theorem dX2_advance_139 : decode cX2_advance 139 = .ok (.iconst 0, 1) := by decide +kernel
theorem dX2_advance_140 : decode cX2_advance 140 = .ok (.putfield 34, 3) := by decide +kernel
theorem dX2_advance_143 : decode cX2_advance 143 = .ok (.goto 36, 3) := by decide +kernel
theorem dX2_advance_146 : decode cX2_advance 146 = .ok (.aload_n 0, 1) := by decide +kernel
theorem dX2_advance_147 : decode cX2_advance 147 = .ok (.aload_n 0, 1) := by decide +kernel
theorem dX2_advance_148 : decode cX2_advance 148 = .ok (.getfield 9, 3) := by decide +kernel
theorem dX2_advance_151 : decode cX2_advance 151 = .ok (.aload_n 0, 1) := by decide +kernel
theorem dX2_advance_152 : decode cX2_advance 152 = .ok (.getfield 44, 3) := by decide +kernel
theorem dX2_advance_155 : decode cX2_advance 155 = .ok (.baload, 1) := by decide +kernel
theorem dX2_advance_156 : decode cX2_advance 156 = .ok (.bipush 59, 2) := by decide +kernel
theorem dX2_advance_158 : decode cX2_advance 158 = .ok (.if_icmp .ne 7, 3) := by decide +kernel
theorem dX2_advance_161 : decode cX2_advance 161 = .ok (.iconst 3, 1) := by decide +kernel
theorem dX2_advance_162 : decode cX2_advance 162 = .ok (.goto 4, 3) := by decide +kernel
theorem dX2_advance_165 : decode cX2_advance 165 = .ok (.iconst 4, 1) := by decide +kernel
theorem dX2_advance_166 : decode cX2_advance 166 = .ok (.putfield 34, 3) := by decide +kernel
theorem dX2_advance_169 : decode cX2_advance 169 = .ok (.aload_n 0, 1) := by decide +kernel
theorem dX2_advance_170 : decode cX2_advance 170 = .ok (.dup, 1) := by decide +kernel
theorem dX2_advance_171 : decode cX2_advance 171 = .ok (.getfield 23, 3) := by decide +kernel
theorem dX2_advance_174 : decode cX2_advance 174 = .ok (.iconst 1, 1) := by decide +kernel
theorem dX2_advance_175 : decode cX2_advance 175 = .ok (.iadd, 1) := by decide +kernel
theorem dX2_advance_176 : decode cX2_advance 176 = .ok (.putfield 23, 3) := by decide +kernel
theorem dX2_advance_179 : decode cX2_advance 179 = .ok (.return_, 1) := by decide +kernel
theorem dX2_takeRun_0 : decode cX2_takeRun 0 = .ok (.aload_n 0, 1) := by decide +kernel
theorem dX2_takeRun_1 : decode cX2_takeRun 1 = .ok (.getfield 23, 3) := by decide +kernel
theorem dX2_takeRun_4 : decode cX2_takeRun 4 = .ok (.istore_n 3, 1) := by decide +kernel
theorem dX2_takeRun_5 : decode cX2_takeRun 5 = .ok (.aload_n 0, 1) := by decide +kernel
theorem dX2_takeRun_6 : decode cX2_takeRun 6 = .ok (.getfield 23, 3) := by decide +kernel
theorem dX2_takeRun_9 : decode cX2_takeRun 9 = .ok (.aload_n 0, 1) := by decide +kernel
theorem dX2_takeRun_10 : decode cX2_takeRun 10 = .ok (.getfield 19, 3) := by decide +kernel
theorem dX2_takeRun_13 : decode cX2_takeRun 13 = .ok (.if_icmp .ge 42, 3) := by decide +kernel
theorem dX2_takeRun_16 : decode cX2_takeRun 16 = .ok (.aload_n 0, 1) := by decide +kernel
theorem dX2_takeRun_17 : decode cX2_takeRun 17 = .ok (.getfield 9, 3) := by decide +kernel
theorem dX2_takeRun_20 : decode cX2_takeRun 20 = .ok (.aload_n 0, 1) := by decide +kernel
theorem dX2_takeRun_21 : decode cX2_takeRun 21 = .ok (.getfield 23, 3) := by decide +kernel
theorem dX2_takeRun_24 : decode cX2_takeRun 24 = .ok (.baload, 1) := by decide +kernel
theorem dX2_takeRun_25 : decode cX2_takeRun 25 = .ok (.iload_n 1, 1) := by decide +kernel
theorem dX2_takeRun_26 : decode cX2_takeRun 26 = .ok (.if_icmp .lt 29, 3) := by decide +kernel
theorem dX2_takeRun_29 : decode cX2_takeRun 29 = .ok (.aload_n 0, 1) := by decide +kernel
theorem dX2_takeRun_30 : decode cX2_takeRun 30 = .ok (.getfield 9, 3) := by decide +kernel
theorem dX2_takeRun_33 : decode cX2_takeRun 33 = .ok (.aload_n 0, 1) := by decide +kernel
theorem dX2_takeRun_34 : decode cX2_takeRun 34 = .ok (.getfield 23, 3) := by decide +kernel
theorem dX2_takeRun_37 : decode cX2_takeRun 37 = .ok (.baload, 1) := by decide +kernel
theorem dX2_takeRun_38 : decode cX2_takeRun 38 = .ok (.iload_n 2, 1) := by decide +kernel
theorem dX2_takeRun_39 : decode cX2_takeRun 39 = .ok (.if_icmp .gt 16, 3) := by decide +kernel
theorem dX2_takeRun_42 : decode cX2_takeRun 42 = .ok (.aload_n 0, 1) := by decide +kernel
theorem dX2_takeRun_43 : decode cX2_takeRun 43 = .ok (.dup, 1) := by decide +kernel
theorem dX2_takeRun_44 : decode cX2_takeRun 44 = .ok (.getfield 23, 3) := by decide +kernel
theorem dX2_takeRun_47 : decode cX2_takeRun 47 = .ok (.iconst 1, 1) := by decide +kernel
theorem dX2_takeRun_48 : decode cX2_takeRun 48 = .ok (.iadd, 1) := by decide +kernel
theorem dX2_takeRun_49 : decode cX2_takeRun 49 = .ok (.putfield 23, 3) := by decide +kernel
theorem dX2_takeRun_52 : decode cX2_takeRun 52 = .ok (.goto (-47), 3) := by decide +kernel
theorem dX2_takeRun_55 : decode cX2_takeRun 55 = .ok (.aload_n 0, 1) := by decide +kernel
theorem dX2_takeRun_56 : decode cX2_takeRun 56 = .ok (.getfield 23, 3) := by decide +kernel
theorem dX2_takeRun_59 : decode cX2_takeRun 59 = .ok (.iload_n 3, 1) := by decide +kernel
theorem dX2_takeRun_60 : decode cX2_takeRun 60 = .ok (.isub, 1) := by decide +kernel
theorem dX2_takeRun_61 : decode cX2_takeRun 61 = .ok (.ireturn, 1) := by decide +kernel
theorem dX5_init_0 : decode cX5_init 0 = .ok (.aload_n 0, 1) := by decide +kernel
theorem dX5_init_1 : decode cX5_init 1 = .ok (.invokespecial 3, 3) := by decide +kernel
theorem dX5_init_4 : decode cX5_init 4 = .ok (.aload_n 0, 1) := by decide +kernel
theorem dX5_init_5 : decode cX5_init 5 = .ok (.bipush 6, 2) := by decide +kernel
theorem dX5_init_7 : decode cX5_init 7 = .ok (.newarray .int, 2) := by decide +kernel
theorem dX5_init_9 : decode cX5_init 9 = .ok (.putfield 9, 3) := by decide +kernel
theorem dX5_init_12 : decode cX5_init 12 = .ok (.aload_n 0, 1) := by decide +kernel
theorem dX5_init_13 : decode cX5_init 13 = .ok (.bipush 36, 2) := by decide +kernel
theorem dX5_init_15 : decode cX5_init 15 = .ok (.newarray .int, 2) := by decide +kernel
theorem dX5_init_17 : decode cX5_init 17 = .ok (.putfield 15, 3) := by decide +kernel
theorem dX5_init_20 : decode cX5_init 20 = .ok (.aload_n 0, 1) := by decide +kernel
theorem dX5_init_21 : decode cX5_init 21 = .ok (.bipush 64, 2) := by decide +kernel
theorem dX5_init_23 : decode cX5_init 23 = .ok (.newarray .int, 2) := by decide +kernel
theorem dX5_init_25 : decode cX5_init 25 = .ok (.putfield 18, 3) := by decide +kernel
theorem dX5_init_28 : decode cX5_init 28 = .ok (.return_, 1) := by decide +kernel
theorem dX5_weigh_0 : decode cX5_weigh 0 = .ok (.aload_n 0, 1) := by decide +kernel
theorem dX5_weigh_1 : decode cX5_weigh 1 = .ok (.iconst 0, 1) := by decide +kernel
theorem dX5_weigh_2 : decode cX5_weigh 2 = .ok (.putfield 21, 3) := by decide +kernel
theorem dX5_weigh_5 : decode cX5_weigh 5 = .ok (.iconst 0, 1) := by decide +kernel
theorem dX5_weigh_6 : decode cX5_weigh 6 = .ok (.istore_n 2, 1) := by decide +kernel
theorem dX5_weigh_7 : decode cX5_weigh 7 = .ok (.iload_n 2, 1) := by decide +kernel
theorem dX5_weigh_8 : decode cX5_weigh 8 = .ok (.aload_n 1, 1) := by decide +kernel
theorem dX5_weigh_9 : decode cX5_weigh 9 = .ok (.getfield 25, 3) := by decide +kernel
theorem dX5_weigh_12 : decode cX5_weigh 12 = .ok (.if_icmp .ge 74, 3) := by decide +kernel
theorem dX5_weigh_15 : decode cX5_weigh 15 = .ok (.aload_n 1, 1) := by decide +kernel
theorem dX5_weigh_16 : decode cX5_weigh 16 = .ok (.iload_n 2, 1) := by decide +kernel
theorem dX5_weigh_17 : decode cX5_weigh 17 = .ok (.invokevirtual 30, 3) := by decide +kernel
theorem dX5_weigh_20 : decode cX5_weigh 20 = .ok (.ifCond .eq 6, 3) := by decide +kernel
theorem dX5_weigh_23 : decode cX5_weigh 23 = .ok (.goto 57, 3) := by decide +kernel
theorem dX5_weigh_26 : decode cX5_weigh 26 = .ok (.aload_n 0, 1) := by decide +kernel
theorem dX5_weigh_27 : decode cX5_weigh 27 = .ok (.getfield 9, 3) := by decide +kernel
theorem dX5_weigh_30 : decode cX5_weigh 30 = .ok (.aload_n 0, 1) := by decide +kernel
theorem dX5_weigh_31 : decode cX5_weigh 31 = .ok (.getfield 21, 3) := by decide +kernel
theorem dX5_weigh_34 : decode cX5_weigh 34 = .ok (.iload_n 2, 1) := by decide +kernel
theorem dX5_weigh_35 : decode cX5_weigh 35 = .ok (.iastore, 1) := by decide +kernel
theorem dX5_weigh_36 : decode cX5_weigh 36 = .ok (.iconst 0, 1) := by decide +kernel
theorem dX5_weigh_37 : decode cX5_weigh 37 = .ok (.istore_n 3, 1) := by decide +kernel
theorem dX5_weigh_38 : decode cX5_weigh 38 = .ok (.iload_n 3, 1) := by decide +kernel
theorem dX5_weigh_39 : decode cX5_weigh 39 = .ok (.bipush 6, 2) := by decide +kernel
theorem dX5_weigh_41 : decode cX5_weigh 41 = .ok (.if_icmp .ge 29, 3) := by decide +kernel
theorem dX5_weigh_44 : decode cX5_weigh 44 = .ok (.aload_n 0, 1) := by decide +kernel
theorem dX5_weigh_45 : decode cX5_weigh 45 = .ok (.getfield 15, 3) := by decide +kernel
theorem dX5_weigh_48 : decode cX5_weigh 48 = .ok (.aload_n 0, 1) := by decide +kernel
theorem dX5_weigh_49 : decode cX5_weigh 49 = .ok (.getfield 21, 3) := by decide +kernel
theorem dX5_weigh_52 : decode cX5_weigh 52 = .ok (.bipush 6, 2) := by decide +kernel
theorem dX5_weigh_54 : decode cX5_weigh 54 = .ok (.imul, 1) := by decide +kernel
theorem dX5_weigh_55 : decode cX5_weigh 55 = .ok (.iload_n 3, 1) := by decide +kernel
theorem dX5_weigh_56 : decode cX5_weigh 56 = .ok (.iadd, 1) := by decide +kernel
theorem dX5_weigh_57 : decode cX5_weigh 57 = .ok (.aload_n 1, 1) := by decide +kernel
theorem dX5_weigh_58 : decode cX5_weigh 58 = .ok (.iload_n 2, 1) := by decide +kernel
theorem dX5_weigh_59 : decode cX5_weigh 59 = .ok (.iload_n 3, 1) := by decide +kernel
theorem dX5_weigh_60 : decode cX5_weigh 60 = .ok (.invokevirtual 34, 3) := by decide +kernel
theorem dX5_weigh_63 : decode cX5_weigh 63 = .ok (.iastore, 1) := by decide +kernel
theorem dX5_weigh_64 : decode cX5_weigh 64 = .ok (.iinc 3 1, 3) := by decide +kernel
theorem dX5_weigh_67 : decode cX5_weigh 67 = .ok (.goto (-29), 3) := by decide +kernel
theorem dX5_weigh_70 : decode cX5_weigh 70 = .ok (.aload_n 0, 1) := by decide +kernel
theorem dX5_weigh_71 : decode cX5_weigh 71 = .ok (.dup, 1) := by decide +kernel
theorem dX5_weigh_72 : decode cX5_weigh 72 = .ok (.getfield 21, 3) := by decide +kernel
theorem dX5_weigh_75 : decode cX5_weigh 75 = .ok (.iconst 1, 1) := by decide +kernel
theorem dX5_weigh_76 : decode cX5_weigh 76 = .ok (.iadd, 1) := by decide +kernel
theorem dX5_weigh_77 : decode cX5_weigh 77 = .ok (.putfield 21, 3) := by decide +kernel
theorem dX5_weigh_80 : decode cX5_weigh 80 = .ok (.iinc 2 1, 3) := by decide +kernel
theorem dX5_weigh_83 : decode cX5_weigh 83 = .ok (.goto (-76), 3) := by decide +kernel
theorem dX5_weigh_86 : decode cX5_weigh 86 = .ok (.bipush 63, 2) := by decide +kernel
theorem dX5_weigh_88 : decode cX5_weigh 88 = .ok (.istore_n 2, 1) := by decide +kernel
theorem dX5_weigh_89 : decode cX5_weigh 89 = .ok (.iload_n 2, 1) := by decide +kernel
theorem dX5_weigh_90 : decode cX5_weigh 90 = .ok (.ifCond .lt 44, 3) := by decide +kernel
theorem dX5_weigh_93 : decode cX5_weigh 93 = .ok (.iload_n 2, 1) := by decide +kernel
theorem dX5_weigh_94 : decode cX5_weigh 94 = .ok (.invokestatic 38, 3) := by decide +kernel
theorem dX5_weigh_97 : decode cX5_weigh 97 = .ok (.istore_n 3, 1) := by decide +kernel
theorem dX5_weigh_98 : decode cX5_weigh 98 = .ok (.aload_n 0, 1) := by decide +kernel
theorem dX5_weigh_99 : decode cX5_weigh 99 = .ok (.getfield 18, 3) := by decide +kernel
theorem dX5_weigh_102 : decode cX5_weigh 102 = .ok (.iload_n 2, 1) := by decide +kernel
theorem dX5_weigh_103 : decode cX5_weigh 103 = .ok (.iload_n 3, 1) := by decide +kernel
theorem dX5_weigh_104 : decode cX5_weigh 104 = .ok (.aload_n 0, 1) := by decide +kernel
theorem dX5_weigh_105 : decode cX5_weigh 105 = .ok (.getfield 21, 3) := by decide +kernel
theorem dX5_weigh_108 : decode cX5_weigh 108 = .ok (.if_icmp .ge 18, 3) := by decide +kernel
theorem dX5_weigh_111 : decode cX5_weigh 111 = .ok (.aload_n 0, 1) := by decide +kernel
theorem dX5_weigh_112 : decode cX5_weigh 112 = .ok (.iload_n 3, 1) := by decide +kernel
theorem dX5_weigh_113 : decode cX5_weigh 113 = .ok (.aload_n 0, 1) := by decide +kernel
theorem dX5_weigh_114 : decode cX5_weigh 114 = .ok (.iload_n 3, 1) := by decide +kernel
theorem dX5_weigh_115 : decode cX5_weigh 115 = .ok (.iload_n 2, 1) := by decide +kernel
theorem dX5_weigh_116 : decode cX5_weigh 116 = .ok (.invokevirtual 44, 3) := by decide +kernel
theorem dX5_weigh_119 : decode cX5_weigh 119 = .ok (.iload_n 2, 1) := by decide +kernel
theorem dX5_weigh_120 : decode cX5_weigh 120 = .ok (.invokevirtual 47, 3) := by decide +kernel
theorem dX5_weigh_123 : decode cX5_weigh 123 = .ok (.goto 4, 3) := by decide +kernel
theorem dX5_weigh_126 : decode cX5_weigh 126 = .ok (.iconst 0, 1) := by decide +kernel
theorem dX5_weigh_127 : decode cX5_weigh 127 = .ok (.iastore, 1) := by decide +kernel
theorem dX5_weigh_128 : decode cX5_weigh 128 = .ok (.iinc 2 (-1), 3) := by decide +kernel
theorem dX5_weigh_131 : decode cX5_weigh 131 = .ok (.goto (-42), 3) := by decide +kernel
theorem dX5_weigh_134 : decode cX5_weigh 134 = .ok (.return_, 1) := by decide +kernel
theorem dX5_least_0 : decode cX5_least 0 = .ok (.aload_n 0, 1) := by decide +kernel
theorem dX5_least_1 : decode cX5_least 1 = .ok (.getfield 18, 3) := by decide +kernel
theorem dX5_least_4 : decode cX5_least 4 = .ok (.iconst 0, 1) := by decide +kernel
theorem dX5_least_5 : decode cX5_least 5 = .ok (.iaload, 1) := by decide +kernel
theorem dX5_least_6 : decode cX5_least 6 = .ok (.ireturn, 1) := by decide +kernel
theorem dX5_nurseOf_0 : decode cX5_nurseOf 0 = .ok (.iconst 0, 1) := by decide +kernel
theorem dX5_nurseOf_1 : decode cX5_nurseOf 1 = .ok (.istore_n 2, 1) := by decide +kernel
theorem dX5_nurseOf_2 : decode cX5_nurseOf 2 = .ok (.iconst 0, 1) := by decide +kernel
theorem dX5_nurseOf_3 : decode cX5_nurseOf 3 = .ok (.istore_n 3, 1) := by decide +kernel
theorem dX5_nurseOf_4 : decode cX5_nurseOf 4 = .ok (.iload_n 3, 1) := by decide +kernel
theorem dX5_nurseOf_5 : decode cX5_nurseOf 5 = .ok (.aload_n 0, 1) := by decide +kernel
theorem dX5_nurseOf_6 : decode cX5_nurseOf 6 = .ok (.getfield 21, 3) := by decide +kernel
theorem dX5_nurseOf_9 : decode cX5_nurseOf 9 = .ok (.if_icmp .ge 37, 3) := by decide +kernel
theorem dX5_nurseOf_12 : decode cX5_nurseOf 12 = .ok (.aload_n 0, 1) := by decide +kernel
theorem dX5_nurseOf_13 : decode cX5_nurseOf 13 = .ok (.iload_n 3, 1) := by decide +kernel
theorem dX5_nurseOf_14 : decode cX5_nurseOf 14 = .ok (.iload_n 2, 1) := by decide +kernel
theorem dX5_nurseOf_15 : decode cX5_nurseOf 15 = .ok (.invokevirtual 44, 3) := by decide +kernel
theorem dX5_nurseOf_18 : decode cX5_nurseOf 18 = .ok (.istore 4, 2) := by decide +kernel
theorem dX5_nurseOf_20 : decode cX5_nurseOf 20 = .ok (.aload_n 0, 1) := by decide +kernel
theorem dX5_nurseOf_21 : decode cX5_nurseOf 21 = .ok (.getfield 9, 3) := by decide +kernel
theorem dX5_nurseOf_24 : decode cX5_nurseOf 24 = .ok (.iload_n 3, 1) := by decide +kernel
theorem dX5_nurseOf_25 : decode cX5_nurseOf 25 = .ok (.iaload, 1) := by decide +kernel
theorem dX5_nurseOf_26 : decode cX5_nurseOf 26 = .ok (.iload_n 1, 1) := by decide +kernel
theorem dX5_nurseOf_27 : decode cX5_nurseOf 27 = .ok (.if_icmp .ne 6, 3) := by decide +kernel
theorem dX5_nurseOf_30 : decode cX5_nurseOf 30 = .ok (.iload 4, 2) := by decide +kernel
theorem dX5_nurseOf_32 : decode cX5_nurseOf 32 = .ok (.ireturn, 1) := by decide +kernel
theorem dX5_nurseOf_33 : decode cX5_nurseOf 33 = .ok (.iload_n 2, 1) := by decide +kernel
theorem dX5_nurseOf_34 : decode cX5_nurseOf 34 = .ok (.iconst 1, 1) := by decide +kernel
theorem dX5_nurseOf_35 : decode cX5_nurseOf 35 = .ok (.iload 4, 2) := by decide +kernel
theorem dX5_nurseOf_37 : decode cX5_nurseOf 37 = .ok (.ishl, 1) := by decide +kernel
theorem dX5_nurseOf_38 : decode cX5_nurseOf 38 = .ok (.ior, 1) := by decide +kernel
theorem dX5_nurseOf_39 : decode cX5_nurseOf 39 = .ok (.istore_n 2, 1) := by decide +kernel
theorem dX5_nurseOf_40 : decode cX5_nurseOf 40 = .ok (.iinc 3 1, 3) := by decide +kernel
theorem dX5_nurseOf_43 : decode cX5_nurseOf 43 = .ok (.goto (-39), 3) := by decide +kernel
theorem dX5_nurseOf_46 : decode cX5_nurseOf 46 = .ok (.iconst (-1), 1) := by decide +kernel
theorem dX5_nurseOf_47 : decode cX5_nurseOf 47 = .ok (.ireturn, 1) := by decide +kernel
theorem dX5_firstBest_0 : decode cX5_firstBest 0 = .ok (.iconst 0, 1) := by decide +kernel
theorem dX5_firstBest_1 : decode cX5_firstBest 1 = .ok (.istore_n 3, 1) := by decide +kernel
theorem dX5_firstBest_2 : decode cX5_firstBest 2 = .ok (.ldc 51, 2) := by decide +kernel
theorem dX5_firstBest_4 : decode cX5_firstBest 4 = .ok (.istore 4, 2) := by decide +kernel
theorem dX5_firstBest_6 : decode cX5_firstBest 6 = .ok (.iconst 0, 1) := by decide +kernel
theorem dX5_firstBest_7 : decode cX5_firstBest 7 = .ok (.istore 5, 2) := by decide +kernel
theorem dX5_firstBest_9 : decode cX5_firstBest 9 = .ok (.iload 5, 2) := by decide +kernel
theorem dX5_firstBest_11 : decode cX5_firstBest 11 = .ok (.bipush 6, 2) := by decide +kernel
theorem dX5_firstBest_13 : decode cX5_firstBest 13 = .ok (.if_icmp .ge 46, 3) := by decide +kernel
theorem dX5_firstBest_16 : decode cX5_firstBest 16 = .ok (.iload_n 2, 1) := by decide +kernel
theorem dX5_firstBest_17 : decode cX5_firstBest 17 = .ok (.iload 5, 2) := by decide +kernel
theorem dX5_firstBest_19 : decode cX5_firstBest 19 = .ok (.ishr, 1) := by decide +kernel
theorem dX5_firstBest_20 : decode cX5_firstBest 20 = .ok (.iconst 1, 1) := by decide +kernel
theorem dX5_firstBest_21 : decode cX5_firstBest 21 = .ok (.iand, 1) := by decide +kernel
theorem dX5_firstBest_22 : decode cX5_firstBest 22 = .ok (.iconst 1, 1) := by decide +kernel
theorem dX5_firstBest_23 : decode cX5_firstBest 23 = .ok (.if_icmp .ne 6, 3) := by decide +kernel
theorem dX5_firstBest_26 : decode cX5_firstBest 26 = .ok (.goto 27, 3) := by decide +kernel
theorem dX5_firstBest_29 : decode cX5_firstBest 29 = .ok (.aload_n 0, 1) := by decide +kernel
theorem dX5_firstBest_30 : decode cX5_firstBest 30 = .ok (.iload_n 1, 1) := by decide +kernel
theorem dX5_firstBest_31 : decode cX5_firstBest 31 = .ok (.iload 5, 2) := by decide +kernel
theorem dX5_firstBest_33 : decode cX5_firstBest 33 = .ok (.iload_n 2, 1) := by decide +kernel
theorem dX5_firstBest_34 : decode cX5_firstBest 34 = .ok (.invokevirtual 47, 3) := by decide +kernel
theorem dX5_firstBest_37 : decode cX5_firstBest 37 = .ok (.istore 6, 2) := by decide +kernel
theorem dX5_firstBest_39 : decode cX5_firstBest 39 = .ok (.iload 6, 2) := by decide +kernel
theorem dX5_firstBest_41 : decode cX5_firstBest 41 = .ok (.iload 4, 2) := by decide +kernel
theorem dX5_firstBest_43 : decode cX5_firstBest 43 = .ok (.if_icmp .ge 10, 3) := by decide +kernel
theorem dX5_firstBest_46 : decode cX5_firstBest 46 = .ok (.iload 6, 2) := by decide +kernel
theorem dX5_firstBest_48 : decode cX5_firstBest 48 = .ok (.istore 4, 2) := by decide +kernel
theorem dX5_firstBest_50 : decode cX5_firstBest 50 = .ok (.iload 5, 2) := by decide +kernel
theorem dX5_firstBest_52 : decode cX5_firstBest 52 = .ok (.istore_n 3, 1) := by decide +kernel
theorem dX5_firstBest_53 : decode cX5_firstBest 53 = .ok (.iinc 5 1, 3) := by decide +kernel
theorem dX5_firstBest_56 : decode cX5_firstBest 56 = .ok (.goto (-47), 3) := by decide +kernel
theorem dX5_firstBest_59 : decode cX5_firstBest 59 = .ok (.iload_n 3, 1) := by decide +kernel
theorem dX5_firstBest_60 : decode cX5_firstBest 60 = .ok (.ireturn, 1) := by decide +kernel
theorem dX5_costOf_0 : decode cX5_costOf 0 = .ok (.aload_n 0, 1) := by decide +kernel
theorem dX5_costOf_1 : decode cX5_costOf 1 = .ok (.getfield 15, 3) := by decide +kernel
theorem dX5_costOf_4 : decode cX5_costOf 4 = .ok (.iload_n 1, 1) := by decide +kernel
theorem dX5_costOf_5 : decode cX5_costOf 5 = .ok (.bipush 6, 2) := by decide +kernel
theorem dX5_costOf_7 : decode cX5_costOf 7 = .ok (.imul, 1) := by decide +kernel
theorem dX5_costOf_8 : decode cX5_costOf 8 = .ok (.iload_n 2, 1) := by decide +kernel
theorem dX5_costOf_9 : decode cX5_costOf 9 = .ok (.iadd, 1) := by decide +kernel
theorem dX5_costOf_10 : decode cX5_costOf 10 = .ok (.iaload, 1) := by decide +kernel
theorem dX5_costOf_11 : decode cX5_costOf 11 = .ok (.aload_n 0, 1) := by decide +kernel
theorem dX5_costOf_12 : decode cX5_costOf 12 = .ok (.getfield 18, 3) := by decide +kernel
theorem dX5_costOf_15 : decode cX5_costOf 15 = .ok (.iload_n 3, 1) := by decide +kernel
theorem dX5_costOf_16 : decode cX5_costOf 16 = .ok (.iconst 1, 1) := by decide +kernel
theorem dX5_costOf_17 : decode cX5_costOf 17 = .ok (.iload_n 2, 1) := by decide +kernel
theorem dX5_costOf_18 : decode cX5_costOf 18 = .ok (.ishl, 1) := by decide +kernel
theorem dX5_costOf_19 : decode cX5_costOf 19 = .ok (.ior, 1) := by decide +kernel
theorem dX5_costOf_20 : decode cX5_costOf 20 = .ok (.iaload, 1) := by decide +kernel
theorem dX5_costOf_21 : decode cX5_costOf 21 = .ok (.iadd, 1) := by decide +kernel
theorem dX5_costOf_22 : decode cX5_costOf 22 = .ok (.ireturn, 1) := by decide +kernel
