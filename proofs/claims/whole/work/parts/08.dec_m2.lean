theorem dX10_note_84 : decode cX10_note 84 = .ok (.iadd, 1) := by decide +kernel
theorem dX10_note_85 : decode cX10_note 85 = .ok (.istore 6, 2) := by decide +kernel
theorem dX10_note_87 : decode cX10_note 87 = .ok (.aload_n 0, 1) := by decide +kernel
theorem dX10_note_88 : decode cX10_note 88 = .ok (.getfield 7, 3) := by decide +kernel
theorem dX10_note_91 : decode cX10_note 91 = .ok (.iload 6, 2) := by decide +kernel
theorem dX10_note_93 : decode cX10_note 93 = .ok (.iload_n 1, 1) := by decide +kernel
theorem dX10_note_94 : decode cX10_note 94 = .ok (.iastore, 1) := by decide +kernel
theorem dX10_note_95 : decode cX10_note 95 = .ok (.aload_n 0, 1) := by decide +kernel
theorem dX10_note_96 : decode cX10_note 96 = .ok (.getfield 7, 3) := by decide +kernel
theorem dX10_note_99 : decode cX10_note 99 = .ok (.iload 6, 2) := by decide +kernel
theorem dX10_note_101 : decode cX10_note 101 = .ok (.iconst 1, 1) := by decide +kernel
theorem dX10_note_102 : decode cX10_note 102 = .ok (.iadd, 1) := by decide +kernel
theorem dX10_note_103 : decode cX10_note 103 = .ok (.iload_n 2, 1) := by decide +kernel
theorem dX10_note_104 : decode cX10_note 104 = .ok (.iastore, 1) := by decide +kernel
theorem dX10_note_105 : decode cX10_note 105 = .ok (.aload_n 0, 1) := by decide +kernel
theorem dX10_note_106 : decode cX10_note 106 = .ok (.getfield 7, 3) := by decide +kernel
theorem dX10_note_109 : decode cX10_note 109 = .ok (.iload 6, 2) := by decide +kernel
theorem dX10_note_111 : decode cX10_note 111 = .ok (.iconst 2, 1) := by decide +kernel
theorem dX10_note_112 : decode cX10_note 112 = .ok (.iadd, 1) := by decide +kernel
theorem dX10_note_113 : decode cX10_note 113 = .ok (.iload_n 3, 1) := by decide +kernel
theorem dX10_note_114 : decode cX10_note 114 = .ok (.iastore, 1) := by decide +kernel
theorem dX10_note_115 : decode cX10_note 115 = .ok (.aload_n 0, 1) := by decide +kernel
theorem dX10_note_116 : decode cX10_note 116 = .ok (.getfield 7, 3) := by decide +kernel
theorem dX10_note_119 : decode cX10_note 119 = .ok (.iload 6, 2) := by decide +kernel
theorem dX10_note_121 : decode cX10_note 121 = .ok (.iconst 3, 1) := by decide +kernel
theorem dX10_note_122 : decode cX10_note 122 = .ok (.iadd, 1) := by decide +kernel
theorem dX10_note_123 : decode cX10_note 123 = .ok (.iload 4, 2) := by decide +kernel
theorem dX10_note_125 : decode cX10_note 125 = .ok (.iastore, 1) := by decide +kernel
theorem dX10_note_126 : decode cX10_note 126 = .ok (.aload_n 0, 1) := by decide +kernel
theorem dX10_note_127 : decode cX10_note 127 = .ok (.getfield 7, 3) := by decide +kernel
theorem dX10_note_130 : decode cX10_note 130 = .ok (.iload 6, 2) := by decide +kernel
theorem dX10_note_132 : decode cX10_note 132 = .ok (.iconst 4, 1) := by decide +kernel
theorem dX10_note_133 : decode cX10_note 133 = .ok (.iadd, 1) := by decide +kernel
theorem dX10_note_134 : decode cX10_note 134 = .ok (.iload 5, 2) := by decide +kernel
theorem dX10_note_136 : decode cX10_note 136 = .ok (.iastore, 1) := by decide +kernel
theorem dX10_note_137 : decode cX10_note 137 = .ok (.aload_n 0, 1) := by decide +kernel
theorem dX10_note_138 : decode cX10_note 138 = .ok (.getfield 7, 3) := by decide +kernel
theorem dX10_note_141 : decode cX10_note 141 = .ok (.iconst 1, 1) := by decide +kernel
theorem dX10_note_142 : decode cX10_note 142 = .ok (.dup2, 1) := by decide +kernel
theorem dX10_note_143 : decode cX10_note 143 = .ok (.iaload, 1) := by decide +kernel
theorem dX10_note_144 : decode cX10_note 144 = .ok (.iconst 1, 1) := by decide +kernel
theorem dX10_note_145 : decode cX10_note 145 = .ok (.iadd, 1) := by decide +kernel
theorem dX10_note_146 : decode cX10_note 146 = .ok (.iastore, 1) := by decide +kernel
theorem dX10_note_147 : decode cX10_note 147 = .ok (.aload_n 0, 1) := by decide +kernel
theorem dX10_note_148 : decode cX10_note 148 = .ok (.getfield 7, 3) := by decide +kernel
theorem dX10_note_151 : decode cX10_note 151 = .ok (.iconst 1, 1) := by decide +kernel
theorem dX10_note_152 : decode cX10_note 152 = .ok (.iaload, 1) := by decide +kernel
theorem dX10_note_153 : decode cX10_note 153 = .ok (.ireturn, 1) := by decide +kernel
theorem dX10_heard_0 : decode cX10_heard 0 = .ok (.aload_n 0, 1) := by decide +kernel
theorem dX10_heard_1 : decode cX10_heard 1 = .ok (.iload_n 1, 1) := by decide +kernel
theorem dX10_heard_2 : decode cX10_heard 2 = .ok (.invokevirtual 137, 3) := by decide +kernel
theorem dX10_heard_5 : decode cX10_heard 5 = .ok (.ifCond .eq 13, 3) := by decide +kernel
theorem dX10_heard_8 : decode cX10_heard 8 = .ok (.iload_n 2, 1) := by decide +kernel
theorem dX10_heard_9 : decode cX10_heard 9 = .ok (.i2l, 1) := by decide +kernel
theorem dX10_heard_10 : decode cX10_heard 10 = .ok (.lconst 0, 1) := by decide +kernel
theorem dX10_heard_11 : decode cX10_heard 11 = .ok (.lconst 1, 1) := by decide +kernel
theorem dX10_heard_12 : decode cX10_heard 12 = .ok (.invokestatic 65, 3) := by decide +kernel
theorem dX10_heard_15 : decode cX10_heard 15 = .ok (.ifCond .ne 10, 3) := by decide +kernel
theorem dX10_heard_18 : decode cX10_heard 18 = .ok (.aload_n 0, 1) := by decide +kernel
theorem dX10_heard_19 : decode cX10_heard 19 = .ok (.bipush (-2), 2) := by decide +kernel
theorem dX10_heard_21 : decode cX10_heard 21 = .ok (.invokevirtual 75, 3) := by decide +kernel
theorem dX10_heard_24 : decode cX10_heard 24 = .ok (.ireturn, 1) := by decide +kernel
theorem dX10_heard_25 : decode cX10_heard 25 = .ok (.aload_n 0, 1) := by decide +kernel
theorem dX10_heard_26 : decode cX10_heard 26 = .ok (.getfield 7, 3) := by decide +kernel
theorem dX10_heard_29 : decode cX10_heard 29 = .ok (.iconst 2, 1) := by decide +kernel
theorem dX10_heard_30 : decode cX10_heard 30 = .ok (.iaload, 1) := by decide +kernel
theorem dX10_heard_31 : decode cX10_heard 31 = .ok (.bipush 6, 2) := by decide +kernel
theorem dX10_heard_33 : decode cX10_heard 33 = .ok (.if_icmp .ne 8, 3) := by decide +kernel
theorem dX10_heard_36 : decode cX10_heard 36 = .ok (.aload_n 0, 1) := by decide +kernel
theorem dX10_heard_37 : decode cX10_heard 37 = .ok (.invokevirtual 79, 3) := by decide +kernel
theorem dX10_heard_40 : decode cX10_heard 40 = .ok (.ireturn, 1) := by decide +kernel
theorem dX10_heard_41 : decode cX10_heard 41 = .ok (.aload_n 0, 1) := by decide +kernel
theorem dX10_heard_42 : decode cX10_heard 42 = .ok (.getfield 7, 3) := by decide +kernel
theorem dX10_heard_45 : decode cX10_heard 45 = .ok (.bipush 66, 2) := by decide +kernel
theorem dX10_heard_47 : decode cX10_heard 47 = .ok (.iconst 2, 1) := by decide +kernel
theorem dX10_heard_48 : decode cX10_heard 48 = .ok (.aload_n 0, 1) := by decide +kernel
theorem dX10_heard_49 : decode cX10_heard 49 = .ok (.getfield 7, 3) := by decide +kernel
theorem dX10_heard_52 : decode cX10_heard 52 = .ok (.iconst 2, 1) := by decide +kernel
theorem dX10_heard_53 : decode cX10_heard 53 = .ok (.iaload, 1) := by decide +kernel
theorem dX10_heard_54 : decode cX10_heard 54 = .ok (.imul, 1) := by decide +kernel
theorem dX10_heard_55 : decode cX10_heard 55 = .ok (.iadd, 1) := by decide +kernel
theorem dX10_heard_56 : decode cX10_heard 56 = .ok (.iload_n 1, 1) := by decide +kernel
theorem dX10_heard_57 : decode cX10_heard 57 = .ok (.iastore, 1) := by decide +kernel
theorem dX10_heard_58 : decode cX10_heard 58 = .ok (.aload_n 0, 1) := by decide +kernel
theorem dX10_heard_59 : decode cX10_heard 59 = .ok (.getfield 7, 3) := by decide +kernel
theorem dX10_heard_62 : decode cX10_heard 62 = .ok (.bipush 66, 2) := by decide +kernel
theorem dX10_heard_64 : decode cX10_heard 64 = .ok (.iconst 2, 1) := by decide +kernel
theorem dX10_heard_65 : decode cX10_heard 65 = .ok (.aload_n 0, 1) := by decide +kernel
theorem dX10_heard_66 : decode cX10_heard 66 = .ok (.getfield 7, 3) := by decide +kernel
theorem dX10_heard_69 : decode cX10_heard 69 = .ok (.iconst 2, 1) := by decide +kernel
theorem dX10_heard_70 : decode cX10_heard 70 = .ok (.iaload, 1) := by decide +kernel
theorem dX10_heard_71 : decode cX10_heard 71 = .ok (.imul, 1) := by decide +kernel
theorem dX10_heard_72 : decode cX10_heard 72 = .ok (.iadd, 1) := by decide +kernel
theorem dX10_heard_73 : decode cX10_heard 73 = .ok (.iconst 1, 1) := by decide +kernel
theorem dX10_heard_74 : decode cX10_heard 74 = .ok (.iadd, 1) := by decide +kernel
theorem dX10_heard_75 : decode cX10_heard 75 = .ok (.iload_n 2, 1) := by decide +kernel
theorem dX10_heard_76 : decode cX10_heard 76 = .ok (.iastore, 1) := by decide +kernel
theorem dX10_heard_77 : decode cX10_heard 77 = .ok (.aload_n 0, 1) := by decide +kernel
theorem dX10_heard_78 : decode cX10_heard 78 = .ok (.getfield 7, 3) := by decide +kernel
theorem dX10_heard_81 : decode cX10_heard 81 = .ok (.iconst 2, 1) := by decide +kernel
theorem dX10_heard_82 : decode cX10_heard 82 = .ok (.dup2, 1) := by decide +kernel
theorem dX10_heard_83 : decode cX10_heard 83 = .ok (.iaload, 1) := by decide +kernel
theorem dX10_heard_84 : decode cX10_heard 84 = .ok (.iconst 1, 1) := by decide +kernel
theorem dX10_heard_85 : decode cX10_heard 85 = .ok (.iadd, 1) := by decide +kernel
theorem dX10_heard_86 : decode cX10_heard 86 = .ok (.iastore, 1) := by decide +kernel
theorem dX10_heard_87 : decode cX10_heard 87 = .ok (.aload_n 0, 1) := by decide +kernel
theorem dX10_heard_88 : decode cX10_heard 88 = .ok (.getfield 7, 3) := by decide +kernel
theorem dX10_heard_91 : decode cX10_heard 91 = .ok (.iconst 2, 1) := by decide +kernel
theorem dX10_heard_92 : decode cX10_heard 92 = .ok (.iaload, 1) := by decide +kernel
theorem dX10_heard_93 : decode cX10_heard 93 = .ok (.ireturn, 1) := by decide +kernel
theorem dX10_forget_0 : decode cX10_forget 0 = .ok (.iload_n 1, 1) := by decide +kernel
theorem dX10_forget_1 : decode cX10_forget 1 = .ok (.i2l, 1) := by decide +kernel
theorem dX10_forget_2 : decode cX10_forget 2 = .ok (.lconst 0, 1) := by decide +kernel
theorem dX10_forget_3 : decode cX10_forget 3 = .ok (.lconst 1, 1) := by decide +kernel
theorem dX10_forget_4 : decode cX10_forget 4 = .ok (.invokestatic 65, 3) := by decide +kernel
theorem dX10_forget_7 : decode cX10_forget 7 = .ok (.ifCond .ne 10, 3) := by decide +kernel
theorem dX10_forget_10 : decode cX10_forget 10 = .ok (.aload_n 0, 1) := by decide +kernel
theorem dX10_forget_11 : decode cX10_forget 11 = .ok (.bipush (-2), 2) := by decide +kernel
theorem dX10_forget_13 : decode cX10_forget 13 = .ok (.invokevirtual 75, 3) := by decide +kernel
theorem dX10_forget_16 : decode cX10_forget 16 = .ok (.ireturn, 1) := by decide +kernel
theorem dX10_forget_17 : decode cX10_forget 17 = .ok (.aload_n 0, 1) := by decide +kernel
theorem dX10_forget_18 : decode cX10_forget 18 = .ok (.getfield 7, 3) := by decide +kernel
theorem dX10_forget_21 : decode cX10_forget 21 = .ok (.iconst 1, 1) := by decide +kernel
theorem dX10_forget_22 : decode cX10_forget 22 = .ok (.iload_n 1, 1) := by decide +kernel
theorem dX10_forget_23 : decode cX10_forget 23 = .ok (.iadd, 1) := by decide +kernel
theorem dX10_forget_24 : decode cX10_forget 24 = .ok (.iaload, 1) := by decide +kernel
theorem dX10_forget_25 : decode cX10_forget 25 = .ok (.istore_n 2, 1) := by decide +kernel
theorem dX10_forget_26 : decode cX10_forget 26 = .ok (.aload_n 0, 1) := by decide +kernel
theorem dX10_forget_27 : decode cX10_forget 27 = .ok (.getfield 7, 3) := by decide +kernel
theorem dX10_forget_30 : decode cX10_forget 30 = .ok (.iconst 1, 1) := by decide +kernel
theorem dX10_forget_31 : decode cX10_forget 31 = .ok (.iload_n 1, 1) := by decide +kernel
theorem dX10_forget_32 : decode cX10_forget 32 = .ok (.iadd, 1) := by decide +kernel
theorem dX10_forget_33 : decode cX10_forget 33 = .ok (.iconst 0, 1) := by decide +kernel
theorem dX10_forget_34 : decode cX10_forget 34 = .ok (.iastore, 1) := by decide +kernel
theorem dX10_forget_35 : decode cX10_forget 35 = .ok (.iload_n 2, 1) := by decide +kernel
theorem dX10_forget_36 : decode cX10_forget 36 = .ok (.ireturn, 1) := by decide +kernel
theorem dX10_criesThen_0 : decode cX10_criesThen 0 = .ok (.iload_n 0, 1) := by decide +kernel
theorem dX10_criesThen_1 : decode cX10_criesThen 1 = .ok (.iload_n 2, 1) := by decide +kernel
theorem dX10_criesThen_2 : decode cX10_criesThen 2 = .ok (.invokestatic 99, 3) := by decide +kernel
theorem dX10_criesThen_5 : decode cX10_criesThen 5 = .ok (.ifCond .eq 7, 3) := by decide +kernel
theorem dX10_criesThen_8 : decode cX10_criesThen 8 = .ok (.iconst 0, 1) := by decide +kernel
theorem dX10_criesThen_9 : decode cX10_criesThen 9 = .ok (.goto 8, 3) := by decide +kernel
theorem dX10_criesThen_12 : decode cX10_criesThen 12 = .ok (.iload_n 0, 1) := by decide +kernel
theorem dX10_criesThen_13 : decode cX10_criesThen 13 = .ok (.iload_n 1, 1) := by decide +kernel
theorem dX10_criesThen_14 : decode cX10_criesThen 14 = .ok (.invokestatic 103, 3) := by decide +kernel
theorem dX10_criesThen_17 : decode cX10_criesThen 17 = .ok (.ireturn, 1) := by decide +kernel
theorem dX10_kindsOf_0 : decode cX10_kindsOf 0 = .ok (.iconst 0, 1) := by decide +kernel
theorem dX10_kindsOf_1 : decode cX10_kindsOf 1 = .ok (.istore_n 2, 1) := by decide +kernel
theorem dX10_kindsOf_2 : decode cX10_kindsOf 2 = .ok (.iconst 0, 1) := by decide +kernel
theorem dX10_kindsOf_3 : decode cX10_kindsOf 3 = .ok (.istore_n 3, 1) := by decide +kernel
theorem dX10_kindsOf_4 : decode cX10_kindsOf 4 = .ok (.iload_n 3, 1) := by decide +kernel
theorem dX10_kindsOf_5 : decode cX10_kindsOf 5 = .ok (.bipush 6, 2) := by decide +kernel
theorem dX10_kindsOf_7 : decode cX10_kindsOf 7 = .ok (.if_icmp .ge 159, 3) := by decide +kernel
theorem dX10_kindsOf_10 : decode cX10_kindsOf 10 = .ok (.iconst 1, 1) := by decide +kernel
theorem dX10_kindsOf_11 : decode cX10_kindsOf 11 = .ok (.istore 4, 2) := by decide +kernel
theorem dX10_kindsOf_13 : decode cX10_kindsOf 13 = .ok (.iconst 0, 1) := by decide +kernel
theorem dX10_kindsOf_14 : decode cX10_kindsOf 14 = .ok (.istore 5, 2) := by decide +kernel
theorem dX10_kindsOf_16 : decode cX10_kindsOf 16 = .ok (.iload 5, 2) := by decide +kernel
theorem dX10_kindsOf_18 : decode cX10_kindsOf 18 = .ok (.aload_n 0, 1) := by decide +kernel
theorem dX10_kindsOf_19 : decode cX10_kindsOf 19 = .ok (.getfield 7, 3) := by decide +kernel
theorem dX10_kindsOf_22 : decode cX10_kindsOf 22 = .ok (.iconst 1, 1) := by decide +kernel
theorem dX10_kindsOf_23 : decode cX10_kindsOf 23 = .ok (.iaload, 1) := by decide +kernel
theorem dX10_kindsOf_24 : decode cX10_kindsOf 24 = .ok (.if_icmp .ge 121, 3) := by decide +kernel
theorem dX10_kindsOf_27 : decode cX10_kindsOf 27 = .ok (.bipush 36, 2) := by decide +kernel
theorem dX10_kindsOf_29 : decode cX10_kindsOf 29 = .ok (.iconst 5, 1) := by decide +kernel
theorem dX10_kindsOf_30 : decode cX10_kindsOf 30 = .ok (.iload 5, 2) := by decide +kernel
theorem dX10_kindsOf_32 : decode cX10_kindsOf 32 = .ok (.imul, 1) := by decide +kernel
theorem dX10_kindsOf_33 : decode cX10_kindsOf 33 = .ok (.iadd, 1) := by decide +kernel
theorem dX10_kindsOf_34 : decode cX10_kindsOf 34 = .ok (.istore 6, 2) := by decide +kernel
theorem dX10_kindsOf_36 : decode cX10_kindsOf 36 = .ok (.iload_n 3, 1) := by decide +kernel
theorem dX10_kindsOf_37 : decode cX10_kindsOf 37 = .ok (.aload_n 0, 1) := by decide +kernel
theorem dX10_kindsOf_38 : decode cX10_kindsOf 38 = .ok (.getfield 7, 3) := by decide +kernel
theorem dX10_kindsOf_41 : decode cX10_kindsOf 41 = .ok (.iload 6, 2) := by decide +kernel
theorem dX10_kindsOf_43 : decode cX10_kindsOf 43 = .ok (.iconst 2, 1) := by decide +kernel
theorem dX10_kindsOf_44 : decode cX10_kindsOf 44 = .ok (.iadd, 1) := by decide +kernel
theorem dX10_kindsOf_45 : decode cX10_kindsOf 45 = .ok (.iaload, 1) := by decide +kernel
theorem dX10_kindsOf_46 : decode cX10_kindsOf 46 = .ok (.invokestatic 99, 3) := by decide +kernel
theorem dX10_kindsOf_49 : decode cX10_kindsOf 49 = .ok (.aload_n 0, 1) := by decide +kernel
theorem dX10_kindsOf_50 : decode cX10_kindsOf 50 = .ok (.getfield 7, 3) := by decide +kernel
theorem dX10_kindsOf_53 : decode cX10_kindsOf 53 = .ok (.iload 6, 2) := by decide +kernel
theorem dX10_kindsOf_55 : decode cX10_kindsOf 55 = .ok (.iconst 3, 1) := by decide +kernel
theorem dX10_kindsOf_56 : decode cX10_kindsOf 56 = .ok (.iadd, 1) := by decide +kernel
theorem dX10_kindsOf_57 : decode cX10_kindsOf 57 = .ok (.iaload, 1) := by decide +kernel
theorem dX10_kindsOf_58 : decode cX10_kindsOf 58 = .ok (.iconst 1, 1) := by decide +kernel
theorem dX10_kindsOf_59 : decode cX10_kindsOf 59 = .ok (.if_icmp .ne 7, 3) := by decide +kernel
theorem dX10_kindsOf_62 : decode cX10_kindsOf 62 = .ok (.iconst 1, 1) := by decide +kernel
theorem dX10_kindsOf_63 : decode cX10_kindsOf 63 = .ok (.goto 4, 3) := by decide +kernel
theorem dX10_kindsOf_66 : decode cX10_kindsOf 66 = .ok (.iconst 0, 1) := by decide +kernel
theorem dX10_kindsOf_67 : decode cX10_kindsOf 67 = .ok (.if_icmp .ne 41, 3) := by decide +kernel
theorem dX10_kindsOf_70 : decode cX10_kindsOf 70 = .ok (.iload_n 3, 1) := by decide +kernel
theorem dX10_kindsOf_71 : decode cX10_kindsOf 71 = .ok (.aload_n 0, 1) := by decide +kernel
theorem dX10_kindsOf_72 : decode cX10_kindsOf 72 = .ok (.getfield 7, 3) := by decide +kernel
theorem dX10_kindsOf_75 : decode cX10_kindsOf 75 = .ok (.iload 6, 2) := by decide +kernel
theorem dX10_kindsOf_77 : decode cX10_kindsOf 77 = .ok (.iconst 1, 1) := by decide +kernel
theorem dX10_kindsOf_78 : decode cX10_kindsOf 78 = .ok (.iadd, 1) := by decide +kernel
theorem dX10_kindsOf_79 : decode cX10_kindsOf 79 = .ok (.iaload, 1) := by decide +kernel
theorem dX10_kindsOf_80 : decode cX10_kindsOf 80 = .ok (.aload_n 0, 1) := by decide +kernel
theorem dX10_kindsOf_81 : decode cX10_kindsOf 81 = .ok (.getfield 7, 3) := by decide +kernel
theorem dX10_kindsOf_84 : decode cX10_kindsOf 84 = .ok (.iload 6, 2) := by decide +kernel
theorem dX10_kindsOf_86 : decode cX10_kindsOf 86 = .ok (.iconst 2, 1) := by decide +kernel
theorem dX10_kindsOf_87 : decode cX10_kindsOf 87 = .ok (.iadd, 1) := by decide +kernel
theorem dX10_kindsOf_88 : decode cX10_kindsOf 88 = .ok (.iaload, 1) := by decide +kernel
theorem dX10_kindsOf_89 : decode cX10_kindsOf 89 = .ok (.invokestatic 179, 3) := by decide +kernel
theorem dX10_kindsOf_92 : decode cX10_kindsOf 92 = .ok (.aload_n 0, 1) := by decide +kernel
theorem dX10_kindsOf_93 : decode cX10_kindsOf 93 = .ok (.getfield 7, 3) := by decide +kernel
theorem dX10_kindsOf_96 : decode cX10_kindsOf 96 = .ok (.iload 6, 2) := by decide +kernel
theorem dX10_kindsOf_98 : decode cX10_kindsOf 98 = .ok (.iconst 4, 1) := by decide +kernel
theorem dX10_kindsOf_99 : decode cX10_kindsOf 99 = .ok (.iadd, 1) := by decide +kernel
theorem dX10_kindsOf_100 : decode cX10_kindsOf 100 = .ok (.iaload, 1) := by decide +kernel
theorem dX10_kindsOf_101 : decode cX10_kindsOf 101 = .ok (.if_icmp .ne 7, 3) := by decide +kernel
theorem dX10_kindsOf_104 : decode cX10_kindsOf 104 = .ok (.iconst 1, 1) := by decide +kernel
theorem dX10_kindsOf_105 : decode cX10_kindsOf 105 = .ok (.goto 4, 3) := by decide +kernel
theorem dX10_kindsOf_108 : decode cX10_kindsOf 108 = .ok (.iconst 0, 1) := by decide +kernel
theorem dX10_kindsOf_109 : decode cX10_kindsOf 109 = .ok (.istore 7, 2) := by decide +kernel
theorem dX10_kindsOf_111 : decode cX10_kindsOf 111 = .ok (.iload 4, 2) := by decide +kernel
theorem dX10_kindsOf_113 : decode cX10_kindsOf 113 = .ok (.ifCond .eq 23, 3) := by decide +kernel
theorem dX10_kindsOf_116 : decode cX10_kindsOf 116 = .ok (.aload_n 0, 1) := by decide +kernel
theorem dX10_kindsOf_117 : decode cX10_kindsOf 117 = .ok (.getfield 7, 3) := by decide +kernel
theorem dX10_kindsOf_120 : decode cX10_kindsOf 120 = .ok (.iload 6, 2) := by decide +kernel
theorem dX10_kindsOf_122 : decode cX10_kindsOf 122 = .ok (.iaload, 1) := by decide +kernel
theorem dX10_kindsOf_123 : decode cX10_kindsOf 123 = .ok (.iload_n 1, 1) := by decide +kernel
theorem dX10_kindsOf_124 : decode cX10_kindsOf 124 = .ok (.if_icmp .ne 8, 3) := by decide +kernel
theorem dX10_kindsOf_127 : decode cX10_kindsOf 127 = .ok (.iload 7, 2) := by decide +kernel
theorem dX10_kindsOf_129 : decode cX10_kindsOf 129 = .ok (.ifCond .eq 7, 3) := by decide +kernel
theorem dX10_kindsOf_132 : decode cX10_kindsOf 132 = .ok (.iconst 1, 1) := by decide +kernel
theorem dX10_kindsOf_133 : decode cX10_kindsOf 133 = .ok (.goto 4, 3) := by decide +kernel
theorem dX10_kindsOf_136 : decode cX10_kindsOf 136 = .ok (.iconst 0, 1) := by decide +kernel
theorem dX10_kindsOf_137 : decode cX10_kindsOf 137 = .ok (.istore 4, 2) := by decide +kernel
theorem dX10_kindsOf_139 : decode cX10_kindsOf 139 = .ok (.iinc 5 1, 3) := by decide +kernel
theorem dX10_kindsOf_142 : decode cX10_kindsOf 142 = .ok (.goto (-126), 3) := by decide +kernel
theorem dX10_kindsOf_145 : decode cX10_kindsOf 145 = .ok (.iload_n 2, 1) := by decide +kernel
theorem dX10_kindsOf_146 : decode cX10_kindsOf 146 = .ok (.iload 4, 2) := by decide +kernel
theorem dX10_kindsOf_148 : decode cX10_kindsOf 148 = .ok (.ifCond .eq 9, 3) := by decide +kernel
theorem dX10_kindsOf_151 : decode cX10_kindsOf 151 = .ok (.iconst 1, 1) := by decide +kernel
theorem dX10_kindsOf_152 : decode cX10_kindsOf 152 = .ok (.iload_n 3, 1) := by decide +kernel
theorem dX10_kindsOf_153 : decode cX10_kindsOf 153 = .ok (.ishl, 1) := by decide +kernel
theorem dX10_kindsOf_154 : decode cX10_kindsOf 154 = .ok (.goto 4, 3) := by decide +kernel
theorem dX10_kindsOf_157 : decode cX10_kindsOf 157 = .ok (.iconst 0, 1) := by decide +kernel
theorem dX10_kindsOf_158 : decode cX10_kindsOf 158 = .ok (.ior, 1) := by decide +kernel
theorem dX10_kindsOf_159 : decode cX10_kindsOf 159 = .ok (.istore_n 2, 1) := by decide +kernel
theorem dX10_kindsOf_160 : decode cX10_kindsOf 160 = .ok (.iinc 3 1, 3) := by decide +kernel
theorem dX10_kindsOf_163 : decode cX10_kindsOf 163 = .ok (.goto (-159), 3) := by decide +kernel
theorem dX10_kindsOf_166 : decode cX10_kindsOf 166 = .ok (.iload_n 2, 1) := by decide +kernel
theorem dX10_kindsOf_167 : decode cX10_kindsOf 167 = .ok (.ireturn, 1) := by decide +kernel
theorem dX10_is_0 : decode cX10_is 0 = .ok (.aload_n 0, 1) := by decide +kernel
theorem dX10_is_1 : decode cX10_is 1 = .ok (.iload_n 1, 1) := by decide +kernel
theorem dX10_is_2 : decode cX10_is 2 = .ok (.invokevirtual 137, 3) := by decide +kernel
theorem dX10_is_5 : decode cX10_is 5 = .ok (.ifCond .eq 11, 3) := by decide +kernel
theorem dX10_is_8 : decode cX10_is 8 = .ok (.aload_n 0, 1) := by decide +kernel
theorem dX10_is_9 : decode cX10_is 9 = .ok (.iload_n 1, 1) := by decide +kernel
theorem dX10_is_10 : decode cX10_is 10 = .ok (.invokevirtual 183, 3) := by decide +kernel
theorem dX10_is_13 : decode cX10_is 13 = .ok (.goto 9, 3) := by decide +kernel
theorem dX10_is_16 : decode cX10_is 16 = .ok (.aload_n 0, 1) := by decide +kernel
theorem dX10_is_17 : decode cX10_is 17 = .ok (.bipush (-2), 2) := by decide +kernel
theorem dX10_is_19 : decode cX10_is 19 = .ok (.invokevirtual 75, 3) := by decide +kernel
theorem dX10_is_22 : decode cX10_is 22 = .ok (.ireturn, 1) := by decide +kernel
theorem dX10_areAlike_0 : decode cX10_areAlike 0 = .ok (.iload_n 0, 1) := by decide +kernel
theorem dX10_areAlike_1 : decode cX10_areAlike 1 = .ok (.iload_n 3, 1) := by decide +kernel
theorem dX10_areAlike_2 : decode cX10_areAlike 2 = .ok (.invokestatic 99, 3) := by decide +kernel
theorem dX10_areAlike_5 : decode cX10_areAlike 5 = .ok (.iload_n 1, 1) := by decide +kernel
theorem dX10_areAlike_6 : decode cX10_areAlike 6 = .ok (.iload_n 3, 1) := by decide +kernel
theorem dX10_areAlike_7 : decode cX10_areAlike 7 = .ok (.invokestatic 99, 3) := by decide +kernel
theorem dX10_areAlike_10 : decode cX10_areAlike 10 = .ok (.if_icmp .ne 22, 3) := by decide +kernel
theorem dX10_areAlike_13 : decode cX10_areAlike 13 = .ok (.iload_n 0, 1) := by decide +kernel
theorem dX10_areAlike_14 : decode cX10_areAlike 14 = .ok (.iload_n 2, 1) := by decide +kernel
theorem dX10_areAlike_15 : decode cX10_areAlike 15 = .ok (.iload_n 3, 1) := by decide +kernel
theorem dX10_areAlike_16 : decode cX10_areAlike 16 = .ok (.invokestatic 179, 3) := by decide +kernel
theorem dX10_areAlike_19 : decode cX10_areAlike 19 = .ok (.iload_n 1, 1) := by decide +kernel
theorem dX10_areAlike_20 : decode cX10_areAlike 20 = .ok (.iload_n 2, 1) := by decide +kernel
theorem dX10_areAlike_21 : decode cX10_areAlike 21 = .ok (.iload_n 3, 1) := by decide +kernel
theorem dX10_areAlike_22 : decode cX10_areAlike 22 = .ok (.invokestatic 179, 3) := by decide +kernel
theorem dX10_areAlike_25 : decode cX10_areAlike 25 = .ok (.if_icmp .ne 7, 3) := by decide +kernel
theorem dX10_areAlike_28 : decode cX10_areAlike 28 = .ok (.iconst 1, 1) := by decide +kernel
theorem dX10_areAlike_29 : decode cX10_areAlike 29 = .ok (.goto 4, 3) := by decide +kernel
theorem dX10_areAlike_32 : decode cX10_areAlike 32 = .ok (.iconst 0, 1) := by decide +kernel
theorem dX10_areAlike_33 : decode cX10_areAlike 33 = .ok (.ireturn, 1) := by decide +kernel
theorem dX10_listen_0 : decode cX10_listen 0 = .ok (.aload_n 0, 1) := by decide +kernel
theorem dX10_listen_1 : decode cX10_listen 1 = .ok (.iload_n 1, 1) := by decide +kernel
theorem dX10_listen_2 : decode cX10_listen 2 = .ok (.invokevirtual 137, 3) := by decide +kernel
theorem dX10_listen_5 : decode cX10_listen 5 = .ok (.ifCond .ne 10, 3) := by decide +kernel
theorem dX10_listen_8 : decode cX10_listen 8 = .ok (.aload_n 0, 1) := by decide +kernel
theorem dX10_listen_9 : decode cX10_listen 9 = .ok (.bipush (-2), 2) := by decide +kernel
theorem dX10_listen_11 : decode cX10_listen 11 = .ok (.invokevirtual 75, 3) := by decide +kernel
theorem dX10_listen_14 : decode cX10_listen 14 = .ok (.ireturn, 1) := by decide +kernel
theorem dX10_listen_15 : decode cX10_listen 15 = .ok (.aload_n 0, 1) := by decide +kernel
theorem dX10_listen_16 : decode cX10_listen 16 = .ok (.iload_n 1, 1) := by decide +kernel
theorem dX10_listen_17 : decode cX10_listen 17 = .ok (.invokevirtual 183, 3) := by decide +kernel
theorem dX10_listen_20 : decode cX10_listen 20 = .ok (.istore_n 2, 1) := by decide +kernel
theorem dX10_listen_21 : decode cX10_listen 21 = .ok (.iconst (-1), 1) := by decide +kernel
theorem dX10_listen_22 : decode cX10_listen 22 = .ok (.istore_n 3, 1) := by decide +kernel
theorem dX10_listen_23 : decode cX10_listen 23 = .ok (.ldc 171, 2) := by decide +kernel
theorem dX10_listen_25 : decode cX10_listen 25 = .ok (.istore 4, 2) := by decide +kernel
theorem dX10_listen_27 : decode cX10_listen 27 = .ok (.iconst 0, 1) := by decide +kernel
theorem dX10_listen_28 : decode cX10_listen 28 = .ok (.istore 5, 2) := by decide +kernel
theorem dX10_listen_30 : decode cX10_listen 30 = .ok (.iload 5, 2) := by decide +kernel
theorem dX10_listen_32 : decode cX10_listen 32 = .ok (.bipush 24, 2) := by decide +kernel
theorem dX10_listen_34 : decode cX10_listen 34 = .ok (.if_icmp .ge 145, 3) := by decide +kernel
theorem dX10_listen_37 : decode cX10_listen 37 = .ok (.iload_n 2, 1) := by decide +kernel
theorem dX10_listen_38 : decode cX10_listen 38 = .ok (.ifCond .le 141, 3) := by decide +kernel
theorem dX10_listen_41 : decode cX10_listen 41 = .ok (.iconst 0, 1) := by decide +kernel
theorem dX10_listen_42 : decode cX10_listen 42 = .ok (.istore 6, 2) := by decide +kernel
theorem dX10_listen_44 : decode cX10_listen 44 = .ok (.iconst 0, 1) := by decide +kernel
theorem dX10_listen_45 : decode cX10_listen 45 = .ok (.istore 7, 2) := by decide +kernel
theorem dX10_listen_47 : decode cX10_listen 47 = .ok (.iload 7, 2) := by decide +kernel
theorem dX10_listen_49 : decode cX10_listen 49 = .ok (.bipush 6, 2) := by decide +kernel
theorem dX10_listen_51 : decode cX10_listen 51 = .ok (.if_icmp .ge 92, 3) := by decide +kernel
theorem dX10_listen_54 : decode cX10_listen 54 = .ok (.iconst 0, 1) := by decide +kernel
theorem dX10_listen_55 : decode cX10_listen 55 = .ok (.istore 8, 2) := by decide +kernel
theorem dX10_listen_57 : decode cX10_listen 57 = .ok (.iconst 0, 1) := by decide +kernel
theorem dX10_listen_58 : decode cX10_listen 58 = .ok (.istore 9, 2) := by decide +kernel
theorem dX10_listen_60 : decode cX10_listen 60 = .ok (.iload 9, 2) := by decide +kernel
theorem dX10_listen_62 : decode cX10_listen 62 = .ok (.bipush 6, 2) := by decide +kernel
theorem dX10_listen_64 : decode cX10_listen 64 = .ok (.if_icmp .ge 57, 3) := by decide +kernel
theorem dX10_listen_67 : decode cX10_listen 67 = .ok (.iload_n 2, 1) := by decide +kernel
theorem dX10_listen_68 : decode cX10_listen 68 = .ok (.iload 7, 2) := by decide +kernel
theorem dX10_listen_70 : decode cX10_listen 70 = .ok (.invokestatic 117, 3) := by decide +kernel
theorem dX10_listen_73 : decode cX10_listen 73 = .ok (.ifCond .eq 48, 3) := by decide +kernel
theorem dX10_listen_76 : decode cX10_listen 76 = .ok (.iload 8, 2) := by decide +kernel
theorem dX10_listen_78 : decode cX10_listen 78 = .ok (.iload_n 2, 1) := by decide +kernel
theorem dX10_listen_79 : decode cX10_listen 79 = .ok (.iload 9, 2) := by decide +kernel
theorem dX10_listen_81 : decode cX10_listen 81 = .ok (.invokestatic 117, 3) := by decide +kernel
theorem dX10_listen_84 : decode cX10_listen 84 = .ok (.ifCond .eq 27, 3) := by decide +kernel
theorem dX10_listen_87 : decode cX10_listen 87 = .ok (.iload 7, 2) := by decide +kernel
theorem dX10_listen_89 : decode cX10_listen 89 = .ok (.iload 9, 2) := by decide +kernel
theorem dX10_listen_91 : decode cX10_listen 91 = .ok (.aload_n 0, 1) := by decide +kernel
theorem dX10_listen_92 : decode cX10_listen 92 = .ok (.getfield 7, 3) := by decide +kernel
theorem dX10_listen_95 : decode cX10_listen 95 = .ok (.iconst 4, 1) := by decide +kernel
theorem dX10_listen_96 : decode cX10_listen 96 = .ok (.iload_n 1, 1) := by decide +kernel
theorem dX10_listen_97 : decode cX10_listen 97 = .ok (.iadd, 1) := by decide +kernel
theorem dX10_listen_98 : decode cX10_listen 98 = .ok (.iaload, 1) := by decide +kernel
theorem dX10_listen_99 : decode cX10_listen 99 = .ok (.iload 5, 2) := by decide +kernel
theorem dX10_listen_101 : decode cX10_listen 101 = .ok (.invokestatic 186, 3) := by decide +kernel
theorem dX10_listen_104 : decode cX10_listen 104 = .ok (.ifCond .eq 7, 3) := by decide +kernel
theorem dX10_listen_107 : decode cX10_listen 107 = .ok (.iconst 1, 1) := by decide +kernel
theorem dX10_listen_108 : decode cX10_listen 108 = .ok (.goto 4, 3) := by decide +kernel
theorem dX10_listen_111 : decode cX10_listen 111 = .ok (.iconst 0, 1) := by decide +kernel
theorem dX10_listen_112 : decode cX10_listen 112 = .ok (.iadd, 1) := by decide +kernel
theorem dX10_listen_113 : decode cX10_listen 113 = .ok (.istore 8, 2) := by decide +kernel
theorem dX10_listen_115 : decode cX10_listen 115 = .ok (.iinc 9 1, 3) := by decide +kernel
theorem dX10_listen_118 : decode cX10_listen 118 = .ok (.goto (-58), 3) := by decide +kernel
theorem dX10_listen_121 : decode cX10_listen 121 = .ok (.iload 8, 2) := by decide +kernel
theorem dX10_listen_123 : decode cX10_listen 123 = .ok (.iload 6, 2) := by decide +kernel
theorem dX10_listen_125 : decode cX10_listen 125 = .ok (.if_icmp .le 8, 3) := by decide +kernel
theorem dX10_listen_128 : decode cX10_listen 128 = .ok (.iload 8, 2) := by decide +kernel
theorem dX10_listen_130 : decode cX10_listen 130 = .ok (.goto 5, 3) := by decide +kernel
theorem dX10_listen_133 : decode cX10_listen 133 = .ok (.iload 6, 2) := by decide +kernel
theorem dX10_listen_135 : decode cX10_listen 135 = .ok (.istore 6, 2) := by decide +kernel
theorem dX10_listen_137 : decode cX10_listen 137 = .ok (.iinc 7 1, 3) := by decide +kernel
theorem dX10_listen_140 : decode cX10_listen 140 = .ok (.goto (-93), 3) := by decide +kernel
theorem dX10_listen_143 : decode cX10_listen 143 = .ok (.iload 6, 2) := by decide +kernel
theorem dX10_listen_145 : decode cX10_listen 145 = .ok (.iload 4, 2) := by decide +kernel
theorem dX10_listen_147 : decode cX10_listen 147 = .ok (.if_icmp .ge 8, 3) := by decide +kernel
theorem dX10_listen_150 : decode cX10_listen 150 = .ok (.iload 5, 2) := by decide +kernel
theorem dX10_listen_152 : decode cX10_listen 152 = .ok (.goto 4, 3) := by decide +kernel
theorem dX10_listen_155 : decode cX10_listen 155 = .ok (.iload_n 3, 1) := by decide +kernel
theorem dX10_listen_156 : decode cX10_listen 156 = .ok (.istore_n 3, 1) := by decide +kernel
theorem dX10_listen_157 : decode cX10_listen 157 = .ok (.iload 6, 2) := by decide +kernel
theorem dX10_listen_159 : decode cX10_listen 159 = .ok (.iload 4, 2) := by decide +kernel
theorem dX10_listen_161 : decode cX10_listen 161 = .ok (.if_icmp .ge 8, 3) := by decide +kernel
theorem dX10_listen_164 : decode cX10_listen 164 = .ok (.iload 6, 2) := by decide +kernel
theorem dX10_listen_166 : decode cX10_listen 166 = .ok (.goto 5, 3) := by decide +kernel
theorem dX10_listen_169 : decode cX10_listen 169 = .ok (.iload 4, 2) := by decide +kernel
theorem dX10_listen_171 : decode cX10_listen 171 = .ok (.istore 4, 2) := by decide +kernel
theorem dX10_listen_173 : decode cX10_listen 173 = .ok (.iinc 5 1, 3) := by decide +kernel
theorem dX10_listen_176 : decode cX10_listen 176 = .ok (.goto (-146), 3) := by decide +kernel
theorem dX10_listen_179 : decode cX10_listen 179 = .ok (.iload_n 3, 1) := by decide +kernel
theorem dX10_listen_180 : decode cX10_listen 180 = .ok (.ireturn, 1) := by decide +kernel
theorem dX10_which_0 : decode cX10_which 0 = .ok (.iconst 0, 1) := by decide +kernel
theorem dX10_which_1 : decode cX10_which 1 = .ok (.istore_n 1, 1) := by decide +kernel
theorem dX10_which_2 : decode cX10_which 2 = .ok (.iconst 0, 1) := by decide +kernel
theorem dX10_which_3 : decode cX10_which 3 = .ok (.istore_n 2, 1) := by decide +kernel
theorem dX10_which_4 : decode cX10_which 4 = .ok (.iload_n 2, 1) := by decide +kernel
theorem dX10_which_5 : decode cX10_which 5 = .ok (.bipush 24, 2) := by decide +kernel
theorem dX10_which_7 : decode cX10_which 7 = .ok (.if_icmp .ge 98, 3) := by decide +kernel
theorem dX10_which_10 : decode cX10_which 10 = .ok (.iconst 1, 1) := by decide +kernel
theorem dX10_which_11 : decode cX10_which 11 = .ok (.istore_n 3, 1) := by decide +kernel
theorem dX10_which_12 : decode cX10_which 12 = .ok (.iconst 0, 1) := by decide +kernel
theorem dX10_which_13 : decode cX10_which 13 = .ok (.istore 4, 2) := by decide +kernel
theorem dX10_which_15 : decode cX10_which 15 = .ok (.iload 4, 2) := by decide +kernel
theorem dX10_which_17 : decode cX10_which 17 = .ok (.aload_n 0, 1) := by decide +kernel
theorem dX10_which_18 : decode cX10_which 18 = .ok (.getfield 7, 3) := by decide +kernel
theorem dX10_which_21 : decode cX10_which 21 = .ok (.iconst 2, 1) := by decide +kernel
theorem dX10_which_22 : decode cX10_which 22 = .ok (.iaload, 1) := by decide +kernel
theorem dX10_which_23 : decode cX10_which 23 = .ok (.if_icmp .ge 62, 3) := by decide +kernel
theorem dX10_which_26 : decode cX10_which 26 = .ok (.iload_n 3, 1) := by decide +kernel
theorem dX10_which_27 : decode cX10_which 27 = .ok (.ifCond .eq 50, 3) := by decide +kernel
theorem dX10_which_30 : decode cX10_which 30 = .ok (.aload_n 0, 1) := by decide +kernel
theorem dX10_which_31 : decode cX10_which 31 = .ok (.aload_n 0, 1) := by decide +kernel
theorem dX10_which_32 : decode cX10_which 32 = .ok (.getfield 7, 3) := by decide +kernel
theorem dX10_which_35 : decode cX10_which 35 = .ok (.bipush 66, 2) := by decide +kernel
theorem dX10_which_37 : decode cX10_which 37 = .ok (.iconst 2, 1) := by decide +kernel
theorem dX10_which_38 : decode cX10_which 38 = .ok (.iload 4, 2) := by decide +kernel
theorem dX10_which_40 : decode cX10_which 40 = .ok (.imul, 1) := by decide +kernel
theorem dX10_which_41 : decode cX10_which 41 = .ok (.iadd, 1) := by decide +kernel
theorem dX10_which_42 : decode cX10_which 42 = .ok (.iaload, 1) := by decide +kernel
theorem dX10_which_43 : decode cX10_which 43 = .ok (.iload_n 2, 1) := by decide +kernel
theorem dX10_which_44 : decode cX10_which 44 = .ok (.invokevirtual 107, 3) := by decide +kernel
theorem dX10_which_47 : decode cX10_which 47 = .ok (.aload_n 0, 1) := by decide +kernel
theorem dX10_which_48 : decode cX10_which 48 = .ok (.getfield 7, 3) := by decide +kernel
theorem dX10_which_51 : decode cX10_which 51 = .ok (.bipush 66, 2) := by decide +kernel
theorem dX10_which_53 : decode cX10_which 53 = .ok (.iconst 2, 1) := by decide +kernel
theorem dX10_which_54 : decode cX10_which 54 = .ok (.iload 4, 2) := by decide +kernel
theorem dX10_which_56 : decode cX10_which 56 = .ok (.imul, 1) := by decide +kernel
theorem dX10_which_57 : decode cX10_which 57 = .ok (.iadd, 1) := by decide +kernel
theorem dX10_which_58 : decode cX10_which 58 = .ok (.iconst 1, 1) := by decide +kernel
theorem dX10_which_59 : decode cX10_which 59 = .ok (.iadd, 1) := by decide +kernel
theorem dX10_which_60 : decode cX10_which 60 = .ok (.iaload, 1) := by decide +kernel
theorem dX10_which_61 : decode cX10_which 61 = .ok (.iconst 1, 1) := by decide +kernel
theorem dX10_which_62 : decode cX10_which 62 = .ok (.if_icmp .ne 7, 3) := by decide +kernel
theorem dX10_which_65 : decode cX10_which 65 = .ok (.iconst 1, 1) := by decide +kernel
theorem dX10_which_66 : decode cX10_which 66 = .ok (.goto 4, 3) := by decide +kernel
theorem dX10_which_69 : decode cX10_which 69 = .ok (.iconst 0, 1) := by decide +kernel
theorem dX10_which_70 : decode cX10_which 70 = .ok (.if_icmp .ne 7, 3) := by decide +kernel
theorem dX10_which_73 : decode cX10_which 73 = .ok (.iconst 1, 1) := by decide +kernel
theorem dX10_which_74 : decode cX10_which 74 = .ok (.goto 4, 3) := by decide +kernel
theorem dX10_which_77 : decode cX10_which 77 = .ok (.iconst 0, 1) := by decide +kernel
theorem dX10_which_78 : decode cX10_which 78 = .ok (.istore_n 3, 1) := by decide +kernel
theorem dX10_which_79 : decode cX10_which 79 = .ok (.iinc 4 1, 3) := by decide +kernel
theorem dX10_which_82 : decode cX10_which 82 = .ok (.goto (-67), 3) := by decide +kernel
theorem dX10_which_85 : decode cX10_which 85 = .ok (.iload_n 1, 1) := by decide +kernel
theorem dX10_which_86 : decode cX10_which 86 = .ok (.iload_n 3, 1) := by decide +kernel
theorem dX10_which_87 : decode cX10_which 87 = .ok (.ifCond .eq 9, 3) := by decide +kernel
theorem dX10_which_90 : decode cX10_which 90 = .ok (.iconst 1, 1) := by decide +kernel
theorem dX10_which_91 : decode cX10_which 91 = .ok (.iload_n 2, 1) := by decide +kernel
theorem dX10_which_92 : decode cX10_which 92 = .ok (.ishl, 1) := by decide +kernel
theorem dX10_which_93 : decode cX10_which 93 = .ok (.goto 4, 3) := by decide +kernel
theorem dX10_which_96 : decode cX10_which 96 = .ok (.iconst 0, 1) := by decide +kernel
theorem dX10_which_97 : decode cX10_which 97 = .ok (.ior, 1) := by decide +kernel
theorem dX10_which_98 : decode cX10_which 98 = .ok (.istore_n 1, 1) := by decide +kernel
theorem dX10_which_99 : decode cX10_which 99 = .ok (.iinc 2 1, 3) := by decide +kernel
theorem dX10_which_102 : decode cX10_which 102 = .ok (.goto (-98), 3) := by decide +kernel
theorem dX10_which_105 : decode cX10_which 105 = .ok (.iload_n 1, 1) := by decide +kernel
theorem dX10_which_106 : decode cX10_which 106 = .ok (.ireturn, 1) := by decide +kernel
theorem dX10_powers_0 : decode cX10_powers 0 = .ok (.iload_n 1, 1) := by decide +kernel
theorem dX10_powers_1 : decode cX10_powers 1 = .ok (.invokestatic 146, 3) := by decide +kernel
theorem dX10_powers_4 : decode cX10_powers 4 = .ok (.ifCond .ne 10, 3) := by decide +kernel
theorem dX10_powers_7 : decode cX10_powers 7 = .ok (.aload_n 0, 1) := by decide +kernel
theorem dX10_powers_8 : decode cX10_powers 8 = .ok (.bipush (-2), 2) := by decide +kernel
theorem dX10_powers_10 : decode cX10_powers 10 = .ok (.invokevirtual 75, 3) := by decide +kernel
theorem dX10_powers_13 : decode cX10_powers 13 = .ok (.ireturn, 1) := by decide +kernel
theorem dX10_powers_14 : decode cX10_powers 14 = .ok (.aload_n 0, 1) := by decide +kernel
theorem dX10_powers_15 : decode cX10_powers 15 = .ok (.invokevirtual 155, 3) := by decide +kernel
theorem dX10_powers_18 : decode cX10_powers 18 = .ok (.istore_n 2, 1) := by decide +kernel
theorem dX10_powers_19 : decode cX10_powers 19 = .ok (.iload_n 2, 1) := by decide +kernel
theorem dX10_powers_20 : decode cX10_powers 20 = .ok (.iconst (-1), 1) := by decide +kernel
theorem dX10_powers_21 : decode cX10_powers 21 = .ok (.if_icmp .eq 12, 3) := by decide +kernel
theorem dX10_powers_24 : decode cX10_powers 24 = .ok (.aload_n 0, 1) := by decide +kernel
theorem dX10_powers_25 : decode cX10_powers 25 = .ok (.iload_n 2, 1) := by decide +kernel
theorem dX10_powers_26 : decode cX10_powers 26 = .ok (.iload_n 1, 1) := by decide +kernel
theorem dX10_powers_27 : decode cX10_powers 27 = .ok (.invokevirtual 107, 3) := by decide +kernel
theorem dX10_powers_30 : decode cX10_powers 30 = .ok (.ifCond .ne 6, 3) := by decide +kernel
theorem dX10_powers_33 : decode cX10_powers 33 = .ok (.bipush 15, 2) := by decide +kernel
theorem dX10_powers_35 : decode cX10_powers 35 = .ok (.ireturn, 1) := by decide +kernel
theorem dX10_powers_36 : decode cX10_powers 36 = .ok (.iconst 0, 1) := by decide +kernel
theorem dX10_powers_37 : decode cX10_powers 37 = .ok (.istore_n 3, 1) := by decide +kernel
theorem dX10_powers_38 : decode cX10_powers 38 = .ok (.iload_n 3, 1) := by decide +kernel
theorem dX10_powers_39 : decode cX10_powers 39 = .ok (.iconst 4, 1) := by decide +kernel
theorem dX10_powers_40 : decode cX10_powers 40 = .ok (.if_icmp .ge 74, 3) := by decide +kernel
theorem dX10_powers_43 : decode cX10_powers 43 = .ok (.aload_n 0, 1) := by decide +kernel
theorem dX10_powers_44 : decode cX10_powers 44 = .ok (.iload_n 2, 1) := by decide +kernel
theorem dX10_powers_45 : decode cX10_powers 45 = .ok (.iload_n 1, 1) := by decide +kernel
theorem dX10_powers_46 : decode cX10_powers 46 = .ok (.invokevirtual 149, 3) := by decide +kernel
theorem dX10_powers_49 : decode cX10_powers 49 = .ok (.iconst 2, 1) := by decide +kernel
theorem dX10_powers_50 : decode cX10_powers 50 = .ok (.iload_n 3, 1) := by decide +kernel
theorem dX10_powers_51 : decode cX10_powers 51 = .ok (.invokestatic 143, 3) := by decide +kernel
theorem dX10_powers_54 : decode cX10_powers 54 = .ok (.imul, 1) := by decide +kernel
theorem dX10_powers_55 : decode cX10_powers 55 = .ok (.iadd, 1) := by decide +kernel
theorem dX10_powers_56 : decode cX10_powers 56 = .ok (.istore 4, 2) := by decide +kernel
theorem dX10_powers_58 : decode cX10_powers 58 = .ok (.aload_n 0, 1) := by decide +kernel
theorem dX10_powers_59 : decode cX10_powers 59 = .ok (.getfield 42, 3) := by decide +kernel
theorem dX10_powers_62 : decode cX10_powers 62 = .ok (.iload_n 3, 1) := by decide +kernel
theorem dX10_powers_63 : decode cX10_powers 63 = .ok (.iload_n 3, 1) := by decide +kernel
theorem dX10_powers_64 : decode cX10_powers 64 = .ok (.iconst 1, 1) := by decide +kernel
theorem dX10_powers_65 : decode cX10_powers 65 = .ok (.iand, 1) := by decide +kernel
theorem dX10_powers_66 : decode cX10_powers 66 = .ok (.iconst 1, 1) := by decide +kernel
theorem dX10_powers_67 : decode cX10_powers 67 = .ok (.if_icmp .ne 10, 3) := by decide +kernel
theorem dX10_powers_70 : decode cX10_powers 70 = .ok (.iconst 4, 1) := by decide +kernel
theorem dX10_powers_71 : decode cX10_powers 71 = .ok (.iload 4, 2) := by decide +kernel
theorem dX10_powers_73 : decode cX10_powers 73 = .ok (.isub, 1) := by decide +kernel
theorem dX10_powers_74 : decode cX10_powers 74 = .ok (.goto 9, 3) := by decide +kernel
theorem dX10_powers_77 : decode cX10_powers 77 = .ok (.iconst 3, 1) := by decide +kernel
theorem dX10_powers_78 : decode cX10_powers 78 = .ok (.iload 4, 2) := by decide +kernel
theorem dX10_powers_80 : decode cX10_powers 80 = .ok (.iconst 2, 1) := by decide +kernel
theorem dX10_powers_81 : decode cX10_powers 81 = .ok (.idiv, 1) := by decide +kernel
theorem dX10_powers_82 : decode cX10_powers 82 = .ok (.isub, 1) := by decide +kernel
theorem dX10_powers_83 : decode cX10_powers 83 = .ok (.iastore, 1) := by decide +kernel
theorem dX10_powers_84 : decode cX10_powers 84 = .ok (.aload_n 0, 1) := by decide +kernel
theorem dX10_powers_85 : decode cX10_powers 85 = .ok (.getfield 45, 3) := by decide +kernel
theorem dX10_powers_88 : decode cX10_powers 88 = .ok (.iload_n 3, 1) := by decide +kernel
theorem dX10_powers_89 : decode cX10_powers 89 = .ok (.iload_n 3, 1) := by decide +kernel
theorem dX10_powers_90 : decode cX10_powers 90 = .ok (.iconst 1, 1) := by decide +kernel
theorem dX10_powers_91 : decode cX10_powers 91 = .ok (.if_icmp .le 10, 3) := by decide +kernel
theorem dX10_powers_94 : decode cX10_powers 94 = .ok (.iconst 4, 1) := by decide +kernel
theorem dX10_powers_95 : decode cX10_powers 95 = .ok (.iload 4, 2) := by decide +kernel
theorem dX10_powers_97 : decode cX10_powers 97 = .ok (.isub, 1) := by decide +kernel
theorem dX10_powers_98 : decode cX10_powers 98 = .ok (.goto 9, 3) := by decide +kernel
theorem dX10_powers_101 : decode cX10_powers 101 = .ok (.iconst 3, 1) := by decide +kernel
theorem dX10_powers_102 : decode cX10_powers 102 = .ok (.iload 4, 2) := by decide +kernel
theorem dX10_powers_104 : decode cX10_powers 104 = .ok (.iconst 2, 1) := by decide +kernel
theorem dX10_powers_105 : decode cX10_powers 105 = .ok (.idiv, 1) := by decide +kernel
theorem dX10_powers_106 : decode cX10_powers 106 = .ok (.isub, 1) := by decide +kernel
theorem dX10_powers_107 : decode cX10_powers 107 = .ok (.iastore, 1) := by decide +kernel
theorem dX10_powers_108 : decode cX10_powers 108 = .ok (.iinc 3 1, 3) := by decide +kernel
theorem dX10_powers_111 : decode cX10_powers 111 = .ok (.goto (-73), 3) := by decide +kernel
theorem dX10_powers_114 : decode cX10_powers 114 = .ok (.iconst 0, 1) := by decide +kernel
theorem dX10_powers_115 : decode cX10_powers 115 = .ok (.istore_n 3, 1) := by decide +kernel
theorem dX10_powers_116 : decode cX10_powers 116 = .ok (.iconst 0, 1) := by decide +kernel
theorem dX10_powers_117 : decode cX10_powers 117 = .ok (.istore 4, 2) := by decide +kernel
theorem dX10_powers_119 : decode cX10_powers 119 = .ok (.iload 4, 2) := by decide +kernel
theorem dX10_powers_121 : decode cX10_powers 121 = .ok (.iconst 4, 1) := by decide +kernel
theorem dX10_powers_122 : decode cX10_powers 122 = .ok (.if_icmp .ge 70, 3) := by decide +kernel
theorem dX10_powers_125 : decode cX10_powers 125 = .ok (.aload_n 0, 1) := by decide +kernel
theorem dX10_powers_126 : decode cX10_powers 126 = .ok (.getfield 42, 3) := by decide +kernel
theorem dX10_powers_129 : decode cX10_powers 129 = .ok (.iload 4, 2) := by decide +kernel
theorem dX10_powers_131 : decode cX10_powers 131 = .ok (.iaload, 1) := by decide +kernel
theorem dX10_powers_132 : decode cX10_powers 132 = .ok (.aload_n 0, 1) := by decide +kernel
theorem dX10_powers_133 : decode cX10_powers 133 = .ok (.getfield 42, 3) := by decide +kernel
theorem dX10_powers_136 : decode cX10_powers 136 = .ok (.iload 4, 2) := by decide +kernel
theorem dX10_powers_138 : decode cX10_powers 138 = .ok (.iconst 1, 1) := by decide +kernel
theorem dX10_powers_139 : decode cX10_powers 139 = .ok (.ixor, 1) := by decide +kernel
theorem dX10_powers_140 : decode cX10_powers 140 = .ok (.iaload, 1) := by decide +kernel
theorem dX10_powers_141 : decode cX10_powers 141 = .ok (.if_icmp .lt 26, 3) := by decide +kernel
theorem dX10_powers_144 : decode cX10_powers 144 = .ok (.aload_n 0, 1) := by decide +kernel
theorem dX10_powers_145 : decode cX10_powers 145 = .ok (.getfield 45, 3) := by decide +kernel
theorem dX10_powers_148 : decode cX10_powers 148 = .ok (.iload 4, 2) := by decide +kernel
theorem dX10_powers_150 : decode cX10_powers 150 = .ok (.iaload, 1) := by decide +kernel
theorem dX10_powers_151 : decode cX10_powers 151 = .ok (.aload_n 0, 1) := by decide +kernel
theorem dX10_powers_152 : decode cX10_powers 152 = .ok (.getfield 45, 3) := by decide +kernel
theorem dX10_powers_155 : decode cX10_powers 155 = .ok (.iload 4, 2) := by decide +kernel
theorem dX10_powers_157 : decode cX10_powers 157 = .ok (.iconst 2, 1) := by decide +kernel
theorem dX10_powers_158 : decode cX10_powers 158 = .ok (.ixor, 1) := by decide +kernel
theorem dX10_powers_159 : decode cX10_powers 159 = .ok (.iaload, 1) := by decide +kernel
theorem dX10_powers_160 : decode cX10_powers 160 = .ok (.if_icmp .lt 7, 3) := by decide +kernel
theorem dX10_powers_163 : decode cX10_powers 163 = .ok (.iconst 1, 1) := by decide +kernel
theorem dX10_powers_164 : decode cX10_powers 164 = .ok (.goto 4, 3) := by decide +kernel
theorem dX10_powers_167 : decode cX10_powers 167 = .ok (.iconst 0, 1) := by decide +kernel
theorem dX10_powers_168 : decode cX10_powers 168 = .ok (.istore 5, 2) := by decide +kernel
theorem dX10_powers_170 : decode cX10_powers 170 = .ok (.iload_n 3, 1) := by decide +kernel
theorem dX10_powers_171 : decode cX10_powers 171 = .ok (.iload 5, 2) := by decide +kernel
theorem dX10_powers_173 : decode cX10_powers 173 = .ok (.ifCond .eq 10, 3) := by decide +kernel
theorem dX10_powers_176 : decode cX10_powers 176 = .ok (.iconst 1, 1) := by decide +kernel
theorem dX10_powers_177 : decode cX10_powers 177 = .ok (.iload 4, 2) := by decide +kernel
theorem dX10_powers_179 : decode cX10_powers 179 = .ok (.ishl, 1) := by decide +kernel
theorem dX10_powers_180 : decode cX10_powers 180 = .ok (.goto 4, 3) := by decide +kernel
theorem dX10_powers_183 : decode cX10_powers 183 = .ok (.iconst 0, 1) := by decide +kernel
theorem dX10_powers_184 : decode cX10_powers 184 = .ok (.ior, 1) := by decide +kernel
theorem dX10_powers_185 : decode cX10_powers 185 = .ok (.istore_n 3, 1) := by decide +kernel
theorem dX10_powers_186 : decode cX10_powers 186 = .ok (.iinc 4 1, 3) := by decide +kernel
theorem dX10_powers_189 : decode cX10_powers 189 = .ok (.goto (-70), 3) := by decide +kernel
theorem dX10_powers_192 : decode cX10_powers 192 = .ok (.iload_n 3, 1) := by decide +kernel
theorem dX10_powers_193 : decode cX10_powers 193 = .ok (.ireturn, 1) := by decide +kernel
theorem dX10_fraction_0 : decode cX10_fraction 0 = .ok (.lload_n 1, 1) := by decide +kernel
theorem dX10_fraction_1 : decode cX10_fraction 1 = .ok (.lstore 5, 2) := by decide +kernel
theorem dX10_fraction_3 : decode cX10_fraction 3 = .ok (.lload_n 3, 1) := by decide +kernel
theorem dX10_fraction_4 : decode cX10_fraction 4 = .ok (.lstore 7, 2) := by decide +kernel
theorem dX10_fraction_6 : decode cX10_fraction 6 = .ok (.lload 7, 2) := by decide +kernel
theorem dX10_fraction_8 : decode cX10_fraction 8 = .ok (.lconst 0, 1) := by decide +kernel
theorem dX10_fraction_9 : decode cX10_fraction 9 = .ok (.lcmp, 1) := by decide +kernel
theorem dX10_fraction_10 : decode cX10_fraction 10 = .ok (.ifCond .eq 21, 3) := by decide +kernel
theorem dX10_fraction_13 : decode cX10_fraction 13 = .ok (.lload 5, 2) := by decide +kernel
theorem dX10_fraction_15 : decode cX10_fraction 15 = .ok (.lload 7, 2) := by decide +kernel
theorem dX10_fraction_17 : decode cX10_fraction 17 = .ok (.lrem, 1) := by decide +kernel
theorem dX10_fraction_18 : decode cX10_fraction 18 = .ok (.lstore 9, 2) := by decide +kernel
theorem dX10_fraction_20 : decode cX10_fraction 20 = .ok (.lload 7, 2) := by decide +kernel
theorem dX10_fraction_22 : decode cX10_fraction 22 = .ok (.lstore 5, 2) := by decide +kernel
theorem dX10_fraction_24 : decode cX10_fraction 24 = .ok (.lload 9, 2) := by decide +kernel
theorem dX10_fraction_26 : decode cX10_fraction 26 = .ok (.lstore 7, 2) := by decide +kernel
theorem dX10_fraction_28 : decode cX10_fraction 28 = .ok (.goto (-22), 3) := by decide +kernel
theorem dX10_fraction_31 : decode cX10_fraction 31 = .ok (.aload_n 0, 1) := by decide +kernel
theorem dX10_fraction_32 : decode cX10_fraction 32 = .ok (.lload_n 1, 1) := by decide +kernel
theorem dX10_fraction_33 : decode cX10_fraction 33 = .ok (.lload 5, 2) := by decide +kernel
theorem dX10_fraction_35 : decode cX10_fraction 35 = .ok (.ldiv, 1) := by decide +kernel
theorem dX10_fraction_36 : decode cX10_fraction 36 = .ok (.putfield 190, 3) := by decide +kernel
theorem dX10_fraction_39 : decode cX10_fraction 39 = .ok (.aload_n 0, 1) := by decide +kernel
theorem dX10_fraction_40 : decode cX10_fraction 40 = .ok (.lload_n 3, 1) := by decide +kernel
theorem dX10_fraction_41 : decode cX10_fraction 41 = .ok (.lload 5, 2) := by decide +kernel
theorem dX10_fraction_43 : decode cX10_fraction 43 = .ok (.ldiv, 1) := by decide +kernel
theorem dX10_fraction_44 : decode cX10_fraction 44 = .ok (.putfield 23, 3) := by decide +kernel
theorem dX10_fraction_47 : decode cX10_fraction 47 = .ok (.return_, 1) := by decide +kernel
theorem dX10_walks_0 : decode cX10_walks 0 = .ok (.iload_n 1, 1) := by decide +kernel
theorem dX10_walks_1 : decode cX10_walks 1 = .ok (.i2l, 1) := by decide +kernel
theorem dX10_walks_2 : decode cX10_walks 2 = .ok (.lconst 0, 1) := by decide +kernel
theorem dX10_walks_3 : decode cX10_walks 3 = .ok (.ldc2_w 90, 3) := by decide +kernel
theorem dX10_walks_6 : decode cX10_walks 6 = .ok (.invokestatic 65, 3) := by decide +kernel
theorem dX10_walks_9 : decode cX10_walks 9 = .ok (.ifCond .eq 15, 3) := by decide +kernel
theorem dX10_walks_12 : decode cX10_walks 12 = .ok (.iload_n 2, 1) := by decide +kernel
theorem dX10_walks_13 : decode cX10_walks 13 = .ok (.i2l, 1) := by decide +kernel
theorem dX10_walks_14 : decode cX10_walks 14 = .ok (.lconst 0, 1) := by decide +kernel
theorem dX10_walks_15 : decode cX10_walks 15 = .ok (.ldc2_w 193, 3) := by decide +kernel
theorem dX10_walks_18 : decode cX10_walks 18 = .ok (.invokestatic 65, 3) := by decide +kernel
theorem dX10_walks_21 : decode cX10_walks 21 = .ok (.ifCond .ne 10, 3) := by decide +kernel
theorem dX10_walks_24 : decode cX10_walks 24 = .ok (.aload_n 0, 1) := by decide +kernel
theorem dX10_walks_25 : decode cX10_walks 25 = .ok (.bipush (-2), 2) := by decide +kernel
theorem dX10_walks_27 : decode cX10_walks 27 = .ok (.invokevirtual 75, 3) := by decide +kernel
theorem dX10_walks_30 : decode cX10_walks 30 = .ok (.ireturn, 1) := by decide +kernel
theorem dX10_walks_31 : decode cX10_walks 31 = .ok (.aload_n 0, 1) := by decide +kernel
theorem dX10_walks_32 : decode cX10_walks 32 = .ok (.invokevirtual 155, 3) := by decide +kernel
theorem dX10_walks_35 : decode cX10_walks 35 = .ok (.istore_n 3, 1) := by decide +kernel
theorem dX10_walks_36 : decode cX10_walks 36 = .ok (.iload_n 3, 1) := by decide +kernel
theorem dX10_walks_37 : decode cX10_walks 37 = .ok (.iconst (-1), 1) := by decide +kernel
theorem dX10_walks_38 : decode cX10_walks 38 = .ok (.if_icmp .ne 8, 3) := by decide +kernel
theorem dX10_walks_41 : decode cX10_walks 41 = .ok (.aload_n 0, 1) := by decide +kernel
theorem dX10_walks_42 : decode cX10_walks 42 = .ok (.invokevirtual 140, 3) := by decide +kernel
theorem dX10_walks_45 : decode cX10_walks 45 = .ok (.ireturn, 1) := by decide +kernel
theorem dX10_walks_46 : decode cX10_walks 46 = .ok (.lconst 1, 1) := by decide +kernel
theorem dX10_walks_47 : decode cX10_walks 47 = .ok (.lstore 4, 2) := by decide +kernel
theorem dX10_walks_49 : decode cX10_walks 49 = .ok (.lconst 1, 1) := by decide +kernel
theorem dX10_walks_50 : decode cX10_walks 50 = .ok (.lstore 6, 2) := by decide +kernel
theorem dX10_walks_52 : decode cX10_walks 52 = .ok (.iconst 0, 1) := by decide +kernel
theorem dX10_walks_53 : decode cX10_walks 53 = .ok (.istore 8, 2) := by decide +kernel
theorem dX10_walks_55 : decode cX10_walks 55 = .ok (.iload 8, 2) := by decide +kernel
theorem dX10_walks_57 : decode cX10_walks 57 = .ok (.iload_n 1, 1) := by decide +kernel
theorem dX10_walks_58 : decode cX10_walks 58 = .ok (.if_icmp .ge 31, 3) := by decide +kernel
theorem dX10_walks_61 : decode cX10_walks 61 = .ok (.aload_n 0, 1) := by decide +kernel
theorem dX10_walks_62 : decode cX10_walks 62 = .ok (.invokevirtual 134, 3) := by decide +kernel
theorem dX10_walks_65 : decode cX10_walks 65 = .ok (.lload 4, 2) := by decide +kernel
theorem dX10_walks_67 : decode cX10_walks 67 = .ok (.bipush 10, 2) := by decide +kernel
theorem dX10_walks_69 : decode cX10_walks 69 = .ok (.iload_n 2, 1) := by decide +kernel
theorem dX10_walks_70 : decode cX10_walks 70 = .ok (.isub, 1) := by decide +kernel
theorem dX10_walks_71 : decode cX10_walks 71 = .ok (.i2l, 1) := by decide +kernel
theorem dX10_walks_72 : decode cX10_walks 72 = .ok (.lmul, 1) := by decide +kernel
theorem dX10_walks_73 : decode cX10_walks 73 = .ok (.lstore 4, 2) := by decide +kernel
theorem dX10_walks_75 : decode cX10_walks 75 = .ok (.lload 6, 2) := by decide +kernel
theorem dX10_walks_77 : decode cX10_walks 77 = .ok (.ldc2_w 193, 3) := by decide +kernel
theorem dX10_walks_80 : decode cX10_walks 80 = .ok (.lmul, 1) := by decide +kernel
theorem dX10_walks_81 : decode cX10_walks 81 = .ok (.lstore 6, 2) := by decide +kernel
theorem dX10_walks_83 : decode cX10_walks 83 = .ok (.iinc 8 1, 3) := by decide +kernel
theorem dX10_walks_86 : decode cX10_walks 86 = .ok (.goto (-31), 3) := by decide +kernel
theorem dX10_walks_89 : decode cX10_walks 89 = .ok (.aload_n 0, 1) := by decide +kernel
theorem dX10_walks_90 : decode cX10_walks 90 = .ok (.aload_n 0, 1) := by decide +kernel
theorem dX10_walks_91 : decode cX10_walks 91 = .ok (.invokevirtual 123, 3) := by decide +kernel
theorem dX10_walks_94 : decode cX10_walks 94 = .ok (.iload_n 3, 1) := by decide +kernel
theorem dX10_walks_95 : decode cX10_walks 95 = .ok (.if_icmp .ne 8, 3) := by decide +kernel
theorem dX10_walks_98 : decode cX10_walks 98 = .ok (.lload 4, 2) := by decide +kernel
theorem dX10_walks_100 : decode cX10_walks 100 = .ok (.goto 4, 3) := by decide +kernel
theorem dX10_walks_103 : decode cX10_walks 103 = .ok (.lconst 0, 1) := by decide +kernel
theorem dX10_walks_104 : decode cX10_walks 104 = .ok (.lload 6, 2) := by decide +kernel
theorem dX10_walks_106 : decode cX10_walks 106 = .ok (.invokevirtual 195, 3) := by decide +kernel
theorem dX10_walks_109 : decode cX10_walks 109 = .ok (.iconst 1, 1) := by decide +kernel
theorem dX10_walks_110 : decode cX10_walks 110 = .ok (.ireturn, 1) := by decide +kernel
theorem dX10_dynasties_0 : decode cX10_dynasties 0 = .ok (.iload_n 1, 1) := by decide +kernel
theorem dX10_dynasties_1 : decode cX10_dynasties 1 = .ok (.i2l, 1) := by decide +kernel
theorem dX10_dynasties_2 : decode cX10_dynasties 2 = .ok (.lconst 0, 1) := by decide +kernel
theorem dX10_dynasties_3 : decode cX10_dynasties 3 = .ok (.ldc2_w 199, 3) := by decide +kernel
theorem dX10_dynasties_6 : decode cX10_dynasties 6 = .ok (.invokestatic 65, 3) := by decide +kernel
theorem dX10_dynasties_9 : decode cX10_dynasties 9 = .ok (.ifCond .eq 15, 3) := by decide +kernel
theorem dX10_dynasties_12 : decode cX10_dynasties 12 = .ok (.iload_n 2, 1) := by decide +kernel
theorem dX10_dynasties_13 : decode cX10_dynasties 13 = .ok (.i2l, 1) := by decide +kernel
theorem dX10_dynasties_14 : decode cX10_dynasties 14 = .ok (.lconst 0, 1) := by decide +kernel
theorem dX10_dynasties_15 : decode cX10_dynasties 15 = .ok (.ldc2_w 129, 3) := by decide +kernel
theorem dX10_dynasties_18 : decode cX10_dynasties 18 = .ok (.invokestatic 65, 3) := by decide +kernel
theorem dX10_dynasties_21 : decode cX10_dynasties 21 = .ok (.ifCond .ne 10, 3) := by decide +kernel
theorem dX10_dynasties_24 : decode cX10_dynasties 24 = .ok (.aload_n 0, 1) := by decide +kernel
theorem dX10_dynasties_25 : decode cX10_dynasties 25 = .ok (.bipush (-2), 2) := by decide +kernel
theorem dX10_dynasties_27 : decode cX10_dynasties 27 = .ok (.invokevirtual 75, 3) := by decide +kernel
theorem dX10_dynasties_30 : decode cX10_dynasties 30 = .ok (.ireturn, 1) := by decide +kernel
theorem dX10_dynasties_31 : decode cX10_dynasties 31 = .ok (.iload_n 1, 1) := by decide +kernel
theorem dX10_dynasties_32 : decode cX10_dynasties 32 = .ok (.i2l, 1) := by decide +kernel
theorem dX10_dynasties_33 : decode cX10_dynasties 33 = .ok (.lstore_n 3, 1) := by decide +kernel
theorem dX10_dynasties_34 : decode cX10_dynasties 34 = .ok (.iconst 0, 1) := by decide +kernel
theorem dX10_dynasties_35 : decode cX10_dynasties 35 = .ok (.istore 5, 2) := by decide +kernel
theorem dX10_dynasties_37 : decode cX10_dynasties 37 = .ok (.iconst 0, 1) := by decide +kernel
theorem dX10_dynasties_38 : decode cX10_dynasties 38 = .ok (.istore 6, 2) := by decide +kernel
theorem dX10_dynasties_40 : decode cX10_dynasties 40 = .ok (.iload 6, 2) := by decide +kernel
theorem dX10_dynasties_42 : decode cX10_dynasties 42 = .ok (.iload_n 2, 1) := by decide +kernel
theorem dX10_dynasties_43 : decode cX10_dynasties 43 = .ok (.if_icmp .ge 82, 3) := by decide +kernel
theorem dX10_dynasties_46 : decode cX10_dynasties 46 = .ok (.aload_n 0, 1) := by decide +kernel
theorem dX10_dynasties_47 : decode cX10_dynasties 47 = .ok (.invokevirtual 120, 3) := by decide +kernel
theorem dX10_dynasties_50 : decode cX10_dynasties 50 = .ok (.aload_n 0, 1) := by decide +kernel
theorem dX10_dynasties_51 : decode cX10_dynasties 51 = .ok (.iconst 0, 1) := by decide +kernel
theorem dX10_dynasties_52 : decode cX10_dynasties 52 = .ok (.putfield 113, 3) := by decide +kernel
theorem dX10_dynasties_55 : decode cX10_dynasties 55 = .ok (.iconst 0, 1) := by decide +kernel
theorem dX10_dynasties_56 : decode cX10_dynasties 56 = .ok (.istore 7, 2) := by decide +kernel
theorem dX10_dynasties_58 : decode cX10_dynasties 58 = .ok (.iload 7, 2) := by decide +kernel
theorem dX10_dynasties_60 : decode cX10_dynasties 60 = .ok (.aload_n 0, 1) := by decide +kernel
theorem dX10_dynasties_61 : decode cX10_dynasties 61 = .ok (.invokevirtual 61, 3) := by decide +kernel
theorem dX10_dynasties_64 : decode cX10_dynasties 64 = .ok (.if_icmp .ge 40, 3) := by decide +kernel
theorem dX10_dynasties_67 : decode cX10_dynasties 67 = .ok (.lload_n 3, 1) := by decide +kernel
theorem dX10_dynasties_68 : decode cX10_dynasties 68 = .ok (.ldc2_w 201, 3) := by decide +kernel
theorem dX10_dynasties_71 : decode cX10_dynasties 71 = .ok (.lmul, 1) := by decide +kernel
theorem dX10_dynasties_72 : decode cX10_dynasties 72 = .ok (.ldc2_w 203, 3) := by decide +kernel
theorem dX10_dynasties_75 : decode cX10_dynasties 75 = .ok (.ladd, 1) := by decide +kernel
theorem dX10_dynasties_76 : decode cX10_dynasties 76 = .ok (.ldc2_w 205, 3) := by decide +kernel
theorem dX10_dynasties_79 : decode cX10_dynasties 79 = .ok (.lrem, 1) := by decide +kernel
theorem dX10_dynasties_80 : decode cX10_dynasties 80 = .ok (.lstore_n 3, 1) := by decide +kernel
theorem dX10_dynasties_81 : decode cX10_dynasties 81 = .ok (.aload_n 0, 1) := by decide +kernel
theorem dX10_dynasties_82 : decode cX10_dynasties 82 = .ok (.getfield 27, 3) := by decide +kernel
theorem dX10_dynasties_85 : decode cX10_dynasties 85 = .ok (.iload 7, 2) := by decide +kernel
theorem dX10_dynasties_87 : decode cX10_dynasties 87 = .ok (.lload_n 3, 1) := by decide +kernel
theorem dX10_dynasties_88 : decode cX10_dynasties 88 = .ok (.ldc2_w 207, 3) := by decide +kernel
theorem dX10_dynasties_91 : decode cX10_dynasties 91 = .ok (.ldiv, 1) := by decide +kernel
theorem dX10_dynasties_92 : decode cX10_dynasties 92 = .ok (.ldc2_w 209, 3) := by decide +kernel
theorem dX10_dynasties_95 : decode cX10_dynasties 95 = .ok (.lrem, 1) := by decide +kernel
theorem dX10_dynasties_96 : decode cX10_dynasties 96 = .ok (.l2i, 1) := by decide +kernel
theorem dX10_dynasties_97 : decode cX10_dynasties 97 = .ok (.iastore, 1) := by decide +kernel
theorem dX10_dynasties_98 : decode cX10_dynasties 98 = .ok (.iinc 7 1, 3) := by decide +kernel
theorem dX10_dynasties_101 : decode cX10_dynasties 101 = .ok (.goto (-43), 3) := by decide +kernel
theorem dX10_dynasties_104 : decode cX10_dynasties 104 = .ok (.aload_n 0, 1) := by decide +kernel
theorem dX10_dynasties_105 : decode cX10_dynasties 105 = .ok (.invokevirtual 134, 3) := by decide +kernel
theorem dX10_dynasties_108 : decode cX10_dynasties 108 = .ok (.iload 5, 2) := by decide +kernel
theorem dX10_dynasties_110 : decode cX10_dynasties 110 = .ok (.aload_n 0, 1) := by decide +kernel
theorem dX10_dynasties_111 : decode cX10_dynasties 111 = .ok (.invokevirtual 123, 3) := by decide +kernel
theorem dX10_dynasties_114 : decode cX10_dynasties 114 = .ok (.iconst 1, 1) := by decide +kernel
theorem dX10_dynasties_115 : decode cX10_dynasties 115 = .ok (.iadd, 1) := by decide +kernel
theorem dX10_dynasties_116 : decode cX10_dynasties 116 = .ok (.iadd, 1) := by decide +kernel
theorem dX10_dynasties_117 : decode cX10_dynasties 117 = .ok (.istore 5, 2) := by decide +kernel
theorem dX10_dynasties_119 : decode cX10_dynasties 119 = .ok (.iinc 6 1, 3) := by decide +kernel
theorem dX10_dynasties_122 : decode cX10_dynasties 122 = .ok (.goto (-82), 3) := by decide +kernel
theorem dX10_dynasties_125 : decode cX10_dynasties 125 = .ok (.iload 5, 2) := by decide +kernel
theorem dX10_dynasties_127 : decode cX10_dynasties 127 = .ok (.ireturn, 1) := by decide +kernel
theorem dX10_type_0 : decode cX10_type 0 = .ok (.iload_n 1, 1) := by decide +kernel
theorem dX10_type_1 : decode cX10_type 1 = .ok (.i2l, 1) := by decide +kernel
theorem dX10_type_2 : decode cX10_type 2 = .ok (.lconst 0, 1) := by decide +kernel
theorem dX10_type_3 : decode cX10_type 3 = .ok (.ldc2_w 211, 3) := by decide +kernel
theorem dX10_type_6 : decode cX10_type 6 = .ok (.invokestatic 65, 3) := by decide +kernel
theorem dX10_type_9 : decode cX10_type 9 = .ok (.ifCond .ne 10, 3) := by decide +kernel
theorem dX10_type_12 : decode cX10_type 12 = .ok (.aload_n 0, 1) := by decide +kernel
theorem dX10_type_13 : decode cX10_type 13 = .ok (.bipush (-2), 2) := by decide +kernel
theorem dX10_type_15 : decode cX10_type 15 = .ok (.invokevirtual 75, 3) := by decide +kernel
theorem dX10_type_18 : decode cX10_type 18 = .ok (.ireturn, 1) := by decide +kernel
theorem dX10_type_19 : decode cX10_type 19 = .ok (.aload_n 0, 1) := by decide +kernel
theorem dX10_type_20 : decode cX10_type 20 = .ok (.getfield 213, 3) := by decide +kernel
theorem dX10_type_23 : decode cX10_type 23 = .ok (.sipush 150, 3) := by decide +kernel
theorem dX10_type_26 : decode cX10_type 26 = .ok (.if_icmp .ne 8, 3) := by decide +kernel
theorem dX10_type_29 : decode cX10_type 29 = .ok (.aload_n 0, 1) := by decide +kernel
theorem dX10_type_30 : decode cX10_type 30 = .ok (.invokevirtual 79, 3) := by decide +kernel
theorem dX10_type_33 : decode cX10_type 33 = .ok (.ireturn, 1) := by decide +kernel
theorem dX10_type_34 : decode cX10_type 34 = .ok (.aload_n 0, 1) := by decide +kernel
theorem dX10_type_35 : decode cX10_type 35 = .ok (.getfield 48, 3) := by decide +kernel
theorem dX10_type_38 : decode cX10_type 38 = .ok (.aload_n 0, 1) := by decide +kernel
theorem dX10_type_39 : decode cX10_type 39 = .ok (.getfield 213, 3) := by decide +kernel
theorem dX10_type_42 : decode cX10_type 42 = .ok (.iload_n 1, 1) := by decide +kernel
theorem dX10_type_43 : decode cX10_type 43 = .ok (.iastore, 1) := by decide +kernel
theorem dX10_type_44 : decode cX10_type 44 = .ok (.aload_n 0, 1) := by decide +kernel
theorem dX10_type_45 : decode cX10_type 45 = .ok (.dup, 1) := by decide +kernel
theorem dX10_type_46 : decode cX10_type 46 = .ok (.getfield 213, 3) := by decide +kernel
theorem dX10_type_49 : decode cX10_type 49 = .ok (.iconst 1, 1) := by decide +kernel
theorem dX10_type_50 : decode cX10_type 50 = .ok (.iadd, 1) := by decide +kernel
theorem dX10_type_51 : decode cX10_type 51 = .ok (.putfield 213, 3) := by decide +kernel
theorem dX10_type_54 : decode cX10_type 54 = .ok (.aload_n 0, 1) := by decide +kernel
theorem dX10_type_55 : decode cX10_type 55 = .ok (.getfield 213, 3) := by decide +kernel
theorem dX10_type_58 : decode cX10_type 58 = .ok (.ireturn, 1) := by decide +kernel
theorem dX10_clear_0 : decode cX10_clear 0 = .ok (.aload_n 0, 1) := by decide +kernel
theorem dX10_clear_1 : decode cX10_clear 1 = .ok (.getfield 213, 3) := by decide +kernel
theorem dX10_clear_4 : decode cX10_clear 4 = .ok (.istore_n 1, 1) := by decide +kernel
theorem dX10_clear_5 : decode cX10_clear 5 = .ok (.aload_n 0, 1) := by decide +kernel
theorem dX10_clear_6 : decode cX10_clear 6 = .ok (.iconst 0, 1) := by decide +kernel
theorem dX10_clear_7 : decode cX10_clear 7 = .ok (.putfield 213, 3) := by decide +kernel
theorem dX10_clear_10 : decode cX10_clear 10 = .ok (.iload_n 1, 1) := by decide +kernel
theorem dX10_clear_11 : decode cX10_clear 11 = .ok (.ireturn, 1) := by decide +kernel
theorem dX10_isSmall_0 : decode cX10_isSmall 0 = .ok (.iload_n 0, 1) := by decide +kernel
theorem dX10_isSmall_1 : decode cX10_isSmall 1 = .ok (.i2l, 1) := by decide +kernel
theorem dX10_isSmall_2 : decode cX10_isSmall 2 = .ok (.ldc2_w 216, 3) := by decide +kernel
theorem dX10_isSmall_5 : decode cX10_isSmall 5 = .ok (.ldc2_w 218, 3) := by decide +kernel
theorem dX10_isSmall_8 : decode cX10_isSmall 8 = .ok (.invokestatic 65, 3) := by decide +kernel
theorem dX10_isSmall_11 : decode cX10_isSmall 11 = .ok (.ireturn, 1) := by decide +kernel
theorem dX10_isFigure_0 : decode cX10_isFigure 0 = .ok (.iload_n 0, 1) := by decide +kernel
theorem dX10_isFigure_1 : decode cX10_isFigure 1 = .ok (.i2l, 1) := by decide +kernel
theorem dX10_isFigure_2 : decode cX10_isFigure 2 = .ok (.ldc2_w 220, 3) := by decide +kernel
theorem dX10_isFigure_5 : decode cX10_isFigure 5 = .ok (.ldc2_w 222, 3) := by decide +kernel
theorem dX10_isFigure_8 : decode cX10_isFigure 8 = .ok (.invokestatic 65, 3) := by decide +kernel
theorem dX10_isFigure_11 : decode cX10_isFigure 11 = .ok (.ireturn, 1) := by decide +kernel
theorem dX10_lookAt_0 : decode cX10_lookAt 0 = .ok (.aload_n 0, 1) := by decide +kernel
theorem dX10_lookAt_1 : decode cX10_lookAt 1 = .ok (.iload_n 1, 1) := by decide +kernel
theorem dX10_lookAt_2 : decode cX10_lookAt 2 = .ok (.putfield 224, 3) := by decide +kernel
theorem dX10_lookAt_5 : decode cX10_lookAt 5 = .ok (.aload_n 0, 1) := by decide +kernel
theorem dX10_lookAt_6 : decode cX10_lookAt 6 = .ok (.getfield 224, 3) := by decide +kernel
theorem dX10_lookAt_9 : decode cX10_lookAt 9 = .ok (.aload_n 0, 1) := by decide +kernel
theorem dX10_lookAt_10 : decode cX10_lookAt 10 = .ok (.getfield 213, 3) := by decide +kernel
theorem dX10_lookAt_13 : decode cX10_lookAt 13 = .ok (.if_icmp .ge 30, 3) := by decide +kernel
theorem dX10_lookAt_16 : decode cX10_lookAt 16 = .ok (.aload_n 0, 1) := by decide +kernel
theorem dX10_lookAt_17 : decode cX10_lookAt 17 = .ok (.getfield 48, 3) := by decide +kernel
theorem dX10_lookAt_20 : decode cX10_lookAt 20 = .ok (.aload_n 0, 1) := by decide +kernel
theorem dX10_lookAt_21 : decode cX10_lookAt 21 = .ok (.getfield 224, 3) := by decide +kernel
theorem dX10_lookAt_24 : decode cX10_lookAt 24 = .ok (.iaload, 1) := by decide +kernel
theorem dX10_lookAt_25 : decode cX10_lookAt 25 = .ok (.bipush 32, 2) := by decide +kernel
theorem dX10_lookAt_27 : decode cX10_lookAt 27 = .ok (.if_icmp .ne 16, 3) := by decide +kernel
theorem dX10_lookAt_30 : decode cX10_lookAt 30 = .ok (.aload_n 0, 1) := by decide +kernel
theorem dX10_lookAt_31 : decode cX10_lookAt 31 = .ok (.dup, 1) := by decide +kernel
theorem dX10_lookAt_32 : decode cX10_lookAt 32 = .ok (.getfield 224, 3) := by decide +kernel
theorem dX10_lookAt_35 : decode cX10_lookAt 35 = .ok (.iconst 1, 1) := by decide +kernel
theorem dX10_lookAt_36 : decode cX10_lookAt 36 = .ok (.iadd, 1) := by decide +kernel
theorem dX10_lookAt_37 : decode cX10_lookAt 37 = .ok (.putfield 224, 3) := by decide +kernel
theorem dX10_lookAt_40 : decode cX10_lookAt 40 = .ok (.goto (-35), 3) := by decide +kernel
theorem dX10_lookAt_43 : decode cX10_lookAt 43 = .ok (.aload_n 0, 1) := by decide +kernel
theorem dX10_lookAt_44 : decode cX10_lookAt 44 = .ok (.iconst 0, 1) := by decide +kernel
theorem dX10_lookAt_45 : decode cX10_lookAt 45 = .ok (.putfield 227, 3) := by decide +kernel
theorem dX10_lookAt_48 : decode cX10_lookAt 48 = .ok (.aload_n 0, 1) := by decide +kernel
theorem dX10_lookAt_49 : decode cX10_lookAt 49 = .ok (.iconst 0, 1) := by decide +kernel
theorem dX10_lookAt_50 : decode cX10_lookAt 50 = .ok (.putfield 230, 3) := by decide +kernel
theorem dX10_lookAt_53 : decode cX10_lookAt 53 = .ok (.aload_n 0, 1) := by decide +kernel
theorem dX10_lookAt_54 : decode cX10_lookAt 54 = .ok (.iconst 0, 1) := by decide +kernel
theorem dX10_lookAt_55 : decode cX10_lookAt 55 = .ok (.putfield 233, 3) := by decide +kernel
theorem dX10_lookAt_58 : decode cX10_lookAt 58 = .ok (.aload_n 0, 1) := by decide +kernel
theorem dX10_lookAt_59 : decode cX10_lookAt 59 = .ok (.getfield 224, 3) := by decide +kernel
theorem dX10_lookAt_62 : decode cX10_lookAt 62 = .ok (.aload_n 0, 1) := by decide +kernel
theorem dX10_lookAt_63 : decode cX10_lookAt 63 = .ok (.getfield 213, 3) := by decide +kernel
theorem dX10_lookAt_66 : decode cX10_lookAt 66 = .ok (.if_icmp .ne 4, 3) := by decide +kernel
theorem dX10_lookAt_69 : decode cX10_lookAt 69 = .ok (.return_, 1) := by decide +kernel
theorem dX10_lookAt_70 : decode cX10_lookAt 70 = .ok (.aload_n 0, 1) := by decide +kernel
theorem dX10_lookAt_71 : decode cX10_lookAt 71 = .ok (.getfield 48, 3) := by decide +kernel
theorem dX10_lookAt_74 : decode cX10_lookAt 74 = .ok (.aload_n 0, 1) := by decide +kernel
theorem dX10_lookAt_75 : decode cX10_lookAt 75 = .ok (.getfield 224, 3) := by decide +kernel
theorem dX10_lookAt_78 : decode cX10_lookAt 78 = .ok (.iaload, 1) := by decide +kernel
theorem dX10_lookAt_79 : decode cX10_lookAt 79 = .ok (.istore_n 2, 1) := by decide +kernel
theorem dX10_lookAt_80 : decode cX10_lookAt 80 = .ok (.aload_n 0, 1) := by decide +kernel
theorem dX10_lookAt_81 : decode cX10_lookAt 81 = .ok (.iload_n 2, 1) := by decide +kernel
theorem dX10_lookAt_82 : decode cX10_lookAt 82 = .ok (.invokestatic 236, 3) := by decide +kernel
theorem dX10_lookAt_85 : decode cX10_lookAt 85 = .ok (.ifCond .eq 7, 3) := by decide +kernel
theorem dX10_lookAt_88 : decode cX10_lookAt 88 = .ok (.iconst 1, 1) := by decide +kernel
theorem dX10_lookAt_89 : decode cX10_lookAt 89 = .ok (.goto 25, 3) := by decide +kernel
theorem dX10_lookAt_92 : decode cX10_lookAt 92 = .ok (.iload_n 2, 1) := by decide +kernel
theorem dX10_lookAt_93 : decode cX10_lookAt 93 = .ok (.invokestatic 239, 3) := by decide +kernel
theorem dX10_lookAt_96 : decode cX10_lookAt 96 = .ok (.ifCond .eq 7, 3) := by decide +kernel
theorem dX10_lookAt_99 : decode cX10_lookAt 99 = .ok (.iconst 2, 1) := by decide +kernel
theorem dX10_lookAt_100 : decode cX10_lookAt 100 = .ok (.goto 14, 3) := by decide +kernel
theorem dX10_lookAt_103 : decode cX10_lookAt 103 = .ok (.iload_n 2, 1) := by decide +kernel
theorem dX10_lookAt_104 : decode cX10_lookAt 104 = .ok (.bipush 59, 2) := by decide +kernel
theorem dX10_lookAt_106 : decode cX10_lookAt 106 = .ok (.if_icmp .ne 7, 3) := by decide +kernel
theorem dX10_lookAt_109 : decode cX10_lookAt 109 = .ok (.iconst 3, 1) := by decide +kernel
theorem dX10_lookAt_110 : decode cX10_lookAt 110 = .ok (.goto 4, 3) := by decide +kernel
theorem dX10_lookAt_113 : decode cX10_lookAt 113 = .ok (.iconst 4, 1) := by decide +kernel
theorem dX10_lookAt_114 : decode cX10_lookAt 114 = .ok (.putfield 230, 3) := by decide +kernel
theorem dX10_lookAt_117 : decode cX10_lookAt 117 = .ok (.aload_n 0, 1) := by decide +kernel
theorem dX10_lookAt_118 : decode cX10_lookAt 118 = .ok (.iconst 1, 1) := by decide +kernel
theorem dX10_lookAt_119 : decode cX10_lookAt 119 = .ok (.putfield 227, 3) := by decide +kernel
theorem dX10_lookAt_122 : decode cX10_lookAt 122 = .ok (.aload_n 0, 1) := by decide +kernel
theorem dX10_lookAt_123 : decode cX10_lookAt 123 = .ok (.getfield 230, 3) := by decide +kernel
theorem dX10_lookAt_126 : decode cX10_lookAt 126 = .ok (.iconst 3, 1) := by decide +kernel
theorem dX10_lookAt_127 : decode cX10_lookAt 127 = .ok (.if_icmp .ge 7, 3) := by decide +kernel
theorem dX10_lookAt_130 : decode cX10_lookAt 130 = .ok (.iconst 1, 1) := by decide +kernel
theorem dX10_lookAt_131 : decode cX10_lookAt 131 = .ok (.goto 4, 3) := by decide +kernel
theorem dX10_lookAt_134 : decode cX10_lookAt 134 = .ok (.iconst 0, 1) := by decide +kernel
theorem dX10_lookAt_135 : decode cX10_lookAt 135 = .ok (.istore_n 3, 1) := by decide +kernel
theorem dX10_lookAt_136 : decode cX10_lookAt 136 = .ok (.iload_n 3, 1) := by decide +kernel
theorem dX10_lookAt_137 : decode cX10_lookAt 137 = .ok (.ifCond .eq 78, 3) := by decide +kernel
theorem dX10_lookAt_140 : decode cX10_lookAt 140 = .ok (.aload_n 0, 1) := by decide +kernel
theorem dX10_lookAt_141 : decode cX10_lookAt 141 = .ok (.getfield 224, 3) := by decide +kernel
theorem dX10_lookAt_144 : decode cX10_lookAt 144 = .ok (.aload_n 0, 1) := by decide +kernel
theorem dX10_lookAt_145 : decode cX10_lookAt 145 = .ok (.getfield 227, 3) := by decide +kernel
theorem dX10_lookAt_148 : decode cX10_lookAt 148 = .ok (.iadd, 1) := by decide +kernel
theorem dX10_lookAt_149 : decode cX10_lookAt 149 = .ok (.aload_n 0, 1) := by decide +kernel
theorem dX10_lookAt_150 : decode cX10_lookAt 150 = .ok (.getfield 213, 3) := by decide +kernel
theorem dX10_lookAt_153 : decode cX10_lookAt 153 = .ok (.if_icmp .ge 62, 3) := by decide +kernel
theorem dX10_lookAt_156 : decode cX10_lookAt 156 = .ok (.aload_n 0, 1) := by decide +kernel
theorem dX10_lookAt_157 : decode cX10_lookAt 157 = .ok (.getfield 48, 3) := by decide +kernel
theorem dX10_lookAt_160 : decode cX10_lookAt 160 = .ok (.aload_n 0, 1) := by decide +kernel
theorem dX10_lookAt_161 : decode cX10_lookAt 161 = .ok (.getfield 224, 3) := by decide +kernel
theorem dX10_lookAt_164 : decode cX10_lookAt 164 = .ok (.aload_n 0, 1) := by decide +kernel
theorem dX10_lookAt_165 : decode cX10_lookAt 165 = .ok (.getfield 227, 3) := by decide +kernel
theorem dX10_lookAt_168 : decode cX10_lookAt 168 = .ok (.iadd, 1) := by decide +kernel
theorem dX10_lookAt_169 : decode cX10_lookAt 169 = .ok (.iaload, 1) := by decide +kernel
theorem dX10_lookAt_170 : decode cX10_lookAt 170 = .ok (.istore 4, 2) := by decide +kernel
theorem dX10_lookAt_172 : decode cX10_lookAt 172 = .ok (.aload_n 0, 1) := by decide +kernel
theorem dX10_lookAt_173 : decode cX10_lookAt 173 = .ok (.getfield 230, 3) := by decide +kernel
theorem dX10_lookAt_176 : decode cX10_lookAt 176 = .ok (.iconst 1, 1) := by decide +kernel
theorem dX10_lookAt_177 : decode cX10_lookAt 177 = .ok (.if_icmp .ne 11, 3) := by decide +kernel
theorem dX10_lookAt_180 : decode cX10_lookAt 180 = .ok (.iload 4, 2) := by decide +kernel
theorem dX10_lookAt_182 : decode cX10_lookAt 182 = .ok (.invokestatic 236, 3) := by decide +kernel
theorem dX10_lookAt_185 : decode cX10_lookAt 185 = .ok (.goto 8, 3) := by decide +kernel
theorem dX10_lookAt_188 : decode cX10_lookAt 188 = .ok (.iload 4, 2) := by decide +kernel
theorem dX10_lookAt_190 : decode cX10_lookAt 190 = .ok (.invokestatic 239, 3) := by decide +kernel
theorem dX10_lookAt_193 : decode cX10_lookAt 193 = .ok (.istore_n 3, 1) := by decide +kernel
theorem dX10_lookAt_194 : decode cX10_lookAt 194 = .ok (.aload_n 0, 1) := by decide +kernel
theorem dX10_lookAt_195 : decode cX10_lookAt 195 = .ok (.dup, 1) := by decide +kernel
theorem dX10_lookAt_196 : decode cX10_lookAt 196 = .ok (.getfield 227, 3) := by decide +kernel
theorem dX10_lookAt_199 : decode cX10_lookAt 199 = .ok (.iload_n 3, 1) := by decide +kernel
theorem dX10_lookAt_200 : decode cX10_lookAt 200 = .ok (.ifCond .eq 7, 3) := by decide +kernel
theorem dX10_lookAt_203 : decode cX10_lookAt 203 = .ok (.iconst 1, 1) := by decide +kernel
theorem dX10_lookAt_204 : decode cX10_lookAt 204 = .ok (.goto 4, 3) := by decide +kernel
theorem dX10_lookAt_207 : decode cX10_lookAt 207 = .ok (.iconst 0, 1) := by decide +kernel
theorem dX10_lookAt_208 : decode cX10_lookAt 208 = .ok (.iadd, 1) := by decide +kernel
theorem dX10_lookAt_209 : decode cX10_lookAt 209 = .ok (.putfield 227, 3) := by decide +kernel
theorem dX10_lookAt_212 : decode cX10_lookAt 212 = .ok (.goto (-76), 3) := by decide +kernel
theorem dX10_lookAt_215 : decode cX10_lookAt 215 = .ok (.iconst 0, 1) := by decide +kernel
theorem dX10_lookAt_216 : decode cX10_lookAt 216 = .ok (.istore 4, 2) := by decide +kernel
theorem dX10_lookAt_218 : decode cX10_lookAt 218 = .ok (.iload 4, 2) := by decide +kernel
theorem dX10_lookAt_220 : decode cX10_lookAt 220 = .ok (.aload_n 0, 1) := by decide +kernel
theorem dX10_lookAt_221 : decode cX10_lookAt 221 = .ok (.getfield 227, 3) := by decide +kernel
theorem dX10_lookAt_224 : decode cX10_lookAt 224 = .ok (.if_icmp .ge 50, 3) := by decide +kernel
theorem dX10_lookAt_227 : decode cX10_lookAt 227 = .ok (.iload 4, 2) := by decide +kernel
theorem dX10_lookAt_229 : decode cX10_lookAt 229 = .ok (.iconst 2, 1) := by decide +kernel
theorem dX10_lookAt_230 : decode cX10_lookAt 230 = .ok (.if_icmp .ge 44, 3) := by decide +kernel
theorem dX10_lookAt_233 : decode cX10_lookAt 233 = .ok (.aload_n 0, 1) := by decide +kernel
theorem dX10_lookAt_234 : decode cX10_lookAt 234 = .ok (.getfield 230, 3) := by decide +kernel
theorem dX10_lookAt_237 : decode cX10_lookAt 237 = .ok (.iconst 2, 1) := by decide +kernel
theorem dX10_lookAt_238 : decode cX10_lookAt 238 = .ok (.if_icmp .ne 36, 3) := by decide +kernel
theorem dX10_lookAt_241 : decode cX10_lookAt 241 = .ok (.aload_n 0, 1) := by decide +kernel
theorem dX10_lookAt_242 : decode cX10_lookAt 242 = .ok (.bipush 10, 2) := by decide +kernel
theorem dX10_lookAt_244 : decode cX10_lookAt 244 = .ok (.aload_n 0, 1) := by decide +kernel
theorem dX10_lookAt_245 : decode cX10_lookAt 245 = .ok (.getfield 233, 3) := by decide +kernel
theorem dX10_lookAt_248 : decode cX10_lookAt 248 = .ok (.imul, 1) := by decide +kernel
theorem dX10_lookAt_249 : decode cX10_lookAt 249 = .ok (.aload_n 0, 1) := by decide +kernel
theorem dX10_lookAt_250 : decode cX10_lookAt 250 = .ok (.getfield 48, 3) := by decide +kernel
theorem dX10_lookAt_253 : decode cX10_lookAt 253 = .ok (.aload_n 0, 1) := by decide +kernel
theorem dX10_lookAt_254 : decode cX10_lookAt 254 = .ok (.getfield 224, 3) := by decide +kernel
theorem dX10_lookAt_257 : decode cX10_lookAt 257 = .ok (.iload 4, 2) := by decide +kernel
theorem dX10_lookAt_259 : decode cX10_lookAt 259 = .ok (.iadd, 1) := by decide +kernel
theorem dX10_lookAt_260 : decode cX10_lookAt 260 = .ok (.iaload, 1) := by decide +kernel
theorem dX10_lookAt_261 : decode cX10_lookAt 261 = .ok (.iadd, 1) := by decide +kernel
theorem dX10_lookAt_262 : decode cX10_lookAt 262 = .ok (.bipush 48, 2) := by decide +kernel
theorem dX10_lookAt_264 : decode cX10_lookAt 264 = .ok (.isub, 1) := by decide +kernel
theorem dX10_lookAt_265 : decode cX10_lookAt 265 = .ok (.putfield 233, 3) := by decide +kernel
theorem dX10_lookAt_268 : decode cX10_lookAt 268 = .ok (.iinc 4 1, 3) := by decide +kernel
theorem dX10_lookAt_271 : decode cX10_lookAt 271 = .ok (.goto (-53), 3) := by decide +kernel
theorem dX10_lookAt_274 : decode cX10_lookAt 274 = .ok (.aload_n 0, 1) := by decide +kernel
theorem dX10_lookAt_275 : decode cX10_lookAt 275 = .ok (.aload_n 0, 1) := by decide +kernel
theorem dX10_lookAt_276 : decode cX10_lookAt 276 = .ok (.getfield 230, 3) := by decide +kernel
theorem dX10_lookAt_279 : decode cX10_lookAt 279 = .ok (.iconst 2, 1) := by decide +kernel
theorem dX10_lookAt_280 : decode cX10_lookAt 280 = .ok (.if_icmp .ne 15, 3) := by decide +kernel
theorem dX10_lookAt_283 : decode cX10_lookAt 283 = .ok (.aload_n 0, 1) := by decide +kernel
theorem dX10_lookAt_284 : decode cX10_lookAt 284 = .ok (.getfield 227, 3) := by decide +kernel
theorem dX10_lookAt_287 : decode cX10_lookAt 287 = .ok (.iconst 2, 1) := by decide +kernel
theorem dX10_lookAt_288 : decode cX10_lookAt 288 = .ok (.if_icmp .le 7, 3) := by decide +kernel
theorem dX10_lookAt_291 : decode cX10_lookAt 291 = .ok (.iconst 4, 1) := by decide +kernel
theorem dX10_lookAt_292 : decode cX10_lookAt 292 = .ok (.goto 7, 3) := by decide +kernel
theorem dX10_lookAt_295 : decode cX10_lookAt 295 = .ok (.aload_n 0, 1) := by decide +kernel
theorem dX10_lookAt_296 : decode cX10_lookAt 296 = .ok (.getfield 230, 3) := by decide +kernel
theorem dX10_lookAt_299 : decode cX10_lookAt 299 = .ok (.putfield 230, 3) := by decide +kernel
theorem dX10_lookAt_302 : decode cX10_lookAt 302 = .ok (.return_, 1) := by decide +kernel
theorem dX10_goBehind_0 : decode cX10_goBehind 0 = .ok (.aload_n 0, 1) := by decide +kernel
theorem dX10_goBehind_1 : decode cX10_goBehind 1 = .ok (.aload_n 0, 1) := by decide +kernel
theorem dX10_goBehind_2 : decode cX10_goBehind 2 = .ok (.getfield 224, 3) := by decide +kernel
theorem dX10_goBehind_5 : decode cX10_goBehind 5 = .ok (.aload_n 0, 1) := by decide +kernel
theorem dX10_goBehind_6 : decode cX10_goBehind 6 = .ok (.getfield 227, 3) := by decide +kernel
theorem dX10_goBehind_9 : decode cX10_goBehind 9 = .ok (.iadd, 1) := by decide +kernel
theorem dX10_goBehind_10 : decode cX10_goBehind 10 = .ok (.invokevirtual 242, 3) := by decide +kernel
theorem dX10_goBehind_13 : decode cX10_goBehind 13 = .ok (.return_, 1) := by decide +kernel
theorem dX10_spells_0 : decode cX10_spells 0 = .ok (.aload_n 0, 1) := by decide +kernel
theorem dX10_spells_1 : decode cX10_spells 1 = .ok (.getfield 230, 3) := by decide +kernel
theorem dX10_spells_4 : decode cX10_spells 4 = .ok (.iconst 1, 1) := by decide +kernel
theorem dX10_spells_5 : decode cX10_spells 5 = .ok (.if_icmp .ne 15, 3) := by decide +kernel
theorem dX10_spells_8 : decode cX10_spells 8 = .ok (.aload_n 0, 1) := by decide +kernel
theorem dX10_spells_9 : decode cX10_spells 9 = .ok (.getfield 227, 3) := by decide +kernel
theorem dX10_spells_12 : decode cX10_spells 12 = .ok (.iload_n 1, 1) := by decide +kernel
theorem dX10_spells_13 : decode cX10_spells 13 = .ok (.if_icmp .ne 7, 3) := by decide +kernel
theorem dX10_spells_16 : decode cX10_spells 16 = .ok (.iconst 1, 1) := by decide +kernel
theorem dX10_spells_17 : decode cX10_spells 17 = .ok (.goto 4, 3) := by decide +kernel
theorem dX10_spells_20 : decode cX10_spells 20 = .ok (.iconst 0, 1) := by decide +kernel
theorem dX10_spells_21 : decode cX10_spells 21 = .ok (.istore 8, 2) := by decide +kernel
theorem dX10_spells_23 : decode cX10_spells 23 = .ok (.iconst 0, 1) := by decide +kernel
theorem dX10_spells_24 : decode cX10_spells 24 = .ok (.istore 9, 2) := by decide +kernel
theorem dX10_spells_26 : decode cX10_spells 26 = .ok (.iload 9, 2) := by decide +kernel
theorem dX10_spells_28 : decode cX10_spells 28 = .ok (.iload_n 1, 1) := by decide +kernel
theorem dX10_spells_29 : decode cX10_spells 29 = .ok (.if_icmp .ge 90, 3) := by decide +kernel
theorem dX10_spells_32 : decode cX10_spells 32 = .ok (.iload 8, 2) := by decide +kernel
theorem dX10_spells_34 : decode cX10_spells 34 = .ok (.ifCond .eq 85, 3) := by decide +kernel
theorem dX10_spells_37 : decode cX10_spells 37 = .ok (.aload_n 0, 1) := by decide +kernel
theorem dX10_spells_38 : decode cX10_spells 38 = .ok (.getfield 48, 3) := by decide +kernel
theorem dX10_spells_41 : decode cX10_spells 41 = .ok (.aload_n 0, 1) := by decide +kernel
theorem dX10_spells_42 : decode cX10_spells 42 = .ok (.getfield 224, 3) := by decide +kernel
theorem dX10_spells_45 : decode cX10_spells 45 = .ok (.iload 9, 2) := by decide +kernel
theorem dX10_spells_47 : decode cX10_spells 47 = .ok (.iadd, 1) := by decide +kernel
theorem dX10_spells_48 : decode cX10_spells 48 = .ok (.iaload, 1) := by decide +kernel
theorem dX10_spells_49 : decode cX10_spells 49 = .ok (.iload 9, 2) := by decide +kernel
theorem dX10_spells_51 : decode cX10_spells 51 = .ok (.ifCond .ne 7, 3) := by decide +kernel
theorem dX10_spells_54 : decode cX10_spells 54 = .ok (.iload_n 2, 1) := by decide +kernel
theorem dX10_spells_55 : decode cX10_spells 55 = .ok (.goto 48, 3) := by decide +kernel
theorem dX10_spells_58 : decode cX10_spells 58 = .ok (.iload 9, 2) := by decide +kernel
theorem dX10_spells_60 : decode cX10_spells 60 = .ok (.iconst 1, 1) := by decide +kernel
theorem dX10_spells_61 : decode cX10_spells 61 = .ok (.if_icmp .ne 7, 3) := by decide +kernel
theorem dX10_spells_64 : decode cX10_spells 64 = .ok (.iload_n 3, 1) := by decide +kernel
theorem dX10_spells_65 : decode cX10_spells 65 = .ok (.goto 38, 3) := by decide +kernel
theorem dX10_spells_68 : decode cX10_spells 68 = .ok (.iload 9, 2) := by decide +kernel
theorem dX10_spells_70 : decode cX10_spells 70 = .ok (.iconst 2, 1) := by decide +kernel
theorem dX10_spells_71 : decode cX10_spells 71 = .ok (.if_icmp .ne 8, 3) := by decide +kernel
theorem dX10_spells_74 : decode cX10_spells 74 = .ok (.iload 4, 2) := by decide +kernel
theorem dX10_spells_76 : decode cX10_spells 76 = .ok (.goto 27, 3) := by decide +kernel
theorem dX10_spells_79 : decode cX10_spells 79 = .ok (.iload 9, 2) := by decide +kernel
theorem dX10_spells_81 : decode cX10_spells 81 = .ok (.iconst 3, 1) := by decide +kernel
theorem dX10_spells_82 : decode cX10_spells 82 = .ok (.if_icmp .ne 8, 3) := by decide +kernel
theorem dX10_spells_85 : decode cX10_spells 85 = .ok (.iload 5, 2) := by decide +kernel
theorem dX10_spells_87 : decode cX10_spells 87 = .ok (.goto 16, 3) := by decide +kernel
theorem dX10_spells_90 : decode cX10_spells 90 = .ok (.iload 9, 2) := by decide +kernel
theorem dX10_spells_92 : decode cX10_spells 92 = .ok (.iconst 4, 1) := by decide +kernel
theorem dX10_spells_93 : decode cX10_spells 93 = .ok (.if_icmp .ne 8, 3) := by decide +kernel
theorem dX10_spells_96 : decode cX10_spells 96 = .ok (.iload 6, 2) := by decide +kernel
theorem dX10_spells_98 : decode cX10_spells 98 = .ok (.goto 5, 3) := by decide +kernel
theorem dX10_spells_101 : decode cX10_spells 101 = .ok (.iload 7, 2) := by decide +kernel
theorem dX10_spells_103 : decode cX10_spells 103 = .ok (.if_icmp .ne 7, 3) := by decide +kernel
theorem dX10_spells_106 : decode cX10_spells 106 = .ok (.iconst 1, 1) := by decide +kernel
theorem dX10_spells_107 : decode cX10_spells 107 = .ok (.goto 4, 3) := by decide +kernel
theorem dX10_spells_110 : decode cX10_spells 110 = .ok (.iconst 0, 1) := by decide +kernel
theorem dX10_spells_111 : decode cX10_spells 111 = .ok (.istore 8, 2) := by decide +kernel
theorem dX10_spells_113 : decode cX10_spells 113 = .ok (.iinc 9 1, 3) := by decide +kernel
theorem dX10_spells_116 : decode cX10_spells 116 = .ok (.goto (-90), 3) := by decide +kernel
theorem dX10_spells_119 : decode cX10_spells 119 = .ok (.iload 8, 2) := by decide +kernel
theorem dX10_spells_121 : decode cX10_spells 121 = .ok (.ireturn, 1) := by decide +kernel
theorem dX10_takes_0 : decode cX10_takes 0 = .ok (.aload_n 0, 1) := by decide +kernel
theorem dX10_takes_1 : decode cX10_takes 1 = .ok (.getfield 230, 3) := by decide +kernel
theorem dX10_takes_4 : decode cX10_takes 4 = .ok (.iconst 2, 1) := by decide +kernel
theorem dX10_takes_5 : decode cX10_takes 5 = .ok (.if_icmp .ne 18, 3) := by decide +kernel
theorem dX10_takes_8 : decode cX10_takes 8 = .ok (.aload_n 0, 1) := by decide +kernel
theorem dX10_takes_9 : decode cX10_takes 9 = .ok (.getfield 233, 3) := by decide +kernel
theorem dX10_takes_12 : decode cX10_takes 12 = .ok (.i2l, 1) := by decide +kernel
theorem dX10_takes_13 : decode cX10_takes 13 = .ok (.iload_n 2, 1) := by decide +kernel
theorem dX10_takes_14 : decode cX10_takes 14 = .ok (.i2l, 1) := by decide +kernel
theorem dX10_takes_15 : decode cX10_takes 15 = .ok (.iload_n 3, 1) := by decide +kernel
theorem dX10_takes_16 : decode cX10_takes 16 = .ok (.i2l, 1) := by decide +kernel
theorem dX10_takes_17 : decode cX10_takes 17 = .ok (.invokestatic 65, 3) := by decide +kernel
theorem dX10_takes_20 : decode cX10_takes 20 = .ok (.ifCond .ne 5, 3) := by decide +kernel
theorem dX10_takes_23 : decode cX10_takes 23 = .ok (.iconst 0, 1) := by decide +kernel
theorem dX10_takes_24 : decode cX10_takes 24 = .ok (.ireturn, 1) := by decide +kernel
theorem dX10_takes_25 : decode cX10_takes 25 = .ok (.aload_n 0, 1) := by decide +kernel
theorem dX10_takes_26 : decode cX10_takes 26 = .ok (.getfield 54, 3) := by decide +kernel
theorem dX10_takes_29 : decode cX10_takes 29 = .ok (.iload_n 1, 1) := by decide +kernel
theorem dX10_takes_30 : decode cX10_takes 30 = .ok (.aload_n 0, 1) := by decide +kernel
theorem dX10_takes_31 : decode cX10_takes 31 = .ok (.getfield 233, 3) := by decide +kernel
theorem dX10_takes_34 : decode cX10_takes 34 = .ok (.iastore, 1) := by decide +kernel
theorem dX10_takes_35 : decode cX10_takes 35 = .ok (.aload_n 0, 1) := by decide +kernel
theorem dX10_takes_36 : decode cX10_takes 36 = .ok (.invokevirtual 246, 3) := by decide +kernel
theorem dX10_takes_39 : decode cX10_takes 39 = .ok (.iconst 1, 1) := by decide +kernel
theorem dX10_takes_40 : decode cX10_takes 40 = .ok (.ireturn, 1) := by decide +kernel
theorem dX10_takesInfant_0 : decode cX10_takesInfant 0 = .ok (.aload_n 0, 1) := by decide +kernel
theorem dX10_takesInfant_1 : decode cX10_takesInfant 1 = .ok (.getfield 51, 3) := by decide +kernel
theorem dX10_takesInfant_4 : decode cX10_takesInfant 4 = .ok (.iconst 0, 1) := by decide +kernel
theorem dX10_takesInfant_5 : decode cX10_takesInfant 5 = .ok (.iaload, 1) := by decide +kernel
theorem dX10_takesInfant_6 : decode cX10_takesInfant 6 = .ok (.bipush 6, 2) := by decide +kernel
theorem dX10_takesInfant_8 : decode cX10_takesInfant 8 = .ok (.if_icmp .ne 5, 3) := by decide +kernel
theorem dX10_takesInfant_11 : decode cX10_takesInfant 11 = .ok (.iconst 0, 1) := by decide +kernel
theorem dX10_takesInfant_12 : decode cX10_takesInfant 12 = .ok (.ireturn, 1) := by decide +kernel
theorem dX10_takesInfant_13 : decode cX10_takesInfant 13 = .ok (.aload_n 0, 1) := by decide +kernel
theorem dX10_takesInfant_14 : decode cX10_takesInfant 14 = .ok (.invokevirtual 246, 3) := by decide +kernel
theorem dX10_takesInfant_17 : decode cX10_takesInfant 17 = .ok (.aload_n 0, 1) := by decide +kernel
theorem dX10_takesInfant_18 : decode cX10_takesInfant 18 = .ok (.iconst 0, 1) := by decide +kernel
theorem dX10_takesInfant_19 : decode cX10_takesInfant 19 = .ok (.iconst 0, 1) := by decide +kernel
theorem dX10_takesInfant_20 : decode cX10_takesInfant 20 = .ok (.iconst 5, 1) := by decide +kernel
theorem dX10_takesInfant_21 : decode cX10_takesInfant 21 = .ok (.invokevirtual 249, 3) := by decide +kernel
theorem dX10_takesInfant_24 : decode cX10_takesInfant 24 = .ok (.ifCond .eq 24, 3) := by decide +kernel
theorem dX10_takesInfant_27 : decode cX10_takesInfant 27 = .ok (.aload_n 0, 1) := by decide +kernel
theorem dX10_takesInfant_28 : decode cX10_takesInfant 28 = .ok (.iconst 1, 1) := by decide +kernel
theorem dX10_takesInfant_29 : decode cX10_takesInfant 29 = .ok (.iconst 0, 1) := by decide +kernel
theorem dX10_takesInfant_30 : decode cX10_takesInfant 30 = .ok (.bipush 35, 2) := by decide +kernel
theorem dX10_takesInfant_32 : decode cX10_takesInfant 32 = .ok (.invokevirtual 249, 3) := by decide +kernel
theorem dX10_takesInfant_35 : decode cX10_takesInfant 35 = .ok (.ifCond .eq 13, 3) := by decide +kernel
theorem dX10_takesInfant_38 : decode cX10_takesInfant 38 = .ok (.aload_n 0, 1) := by decide +kernel
theorem dX10_takesInfant_39 : decode cX10_takesInfant 39 = .ok (.iconst 2, 1) := by decide +kernel
theorem dX10_takesInfant_40 : decode cX10_takesInfant 40 = .ok (.iconst 0, 1) := by decide +kernel
theorem dX10_takesInfant_41 : decode cX10_takesInfant 41 = .ok (.iconst 5, 1) := by decide +kernel
theorem dX10_takesInfant_42 : decode cX10_takesInfant 42 = .ok (.invokevirtual 249, 3) := by decide +kernel
theorem dX10_takesInfant_45 : decode cX10_takesInfant 45 = .ok (.ifCond .ne 5, 3) := by decide +kernel
theorem dX10_takesInfant_48 : decode cX10_takesInfant 48 = .ok (.iconst 0, 1) := by decide +kernel
theorem dX10_takesInfant_49 : decode cX10_takesInfant 49 = .ok (.ireturn, 1) := by decide +kernel
theorem dX10_takesInfant_50 : decode cX10_takesInfant 50 = .ok (.aload_n 0, 1) := by decide +kernel
theorem dX10_takesInfant_51 : decode cX10_takesInfant 51 = .ok (.getfield 51, 3) := by decide +kernel
theorem dX10_takesInfant_54 : decode cX10_takesInfant 54 = .ok (.aload_n 0, 1) := by decide +kernel
theorem dX10_takesInfant_55 : decode cX10_takesInfant 55 = .ok (.getfield 54, 3) := by decide +kernel
theorem dX10_takesInfant_58 : decode cX10_takesInfant 58 = .ok (.iconst 0, 1) := by decide +kernel
theorem dX10_takesInfant_59 : decode cX10_takesInfant 59 = .ok (.iaload, 1) := by decide +kernel
theorem dX10_takesInfant_60 : decode cX10_takesInfant 60 = .ok (.aload_n 0, 1) := by decide +kernel
theorem dX10_takesInfant_61 : decode cX10_takesInfant 61 = .ok (.getfield 54, 3) := by decide +kernel
theorem dX10_takesInfant_64 : decode cX10_takesInfant 64 = .ok (.iconst 1, 1) := by decide +kernel
theorem dX10_takesInfant_65 : decode cX10_takesInfant 65 = .ok (.iaload, 1) := by decide +kernel
theorem dX10_takesInfant_66 : decode cX10_takesInfant 66 = .ok (.aload_n 0, 1) := by decide +kernel
theorem dX10_takesInfant_67 : decode cX10_takesInfant 67 = .ok (.getfield 54, 3) := by decide +kernel
theorem dX10_takesInfant_70 : decode cX10_takesInfant 70 = .ok (.iconst 2, 1) := by decide +kernel
theorem dX10_takesInfant_71 : decode cX10_takesInfant 71 = .ok (.iaload, 1) := by decide +kernel
theorem dX10_takesInfant_72 : decode cX10_takesInfant 72 = .ok (.invokestatic 82, 3) := by decide +kernel
theorem dX10_takesInfant_75 : decode cX10_takesInfant 75 = .ok (.iconst 1, 1) := by decide +kernel
theorem dX10_takesInfant_76 : decode cX10_takesInfant 76 = .ok (.ireturn, 1) := by decide +kernel
theorem dX10_takesSkill_0 : decode cX10_takesSkill 0 = .ok (.aload_n 0, 1) := by decide +kernel
theorem dX10_takesSkill_1 : decode cX10_takesSkill 1 = .ok (.invokevirtual 246, 3) := by decide +kernel
theorem dX10_takesSkill_4 : decode cX10_takesSkill 4 = .ok (.aload_n 0, 1) := by decide +kernel
theorem dX10_takesSkill_5 : decode cX10_takesSkill 5 = .ok (.iconst 0, 1) := by decide +kernel
theorem dX10_takesSkill_6 : decode cX10_takesSkill 6 = .ok (.iconst 0, 1) := by decide +kernel
theorem dX10_takesSkill_7 : decode cX10_takesSkill 7 = .ok (.iconst 5, 1) := by decide +kernel
theorem dX10_takesSkill_8 : decode cX10_takesSkill 8 = .ok (.invokevirtual 249, 3) := by decide +kernel
theorem dX10_takesSkill_11 : decode cX10_takesSkill 11 = .ok (.ifCond .eq 14, 3) := by decide +kernel
theorem dX10_takesSkill_14 : decode cX10_takesSkill 14 = .ok (.aload_n 0, 1) := by decide +kernel
theorem dX10_takesSkill_15 : decode cX10_takesSkill 15 = .ok (.iconst 1, 1) := by decide +kernel
theorem dX10_takesSkill_16 : decode cX10_takesSkill 16 = .ok (.iconst 0, 1) := by decide +kernel
theorem dX10_takesSkill_17 : decode cX10_takesSkill 17 = .ok (.bipush 9, 2) := by decide +kernel
theorem dX10_takesSkill_19 : decode cX10_takesSkill 19 = .ok (.invokevirtual 249, 3) := by decide +kernel
theorem dX10_takesSkill_22 : decode cX10_takesSkill 22 = .ok (.ifCond .ne 5, 3) := by decide +kernel
theorem dX10_takesSkill_25 : decode cX10_takesSkill 25 = .ok (.iconst 0, 1) := by decide +kernel
theorem dX10_takesSkill_26 : decode cX10_takesSkill 26 = .ok (.ireturn, 1) := by decide +kernel
theorem dX10_takesSkill_27 : decode cX10_takesSkill 27 = .ok (.aload_n 0, 1) := by decide +kernel
theorem dX10_takesSkill_28 : decode cX10_takesSkill 28 = .ok (.getfield 51, 3) := by decide +kernel
theorem dX10_takesSkill_31 : decode cX10_takesSkill 31 = .ok (.bipush 18, 2) := by decide +kernel
theorem dX10_takesSkill_33 : decode cX10_takesSkill 33 = .ok (.aload_n 0, 1) := by decide +kernel
theorem dX10_takesSkill_34 : decode cX10_takesSkill 34 = .ok (.getfield 54, 3) := by decide +kernel
theorem dX10_takesSkill_37 : decode cX10_takesSkill 37 = .ok (.iconst 0, 1) := by decide +kernel
theorem dX10_takesSkill_38 : decode cX10_takesSkill 38 = .ok (.iaload, 1) := by decide +kernel
theorem dX10_takesSkill_39 : decode cX10_takesSkill 39 = .ok (.iadd, 1) := by decide +kernel
theorem dX10_takesSkill_40 : decode cX10_takesSkill 40 = .ok (.aload_n 0, 1) := by decide +kernel
theorem dX10_takesSkill_41 : decode cX10_takesSkill 41 = .ok (.getfield 54, 3) := by decide +kernel
theorem dX10_takesSkill_44 : decode cX10_takesSkill 44 = .ok (.iconst 1, 1) := by decide +kernel
theorem dX10_takesSkill_45 : decode cX10_takesSkill 45 = .ok (.iaload, 1) := by decide +kernel
theorem dX10_takesSkill_46 : decode cX10_takesSkill 46 = .ok (.iastore, 1) := by decide +kernel
theorem dX10_takesSkill_47 : decode cX10_takesSkill 47 = .ok (.iconst 1, 1) := by decide +kernel
theorem dX10_takesSkill_48 : decode cX10_takesSkill 48 = .ok (.ireturn, 1) := by decide +kernel
theorem dX10_takesNurse_0 : decode cX10_takesNurse 0 = .ok (.aload_n 0, 1) := by decide +kernel
theorem dX10_takesNurse_1 : decode cX10_takesNurse 1 = .ok (.invokevirtual 246, 3) := by decide +kernel
theorem dX10_takesNurse_4 : decode cX10_takesNurse 4 = .ok (.aload_n 0, 1) := by decide +kernel
theorem dX10_takesNurse_5 : decode cX10_takesNurse 5 = .ok (.iconst 0, 1) := by decide +kernel
theorem dX10_takesNurse_6 : decode cX10_takesNurse 6 = .ok (.iconst 0, 1) := by decide +kernel
theorem dX10_takesNurse_7 : decode cX10_takesNurse 7 = .ok (.aload_n 0, 1) := by decide +kernel
theorem dX10_takesNurse_8 : decode cX10_takesNurse 8 = .ok (.getfield 51, 3) := by decide +kernel
theorem dX10_takesNurse_11 : decode cX10_takesNurse 11 = .ok (.iconst 0, 1) := by decide +kernel
theorem dX10_takesNurse_12 : decode cX10_takesNurse 12 = .ok (.iaload, 1) := by decide +kernel
theorem dX10_takesNurse_13 : decode cX10_takesNurse 13 = .ok (.iconst 1, 1) := by decide +kernel
theorem dX10_takesNurse_14 : decode cX10_takesNurse 14 = .ok (.isub, 1) := by decide +kernel
theorem dX10_takesNurse_15 : decode cX10_takesNurse 15 = .ok (.invokevirtual 249, 3) := by decide +kernel
theorem dX10_takesNurse_18 : decode cX10_takesNurse 18 = .ok (.ifCond .eq 13, 3) := by decide +kernel
theorem dX10_takesNurse_21 : decode cX10_takesNurse 21 = .ok (.aload_n 0, 1) := by decide +kernel
theorem dX10_takesNurse_22 : decode cX10_takesNurse 22 = .ok (.iconst 1, 1) := by decide +kernel
theorem dX10_takesNurse_23 : decode cX10_takesNurse 23 = .ok (.iconst 0, 1) := by decide +kernel
theorem dX10_takesNurse_24 : decode cX10_takesNurse 24 = .ok (.iconst 5, 1) := by decide +kernel
theorem dX10_takesNurse_25 : decode cX10_takesNurse 25 = .ok (.invokevirtual 249, 3) := by decide +kernel
theorem dX10_takesNurse_28 : decode cX10_takesNurse 28 = .ok (.ifCond .ne 5, 3) := by decide +kernel
theorem dX10_takesNurse_31 : decode cX10_takesNurse 31 = .ok (.iconst 0, 1) := by decide +kernel
theorem dX10_takesNurse_32 : decode cX10_takesNurse 32 = .ok (.ireturn, 1) := by decide +kernel
theorem dX10_takesNurse_33 : decode cX10_takesNurse 33 = .ok (.aload_n 0, 1) := by decide +kernel
theorem dX10_takesNurse_34 : decode cX10_takesNurse 34 = .ok (.getfield 51, 3) := by decide +kernel
theorem dX10_takesNurse_37 : decode cX10_takesNurse 37 = .ok (.bipush 11, 2) := by decide +kernel
theorem dX10_takesNurse_39 : decode cX10_takesNurse 39 = .ok (.aload_n 0, 1) := by decide +kernel
theorem dX10_takesNurse_40 : decode cX10_takesNurse 40 = .ok (.getfield 54, 3) := by decide +kernel
theorem dX10_takesNurse_43 : decode cX10_takesNurse 43 = .ok (.iconst 0, 1) := by decide +kernel
theorem dX10_takesNurse_44 : decode cX10_takesNurse 44 = .ok (.iaload, 1) := by decide +kernel
theorem dX10_takesNurse_45 : decode cX10_takesNurse 45 = .ok (.iadd, 1) := by decide +kernel
theorem dX10_takesNurse_46 : decode cX10_takesNurse 46 = .ok (.aload_n 0, 1) := by decide +kernel
theorem dX10_takesNurse_47 : decode cX10_takesNurse 47 = .ok (.getfield 54, 3) := by decide +kernel
theorem dX10_takesNurse_50 : decode cX10_takesNurse 50 = .ok (.iconst 1, 1) := by decide +kernel
theorem dX10_takesNurse_51 : decode cX10_takesNurse 51 = .ok (.iaload, 1) := by decide +kernel
theorem dX10_takesNurse_52 : decode cX10_takesNurse 52 = .ok (.iastore, 1) := by decide +kernel
theorem dX10_takesNurse_53 : decode cX10_takesNurse 53 = .ok (.iconst 1, 1) := by decide +kernel
theorem dX10_takesNurse_54 : decode cX10_takesNurse 54 = .ok (.ireturn, 1) := by decide +kernel
theorem dX10_takesItem_0 : decode cX10_takesItem 0 = .ok (.aload_n 0, 1) := by decide +kernel
theorem dX10_takesItem_1 : decode cX10_takesItem 1 = .ok (.bipush 6, 2) := by decide +kernel
theorem dX10_takesItem_3 : decode cX10_takesItem 3 = .ok (.bipush 105, 2) := by decide +kernel
theorem dX10_takesItem_5 : decode cX10_takesItem 5 = .ok (.bipush 110, 2) := by decide +kernel
theorem dX10_takesItem_7 : decode cX10_takesItem 7 = .ok (.bipush 102, 2) := by decide +kernel
theorem dX10_takesItem_9 : decode cX10_takesItem 9 = .ok (.bipush 97, 2) := by decide +kernel
theorem dX10_takesItem_11 : decode cX10_takesItem 11 = .ok (.bipush 110, 2) := by decide +kernel
theorem dX10_takesItem_13 : decode cX10_takesItem 13 = .ok (.bipush 116, 2) := by decide +kernel
theorem dX10_takesItem_15 : decode cX10_takesItem 15 = .ok (.invokevirtual 252, 3) := by decide +kernel
theorem dX10_takesItem_18 : decode cX10_takesItem 18 = .ok (.ifCond .eq 8, 3) := by decide +kernel
theorem dX10_takesItem_21 : decode cX10_takesItem 21 = .ok (.aload_n 0, 1) := by decide +kernel
theorem dX10_takesItem_22 : decode cX10_takesItem 22 = .ok (.invokevirtual 256, 3) := by decide +kernel
theorem dX10_takesItem_25 : decode cX10_takesItem 25 = .ok (.ireturn, 1) := by decide +kernel
theorem dX10_takesItem_26 : decode cX10_takesItem 26 = .ok (.aload_n 0, 1) := by decide +kernel
theorem dX10_takesItem_27 : decode cX10_takesItem 27 = .ok (.iconst 5, 1) := by decide +kernel
theorem dX10_takesItem_28 : decode cX10_takesItem 28 = .ok (.bipush 115, 2) := by decide +kernel
theorem dX10_takesItem_30 : decode cX10_takesItem 30 = .ok (.bipush 107, 2) := by decide +kernel
theorem dX10_takesItem_32 : decode cX10_takesItem 32 = .ok (.bipush 105, 2) := by decide +kernel
theorem dX10_takesItem_34 : decode cX10_takesItem 34 = .ok (.bipush 108, 2) := by decide +kernel
theorem dX10_takesItem_36 : decode cX10_takesItem 36 = .ok (.bipush 108, 2) := by decide +kernel
theorem dX10_takesItem_38 : decode cX10_takesItem 38 = .ok (.iconst 0, 1) := by decide +kernel
theorem dX10_takesItem_39 : decode cX10_takesItem 39 = .ok (.invokevirtual 252, 3) := by decide +kernel
theorem dX10_takesItem_42 : decode cX10_takesItem 42 = .ok (.ifCond .eq 8, 3) := by decide +kernel
theorem dX10_takesItem_45 : decode cX10_takesItem 45 = .ok (.aload_n 0, 1) := by decide +kernel
theorem dX10_takesItem_46 : decode cX10_takesItem 46 = .ok (.invokevirtual 260, 3) := by decide +kernel
theorem dX10_takesItem_49 : decode cX10_takesItem 49 = .ok (.ireturn, 1) := by decide +kernel
theorem dX10_takesItem_50 : decode cX10_takesItem 50 = .ok (.aload_n 0, 1) := by decide +kernel
theorem dX10_takesItem_51 : decode cX10_takesItem 51 = .ok (.iconst 5, 1) := by decide +kernel
theorem dX10_takesItem_52 : decode cX10_takesItem 52 = .ok (.bipush 110, 2) := by decide +kernel
theorem dX10_takesItem_54 : decode cX10_takesItem 54 = .ok (.bipush 117, 2) := by decide +kernel
theorem dX10_takesItem_56 : decode cX10_takesItem 56 = .ok (.bipush 114, 2) := by decide +kernel
theorem dX10_takesItem_58 : decode cX10_takesItem 58 = .ok (.bipush 115, 2) := by decide +kernel
theorem dX10_takesItem_60 : decode cX10_takesItem 60 = .ok (.bipush 101, 2) := by decide +kernel
theorem dX10_takesItem_62 : decode cX10_takesItem 62 = .ok (.iconst 0, 1) := by decide +kernel
theorem dX10_takesItem_63 : decode cX10_takesItem 63 = .ok (.invokevirtual 252, 3) := by decide +kernel
theorem dX10_takesItem_66 : decode cX10_takesItem 66 = .ok (.ifCond .eq 14, 3) := by decide +kernel
theorem dX10_takesItem_69 : decode cX10_takesItem 69 = .ok (.aload_n 0, 1) := by decide +kernel
theorem dX10_takesItem_70 : decode cX10_takesItem 70 = .ok (.invokevirtual 263, 3) := by decide +kernel
theorem dX10_takesItem_73 : decode cX10_takesItem 73 = .ok (.ifCond .eq 7, 3) := by decide +kernel
theorem dX10_takesItem_76 : decode cX10_takesItem 76 = .ok (.iconst 1, 1) := by decide +kernel
theorem dX10_takesItem_77 : decode cX10_takesItem 77 = .ok (.goto 4, 3) := by decide +kernel
theorem dX10_takesItem_80 : decode cX10_takesItem 80 = .ok (.iconst 0, 1) := by decide +kernel
theorem dX10_takesItem_81 : decode cX10_takesItem 81 = .ok (.ireturn, 1) := by decide +kernel
theorem dX10_read_0 : decode cX10_read 0 = .ok (.aload_n 0, 1) := by decide +kernel
theorem dX10_read_1 : decode cX10_read 1 = .ok (.iconst 0, 1) := by decide +kernel
theorem dX10_read_2 : decode cX10_read 2 = .ok (.invokevirtual 242, 3) := by decide +kernel
theorem dX10_read_5 : decode cX10_read 5 = .ok (.aload_n 0, 1) := by decide +kernel
theorem dX10_read_6 : decode cX10_read 6 = .ok (.iconst 5, 1) := by decide +kernel
theorem dX10_read_7 : decode cX10_read 7 = .ok (.bipush 99, 2) := by decide +kernel
theorem dX10_read_9 : decode cX10_read 9 = .ok (.bipush 111, 2) := by decide +kernel
theorem dX10_read_11 : decode cX10_read 11 = .ok (.bipush 117, 2) := by decide +kernel
theorem dX10_read_13 : decode cX10_read 13 = .ok (.bipush 114, 2) := by decide +kernel
theorem dX10_read_15 : decode cX10_read 15 = .ok (.bipush 116, 2) := by decide +kernel
theorem dX10_read_17 : decode cX10_read 17 = .ok (.iconst 0, 1) := by decide +kernel
theorem dX10_read_18 : decode cX10_read 18 = .ok (.invokevirtual 252, 3) := by decide +kernel
theorem dX10_read_21 : decode cX10_read 21 = .ok (.ifCond .ne 11, 3) := by decide +kernel
theorem dX10_read_24 : decode cX10_read 24 = .ok (.bipush (-10), 2) := by decide +kernel
theorem dX10_read_26 : decode cX10_read 26 = .ok (.aload_n 0, 1) := by decide +kernel
theorem dX10_read_27 : decode cX10_read 27 = .ok (.getfield 224, 3) := by decide +kernel
theorem dX10_read_30 : decode cX10_read 30 = .ok (.isub, 1) := by decide +kernel
theorem dX10_read_31 : decode cX10_read 31 = .ok (.ireturn, 1) := by decide +kernel
theorem dX10_read_32 : decode cX10_read 32 = .ok (.aload_n 0, 1) := by decide +kernel
theorem dX10_read_33 : decode cX10_read 33 = .ok (.invokevirtual 246, 3) := by decide +kernel
theorem dX10_read_36 : decode cX10_read 36 = .ok (.aload_n 0, 1) := by decide +kernel
theorem dX10_read_37 : decode cX10_read 37 = .ok (.getfield 230, 3) := by decide +kernel
theorem dX10_read_40 : decode cX10_read 40 = .ok (.iconst 3, 1) := by decide +kernel
theorem dX10_read_41 : decode cX10_read 41 = .ok (.if_icmp .eq 11, 3) := by decide +kernel
theorem dX10_read_44 : decode cX10_read 44 = .ok (.bipush (-10), 2) := by decide +kernel
theorem dX10_read_46 : decode cX10_read 46 = .ok (.aload_n 0, 1) := by decide +kernel
theorem dX10_read_47 : decode cX10_read 47 = .ok (.getfield 224, 3) := by decide +kernel
theorem dX10_read_50 : decode cX10_read 50 = .ok (.isub, 1) := by decide +kernel
theorem dX10_read_51 : decode cX10_read 51 = .ok (.ireturn, 1) := by decide +kernel
theorem dX10_read_52 : decode cX10_read 52 = .ok (.aload_n 0, 1) := by decide +kernel
theorem dX10_read_53 : decode cX10_read 53 = .ok (.invokevirtual 246, 3) := by decide +kernel
theorem dX10_read_56 : decode cX10_read 56 = .ok (.aload_n 0, 1) := by decide +kernel
theorem dX10_read_57 : decode cX10_read 57 = .ok (.getfield 51, 3) := by decide +kernel
theorem dX10_read_60 : decode cX10_read 60 = .ok (.invokestatic 57, 3) := by decide +kernel
theorem dX10_read_63 : decode cX10_read 63 = .ok (.iconst 1, 1) := by decide +kernel
theorem dX10_read_64 : decode cX10_read 64 = .ok (.istore_n 1, 1) := by decide +kernel
theorem dX10_read_65 : decode cX10_read 65 = .ok (.aload_n 0, 1) := by decide +kernel
theorem dX10_read_66 : decode cX10_read 66 = .ok (.getfield 230, 3) := by decide +kernel
theorem dX10_read_69 : decode cX10_read 69 = .ok (.ifCond .eq 36, 3) := by decide +kernel
theorem dX10_read_72 : decode cX10_read 72 = .ok (.aload_n 0, 1) := by decide +kernel
theorem dX10_read_73 : decode cX10_read 73 = .ok (.invokevirtual 266, 3) := by decide +kernel
theorem dX10_read_76 : decode cX10_read 76 = .ok (.ifCond .eq 11, 3) := by decide +kernel
theorem dX10_read_79 : decode cX10_read 79 = .ok (.aload_n 0, 1) := by decide +kernel
theorem dX10_read_80 : decode cX10_read 80 = .ok (.getfield 230, 3) := by decide +kernel
theorem dX10_read_83 : decode cX10_read 83 = .ok (.iconst 3, 1) := by decide +kernel
theorem dX10_read_84 : decode cX10_read 84 = .ok (.if_icmp .eq 11, 3) := by decide +kernel
theorem dX10_read_87 : decode cX10_read 87 = .ok (.bipush (-10), 2) := by decide +kernel
theorem dX10_read_89 : decode cX10_read 89 = .ok (.aload_n 0, 1) := by decide +kernel
theorem dX10_read_90 : decode cX10_read 90 = .ok (.getfield 224, 3) := by decide +kernel
theorem dX10_read_93 : decode cX10_read 93 = .ok (.isub, 1) := by decide +kernel
theorem dX10_read_94 : decode cX10_read 94 = .ok (.ireturn, 1) := by decide +kernel
theorem dX10_read_95 : decode cX10_read 95 = .ok (.aload_n 0, 1) := by decide +kernel
theorem dX10_read_96 : decode cX10_read 96 = .ok (.invokevirtual 246, 3) := by decide +kernel
theorem dX10_read_99 : decode cX10_read 99 = .ok (.iinc 1 1, 3) := by decide +kernel
theorem dX10_read_102 : decode cX10_read 102 = .ok (.goto (-37), 3) := by decide +kernel
theorem dX10_read_105 : decode cX10_read 105 = .ok (.iconst 0, 1) := by decide +kernel
theorem dX10_read_106 : decode cX10_read 106 = .ok (.istore_n 2, 1) := by decide +kernel
theorem dX10_read_107 : decode cX10_read 107 = .ok (.iload_n 2, 1) := by decide +kernel
theorem dX10_read_108 : decode cX10_read 108 = .ok (.bipush 78, 2) := by decide +kernel
theorem dX10_read_110 : decode cX10_read 110 = .ok (.if_icmp .ge 21, 3) := by decide +kernel
theorem dX10_read_113 : decode cX10_read 113 = .ok (.aload_n 0, 1) := by decide +kernel
theorem dX10_read_114 : decode cX10_read 114 = .ok (.getfield 7, 3) := by decide +kernel
theorem dX10_read_117 : decode cX10_read 117 = .ok (.iload_n 2, 1) := by decide +kernel
theorem dX10_read_118 : decode cX10_read 118 = .ok (.aload_n 0, 1) := by decide +kernel
theorem dX10_read_119 : decode cX10_read 119 = .ok (.getfield 51, 3) := by decide +kernel
theorem dX10_read_122 : decode cX10_read 122 = .ok (.iload_n 2, 1) := by decide +kernel
theorem dX10_read_123 : decode cX10_read 123 = .ok (.iaload, 1) := by decide +kernel
theorem dX10_read_124 : decode cX10_read 124 = .ok (.iastore, 1) := by decide +kernel
theorem dX10_read_125 : decode cX10_read 125 = .ok (.iinc 2 1, 3) := by decide +kernel
theorem dX10_read_128 : decode cX10_read 128 = .ok (.goto (-21), 3) := by decide +kernel
theorem dX10_read_131 : decode cX10_read 131 = .ok (.iload_n 1, 1) := by decide +kernel
theorem dX10_read_132 : decode cX10_read 132 = .ok (.ireturn, 1) := by decide +kernel
theorem dX10_part_0 : decode cX10_part 0 = .ok (.iload_n 1, 1) := by decide +kernel
theorem dX10_part_1 : decode cX10_part 1 = .ok (.ifCond .ne 10, 3) := by decide +kernel
theorem dX10_part_4 : decode cX10_part 4 = .ok (.aload_n 0, 1) := by decide +kernel
theorem dX10_part_5 : decode cX10_part 5 = .ok (.getfield 190, 3) := by decide +kernel
theorem dX10_part_8 : decode cX10_part 8 = .ok (.goto 22, 3) := by decide +kernel
theorem dX10_part_11 : decode cX10_part 11 = .ok (.iload_n 1, 1) := by decide +kernel
theorem dX10_part_12 : decode cX10_part 12 = .ok (.iconst 1, 1) := by decide +kernel
theorem dX10_part_13 : decode cX10_part 13 = .ok (.if_icmp .ne 10, 3) := by decide +kernel
theorem dX10_part_16 : decode cX10_part 16 = .ok (.aload_n 0, 1) := by decide +kernel
theorem dX10_part_17 : decode cX10_part 17 = .ok (.getfield 23, 3) := by decide +kernel
theorem dX10_part_20 : decode cX10_part 20 = .ok (.goto 10, 3) := by decide +kernel
theorem dX10_part_23 : decode cX10_part 23 = .ok (.aload_n 0, 1) := by decide +kernel
theorem dX10_part_24 : decode cX10_part 24 = .ok (.bipush (-2), 2) := by decide +kernel
theorem dX10_part_26 : decode cX10_part 26 = .ok (.invokevirtual 75, 3) := by decide +kernel
theorem dX10_part_29 : decode cX10_part 29 = .ok (.i2l, 1) := by decide +kernel
theorem dX10_part_30 : decode cX10_part 30 = .ok (.lreturn, 1) := by decide +kernel
theorem dX10_image_0 : decode cX10_image 0 = .ok (.iload_n 1, 1) := by decide +kernel
theorem dX10_image_1 : decode cX10_image 1 = .ok (.i2l, 1) := by decide +kernel
theorem dX10_image_2 : decode cX10_image 2 = .ok (.lconst 0, 1) := by decide +kernel
theorem dX10_image_3 : decode cX10_image 3 = .ok (.lconst 1, 1) := by decide +kernel
theorem dX10_image_4 : decode cX10_image 4 = .ok (.invokestatic 65, 3) := by decide +kernel
theorem dX10_image_7 : decode cX10_image 7 = .ok (.ifCond .ne 10, 3) := by decide +kernel
theorem dX10_image_10 : decode cX10_image 10 = .ok (.aload_n 0, 1) := by decide +kernel
theorem dX10_image_11 : decode cX10_image 11 = .ok (.bipush (-2), 2) := by decide +kernel
theorem dX10_image_13 : decode cX10_image 13 = .ok (.invokevirtual 75, 3) := by decide +kernel
theorem dX10_image_16 : decode cX10_image 16 = .ok (.ireturn, 1) := by decide +kernel
theorem dX10_image_17 : decode cX10_image 17 = .ok (.iconst 0, 1) := by decide +kernel
theorem dX10_image_18 : decode cX10_image 18 = .ok (.istore_n 2, 1) := by decide +kernel
theorem dX10_image_19 : decode cX10_image 19 = .ok (.iload_n 2, 1) := by decide +kernel
theorem dX10_image_20 : decode cX10_image 20 = .ok (.sipush 190, 3) := by decide +kernel
theorem dX10_image_23 : decode cX10_image 23 = .ok (.if_icmp .ge 27, 3) := by decide +kernel
theorem dX10_image_26 : decode cX10_image 26 = .ok (.aload_n 0, 1) := by decide +kernel
theorem dX10_image_27 : decode cX10_image 27 = .ok (.getfield 13, 3) := by decide +kernel
theorem dX10_image_30 : decode cX10_image 30 = .ok (.sipush 190, 3) := by decide +kernel
theorem dX10_image_33 : decode cX10_image 33 = .ok (.iload_n 1, 1) := by decide +kernel
theorem dX10_image_34 : decode cX10_image 34 = .ok (.imul, 1) := by decide +kernel
theorem dX10_image_35 : decode cX10_image 35 = .ok (.iload_n 2, 1) := by decide +kernel
theorem dX10_image_36 : decode cX10_image 36 = .ok (.iadd, 1) := by decide +kernel
theorem dX10_image_37 : decode cX10_image 37 = .ok (.aload_n 0, 1) := by decide +kernel
theorem dX10_image_38 : decode cX10_image 38 = .ok (.getfield 7, 3) := by decide +kernel
theorem dX10_image_41 : decode cX10_image 41 = .ok (.iload_n 2, 1) := by decide +kernel
theorem dX10_image_42 : decode cX10_image 42 = .ok (.iaload, 1) := by decide +kernel
theorem dX10_image_43 : decode cX10_image 43 = .ok (.iastore, 1) := by decide +kernel
theorem dX10_image_44 : decode cX10_image 44 = .ok (.iinc 2 1, 3) := by decide +kernel
theorem dX10_image_47 : decode cX10_image 47 = .ok (.goto (-28), 3) := by decide +kernel
theorem dX10_image_50 : decode cX10_image 50 = .ok (.aload_n 0, 1) := by decide +kernel
theorem dX10_image_51 : decode cX10_image 51 = .ok (.getfield 16, 3) := by decide +kernel
theorem dX10_image_54 : decode cX10_image 54 = .ok (.iload_n 1, 1) := by decide +kernel
theorem dX10_image_55 : decode cX10_image 55 = .ok (.iconst 1, 1) := by decide +kernel
theorem dX10_image_56 : decode cX10_image 56 = .ok (.bastore, 1) := by decide +kernel
theorem dX10_image_57 : decode cX10_image 57 = .ok (.iconst 1, 1) := by decide +kernel
theorem dX10_image_58 : decode cX10_image 58 = .ok (.ireturn, 1) := by decide +kernel
theorem dX10_from_0 : decode cX10_from 0 = .ok (.iload_n 1, 1) := by decide +kernel
theorem dX10_from_1 : decode cX10_from 1 = .ok (.i2l, 1) := by decide +kernel
theorem dX10_from_2 : decode cX10_from 2 = .ok (.lconst 0, 1) := by decide +kernel
theorem dX10_from_3 : decode cX10_from 3 = .ok (.lconst 1, 1) := by decide +kernel
theorem dX10_from_4 : decode cX10_from 4 = .ok (.invokestatic 65, 3) := by decide +kernel
theorem dX10_from_7 : decode cX10_from 7 = .ok (.ifCond .ne 10, 3) := by decide +kernel
theorem dX10_from_10 : decode cX10_from 10 = .ok (.aload_n 0, 1) := by decide +kernel
theorem dX10_from_11 : decode cX10_from 11 = .ok (.bipush (-2), 2) := by decide +kernel
theorem dX10_from_13 : decode cX10_from 13 = .ok (.invokevirtual 75, 3) := by decide +kernel
theorem dX10_from_16 : decode cX10_from 16 = .ok (.ireturn, 1) := by decide +kernel
theorem dX10_from_17 : decode cX10_from 17 = .ok (.aload_n 0, 1) := by decide +kernel
theorem dX10_from_18 : decode cX10_from 18 = .ok (.getfield 16, 3) := by decide +kernel
theorem dX10_from_21 : decode cX10_from 21 = .ok (.iload_n 1, 1) := by decide +kernel
theorem dX10_from_22 : decode cX10_from 22 = .ok (.baload, 1) := by decide +kernel
theorem dX10_from_23 : decode cX10_from 23 = .ok (.ifCond .ne 8, 3) := by decide +kernel
theorem dX10_from_26 : decode cX10_from 26 = .ok (.aload_n 0, 1) := by decide +kernel
theorem dX10_from_27 : decode cX10_from 27 = .ok (.invokevirtual 140, 3) := by decide +kernel
theorem dX10_from_30 : decode cX10_from 30 = .ok (.ireturn, 1) := by decide +kernel
theorem dX10_from_31 : decode cX10_from 31 = .ok (.iconst 0, 1) := by decide +kernel
theorem dX10_from_32 : decode cX10_from 32 = .ok (.istore_n 2, 1) := by decide +kernel
theorem dX10_from_33 : decode cX10_from 33 = .ok (.iload_n 2, 1) := by decide +kernel
theorem dX10_from_34 : decode cX10_from 34 = .ok (.sipush 190, 3) := by decide +kernel
theorem dX10_from_37 : decode cX10_from 37 = .ok (.if_icmp .ge 27, 3) := by decide +kernel
theorem dX10_from_40 : decode cX10_from 40 = .ok (.aload_n 0, 1) := by decide +kernel
theorem dX10_from_41 : decode cX10_from 41 = .ok (.getfield 7, 3) := by decide +kernel
theorem dX10_from_44 : decode cX10_from 44 = .ok (.iload_n 2, 1) := by decide +kernel
theorem dX10_from_45 : decode cX10_from 45 = .ok (.aload_n 0, 1) := by decide +kernel
theorem dX10_from_46 : decode cX10_from 46 = .ok (.getfield 13, 3) := by decide +kernel
theorem dX10_from_49 : decode cX10_from 49 = .ok (.sipush 190, 3) := by decide +kernel
theorem dX10_from_52 : decode cX10_from 52 = .ok (.iload_n 1, 1) := by decide +kernel
theorem dX10_from_53 : decode cX10_from 53 = .ok (.imul, 1) := by decide +kernel
theorem dX10_from_54 : decode cX10_from 54 = .ok (.iload_n 2, 1) := by decide +kernel
theorem dX10_from_55 : decode cX10_from 55 = .ok (.iadd, 1) := by decide +kernel
theorem dX10_from_56 : decode cX10_from 56 = .ok (.iaload, 1) := by decide +kernel
theorem dX10_from_57 : decode cX10_from 57 = .ok (.iastore, 1) := by decide +kernel
theorem dX10_from_58 : decode cX10_from 58 = .ok (.iinc 2 1, 3) := by decide +kernel
theorem dX10_from_61 : decode cX10_from 61 = .ok (.goto (-28), 3) := by decide +kernel
theorem dX10_from_64 : decode cX10_from 64 = .ok (.iconst 1, 1) := by decide +kernel
theorem dX10_from_65 : decode cX10_from 65 = .ok (.ireturn, 1) := by decide +kernel
theorem dX10_status_0 : decode cX10_status 0 = .ok (.iload_n 1, 1) := by decide +kernel
theorem dX10_status_1 : decode cX10_status 1 = .ok (.i2l, 1) := by decide +kernel
theorem dX10_status_2 : decode cX10_status 2 = .ok (.lconst 0, 1) := by decide +kernel
theorem dX10_status_3 : decode cX10_status 3 = .ok (.ldc2_w 269, 3) := by decide +kernel
theorem dX10_status_6 : decode cX10_status 6 = .ok (.invokestatic 65, 3) := by decide +kernel
theorem dX10_status_9 : decode cX10_status 9 = .ok (.ifCond .eq 12, 3) := by decide +kernel
theorem dX10_status_12 : decode cX10_status 12 = .ok (.aload_n 0, 1) := by decide +kernel
theorem dX10_status_13 : decode cX10_status 13 = .ok (.getfield 20, 3) := by decide +kernel
theorem dX10_status_16 : decode cX10_status 16 = .ok (.iload_n 1, 1) := by decide +kernel
theorem dX10_status_17 : decode cX10_status 17 = .ok (.iaload, 1) := by decide +kernel
theorem dX10_status_18 : decode cX10_status 18 = .ok (.goto 8, 3) := by decide +kernel
theorem dX10_status_21 : decode cX10_status 21 = .ok (.aload_n 0, 1) := by decide +kernel
theorem dX10_status_22 : decode cX10_status 22 = .ok (.iconst (-1), 1) := by decide +kernel
theorem dX10_status_23 : decode cX10_status 23 = .ok (.invokevirtual 75, 3) := by decide +kernel
theorem dX10_status_26 : decode cX10_status 26 = .ok (.ireturn, 1) := by decide +kernel
theorem dX10_counted_0 : decode cX10_counted 0 = .ok (.iload_n 1, 1) := by decide +kernel
theorem dX10_counted_1 : decode cX10_counted 1 = .ok (.tableswitch 84 0 5 #[39, 44, 55, 63, 70, 77], 39) := by decide +kernel
theorem dX10_counted_40 : decode cX10_counted 40 = .ok (.aload_n 0, 1) := by decide +kernel
theorem dX10_counted_41 : decode cX10_counted 41 = .ok (.invokevirtual 61, 3) := by decide +kernel
theorem dX10_counted_44 : decode cX10_counted 44 = .ok (.ireturn, 1) := by decide +kernel
theorem dX10_counted_45 : decode cX10_counted 45 = .ok (.aload_n 0, 1) := by decide +kernel
theorem dX10_counted_46 : decode cX10_counted 46 = .ok (.getfield 7, 3) := by decide +kernel
theorem dX10_counted_49 : decode cX10_counted 49 = .ok (.bipush 10, 2) := by decide +kernel
theorem dX10_counted_51 : decode cX10_counted 51 = .ok (.iaload, 1) := by decide +kernel
theorem dX10_counted_52 : decode cX10_counted 52 = .ok (.invokestatic 143, 3) := by decide +kernel
theorem dX10_counted_55 : decode cX10_counted 55 = .ok (.ireturn, 1) := by decide +kernel
theorem dX10_counted_56 : decode cX10_counted 56 = .ok (.aload_n 0, 1) := by decide +kernel
theorem dX10_counted_57 : decode cX10_counted 57 = .ok (.getfield 7, 3) := by decide +kernel
theorem dX10_counted_60 : decode cX10_counted 60 = .ok (.bipush 17, 2) := by decide +kernel
theorem dX10_counted_62 : decode cX10_counted 62 = .ok (.iaload, 1) := by decide +kernel
theorem dX10_counted_63 : decode cX10_counted 63 = .ok (.ireturn, 1) := by decide +kernel
theorem dX10_counted_64 : decode cX10_counted 64 = .ok (.aload_n 0, 1) := by decide +kernel
theorem dX10_counted_65 : decode cX10_counted 65 = .ok (.getfield 7, 3) := by decide +kernel
theorem dX10_counted_68 : decode cX10_counted 68 = .ok (.iconst 1, 1) := by decide +kernel
theorem dX10_counted_69 : decode cX10_counted 69 = .ok (.iaload, 1) := by decide +kernel
theorem dX10_counted_70 : decode cX10_counted 70 = .ok (.ireturn, 1) := by decide +kernel
theorem dX10_counted_71 : decode cX10_counted 71 = .ok (.aload_n 0, 1) := by decide +kernel
theorem dX10_counted_72 : decode cX10_counted 72 = .ok (.getfield 7, 3) := by decide +kernel
theorem dX10_counted_75 : decode cX10_counted 75 = .ok (.iconst 2, 1) := by decide +kernel
theorem dX10_counted_76 : decode cX10_counted 76 = .ok (.iaload, 1) := by decide +kernel
theorem dX10_counted_77 : decode cX10_counted 77 = .ok (.ireturn, 1) := by decide +kernel
theorem dX10_counted_78 : decode cX10_counted 78 = .ok (.aload_n 0, 1) := by decide +kernel
theorem dX10_counted_79 : decode cX10_counted 79 = .ok (.getfield 7, 3) := by decide +kernel
theorem dX10_counted_82 : decode cX10_counted 82 = .ok (.iconst 3, 1) := by decide +kernel
theorem dX10_counted_83 : decode cX10_counted 83 = .ok (.iaload, 1) := by decide +kernel
theorem dX10_counted_84 : decode cX10_counted 84 = .ok (.ireturn, 1) := by decide +kernel
theorem dX10_counted_85 : decode cX10_counted 85 = .ok (.aload_n 0, 1) := by decide +kernel
theorem dX10_counted_86 : decode cX10_counted 86 = .ok (.getfield 213, 3) := by decide +kernel
theorem dX10_counted_89 : decode cX10_counted 89 = .ok (.ireturn, 1) := by decide +kernel
theorem dX10_count_0 : decode cX10_count 0 = .ok (.iload_n 1, 1) := by decide +kernel
theorem dX10_count_1 : decode cX10_count 1 = .ok (.i2l, 1) := by decide +kernel
theorem dX10_count_2 : decode cX10_count 2 = .ok (.lconst 0, 1) := by decide +kernel
theorem dX10_count_3 : decode cX10_count 3 = .ok (.ldc2_w 92, 3) := by decide +kernel
theorem dX10_count_6 : decode cX10_count 6 = .ok (.invokestatic 65, 3) := by decide +kernel
theorem dX10_count_9 : decode cX10_count 9 = .ok (.ifCond .eq 11, 3) := by decide +kernel
theorem dX10_count_12 : decode cX10_count 12 = .ok (.aload_n 0, 1) := by decide +kernel
theorem dX10_count_13 : decode cX10_count 13 = .ok (.iload_n 1, 1) := by decide +kernel
theorem dX10_count_14 : decode cX10_count 14 = .ok (.invokevirtual 271, 3) := by decide +kernel
theorem dX10_count_17 : decode cX10_count 17 = .ok (.goto 9, 3) := by decide +kernel
theorem dX10_count_20 : decode cX10_count 20 = .ok (.aload_n 0, 1) := by decide +kernel
theorem dX10_count_21 : decode cX10_count 21 = .ok (.bipush (-2), 2) := by decide +kernel
theorem dX10_count_23 : decode cX10_count 23 = .ok (.invokevirtual 75, 3) := by decide +kernel
theorem dX10_count_26 : decode cX10_count 26 = .ok (.ireturn, 1) := by decide +kernel
theorem dX10_sums_0 : decode cX10_sums 0 = .ok (.lload_n 1, 1) := by decide +kernel
theorem dX10_sums_1 : decode cX10_sums 1 = .ok (.lstore 5, 2) := by decide +kernel
theorem dX10_sums_3 : decode cX10_sums 3 = .ok (.iconst 0, 1) := by decide +kernel
theorem dX10_sums_4 : decode cX10_sums 4 = .ok (.istore 7, 2) := by decide +kernel
theorem dX10_sums_6 : decode cX10_sums 6 = .ok (.iload 7, 2) := by decide +kernel
theorem dX10_sums_8 : decode cX10_sums 8 = .ok (.iload 4, 2) := by decide +kernel
theorem dX10_sums_10 : decode cX10_sums 10 = .ok (.if_icmp .ge 28, 3) := by decide +kernel
theorem dX10_sums_13 : decode cX10_sums 13 = .ok (.ldc2_w 274, 3) := by decide +kernel
theorem dX10_sums_16 : decode cX10_sums 16 = .ok (.lload 5, 2) := by decide +kernel
theorem dX10_sums_18 : decode cX10_sums 18 = .ok (.lmul, 1) := by decide +kernel
theorem dX10_sums_19 : decode cX10_sums 19 = .ok (.aload_n 0, 1) := by decide +kernel
theorem dX10_sums_20 : decode cX10_sums 20 = .ok (.getfield 7, 3) := by decide +kernel
theorem dX10_sums_23 : decode cX10_sums 23 = .ok (.iload_n 3, 1) := by decide +kernel
theorem dX10_sums_24 : decode cX10_sums 24 = .ok (.iload 7, 2) := by decide +kernel
theorem dX10_sums_26 : decode cX10_sums 26 = .ok (.iadd, 1) := by decide +kernel
theorem dX10_sums_27 : decode cX10_sums 27 = .ok (.iaload, 1) := by decide +kernel
theorem dX10_sums_28 : decode cX10_sums 28 = .ok (.i2l, 1) := by decide +kernel
theorem dX10_sums_29 : decode cX10_sums 29 = .ok (.ladd, 1) := by decide +kernel
theorem dX10_sums_30 : decode cX10_sums 30 = .ok (.lstore 5, 2) := by decide +kernel
theorem dX10_sums_32 : decode cX10_sums 32 = .ok (.iinc 7 1, 3) := by decide +kernel
theorem dX10_sums_35 : decode cX10_sums 35 = .ok (.goto (-29), 3) := by decide +kernel
theorem dX10_sums_38 : decode cX10_sums 38 = .ok (.lload 5, 2) := by decide +kernel
theorem dX10_sums_40 : decode cX10_sums 40 = .ok (.lreturn, 1) := by decide +kernel
theorem dX10_digest_0 : decode cX10_digest 0 = .ok (.ldc2_w 276, 3) := by decide +kernel
theorem dX10_digest_3 : decode cX10_digest 3 = .ok (.lstore_n 1, 1) := by decide +kernel
theorem dX10_digest_4 : decode cX10_digest 4 = .ok (.iconst 0, 1) := by decide +kernel
theorem dX10_digest_5 : decode cX10_digest 5 = .ok (.istore_n 3, 1) := by decide +kernel
theorem dX10_digest_6 : decode cX10_digest 6 = .ok (.iload_n 3, 1) := by decide +kernel
theorem dX10_digest_7 : decode cX10_digest 7 = .ok (.bipush 7, 2) := by decide +kernel
theorem dX10_digest_9 : decode cX10_digest 9 = .ok (.if_icmp .ge 22, 3) := by decide +kernel
theorem dX10_digest_12 : decode cX10_digest 12 = .ok (.ldc2_w 274, 3) := by decide +kernel
theorem dX10_digest_15 : decode cX10_digest 15 = .ok (.lload_n 1, 1) := by decide +kernel
theorem dX10_digest_16 : decode cX10_digest 16 = .ok (.lmul, 1) := by decide +kernel
theorem dX10_digest_17 : decode cX10_digest 17 = .ok (.aload_n 0, 1) := by decide +kernel
theorem dX10_digest_18 : decode cX10_digest 18 = .ok (.iload_n 3, 1) := by decide +kernel
theorem dX10_digest_19 : decode cX10_digest 19 = .ok (.invokevirtual 271, 3) := by decide +kernel
theorem dX10_digest_22 : decode cX10_digest 22 = .ok (.i2l, 1) := by decide +kernel
theorem dX10_digest_23 : decode cX10_digest 23 = .ok (.ladd, 1) := by decide +kernel
theorem dX10_digest_24 : decode cX10_digest 24 = .ok (.lstore_n 1, 1) := by decide +kernel
theorem dX10_digest_25 : decode cX10_digest 25 = .ok (.iinc 3 1, 3) := by decide +kernel
theorem dX10_digest_28 : decode cX10_digest 28 = .ok (.goto (-22), 3) := by decide +kernel
theorem dX10_digest_31 : decode cX10_digest 31 = .ok (.aload_n 0, 1) := by decide +kernel
theorem dX10_digest_32 : decode cX10_digest 32 = .ok (.lload_n 1, 1) := by decide +kernel
theorem dX10_digest_33 : decode cX10_digest 33 = .ok (.bipush 18, 2) := by decide +kernel
theorem dX10_digest_35 : decode cX10_digest 35 = .ok (.bipush 6, 2) := by decide +kernel
theorem dX10_digest_37 : decode cX10_digest 37 = .ok (.invokevirtual 278, 3) := by decide +kernel
theorem dX10_digest_40 : decode cX10_digest 40 = .ok (.lstore_n 1, 1) := by decide +kernel
theorem dX10_digest_41 : decode cX10_digest 41 = .ok (.iconst 0, 1) := by decide +kernel
theorem dX10_digest_42 : decode cX10_digest 42 = .ok (.istore_n 3, 1) := by decide +kernel
theorem dX10_digest_43 : decode cX10_digest 43 = .ok (.iload_n 3, 1) := by decide +kernel
theorem dX10_digest_44 : decode cX10_digest 44 = .ok (.aload_n 0, 1) := by decide +kernel
theorem dX10_digest_45 : decode cX10_digest 45 = .ok (.invokevirtual 61, 3) := by decide +kernel
theorem dX10_digest_48 : decode cX10_digest 48 = .ok (.if_icmp .ge 85, 3) := by decide +kernel
theorem dX10_digest_51 : decode cX10_digest 51 = .ok (.ldc2_w 274, 3) := by decide +kernel
theorem dX10_digest_54 : decode cX10_digest 54 = .ok (.ldc2_w 274, 3) := by decide +kernel
theorem dX10_digest_57 : decode cX10_digest 57 = .ok (.ldc2_w 274, 3) := by decide +kernel
theorem dX10_digest_60 : decode cX10_digest 60 = .ok (.lload_n 1, 1) := by decide +kernel
theorem dX10_digest_61 : decode cX10_digest 61 = .ok (.lmul, 1) := by decide +kernel
theorem dX10_digest_62 : decode cX10_digest 62 = .ok (.aload_n 0, 1) := by decide +kernel
theorem dX10_digest_63 : decode cX10_digest 63 = .ok (.iload_n 3, 1) := by decide +kernel
theorem dX10_digest_64 : decode cX10_digest 64 = .ok (.invokevirtual 96, 3) := by decide +kernel
theorem dX10_digest_67 : decode cX10_digest 67 = .ok (.i2l, 1) := by decide +kernel
theorem dX10_digest_68 : decode cX10_digest 68 = .ok (.ladd, 1) := by decide +kernel
theorem dX10_digest_69 : decode cX10_digest 69 = .ok (.lmul, 1) := by decide +kernel
theorem dX10_digest_70 : decode cX10_digest 70 = .ok (.aload_n 0, 1) := by decide +kernel
theorem dX10_digest_71 : decode cX10_digest 71 = .ok (.getfield 7, 3) := by decide +kernel
theorem dX10_digest_74 : decode cX10_digest 74 = .ok (.iconst 4, 1) := by decide +kernel
theorem dX10_digest_75 : decode cX10_digest 75 = .ok (.iload_n 3, 1) := by decide +kernel
theorem dX10_digest_76 : decode cX10_digest 76 = .ok (.iadd, 1) := by decide +kernel
theorem dX10_digest_77 : decode cX10_digest 77 = .ok (.iaload, 1) := by decide +kernel
theorem dX10_digest_78 : decode cX10_digest 78 = .ok (.i2l, 1) := by decide +kernel
theorem dX10_digest_79 : decode cX10_digest 79 = .ok (.ladd, 1) := by decide +kernel
theorem dX10_digest_80 : decode cX10_digest 80 = .ok (.lmul, 1) := by decide +kernel
theorem dX10_digest_81 : decode cX10_digest 81 = .ok (.aload_n 0, 1) := by decide +kernel
theorem dX10_digest_82 : decode cX10_digest 82 = .ok (.getfield 7, 3) := by decide +kernel
theorem dX10_digest_85 : decode cX10_digest 85 = .ok (.bipush 30, 2) := by decide +kernel
theorem dX10_digest_87 : decode cX10_digest 87 = .ok (.iload_n 3, 1) := by decide +kernel
theorem dX10_digest_88 : decode cX10_digest 88 = .ok (.iadd, 1) := by decide +kernel
theorem dX10_digest_89 : decode cX10_digest 89 = .ok (.iaload, 1) := by decide +kernel
theorem dX10_digest_90 : decode cX10_digest 90 = .ok (.i2l, 1) := by decide +kernel
theorem dX10_digest_91 : decode cX10_digest 91 = .ok (.ladd, 1) := by decide +kernel
theorem dX10_digest_92 : decode cX10_digest 92 = .ok (.lstore_n 1, 1) := by decide +kernel
theorem dX10_digest_93 : decode cX10_digest 93 = .ok (.ldc2_w 274, 3) := by decide +kernel
theorem dX10_digest_96 : decode cX10_digest 96 = .ok (.ldc2_w 274, 3) := by decide +kernel
theorem dX10_digest_99 : decode cX10_digest 99 = .ok (.lload_n 1, 1) := by decide +kernel
theorem dX10_digest_100 : decode cX10_digest 100 = .ok (.lmul, 1) := by decide +kernel
theorem dX10_digest_101 : decode cX10_digest 101 = .ok (.aload_n 0, 1) := by decide +kernel
theorem dX10_digest_102 : decode cX10_digest 102 = .ok (.getfield 7, 3) := by decide +kernel
theorem dX10_digest_105 : decode cX10_digest 105 = .ok (.bipush 11, 2) := by decide +kernel
theorem dX10_digest_107 : decode cX10_digest 107 = .ok (.iload_n 3, 1) := by decide +kernel
theorem dX10_digest_108 : decode cX10_digest 108 = .ok (.iadd, 1) := by decide +kernel
theorem dX10_digest_109 : decode cX10_digest 109 = .ok (.iaload, 1) := by decide +kernel
theorem dX10_digest_110 : decode cX10_digest 110 = .ok (.i2l, 1) := by decide +kernel
theorem dX10_digest_111 : decode cX10_digest 111 = .ok (.ladd, 1) := by decide +kernel
theorem dX10_digest_112 : decode cX10_digest 112 = .ok (.lmul, 1) := by decide +kernel
theorem dX10_digest_113 : decode cX10_digest 113 = .ok (.aload_n 0, 1) := by decide +kernel
theorem dX10_digest_114 : decode cX10_digest 114 = .ok (.getfield 7, 3) := by decide +kernel
theorem dX10_digest_117 : decode cX10_digest 117 = .ok (.bipush 10, 2) := by decide +kernel
theorem dX10_digest_119 : decode cX10_digest 119 = .ok (.iaload, 1) := by decide +kernel
theorem dX10_digest_120 : decode cX10_digest 120 = .ok (.iload_n 3, 1) := by decide +kernel
theorem dX10_digest_121 : decode cX10_digest 121 = .ok (.ishr, 1) := by decide +kernel
theorem dX10_digest_122 : decode cX10_digest 122 = .ok (.iconst 1, 1) := by decide +kernel
theorem dX10_digest_123 : decode cX10_digest 123 = .ok (.iand, 1) := by decide +kernel
theorem dX10_digest_124 : decode cX10_digest 124 = .ok (.i2l, 1) := by decide +kernel
theorem dX10_digest_125 : decode cX10_digest 125 = .ok (.ladd, 1) := by decide +kernel
theorem dX10_digest_126 : decode cX10_digest 126 = .ok (.lstore_n 1, 1) := by decide +kernel
theorem dX10_digest_127 : decode cX10_digest 127 = .ok (.iinc 3 1, 3) := by decide +kernel
theorem dX10_digest_130 : decode cX10_digest 130 = .ok (.goto (-87), 3) := by decide +kernel
theorem dX10_digest_133 : decode cX10_digest 133 = .ok (.aload_n 0, 1) := by decide +kernel
theorem dX10_digest_134 : decode cX10_digest 134 = .ok (.lload_n 1, 1) := by decide +kernel
theorem dX10_digest_135 : decode cX10_digest 135 = .ok (.bipush 36, 2) := by decide +kernel
theorem dX10_digest_137 : decode cX10_digest 137 = .ok (.iconst 5, 1) := by decide +kernel
theorem dX10_digest_138 : decode cX10_digest 138 = .ok (.aload_n 0, 1) := by decide +kernel
theorem dX10_digest_139 : decode cX10_digest 139 = .ok (.getfield 7, 3) := by decide +kernel
theorem dX10_digest_142 : decode cX10_digest 142 = .ok (.iconst 1, 1) := by decide +kernel
theorem dX10_digest_143 : decode cX10_digest 143 = .ok (.iaload, 1) := by decide +kernel
theorem dX10_digest_144 : decode cX10_digest 144 = .ok (.imul, 1) := by decide +kernel
theorem dX10_digest_145 : decode cX10_digest 145 = .ok (.invokevirtual 278, 3) := by decide +kernel
theorem dX10_digest_148 : decode cX10_digest 148 = .ok (.lstore_n 1, 1) := by decide +kernel
theorem dX10_digest_149 : decode cX10_digest 149 = .ok (.aload_n 0, 1) := by decide +kernel
theorem dX10_digest_150 : decode cX10_digest 150 = .ok (.lload_n 1, 1) := by decide +kernel
theorem dX10_digest_151 : decode cX10_digest 151 = .ok (.bipush 66, 2) := by decide +kernel
theorem dX10_digest_153 : decode cX10_digest 153 = .ok (.iconst 2, 1) := by decide +kernel
theorem dX10_digest_154 : decode cX10_digest 154 = .ok (.aload_n 0, 1) := by decide +kernel
theorem dX10_digest_155 : decode cX10_digest 155 = .ok (.getfield 7, 3) := by decide +kernel
theorem dX10_digest_158 : decode cX10_digest 158 = .ok (.iconst 2, 1) := by decide +kernel
theorem dX10_digest_159 : decode cX10_digest 159 = .ok (.iaload, 1) := by decide +kernel
theorem dX10_digest_160 : decode cX10_digest 160 = .ok (.imul, 1) := by decide +kernel
theorem dX10_digest_161 : decode cX10_digest 161 = .ok (.invokevirtual 278, 3) := by decide +kernel
theorem dX10_digest_164 : decode cX10_digest 164 = .ok (.lstore_n 1, 1) := by decide +kernel
theorem dX10_digest_165 : decode cX10_digest 165 = .ok (.ldc2_w 274, 3) := by decide +kernel
theorem dX10_digest_168 : decode cX10_digest 168 = .ok (.ldc2_w 274, 3) := by decide +kernel
theorem dX10_digest_171 : decode cX10_digest 171 = .ok (.lload_n 1, 1) := by decide +kernel
theorem dX10_digest_172 : decode cX10_digest 172 = .ok (.lmul, 1) := by decide +kernel
theorem dX10_digest_173 : decode cX10_digest 173 = .ok (.aload_n 0, 1) := by decide +kernel
theorem dX10_digest_174 : decode cX10_digest 174 = .ok (.getfield 190, 3) := by decide +kernel
theorem dX10_digest_177 : decode cX10_digest 177 = .ok (.ladd, 1) := by decide +kernel
theorem dX10_digest_178 : decode cX10_digest 178 = .ok (.lmul, 1) := by decide +kernel
theorem dX10_digest_179 : decode cX10_digest 179 = .ok (.aload_n 0, 1) := by decide +kernel
theorem dX10_digest_180 : decode cX10_digest 180 = .ok (.getfield 23, 3) := by decide +kernel
theorem dX10_digest_183 : decode cX10_digest 183 = .ok (.ladd, 1) := by decide +kernel
theorem dX10_digest_184 : decode cX10_digest 184 = .ok (.lreturn, 1) := by decide +kernel
