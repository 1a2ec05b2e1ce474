theorem dX0_init_0 : decode cX0_init 0 = .ok (.aload_n 0, 1) := by decide +kernel
theorem dX0_init_1 : decode cX0_init 1 = .ok (.invokespecial 3, 3) := by decide +kernel
theorem dX0_init_4 : decode cX0_init 4 = .ok (.aload_n 0, 1) := by decide +kernel
theorem dX0_init_5 : decode cX0_init 5 = .ok (.sipush 792, 3) := by decide +kernel
theorem dX0_init_8 : decode cX0_init 8 = .ok (.newarray .int, 2) := by decide +kernel
theorem dX0_init_10 : decode cX0_init 10 = .ok (.putfield 11, 3) := by decide +kernel
theorem dX0_init_13 : decode cX0_init 13 = .ok (.return_, 1) := by decide +kernel
theorem dX0_keep_0 : decode cX0_keep 0 = .ok (.aload_n 1, 1) := by decide +kernel
theorem dX0_keep_1 : decode cX0_keep 1 = .ok (.aload_n 0, 1) := by decide +kernel
theorem dX0_keep_2 : decode cX0_keep 2 = .ok (.getfield 11, 3) := by decide +kernel
theorem dX0_keep_5 : decode cX0_keep 5 = .ok (.aload_n 0, 1) := by decide +kernel
theorem dX0_keep_6 : decode cX0_keep 6 = .ok (.getfield 17, 3) := by decide +kernel
theorem dX0_keep_9 : decode cX0_keep 9 = .ok (.aload_n 0, 1) := by decide +kernel
theorem dX0_keep_10 : decode cX0_keep 10 = .ok (.getfield 21, 3) := by decide +kernel
theorem dX0_keep_13 : decode cX0_keep 13 = .ok (.iadd, 1) := by decide +kernel
theorem dX0_keep_14 : decode cX0_keep 14 = .ok (.bipush 24, 2) := by decide +kernel
theorem dX0_keep_16 : decode cX0_keep 16 = .ok (.irem, 1) := by decide +kernel
theorem dX0_keep_17 : decode cX0_keep 17 = .ok (.bipush 33, 2) := by decide +kernel
theorem dX0_keep_19 : decode cX0_keep 19 = .ok (.imul, 1) := by decide +kernel
theorem dX0_keep_20 : decode cX0_keep 20 = .ok (.invokevirtual 24, 3) := by decide +kernel
theorem dX0_keep_23 : decode cX0_keep 23 = .ok (.aload_n 0, 1) := by decide +kernel
theorem dX0_keep_24 : decode cX0_keep 24 = .ok (.getfield 21, 3) := by decide +kernel
theorem dX0_keep_27 : decode cX0_keep 27 = .ok (.bipush 24, 2) := by decide +kernel
theorem dX0_keep_29 : decode cX0_keep 29 = .ok (.if_icmp .ge 16, 3) := by decide +kernel
theorem dX0_keep_32 : decode cX0_keep 32 = .ok (.aload_n 0, 1) := by decide +kernel
theorem dX0_keep_33 : decode cX0_keep 33 = .ok (.dup, 1) := by decide +kernel
theorem dX0_keep_34 : decode cX0_keep 34 = .ok (.getfield 21, 3) := by decide +kernel
theorem dX0_keep_37 : decode cX0_keep 37 = .ok (.iconst 1, 1) := by decide +kernel
theorem dX0_keep_38 : decode cX0_keep 38 = .ok (.iadd, 1) := by decide +kernel
theorem dX0_keep_39 : decode cX0_keep 39 = .ok (.putfield 21, 3) := by decide +kernel
theorem dX0_keep_42 : decode cX0_keep 42 = .ok (.goto 16, 3) := by decide +kernel
theorem dX0_keep_45 : decode cX0_keep 45 = .ok (.aload_n 0, 1) := by decide +kernel
theorem dX0_keep_46 : decode cX0_keep 46 = .ok (.aload_n 0, 1) := by decide +kernel
theorem dX0_keep_47 : decode cX0_keep 47 = .ok (.getfield 17, 3) := by decide +kernel
theorem dX0_keep_50 : decode cX0_keep 50 = .ok (.iconst 1, 1) := by decide +kernel
theorem dX0_keep_51 : decode cX0_keep 51 = .ok (.iadd, 1) := by decide +kernel
theorem dX0_keep_52 : decode cX0_keep 52 = .ok (.bipush 24, 2) := by decide +kernel
theorem dX0_keep_54 : decode cX0_keep 54 = .ok (.irem, 1) := by decide +kernel
theorem dX0_keep_55 : decode cX0_keep 55 = .ok (.putfield 17, 3) := by decide +kernel
theorem dX0_keep_58 : decode cX0_keep 58 = .ok (.return_, 1) := by decide +kernel
theorem dX0_takeBack_0 : decode cX0_takeBack 0 = .ok (.aload_n 0, 1) := by decide +kernel
theorem dX0_takeBack_1 : decode cX0_takeBack 1 = .ok (.getfield 21, 3) := by decide +kernel
theorem dX0_takeBack_4 : decode cX0_takeBack 4 = .ok (.ifCond .gt 5, 3) := by decide +kernel
theorem dX0_takeBack_7 : decode cX0_takeBack 7 = .ok (.iconst 0, 1) := by decide +kernel
theorem dX0_takeBack_8 : decode cX0_takeBack 8 = .ok (.ireturn, 1) := by decide +kernel
theorem dX0_takeBack_9 : decode cX0_takeBack 9 = .ok (.aload_n 0, 1) := by decide +kernel
theorem dX0_takeBack_10 : decode cX0_takeBack 10 = .ok (.dup, 1) := by decide +kernel
theorem dX0_takeBack_11 : decode cX0_takeBack 11 = .ok (.getfield 21, 3) := by decide +kernel
theorem dX0_takeBack_14 : decode cX0_takeBack 14 = .ok (.iconst 1, 1) := by decide +kernel
theorem dX0_takeBack_15 : decode cX0_takeBack 15 = .ok (.isub, 1) := by decide +kernel
theorem dX0_takeBack_16 : decode cX0_takeBack 16 = .ok (.putfield 21, 3) := by decide +kernel
theorem dX0_takeBack_19 : decode cX0_takeBack 19 = .ok (.aload_n 1, 1) := by decide +kernel
theorem dX0_takeBack_20 : decode cX0_takeBack 20 = .ok (.aload_n 0, 1) := by decide +kernel
theorem dX0_takeBack_21 : decode cX0_takeBack 21 = .ok (.getfield 11, 3) := by decide +kernel
theorem dX0_takeBack_24 : decode cX0_takeBack 24 = .ok (.aload_n 0, 1) := by decide +kernel
theorem dX0_takeBack_25 : decode cX0_takeBack 25 = .ok (.getfield 17, 3) := by decide +kernel
theorem dX0_takeBack_28 : decode cX0_takeBack 28 = .ok (.aload_n 0, 1) := by decide +kernel
theorem dX0_takeBack_29 : decode cX0_takeBack 29 = .ok (.getfield 21, 3) := by decide +kernel
theorem dX0_takeBack_32 : decode cX0_takeBack 32 = .ok (.iadd, 1) := by decide +kernel
theorem dX0_takeBack_33 : decode cX0_takeBack 33 = .ok (.bipush 24, 2) := by decide +kernel
theorem dX0_takeBack_35 : decode cX0_takeBack 35 = .ok (.irem, 1) := by decide +kernel
theorem dX0_takeBack_36 : decode cX0_takeBack 36 = .ok (.bipush 33, 2) := by decide +kernel
theorem dX0_takeBack_38 : decode cX0_takeBack 38 = .ok (.imul, 1) := by decide +kernel
theorem dX0_takeBack_39 : decode cX0_takeBack 39 = .ok (.invokevirtual 28, 3) := by decide +kernel
theorem dX0_takeBack_42 : decode cX0_takeBack 42 = .ok (.iconst 1, 1) := by decide +kernel
theorem dX0_takeBack_43 : decode cX0_takeBack 43 = .ok (.ireturn, 1) := by decide +kernel
theorem dX0_forget_0 : decode cX0_forget 0 = .ok (.aload_n 0, 1) := by decide +kernel
theorem dX0_forget_1 : decode cX0_forget 1 = .ok (.iconst 0, 1) := by decide +kernel
theorem dX0_forget_2 : decode cX0_forget 2 = .ok (.putfield 21, 3) := by decide +kernel
theorem dX0_forget_5 : decode cX0_forget 5 = .ok (.return_, 1) := by decide +kernel
theorem dX1_init_0 : decode cX1_init 0 = .ok (.aload_n 0, 1) := by decide +kernel
theorem dX1_init_1 : decode cX1_init 1 = .ok (.invokespecial 3, 3) := by decide +kernel
theorem dX1_init_4 : decode cX1_init 4 = .ok (.aload_n 0, 1) := by decide +kernel
theorem dX1_init_5 : decode cX1_init 5 = .ok (.bipush 16, 2) := by decide +kernel
theorem dX1_init_7 : decode cX1_init 7 = .ok (.newarray .int, 2) := by decide +kernel
theorem dX1_init_9 : decode cX1_init 9 = .ok (.putfield 9, 3) := by decide +kernel
theorem dX1_init_12 : decode cX1_init 12 = .ok (.return_, 1) := by decide +kernel
theorem dX1_answer_0 : decode cX1_answer 0 = .ok (.aload_n 0, 1) := by decide +kernel
theorem dX1_answer_1 : decode cX1_answer 1 = .ok (.iconst 0, 1) := by decide +kernel
theorem dX1_answer_2 : decode cX1_answer 2 = .ok (.putfield 15, 3) := by decide +kernel
theorem dX1_answer_5 : decode cX1_answer 5 = .ok (.aload_n 0, 1) := by decide +kernel
theorem dX1_answer_6 : decode cX1_answer 6 = .ok (.iload_n 2, 1) := by decide +kernel
theorem dX1_answer_7 : decode cX1_answer 7 = .ok (.putfield 19, 3) := by decide +kernel
theorem dX1_answer_10 : decode cX1_answer 10 = .ok (.aload_n 0, 1) := by decide +kernel
theorem dX1_answer_11 : decode cX1_answer 11 = .ok (.aload_n 1, 1) := by decide +kernel
theorem dX1_answer_12 : decode cX1_answer 12 = .ok (.getfield 22, 3) := by decide +kernel
theorem dX1_answer_15 : decode cX1_answer 15 = .ok (.iload_n 2, 1) := by decide +kernel
theorem dX1_answer_16 : decode cX1_answer 16 = .ok (.iaload, 1) := by decide +kernel
theorem dX1_answer_17 : decode cX1_answer 17 = .ok (.putfield 27, 3) := by decide +kernel
theorem dX1_answer_20 : decode cX1_answer 20 = .ok (.aload_n 0, 1) := by decide +kernel
theorem dX1_answer_21 : decode cX1_answer 21 = .ok (.aload_n 1, 1) := by decide +kernel
theorem dX1_answer_22 : decode cX1_answer 22 = .ok (.getfield 30, 3) := by decide +kernel
theorem dX1_answer_25 : decode cX1_answer 25 = .ok (.iload_n 2, 1) := by decide +kernel
theorem dX1_answer_26 : decode cX1_answer 26 = .ok (.iaload, 1) := by decide +kernel
theorem dX1_answer_27 : decode cX1_answer 27 = .ok (.putfield 33, 3) := by decide +kernel
theorem dX1_answer_30 : decode cX1_answer 30 = .ok (.aload_n 0, 1) := by decide +kernel
theorem dX1_answer_31 : decode cX1_answer 31 = .ok (.aload_n 1, 1) := by decide +kernel
theorem dX1_answer_32 : decode cX1_answer 32 = .ok (.getfield 36, 3) := by decide +kernel
theorem dX1_answer_35 : decode cX1_answer 35 = .ok (.iload_n 2, 1) := by decide +kernel
theorem dX1_answer_36 : decode cX1_answer 36 = .ok (.iaload, 1) := by decide +kernel
theorem dX1_answer_37 : decode cX1_answer 37 = .ok (.putfield 39, 3) := by decide +kernel
theorem dX1_answer_40 : decode cX1_answer 40 = .ok (.aload_n 0, 1) := by decide +kernel
theorem dX1_answer_41 : decode cX1_answer 41 = .ok (.iload_n 3, 1) := by decide +kernel
theorem dX1_answer_42 : decode cX1_answer 42 = .ok (.ifCond .ne 10, 3) := by decide +kernel
theorem dX1_answer_45 : decode cX1_answer 45 = .ok (.aload_n 0, 1) := by decide +kernel
theorem dX1_answer_46 : decode cX1_answer 46 = .ok (.invokevirtual 42, 3) := by decide +kernel
theorem dX1_answer_49 : decode cX1_answer 49 = .ok (.goto 7, 3) := by decide +kernel
theorem dX1_answer_52 : decode cX1_answer 52 = .ok (.aload_n 0, 1) := by decide +kernel
theorem dX1_answer_53 : decode cX1_answer 53 = .ok (.invokevirtual 46, 3) := by decide +kernel
theorem dX1_answer_56 : decode cX1_answer 56 = .ok (.iconst 0, 1) := by decide +kernel
theorem dX1_answer_57 : decode cX1_answer 57 = .ok (.invokevirtual 49, 3) := by decide +kernel
theorem dX1_answer_60 : decode cX1_answer 60 = .ok (.ireturn, 1) := by decide +kernel
theorem dX1_sizeBody_0 : decode cX1_sizeBody 0 = .ok (.aload_n 0, 1) := by decide +kernel
theorem dX1_sizeBody_1 : decode cX1_sizeBody 1 = .ok (.getfield 27, 3) := by decide +kernel
theorem dX1_sizeBody_4 : decode cX1_sizeBody 4 = .ok (.iconst 0, 1) := by decide +kernel
theorem dX1_sizeBody_5 : decode cX1_sizeBody 5 = .ok (.iconst 5, 1) := by decide +kernel
theorem dX1_sizeBody_6 : decode cX1_sizeBody 6 = .ok (.invokestatic 53, 3) := by decide +kernel
theorem dX1_sizeBody_9 : decode cX1_sizeBody 9 = .ok (.ifCond .eq 14, 3) := by decide +kernel
theorem dX1_sizeBody_12 : decode cX1_sizeBody 12 = .ok (.getstatic 57, 3) := by decide +kernel
theorem dX1_sizeBody_15 : decode cX1_sizeBody 15 = .ok (.aload_n 0, 1) := by decide +kernel
theorem dX1_sizeBody_16 : decode cX1_sizeBody 16 = .ok (.getfield 27, 3) := by decide +kernel
theorem dX1_sizeBody_19 : decode cX1_sizeBody 19 = .ok (.iaload, 1) := by decide +kernel
theorem dX1_sizeBody_20 : decode cX1_sizeBody 20 = .ok (.goto 5, 3) := by decide +kernel
theorem dX1_sizeBody_23 : decode cX1_sizeBody 23 = .ok (.bipush 10, 2) := by decide +kernel
theorem dX1_sizeBody_25 : decode cX1_sizeBody 25 = .ok (.ireturn, 1) := by decide +kernel
theorem dX1_markBody_0 : decode cX1_markBody 0 = .ok (.aload_n 0, 1) := by decide +kernel
theorem dX1_markBody_1 : decode cX1_markBody 1 = .ok (.getfield 27, 3) := by decide +kernel
theorem dX1_markBody_4 : decode cX1_markBody 4 = .ok (.iconst 0, 1) := by decide +kernel
theorem dX1_markBody_5 : decode cX1_markBody 5 = .ok (.iconst 5, 1) := by decide +kernel
theorem dX1_markBody_6 : decode cX1_markBody 6 = .ok (.invokestatic 53, 3) := by decide +kernel
theorem dX1_markBody_9 : decode cX1_markBody 9 = .ok (.ifCond .eq 14, 3) := by decide +kernel
theorem dX1_markBody_12 : decode cX1_markBody 12 = .ok (.getstatic 60, 3) := by decide +kernel
theorem dX1_markBody_15 : decode cX1_markBody 15 = .ok (.aload_n 0, 1) := by decide +kernel
theorem dX1_markBody_16 : decode cX1_markBody 16 = .ok (.getfield 27, 3) := by decide +kernel
theorem dX1_markBody_19 : decode cX1_markBody 19 = .ok (.iaload, 1) := by decide +kernel
theorem dX1_markBody_20 : decode cX1_markBody 20 = .ok (.goto 5, 3) := by decide +kernel
theorem dX1_markBody_23 : decode cX1_markBody 23 = .ok (.bipush 20, 2) := by decide +kernel
theorem dX1_markBody_25 : decode cX1_markBody 25 = .ok (.ireturn, 1) := by decide +kernel
theorem dX1_run_0 : decode cX1_run 0 = .ok (.iload_n 2, 1) := by decide +kernel
theorem dX1_run_1 : decode cX1_run 1 = .ok (.bipush 16, 2) := by decide +kernel
theorem dX1_run_3 : decode cX1_run 3 = .ok (.if_icmp .lt 5, 3) := by decide +kernel
theorem dX1_run_6 : decode cX1_run 6 = .ok (.iconst 0, 1) := by decide +kernel
theorem dX1_run_7 : decode cX1_run 7 = .ok (.ireturn, 1) := by decide +kernel
theorem dX1_run_8 : decode cX1_run 8 = .ok (.aload_n 0, 1) := by decide +kernel
theorem dX1_run_9 : decode cX1_run 9 = .ok (.iload_n 1, 1) := by decide +kernel
theorem dX1_run_10 : decode cX1_run 10 = .ok (.invokevirtual 63, 3) := by decide +kernel
theorem dX1_run_13 : decode cX1_run 13 = .ok (.iload_n 1, 1) := by decide +kernel
theorem dX1_run_14 : decode cX1_run 14 = .ok (.tableswitch 205 10 24 #[74, 79, 101, 112, 125, 205, 205, 205, 205, 205, 137, 142, 157, 171, 193], 74) := by decide +kernel
theorem dX1_run_88 : decode cX1_run 88 = .ok (.aload_n 0, 1) := by decide +kernel
theorem dX1_run_89 : decode cX1_run 89 = .ok (.getfield 33, 3) := by decide +kernel
theorem dX1_run_92 : decode cX1_run 92 = .ok (.ireturn, 1) := by decide +kernel
theorem dX1_run_93 : decode cX1_run 93 = .ok (.aload_n 0, 1) := by decide +kernel
theorem dX1_run_94 : decode cX1_run 94 = .ok (.bipush 10, 2) := by decide +kernel
theorem dX1_run_96 : decode cX1_run 96 = .ok (.iload_n 2, 1) := by decide +kernel
theorem dX1_run_97 : decode cX1_run 97 = .ok (.iconst 1, 1) := by decide +kernel
theorem dX1_run_98 : decode cX1_run 98 = .ok (.iadd, 1) := by decide +kernel
theorem dX1_run_99 : decode cX1_run 99 = .ok (.invokevirtual 49, 3) := by decide +kernel
theorem dX1_run_102 : decode cX1_run 102 = .ok (.aload_n 0, 1) := by decide +kernel
theorem dX1_run_103 : decode cX1_run 103 = .ok (.aload_n 0, 1) := by decide +kernel
theorem dX1_run_104 : decode cX1_run 104 = .ok (.invokevirtual 46, 3) := by decide +kernel
theorem dX1_run_107 : decode cX1_run 107 = .ok (.iload_n 2, 1) := by decide +kernel
theorem dX1_run_108 : decode cX1_run 108 = .ok (.iconst 1, 1) := by decide +kernel
theorem dX1_run_109 : decode cX1_run 109 = .ok (.iadd, 1) := by decide +kernel
theorem dX1_run_110 : decode cX1_run 110 = .ok (.invokevirtual 49, 3) := by decide +kernel
theorem dX1_run_113 : decode cX1_run 113 = .ok (.iadd, 1) := by decide +kernel
theorem dX1_run_114 : decode cX1_run 114 = .ok (.ireturn, 1) := by decide +kernel
theorem dX1_run_115 : decode cX1_run 115 = .ok (.aload_n 0, 1) := by decide +kernel
theorem dX1_run_116 : decode cX1_run 116 = .ok (.bipush 11, 2) := by decide +kernel
theorem dX1_run_118 : decode cX1_run 118 = .ok (.iload_n 2, 1) := by decide +kernel
theorem dX1_run_119 : decode cX1_run 119 = .ok (.iconst 1, 1) := by decide +kernel
theorem dX1_run_120 : decode cX1_run 120 = .ok (.iadd, 1) := by decide +kernel
theorem dX1_run_121 : decode cX1_run 121 = .ok (.invokevirtual 49, 3) := by decide +kernel
theorem dX1_run_124 : decode cX1_run 124 = .ok (.ineg, 1) := by decide +kernel
theorem dX1_run_125 : decode cX1_run 125 = .ok (.ireturn, 1) := by decide +kernel
theorem dX1_run_126 : decode cX1_run 126 = .ok (.aload_n 0, 1) := by decide +kernel
theorem dX1_run_127 : decode cX1_run 127 = .ok (.bipush 10, 2) := by decide +kernel
theorem dX1_run_129 : decode cX1_run 129 = .ok (.iload_n 2, 1) := by decide +kernel
theorem dX1_run_130 : decode cX1_run 130 = .ok (.iconst 1, 1) := by decide +kernel
theorem dX1_run_131 : decode cX1_run 131 = .ok (.iadd, 1) := by decide +kernel
theorem dX1_run_132 : decode cX1_run 132 = .ok (.invokevirtual 49, 3) := by decide +kernel
theorem dX1_run_135 : decode cX1_run 135 = .ok (.bipush 100, 2) := by decide +kernel
theorem dX1_run_137 : decode cX1_run 137 = .ok (.isub, 1) := by decide +kernel
theorem dX1_run_138 : decode cX1_run 138 = .ok (.ireturn, 1) := by decide +kernel
theorem dX1_run_139 : decode cX1_run 139 = .ok (.iconst 2, 1) := by decide +kernel
theorem dX1_run_140 : decode cX1_run 140 = .ok (.aload_n 0, 1) := by decide +kernel
theorem dX1_run_141 : decode cX1_run 141 = .ok (.bipush 13, 2) := by decide +kernel
theorem dX1_run_143 : decode cX1_run 143 = .ok (.iload_n 2, 1) := by decide +kernel
theorem dX1_run_144 : decode cX1_run 144 = .ok (.iconst 1, 1) := by decide +kernel
theorem dX1_run_145 : decode cX1_run 145 = .ok (.iadd, 1) := by decide +kernel
theorem dX1_run_146 : decode cX1_run 146 = .ok (.invokevirtual 49, 3) := by decide +kernel
theorem dX1_run_149 : decode cX1_run 149 = .ok (.imul, 1) := by decide +kernel
theorem dX1_run_150 : decode cX1_run 150 = .ok (.ireturn, 1) := by decide +kernel
theorem dX1_run_151 : decode cX1_run 151 = .ok (.aload_n 0, 1) := by decide +kernel
theorem dX1_run_152 : decode cX1_run 152 = .ok (.getfield 19, 3) := by decide +kernel
theorem dX1_run_155 : decode cX1_run 155 = .ok (.ireturn, 1) := by decide +kernel
theorem dX1_run_156 : decode cX1_run 156 = .ok (.aload_n 0, 1) := by decide +kernel
theorem dX1_run_157 : decode cX1_run 157 = .ok (.bipush 20, 2) := by decide +kernel
theorem dX1_run_159 : decode cX1_run 159 = .ok (.iload_n 2, 1) := by decide +kernel
theorem dX1_run_160 : decode cX1_run 160 = .ok (.iconst 1, 1) := by decide +kernel
theorem dX1_run_161 : decode cX1_run 161 = .ok (.iadd, 1) := by decide +kernel
theorem dX1_run_162 : decode cX1_run 162 = .ok (.invokevirtual 49, 3) := by decide +kernel
theorem dX1_run_165 : decode cX1_run 165 = .ok (.aload_n 0, 1) := by decide +kernel
theorem dX1_run_166 : decode cX1_run 166 = .ok (.getfield 39, 3) := by decide +kernel
theorem dX1_run_169 : decode cX1_run 169 = .ok (.iadd, 1) := by decide +kernel
theorem dX1_run_170 : decode cX1_run 170 = .ok (.ireturn, 1) := by decide +kernel
theorem dX1_run_171 : decode cX1_run 171 = .ok (.aload_n 0, 1) := by decide +kernel
theorem dX1_run_172 : decode cX1_run 172 = .ok (.bipush 21, 2) := by decide +kernel
theorem dX1_run_174 : decode cX1_run 174 = .ok (.iload_n 2, 1) := by decide +kernel
theorem dX1_run_175 : decode cX1_run 175 = .ok (.iconst 1, 1) := by decide +kernel
theorem dX1_run_176 : decode cX1_run 176 = .ok (.iadd, 1) := by decide +kernel
theorem dX1_run_177 : decode cX1_run 177 = .ok (.invokevirtual 49, 3) := by decide +kernel
theorem dX1_run_180 : decode cX1_run 180 = .ok (.sipush 1000, 3) := by decide +kernel
theorem dX1_run_183 : decode cX1_run 183 = .ok (.isub, 1) := by decide +kernel
theorem dX1_run_184 : decode cX1_run 184 = .ok (.ireturn, 1) := by decide +kernel
theorem dX1_run_185 : decode cX1_run 185 = .ok (.aload_n 0, 1) := by decide +kernel
theorem dX1_run_186 : decode cX1_run 186 = .ok (.bipush 20, 2) := by decide +kernel
theorem dX1_run_188 : decode cX1_run 188 = .ok (.iload_n 2, 1) := by decide +kernel
theorem dX1_run_189 : decode cX1_run 189 = .ok (.iconst 1, 1) := by decide +kernel
theorem dX1_run_190 : decode cX1_run 190 = .ok (.iadd, 1) := by decide +kernel
theorem dX1_run_191 : decode cX1_run 191 = .ok (.invokevirtual 49, 3) := by decide +kernel
theorem dX1_run_194 : decode cX1_run 194 = .ok (.aload_n 0, 1) := by decide +kernel
theorem dX1_run_195 : decode cX1_run 195 = .ok (.aload_n 0, 1) := by decide +kernel
theorem dX1_run_196 : decode cX1_run 196 = .ok (.invokevirtual 42, 3) := by decide +kernel
theorem dX1_run_199 : decode cX1_run 199 = .ok (.iload_n 2, 1) := by decide +kernel
theorem dX1_run_200 : decode cX1_run 200 = .ok (.iconst 1, 1) := by decide +kernel
theorem dX1_run_201 : decode cX1_run 201 = .ok (.iadd, 1) := by decide +kernel
theorem dX1_run_202 : decode cX1_run 202 = .ok (.invokevirtual 49, 3) := by decide +kernel
theorem dX1_run_205 : decode cX1_run 205 = .ok (.isub, 1) := by decide +kernel
theorem dX1_run_206 : decode cX1_run 206 = .ok (.ireturn, 1) := by decide +kernel
theorem dX1_run_207 : decode cX1_run 207 = .ok (.iconst 2, 1) := by decide +kernel
theorem dX1_run_208 : decode cX1_run 208 = .ok (.aload_n 0, 1) := by decide +kernel
theorem dX1_run_209 : decode cX1_run 209 = .ok (.bipush 21, 2) := by decide +kernel
theorem dX1_run_211 : decode cX1_run 211 = .ok (.iload_n 2, 1) := by decide +kernel
theorem dX1_run_212 : decode cX1_run 212 = .ok (.iconst 1, 1) := by decide +kernel
theorem dX1_run_213 : decode cX1_run 213 = .ok (.iadd, 1) := by decide +kernel
theorem dX1_run_214 : decode cX1_run 214 = .ok (.invokevirtual 49, 3) := by decide +kernel
theorem dX1_run_217 : decode cX1_run 217 = .ok (.imul, 1) := by decide +kernel
theorem dX1_run_218 : decode cX1_run 218 = .ok (.ireturn, 1) := by decide +kernel
theorem dX1_run_219 : decode cX1_run 219 = .ok (.iconst 0, 1) := by decide +kernel
theorem dX1_run_220 : decode cX1_run 220 = .ok (.ireturn, 1) := by decide +kernel
theorem dX1_leave_0 : decode cX1_leave 0 = .ok (.aload_n 0, 1) := by decide +kernel
theorem dX1_leave_1 : decode cX1_leave 1 = .ok (.getfield 15, 3) := by decide +kernel
theorem dX1_leave_4 : decode cX1_leave 4 = .ok (.bipush 16, 2) := by decide +kernel
theorem dX1_leave_6 : decode cX1_leave 6 = .ok (.if_icmp .ge 23, 3) := by decide +kernel
theorem dX1_leave_9 : decode cX1_leave 9 = .ok (.aload_n 0, 1) := by decide +kernel
theorem dX1_leave_10 : decode cX1_leave 10 = .ok (.getfield 9, 3) := by decide +kernel
theorem dX1_leave_13 : decode cX1_leave 13 = .ok (.aload_n 0, 1) := by decide +kernel
theorem dX1_leave_14 : decode cX1_leave 14 = .ok (.getfield 15, 3) := by decide +kernel
theorem dX1_leave_17 : decode cX1_leave 17 = .ok (.iload_n 1, 1) := by decide +kernel
theorem dX1_leave_18 : decode cX1_leave 18 = .ok (.iastore, 1) := by decide +kernel
theorem dX1_leave_19 : decode cX1_leave 19 = .ok (.aload_n 0, 1) := by decide +kernel
theorem dX1_leave_20 : decode cX1_leave 20 = .ok (.dup, 1) := by decide +kernel
theorem dX1_leave_21 : decode cX1_leave 21 = .ok (.getfield 15, 3) := by decide +kernel
theorem dX1_leave_24 : decode cX1_leave 24 = .ok (.iconst 1, 1) := by decide +kernel
theorem dX1_leave_25 : decode cX1_leave 25 = .ok (.iadd, 1) := by decide +kernel
theorem dX1_leave_26 : decode cX1_leave 26 = .ok (.putfield 15, 3) := by decide +kernel
theorem dX1_leave_29 : decode cX1_leave 29 = .ok (.return_, 1) := by decide +kernel
theorem dX2_init_0 : decode cX2_init 0 = .ok (.aload_n 0, 1) := by decide +kernel
theorem dX2_init_1 : decode cX2_init 1 = .ok (.invokespecial 3, 3) := by decide +kernel
theorem dX2_init_4 : decode cX2_init 4 = .ok (.aload_n 0, 1) := by decide +kernel
theorem dX2_init_5 : decode cX2_init 5 = .ok (.iconst 5, 1) := by decide +kernel
theorem dX2_init_6 : decode cX2_init 6 = .ok (.newarray .int, 2) := by decide +kernel
theorem dX2_init_8 : decode cX2_init 8 = .ok (.putfield 9, 3) := by decide +kernel
theorem dX2_init_11 : decode cX2_init 11 = .ok (.aload_n 0, 1) := by decide +kernel
theorem dX2_init_12 : decode cX2_init 12 = .ok (.iconst 5, 1) := by decide +kernel
theorem dX2_init_13 : decode cX2_init 13 = .ok (.newarray .int, 2) := by decide +kernel
theorem dX2_init_15 : decode cX2_init 15 = .ok (.putfield 15, 3) := by decide +kernel
theorem dX2_init_18 : decode cX2_init 18 = .ok (.aload_n 0, 1) := by decide +kernel
theorem dX2_init_19 : decode cX2_init 19 = .ok (.iconst 5, 1) := by decide +kernel
theorem dX2_init_20 : decode cX2_init 20 = .ok (.newarray .int, 2) := by decide +kernel
theorem dX2_init_22 : decode cX2_init 22 = .ok (.putfield 18, 3) := by decide +kernel
theorem dX2_init_25 : decode cX2_init 25 = .ok (.aload_n 0, 1) := by decide +kernel
theorem dX2_init_26 : decode cX2_init 26 = .ok (.iconst 5, 1) := by decide +kernel
theorem dX2_init_27 : decode cX2_init 27 = .ok (.newarray .int, 2) := by decide +kernel
theorem dX2_init_29 : decode cX2_init 29 = .ok (.putfield 21, 3) := by decide +kernel
theorem dX2_init_32 : decode cX2_init 32 = .ok (.aload_n 0, 1) := by decide +kernel
theorem dX2_init_33 : decode cX2_init 33 = .ok (.bipush 25, 2) := by decide +kernel
theorem dX2_init_35 : decode cX2_init 35 = .ok (.newarray .int, 2) := by decide +kernel
theorem dX2_init_37 : decode cX2_init 37 = .ok (.putfield 24, 3) := by decide +kernel
theorem dX2_init_40 : decode cX2_init 40 = .ok (.aload_n 0, 1) := by decide +kernel
theorem dX2_init_41 : decode cX2_init 41 = .ok (.bipush 12, 2) := by decide +kernel
theorem dX2_init_43 : decode cX2_init 43 = .ok (.newarray .int, 2) := by decide +kernel
theorem dX2_init_45 : decode cX2_init 45 = .ok (.putfield 27, 3) := by decide +kernel
theorem dX2_init_48 : decode cX2_init 48 = .ok (.return_, 1) := by decide +kernel
theorem dX2_clear_0 : decode cX2_clear 0 = .ok (.aload_n 0, 1) := by decide +kernel
theorem dX2_clear_1 : decode cX2_clear 1 = .ok (.iconst 0, 1) := by decide +kernel
theorem dX2_clear_2 : decode cX2_clear 2 = .ok (.putfield 30, 3) := by decide +kernel
theorem dX2_clear_5 : decode cX2_clear 5 = .ok (.aload_n 0, 1) := by decide +kernel
theorem dX2_clear_6 : decode cX2_clear 6 = .ok (.iconst 0, 1) := by decide +kernel
theorem dX2_clear_7 : decode cX2_clear 7 = .ok (.putfield 34, 3) := by decide +kernel
theorem dX2_clear_10 : decode cX2_clear 10 = .ok (.aload_n 0, 1) := by decide +kernel
theorem dX2_clear_11 : decode cX2_clear 11 = .ok (.iconst 0, 1) := by decide +kernel
theorem dX2_clear_12 : decode cX2_clear 12 = .ok (.putfield 37, 3) := by decide +kernel
theorem dX2_clear_15 : decode cX2_clear 15 = .ok (.aload_n 0, 1) := by decide +kernel
theorem dX2_clear_16 : decode cX2_clear 16 = .ok (.iconst 0, 1) := by decide +kernel
theorem dX2_clear_17 : decode cX2_clear 17 = .ok (.putfield 40, 3) := by decide +kernel
theorem dX2_clear_20 : decode cX2_clear 20 = .ok (.iconst 0, 1) := by decide +kernel
theorem dX2_clear_21 : decode cX2_clear 21 = .ok (.istore_n 1, 1) := by decide +kernel
theorem dX2_clear_22 : decode cX2_clear 22 = .ok (.iload_n 1, 1) := by decide +kernel
theorem dX2_clear_23 : decode cX2_clear 23 = .ok (.bipush 25, 2) := by decide +kernel
theorem dX2_clear_25 : decode cX2_clear 25 = .ok (.if_icmp .ge 16, 3) := by decide +kernel
theorem dX2_clear_28 : decode cX2_clear 28 = .ok (.aload_n 0, 1) := by decide +kernel
theorem dX2_clear_29 : decode cX2_clear 29 = .ok (.getfield 24, 3) := by decide +kernel
theorem dX2_clear_32 : decode cX2_clear 32 = .ok (.iload_n 1, 1) := by decide +kernel
theorem dX2_clear_33 : decode cX2_clear 33 = .ok (.iconst 0, 1) := by decide +kernel
theorem dX2_clear_34 : decode cX2_clear 34 = .ok (.iastore, 1) := by decide +kernel
theorem dX2_clear_35 : decode cX2_clear 35 = .ok (.iinc 1 1, 3) := by decide +kernel
theorem dX2_clear_38 : decode cX2_clear 38 = .ok (.goto (-16), 3) := by decide +kernel
theorem dX2_clear_41 : decode cX2_clear 41 = .ok (.return_, 1) := by decide +kernel
theorem dX2_become_0 : decode cX2_become 0 = .ok (.aload_n 0, 1) := by decide +kernel
theorem dX2_become_1 : decode cX2_become 1 = .ok (.aload_n 1, 1) := by decide +kernel
theorem dX2_become_2 : decode cX2_become 2 = .ok (.getfield 30, 3) := by decide +kernel
theorem dX2_become_5 : decode cX2_become 5 = .ok (.putfield 30, 3) := by decide +kernel
theorem dX2_become_8 : decode cX2_become 8 = .ok (.aload_n 0, 1) := by decide +kernel
theorem dX2_become_9 : decode cX2_become 9 = .ok (.aload_n 1, 1) := by decide +kernel
theorem dX2_become_10 : decode cX2_become 10 = .ok (.getfield 34, 3) := by decide +kernel
theorem dX2_become_13 : decode cX2_become 13 = .ok (.putfield 34, 3) := by decide +kernel
theorem dX2_become_16 : decode cX2_become 16 = .ok (.aload_n 0, 1) := by decide +kernel
theorem dX2_become_17 : decode cX2_become 17 = .ok (.aload_n 1, 1) := by decide +kernel
theorem dX2_become_18 : decode cX2_become 18 = .ok (.getfield 37, 3) := by decide +kernel
theorem dX2_become_21 : decode cX2_become 21 = .ok (.putfield 37, 3) := by decide +kernel
theorem dX2_become_24 : decode cX2_become 24 = .ok (.aload_n 0, 1) := by decide +kernel
theorem dX2_become_25 : decode cX2_become 25 = .ok (.aload_n 1, 1) := by decide +kernel
theorem dX2_become_26 : decode cX2_become 26 = .ok (.getfield 40, 3) := by decide +kernel
theorem dX2_become_29 : decode cX2_become 29 = .ok (.putfield 40, 3) := by decide +kernel
theorem dX2_become_32 : decode cX2_become 32 = .ok (.aload_n 0, 1) := by decide +kernel
theorem dX2_become_33 : decode cX2_become 33 = .ok (.aload_n 1, 1) := by decide +kernel
theorem dX2_become_34 : decode cX2_become 34 = .ok (.getfield 43, 3) := by decide +kernel
theorem dX2_become_37 : decode cX2_become 37 = .ok (.putfield 43, 3) := by decide +kernel
theorem dX2_become_40 : decode cX2_become 40 = .ok (.aload_n 0, 1) := by decide +kernel
theorem dX2_become_41 : decode cX2_become 41 = .ok (.aload_n 1, 1) := by decide +kernel
theorem dX2_become_42 : decode cX2_become 42 = .ok (.getfield 46, 3) := by decide +kernel
theorem dX2_become_45 : decode cX2_become 45 = .ok (.putfield 46, 3) := by decide +kernel
theorem dX2_become_48 : decode cX2_become 48 = .ok (.aload_n 0, 1) := by decide +kernel
theorem dX2_become_49 : decode cX2_become 49 = .ok (.aload_n 1, 1) := by decide +kernel
theorem dX2_become_50 : decode cX2_become 50 = .ok (.getfield 49, 3) := by decide +kernel
theorem dX2_become_53 : decode cX2_become 53 = .ok (.putfield 49, 3) := by decide +kernel
theorem dX2_become_56 : decode cX2_become 56 = .ok (.aload_n 0, 1) := by decide +kernel
theorem dX2_become_57 : decode cX2_become 57 = .ok (.aload_n 1, 1) := by decide +kernel
theorem dX2_become_58 : decode cX2_become 58 = .ok (.getfield 52, 3) := by decide +kernel
theorem dX2_become_61 : decode cX2_become 61 = .ok (.putfield 52, 3) := by decide +kernel
theorem dX2_become_64 : decode cX2_become 64 = .ok (.aload_n 1, 1) := by decide +kernel
theorem dX2_become_65 : decode cX2_become 65 = .ok (.getfield 9, 3) := by decide +kernel
theorem dX2_become_68 : decode cX2_become 68 = .ok (.iconst 0, 1) := by decide +kernel
theorem dX2_become_69 : decode cX2_become 69 = .ok (.aload_n 0, 1) := by decide +kernel
theorem dX2_become_70 : decode cX2_become 70 = .ok (.getfield 9, 3) := by decide +kernel
theorem dX2_become_73 : decode cX2_become 73 = .ok (.iconst 0, 1) := by decide +kernel
theorem dX2_become_74 : decode cX2_become 74 = .ok (.iconst 5, 1) := by decide +kernel
theorem dX2_become_75 : decode cX2_become 75 = .ok (.invokestatic 55, 3) := by decide +kernel
theorem dX2_become_78 : decode cX2_become 78 = .ok (.aload_n 1, 1) := by decide +kernel
theorem dX2_become_79 : decode cX2_become 79 = .ok (.getfield 15, 3) := by decide +kernel
theorem dX2_become_82 : decode cX2_become 82 = .ok (.iconst 0, 1) := by decide +kernel
theorem dX2_become_83 : decode cX2_become 83 = .ok (.aload_n 0, 1) := by decide +kernel
theorem dX2_become_84 : decode cX2_become 84 = .ok (.getfield 15, 3) := by decide +kernel
theorem dX2_become_87 : decode cX2_become 87 = .ok (.iconst 0, 1) := by decide +kernel
theorem dX2_become_88 : decode cX2_become 88 = .ok (.iconst 5, 1) := by decide +kernel
theorem dX2_become_89 : decode cX2_become 89 = .ok (.invokestatic 55, 3) := by decide +kernel
theorem dX2_become_92 : decode cX2_become 92 = .ok (.aload_n 1, 1) := by decide +kernel
theorem dX2_become_93 : decode cX2_become 93 = .ok (.getfield 18, 3) := by decide +kernel
theorem dX2_become_96 : decode cX2_become 96 = .ok (.iconst 0, 1) := by decide +kernel
theorem dX2_become_97 : decode cX2_become 97 = .ok (.aload_n 0, 1) := by decide +kernel
theorem dX2_become_98 : decode cX2_become 98 = .ok (.getfield 18, 3) := by decide +kernel
theorem dX2_become_101 : decode cX2_become 101 = .ok (.iconst 0, 1) := by decide +kernel
theorem dX2_become_102 : decode cX2_become 102 = .ok (.iconst 5, 1) := by decide +kernel
theorem dX2_become_103 : decode cX2_become 103 = .ok (.invokestatic 55, 3) := by decide +kernel
theorem dX2_become_106 : decode cX2_become 106 = .ok (.aload_n 1, 1) := by decide +kernel
theorem dX2_become_107 : decode cX2_become 107 = .ok (.getfield 24, 3) := by decide +kernel
theorem dX2_become_110 : decode cX2_become 110 = .ok (.iconst 0, 1) := by decide +kernel
theorem dX2_become_111 : decode cX2_become 111 = .ok (.aload_n 0, 1) := by decide +kernel
theorem dX2_become_112 : decode cX2_become 112 = .ok (.getfield 24, 3) := by decide +kernel
theorem dX2_become_115 : decode cX2_become 115 = .ok (.iconst 0, 1) := by decide +kernel
theorem dX2_become_116 : decode cX2_become 116 = .ok (.bipush 25, 2) := by decide +kernel
theorem dX2_become_118 : decode cX2_become 118 = .ok (.invokestatic 55, 3) := by decide +kernel
theorem dX2_become_121 : decode cX2_become 121 = .ok (.aload_n 1, 1) := by decide +kernel
theorem dX2_become_122 : decode cX2_become 122 = .ok (.getfield 27, 3) := by decide +kernel
theorem dX2_become_125 : decode cX2_become 125 = .ok (.iconst 0, 1) := by decide +kernel
theorem dX2_become_126 : decode cX2_become 126 = .ok (.aload_n 0, 1) := by decide +kernel
theorem dX2_become_127 : decode cX2_become 127 = .ok (.getfield 27, 3) := by decide +kernel
theorem dX2_become_130 : decode cX2_become 130 = .ok (.iconst 0, 1) := by decide +kernel
theorem dX2_become_131 : decode cX2_become 131 = .ok (.bipush 12, 2) := by decide +kernel
theorem dX2_become_133 : decode cX2_become 133 = .ok (.invokestatic 55, 3) := by decide +kernel
theorem dX2_become_136 : decode cX2_become 136 = .ok (.return_, 1) := by decide +kernel
theorem dX2_write_0 : decode cX2_write 0 = .ok (.aload_n 0, 1) := by decide +kernel
theorem dX2_write_1 : decode cX2_write 1 = .ok (.getfield 18, 3) := by decide +kernel
theorem dX2_write_4 : decode cX2_write 4 = .ok (.iconst 0, 1) := by decide +kernel
theorem dX2_write_5 : decode cX2_write 5 = .ok (.aload_n 1, 1) := by decide +kernel
theorem dX2_write_6 : decode cX2_write 6 = .ok (.iload_n 2, 1) := by decide +kernel
theorem dX2_write_7 : decode cX2_write 7 = .ok (.iconst 5, 1) := by decide +kernel
theorem dX2_write_8 : decode cX2_write 8 = .ok (.invokestatic 55, 3) := by decide +kernel
theorem dX2_write_11 : decode cX2_write 11 = .ok (.aload_n 0, 1) := by decide +kernel
theorem dX2_write_12 : decode cX2_write 12 = .ok (.getfield 24, 3) := by decide +kernel
theorem dX2_write_15 : decode cX2_write 15 = .ok (.iconst 0, 1) := by decide +kernel
theorem dX2_write_16 : decode cX2_write 16 = .ok (.aload_n 1, 1) := by decide +kernel
theorem dX2_write_17 : decode cX2_write 17 = .ok (.iload_n 2, 1) := by decide +kernel
theorem dX2_write_18 : decode cX2_write 18 = .ok (.iconst 5, 1) := by decide +kernel
theorem dX2_write_19 : decode cX2_write 19 = .ok (.iadd, 1) := by decide +kernel
theorem dX2_write_20 : decode cX2_write 20 = .ok (.bipush 25, 2) := by decide +kernel
theorem dX2_write_22 : decode cX2_write 22 = .ok (.invokestatic 55, 3) := by decide +kernel
theorem dX2_write_25 : decode cX2_write 25 = .ok (.aload_n 1, 1) := by decide +kernel
theorem dX2_write_26 : decode cX2_write 26 = .ok (.iload_n 2, 1) := by decide +kernel
theorem dX2_write_27 : decode cX2_write 27 = .ok (.bipush 30, 2) := by decide +kernel
theorem dX2_write_29 : decode cX2_write 29 = .ok (.iadd, 1) := by decide +kernel
theorem dX2_write_30 : decode cX2_write 30 = .ok (.aload_n 0, 1) := by decide +kernel
theorem dX2_write_31 : decode cX2_write 31 = .ok (.getfield 52, 3) := by decide +kernel
theorem dX2_write_34 : decode cX2_write 34 = .ok (.iastore, 1) := by decide +kernel
theorem dX2_write_35 : decode cX2_write 35 = .ok (.aload_n 1, 1) := by decide +kernel
theorem dX2_write_36 : decode cX2_write 36 = .ok (.iload_n 2, 1) := by decide +kernel
theorem dX2_write_37 : decode cX2_write 37 = .ok (.bipush 30, 2) := by decide +kernel
theorem dX2_write_39 : decode cX2_write 39 = .ok (.iadd, 1) := by decide +kernel
theorem dX2_write_40 : decode cX2_write 40 = .ok (.iconst 1, 1) := by decide +kernel
theorem dX2_write_41 : decode cX2_write 41 = .ok (.iadd, 1) := by decide +kernel
theorem dX2_write_42 : decode cX2_write 42 = .ok (.aload_n 0, 1) := by decide +kernel
theorem dX2_write_43 : decode cX2_write 43 = .ok (.getfield 37, 3) := by decide +kernel
theorem dX2_write_46 : decode cX2_write 46 = .ok (.iastore, 1) := by decide +kernel
theorem dX2_write_47 : decode cX2_write 47 = .ok (.aload_n 1, 1) := by decide +kernel
theorem dX2_write_48 : decode cX2_write 48 = .ok (.iload_n 2, 1) := by decide +kernel
theorem dX2_write_49 : decode cX2_write 49 = .ok (.bipush 30, 2) := by decide +kernel
theorem dX2_write_51 : decode cX2_write 51 = .ok (.iadd, 1) := by decide +kernel
theorem dX2_write_52 : decode cX2_write 52 = .ok (.iconst 2, 1) := by decide +kernel
theorem dX2_write_53 : decode cX2_write 53 = .ok (.iadd, 1) := by decide +kernel
theorem dX2_write_54 : decode cX2_write 54 = .ok (.aload_n 0, 1) := by decide +kernel
theorem dX2_write_55 : decode cX2_write 55 = .ok (.getfield 40, 3) := by decide +kernel
theorem dX2_write_58 : decode cX2_write 58 = .ok (.iastore, 1) := by decide +kernel
theorem dX2_write_59 : decode cX2_write 59 = .ok (.return_, 1) := by decide +kernel
theorem dX2_read_0 : decode cX2_read 0 = .ok (.aload_n 1, 1) := by decide +kernel
theorem dX2_read_1 : decode cX2_read 1 = .ok (.iload_n 2, 1) := by decide +kernel
theorem dX2_read_2 : decode cX2_read 2 = .ok (.aload_n 0, 1) := by decide +kernel
theorem dX2_read_3 : decode cX2_read 3 = .ok (.getfield 18, 3) := by decide +kernel
theorem dX2_read_6 : decode cX2_read 6 = .ok (.iconst 0, 1) := by decide +kernel
theorem dX2_read_7 : decode cX2_read 7 = .ok (.iconst 5, 1) := by decide +kernel
theorem dX2_read_8 : decode cX2_read 8 = .ok (.invokestatic 55, 3) := by decide +kernel
theorem dX2_read_11 : decode cX2_read 11 = .ok (.aload_n 1, 1) := by decide +kernel
theorem dX2_read_12 : decode cX2_read 12 = .ok (.iload_n 2, 1) := by decide +kernel
theorem dX2_read_13 : decode cX2_read 13 = .ok (.iconst 5, 1) := by decide +kernel
theorem dX2_read_14 : decode cX2_read 14 = .ok (.iadd, 1) := by decide +kernel
theorem dX2_read_15 : decode cX2_read 15 = .ok (.aload_n 0, 1) := by decide +kernel
theorem dX2_read_16 : decode cX2_read 16 = .ok (.getfield 24, 3) := by decide +kernel
theorem dX2_read_19 : decode cX2_read 19 = .ok (.iconst 0, 1) := by decide +kernel
theorem dX2_read_20 : decode cX2_read 20 = .ok (.bipush 25, 2) := by decide +kernel
theorem dX2_read_22 : decode cX2_read 22 = .ok (.invokestatic 55, 3) := by decide +kernel
theorem dX2_read_25 : decode cX2_read 25 = .ok (.aload_n 0, 1) := by decide +kernel
theorem dX2_read_26 : decode cX2_read 26 = .ok (.aload_n 1, 1) := by decide +kernel
theorem dX2_read_27 : decode cX2_read 27 = .ok (.iload_n 2, 1) := by decide +kernel
theorem dX2_read_28 : decode cX2_read 28 = .ok (.bipush 30, 2) := by decide +kernel
theorem dX2_read_30 : decode cX2_read 30 = .ok (.iadd, 1) := by decide +kernel
theorem dX2_read_31 : decode cX2_read 31 = .ok (.iaload, 1) := by decide +kernel
theorem dX2_read_32 : decode cX2_read 32 = .ok (.putfield 52, 3) := by decide +kernel
theorem dX2_read_35 : decode cX2_read 35 = .ok (.aload_n 0, 1) := by decide +kernel
theorem dX2_read_36 : decode cX2_read 36 = .ok (.aload_n 1, 1) := by decide +kernel
theorem dX2_read_37 : decode cX2_read 37 = .ok (.iload_n 2, 1) := by decide +kernel
theorem dX2_read_38 : decode cX2_read 38 = .ok (.bipush 30, 2) := by decide +kernel
theorem dX2_read_40 : decode cX2_read 40 = .ok (.iadd, 1) := by decide +kernel
theorem dX2_read_41 : decode cX2_read 41 = .ok (.iconst 1, 1) := by decide +kernel
theorem dX2_read_42 : decode cX2_read 42 = .ok (.iadd, 1) := by decide +kernel
theorem dX2_read_43 : decode cX2_read 43 = .ok (.iaload, 1) := by decide +kernel
theorem dX2_read_44 : decode cX2_read 44 = .ok (.putfield 37, 3) := by decide +kernel
theorem dX2_read_47 : decode cX2_read 47 = .ok (.aload_n 0, 1) := by decide +kernel
theorem dX2_read_48 : decode cX2_read 48 = .ok (.aload_n 1, 1) := by decide +kernel
theorem dX2_read_49 : decode cX2_read 49 = .ok (.iload_n 2, 1) := by decide +kernel
theorem dX2_read_50 : decode cX2_read 50 = .ok (.bipush 30, 2) := by decide +kernel
theorem dX2_read_52 : decode cX2_read 52 = .ok (.iadd, 1) := by decide +kernel
theorem dX2_read_53 : decode cX2_read 53 = .ok (.iconst 2, 1) := by decide +kernel
theorem dX2_read_54 : decode cX2_read 54 = .ok (.iadd, 1) := by decide +kernel
theorem dX2_read_55 : decode cX2_read 55 = .ok (.iaload, 1) := by decide +kernel
theorem dX2_read_56 : decode cX2_read 56 = .ok (.putfield 40, 3) := by decide +kernel
theorem dX2_read_59 : decode cX2_read 59 = .ok (.return_, 1) := by decide +kernel
theorem dX2_stands_0 : decode cX2_stands 0 = .ok (.aload_n 0, 1) := by decide +kernel
theorem dX2_stands_1 : decode cX2_stands 1 = .ok (.getfield 30, 3) := by decide +kernel
theorem dX2_stands_4 : decode cX2_stands 4 = .ok (.ifCond .le 7, 3) := by decide +kernel
theorem dX2_stands_7 : decode cX2_stands 7 = .ok (.iconst 1, 1) := by decide +kernel
theorem dX2_stands_8 : decode cX2_stands 8 = .ok (.goto 4, 3) := by decide +kernel
theorem dX2_stands_11 : decode cX2_stands 11 = .ok (.iconst 0, 1) := by decide +kernel
theorem dX2_stands_12 : decode cX2_stands 12 = .ok (.ireturn, 1) := by decide +kernel
theorem dX2_has_0 : decode cX2_has 0 = .ok (.iload_n 1, 1) := by decide +kernel
theorem dX2_has_1 : decode cX2_has 1 = .ok (.ifCond .lt 15, 3) := by decide +kernel
theorem dX2_has_4 : decode cX2_has 4 = .ok (.iload_n 1, 1) := by decide +kernel
theorem dX2_has_5 : decode cX2_has 5 = .ok (.aload_n 0, 1) := by decide +kernel
theorem dX2_has_6 : decode cX2_has 6 = .ok (.getfield 30, 3) := by decide +kernel
theorem dX2_has_9 : decode cX2_has 9 = .ok (.if_icmp .ge 7, 3) := by decide +kernel
theorem dX2_has_12 : decode cX2_has 12 = .ok (.iconst 1, 1) := by decide +kernel
theorem dX2_has_13 : decode cX2_has 13 = .ok (.goto 4, 3) := by decide +kernel
theorem dX2_has_16 : decode cX2_has 16 = .ok (.iconst 0, 1) := by decide +kernel
theorem dX2_has_17 : decode cX2_has 17 = .ok (.ireturn, 1) := by decide +kernel
theorem dX2_canHear_0 : decode cX2_canHear 0 = .ok (.aload_n 0, 1) := by decide +kernel
theorem dX2_canHear_1 : decode cX2_canHear 1 = .ok (.iload_n 1, 1) := by decide +kernel
theorem dX2_canHear_2 : decode cX2_canHear 2 = .ok (.invokevirtual 61, 3) := by decide +kernel
theorem dX2_canHear_5 : decode cX2_canHear 5 = .ok (.ifCond .eq 20, 3) := by decide +kernel
theorem dX2_canHear_8 : decode cX2_canHear 8 = .ok (.aload_n 0, 1) := by decide +kernel
theorem dX2_canHear_9 : decode cX2_canHear 9 = .ok (.iload_n 2, 1) := by decide +kernel
theorem dX2_canHear_10 : decode cX2_canHear 10 = .ok (.invokevirtual 61, 3) := by decide +kernel
theorem dX2_canHear_13 : decode cX2_canHear 13 = .ok (.ifCond .eq 12, 3) := by decide +kernel
theorem dX2_canHear_16 : decode cX2_canHear 16 = .ok (.iload_n 1, 1) := by decide +kernel
theorem dX2_canHear_17 : decode cX2_canHear 17 = .ok (.iload_n 2, 1) := by decide +kernel
theorem dX2_canHear_18 : decode cX2_canHear 18 = .ok (.if_icmp .eq 7, 3) := by decide +kernel
theorem dX2_canHear_21 : decode cX2_canHear 21 = .ok (.iconst 1, 1) := by decide +kernel
theorem dX2_canHear_22 : decode cX2_canHear 22 = .ok (.goto 4, 3) := by decide +kernel
theorem dX2_canHear_25 : decode cX2_canHear 25 = .ok (.iconst 0, 1) := by decide +kernel
theorem dX2_canHear_26 : decode cX2_canHear 26 = .ok (.ireturn, 1) := by decide +kernel
theorem dX2_weight_0 : decode cX2_weight 0 = .ok (.aload_n 0, 1) := by decide +kernel
theorem dX2_weight_1 : decode cX2_weight 1 = .ok (.getfield 24, 3) := by decide +kernel
theorem dX2_weight_4 : decode cX2_weight 4 = .ok (.iconst 5, 1) := by decide +kernel
theorem dX2_weight_5 : decode cX2_weight 5 = .ok (.iload_n 1, 1) := by decide +kernel
theorem dX2_weight_6 : decode cX2_weight 6 = .ok (.imul, 1) := by decide +kernel
theorem dX2_weight_7 : decode cX2_weight 7 = .ok (.iload_n 2, 1) := by decide +kernel
theorem dX2_weight_8 : decode cX2_weight 8 = .ok (.iadd, 1) := by decide +kernel
theorem dX2_weight_9 : decode cX2_weight 9 = .ok (.iaload, 1) := by decide +kernel
theorem dX2_weight_10 : decode cX2_weight 10 = .ok (.ireturn, 1) := by decide +kernel
theorem dX2_weigh_0 : decode cX2_weigh 0 = .ok (.aload_n 0, 1) := by decide +kernel
theorem dX2_weigh_1 : decode cX2_weigh 1 = .ok (.getfield 24, 3) := by decide +kernel
theorem dX2_weigh_4 : decode cX2_weigh 4 = .ok (.iconst 5, 1) := by decide +kernel
theorem dX2_weigh_5 : decode cX2_weigh 5 = .ok (.iload_n 1, 1) := by decide +kernel
theorem dX2_weigh_6 : decode cX2_weigh 6 = .ok (.imul, 1) := by decide +kernel
theorem dX2_weigh_7 : decode cX2_weigh 7 = .ok (.iload_n 2, 1) := by decide +kernel
theorem dX2_weigh_8 : decode cX2_weigh 8 = .ok (.iadd, 1) := by decide +kernel
theorem dX2_weigh_9 : decode cX2_weigh 9 = .ok (.iload_n 3, 1) := by decide +kernel
theorem dX2_weigh_10 : decode cX2_weigh 10 = .ok (.iastore, 1) := by decide +kernel
theorem dX2_weigh_11 : decode cX2_weigh 11 = .ok (.return_, 1) := by decide +kernel
theorem dX2_heardBy_0 : decode cX2_heardBy 0 = .ok (.iconst 0, 1) := by decide +kernel
theorem dX2_heardBy_1 : decode cX2_heardBy 1 = .ok (.istore_n 2, 1) := by decide +kernel
theorem dX2_heardBy_2 : decode cX2_heardBy 2 = .ok (.iconst 0, 1) := by decide +kernel
theorem dX2_heardBy_3 : decode cX2_heardBy 3 = .ok (.istore_n 3, 1) := by decide +kernel
theorem dX2_heardBy_4 : decode cX2_heardBy 4 = .ok (.iload_n 3, 1) := by decide +kernel
theorem dX2_heardBy_5 : decode cX2_heardBy 5 = .ok (.aload_n 0, 1) := by decide +kernel
theorem dX2_heardBy_6 : decode cX2_heardBy 6 = .ok (.getfield 30, 3) := by decide +kernel
theorem dX2_heardBy_9 : decode cX2_heardBy 9 = .ok (.if_icmp .ge 21, 3) := by decide +kernel
theorem dX2_heardBy_12 : decode cX2_heardBy 12 = .ok (.aload_n 0, 1) := by decide +kernel
theorem dX2_heardBy_13 : decode cX2_heardBy 13 = .ok (.iload_n 1, 1) := by decide +kernel
theorem dX2_heardBy_14 : decode cX2_heardBy 14 = .ok (.iload_n 3, 1) := by decide +kernel
theorem dX2_heardBy_15 : decode cX2_heardBy 15 = .ok (.invokevirtual 65, 3) := by decide +kernel
theorem dX2_heardBy_18 : decode cX2_heardBy 18 = .ok (.ifCond .eq 6, 3) := by decide +kernel
theorem dX2_heardBy_21 : decode cX2_heardBy 21 = .ok (.iinc 2 1, 3) := by decide +kernel
theorem dX2_heardBy_24 : decode cX2_heardBy 24 = .ok (.iinc 3 1, 3) := by decide +kernel
theorem dX2_heardBy_27 : decode cX2_heardBy 27 = .ok (.goto (-23), 3) := by decide +kernel
theorem dX2_heardBy_30 : decode cX2_heardBy 30 = .ok (.iload_n 2, 1) := by decide +kernel
theorem dX2_heardBy_31 : decode cX2_heardBy 31 = .ok (.ireturn, 1) := by decide +kernel
theorem dX2_barAt_0 : decode cX2_barAt 0 = .ok (.iload_n 1, 1) := by decide +kernel
theorem dX2_barAt_1 : decode cX2_barAt 1 = .ok (.ifCond .lt 20, 3) := by decide +kernel
theorem dX2_barAt_4 : decode cX2_barAt 4 = .ok (.iload_n 1, 1) := by decide +kernel
theorem dX2_barAt_5 : decode cX2_barAt 5 = .ok (.aload_n 0, 1) := by decide +kernel
theorem dX2_barAt_6 : decode cX2_barAt 6 = .ok (.getfield 34, 3) := by decide +kernel
theorem dX2_barAt_9 : decode cX2_barAt 9 = .ok (.if_icmp .ge 12, 3) := by decide +kernel
theorem dX2_barAt_12 : decode cX2_barAt 12 = .ok (.aload_n 0, 1) := by decide +kernel
theorem dX2_barAt_13 : decode cX2_barAt 13 = .ok (.getfield 27, 3) := by decide +kernel
theorem dX2_barAt_16 : decode cX2_barAt 16 = .ok (.iload_n 1, 1) := by decide +kernel
theorem dX2_barAt_17 : decode cX2_barAt 17 = .ok (.iaload, 1) := by decide +kernel
theorem dX2_barAt_18 : decode cX2_barAt 18 = .ok (.goto 4, 3) := by decide +kernel
theorem dX2_barAt_21 : decode cX2_barAt 21 = .ok (.iconst 0, 1) := by decide +kernel
theorem dX2_barAt_22 : decode cX2_barAt 22 = .ok (.ireturn, 1) := by decide +kernel
theorem dX2_together_0 : decode cX2_together 0 = .ok (.aload_n 0, 1) := by decide +kernel
theorem dX2_together_1 : decode cX2_together 1 = .ok (.getfield 30, 3) := by decide +kernel
theorem dX2_together_4 : decode cX2_together 4 = .ok (.ifCond .gt 5, 3) := by decide +kernel
theorem dX2_together_7 : decode cX2_together 7 = .ok (.iconst 0, 1) := by decide +kernel
theorem dX2_together_8 : decode cX2_together 8 = .ok (.ireturn, 1) := by decide +kernel
theorem dX2_together_9 : decode cX2_together 9 = .ok (.iconst 0, 1) := by decide +kernel
theorem dX2_together_10 : decode cX2_together 10 = .ok (.istore_n 1, 1) := by decide +kernel
theorem dX2_together_11 : decode cX2_together 11 = .ok (.iconst 0, 1) := by decide +kernel
theorem dX2_together_12 : decode cX2_together 12 = .ok (.istore_n 2, 1) := by decide +kernel
theorem dX2_together_13 : decode cX2_together 13 = .ok (.iload_n 2, 1) := by decide +kernel
theorem dX2_together_14 : decode cX2_together 14 = .ok (.aload_n 0, 1) := by decide +kernel
theorem dX2_together_15 : decode cX2_together 15 = .ok (.getfield 30, 3) := by decide +kernel
theorem dX2_together_18 : decode cX2_together 18 = .ok (.if_icmp .ge 18, 3) := by decide +kernel
theorem dX2_together_21 : decode cX2_together 21 = .ok (.iload_n 1, 1) := by decide +kernel
theorem dX2_together_22 : decode cX2_together 22 = .ok (.aload_n 0, 1) := by decide +kernel
theorem dX2_together_23 : decode cX2_together 23 = .ok (.getfield 18, 3) := by decide +kernel
theorem dX2_together_26 : decode cX2_together 26 = .ok (.iload_n 2, 1) := by decide +kernel
theorem dX2_together_27 : decode cX2_together 27 = .ok (.iaload, 1) := by decide +kernel
theorem dX2_together_28 : decode cX2_together 28 = .ok (.iadd, 1) := by decide +kernel
theorem dX2_together_29 : decode cX2_together 29 = .ok (.istore_n 1, 1) := by decide +kernel
theorem dX2_together_30 : decode cX2_together 30 = .ok (.iinc 2 1, 3) := by decide +kernel
theorem dX2_together_33 : decode cX2_together 33 = .ok (.goto (-20), 3) := by decide +kernel
theorem dX2_together_36 : decode cX2_together 36 = .ok (.iload_n 1, 1) := by decide +kernel
theorem dX2_together_37 : decode cX2_together 37 = .ok (.aload_n 0, 1) := by decide +kernel
theorem dX2_together_38 : decode cX2_together 38 = .ok (.getfield 30, 3) := by decide +kernel
theorem dX2_together_41 : decode cX2_together 41 = .ok (.idiv, 1) := by decide +kernel
theorem dX2_together_42 : decode cX2_together 42 = .ok (.ireturn, 1) := by decide +kernel
theorem dX2_quicken_0 : decode cX2_quicken 0 = .ok (.iconst 0, 1) := by decide +kernel
theorem dX2_quicken_1 : decode cX2_quicken 1 = .ok (.istore_n 2, 1) := by decide +kernel
theorem dX2_quicken_2 : decode cX2_quicken 2 = .ok (.iload_n 2, 1) := by decide +kernel
theorem dX2_quicken_3 : decode cX2_quicken 3 = .ok (.aload_n 0, 1) := by decide +kernel
theorem dX2_quicken_4 : decode cX2_quicken 4 = .ok (.getfield 30, 3) := by decide +kernel
theorem dX2_quicken_7 : decode cX2_quicken 7 = .ok (.if_icmp .ge 26, 3) := by decide +kernel
theorem dX2_quicken_10 : decode cX2_quicken 10 = .ok (.aload_n 0, 1) := by decide +kernel
theorem dX2_quicken_11 : decode cX2_quicken 11 = .ok (.getfield 18, 3) := by decide +kernel
theorem dX2_quicken_14 : decode cX2_quicken 14 = .ok (.iload_n 2, 1) := by decide +kernel
theorem dX2_quicken_15 : decode cX2_quicken 15 = .ok (.aload_n 0, 1) := by decide +kernel
theorem dX2_quicken_16 : decode cX2_quicken 16 = .ok (.getfield 18, 3) := by decide +kernel
theorem dX2_quicken_19 : decode cX2_quicken 19 = .ok (.iload_n 2, 1) := by decide +kernel
theorem dX2_quicken_20 : decode cX2_quicken 20 = .ok (.iaload, 1) := by decide +kernel
theorem dX2_quicken_21 : decode cX2_quicken 21 = .ok (.iload_n 1, 1) := by decide +kernel
theorem dX2_quicken_22 : decode cX2_quicken 22 = .ok (.iadd, 1) := by decide +kernel
theorem dX2_quicken_23 : decode cX2_quicken 23 = .ok (.invokestatic 69, 3) := by decide +kernel
theorem dX2_quicken_26 : decode cX2_quicken 26 = .ok (.iastore, 1) := by decide +kernel
theorem dX2_quicken_27 : decode cX2_quicken 27 = .ok (.iinc 2 1, 3) := by decide +kernel
theorem dX2_quicken_30 : decode cX2_quicken 30 = .ok (.goto (-28), 3) := by decide +kernel
theorem dX2_quicken_33 : decode cX2_quicken 33 = .ok (.return_, 1) := by decide +kernel
theorem dX2_leanAt_0 : decode cX2_leanAt 0 = .ok (.aload_n 0, 1) := by decide +kernel
theorem dX2_leanAt_1 : decode cX2_leanAt 1 = .ok (.getfield 9, 3) := by decide +kernel
theorem dX2_leanAt_4 : decode cX2_leanAt 4 = .ok (.iload_n 1, 1) := by decide +kernel
theorem dX2_leanAt_5 : decode cX2_leanAt 5 = .ok (.iaload, 1) := by decide +kernel
theorem dX2_leanAt_6 : decode cX2_leanAt 6 = .ok (.istore_n 3, 1) := by decide +kernel
theorem dX2_leanAt_7 : decode cX2_leanAt 7 = .ok (.iload_n 3, 1) := by decide +kernel
theorem dX2_leanAt_8 : decode cX2_leanAt 8 = .ok (.iconst 1, 1) := by decide +kernel
theorem dX2_leanAt_9 : decode cX2_leanAt 9 = .ok (.if_icmp .eq 15, 3) := by decide +kernel
theorem dX2_leanAt_12 : decode cX2_leanAt 12 = .ok (.iload_n 3, 1) := by decide +kernel
theorem dX2_leanAt_13 : decode cX2_leanAt 13 = .ok (.iconst 2, 1) := by decide +kernel
theorem dX2_leanAt_14 : decode cX2_leanAt 14 = .ok (.if_icmp .eq 10, 3) := by decide +kernel
theorem dX2_leanAt_17 : decode cX2_leanAt 17 = .ok (.iload_n 3, 1) := by decide +kernel
theorem dX2_leanAt_18 : decode cX2_leanAt 18 = .ok (.iconst 3, 1) := by decide +kernel
theorem dX2_leanAt_19 : decode cX2_leanAt 19 = .ok (.if_icmp .eq 5, 3) := by decide +kernel
theorem dX2_leanAt_22 : decode cX2_leanAt 22 = .ok (.iconst 0, 1) := by decide +kernel
theorem dX2_leanAt_23 : decode cX2_leanAt 23 = .ok (.ireturn, 1) := by decide +kernel
theorem dX2_leanAt_24 : decode cX2_leanAt 24 = .ok (.iload_n 2, 1) := by decide +kernel
theorem dX2_leanAt_25 : decode cX2_leanAt 25 = .ok (.tableswitch 72 1 3 #[27, 46, 67], 27) := by decide +kernel
theorem dX2_leanAt_52 : decode cX2_leanAt 52 = .ok (.iload_n 3, 1) := by decide +kernel
theorem dX2_leanAt_53 : decode cX2_leanAt 53 = .ok (.iconst 2, 1) := by decide +kernel
theorem dX2_leanAt_54 : decode cX2_leanAt 54 = .ok (.if_icmp .ne 12, 3) := by decide +kernel
theorem dX2_leanAt_57 : decode cX2_leanAt 57 = .ok (.iconst 2, 1) := by decide +kernel
theorem dX2_leanAt_58 : decode cX2_leanAt 58 = .ok (.aload_n 0, 1) := by decide +kernel
theorem dX2_leanAt_59 : decode cX2_leanAt 59 = .ok (.getfield 43, 3) := by decide +kernel
theorem dX2_leanAt_62 : decode cX2_leanAt 62 = .ok (.imul, 1) := by decide +kernel
theorem dX2_leanAt_63 : decode cX2_leanAt 63 = .ok (.goto 7, 3) := by decide +kernel
theorem dX2_leanAt_66 : decode cX2_leanAt 66 = .ok (.aload_n 0, 1) := by decide +kernel
theorem dX2_leanAt_67 : decode cX2_leanAt 67 = .ok (.getfield 43, 3) := by decide +kernel
theorem dX2_leanAt_70 : decode cX2_leanAt 70 = .ok (.ireturn, 1) := by decide +kernel
theorem dX2_leanAt_71 : decode cX2_leanAt 71 = .ok (.iload_n 3, 1) := by decide +kernel
theorem dX2_leanAt_72 : decode cX2_leanAt 72 = .ok (.iconst 3, 1) := by decide +kernel
theorem dX2_leanAt_73 : decode cX2_leanAt 73 = .ok (.if_icmp .ne 13, 3) := by decide +kernel
theorem dX2_leanAt_76 : decode cX2_leanAt 76 = .ok (.bipush (-2), 2) := by decide +kernel
theorem dX2_leanAt_78 : decode cX2_leanAt 78 = .ok (.aload_n 0, 1) := by decide +kernel
theorem dX2_leanAt_79 : decode cX2_leanAt 79 = .ok (.getfield 46, 3) := by decide +kernel
theorem dX2_leanAt_82 : decode cX2_leanAt 82 = .ok (.imul, 1) := by decide +kernel
theorem dX2_leanAt_83 : decode cX2_leanAt 83 = .ok (.goto 8, 3) := by decide +kernel
theorem dX2_leanAt_86 : decode cX2_leanAt 86 = .ok (.aload_n 0, 1) := by decide +kernel
theorem dX2_leanAt_87 : decode cX2_leanAt 87 = .ok (.getfield 46, 3) := by decide +kernel
theorem dX2_leanAt_90 : decode cX2_leanAt 90 = .ok (.ineg, 1) := by decide +kernel
theorem dX2_leanAt_91 : decode cX2_leanAt 91 = .ok (.ireturn, 1) := by decide +kernel
theorem dX2_leanAt_92 : decode cX2_leanAt 92 = .ok (.aload_n 0, 1) := by decide +kernel
theorem dX2_leanAt_93 : decode cX2_leanAt 93 = .ok (.getfield 49, 3) := by decide +kernel
theorem dX2_leanAt_96 : decode cX2_leanAt 96 = .ok (.ireturn, 1) := by decide +kernel
theorem dX2_leanAt_97 : decode cX2_leanAt 97 = .ok (.iconst 0, 1) := by decide +kernel
theorem dX2_leanAt_98 : decode cX2_leanAt 98 = .ok (.ireturn, 1) := by decide +kernel
theorem dX2_play_0 : decode cX2_play 0 = .ok (.aload_n 0, 1) := by decide +kernel
theorem dX2_play_1 : decode cX2_play 1 = .ok (.aload_n 0, 1) := by decide +kernel
theorem dX2_play_2 : decode cX2_play 2 = .ok (.getfield 37, 3) := by decide +kernel
theorem dX2_play_5 : decode cX2_play 5 = .ok (.invokevirtual 73, 3) := by decide +kernel
theorem dX2_play_8 : decode cX2_play 8 = .ok (.istore_n 1, 1) := by decide +kernel
theorem dX2_play_9 : decode cX2_play 9 = .ok (.iconst 0, 1) := by decide +kernel
theorem dX2_play_10 : decode cX2_play 10 = .ok (.istore_n 2, 1) := by decide +kernel
theorem dX2_play_11 : decode cX2_play 11 = .ok (.iload_n 2, 1) := by decide +kernel
theorem dX2_play_12 : decode cX2_play 12 = .ok (.aload_n 0, 1) := by decide +kernel
theorem dX2_play_13 : decode cX2_play 13 = .ok (.getfield 30, 3) := by decide +kernel
theorem dX2_play_16 : decode cX2_play 16 = .ok (.if_icmp .ge 21, 3) := by decide +kernel
theorem dX2_play_19 : decode cX2_play 19 = .ok (.aload_n 0, 1) := by decide +kernel
theorem dX2_play_20 : decode cX2_play 20 = .ok (.getfield 21, 3) := by decide +kernel
theorem dX2_play_23 : decode cX2_play 23 = .ok (.iload_n 2, 1) := by decide +kernel
theorem dX2_play_24 : decode cX2_play 24 = .ok (.aload_n 0, 1) := by decide +kernel
theorem dX2_play_25 : decode cX2_play 25 = .ok (.iload_n 2, 1) := by decide +kernel
theorem dX2_play_26 : decode cX2_play 26 = .ok (.iload_n 1, 1) := by decide +kernel
theorem dX2_play_27 : decode cX2_play 27 = .ok (.invokevirtual 76, 3) := by decide +kernel
theorem dX2_play_30 : decode cX2_play 30 = .ok (.iastore, 1) := by decide +kernel
theorem dX2_play_31 : decode cX2_play 31 = .ok (.iinc 2 1, 3) := by decide +kernel
theorem dX2_play_34 : decode cX2_play 34 = .ok (.goto (-23), 3) := by decide +kernel
theorem dX2_play_37 : decode cX2_play 37 = .ok (.aload_n 0, 1) := by decide +kernel
theorem dX2_play_38 : decode cX2_play 38 = .ok (.getfield 21, 3) := by decide +kernel
theorem dX2_play_41 : decode cX2_play 41 = .ok (.iconst 0, 1) := by decide +kernel
theorem dX2_play_42 : decode cX2_play 42 = .ok (.aload_n 0, 1) := by decide +kernel
theorem dX2_play_43 : decode cX2_play 43 = .ok (.getfield 18, 3) := by decide +kernel
theorem dX2_play_46 : decode cX2_play 46 = .ok (.iconst 0, 1) := by decide +kernel
theorem dX2_play_47 : decode cX2_play 47 = .ok (.aload_n 0, 1) := by decide +kernel
theorem dX2_play_48 : decode cX2_play 48 = .ok (.getfield 30, 3) := by decide +kernel
theorem dX2_play_51 : decode cX2_play 51 = .ok (.invokestatic 55, 3) := by decide +kernel
theorem dX2_play_54 : decode cX2_play 54 = .ok (.aload_n 0, 1) := by decide +kernel
theorem dX2_play_55 : decode cX2_play 55 = .ok (.aload_n 0, 1) := by decide +kernel
theorem dX2_play_56 : decode cX2_play 56 = .ok (.getfield 37, 3) := by decide +kernel
theorem dX2_play_59 : decode cX2_play 59 = .ok (.iconst 1, 1) := by decide +kernel
theorem dX2_play_60 : decode cX2_play 60 = .ok (.iadd, 1) := by decide +kernel
theorem dX2_play_61 : decode cX2_play 61 = .ok (.aload_n 0, 1) := by decide +kernel
theorem dX2_play_62 : decode cX2_play 62 = .ok (.getfield 34, 3) := by decide +kernel
theorem dX2_play_65 : decode cX2_play 65 = .ok (.if_icmp .ge 12, 3) := by decide +kernel
theorem dX2_play_68 : decode cX2_play 68 = .ok (.aload_n 0, 1) := by decide +kernel
theorem dX2_play_69 : decode cX2_play 69 = .ok (.getfield 37, 3) := by decide +kernel
theorem dX2_play_72 : decode cX2_play 72 = .ok (.iconst 1, 1) := by decide +kernel
theorem dX2_play_73 : decode cX2_play 73 = .ok (.iadd, 1) := by decide +kernel
theorem dX2_play_74 : decode cX2_play 74 = .ok (.goto 4, 3) := by decide +kernel
theorem dX2_play_77 : decode cX2_play 77 = .ok (.iconst 0, 1) := by decide +kernel
theorem dX2_play_78 : decode cX2_play 78 = .ok (.putfield 37, 3) := by decide +kernel
theorem dX2_play_81 : decode cX2_play 81 = .ok (.aload_n 0, 1) := by decide +kernel
theorem dX2_play_82 : decode cX2_play 82 = .ok (.dup, 1) := by decide +kernel
theorem dX2_play_83 : decode cX2_play 83 = .ok (.getfield 40, 3) := by decide +kernel
theorem dX2_play_86 : decode cX2_play 86 = .ok (.iconst 1, 1) := by decide +kernel
theorem dX2_play_87 : decode cX2_play 87 = .ok (.iadd, 1) := by decide +kernel
theorem dX2_play_88 : decode cX2_play 88 = .ok (.putfield 40, 3) := by decide +kernel
theorem dX2_play_91 : decode cX2_play 91 = .ok (.return_, 1) := by decide +kernel
theorem dX2_paceBehind_0 : decode cX2_paceBehind 0 = .ok (.iload_n 2, 1) := by decide +kernel
theorem dX2_paceBehind_1 : decode cX2_paceBehind 1 = .ok (.iconst 4, 1) := by decide +kernel
theorem dX2_paceBehind_2 : decode cX2_paceBehind 2 = .ok (.if_icmp .ne 7, 3) := by decide +kernel
theorem dX2_paceBehind_5 : decode cX2_paceBehind 5 = .ok (.iconst 0, 1) := by decide +kernel
theorem dX2_paceBehind_6 : decode cX2_paceBehind 6 = .ok (.goto 9, 3) := by decide +kernel
theorem dX2_paceBehind_9 : decode cX2_paceBehind 9 = .ok (.aload_n 0, 1) := by decide +kernel
theorem dX2_paceBehind_10 : decode cX2_paceBehind 10 = .ok (.getfield 15, 3) := by decide +kernel
theorem dX2_paceBehind_13 : decode cX2_paceBehind 13 = .ok (.iload_n 1, 1) := by decide +kernel
theorem dX2_paceBehind_14 : decode cX2_paceBehind 14 = .ok (.iaload, 1) := by decide +kernel
theorem dX2_paceBehind_15 : decode cX2_paceBehind 15 = .ok (.istore_n 3, 1) := by decide +kernel
theorem dX2_paceBehind_16 : decode cX2_paceBehind 16 = .ok (.aload_n 0, 1) := by decide +kernel
theorem dX2_paceBehind_17 : decode cX2_paceBehind 17 = .ok (.getfield 18, 3) := by decide +kernel
theorem dX2_paceBehind_20 : decode cX2_paceBehind 20 = .ok (.iload_n 1, 1) := by decide +kernel
theorem dX2_paceBehind_21 : decode cX2_paceBehind 21 = .ok (.iaload, 1) := by decide +kernel
theorem dX2_paceBehind_22 : decode cX2_paceBehind 22 = .ok (.aload_n 0, 1) := by decide +kernel
theorem dX2_paceBehind_23 : decode cX2_paceBehind 23 = .ok (.iload_n 1, 1) := by decide +kernel
theorem dX2_paceBehind_24 : decode cX2_paceBehind 24 = .ok (.invokevirtual 79, 3) := by decide +kernel
theorem dX2_paceBehind_27 : decode cX2_paceBehind 27 = .ok (.bipush 10, 2) := by decide +kernel
theorem dX2_paceBehind_29 : decode cX2_paceBehind 29 = .ok (.idiv, 1) := by decide +kernel
theorem dX2_paceBehind_30 : decode cX2_paceBehind 30 = .ok (.iadd, 1) := by decide +kernel
theorem dX2_paceBehind_31 : decode cX2_paceBehind 31 = .ok (.iload_n 3, 1) := by decide +kernel
theorem dX2_paceBehind_32 : decode cX2_paceBehind 32 = .ok (.iadd, 1) := by decide +kernel
theorem dX2_paceBehind_33 : decode cX2_paceBehind 33 = .ok (.aload_n 0, 1) := by decide +kernel
theorem dX2_paceBehind_34 : decode cX2_paceBehind 34 = .ok (.iload_n 1, 1) := by decide +kernel
theorem dX2_paceBehind_35 : decode cX2_paceBehind 35 = .ok (.iload_n 2, 1) := by decide +kernel
theorem dX2_paceBehind_36 : decode cX2_paceBehind 36 = .ok (.invokevirtual 82, 3) := by decide +kernel
theorem dX2_paceBehind_39 : decode cX2_paceBehind 39 = .ok (.iadd, 1) := by decide +kernel
theorem dX2_paceBehind_40 : decode cX2_paceBehind 40 = .ok (.istore 4, 2) := by decide +kernel
theorem dX2_paceBehind_42 : decode cX2_paceBehind 42 = .ok (.iload 4, 2) := by decide +kernel
theorem dX2_paceBehind_44 : decode cX2_paceBehind 44 = .ok (.aload_n 0, 1) := by decide +kernel
theorem dX2_paceBehind_45 : decode cX2_paceBehind 45 = .ok (.aload_n 0, 1) := by decide +kernel
theorem dX2_paceBehind_46 : decode cX2_paceBehind 46 = .ok (.getfield 9, 3) := by decide +kernel
theorem dX2_paceBehind_49 : decode cX2_paceBehind 49 = .ok (.iload_n 1, 1) := by decide +kernel
theorem dX2_paceBehind_50 : decode cX2_paceBehind 50 = .ok (.iaload, 1) := by decide +kernel
theorem dX2_paceBehind_51 : decode cX2_paceBehind 51 = .ok (.iload 4, 2) := by decide +kernel
theorem dX2_paceBehind_53 : decode cX2_paceBehind 53 = .ok (.invokevirtual 85, 3) := by decide +kernel
theorem dX2_paceBehind_56 : decode cX2_paceBehind 56 = .ok (.iadd, 1) := by decide +kernel
theorem dX2_paceBehind_57 : decode cX2_paceBehind 57 = .ok (.invokestatic 69, 3) := by decide +kernel
theorem dX2_paceBehind_60 : decode cX2_paceBehind 60 = .ok (.ireturn, 1) := by decide +kernel
theorem dX2_pull_0 : decode cX2_pull 0 = .ok (.aload_n 0, 1) := by decide +kernel
theorem dX2_pull_1 : decode cX2_pull 1 = .ok (.getfield 18, 3) := by decide +kernel
theorem dX2_pull_4 : decode cX2_pull 4 = .ok (.iload_n 1, 1) := by decide +kernel
theorem dX2_pull_5 : decode cX2_pull 5 = .ok (.iaload, 1) := by decide +kernel
theorem dX2_pull_6 : decode cX2_pull 6 = .ok (.istore_n 2, 1) := by decide +kernel
theorem dX2_pull_7 : decode cX2_pull 7 = .ok (.iconst 0, 1) := by decide +kernel
theorem dX2_pull_8 : decode cX2_pull 8 = .ok (.istore_n 3, 1) := by decide +kernel
theorem dX2_pull_9 : decode cX2_pull 9 = .ok (.iconst 0, 1) := by decide +kernel
theorem dX2_pull_10 : decode cX2_pull 10 = .ok (.istore 4, 2) := by decide +kernel
theorem dX2_pull_12 : decode cX2_pull 12 = .ok (.iload 4, 2) := by decide +kernel
theorem dX2_pull_14 : decode cX2_pull 14 = .ok (.aload_n 0, 1) := by decide +kernel
theorem dX2_pull_15 : decode cX2_pull 15 = .ok (.getfield 30, 3) := by decide +kernel
theorem dX2_pull_18 : decode cX2_pull 18 = .ok (.if_icmp .ge 33, 3) := by decide +kernel
theorem dX2_pull_21 : decode cX2_pull 21 = .ok (.iload_n 3, 1) := by decide +kernel
theorem dX2_pull_22 : decode cX2_pull 22 = .ok (.aload_n 0, 1) := by decide +kernel
theorem dX2_pull_23 : decode cX2_pull 23 = .ok (.getfield 24, 3) := by decide +kernel
theorem dX2_pull_26 : decode cX2_pull 26 = .ok (.iconst 5, 1) := by decide +kernel
theorem dX2_pull_27 : decode cX2_pull 27 = .ok (.iload_n 1, 1) := by decide +kernel
theorem dX2_pull_28 : decode cX2_pull 28 = .ok (.imul, 1) := by decide +kernel
theorem dX2_pull_29 : decode cX2_pull 29 = .ok (.iload 4, 2) := by decide +kernel
theorem dX2_pull_31 : decode cX2_pull 31 = .ok (.iadd, 1) := by decide +kernel
theorem dX2_pull_32 : decode cX2_pull 32 = .ok (.iaload, 1) := by decide +kernel
theorem dX2_pull_33 : decode cX2_pull 33 = .ok (.aload_n 0, 1) := by decide +kernel
theorem dX2_pull_34 : decode cX2_pull 34 = .ok (.getfield 18, 3) := by decide +kernel
theorem dX2_pull_37 : decode cX2_pull 37 = .ok (.iload 4, 2) := by decide +kernel
theorem dX2_pull_39 : decode cX2_pull 39 = .ok (.iaload, 1) := by decide +kernel
theorem dX2_pull_40 : decode cX2_pull 40 = .ok (.iload_n 2, 1) := by decide +kernel
theorem dX2_pull_41 : decode cX2_pull 41 = .ok (.isub, 1) := by decide +kernel
theorem dX2_pull_42 : decode cX2_pull 42 = .ok (.imul, 1) := by decide +kernel
theorem dX2_pull_43 : decode cX2_pull 43 = .ok (.iadd, 1) := by decide +kernel
theorem dX2_pull_44 : decode cX2_pull 44 = .ok (.istore_n 3, 1) := by decide +kernel
theorem dX2_pull_45 : decode cX2_pull 45 = .ok (.iinc 4 1, 3) := by decide +kernel
theorem dX2_pull_48 : decode cX2_pull 48 = .ok (.goto (-36), 3) := by decide +kernel
theorem dX2_pull_51 : decode cX2_pull 51 = .ok (.iload_n 3, 1) := by decide +kernel
theorem dX2_pull_52 : decode cX2_pull 52 = .ok (.ireturn, 1) := by decide +kernel
theorem dX2_nearing_0 : decode cX2_nearing 0 = .ok (.bipush 10, 2) := by decide +kernel
theorem dX2_nearing_2 : decode cX2_nearing 2 = .ok (.aload_n 0, 1) := by decide +kernel
theorem dX2_nearing_3 : decode cX2_nearing 3 = .ok (.getfield 52, 3) := by decide +kernel
theorem dX2_nearing_6 : decode cX2_nearing 6 = .ok (.imul, 1) := by decide +kernel
theorem dX2_nearing_7 : decode cX2_nearing 7 = .ok (.iload_n 2, 1) := by decide +kernel
theorem dX2_nearing_8 : decode cX2_nearing 8 = .ok (.isub, 1) := by decide +kernel
theorem dX2_nearing_9 : decode cX2_nearing 9 = .ok (.iconst 2, 1) := by decide +kernel
theorem dX2_nearing_10 : decode cX2_nearing 10 = .ok (.idiv, 1) := by decide +kernel
theorem dX2_nearing_11 : decode cX2_nearing 11 = .ok (.istore_n 3, 1) := by decide +kernel
theorem dX2_nearing_12 : decode cX2_nearing 12 = .ok (.iload_n 1, 1) := by decide +kernel
theorem dX2_nearing_13 : decode cX2_nearing 13 = .ok (.iconst 4, 1) := by decide +kernel
theorem dX2_nearing_14 : decode cX2_nearing 14 = .ok (.if_icmp .ne 7, 3) := by decide +kernel
theorem dX2_nearing_17 : decode cX2_nearing 17 = .ok (.iload_n 3, 1) := by decide +kernel
theorem dX2_nearing_18 : decode cX2_nearing 18 = .ok (.goto 15, 3) := by decide +kernel
theorem dX2_nearing_21 : decode cX2_nearing 21 = .ok (.iload_n 1, 1) := by decide +kernel
theorem dX2_nearing_22 : decode cX2_nearing 22 = .ok (.iconst 5, 1) := by decide +kernel
theorem dX2_nearing_23 : decode cX2_nearing 23 = .ok (.if_icmp .ne 9, 3) := by decide +kernel
theorem dX2_nearing_26 : decode cX2_nearing 26 = .ok (.iload_n 3, 1) := by decide +kernel
theorem dX2_nearing_27 : decode cX2_nearing 27 = .ok (.iconst 2, 1) := by decide +kernel
theorem dX2_nearing_28 : decode cX2_nearing 28 = .ok (.idiv, 1) := by decide +kernel
theorem dX2_nearing_29 : decode cX2_nearing 29 = .ok (.goto 4, 3) := by decide +kernel
theorem dX2_nearing_32 : decode cX2_nearing 32 = .ok (.iconst 0, 1) := by decide +kernel
theorem dX2_nearing_33 : decode cX2_nearing 33 = .ok (.ireturn, 1) := by decide +kernel
theorem dX3_init_0 : decode cX3_init 0 = .ok (.aload_n 0, 1) := by decide +kernel
theorem dX3_init_1 : decode cX3_init 1 = .ok (.invokespecial 3, 3) := by decide +kernel
theorem dX3_init_4 : decode cX3_init 4 = .ok (.aload_n 0, 1) := by decide +kernel
theorem dX3_init_5 : decode cX3_init 5 = .ok (.bipush 6, 2) := by decide +kernel
theorem dX3_init_7 : decode cX3_init 7 = .ok (.newarray .int, 2) := by decide +kernel
theorem dX3_init_9 : decode cX3_init 9 = .ok (.putfield 9, 3) := by decide +kernel
theorem dX3_init_12 : decode cX3_init 12 = .ok (.aload_n 0, 1) := by decide +kernel
theorem dX3_init_13 : decode cX3_init 13 = .ok (.bipush 6, 2) := by decide +kernel
theorem dX3_init_15 : decode cX3_init 15 = .ok (.newarray .int, 2) := by decide +kernel
theorem dX3_init_17 : decode cX3_init 17 = .ok (.putfield 15, 3) := by decide +kernel
theorem dX3_init_20 : decode cX3_init 20 = .ok (.return_, 1) := by decide +kernel
theorem dX3_findLeast_0 : decode cX3_findLeast 0 = .ok (.iconst 0, 1) := by decide +kernel
theorem dX3_findLeast_1 : decode cX3_findLeast 1 = .ok (.istore_n 3, 1) := by decide +kernel
theorem dX3_findLeast_2 : decode cX3_findLeast 2 = .ok (.iload_n 3, 1) := by decide +kernel
theorem dX3_findLeast_3 : decode cX3_findLeast 3 = .ok (.iload_n 2, 1) := by decide +kernel
theorem dX3_findLeast_4 : decode cX3_findLeast 4 = .ok (.if_icmp .ge 16, 3) := by decide +kernel
theorem dX3_findLeast_7 : decode cX3_findLeast 7 = .ok (.aload_n 0, 1) := by decide +kernel
theorem dX3_findLeast_8 : decode cX3_findLeast 8 = .ok (.getfield 9, 3) := by decide +kernel
theorem dX3_findLeast_11 : decode cX3_findLeast 11 = .ok (.iload_n 3, 1) := by decide +kernel
theorem dX3_findLeast_12 : decode cX3_findLeast 12 = .ok (.iload_n 3, 1) := by decide +kernel
theorem dX3_findLeast_13 : decode cX3_findLeast 13 = .ok (.iastore, 1) := by decide +kernel
theorem dX3_findLeast_14 : decode cX3_findLeast 14 = .ok (.iinc 3 1, 3) := by decide +kernel
theorem dX3_findLeast_17 : decode cX3_findLeast 17 = .ok (.goto (-15), 3) := by decide +kernel
theorem dX3_findLeast_20 : decode cX3_findLeast 20 = .ok (.aload_n 0, 1) := by decide +kernel
theorem dX3_findLeast_21 : decode cX3_findLeast 21 = .ok (.ldc 20, 2) := by decide +kernel
theorem dX3_findLeast_23 : decode cX3_findLeast 23 = .ok (.putfield 21, 3) := by decide +kernel
theorem dX3_findLeast_26 : decode cX3_findLeast 26 = .ok (.iconst 1, 1) := by decide +kernel
theorem dX3_findLeast_27 : decode cX3_findLeast 27 = .ok (.istore_n 3, 1) := by decide +kernel
theorem dX3_findLeast_28 : decode cX3_findLeast 28 = .ok (.iconst 0, 1) := by decide +kernel
theorem dX3_findLeast_29 : decode cX3_findLeast 29 = .ok (.istore 4, 2) := by decide +kernel
theorem dX3_findLeast_31 : decode cX3_findLeast 31 = .ok (.iload 4, 2) := by decide +kernel
theorem dX3_findLeast_33 : decode cX3_findLeast 33 = .ok (.sipush 720, 3) := by decide +kernel
theorem dX3_findLeast_36 : decode cX3_findLeast 36 = .ok (.if_icmp .ge 56, 3) := by decide +kernel
theorem dX3_findLeast_39 : decode cX3_findLeast 39 = .ok (.iload_n 3, 1) := by decide +kernel
theorem dX3_findLeast_40 : decode cX3_findLeast 40 = .ok (.ifCond .eq 52, 3) := by decide +kernel
theorem dX3_findLeast_43 : decode cX3_findLeast 43 = .ok (.aload_n 0, 1) := by decide +kernel
theorem dX3_findLeast_44 : decode cX3_findLeast 44 = .ok (.aload_n 1, 1) := by decide +kernel
theorem dX3_findLeast_45 : decode cX3_findLeast 45 = .ok (.iload_n 2, 1) := by decide +kernel
theorem dX3_findLeast_46 : decode cX3_findLeast 46 = .ok (.invokevirtual 25, 3) := by decide +kernel
theorem dX3_findLeast_49 : decode cX3_findLeast 49 = .ok (.istore 5, 2) := by decide +kernel
theorem dX3_findLeast_51 : decode cX3_findLeast 51 = .ok (.iload 5, 2) := by decide +kernel
theorem dX3_findLeast_53 : decode cX3_findLeast 53 = .ok (.aload_n 0, 1) := by decide +kernel
theorem dX3_findLeast_54 : decode cX3_findLeast 54 = .ok (.getfield 21, 3) := by decide +kernel
theorem dX3_findLeast_57 : decode cX3_findLeast 57 = .ok (.if_icmp .ge 23, 3) := by decide +kernel
theorem dX3_findLeast_60 : decode cX3_findLeast 60 = .ok (.aload_n 0, 1) := by decide +kernel
theorem dX3_findLeast_61 : decode cX3_findLeast 61 = .ok (.iload 5, 2) := by decide +kernel
theorem dX3_findLeast_63 : decode cX3_findLeast 63 = .ok (.putfield 21, 3) := by decide +kernel
theorem dX3_findLeast_66 : decode cX3_findLeast 66 = .ok (.aload_n 0, 1) := by decide +kernel
theorem dX3_findLeast_67 : decode cX3_findLeast 67 = .ok (.getfield 9, 3) := by decide +kernel
theorem dX3_findLeast_70 : decode cX3_findLeast 70 = .ok (.iconst 0, 1) := by decide +kernel
theorem dX3_findLeast_71 : decode cX3_findLeast 71 = .ok (.aload_n 0, 1) := by decide +kernel
theorem dX3_findLeast_72 : decode cX3_findLeast 72 = .ok (.getfield 15, 3) := by decide +kernel
theorem dX3_findLeast_75 : decode cX3_findLeast 75 = .ok (.iconst 0, 1) := by decide +kernel
theorem dX3_findLeast_76 : decode cX3_findLeast 76 = .ok (.iload_n 2, 1) := by decide +kernel
theorem dX3_findLeast_77 : decode cX3_findLeast 77 = .ok (.invokestatic 29, 3) := by decide +kernel
theorem dX3_findLeast_80 : decode cX3_findLeast 80 = .ok (.aload_n 0, 1) := by decide +kernel
theorem dX3_findLeast_81 : decode cX3_findLeast 81 = .ok (.iload_n 2, 1) := by decide +kernel
theorem dX3_findLeast_82 : decode cX3_findLeast 82 = .ok (.invokevirtual 35, 3) := by decide +kernel
theorem dX3_findLeast_85 : decode cX3_findLeast 85 = .ok (.istore_n 3, 1) := by decide +kernel
theorem dX3_findLeast_86 : decode cX3_findLeast 86 = .ok (.iinc 4 1, 3) := by decide +kernel
theorem dX3_findLeast_89 : decode cX3_findLeast 89 = .ok (.goto (-58), 3) := by decide +kernel
theorem dX3_findLeast_92 : decode cX3_findLeast 92 = .ok (.return_, 1) := by decide +kernel
theorem dX3_changes_0 : decode cX3_changes 0 = .ok (.iconst 0, 1) := by decide +kernel
theorem dX3_changes_1 : decode cX3_changes 1 = .ok (.istore_n 3, 1) := by decide +kernel
theorem dX3_changes_2 : decode cX3_changes 2 = .ok (.iconst 1, 1) := by decide +kernel
theorem dX3_changes_3 : decode cX3_changes 3 = .ok (.istore 4, 2) := by decide +kernel
theorem dX3_changes_5 : decode cX3_changes 5 = .ok (.iload 4, 2) := by decide +kernel
theorem dX3_changes_7 : decode cX3_changes 7 = .ok (.iload_n 2, 1) := by decide +kernel
theorem dX3_changes_8 : decode cX3_changes 8 = .ok (.if_icmp .ge 36, 3) := by decide +kernel
theorem dX3_changes_11 : decode cX3_changes 11 = .ok (.iload_n 3, 1) := by decide +kernel
theorem dX3_changes_12 : decode cX3_changes 12 = .ok (.aload_n 1, 1) := by decide +kernel
theorem dX3_changes_13 : decode cX3_changes 13 = .ok (.aload_n 0, 1) := by decide +kernel
theorem dX3_changes_14 : decode cX3_changes 14 = .ok (.getfield 9, 3) := by decide +kernel
theorem dX3_changes_17 : decode cX3_changes 17 = .ok (.iload 4, 2) := by decide +kernel
theorem dX3_changes_19 : decode cX3_changes 19 = .ok (.iaload, 1) := by decide +kernel
theorem dX3_changes_20 : decode cX3_changes 20 = .ok (.iaload, 1) := by decide +kernel
theorem dX3_changes_21 : decode cX3_changes 21 = .ok (.aload_n 1, 1) := by decide +kernel
theorem dX3_changes_22 : decode cX3_changes 22 = .ok (.aload_n 0, 1) := by decide +kernel
theorem dX3_changes_23 : decode cX3_changes 23 = .ok (.getfield 9, 3) := by decide +kernel
theorem dX3_changes_26 : decode cX3_changes 26 = .ok (.iload 4, 2) := by decide +kernel
theorem dX3_changes_28 : decode cX3_changes 28 = .ok (.iconst 1, 1) := by decide +kernel
theorem dX3_changes_29 : decode cX3_changes 29 = .ok (.isub, 1) := by decide +kernel
theorem dX3_changes_30 : decode cX3_changes 30 = .ok (.iaload, 1) := by decide +kernel
theorem dX3_changes_31 : decode cX3_changes 31 = .ok (.iaload, 1) := by decide +kernel
theorem dX3_changes_32 : decode cX3_changes 32 = .ok (.isub, 1) := by decide +kernel
theorem dX3_changes_33 : decode cX3_changes 33 = .ok (.invokestatic 39, 3) := by decide +kernel
theorem dX3_changes_36 : decode cX3_changes 36 = .ok (.iadd, 1) := by decide +kernel
theorem dX3_changes_37 : decode cX3_changes 37 = .ok (.istore_n 3, 1) := by decide +kernel
theorem dX3_changes_38 : decode cX3_changes 38 = .ok (.iinc 4 1, 3) := by decide +kernel
theorem dX3_changes_41 : decode cX3_changes 41 = .ok (.goto (-36), 3) := by decide +kernel
theorem dX3_changes_44 : decode cX3_changes 44 = .ok (.iload_n 3, 1) := by decide +kernel
theorem dX3_changes_45 : decode cX3_changes 45 = .ok (.ireturn, 1) := by decide +kernel
theorem dX3_step_0 : decode cX3_step 0 = .ok (.iload_n 1, 1) := by decide +kernel
theorem dX3_step_1 : decode cX3_step 1 = .ok (.iconst 2, 1) := by decide +kernel
theorem dX3_step_2 : decode cX3_step 2 = .ok (.isub, 1) := by decide +kernel
theorem dX3_step_3 : decode cX3_step 3 = .ok (.istore_n 2, 1) := by decide +kernel
theorem dX3_step_4 : decode cX3_step 4 = .ok (.iload_n 2, 1) := by decide +kernel
theorem dX3_step_5 : decode cX3_step 5 = .ok (.ifCond .lt 26, 3) := by decide +kernel
theorem dX3_step_8 : decode cX3_step 8 = .ok (.aload_n 0, 1) := by decide +kernel
theorem dX3_step_9 : decode cX3_step 9 = .ok (.getfield 9, 3) := by decide +kernel
theorem dX3_step_12 : decode cX3_step 12 = .ok (.iload_n 2, 1) := by decide +kernel
theorem dX3_step_13 : decode cX3_step 13 = .ok (.iaload, 1) := by decide +kernel
theorem dX3_step_14 : decode cX3_step 14 = .ok (.aload_n 0, 1) := by decide +kernel
theorem dX3_step_15 : decode cX3_step 15 = .ok (.getfield 9, 3) := by decide +kernel
theorem dX3_step_18 : decode cX3_step 18 = .ok (.iload_n 2, 1) := by decide +kernel
theorem dX3_step_19 : decode cX3_step 19 = .ok (.iconst 1, 1) := by decide +kernel
theorem dX3_step_20 : decode cX3_step 20 = .ok (.iadd, 1) := by decide +kernel
theorem dX3_step_21 : decode cX3_step 21 = .ok (.iaload, 1) := by decide +kernel
theorem dX3_step_22 : decode cX3_step 22 = .ok (.if_icmp .le 9, 3) := by decide +kernel
theorem dX3_step_25 : decode cX3_step 25 = .ok (.iinc 2 (-1), 3) := by decide +kernel
theorem dX3_step_28 : decode cX3_step 28 = .ok (.goto (-24), 3) := by decide +kernel
theorem dX3_step_31 : decode cX3_step 31 = .ok (.iload_n 2, 1) := by decide +kernel
theorem dX3_step_32 : decode cX3_step 32 = .ok (.ifCond .ge 5, 3) := by decide +kernel
theorem dX3_step_35 : decode cX3_step 35 = .ok (.iconst 0, 1) := by decide +kernel
theorem dX3_step_36 : decode cX3_step 36 = .ok (.ireturn, 1) := by decide +kernel
theorem dX3_step_37 : decode cX3_step 37 = .ok (.iload_n 1, 1) := by decide +kernel
theorem dX3_step_38 : decode cX3_step 38 = .ok (.iconst 1, 1) := by decide +kernel
theorem dX3_step_39 : decode cX3_step 39 = .ok (.isub, 1) := by decide +kernel
theorem dX3_step_40 : decode cX3_step 40 = .ok (.istore_n 3, 1) := by decide +kernel
theorem dX3_step_41 : decode cX3_step 41 = .ok (.iload_n 3, 1) := by decide +kernel
theorem dX3_step_42 : decode cX3_step 42 = .ok (.iload_n 2, 1) := by decide +kernel
theorem dX3_step_43 : decode cX3_step 43 = .ok (.if_icmp .le 24, 3) := by decide +kernel
theorem dX3_step_46 : decode cX3_step 46 = .ok (.aload_n 0, 1) := by decide +kernel
theorem dX3_step_47 : decode cX3_step 47 = .ok (.getfield 9, 3) := by decide +kernel
theorem dX3_step_50 : decode cX3_step 50 = .ok (.iload_n 3, 1) := by decide +kernel
theorem dX3_step_51 : decode cX3_step 51 = .ok (.iaload, 1) := by decide +kernel
theorem dX3_step_52 : decode cX3_step 52 = .ok (.aload_n 0, 1) := by decide +kernel
theorem dX3_step_53 : decode cX3_step 53 = .ok (.getfield 9, 3) := by decide +kernel
theorem dX3_step_56 : decode cX3_step 56 = .ok (.iload_n 2, 1) := by decide +kernel
theorem dX3_step_57 : decode cX3_step 57 = .ok (.iaload, 1) := by decide +kernel
theorem dX3_step_58 : decode cX3_step 58 = .ok (.if_icmp .ge 9, 3) := by decide +kernel
theorem dX3_step_61 : decode cX3_step 61 = .ok (.iinc 3 (-1), 3) := by decide +kernel
theorem dX3_step_64 : decode cX3_step 64 = .ok (.goto (-23), 3) := by decide +kernel
theorem dX3_step_67 : decode cX3_step 67 = .ok (.aload_n 0, 1) := by decide +kernel
theorem dX3_step_68 : decode cX3_step 68 = .ok (.iload_n 2, 1) := by decide +kernel
theorem dX3_step_69 : decode cX3_step 69 = .ok (.iload_n 3, 1) := by decide +kernel
theorem dX3_step_70 : decode cX3_step 70 = .ok (.invokevirtual 45, 3) := by decide +kernel
theorem dX3_step_73 : decode cX3_step 73 = .ok (.iload_n 2, 1) := by decide +kernel
theorem dX3_step_74 : decode cX3_step 74 = .ok (.iconst 1, 1) := by decide +kernel
theorem dX3_step_75 : decode cX3_step 75 = .ok (.iadd, 1) := by decide +kernel
theorem dX3_step_76 : decode cX3_step 76 = .ok (.istore 4, 2) := by decide +kernel
theorem dX3_step_78 : decode cX3_step 78 = .ok (.iload_n 1, 1) := by decide +kernel
theorem dX3_step_79 : decode cX3_step 79 = .ok (.iconst 1, 1) := by decide +kernel
theorem dX3_step_80 : decode cX3_step 80 = .ok (.isub, 1) := by decide +kernel
theorem dX3_step_81 : decode cX3_step 81 = .ok (.istore 5, 2) := by decide +kernel
theorem dX3_step_83 : decode cX3_step 83 = .ok (.iload 4, 2) := by decide +kernel
theorem dX3_step_85 : decode cX3_step 85 = .ok (.iload 5, 2) := by decide +kernel
theorem dX3_step_87 : decode cX3_step 87 = .ok (.if_icmp .ge 20, 3) := by decide +kernel
theorem dX3_step_90 : decode cX3_step 90 = .ok (.aload_n 0, 1) := by decide +kernel
theorem dX3_step_91 : decode cX3_step 91 = .ok (.iload 4, 2) := by decide +kernel
theorem dX3_step_93 : decode cX3_step 93 = .ok (.iload 5, 2) := by decide +kernel
theorem dX3_step_95 : decode cX3_step 95 = .ok (.invokevirtual 45, 3) := by decide +kernel
theorem dX3_step_98 : decode cX3_step 98 = .ok (.iinc 4 1, 3) := by decide +kernel
theorem dX3_step_101 : decode cX3_step 101 = .ok (.iinc 5 (-1), 3) := by decide +kernel
theorem dX3_step_104 : decode cX3_step 104 = .ok (.goto (-21), 3) := by decide +kernel
theorem dX3_step_107 : decode cX3_step 107 = .ok (.iconst 1, 1) := by decide +kernel
theorem dX3_step_108 : decode cX3_step 108 = .ok (.ireturn, 1) := by decide +kernel
theorem dX3_swap_0 : decode cX3_swap 0 = .ok (.aload_n 0, 1) := by decide +kernel
theorem dX3_swap_1 : decode cX3_swap 1 = .ok (.getfield 9, 3) := by decide +kernel
theorem dX3_swap_4 : decode cX3_swap 4 = .ok (.iload_n 1, 1) := by decide +kernel
theorem dX3_swap_5 : decode cX3_swap 5 = .ok (.iaload, 1) := by decide +kernel
theorem dX3_swap_6 : decode cX3_swap 6 = .ok (.istore_n 3, 1) := by decide +kernel
theorem dX3_swap_7 : decode cX3_swap 7 = .ok (.aload_n 0, 1) := by decide +kernel
theorem dX3_swap_8 : decode cX3_swap 8 = .ok (.getfield 9, 3) := by decide +kernel
theorem dX3_swap_11 : decode cX3_swap 11 = .ok (.iload_n 1, 1) := by decide +kernel
theorem dX3_swap_12 : decode cX3_swap 12 = .ok (.aload_n 0, 1) := by decide +kernel
theorem dX3_swap_13 : decode cX3_swap 13 = .ok (.getfield 9, 3) := by decide +kernel
theorem dX3_swap_16 : decode cX3_swap 16 = .ok (.iload_n 2, 1) := by decide +kernel
theorem dX3_swap_17 : decode cX3_swap 17 = .ok (.iaload, 1) := by decide +kernel
theorem dX3_swap_18 : decode cX3_swap 18 = .ok (.iastore, 1) := by decide +kernel
theorem dX3_swap_19 : decode cX3_swap 19 = .ok (.aload_n 0, 1) := by decide +kernel
theorem dX3_swap_20 : decode cX3_swap 20 = .ok (.getfield 9, 3) := by decide +kernel
theorem dX3_swap_23 : decode cX3_swap 23 = .ok (.iload_n 2, 1) := by decide +kernel
theorem dX3_swap_24 : decode cX3_swap 24 = .ok (.iload_n 3, 1) := by decide +kernel
theorem dX3_swap_25 : decode cX3_swap 25 = .ok (.iastore, 1) := by decide +kernel
theorem dX3_swap_26 : decode cX3_swap 26 = .ok (.return_, 1) := by decide +kernel
theorem dX4_init_0 : decode cX4_init 0 = .ok (.aload_n 0, 1) := by decide +kernel
theorem dX4_init_1 : decode cX4_init 1 = .ok (.invokespecial 3, 3) := by decide +kernel
theorem dX4_init_4 : decode cX4_init 4 = .ok (.aload_n 0, 1) := by decide +kernel
theorem dX4_init_5 : decode cX4_init 5 = .ok (.bipush 8, 2) := by decide +kernel
theorem dX4_init_7 : decode cX4_init 7 = .ok (.newarray .int, 2) := by decide +kernel
theorem dX4_init_9 : decode cX4_init 9 = .ok (.dup, 1) := by decide +kernel
theorem dX4_init_10 : decode cX4_init 10 = .ok (.iconst 0, 1) := by decide +kernel
theorem dX4_init_11 : decode cX4_init 11 = .ok (.iconst (-1), 1) := by decide +kernel
theorem dX4_init_12 : decode cX4_init 12 = .ok (.iastore, 1) := by decide +kernel
theorem dX4_init_13 : decode cX4_init 13 = .ok (.dup, 1) := by decide +kernel
theorem dX4_init_14 : decode cX4_init 14 = .ok (.iconst 1, 1) := by decide +kernel
theorem dX4_init_15 : decode cX4_init 15 = .ok (.iconst (-1), 1) := by decide +kernel
theorem dX4_init_16 : decode cX4_init 16 = .ok (.iastore, 1) := by decide +kernel
theorem dX4_init_17 : decode cX4_init 17 = .ok (.dup, 1) := by decide +kernel
theorem dX4_init_18 : decode cX4_init 18 = .ok (.iconst 2, 1) := by decide +kernel
theorem dX4_init_19 : decode cX4_init 19 = .ok (.iconst (-1), 1) := by decide +kernel
theorem dX4_init_20 : decode cX4_init 20 = .ok (.iastore, 1) := by decide +kernel
theorem dX4_init_21 : decode cX4_init 21 = .ok (.dup, 1) := by decide +kernel
theorem dX4_init_22 : decode cX4_init 22 = .ok (.iconst 3, 1) := by decide +kernel
theorem dX4_init_23 : decode cX4_init 23 = .ok (.iconst (-1), 1) := by decide +kernel
theorem dX4_init_24 : decode cX4_init 24 = .ok (.iastore, 1) := by decide +kernel
theorem dX4_init_25 : decode cX4_init 25 = .ok (.dup, 1) := by decide +kernel
theorem dX4_init_26 : decode cX4_init 26 = .ok (.iconst 4, 1) := by decide +kernel
theorem dX4_init_27 : decode cX4_init 27 = .ok (.iconst (-1), 1) := by decide +kernel
theorem dX4_init_28 : decode cX4_init 28 = .ok (.iastore, 1) := by decide +kernel
theorem dX4_init_29 : decode cX4_init 29 = .ok (.dup, 1) := by decide +kernel
theorem dX4_init_30 : decode cX4_init 30 = .ok (.iconst 5, 1) := by decide +kernel
theorem dX4_init_31 : decode cX4_init 31 = .ok (.iconst (-1), 1) := by decide +kernel
theorem dX4_init_32 : decode cX4_init 32 = .ok (.iastore, 1) := by decide +kernel
theorem dX4_init_33 : decode cX4_init 33 = .ok (.dup, 1) := by decide +kernel
theorem dX4_init_34 : decode cX4_init 34 = .ok (.bipush 6, 2) := by decide +kernel
theorem dX4_init_36 : decode cX4_init 36 = .ok (.iconst (-1), 1) := by decide +kernel
theorem dX4_init_37 : decode cX4_init 37 = .ok (.iastore, 1) := by decide +kernel
theorem dX4_init_38 : decode cX4_init 38 = .ok (.dup, 1) := by decide +kernel
theorem dX4_init_39 : decode cX4_init 39 = .ok (.bipush 7, 2) := by decide +kernel
theorem dX4_init_41 : decode cX4_init 41 = .ok (.iconst (-1), 1) := by decide +kernel
theorem dX4_init_42 : decode cX4_init 42 = .ok (.iastore, 1) := by decide +kernel
theorem dX4_init_43 : decode cX4_init 43 = .ok (.putfield 11, 3) := by decide +kernel
theorem dX4_init_46 : decode cX4_init 46 = .ok (.aload_n 0, 1) := by decide +kernel
theorem dX4_init_47 : decode cX4_init 47 = .ok (.bipush 8, 2) := by decide +kernel
theorem dX4_init_49 : decode cX4_init 49 = .ok (.newarray .int, 2) := by decide +kernel
theorem dX4_init_51 : decode cX4_init 51 = .ok (.putfield 15, 3) := by decide +kernel
theorem dX4_init_54 : decode cX4_init 54 = .ok (.aload_n 0, 1) := by decide +kernel
theorem dX4_init_55 : decode cX4_init 55 = .ok (.sipush 320, 3) := by decide +kernel
theorem dX4_init_58 : decode cX4_init 58 = .ok (.newarray .int, 2) := by decide +kernel
theorem dX4_init_60 : decode cX4_init 60 = .ok (.putfield 18, 3) := by decide +kernel
theorem dX4_init_63 : decode cX4_init 63 = .ok (.aload_n 0, 1) := by decide +kernel
theorem dX4_init_64 : decode cX4_init 64 = .ok (.bipush 40, 2) := by decide +kernel
theorem dX4_init_66 : decode cX4_init 66 = .ok (.newarray .int, 2) := by decide +kernel
theorem dX4_init_68 : decode cX4_init 68 = .ok (.putfield 21, 3) := by decide +kernel
theorem dX4_init_71 : decode cX4_init 71 = .ok (.return_, 1) := by decide +kernel
theorem dX4_isRow_0 : decode cX4_isRow 0 = .ok (.iload_n 1, 1) := by decide +kernel
theorem dX4_isRow_1 : decode cX4_isRow 1 = .ok (.ifCond .lt 13, 3) := by decide +kernel
theorem dX4_isRow_4 : decode cX4_isRow 4 = .ok (.iload_n 1, 1) := by decide +kernel
theorem dX4_isRow_5 : decode cX4_isRow 5 = .ok (.bipush 8, 2) := by decide +kernel
theorem dX4_isRow_7 : decode cX4_isRow 7 = .ok (.if_icmp .ge 7, 3) := by decide +kernel
theorem dX4_isRow_10 : decode cX4_isRow 10 = .ok (.iconst 1, 1) := by decide +kernel
theorem dX4_isRow_11 : decode cX4_isRow 11 = .ok (.goto 4, 3) := by decide +kernel
theorem dX4_isRow_14 : decode cX4_isRow 14 = .ok (.iconst 0, 1) := by decide +kernel
theorem dX4_isRow_15 : decode cX4_isRow 15 = .ok (.ireturn, 1) := by decide +kernel
theorem dX4_lacks_0 : decode cX4_lacks 0 = .ok (.aload_n 0, 1) := by decide +kernel
theorem dX4_lacks_1 : decode cX4_lacks 1 = .ok (.getfield 11, 3) := by decide +kernel
theorem dX4_lacks_4 : decode cX4_lacks 4 = .ok (.iload_n 1, 1) := by decide +kernel
theorem dX4_lacks_5 : decode cX4_lacks 5 = .ok (.iaload, 1) := by decide +kernel
theorem dX4_lacks_6 : decode cX4_lacks 6 = .ok (.iconst (-1), 1) := by decide +kernel
theorem dX4_lacks_7 : decode cX4_lacks 7 = .ok (.if_icmp .ne 7, 3) := by decide +kernel
theorem dX4_lacks_10 : decode cX4_lacks 10 = .ok (.iconst 1, 1) := by decide +kernel
theorem dX4_lacks_11 : decode cX4_lacks 11 = .ok (.goto 4, 3) := by decide +kernel
theorem dX4_lacks_14 : decode cX4_lacks 14 = .ok (.iconst 0, 1) := by decide +kernel
theorem dX4_lacks_15 : decode cX4_lacks 15 = .ok (.ireturn, 1) := by decide +kernel
theorem dX4_laneOf_0 : decode cX4_laneOf 0 = .ok (.aload_n 0, 1) := by decide +kernel
theorem dX4_laneOf_1 : decode cX4_laneOf 1 = .ok (.getfield 11, 3) := by decide +kernel
theorem dX4_laneOf_4 : decode cX4_laneOf 4 = .ok (.iload_n 1, 1) := by decide +kernel
theorem dX4_laneOf_5 : decode cX4_laneOf 5 = .ok (.iaload, 1) := by decide +kernel
theorem dX4_laneOf_6 : decode cX4_laneOf 6 = .ok (.ireturn, 1) := by decide +kernel
theorem dX4_holds_0 : decode cX4_holds 0 = .ok (.iload_n 2, 1) := by decide +kernel
theorem dX4_holds_1 : decode cX4_holds 1 = .ok (.ifCond .lt 23, 3) := by decide +kernel
theorem dX4_holds_4 : decode cX4_holds 4 = .ok (.iload_n 3, 1) := by decide +kernel
theorem dX4_holds_5 : decode cX4_holds 5 = .ok (.ifCond .lt 19, 3) := by decide +kernel
theorem dX4_holds_8 : decode cX4_holds 8 = .ok (.iload_n 2, 1) := by decide +kernel
theorem dX4_holds_9 : decode cX4_holds 9 = .ok (.aload_n 0, 1) := by decide +kernel
theorem dX4_holds_10 : decode cX4_holds 10 = .ok (.getfield 15, 3) := by decide +kernel
theorem dX4_holds_13 : decode cX4_holds 13 = .ok (.iload_n 1, 1) := by decide +kernel
theorem dX4_holds_14 : decode cX4_holds 14 = .ok (.iaload, 1) := by decide +kernel
theorem dX4_holds_15 : decode cX4_holds 15 = .ok (.iload_n 3, 1) := by decide +kernel
theorem dX4_holds_16 : decode cX4_holds 16 = .ok (.isub, 1) := by decide +kernel
theorem dX4_holds_17 : decode cX4_holds 17 = .ok (.if_icmp .gt 7, 3) := by decide +kernel
theorem dX4_holds_20 : decode cX4_holds 20 = .ok (.iconst 1, 1) := by decide +kernel
theorem dX4_holds_21 : decode cX4_holds 21 = .ok (.goto 4, 3) := by decide +kernel
theorem dX4_holds_24 : decode cX4_holds 24 = .ok (.iconst 0, 1) := by decide +kernel
theorem dX4_holds_25 : decode cX4_holds 25 = .ok (.ireturn, 1) := by decide +kernel
theorem dX4_make_0 : decode cX4_make 0 = .ok (.aload_n 0, 1) := by decide +kernel
theorem dX4_make_1 : decode cX4_make 1 = .ok (.getfield 11, 3) := by decide +kernel
theorem dX4_make_4 : decode cX4_make 4 = .ok (.iload_n 1, 1) := by decide +kernel
theorem dX4_make_5 : decode cX4_make 5 = .ok (.iload_n 2, 1) := by decide +kernel
theorem dX4_make_6 : decode cX4_make 6 = .ok (.iastore, 1) := by decide +kernel
theorem dX4_make_7 : decode cX4_make 7 = .ok (.aload_n 0, 1) := by decide +kernel
theorem dX4_make_8 : decode cX4_make 8 = .ok (.getfield 15, 3) := by decide +kernel
theorem dX4_make_11 : decode cX4_make 11 = .ok (.iload_n 1, 1) := by decide +kernel
theorem dX4_make_12 : decode cX4_make 12 = .ok (.iload_n 3, 1) := by decide +kernel
theorem dX4_make_13 : decode cX4_make 13 = .ok (.iastore, 1) := by decide +kernel
theorem dX4_make_14 : decode cX4_make 14 = .ok (.iconst 0, 1) := by decide +kernel
theorem dX4_make_15 : decode cX4_make 15 = .ok (.istore 4, 2) := by decide +kernel
theorem dX4_make_17 : decode cX4_make 17 = .ok (.iload 4, 2) := by decide +kernel
theorem dX4_make_19 : decode cX4_make 19 = .ok (.bipush 40, 2) := by decide +kernel
theorem dX4_make_21 : decode cX4_make 21 = .ok (.if_icmp .ge 22, 3) := by decide +kernel
theorem dX4_make_24 : decode cX4_make 24 = .ok (.aload_n 0, 1) := by decide +kernel
theorem dX4_make_25 : decode cX4_make 25 = .ok (.getfield 18, 3) := by decide +kernel
theorem dX4_make_28 : decode cX4_make 28 = .ok (.iload_n 1, 1) := by decide +kernel
theorem dX4_make_29 : decode cX4_make 29 = .ok (.bipush 40, 2) := by decide +kernel
theorem dX4_make_31 : decode cX4_make 31 = .ok (.imul, 1) := by decide +kernel
theorem dX4_make_32 : decode cX4_make 32 = .ok (.iload 4, 2) := by decide +kernel
theorem dX4_make_34 : decode cX4_make 34 = .ok (.iadd, 1) := by decide +kernel
theorem dX4_make_35 : decode cX4_make 35 = .ok (.iconst 0, 1) := by decide +kernel
theorem dX4_make_36 : decode cX4_make 36 = .ok (.iastore, 1) := by decide +kernel
theorem dX4_make_37 : decode cX4_make 37 = .ok (.iinc 4 1, 3) := by decide +kernel
theorem dX4_make_40 : decode cX4_make 40 = .ok (.goto (-23), 3) := by decide +kernel
theorem dX4_make_43 : decode cX4_make 43 = .ok (.return_, 1) := by decide +kernel
theorem dX4_put_0 : decode cX4_put 0 = .ok (.aload_n 0, 1) := by decide +kernel
theorem dX4_put_1 : decode cX4_put 1 = .ok (.getfield 11, 3) := by decide +kernel
theorem dX4_put_4 : decode cX4_put 4 = .ok (.iload_n 1, 1) := by decide +kernel
theorem dX4_put_5 : decode cX4_put 5 = .ok (.iaload, 1) := by decide +kernel
theorem dX4_put_6 : decode cX4_put 6 = .ok (.ifCond .ne 8, 3) := by decide +kernel
theorem dX4_put_9 : decode cX4_put 9 = .ok (.iload_n 3, 1) := by decide +kernel
theorem dX4_put_10 : decode cX4_put 10 = .ok (.i2b, 1) := by decide +kernel
theorem dX4_put_11 : decode cX4_put 11 = .ok (.goto 19, 3) := by decide +kernel
theorem dX4_put_14 : decode cX4_put 14 = .ok (.aload_n 0, 1) := by decide +kernel
theorem dX4_put_15 : decode cX4_put 15 = .ok (.getfield 11, 3) := by decide +kernel
theorem dX4_put_18 : decode cX4_put 18 = .ok (.iload_n 1, 1) := by decide +kernel
theorem dX4_put_19 : decode cX4_put 19 = .ok (.iaload, 1) := by decide +kernel
theorem dX4_put_20 : decode cX4_put 20 = .ok (.iconst 1, 1) := by decide +kernel
theorem dX4_put_21 : decode cX4_put 21 = .ok (.if_icmp .ne 8, 3) := by decide +kernel
theorem dX4_put_24 : decode cX4_put 24 = .ok (.iload_n 3, 1) := by decide +kernel
theorem dX4_put_25 : decode cX4_put 25 = .ok (.i2s, 1) := by decide +kernel
theorem dX4_put_26 : decode cX4_put 26 = .ok (.goto 4, 3) := by decide +kernel
theorem dX4_put_29 : decode cX4_put 29 = .ok (.iload_n 3, 1) := by decide +kernel
theorem dX4_put_30 : decode cX4_put 30 = .ok (.istore 4, 2) := by decide +kernel
theorem dX4_put_32 : decode cX4_put 32 = .ok (.aload_n 0, 1) := by decide +kernel
theorem dX4_put_33 : decode cX4_put 33 = .ok (.getfield 18, 3) := by decide +kernel
theorem dX4_put_36 : decode cX4_put 36 = .ok (.iload_n 1, 1) := by decide +kernel
theorem dX4_put_37 : decode cX4_put 37 = .ok (.bipush 40, 2) := by decide +kernel
theorem dX4_put_39 : decode cX4_put 39 = .ok (.imul, 1) := by decide +kernel
theorem dX4_put_40 : decode cX4_put 40 = .ok (.iload_n 2, 1) := by decide +kernel
theorem dX4_put_41 : decode cX4_put 41 = .ok (.iadd, 1) := by decide +kernel
theorem dX4_put_42 : decode cX4_put 42 = .ok (.iload 4, 2) := by decide +kernel
theorem dX4_put_44 : decode cX4_put 44 = .ok (.iastore, 1) := by decide +kernel
theorem dX4_put_45 : decode cX4_put 45 = .ok (.iload 4, 2) := by decide +kernel
theorem dX4_put_47 : decode cX4_put 47 = .ok (.ireturn, 1) := by decide +kernel
theorem dX4_carry_0 : decode cX4_carry 0 = .ok (.aload_n 0, 1) := by decide +kernel
theorem dX4_carry_1 : decode cX4_carry 1 = .ok (.getfield 18, 3) := by decide +kernel
theorem dX4_carry_4 : decode cX4_carry 4 = .ok (.iload_n 1, 1) := by decide +kernel
theorem dX4_carry_5 : decode cX4_carry 5 = .ok (.bipush 40, 2) := by decide +kernel
theorem dX4_carry_7 : decode cX4_carry 7 = .ok (.imul, 1) := by decide +kernel
theorem dX4_carry_8 : decode cX4_carry 8 = .ok (.iload_n 2, 1) := by decide +kernel
theorem dX4_carry_9 : decode cX4_carry 9 = .ok (.iadd, 1) := by decide +kernel
theorem dX4_carry_10 : decode cX4_carry 10 = .ok (.aload_n 0, 1) := by decide +kernel
theorem dX4_carry_11 : decode cX4_carry 11 = .ok (.getfield 18, 3) := by decide +kernel
theorem dX4_carry_14 : decode cX4_carry 14 = .ok (.iload_n 3, 1) := by decide +kernel
theorem dX4_carry_15 : decode cX4_carry 15 = .ok (.bipush 40, 2) := by decide +kernel
theorem dX4_carry_17 : decode cX4_carry 17 = .ok (.imul, 1) := by decide +kernel
theorem dX4_carry_18 : decode cX4_carry 18 = .ok (.iload 4, 2) := by decide +kernel
theorem dX4_carry_20 : decode cX4_carry 20 = .ok (.iadd, 1) := by decide +kernel
theorem dX4_carry_21 : decode cX4_carry 21 = .ok (.iload 5, 2) := by decide +kernel
theorem dX4_carry_23 : decode cX4_carry 23 = .ok (.invokestatic 24, 3) := by decide +kernel
theorem dX4_carry_26 : decode cX4_carry 26 = .ok (.return_, 1) := by decide +kernel
theorem dX4_lend_0 : decode cX4_lend 0 = .ok (.aload_n 0, 1) := by decide +kernel
theorem dX4_lend_1 : decode cX4_lend 1 = .ok (.getfield 18, 3) := by decide +kernel
theorem dX4_lend_4 : decode cX4_lend 4 = .ok (.iload_n 1, 1) := by decide +kernel
theorem dX4_lend_5 : decode cX4_lend 5 = .ok (.bipush 40, 2) := by decide +kernel
theorem dX4_lend_7 : decode cX4_lend 7 = .ok (.imul, 1) := by decide +kernel
theorem dX4_lend_8 : decode cX4_lend 8 = .ok (.iload_n 2, 1) := by decide +kernel
theorem dX4_lend_9 : decode cX4_lend 9 = .ok (.iadd, 1) := by decide +kernel
theorem dX4_lend_10 : decode cX4_lend 10 = .ok (.aload_n 0, 1) := by decide +kernel
theorem dX4_lend_11 : decode cX4_lend 11 = .ok (.getfield 21, 3) := by decide +kernel
theorem dX4_lend_14 : decode cX4_lend 14 = .ok (.iconst 0, 1) := by decide +kernel
theorem dX4_lend_15 : decode cX4_lend 15 = .ok (.iload_n 3, 1) := by decide +kernel
theorem dX4_lend_16 : decode cX4_lend 16 = .ok (.invokestatic 24, 3) := by decide +kernel
theorem dX4_lend_19 : decode cX4_lend 19 = .ok (.return_, 1) := by decide +kernel
theorem dX4_forget_0 : decode cX4_forget 0 = .ok (.aload_n 0, 1) := by decide +kernel
theorem dX4_forget_1 : decode cX4_forget 1 = .ok (.getfield 11, 3) := by decide +kernel
theorem dX4_forget_4 : decode cX4_forget 4 = .ok (.iload_n 1, 1) := by decide +kernel
theorem dX4_forget_5 : decode cX4_forget 5 = .ok (.iconst (-1), 1) := by decide +kernel
theorem dX4_forget_6 : decode cX4_forget 6 = .ok (.iastore, 1) := by decide +kernel
theorem dX4_forget_7 : decode cX4_forget 7 = .ok (.aload_n 0, 1) := by decide +kernel
theorem dX4_forget_8 : decode cX4_forget 8 = .ok (.getfield 15, 3) := by decide +kernel
theorem dX4_forget_11 : decode cX4_forget 11 = .ok (.iload_n 1, 1) := by decide +kernel
theorem dX4_forget_12 : decode cX4_forget 12 = .ok (.iaload, 1) := by decide +kernel
theorem dX4_forget_13 : decode cX4_forget 13 = .ok (.ireturn, 1) := by decide +kernel
theorem dX4_howMany_0 : decode cX4_howMany 0 = .ok (.iconst 0, 1) := by decide +kernel
theorem dX4_howMany_1 : decode cX4_howMany 1 = .ok (.istore_n 1, 1) := by decide +kernel
theorem dX4_howMany_2 : decode cX4_howMany 2 = .ok (.iconst 0, 1) := by decide +kernel
theorem dX4_howMany_3 : decode cX4_howMany 3 = .ok (.istore_n 2, 1) := by decide +kernel
theorem dX4_howMany_4 : decode cX4_howMany 4 = .ok (.iload_n 2, 1) := by decide +kernel
theorem dX4_howMany_5 : decode cX4_howMany 5 = .ok (.bipush 8, 2) := by decide +kernel
theorem dX4_howMany_7 : decode cX4_howMany 7 = .ok (.if_icmp .ge 20, 3) := by decide +kernel
theorem dX4_howMany_10 : decode cX4_howMany 10 = .ok (.aload_n 0, 1) := by decide +kernel
theorem dX4_howMany_11 : decode cX4_howMany 11 = .ok (.iload_n 2, 1) := by decide +kernel
theorem dX4_howMany_12 : decode cX4_howMany 12 = .ok (.invokevirtual 30, 3) := by decide +kernel
theorem dX4_howMany_15 : decode cX4_howMany 15 = .ok (.ifCond .ne 6, 3) := by decide +kernel
theorem dX4_howMany_18 : decode cX4_howMany 18 = .ok (.iinc 1 1, 3) := by decide +kernel
theorem dX4_howMany_21 : decode cX4_howMany 21 = .ok (.iinc 2 1, 3) := by decide +kernel
theorem dX4_howMany_24 : decode cX4_howMany 24 = .ok (.goto (-20), 3) := by decide +kernel
theorem dX4_howMany_27 : decode cX4_howMany 27 = .ok (.iload_n 1, 1) := by decide +kernel
theorem dX4_howMany_28 : decode cX4_howMany 28 = .ok (.ireturn, 1) := by decide +kernel
theorem dX5_init_0 : decode cX5_init 0 = .ok (.aload_n 0, 1) := by decide +kernel
theorem dX5_init_1 : decode cX5_init 1 = .ok (.invokespecial 3, 3) := by decide +kernel
theorem dX5_init_4 : decode cX5_init 4 = .ok (.aload_n 0, 1) := by decide +kernel
theorem dX5_init_5 : decode cX5_init 5 = .ok (.new 9, 3) := by decide +kernel
theorem dX5_init_8 : decode cX5_init 8 = .ok (.dup, 1) := by decide +kernel
theorem dX5_init_9 : decode cX5_init 9 = .ok (.invokespecial 11, 3) := by decide +kernel
theorem dX5_init_12 : decode cX5_init 12 = .ok (.putfield 12, 3) := by decide +kernel
theorem dX5_init_15 : decode cX5_init 15 = .ok (.aload_n 0, 1) := by decide +kernel
theorem dX5_init_16 : decode cX5_init 16 = .ok (.new 9, 3) := by decide +kernel
theorem dX5_init_19 : decode cX5_init 19 = .ok (.dup, 1) := by decide +kernel
theorem dX5_init_20 : decode cX5_init 20 = .ok (.invokespecial 11, 3) := by decide +kernel
theorem dX5_init_23 : decode cX5_init 23 = .ok (.putfield 18, 3) := by decide +kernel
theorem dX5_init_26 : decode cX5_init 26 = .ok (.aload_n 0, 1) := by decide +kernel
theorem dX5_init_27 : decode cX5_init 27 = .ok (.sipush 1005, 3) := by decide +kernel
theorem dX5_init_30 : decode cX5_init 30 = .ok (.newarray .int, 2) := by decide +kernel
theorem dX5_init_32 : decode cX5_init 32 = .ok (.putfield 21, 3) := by decide +kernel
theorem dX5_init_35 : decode cX5_init 35 = .ok (.aload_n 0, 1) := by decide +kernel
theorem dX5_init_36 : decode cX5_init 36 = .ok (.sipush 201, 3) := by decide +kernel
theorem dX5_init_39 : decode cX5_init 39 = .ok (.newarray .int, 2) := by decide +kernel
theorem dX5_init_41 : decode cX5_init 41 = .ok (.putfield 25, 3) := by decide +kernel
theorem dX5_init_44 : decode cX5_init 44 = .ok (.return_, 1) := by decide +kernel
theorem dX5_behind_0 : decode cX5_behind 0 = .ok (.aload_n 0, 1) := by decide +kernel
theorem dX5_behind_1 : decode cX5_behind 1 = .ok (.getfield 12, 3) := by decide +kernel
theorem dX5_behind_4 : decode cX5_behind 4 = .ok (.aload_n 1, 1) := by decide +kernel
theorem dX5_behind_5 : decode cX5_behind 5 = .ok (.invokevirtual 28, 3) := by decide +kernel
theorem dX5_behind_8 : decode cX5_behind 8 = .ok (.iconst 0, 1) := by decide +kernel
theorem dX5_behind_9 : decode cX5_behind 9 = .ok (.istore_n 3, 1) := by decide +kernel
theorem dX5_behind_10 : decode cX5_behind 10 = .ok (.iload_n 3, 1) := by decide +kernel
theorem dX5_behind_11 : decode cX5_behind 11 = .ok (.iload_n 2, 1) := by decide +kernel
theorem dX5_behind_12 : decode cX5_behind 12 = .ok (.if_icmp .ge 16, 3) := by decide +kernel
theorem dX5_behind_15 : decode cX5_behind 15 = .ok (.aload_n 0, 1) := by decide +kernel
theorem dX5_behind_16 : decode cX5_behind 16 = .ok (.getfield 12, 3) := by decide +kernel
theorem dX5_behind_19 : decode cX5_behind 19 = .ok (.invokevirtual 32, 3) := by decide +kernel
theorem dX5_behind_22 : decode cX5_behind 22 = .ok (.iinc 3 1, 3) := by decide +kernel
theorem dX5_behind_25 : decode cX5_behind 25 = .ok (.goto (-15), 3) := by decide +kernel
theorem dX5_behind_28 : decode cX5_behind 28 = .ok (.aload_n 0, 1) := by decide +kernel
theorem dX5_behind_29 : decode cX5_behind 29 = .ok (.getfield 12, 3) := by decide +kernel
theorem dX5_behind_32 : decode cX5_behind 32 = .ok (.areturn, 1) := by decide +kernel
theorem dX5_driftOf_0 : decode cX5_driftOf 0 = .ok (.aload_n 0, 1) := by decide +kernel
theorem dX5_driftOf_1 : decode cX5_driftOf 1 = .ok (.aload_n 1, 1) := by decide +kernel
theorem dX5_driftOf_2 : decode cX5_driftOf 2 = .ok (.aload_n 1, 1) := by decide +kernel
theorem dX5_driftOf_3 : decode cX5_driftOf 3 = .ok (.getfield 35, 3) := by decide +kernel
theorem dX5_driftOf_6 : decode cX5_driftOf 6 = .ok (.invokevirtual 39, 3) := by decide +kernel
theorem dX5_driftOf_9 : decode cX5_driftOf 9 = .ok (.invokevirtual 43, 3) := by decide +kernel
theorem dX5_driftOf_12 : decode cX5_driftOf 12 = .ok (.aload_n 1, 1) := by decide +kernel
theorem dX5_driftOf_13 : decode cX5_driftOf 13 = .ok (.invokevirtual 43, 3) := by decide +kernel
theorem dX5_driftOf_16 : decode cX5_driftOf 16 = .ok (.isub, 1) := by decide +kernel
theorem dX5_driftOf_17 : decode cX5_driftOf 17 = .ok (.ireturn, 1) := by decide +kernel
theorem dX5_findRound_0 : decode cX5_findRound 0 = .ok (.aload_n 0, 1) := by decide +kernel
theorem dX5_findRound_1 : decode cX5_findRound 1 = .ok (.getfield 12, 3) := by decide +kernel
theorem dX5_findRound_4 : decode cX5_findRound 4 = .ok (.aload_n 1, 1) := by decide +kernel
theorem dX5_findRound_5 : decode cX5_findRound 5 = .ok (.invokevirtual 28, 3) := by decide +kernel
theorem dX5_findRound_8 : decode cX5_findRound 8 = .ok (.aload_n 0, 1) := by decide +kernel
theorem dX5_findRound_9 : decode cX5_findRound 9 = .ok (.iconst 0, 1) := by decide +kernel
theorem dX5_findRound_10 : decode cX5_findRound 10 = .ok (.invokevirtual 47, 3) := by decide +kernel
theorem dX5_findRound_13 : decode cX5_findRound 13 = .ok (.iconst 1, 1) := by decide +kernel
theorem dX5_findRound_14 : decode cX5_findRound 14 = .ok (.istore_n 2, 1) := by decide +kernel
theorem dX5_findRound_15 : decode cX5_findRound 15 = .ok (.iload_n 2, 1) := by decide +kernel
theorem dX5_findRound_16 : decode cX5_findRound 16 = .ok (.sipush 200, 3) := by decide +kernel
theorem dX5_findRound_19 : decode cX5_findRound 19 = .ok (.if_icmp .gt 54, 3) := by decide +kernel
theorem dX5_findRound_22 : decode cX5_findRound 22 = .ok (.aload_n 0, 1) := by decide +kernel
theorem dX5_findRound_23 : decode cX5_findRound 23 = .ok (.getfield 12, 3) := by decide +kernel
theorem dX5_findRound_26 : decode cX5_findRound 26 = .ok (.invokevirtual 32, 3) := by decide +kernel
theorem dX5_findRound_29 : decode cX5_findRound 29 = .ok (.iconst 0, 1) := by decide +kernel
theorem dX5_findRound_30 : decode cX5_findRound 30 = .ok (.istore_n 3, 1) := by decide +kernel
theorem dX5_findRound_31 : decode cX5_findRound 31 = .ok (.iload_n 3, 1) := by decide +kernel
theorem dX5_findRound_32 : decode cX5_findRound 32 = .ok (.iload_n 2, 1) := by decide +kernel
theorem dX5_findRound_33 : decode cX5_findRound 33 = .ok (.if_icmp .ge 29, 3) := by decide +kernel
theorem dX5_findRound_36 : decode cX5_findRound 36 = .ok (.aload_n 0, 1) := by decide +kernel
theorem dX5_findRound_37 : decode cX5_findRound 37 = .ok (.iload_n 3, 1) := by decide +kernel
theorem dX5_findRound_38 : decode cX5_findRound 38 = .ok (.invokevirtual 51, 3) := by decide +kernel
theorem dX5_findRound_41 : decode cX5_findRound 41 = .ok (.ifCond .eq 15, 3) := by decide +kernel
theorem dX5_findRound_44 : decode cX5_findRound 44 = .ok (.aload_n 0, 1) := by decide +kernel
theorem dX5_findRound_45 : decode cX5_findRound 45 = .ok (.iload_n 2, 1) := by decide +kernel
theorem dX5_findRound_46 : decode cX5_findRound 46 = .ok (.putfield 55, 3) := by decide +kernel
theorem dX5_findRound_49 : decode cX5_findRound 49 = .ok (.aload_n 0, 1) := by decide +kernel
theorem dX5_findRound_50 : decode cX5_findRound 50 = .ok (.iload_n 3, 1) := by decide +kernel
theorem dX5_findRound_51 : decode cX5_findRound 51 = .ok (.putfield 58, 3) := by decide +kernel
theorem dX5_findRound_54 : decode cX5_findRound 54 = .ok (.iconst 1, 1) := by decide +kernel
theorem dX5_findRound_55 : decode cX5_findRound 55 = .ok (.ireturn, 1) := by decide +kernel
theorem dX5_findRound_56 : decode cX5_findRound 56 = .ok (.iinc 3 1, 3) := by decide +kernel
theorem dX5_findRound_59 : decode cX5_findRound 59 = .ok (.goto (-28), 3) := by decide +kernel
theorem dX5_findRound_62 : decode cX5_findRound 62 = .ok (.aload_n 0, 1) := by decide +kernel
theorem dX5_findRound_63 : decode cX5_findRound 63 = .ok (.iload_n 2, 1) := by decide +kernel
theorem dX5_findRound_64 : decode cX5_findRound 64 = .ok (.invokevirtual 47, 3) := by decide +kernel
theorem dX5_findRound_67 : decode cX5_findRound 67 = .ok (.iinc 2 1, 3) := by decide +kernel
theorem dX5_findRound_70 : decode cX5_findRound 70 = .ok (.goto (-55), 3) := by decide +kernel
theorem dX5_findRound_73 : decode cX5_findRound 73 = .ok (.iconst 0, 1) := by decide +kernel
theorem dX5_findRound_74 : decode cX5_findRound 74 = .ok (.ireturn, 1) := by decide +kernel
theorem dX5_remember_0 : decode cX5_remember 0 = .ok (.aload_n 0, 1) := by decide +kernel
theorem dX5_remember_1 : decode cX5_remember 1 = .ok (.getfield 25, 3) := by decide +kernel
theorem dX5_remember_4 : decode cX5_remember 4 = .ok (.iload_n 1, 1) := by decide +kernel
theorem dX5_remember_5 : decode cX5_remember 5 = .ok (.aload_n 0, 1) := by decide +kernel
theorem dX5_remember_6 : decode cX5_remember 6 = .ok (.getfield 12, 3) := by decide +kernel
theorem dX5_remember_9 : decode cX5_remember 9 = .ok (.getfield 61, 3) := by decide +kernel
theorem dX5_remember_12 : decode cX5_remember 12 = .ok (.iastore, 1) := by decide +kernel
theorem dX5_remember_13 : decode cX5_remember 13 = .ok (.aload_n 0, 1) := by decide +kernel
theorem dX5_remember_14 : decode cX5_remember 14 = .ok (.getfield 12, 3) := by decide +kernel
theorem dX5_remember_17 : decode cX5_remember 17 = .ok (.getfield 64, 3) := by decide +kernel
theorem dX5_remember_20 : decode cX5_remember 20 = .ok (.iconst 0, 1) := by decide +kernel
theorem dX5_remember_21 : decode cX5_remember 21 = .ok (.aload_n 0, 1) := by decide +kernel
theorem dX5_remember_22 : decode cX5_remember 22 = .ok (.getfield 21, 3) := by decide +kernel
theorem dX5_remember_25 : decode cX5_remember 25 = .ok (.iload_n 1, 1) := by decide +kernel
theorem dX5_remember_26 : decode cX5_remember 26 = .ok (.iconst 5, 1) := by decide +kernel
theorem dX5_remember_27 : decode cX5_remember 27 = .ok (.imul, 1) := by decide +kernel
theorem dX5_remember_28 : decode cX5_remember 28 = .ok (.iconst 5, 1) := by decide +kernel
theorem dX5_remember_29 : decode cX5_remember 29 = .ok (.invokestatic 67, 3) := by decide +kernel
theorem dX5_remember_32 : decode cX5_remember 32 = .ok (.return_, 1) := by decide +kernel
theorem dX5_isAs_0 : decode cX5_isAs 0 = .ok (.aload_n 0, 1) := by decide +kernel
theorem dX5_isAs_1 : decode cX5_isAs 1 = .ok (.getfield 25, 3) := by decide +kernel
theorem dX5_isAs_4 : decode cX5_isAs 4 = .ok (.iload_n 1, 1) := by decide +kernel
theorem dX5_isAs_5 : decode cX5_isAs 5 = .ok (.iaload, 1) := by decide +kernel
theorem dX5_isAs_6 : decode cX5_isAs 6 = .ok (.aload_n 0, 1) := by decide +kernel
theorem dX5_isAs_7 : decode cX5_isAs 7 = .ok (.getfield 12, 3) := by decide +kernel
theorem dX5_isAs_10 : decode cX5_isAs 10 = .ok (.getfield 61, 3) := by decide +kernel
theorem dX5_isAs_13 : decode cX5_isAs 13 = .ok (.if_icmp .eq 5, 3) := by decide +kernel
theorem dX5_isAs_16 : decode cX5_isAs 16 = .ok (.iconst 0, 1) := by decide +kernel
theorem dX5_isAs_17 : decode cX5_isAs 17 = .ok (.ireturn, 1) := by decide +kernel
theorem dX5_isAs_18 : decode cX5_isAs 18 = .ok (.iconst 0, 1) := by decide +kernel
theorem dX5_isAs_19 : decode cX5_isAs 19 = .ok (.istore_n 2, 1) := by decide +kernel
theorem dX5_isAs_20 : decode cX5_isAs 20 = .ok (.iload_n 2, 1) := by decide +kernel
theorem dX5_isAs_21 : decode cX5_isAs 21 = .ok (.aload_n 0, 1) := by decide +kernel
theorem dX5_isAs_22 : decode cX5_isAs 22 = .ok (.getfield 12, 3) := by decide +kernel
theorem dX5_isAs_25 : decode cX5_isAs 25 = .ok (.getfield 73, 3) := by decide +kernel
theorem dX5_isAs_28 : decode cX5_isAs 28 = .ok (.if_icmp .ge 33, 3) := by decide +kernel
theorem dX5_isAs_31 : decode cX5_isAs 31 = .ok (.aload_n 0, 1) := by decide +kernel
theorem dX5_isAs_32 : decode cX5_isAs 32 = .ok (.getfield 21, 3) := by decide +kernel
theorem dX5_isAs_35 : decode cX5_isAs 35 = .ok (.iload_n 1, 1) := by decide +kernel
theorem dX5_isAs_36 : decode cX5_isAs 36 = .ok (.iconst 5, 1) := by decide +kernel
theorem dX5_isAs_37 : decode cX5_isAs 37 = .ok (.imul, 1) := by decide +kernel
theorem dX5_isAs_38 : decode cX5_isAs 38 = .ok (.iload_n 2, 1) := by decide +kernel
theorem dX5_isAs_39 : decode cX5_isAs 39 = .ok (.iadd, 1) := by decide +kernel
theorem dX5_isAs_40 : decode cX5_isAs 40 = .ok (.iaload, 1) := by decide +kernel
theorem dX5_isAs_41 : decode cX5_isAs 41 = .ok (.aload_n 0, 1) := by decide +kernel
theorem dX5_isAs_42 : decode cX5_isAs 42 = .ok (.getfield 12, 3) := by decide +kernel
theorem dX5_isAs_45 : decode cX5_isAs 45 = .ok (.getfield 64, 3) := by decide +kernel
theorem dX5_isAs_48 : decode cX5_isAs 48 = .ok (.iload_n 2, 1) := by decide +kernel
theorem dX5_isAs_49 : decode cX5_isAs 49 = .ok (.iaload, 1) := by decide +kernel
theorem dX5_isAs_50 : decode cX5_isAs 50 = .ok (.if_icmp .eq 5, 3) := by decide +kernel
theorem dX5_isAs_53 : decode cX5_isAs 53 = .ok (.iconst 0, 1) := by decide +kernel
theorem dX5_isAs_54 : decode cX5_isAs 54 = .ok (.ireturn, 1) := by decide +kernel
theorem dX5_isAs_55 : decode cX5_isAs 55 = .ok (.iinc 2 1, 3) := by decide +kernel
theorem dX5_isAs_58 : decode cX5_isAs 58 = .ok (.goto (-38), 3) := by decide +kernel
theorem dX5_isAs_61 : decode cX5_isAs 61 = .ok (.iconst 1, 1) := by decide +kernel
theorem dX5_isAs_62 : decode cX5_isAs 62 = .ok (.ireturn, 1) := by decide +kernel
theorem dX5_firstNoticed_0 : decode cX5_firstNoticed 0 = .ok (.aload_n 0, 1) := by decide +kernel
theorem dX5_firstNoticed_1 : decode cX5_firstNoticed 1 = .ok (.getfield 12, 3) := by decide +kernel
theorem dX5_firstNoticed_4 : decode cX5_firstNoticed 4 = .ok (.aload_n 1, 1) := by decide +kernel
theorem dX5_firstNoticed_5 : decode cX5_firstNoticed 5 = .ok (.invokevirtual 28, 3) := by decide +kernel
theorem dX5_firstNoticed_8 : decode cX5_firstNoticed 8 = .ok (.iconst 0, 1) := by decide +kernel
theorem dX5_firstNoticed_9 : decode cX5_firstNoticed 9 = .ok (.istore 4, 2) := by decide +kernel
theorem dX5_firstNoticed_11 : decode cX5_firstNoticed 11 = .ok (.iload 4, 2) := by decide +kernel
theorem dX5_firstNoticed_13 : decode cX5_firstNoticed 13 = .ok (.iload_n 2, 1) := by decide +kernel
theorem dX5_firstNoticed_14 : decode cX5_firstNoticed 14 = .ok (.if_icmp .ge 45, 3) := by decide +kernel
theorem dX5_firstNoticed_17 : decode cX5_firstNoticed 17 = .ok (.aload_n 0, 1) := by decide +kernel
theorem dX5_firstNoticed_18 : decode cX5_firstNoticed 18 = .ok (.getfield 12, 3) := by decide +kernel
theorem dX5_firstNoticed_21 : decode cX5_firstNoticed 21 = .ok (.invokevirtual 43, 3) := by decide +kernel
theorem dX5_firstNoticed_24 : decode cX5_firstNoticed 24 = .ok (.istore 5, 2) := by decide +kernel
theorem dX5_firstNoticed_26 : decode cX5_firstNoticed 26 = .ok (.aload_n 0, 1) := by decide +kernel
theorem dX5_firstNoticed_27 : decode cX5_firstNoticed 27 = .ok (.getfield 12, 3) := by decide +kernel
theorem dX5_firstNoticed_30 : decode cX5_firstNoticed 30 = .ok (.invokevirtual 32, 3) := by decide +kernel
theorem dX5_firstNoticed_33 : decode cX5_firstNoticed 33 = .ok (.aload_n 0, 1) := by decide +kernel
theorem dX5_firstNoticed_34 : decode cX5_firstNoticed 34 = .ok (.getfield 12, 3) := by decide +kernel
theorem dX5_firstNoticed_37 : decode cX5_firstNoticed 37 = .ok (.invokevirtual 43, 3) := by decide +kernel
theorem dX5_firstNoticed_40 : decode cX5_firstNoticed 40 = .ok (.iload 5, 2) := by decide +kernel
theorem dX5_firstNoticed_42 : decode cX5_firstNoticed 42 = .ok (.isub, 1) := by decide +kernel
theorem dX5_firstNoticed_43 : decode cX5_firstNoticed 43 = .ok (.invokestatic 76, 3) := by decide +kernel
theorem dX5_firstNoticed_46 : decode cX5_firstNoticed 46 = .ok (.iload_n 3, 1) := by decide +kernel
theorem dX5_firstNoticed_47 : decode cX5_firstNoticed 47 = .ok (.if_icmp .le 6, 3) := by decide +kernel
theorem dX5_firstNoticed_50 : decode cX5_firstNoticed 50 = .ok (.iload 4, 2) := by decide +kernel
theorem dX5_firstNoticed_52 : decode cX5_firstNoticed 52 = .ok (.ireturn, 1) := by decide +kernel
theorem dX5_firstNoticed_53 : decode cX5_firstNoticed 53 = .ok (.iinc 4 1, 3) := by decide +kernel
theorem dX5_firstNoticed_56 : decode cX5_firstNoticed 56 = .ok (.goto (-45), 3) := by decide +kernel
theorem dX5_firstNoticed_59 : decode cX5_firstNoticed 59 = .ok (.ldc 82, 2) := by decide +kernel
theorem dX5_firstNoticed_61 : decode cX5_firstNoticed 61 = .ok (.ireturn, 1) := by decide +kernel
theorem dX5_findFallen_0 : decode cX5_findFallen 0 = .ok (.aload_n 0, 1) := by decide +kernel
theorem dX5_findFallen_1 : decode cX5_findFallen 1 = .ok (.iconst 0, 1) := by decide +kernel
theorem dX5_findFallen_2 : decode cX5_findFallen 2 = .ok (.putfield 55, 3) := by decide +kernel
theorem dX5_findFallen_5 : decode cX5_findFallen 5 = .ok (.aload_n 0, 1) := by decide +kernel
theorem dX5_findFallen_6 : decode cX5_findFallen 6 = .ok (.ldc 82, 2) := by decide +kernel
theorem dX5_findFallen_8 : decode cX5_findFallen 8 = .ok (.putfield 58, 3) := by decide +kernel
theorem dX5_findFallen_11 : decode cX5_findFallen 11 = .ok (.aload_n 0, 1) := by decide +kernel
theorem dX5_findFallen_12 : decode cX5_findFallen 12 = .ok (.getfield 12, 3) := by decide +kernel
theorem dX5_findFallen_15 : decode cX5_findFallen 15 = .ok (.aload_n 1, 1) := by decide +kernel
theorem dX5_findFallen_16 : decode cX5_findFallen 16 = .ok (.invokevirtual 28, 3) := by decide +kernel
theorem dX5_findFallen_19 : decode cX5_findFallen 19 = .ok (.iconst 0, 1) := by decide +kernel
theorem dX5_findFallen_20 : decode cX5_findFallen 20 = .ok (.istore 5, 2) := by decide +kernel
theorem dX5_findFallen_22 : decode cX5_findFallen 22 = .ok (.iload 5, 2) := by decide +kernel
theorem dX5_findFallen_24 : decode cX5_findFallen 24 = .ok (.iload 4, 2) := by decide +kernel
theorem dX5_findFallen_26 : decode cX5_findFallen 26 = .ok (.if_icmp .gt 64, 3) := by decide +kernel
theorem dX5_findFallen_29 : decode cX5_findFallen 29 = .ok (.iload 5, 2) := by decide +kernel
theorem dX5_findFallen_31 : decode cX5_findFallen 31 = .ok (.ifCond .le 10, 3) := by decide +kernel
theorem dX5_findFallen_34 : decode cX5_findFallen 34 = .ok (.aload_n 0, 1) := by decide +kernel
theorem dX5_findFallen_35 : decode cX5_findFallen 35 = .ok (.getfield 12, 3) := by decide +kernel
theorem dX5_findFallen_38 : decode cX5_findFallen 38 = .ok (.invokevirtual 32, 3) := by decide +kernel
theorem dX5_findFallen_41 : decode cX5_findFallen 41 = .ok (.aload_n 0, 1) := by decide +kernel
theorem dX5_findFallen_42 : decode cX5_findFallen 42 = .ok (.getfield 12, 3) := by decide +kernel
theorem dX5_findFallen_45 : decode cX5_findFallen 45 = .ok (.invokevirtual 43, 3) := by decide +kernel
theorem dX5_findFallen_48 : decode cX5_findFallen 48 = .ok (.aload_n 2, 1) := by decide +kernel
theorem dX5_findFallen_49 : decode cX5_findFallen 49 = .ok (.iload_n 3, 1) := by decide +kernel
theorem dX5_findFallen_50 : decode cX5_findFallen 50 = .ok (.invokestatic 83, 3) := by decide +kernel
theorem dX5_findFallen_53 : decode cX5_findFallen 53 = .ok (.istore 6, 2) := by decide +kernel
theorem dX5_findFallen_55 : decode cX5_findFallen 55 = .ok (.iload 6, 2) := by decide +kernel
theorem dX5_findFallen_57 : decode cX5_findFallen 57 = .ok (.aload_n 0, 1) := by decide +kernel
theorem dX5_findFallen_58 : decode cX5_findFallen 58 = .ok (.getfield 55, 3) := by decide +kernel
theorem dX5_findFallen_61 : decode cX5_findFallen 61 = .ok (.iconst (-1), 1) := by decide +kernel
theorem dX5_findFallen_62 : decode cX5_findFallen 62 = .ok (.ixor, 1) := by decide +kernel
theorem dX5_findFallen_63 : decode cX5_findFallen 63 = .ok (.iand, 1) := by decide +kernel
theorem dX5_findFallen_64 : decode cX5_findFallen 64 = .ok (.ifCond .eq 20, 3) := by decide +kernel
theorem dX5_findFallen_67 : decode cX5_findFallen 67 = .ok (.aload_n 0, 1) := by decide +kernel
theorem dX5_findFallen_68 : decode cX5_findFallen 68 = .ok (.dup, 1) := by decide +kernel
theorem dX5_findFallen_69 : decode cX5_findFallen 69 = .ok (.getfield 55, 3) := by decide +kernel
theorem dX5_findFallen_72 : decode cX5_findFallen 72 = .ok (.iload 6, 2) := by decide +kernel
theorem dX5_findFallen_74 : decode cX5_findFallen 74 = .ok (.ior, 1) := by decide +kernel
theorem dX5_findFallen_75 : decode cX5_findFallen 75 = .ok (.putfield 55, 3) := by decide +kernel
theorem dX5_findFallen_78 : decode cX5_findFallen 78 = .ok (.aload_n 0, 1) := by decide +kernel
theorem dX5_findFallen_79 : decode cX5_findFallen 79 = .ok (.iload 5, 2) := by decide +kernel
theorem dX5_findFallen_81 : decode cX5_findFallen 81 = .ok (.putfield 58, 3) := by decide +kernel
theorem dX5_findFallen_84 : decode cX5_findFallen 84 = .ok (.iinc 5 1, 3) := by decide +kernel
theorem dX5_findFallen_87 : decode cX5_findFallen 87 = .ok (.goto (-65), 3) := by decide +kernel
theorem dX5_findFallen_90 : decode cX5_findFallen 90 = .ok (.return_, 1) := by decide +kernel
theorem dX5_fallenAt_0 : decode cX5_fallenAt 0 = .ok (.iconst 0, 1) := by decide +kernel
theorem dX5_fallenAt_1 : decode cX5_fallenAt 1 = .ok (.istore_n 3, 1) := by decide +kernel
theorem dX5_fallenAt_2 : decode cX5_fallenAt 2 = .ok (.iconst 0, 1) := by decide +kernel
theorem dX5_fallenAt_3 : decode cX5_fallenAt 3 = .ok (.istore 4, 2) := by decide +kernel
theorem dX5_fallenAt_5 : decode cX5_fallenAt 5 = .ok (.iload 4, 2) := by decide +kernel
theorem dX5_fallenAt_7 : decode cX5_fallenAt 7 = .ok (.iload_n 2, 1) := by decide +kernel
theorem dX5_fallenAt_8 : decode cX5_fallenAt 8 = .ok (.if_icmp .ge 38, 3) := by decide +kernel
theorem dX5_fallenAt_11 : decode cX5_fallenAt 11 = .ok (.iload_n 0, 1) := by decide +kernel
theorem dX5_fallenAt_12 : decode cX5_fallenAt 12 = .ok (.aload_n 1, 1) := by decide +kernel
theorem dX5_fallenAt_13 : decode cX5_fallenAt 13 = .ok (.iconst 2, 1) := by decide +kernel
theorem dX5_fallenAt_14 : decode cX5_fallenAt 14 = .ok (.iload 4, 2) := by decide +kernel
theorem dX5_fallenAt_16 : decode cX5_fallenAt 16 = .ok (.imul, 1) := by decide +kernel
theorem dX5_fallenAt_17 : decode cX5_fallenAt 17 = .ok (.iaload, 1) := by decide +kernel
theorem dX5_fallenAt_18 : decode cX5_fallenAt 18 = .ok (.if_icmp .lt 15, 3) := by decide +kernel
theorem dX5_fallenAt_21 : decode cX5_fallenAt 21 = .ok (.iload_n 0, 1) := by decide +kernel
theorem dX5_fallenAt_22 : decode cX5_fallenAt 22 = .ok (.aload_n 1, 1) := by decide +kernel
theorem dX5_fallenAt_23 : decode cX5_fallenAt 23 = .ok (.iconst 2, 1) := by decide +kernel
theorem dX5_fallenAt_24 : decode cX5_fallenAt 24 = .ok (.iload 4, 2) := by decide +kernel
theorem dX5_fallenAt_26 : decode cX5_fallenAt 26 = .ok (.imul, 1) := by decide +kernel
theorem dX5_fallenAt_27 : decode cX5_fallenAt 27 = .ok (.iconst 1, 1) := by decide +kernel
theorem dX5_fallenAt_28 : decode cX5_fallenAt 28 = .ok (.iadd, 1) := by decide +kernel
theorem dX5_fallenAt_29 : decode cX5_fallenAt 29 = .ok (.iaload, 1) := by decide +kernel
theorem dX5_fallenAt_30 : decode cX5_fallenAt 30 = .ok (.if_icmp .le 10, 3) := by decide +kernel
theorem dX5_fallenAt_33 : decode cX5_fallenAt 33 = .ok (.iload_n 3, 1) := by decide +kernel
theorem dX5_fallenAt_34 : decode cX5_fallenAt 34 = .ok (.iconst 1, 1) := by decide +kernel
theorem dX5_fallenAt_35 : decode cX5_fallenAt 35 = .ok (.iload 4, 2) := by decide +kernel
theorem dX5_fallenAt_37 : decode cX5_fallenAt 37 = .ok (.ishl, 1) := by decide +kernel
theorem dX5_fallenAt_38 : decode cX5_fallenAt 38 = .ok (.ior, 1) := by decide +kernel
theorem dX5_fallenAt_39 : decode cX5_fallenAt 39 = .ok (.istore_n 3, 1) := by decide +kernel
theorem dX5_fallenAt_40 : decode cX5_fallenAt 40 = .ok (.iinc 4 1, 3) := by decide +kernel
theorem dX5_fallenAt_43 : decode cX5_fallenAt 43 = .ok (.goto (-38), 3) := by decide +kernel
theorem dX5_fallenAt_46 : decode cX5_fallenAt 46 = .ok (.iload_n 3, 1) := by decide +kernel
theorem dX5_fallenAt_47 : decode cX5_fallenAt 47 = .ok (.ireturn, 1) := by decide +kernel
theorem dX5_bestCountIn_0 : decode cX5_bestCountIn 0 = .ok (.ldc 82, 2) := by decide +kernel
theorem dX5_bestCountIn_2 : decode cX5_bestCountIn 2 = .ok (.istore 4, 2) := by decide +kernel
theorem dX5_bestCountIn_4 : decode cX5_bestCountIn 4 = .ok (.ldc 89, 2) := by decide +kernel
theorem dX5_bestCountIn_6 : decode cX5_bestCountIn 6 = .ok (.istore 5, 2) := by decide +kernel
theorem dX5_bestCountIn_8 : decode cX5_bestCountIn 8 = .ok (.bipush 40, 2) := by decide +kernel
theorem dX5_bestCountIn_10 : decode cX5_bestCountIn 10 = .ok (.istore 6, 2) := by decide +kernel
theorem dX5_bestCountIn_12 : decode cX5_bestCountIn 12 = .ok (.iload 6, 2) := by decide +kernel
theorem dX5_bestCountIn_14 : decode cX5_bestCountIn 14 = .ok (.bipush 99, 2) := by decide +kernel
theorem dX5_bestCountIn_16 : decode cX5_bestCountIn 16 = .ok (.if_icmp .gt 90, 3) := by decide +kernel
theorem dX5_bestCountIn_19 : decode cX5_bestCountIn 19 = .ok (.aload_n 0, 1) := by decide +kernel
theorem dX5_bestCountIn_20 : decode cX5_bestCountIn 20 = .ok (.getfield 18, 3) := by decide +kernel
theorem dX5_bestCountIn_23 : decode cX5_bestCountIn 23 = .ok (.aload_n 1, 1) := by decide +kernel
theorem dX5_bestCountIn_24 : decode cX5_bestCountIn 24 = .ok (.invokevirtual 28, 3) := by decide +kernel
theorem dX5_bestCountIn_27 : decode cX5_bestCountIn 27 = .ok (.iconst 0, 1) := by decide +kernel
theorem dX5_bestCountIn_28 : decode cX5_bestCountIn 28 = .ok (.istore 7, 2) := by decide +kernel
theorem dX5_bestCountIn_30 : decode cX5_bestCountIn 30 = .ok (.iload 7, 2) := by decide +kernel
theorem dX5_bestCountIn_32 : decode cX5_bestCountIn 32 = .ok (.aload_n 0, 1) := by decide +kernel
theorem dX5_bestCountIn_33 : decode cX5_bestCountIn 33 = .ok (.getfield 18, 3) := by decide +kernel
theorem dX5_bestCountIn_36 : decode cX5_bestCountIn 36 = .ok (.getfield 73, 3) := by decide +kernel
theorem dX5_bestCountIn_39 : decode cX5_bestCountIn 39 = .ok (.if_icmp .ge 24, 3) := by decide +kernel
theorem dX5_bestCountIn_42 : decode cX5_bestCountIn 42 = .ok (.aload_n 0, 1) := by decide +kernel
theorem dX5_bestCountIn_43 : decode cX5_bestCountIn 43 = .ok (.getfield 18, 3) := by decide +kernel
theorem dX5_bestCountIn_46 : decode cX5_bestCountIn 46 = .ok (.getfield 64, 3) := by decide +kernel
theorem dX5_bestCountIn_49 : decode cX5_bestCountIn 49 = .ok (.iload 7, 2) := by decide +kernel
theorem dX5_bestCountIn_51 : decode cX5_bestCountIn 51 = .ok (.bipush 10, 2) := by decide +kernel
theorem dX5_bestCountIn_53 : decode cX5_bestCountIn 53 = .ok (.iload 6, 2) := by decide +kernel
theorem dX5_bestCountIn_55 : decode cX5_bestCountIn 55 = .ok (.imul, 1) := by decide +kernel
theorem dX5_bestCountIn_56 : decode cX5_bestCountIn 56 = .ok (.iastore, 1) := by decide +kernel
theorem dX5_bestCountIn_57 : decode cX5_bestCountIn 57 = .ok (.iinc 7 1, 3) := by decide +kernel
theorem dX5_bestCountIn_60 : decode cX5_bestCountIn 60 = .ok (.goto (-30), 3) := by decide +kernel
theorem dX5_bestCountIn_63 : decode cX5_bestCountIn 63 = .ok (.aload_n 0, 1) := by decide +kernel
theorem dX5_bestCountIn_64 : decode cX5_bestCountIn 64 = .ok (.aload_n 0, 1) := by decide +kernel
theorem dX5_bestCountIn_65 : decode cX5_bestCountIn 65 = .ok (.getfield 18, 3) := by decide +kernel
theorem dX5_bestCountIn_68 : decode cX5_bestCountIn 68 = .ok (.iload_n 2, 1) := by decide +kernel
theorem dX5_bestCountIn_69 : decode cX5_bestCountIn 69 = .ok (.invokevirtual 39, 3) := by decide +kernel
theorem dX5_bestCountIn_72 : decode cX5_bestCountIn 72 = .ok (.invokevirtual 43, 3) := by decide +kernel
theorem dX5_bestCountIn_75 : decode cX5_bestCountIn 75 = .ok (.iload_n 3, 1) := by decide +kernel
theorem dX5_bestCountIn_76 : decode cX5_bestCountIn 76 = .ok (.isub, 1) := by decide +kernel
theorem dX5_bestCountIn_77 : decode cX5_bestCountIn 77 = .ok (.invokestatic 76, 3) := by decide +kernel
theorem dX5_bestCountIn_80 : decode cX5_bestCountIn 80 = .ok (.istore 7, 2) := by decide +kernel
theorem dX5_bestCountIn_82 : decode cX5_bestCountIn 82 = .ok (.iload 7, 2) := by decide +kernel
theorem dX5_bestCountIn_84 : decode cX5_bestCountIn 84 = .ok (.iload 5, 2) := by decide +kernel
theorem dX5_bestCountIn_86 : decode cX5_bestCountIn 86 = .ok (.if_icmp .ge 14, 3) := by decide +kernel
theorem dX5_bestCountIn_89 : decode cX5_bestCountIn 89 = .ok (.iload 7, 2) := by decide +kernel
theorem dX5_bestCountIn_91 : decode cX5_bestCountIn 91 = .ok (.istore 5, 2) := by decide +kernel
theorem dX5_bestCountIn_93 : decode cX5_bestCountIn 93 = .ok (.bipush 10, 2) := by decide +kernel
theorem dX5_bestCountIn_95 : decode cX5_bestCountIn 95 = .ok (.iload 6, 2) := by decide +kernel
theorem dX5_bestCountIn_97 : decode cX5_bestCountIn 97 = .ok (.imul, 1) := by decide +kernel
theorem dX5_bestCountIn_98 : decode cX5_bestCountIn 98 = .ok (.istore 4, 2) := by decide +kernel
theorem dX5_bestCountIn_100 : decode cX5_bestCountIn 100 = .ok (.iinc 6 1, 3) := by decide +kernel
theorem dX5_bestCountIn_103 : decode cX5_bestCountIn 103 = .ok (.goto (-91), 3) := by decide +kernel
theorem dX5_bestCountIn_106 : decode cX5_bestCountIn 106 = .ok (.iload 4, 2) := by decide +kernel
theorem dX5_bestCountIn_108 : decode cX5_bestCountIn 108 = .ok (.ireturn, 1) := by decide +kernel
theorem dX5_findDeaf_0 : decode cX5_findDeaf 0 = .ok (.aload_n 0, 1) := by decide +kernel
theorem dX5_findDeaf_1 : decode cX5_findDeaf 1 = .ok (.ldc 82, 2) := by decide +kernel
theorem dX5_findDeaf_3 : decode cX5_findDeaf 3 = .ok (.putfield 55, 3) := by decide +kernel
theorem dX5_findDeaf_6 : decode cX5_findDeaf 6 = .ok (.aload_n 0, 1) := by decide +kernel
theorem dX5_findDeaf_7 : decode cX5_findDeaf 7 = .ok (.ldc 82, 2) := by decide +kernel
theorem dX5_findDeaf_9 : decode cX5_findDeaf 9 = .ok (.putfield 58, 3) := by decide +kernel
theorem dX5_findDeaf_12 : decode cX5_findDeaf 12 = .ok (.iconst 0, 1) := by decide +kernel
theorem dX5_findDeaf_13 : decode cX5_findDeaf 13 = .ok (.istore_n 2, 1) := by decide +kernel
theorem dX5_findDeaf_14 : decode cX5_findDeaf 14 = .ok (.iload_n 2, 1) := by decide +kernel
theorem dX5_findDeaf_15 : decode cX5_findDeaf 15 = .ok (.aload_n 1, 1) := by decide +kernel
theorem dX5_findDeaf_16 : decode cX5_findDeaf 16 = .ok (.getfield 73, 3) := by decide +kernel
theorem dX5_findDeaf_19 : decode cX5_findDeaf 19 = .ok (.if_icmp .ge 69, 3) := by decide +kernel
theorem dX5_findDeaf_22 : decode cX5_findDeaf 22 = .ok (.iconst 0, 1) := by decide +kernel
theorem dX5_findDeaf_23 : decode cX5_findDeaf 23 = .ok (.istore_n 3, 1) := by decide +kernel
theorem dX5_findDeaf_24 : decode cX5_findDeaf 24 = .ok (.iload_n 3, 1) := by decide +kernel
theorem dX5_findDeaf_25 : decode cX5_findDeaf 25 = .ok (.aload_n 1, 1) := by decide +kernel
theorem dX5_findDeaf_26 : decode cX5_findDeaf 26 = .ok (.getfield 73, 3) := by decide +kernel
theorem dX5_findDeaf_29 : decode cX5_findDeaf 29 = .ok (.if_icmp .ge 53, 3) := by decide +kernel
theorem dX5_findDeaf_32 : decode cX5_findDeaf 32 = .ok (.aload_n 1, 1) := by decide +kernel
theorem dX5_findDeaf_33 : decode cX5_findDeaf 33 = .ok (.iload_n 2, 1) := by decide +kernel
theorem dX5_findDeaf_34 : decode cX5_findDeaf 34 = .ok (.iload_n 3, 1) := by decide +kernel
theorem dX5_findDeaf_35 : decode cX5_findDeaf 35 = .ok (.invokevirtual 90, 3) := by decide +kernel
theorem dX5_findDeaf_38 : decode cX5_findDeaf 38 = .ok (.ifCond .eq 38, 3) := by decide +kernel
theorem dX5_findDeaf_41 : decode cX5_findDeaf 41 = .ok (.aload_n 0, 1) := by decide +kernel
theorem dX5_findDeaf_42 : decode cX5_findDeaf 42 = .ok (.getfield 18, 3) := by decide +kernel
theorem dX5_findDeaf_45 : decode cX5_findDeaf 45 = .ok (.aload_n 1, 1) := by decide +kernel
theorem dX5_findDeaf_46 : decode cX5_findDeaf 46 = .ok (.invokevirtual 28, 3) := by decide +kernel
theorem dX5_findDeaf_49 : decode cX5_findDeaf 49 = .ok (.aload_n 0, 1) := by decide +kernel
theorem dX5_findDeaf_50 : decode cX5_findDeaf 50 = .ok (.getfield 18, 3) := by decide +kernel
theorem dX5_findDeaf_53 : decode cX5_findDeaf 53 = .ok (.iload_n 2, 1) := by decide +kernel
theorem dX5_findDeaf_54 : decode cX5_findDeaf 54 = .ok (.iload_n 3, 1) := by decide +kernel
theorem dX5_findDeaf_55 : decode cX5_findDeaf 55 = .ok (.iconst 0, 1) := by decide +kernel
theorem dX5_findDeaf_56 : decode cX5_findDeaf 56 = .ok (.invokevirtual 94, 3) := by decide +kernel
theorem dX5_findDeaf_59 : decode cX5_findDeaf 59 = .ok (.aload_n 0, 1) := by decide +kernel
theorem dX5_findDeaf_60 : decode cX5_findDeaf 60 = .ok (.iconst 5, 1) := by decide +kernel
theorem dX5_findDeaf_61 : decode cX5_findDeaf 61 = .ok (.iload_n 2, 1) := by decide +kernel
theorem dX5_findDeaf_62 : decode cX5_findDeaf 62 = .ok (.imul, 1) := by decide +kernel
theorem dX5_findDeaf_63 : decode cX5_findDeaf 63 = .ok (.iload_n 3, 1) := by decide +kernel
theorem dX5_findDeaf_64 : decode cX5_findDeaf 64 = .ok (.iadd, 1) := by decide +kernel
theorem dX5_findDeaf_65 : decode cX5_findDeaf 65 = .ok (.aload_n 0, 1) := by decide +kernel
theorem dX5_findDeaf_66 : decode cX5_findDeaf 66 = .ok (.aload_n 0, 1) := by decide +kernel
theorem dX5_findDeaf_67 : decode cX5_findDeaf 67 = .ok (.getfield 18, 3) := by decide +kernel
theorem dX5_findDeaf_70 : decode cX5_findDeaf 70 = .ok (.invokevirtual 98, 3) := by decide +kernel
theorem dX5_findDeaf_73 : decode cX5_findDeaf 73 = .ok (.invokevirtual 102, 3) := by decide +kernel
theorem dX5_findDeaf_76 : decode cX5_findDeaf 76 = .ok (.iinc 3 1, 3) := by decide +kernel
theorem dX5_findDeaf_79 : decode cX5_findDeaf 79 = .ok (.goto (-55), 3) := by decide +kernel
theorem dX5_findDeaf_82 : decode cX5_findDeaf 82 = .ok (.iinc 2 1, 3) := by decide +kernel
theorem dX5_findDeaf_85 : decode cX5_findDeaf 85 = .ok (.goto (-71), 3) := by decide +kernel
theorem dX5_findDeaf_88 : decode cX5_findDeaf 88 = .ok (.return_, 1) := by decide +kernel
theorem dX5_findInEar_0 : decode cX5_findInEar 0 = .ok (.aload_n 0, 1) := by decide +kernel
theorem dX5_findInEar_1 : decode cX5_findInEar 1 = .ok (.ldc 82, 2) := by decide +kernel
theorem dX5_findInEar_3 : decode cX5_findInEar 3 = .ok (.putfield 55, 3) := by decide +kernel
theorem dX5_findInEar_6 : decode cX5_findInEar 6 = .ok (.aload_n 0, 1) := by decide +kernel
theorem dX5_findInEar_7 : decode cX5_findInEar 7 = .ok (.ldc 82, 2) := by decide +kernel
theorem dX5_findInEar_9 : decode cX5_findInEar 9 = .ok (.putfield 58, 3) := by decide +kernel
theorem dX5_findInEar_12 : decode cX5_findInEar 12 = .ok (.iconst 0, 1) := by decide +kernel
theorem dX5_findInEar_13 : decode cX5_findInEar 13 = .ok (.istore_n 2, 1) := by decide +kernel
theorem dX5_findInEar_14 : decode cX5_findInEar 14 = .ok (.iload_n 2, 1) := by decide +kernel
theorem dX5_findInEar_15 : decode cX5_findInEar 15 = .ok (.aload_n 1, 1) := by decide +kernel
theorem dX5_findInEar_16 : decode cX5_findInEar 16 = .ok (.getfield 73, 3) := by decide +kernel
theorem dX5_findInEar_19 : decode cX5_findInEar 19 = .ok (.if_icmp .ge 40, 3) := by decide +kernel
theorem dX5_findInEar_22 : decode cX5_findInEar 22 = .ok (.aload_n 0, 1) := by decide +kernel
theorem dX5_findInEar_23 : decode cX5_findInEar 23 = .ok (.getfield 18, 3) := by decide +kernel
theorem dX5_findInEar_26 : decode cX5_findInEar 26 = .ok (.aload_n 1, 1) := by decide +kernel
theorem dX5_findInEar_27 : decode cX5_findInEar 27 = .ok (.invokevirtual 28, 3) := by decide +kernel
theorem dX5_findInEar_30 : decode cX5_findInEar 30 = .ok (.aload_n 0, 1) := by decide +kernel
theorem dX5_findInEar_31 : decode cX5_findInEar 31 = .ok (.getfield 18, 3) := by decide +kernel
theorem dX5_findInEar_34 : decode cX5_findInEar 34 = .ok (.getfield 106, 3) := by decide +kernel
theorem dX5_findInEar_37 : decode cX5_findInEar 37 = .ok (.iload_n 2, 1) := by decide +kernel
theorem dX5_findInEar_38 : decode cX5_findInEar 38 = .ok (.iconst 4, 1) := by decide +kernel
theorem dX5_findInEar_39 : decode cX5_findInEar 39 = .ok (.iastore, 1) := by decide +kernel
theorem dX5_findInEar_40 : decode cX5_findInEar 40 = .ok (.aload_n 0, 1) := by decide +kernel
theorem dX5_findInEar_41 : decode cX5_findInEar 41 = .ok (.iload_n 2, 1) := by decide +kernel
theorem dX5_findInEar_42 : decode cX5_findInEar 42 = .ok (.aload_n 0, 1) := by decide +kernel
theorem dX5_findInEar_43 : decode cX5_findInEar 43 = .ok (.aload_n 0, 1) := by decide +kernel
theorem dX5_findInEar_44 : decode cX5_findInEar 44 = .ok (.getfield 18, 3) := by decide +kernel
theorem dX5_findInEar_47 : decode cX5_findInEar 47 = .ok (.invokevirtual 98, 3) := by decide +kernel
theorem dX5_findInEar_50 : decode cX5_findInEar 50 = .ok (.invokevirtual 102, 3) := by decide +kernel
theorem dX5_findInEar_53 : decode cX5_findInEar 53 = .ok (.iinc 2 1, 3) := by decide +kernel
theorem dX5_findInEar_56 : decode cX5_findInEar 56 = .ok (.goto (-42), 3) := by decide +kernel
theorem dX5_findInEar_59 : decode cX5_findInEar 59 = .ok (.return_, 1) := by decide +kernel
theorem dX5_keepNearest_0 : decode cX5_keepNearest 0 = .ok (.aload_n 0, 1) := by decide +kernel
theorem dX5_keepNearest_1 : decode cX5_keepNearest 1 = .ok (.getfield 55, 3) := by decide +kernel
theorem dX5_keepNearest_4 : decode cX5_keepNearest 4 = .ok (.ldc 82, 2) := by decide +kernel
theorem dX5_keepNearest_6 : decode cX5_keepNearest 6 = .ok (.if_icmp .eq 17, 3) := by decide +kernel
theorem dX5_keepNearest_9 : decode cX5_keepNearest 9 = .ok (.iload_n 2, 1) := by decide +kernel
theorem dX5_keepNearest_10 : decode cX5_keepNearest 10 = .ok (.invokestatic 76, 3) := by decide +kernel
theorem dX5_keepNearest_13 : decode cX5_keepNearest 13 = .ok (.aload_n 0, 1) := by decide +kernel
theorem dX5_keepNearest_14 : decode cX5_keepNearest 14 = .ok (.getfield 58, 3) := by decide +kernel
theorem dX5_keepNearest_17 : decode cX5_keepNearest 17 = .ok (.invokestatic 76, 3) := by decide +kernel
theorem dX5_keepNearest_20 : decode cX5_keepNearest 20 = .ok (.if_icmp .ge 13, 3) := by decide +kernel
theorem dX5_keepNearest_23 : decode cX5_keepNearest 23 = .ok (.aload_n 0, 1) := by decide +kernel
theorem dX5_keepNearest_24 : decode cX5_keepNearest 24 = .ok (.iload_n 1, 1) := by decide +kernel
theorem dX5_keepNearest_25 : decode cX5_keepNearest 25 = .ok (.putfield 55, 3) := by decide +kernel
theorem dX5_keepNearest_28 : decode cX5_keepNearest 28 = .ok (.aload_n 0, 1) := by decide +kernel
theorem dX5_keepNearest_29 : decode cX5_keepNearest 29 = .ok (.iload_n 2, 1) := by decide +kernel
theorem dX5_keepNearest_30 : decode cX5_keepNearest 30 = .ok (.putfield 58, 3) := by decide +kernel
theorem dX5_keepNearest_33 : decode cX5_keepNearest 33 = .ok (.return_, 1) := by decide +kernel
theorem dX5_blameOf_0 : decode cX5_blameOf 0 = .ok (.aload_n 0, 1) := by decide +kernel
theorem dX5_blameOf_1 : decode cX5_blameOf 1 = .ok (.getfield 18, 3) := by decide +kernel
theorem dX5_blameOf_4 : decode cX5_blameOf 4 = .ok (.aload_n 1, 1) := by decide +kernel
theorem dX5_blameOf_5 : decode cX5_blameOf 5 = .ok (.invokevirtual 28, 3) := by decide +kernel
theorem dX5_blameOf_8 : decode cX5_blameOf 8 = .ok (.aload_n 0, 1) := by decide +kernel
theorem dX5_blameOf_9 : decode cX5_blameOf 9 = .ok (.getfield 18, 3) := by decide +kernel
theorem dX5_blameOf_12 : decode cX5_blameOf 12 = .ok (.getfield 109, 3) := by decide +kernel
theorem dX5_blameOf_15 : decode cX5_blameOf 15 = .ok (.iload_n 2, 1) := by decide +kernel
theorem dX5_blameOf_16 : decode cX5_blameOf 16 = .ok (.iconst 0, 1) := by decide +kernel
theorem dX5_blameOf_17 : decode cX5_blameOf 17 = .ok (.iastore, 1) := by decide +kernel
theorem dX5_blameOf_18 : decode cX5_blameOf 18 = .ok (.aload_n 0, 1) := by decide +kernel
theorem dX5_blameOf_19 : decode cX5_blameOf 19 = .ok (.getfield 18, 3) := by decide +kernel
theorem dX5_blameOf_22 : decode cX5_blameOf 22 = .ok (.getfield 106, 3) := by decide +kernel
theorem dX5_blameOf_25 : decode cX5_blameOf 25 = .ok (.iload_n 2, 1) := by decide +kernel
theorem dX5_blameOf_26 : decode cX5_blameOf 26 = .ok (.iaload, 1) := by decide +kernel
theorem dX5_blameOf_27 : decode cX5_blameOf 27 = .ok (.iconst 1, 1) := by decide +kernel
theorem dX5_blameOf_28 : decode cX5_blameOf 28 = .ok (.invokestatic 112, 3) := by decide +kernel
theorem dX5_blameOf_31 : decode cX5_blameOf 31 = .ok (.ifCond .eq 13, 3) := by decide +kernel
theorem dX5_blameOf_34 : decode cX5_blameOf 34 = .ok (.aload_n 0, 1) := by decide +kernel
theorem dX5_blameOf_35 : decode cX5_blameOf 35 = .ok (.getfield 18, 3) := by decide +kernel
theorem dX5_blameOf_38 : decode cX5_blameOf 38 = .ok (.getfield 106, 3) := by decide +kernel
theorem dX5_blameOf_41 : decode cX5_blameOf 41 = .ok (.iload_n 2, 1) := by decide +kernel
theorem dX5_blameOf_42 : decode cX5_blameOf 42 = .ok (.iconst 0, 1) := by decide +kernel
theorem dX5_blameOf_43 : decode cX5_blameOf 43 = .ok (.iastore, 1) := by decide +kernel
theorem dX5_blameOf_44 : decode cX5_blameOf 44 = .ok (.aload_n 0, 1) := by decide +kernel
theorem dX5_blameOf_45 : decode cX5_blameOf 45 = .ok (.aload_n 1, 1) := by decide +kernel
theorem dX5_blameOf_46 : decode cX5_blameOf 46 = .ok (.invokevirtual 98, 3) := by decide +kernel
theorem dX5_blameOf_49 : decode cX5_blameOf 49 = .ok (.aload_n 0, 1) := by decide +kernel
theorem dX5_blameOf_50 : decode cX5_blameOf 50 = .ok (.aload_n 0, 1) := by decide +kernel
theorem dX5_blameOf_51 : decode cX5_blameOf 51 = .ok (.getfield 18, 3) := by decide +kernel
theorem dX5_blameOf_54 : decode cX5_blameOf 54 = .ok (.invokevirtual 98, 3) := by decide +kernel
theorem dX5_blameOf_57 : decode cX5_blameOf 57 = .ok (.isub, 1) := by decide +kernel
theorem dX5_blameOf_58 : decode cX5_blameOf 58 = .ok (.ireturn, 1) := by decide +kernel
theorem dX5_bestBack_0 : decode cX5_bestBack 0 = .ok (.ldc 82, 2) := by decide +kernel
theorem dX5_bestBack_2 : decode cX5_bestBack 2 = .ok (.istore 6, 2) := by decide +kernel
theorem dX5_bestBack_4 : decode cX5_bestBack 4 = .ok (.ldc 89, 2) := by decide +kernel
theorem dX5_bestBack_6 : decode cX5_bestBack 6 = .ok (.istore 7, 2) := by decide +kernel
theorem dX5_bestBack_8 : decode cX5_bestBack 8 = .ok (.iconst 0, 1) := by decide +kernel
theorem dX5_bestBack_9 : decode cX5_bestBack 9 = .ok (.istore 8, 2) := by decide +kernel
theorem dX5_bestBack_11 : decode cX5_bestBack 11 = .ok (.iload 8, 2) := by decide +kernel
theorem dX5_bestBack_13 : decode cX5_bestBack 13 = .ok (.iload 4, 2) := by decide +kernel
theorem dX5_bestBack_15 : decode cX5_bestBack 15 = .ok (.if_icmp .ge 53, 3) := by decide +kernel
theorem dX5_bestBack_18 : decode cX5_bestBack 18 = .ok (.aload_n 0, 1) := by decide +kernel
theorem dX5_bestBack_19 : decode cX5_bestBack 19 = .ok (.aload_n 1, 1) := by decide +kernel
theorem dX5_bestBack_20 : decode cX5_bestBack 20 = .ok (.iload_n 2, 1) := by decide +kernel
theorem dX5_bestBack_21 : decode cX5_bestBack 21 = .ok (.iload_n 3, 1) := by decide +kernel
theorem dX5_bestBack_22 : decode cX5_bestBack 22 = .ok (.iload 4, 2) := by decide +kernel
theorem dX5_bestBack_24 : decode cX5_bestBack 24 = .ok (.iload 8, 2) := by decide +kernel
theorem dX5_bestBack_26 : decode cX5_bestBack 26 = .ok (.invokevirtual 116, 3) := by decide +kernel
theorem dX5_bestBack_29 : decode cX5_bestBack 29 = .ok (.ifCond .eq 33, 3) := by decide +kernel
theorem dX5_bestBack_32 : decode cX5_bestBack 32 = .ok (.aload_n 0, 1) := by decide +kernel
theorem dX5_bestBack_33 : decode cX5_bestBack 33 = .ok (.getfield 12, 3) := by decide +kernel
theorem dX5_bestBack_36 : decode cX5_bestBack 36 = .ok (.invokevirtual 43, 3) := by decide +kernel
theorem dX5_bestBack_39 : decode cX5_bestBack 39 = .ok (.iload 5, 2) := by decide +kernel
theorem dX5_bestBack_41 : decode cX5_bestBack 41 = .ok (.isub, 1) := by decide +kernel
theorem dX5_bestBack_42 : decode cX5_bestBack 42 = .ok (.invokestatic 76, 3) := by decide +kernel
theorem dX5_bestBack_45 : decode cX5_bestBack 45 = .ok (.istore 9, 2) := by decide +kernel
theorem dX5_bestBack_47 : decode cX5_bestBack 47 = .ok (.iload 9, 2) := by decide +kernel
theorem dX5_bestBack_49 : decode cX5_bestBack 49 = .ok (.iload 7, 2) := by decide +kernel
theorem dX5_bestBack_51 : decode cX5_bestBack 51 = .ok (.if_icmp .ge 11, 3) := by decide +kernel
theorem dX5_bestBack_54 : decode cX5_bestBack 54 = .ok (.iload 9, 2) := by decide +kernel
theorem dX5_bestBack_56 : decode cX5_bestBack 56 = .ok (.istore 7, 2) := by decide +kernel
theorem dX5_bestBack_58 : decode cX5_bestBack 58 = .ok (.iload 8, 2) := by decide +kernel
theorem dX5_bestBack_60 : decode cX5_bestBack 60 = .ok (.istore 6, 2) := by decide +kernel
theorem dX5_bestBack_62 : decode cX5_bestBack 62 = .ok (.iinc 8 1, 3) := by decide +kernel
theorem dX5_bestBack_65 : decode cX5_bestBack 65 = .ok (.goto (-54), 3) := by decide +kernel
theorem dX5_bestBack_68 : decode cX5_bestBack 68 = .ok (.iload 6, 2) := by decide +kernel
theorem dX5_bestBack_70 : decode cX5_bestBack 70 = .ok (.ireturn, 1) := by decide +kernel
theorem dX5_passesUnnoticed_0 : decode cX5_passesUnnoticed 0 = .ok (.aload_n 0, 1) := by decide +kernel
theorem dX5_passesUnnoticed_1 : decode cX5_passesUnnoticed 1 = .ok (.getfield 12, 3) := by decide +kernel
theorem dX5_passesUnnoticed_4 : decode cX5_passesUnnoticed 4 = .ok (.aload_n 1, 1) := by decide +kernel
theorem dX5_passesUnnoticed_5 : decode cX5_passesUnnoticed 5 = .ok (.invokevirtual 28, 3) := by decide +kernel
theorem dX5_passesUnnoticed_8 : decode cX5_passesUnnoticed 8 = .ok (.iconst 0, 1) := by decide +kernel
theorem dX5_passesUnnoticed_9 : decode cX5_passesUnnoticed 9 = .ok (.istore 6, 2) := by decide +kernel
theorem dX5_passesUnnoticed_11 : decode cX5_passesUnnoticed 11 = .ok (.iload 6, 2) := by decide +kernel
theorem dX5_passesUnnoticed_13 : decode cX5_passesUnnoticed 13 = .ok (.iload 4, 2) := by decide +kernel
theorem dX5_passesUnnoticed_15 : decode cX5_passesUnnoticed 15 = .ok (.if_icmp .ge 75, 3) := by decide +kernel
theorem dX5_passesUnnoticed_18 : decode cX5_passesUnnoticed 18 = .ok (.aload_n 0, 1) := by decide +kernel
theorem dX5_passesUnnoticed_19 : decode cX5_passesUnnoticed 19 = .ok (.getfield 12, 3) := by decide +kernel
theorem dX5_passesUnnoticed_22 : decode cX5_passesUnnoticed 22 = .ok (.invokevirtual 43, 3) := by decide +kernel
theorem dX5_passesUnnoticed_25 : decode cX5_passesUnnoticed 25 = .ok (.istore 7, 2) := by decide +kernel
theorem dX5_passesUnnoticed_27 : decode cX5_passesUnnoticed 27 = .ok (.iload 6, 2) := by decide +kernel
theorem dX5_passesUnnoticed_29 : decode cX5_passesUnnoticed 29 = .ok (.iload 5, 2) := by decide +kernel
theorem dX5_passesUnnoticed_31 : decode cX5_passesUnnoticed 31 = .ok (.if_icmp .ne 26, 3) := by decide +kernel
theorem dX5_passesUnnoticed_34 : decode cX5_passesUnnoticed 34 = .ok (.aload_n 0, 1) := by decide +kernel
theorem dX5_passesUnnoticed_35 : decode cX5_passesUnnoticed 35 = .ok (.getfield 12, 3) := by decide +kernel
theorem dX5_passesUnnoticed_38 : decode cX5_passesUnnoticed 38 = .ok (.getfield 64, 3) := by decide +kernel
theorem dX5_passesUnnoticed_41 : decode cX5_passesUnnoticed 41 = .ok (.iload_n 2, 1) := by decide +kernel
theorem dX5_passesUnnoticed_42 : decode cX5_passesUnnoticed 42 = .ok (.aload_n 0, 1) := by decide +kernel
theorem dX5_passesUnnoticed_43 : decode cX5_passesUnnoticed 43 = .ok (.getfield 12, 3) := by decide +kernel
theorem dX5_passesUnnoticed_46 : decode cX5_passesUnnoticed 46 = .ok (.getfield 64, 3) := by decide +kernel
theorem dX5_passesUnnoticed_49 : decode cX5_passesUnnoticed 49 = .ok (.iload_n 2, 1) := by decide +kernel
theorem dX5_passesUnnoticed_50 : decode cX5_passesUnnoticed 50 = .ok (.iaload, 1) := by decide +kernel
theorem dX5_passesUnnoticed_51 : decode cX5_passesUnnoticed 51 = .ok (.iload_n 3, 1) := by decide +kernel
theorem dX5_passesUnnoticed_52 : decode cX5_passesUnnoticed 52 = .ok (.isub, 1) := by decide +kernel
theorem dX5_passesUnnoticed_53 : decode cX5_passesUnnoticed 53 = .ok (.invokestatic 120, 3) := by decide +kernel
theorem dX5_passesUnnoticed_56 : decode cX5_passesUnnoticed 56 = .ok (.iastore, 1) := by decide +kernel
theorem dX5_passesUnnoticed_57 : decode cX5_passesUnnoticed 57 = .ok (.aload_n 0, 1) := by decide +kernel
theorem dX5_passesUnnoticed_58 : decode cX5_passesUnnoticed 58 = .ok (.getfield 12, 3) := by decide +kernel
theorem dX5_passesUnnoticed_61 : decode cX5_passesUnnoticed 61 = .ok (.invokevirtual 32, 3) := by decide +kernel
theorem dX5_passesUnnoticed_64 : decode cX5_passesUnnoticed 64 = .ok (.aload_n 0, 1) := by decide +kernel
theorem dX5_passesUnnoticed_65 : decode cX5_passesUnnoticed 65 = .ok (.getfield 12, 3) := by decide +kernel
theorem dX5_passesUnnoticed_68 : decode cX5_passesUnnoticed 68 = .ok (.invokevirtual 43, 3) := by decide +kernel
theorem dX5_passesUnnoticed_71 : decode cX5_passesUnnoticed 71 = .ok (.iload 7, 2) := by decide +kernel
theorem dX5_passesUnnoticed_73 : decode cX5_passesUnnoticed 73 = .ok (.isub, 1) := by decide +kernel
theorem dX5_passesUnnoticed_74 : decode cX5_passesUnnoticed 74 = .ok (.invokestatic 76, 3) := by decide +kernel
theorem dX5_passesUnnoticed_77 : decode cX5_passesUnnoticed 77 = .ok (.bipush 9, 2) := by decide +kernel
theorem dX5_passesUnnoticed_79 : decode cX5_passesUnnoticed 79 = .ok (.if_icmp .le 5, 3) := by decide +kernel
theorem dX5_passesUnnoticed_82 : decode cX5_passesUnnoticed 82 = .ok (.iconst 0, 1) := by decide +kernel
theorem dX5_passesUnnoticed_83 : decode cX5_passesUnnoticed 83 = .ok (.ireturn, 1) := by decide +kernel
theorem dX5_passesUnnoticed_84 : decode cX5_passesUnnoticed 84 = .ok (.iinc 6 1, 3) := by decide +kernel
theorem dX5_passesUnnoticed_87 : decode cX5_passesUnnoticed 87 = .ok (.goto (-76), 3) := by decide +kernel
theorem dX5_passesUnnoticed_90 : decode cX5_passesUnnoticed 90 = .ok (.iconst 1, 1) := by decide +kernel
theorem dX5_passesUnnoticed_91 : decode cX5_passesUnnoticed 91 = .ok (.ireturn, 1) := by decide +kernel
theorem dX5_gainOfClaps_0 : decode cX5_gainOfClaps 0 = .ok (.aload_n 0, 1) := by decide +kernel
theorem dX5_gainOfClaps_1 : decode cX5_gainOfClaps 1 = .ok (.getfield 18, 3) := by decide +kernel
theorem dX5_gainOfClaps_4 : decode cX5_gainOfClaps 4 = .ok (.aload_n 1, 1) := by decide +kernel
theorem dX5_gainOfClaps_5 : decode cX5_gainOfClaps 5 = .ok (.invokevirtual 28, 3) := by decide +kernel
theorem dX5_gainOfClaps_8 : decode cX5_gainOfClaps 8 = .ok (.aload_n 0, 1) := by decide +kernel
theorem dX5_gainOfClaps_9 : decode cX5_gainOfClaps 9 = .ok (.getfield 18, 3) := by decide +kernel
theorem dX5_gainOfClaps_12 : decode cX5_gainOfClaps 12 = .ok (.iload_n 2, 1) := by decide +kernel
theorem dX5_gainOfClaps_13 : decode cX5_gainOfClaps 13 = .ok (.invokevirtual 123, 3) := by decide +kernel
theorem dX5_gainOfClaps_16 : decode cX5_gainOfClaps 16 = .ok (.aload_n 0, 1) := by decide +kernel
theorem dX5_gainOfClaps_17 : decode cX5_gainOfClaps 17 = .ok (.aload_n 0, 1) := by decide +kernel
theorem dX5_gainOfClaps_18 : decode cX5_gainOfClaps 18 = .ok (.getfield 18, 3) := by decide +kernel
theorem dX5_gainOfClaps_21 : decode cX5_gainOfClaps 21 = .ok (.iload_n 3, 1) := by decide +kernel
theorem dX5_gainOfClaps_22 : decode cX5_gainOfClaps 22 = .ok (.invokevirtual 39, 3) := by decide +kernel
theorem dX5_gainOfClaps_25 : decode cX5_gainOfClaps 25 = .ok (.invokevirtual 43, 3) := by decide +kernel
theorem dX5_gainOfClaps_28 : decode cX5_gainOfClaps 28 = .ok (.istore 4, 2) := by decide +kernel
theorem dX5_gainOfClaps_30 : decode cX5_gainOfClaps 30 = .ok (.iload 4, 2) := by decide +kernel
theorem dX5_gainOfClaps_32 : decode cX5_gainOfClaps 32 = .ok (.aload_n 0, 1) := by decide +kernel
theorem dX5_gainOfClaps_33 : decode cX5_gainOfClaps 33 = .ok (.aload_n 1, 1) := by decide +kernel
theorem dX5_gainOfClaps_34 : decode cX5_gainOfClaps 34 = .ok (.iload_n 3, 1) := by decide +kernel
theorem dX5_gainOfClaps_35 : decode cX5_gainOfClaps 35 = .ok (.invokevirtual 39, 3) := by decide +kernel
theorem dX5_gainOfClaps_38 : decode cX5_gainOfClaps 38 = .ok (.invokevirtual 43, 3) := by decide +kernel
theorem dX5_gainOfClaps_41 : decode cX5_gainOfClaps 41 = .ok (.isub, 1) := by decide +kernel
theorem dX5_gainOfClaps_42 : decode cX5_gainOfClaps 42 = .ok (.ireturn, 1) := by decide +kernel
theorem dX5_findPushers_0 : decode cX5_findPushers 0 = .ok (.aload_n 0, 1) := by decide +kernel
theorem dX5_findPushers_1 : decode cX5_findPushers 1 = .ok (.iconst 0, 1) := by decide +kernel
theorem dX5_findPushers_2 : decode cX5_findPushers 2 = .ok (.putfield 55, 3) := by decide +kernel
theorem dX5_findPushers_5 : decode cX5_findPushers 5 = .ok (.aload_n 0, 1) := by decide +kernel
theorem dX5_findPushers_6 : decode cX5_findPushers 6 = .ok (.ldc 82, 2) := by decide +kernel
theorem dX5_findPushers_8 : decode cX5_findPushers 8 = .ok (.putfield 58, 3) := by decide +kernel
theorem dX5_findPushers_11 : decode cX5_findPushers 11 = .ok (.iconst 0, 1) := by decide +kernel
theorem dX5_findPushers_12 : decode cX5_findPushers 12 = .ok (.istore_n 3, 1) := by decide +kernel
theorem dX5_findPushers_13 : decode cX5_findPushers 13 = .ok (.iload_n 3, 1) := by decide +kernel
theorem dX5_findPushers_14 : decode cX5_findPushers 14 = .ok (.aload_n 1, 1) := by decide +kernel
theorem dX5_findPushers_15 : decode cX5_findPushers 15 = .ok (.getfield 73, 3) := by decide +kernel
theorem dX5_findPushers_18 : decode cX5_findPushers 18 = .ok (.if_icmp .ge 52, 3) := by decide +kernel
theorem dX5_findPushers_21 : decode cX5_findPushers 21 = .ok (.aload_n 0, 1) := by decide +kernel
theorem dX5_findPushers_22 : decode cX5_findPushers 22 = .ok (.aload_n 1, 1) := by decide +kernel
theorem dX5_findPushers_23 : decode cX5_findPushers 23 = .ok (.iload_n 3, 1) := by decide +kernel
theorem dX5_findPushers_24 : decode cX5_findPushers 24 = .ok (.aload_n 2, 1) := by decide +kernel
theorem dX5_findPushers_25 : decode cX5_findPushers 25 = .ok (.invokevirtual 126, 3) := by decide +kernel
theorem dX5_findPushers_28 : decode cX5_findPushers 28 = .ok (.istore 4, 2) := by decide +kernel
theorem dX5_findPushers_30 : decode cX5_findPushers 30 = .ok (.iload 4, 2) := by decide +kernel
theorem dX5_findPushers_32 : decode cX5_findPushers 32 = .ok (.ldc 82, 2) := by decide +kernel
theorem dX5_findPushers_34 : decode cX5_findPushers 34 = .ok (.if_icmp .eq 30, 3) := by decide +kernel
theorem dX5_findPushers_37 : decode cX5_findPushers 37 = .ok (.aload_n 0, 1) := by decide +kernel
theorem dX5_findPushers_38 : decode cX5_findPushers 38 = .ok (.dup, 1) := by decide +kernel
theorem dX5_findPushers_39 : decode cX5_findPushers 39 = .ok (.getfield 55, 3) := by decide +kernel
theorem dX5_findPushers_42 : decode cX5_findPushers 42 = .ok (.iconst 1, 1) := by decide +kernel
theorem dX5_findPushers_43 : decode cX5_findPushers 43 = .ok (.iload_n 3, 1) := by decide +kernel
theorem dX5_findPushers_44 : decode cX5_findPushers 44 = .ok (.ishl, 1) := by decide +kernel
theorem dX5_findPushers_45 : decode cX5_findPushers 45 = .ok (.ior, 1) := by decide +kernel
theorem dX5_findPushers_46 : decode cX5_findPushers 46 = .ok (.putfield 55, 3) := by decide +kernel
theorem dX5_findPushers_49 : decode cX5_findPushers 49 = .ok (.aload_n 0, 1) := by decide +kernel
theorem dX5_findPushers_50 : decode cX5_findPushers 50 = .ok (.getfield 58, 3) := by decide +kernel
theorem dX5_findPushers_53 : decode cX5_findPushers 53 = .ok (.ldc 82, 2) := by decide +kernel
theorem dX5_findPushers_55 : decode cX5_findPushers 55 = .ok (.if_icmp .ne 9, 3) := by decide +kernel
theorem dX5_findPushers_58 : decode cX5_findPushers 58 = .ok (.aload_n 0, 1) := by decide +kernel
theorem dX5_findPushers_59 : decode cX5_findPushers 59 = .ok (.iload 4, 2) := by decide +kernel
theorem dX5_findPushers_61 : decode cX5_findPushers 61 = .ok (.putfield 58, 3) := by decide +kernel
theorem dX5_findPushers_64 : decode cX5_findPushers 64 = .ok (.iinc 3 1, 3) := by decide +kernel
theorem dX5_findPushers_67 : decode cX5_findPushers 67 = .ok (.goto (-54), 3) := by decide +kernel
theorem dX5_findPushers_70 : decode cX5_findPushers 70 = .ok (.return_, 1) := by decide +kernel
theorem dX5_leastPush_0 : decode cX5_leastPush 0 = .ok (.iconst 1, 1) := by decide +kernel
theorem dX5_leastPush_1 : decode cX5_leastPush 1 = .ok (.istore 4, 2) := by decide +kernel
theorem dX5_leastPush_3 : decode cX5_leastPush 3 = .ok (.iload 4, 2) := by decide +kernel
theorem dX5_leastPush_5 : decode cX5_leastPush 5 = .ok (.bipush 20, 2) := by decide +kernel
theorem dX5_leastPush_7 : decode cX5_leastPush 7 = .ok (.if_icmp .gt 49, 3) := by decide +kernel
theorem dX5_leastPush_10 : decode cX5_leastPush 10 = .ok (.aload_n 0, 1) := by decide +kernel
theorem dX5_leastPush_11 : decode cX5_leastPush 11 = .ok (.getfield 12, 3) := by decide +kernel
theorem dX5_leastPush_14 : decode cX5_leastPush 14 = .ok (.aload_n 1, 1) := by decide +kernel
theorem dX5_leastPush_15 : decode cX5_leastPush 15 = .ok (.invokevirtual 28, 3) := by decide +kernel
theorem dX5_leastPush_18 : decode cX5_leastPush 18 = .ok (.aload_n 0, 1) := by decide +kernel
theorem dX5_leastPush_19 : decode cX5_leastPush 19 = .ok (.getfield 12, 3) := by decide +kernel
theorem dX5_leastPush_22 : decode cX5_leastPush 22 = .ok (.getfield 109, 3) := by decide +kernel
theorem dX5_leastPush_25 : decode cX5_leastPush 25 = .ok (.iload_n 2, 1) := by decide +kernel
theorem dX5_leastPush_26 : decode cX5_leastPush 26 = .ok (.dup2, 1) := by decide +kernel
theorem dX5_leastPush_27 : decode cX5_leastPush 27 = .ok (.iaload, 1) := by decide +kernel
theorem dX5_leastPush_28 : decode cX5_leastPush 28 = .ok (.iload 4, 2) := by decide +kernel
theorem dX5_leastPush_30 : decode cX5_leastPush 30 = .ok (.iadd, 1) := by decide +kernel
theorem dX5_leastPush_31 : decode cX5_leastPush 31 = .ok (.iastore, 1) := by decide +kernel
theorem dX5_leastPush_32 : decode cX5_leastPush 32 = .ok (.aload_n 0, 1) := by decide +kernel
theorem dX5_leastPush_33 : decode cX5_leastPush 33 = .ok (.getfield 12, 3) := by decide +kernel
theorem dX5_leastPush_36 : decode cX5_leastPush 36 = .ok (.invokevirtual 32, 3) := by decide +kernel
theorem dX5_leastPush_39 : decode cX5_leastPush 39 = .ok (.aload_n 0, 1) := by decide +kernel
theorem dX5_leastPush_40 : decode cX5_leastPush 40 = .ok (.aload_n 3, 1) := by decide +kernel
theorem dX5_leastPush_41 : decode cX5_leastPush 41 = .ok (.invokevirtual 130, 3) := by decide +kernel
theorem dX5_leastPush_44 : decode cX5_leastPush 44 = .ok (.ifCond .eq 6, 3) := by decide +kernel
theorem dX5_leastPush_47 : decode cX5_leastPush 47 = .ok (.iload 4, 2) := by decide +kernel
theorem dX5_leastPush_49 : decode cX5_leastPush 49 = .ok (.ireturn, 1) := by decide +kernel
theorem dX5_leastPush_50 : decode cX5_leastPush 50 = .ok (.iinc 4 1, 3) := by decide +kernel
theorem dX5_leastPush_53 : decode cX5_leastPush 53 = .ok (.goto (-50), 3) := by decide +kernel
theorem dX5_leastPush_56 : decode cX5_leastPush 56 = .ok (.ldc 82, 2) := by decide +kernel
theorem dX5_leastPush_58 : decode cX5_leastPush 58 = .ok (.ireturn, 1) := by decide +kernel
theorem dX5_hasPaces_0 : decode cX5_hasPaces 0 = .ok (.iconst 0, 1) := by decide +kernel
theorem dX5_hasPaces_1 : decode cX5_hasPaces 1 = .ok (.istore_n 2, 1) := by decide +kernel
theorem dX5_hasPaces_2 : decode cX5_hasPaces 2 = .ok (.iload_n 2, 1) := by decide +kernel
theorem dX5_hasPaces_3 : decode cX5_hasPaces 3 = .ok (.aload_n 0, 1) := by decide +kernel
theorem dX5_hasPaces_4 : decode cX5_hasPaces 4 = .ok (.getfield 12, 3) := by decide +kernel
theorem dX5_hasPaces_7 : decode cX5_hasPaces 7 = .ok (.getfield 73, 3) := by decide +kernel
theorem dX5_hasPaces_10 : decode cX5_hasPaces 10 = .ok (.if_icmp .ge 26, 3) := by decide +kernel
theorem dX5_hasPaces_13 : decode cX5_hasPaces 13 = .ok (.aload_n 0, 1) := by decide +kernel
theorem dX5_hasPaces_14 : decode cX5_hasPaces 14 = .ok (.getfield 12, 3) := by decide +kernel
theorem dX5_hasPaces_17 : decode cX5_hasPaces 17 = .ok (.getfield 64, 3) := by decide +kernel
theorem dX5_hasPaces_20 : decode cX5_hasPaces 20 = .ok (.iload_n 2, 1) := by decide +kernel
theorem dX5_hasPaces_21 : decode cX5_hasPaces 21 = .ok (.iaload, 1) := by decide +kernel
theorem dX5_hasPaces_22 : decode cX5_hasPaces 22 = .ok (.aload_n 1, 1) := by decide +kernel
theorem dX5_hasPaces_23 : decode cX5_hasPaces 23 = .ok (.iload_n 2, 1) := by decide +kernel
theorem dX5_hasPaces_24 : decode cX5_hasPaces 24 = .ok (.iaload, 1) := by decide +kernel
theorem dX5_hasPaces_25 : decode cX5_hasPaces 25 = .ok (.if_icmp .eq 5, 3) := by decide +kernel
theorem dX5_hasPaces_28 : decode cX5_hasPaces 28 = .ok (.iconst 0, 1) := by decide +kernel
theorem dX5_hasPaces_29 : decode cX5_hasPaces 29 = .ok (.ireturn, 1) := by decide +kernel
theorem dX5_hasPaces_30 : decode cX5_hasPaces 30 = .ok (.iinc 2 1, 3) := by decide +kernel
theorem dX5_hasPaces_33 : decode cX5_hasPaces 33 = .ok (.goto (-31), 3) := by decide +kernel
theorem dX5_hasPaces_36 : decode cX5_hasPaces 36 = .ok (.iconst 1, 1) := by decide +kernel
theorem dX5_hasPaces_37 : decode cX5_hasPaces 37 = .ok (.ireturn, 1) := by decide +kernel
theorem dX5_findNight_0 : decode cX5_findNight 0 = .ok (.aload_n 0, 1) := by decide +kernel
theorem dX5_findNight_1 : decode cX5_findNight 1 = .ok (.getfield 12, 3) := by decide +kernel
theorem dX5_findNight_4 : decode cX5_findNight 4 = .ok (.aload_n 1, 1) := by decide +kernel
theorem dX5_findNight_5 : decode cX5_findNight 5 = .ok (.invokevirtual 28, 3) := by decide +kernel
theorem dX5_findNight_8 : decode cX5_findNight 8 = .ok (.iload_n 3, 1) := by decide +kernel
theorem dX5_findNight_9 : decode cX5_findNight 9 = .ok (.i2l, 1) := by decide +kernel
theorem dX5_findNight_10 : decode cX5_findNight 10 = .ok (.lstore 4, 2) := by decide +kernel
theorem dX5_findNight_12 : decode cX5_findNight 12 = .ok (.aload_n 0, 1) := by decide +kernel
theorem dX5_findNight_13 : decode cX5_findNight 13 = .ok (.iconst 0, 1) := by decide +kernel
theorem dX5_findNight_14 : decode cX5_findNight 14 = .ok (.putfield 58, 3) := by decide +kernel
theorem dX5_findNight_17 : decode cX5_findNight 17 = .ok (.iconst 0, 1) := by decide +kernel
theorem dX5_findNight_18 : decode cX5_findNight 18 = .ok (.istore 6, 2) := by decide +kernel
theorem dX5_findNight_20 : decode cX5_findNight 20 = .ok (.iload 6, 2) := by decide +kernel
theorem dX5_findNight_22 : decode cX5_findNight 22 = .ok (.iload_n 2, 1) := by decide +kernel
theorem dX5_findNight_23 : decode cX5_findNight 23 = .ok (.if_icmp .ge 119, 3) := by decide +kernel
theorem dX5_findNight_26 : decode cX5_findNight 26 = .ok (.aload_n 0, 1) := by decide +kernel
theorem dX5_findNight_27 : decode cX5_findNight 27 = .ok (.getfield 12, 3) := by decide +kernel
theorem dX5_findNight_30 : decode cX5_findNight 30 = .ok (.invokevirtual 43, 3) := by decide +kernel
theorem dX5_findNight_33 : decode cX5_findNight 33 = .ok (.istore 7, 2) := by decide +kernel
theorem dX5_findNight_35 : decode cX5_findNight 35 = .ok (.iconst 0, 1) := by decide +kernel
theorem dX5_findNight_36 : decode cX5_findNight 36 = .ok (.istore 8, 2) := by decide +kernel
theorem dX5_findNight_38 : decode cX5_findNight 38 = .ok (.iload 8, 2) := by decide +kernel
theorem dX5_findNight_40 : decode cX5_findNight 40 = .ok (.aload_n 0, 1) := by decide +kernel
theorem dX5_findNight_41 : decode cX5_findNight 41 = .ok (.getfield 12, 3) := by decide +kernel
theorem dX5_findNight_44 : decode cX5_findNight 44 = .ok (.getfield 73, 3) := by decide +kernel
theorem dX5_findNight_47 : decode cX5_findNight 47 = .ok (.if_icmp .ge 54, 3) := by decide +kernel
theorem dX5_findNight_50 : decode cX5_findNight 50 = .ok (.lload 4, 2) := by decide +kernel
theorem dX5_findNight_52 : decode cX5_findNight 52 = .ok (.ldc2_w 134, 3) := by decide +kernel
theorem dX5_findNight_55 : decode cX5_findNight 55 = .ok (.lmul, 1) := by decide +kernel
theorem dX5_findNight_56 : decode cX5_findNight 56 = .ok (.ldc2_w 136, 3) := by decide +kernel
theorem dX5_findNight_59 : decode cX5_findNight 59 = .ok (.lrem, 1) := by decide +kernel
theorem dX5_findNight_60 : decode cX5_findNight 60 = .ok (.lstore 4, 2) := by decide +kernel
theorem dX5_findNight_62 : decode cX5_findNight 62 = .ok (.aload_n 0, 1) := by decide +kernel
theorem dX5_findNight_63 : decode cX5_findNight 63 = .ok (.getfield 12, 3) := by decide +kernel
theorem dX5_findNight_66 : decode cX5_findNight 66 = .ok (.getfield 64, 3) := by decide +kernel
theorem dX5_findNight_69 : decode cX5_findNight 69 = .ok (.iload 8, 2) := by decide +kernel
theorem dX5_findNight_71 : decode cX5_findNight 71 = .ok (.aload_n 0, 1) := by decide +kernel
theorem dX5_findNight_72 : decode cX5_findNight 72 = .ok (.getfield 12, 3) := by decide +kernel
theorem dX5_findNight_75 : decode cX5_findNight 75 = .ok (.getfield 64, 3) := by decide +kernel
theorem dX5_findNight_78 : decode cX5_findNight 78 = .ok (.iload 8, 2) := by decide +kernel
theorem dX5_findNight_80 : decode cX5_findNight 80 = .ok (.iaload, 1) := by decide +kernel
theorem dX5_findNight_81 : decode cX5_findNight 81 = .ok (.lload 4, 2) := by decide +kernel
theorem dX5_findNight_83 : decode cX5_findNight 83 = .ok (.ldc2_w 138, 3) := by decide +kernel
theorem dX5_findNight_86 : decode cX5_findNight 86 = .ok (.lrem, 1) := by decide +kernel
theorem dX5_findNight_87 : decode cX5_findNight 87 = .ok (.l2i, 1) := by decide +kernel
theorem dX5_findNight_88 : decode cX5_findNight 88 = .ok (.iadd, 1) := by decide +kernel
theorem dX5_findNight_89 : decode cX5_findNight 89 = .ok (.iconst 2, 1) := by decide +kernel
theorem dX5_findNight_90 : decode cX5_findNight 90 = .ok (.isub, 1) := by decide +kernel
theorem dX5_findNight_91 : decode cX5_findNight 91 = .ok (.invokestatic 120, 3) := by decide +kernel
theorem dX5_findNight_94 : decode cX5_findNight 94 = .ok (.iastore, 1) := by decide +kernel
theorem dX5_findNight_95 : decode cX5_findNight 95 = .ok (.iinc 8 1, 3) := by decide +kernel
theorem dX5_findNight_98 : decode cX5_findNight 98 = .ok (.goto (-60), 3) := by decide +kernel
theorem dX5_findNight_101 : decode cX5_findNight 101 = .ok (.aload_n 0, 1) := by decide +kernel
theorem dX5_findNight_102 : decode cX5_findNight 102 = .ok (.getfield 12, 3) := by decide +kernel
theorem dX5_findNight_105 : decode cX5_findNight 105 = .ok (.invokevirtual 32, 3) := by decide +kernel
theorem dX5_findNight_108 : decode cX5_findNight 108 = .ok (.aload_n 0, 1) := by decide +kernel
theorem dX5_findNight_109 : decode cX5_findNight 109 = .ok (.getfield 12, 3) := by decide +kernel
theorem dX5_findNight_112 : decode cX5_findNight 112 = .ok (.invokevirtual 43, 3) := by decide +kernel
theorem dX5_findNight_115 : decode cX5_findNight 115 = .ok (.iload 7, 2) := by decide +kernel
theorem dX5_findNight_117 : decode cX5_findNight 117 = .ok (.isub, 1) := by decide +kernel
theorem dX5_findNight_118 : decode cX5_findNight 118 = .ok (.invokestatic 76, 3) := by decide +kernel
theorem dX5_findNight_121 : decode cX5_findNight 121 = .ok (.bipush 9, 2) := by decide +kernel
theorem dX5_findNight_123 : decode cX5_findNight 123 = .ok (.if_icmp .le 13, 3) := by decide +kernel
theorem dX5_findNight_126 : decode cX5_findNight 126 = .ok (.aload_n 0, 1) := by decide +kernel
theorem dX5_findNight_127 : decode cX5_findNight 127 = .ok (.dup, 1) := by decide +kernel
theorem dX5_findNight_128 : decode cX5_findNight 128 = .ok (.getfield 58, 3) := by decide +kernel
theorem dX5_findNight_131 : decode cX5_findNight 131 = .ok (.iconst 1, 1) := by decide +kernel
theorem dX5_findNight_132 : decode cX5_findNight 132 = .ok (.iadd, 1) := by decide +kernel
theorem dX5_findNight_133 : decode cX5_findNight 133 = .ok (.putfield 58, 3) := by decide +kernel
theorem dX5_findNight_136 : decode cX5_findNight 136 = .ok (.iinc 6 1, 3) := by decide +kernel
theorem dX5_findNight_139 : decode cX5_findNight 139 = .ok (.goto (-119), 3) := by decide +kernel
theorem dX5_findNight_142 : decode cX5_findNight 142 = .ok (.aload_n 0, 1) := by decide +kernel
theorem dX5_findNight_143 : decode cX5_findNight 143 = .ok (.aload_n 0, 1) := by decide +kernel
theorem dX5_findNight_144 : decode cX5_findNight 144 = .ok (.getfield 12, 3) := by decide +kernel
theorem dX5_findNight_147 : decode cX5_findNight 147 = .ok (.invokevirtual 43, 3) := by decide +kernel
theorem dX5_findNight_150 : decode cX5_findNight 150 = .ok (.putfield 55, 3) := by decide +kernel
theorem dX5_findNight_153 : decode cX5_findNight 153 = .ok (.return_, 1) := by decide +kernel
theorem dX6_init_0 : decode cX6_init 0 = .ok (.aload_n 0, 1) := by decide +kernel
theorem dX6_init_1 : decode cX6_init 1 = .ok (.invokespecial 3, 3) := by decide +kernel
theorem dX6_init_4 : decode cX6_init 4 = .ok (.aload_n 0, 1) := by decide +kernel
theorem dX6_init_5 : decode cX6_init 5 = .ok (.sipush 140, 3) := by decide +kernel
theorem dX6_init_8 : decode cX6_init 8 = .ok (.newarray .int, 2) := by decide +kernel
theorem dX6_init_10 : decode cX6_init 10 = .ok (.putfield 9, 3) := by decide +kernel
theorem dX6_init_13 : decode cX6_init 13 = .ok (.return_, 1) := by decide +kernel
theorem dX6_takeIn_0 : decode cX6_takeIn 0 = .ok (.aload_n 0, 1) := by decide +kernel
theorem dX6_takeIn_1 : decode cX6_takeIn 1 = .ok (.getfield 15, 3) := by decide +kernel
theorem dX6_takeIn_4 : decode cX6_takeIn 4 = .ok (.sipush 140, 3) := by decide +kernel
theorem dX6_takeIn_7 : decode cX6_takeIn 7 = .ok (.if_icmp .lt 5, 3) := by decide +kernel
theorem dX6_takeIn_10 : decode cX6_takeIn 10 = .ok (.iconst 0, 1) := by decide +kernel
theorem dX6_takeIn_11 : decode cX6_takeIn 11 = .ok (.ireturn, 1) := by decide +kernel
theorem dX6_takeIn_12 : decode cX6_takeIn 12 = .ok (.aload_n 0, 1) := by decide +kernel
theorem dX6_takeIn_13 : decode cX6_takeIn 13 = .ok (.getfield 9, 3) := by decide +kernel
theorem dX6_takeIn_16 : decode cX6_takeIn 16 = .ok (.aload_n 0, 1) := by decide +kernel
theorem dX6_takeIn_17 : decode cX6_takeIn 17 = .ok (.getfield 15, 3) := by decide +kernel
theorem dX6_takeIn_20 : decode cX6_takeIn 20 = .ok (.iload_n 1, 1) := by decide +kernel
theorem dX6_takeIn_21 : decode cX6_takeIn 21 = .ok (.iastore, 1) := by decide +kernel
theorem dX6_takeIn_22 : decode cX6_takeIn 22 = .ok (.aload_n 0, 1) := by decide +kernel
theorem dX6_takeIn_23 : decode cX6_takeIn 23 = .ok (.dup, 1) := by decide +kernel
theorem dX6_takeIn_24 : decode cX6_takeIn 24 = .ok (.getfield 15, 3) := by decide +kernel
theorem dX6_takeIn_27 : decode cX6_takeIn 27 = .ok (.iconst 1, 1) := by decide +kernel
theorem dX6_takeIn_28 : decode cX6_takeIn 28 = .ok (.iadd, 1) := by decide +kernel
theorem dX6_takeIn_29 : decode cX6_takeIn 29 = .ok (.putfield 15, 3) := by decide +kernel
theorem dX6_takeIn_32 : decode cX6_takeIn 32 = .ok (.iconst 1, 1) := by decide +kernel
theorem dX6_takeIn_33 : decode cX6_takeIn 33 = .ok (.ireturn, 1) := by decide +kernel
theorem dX6_readInto_0 : decode cX6_readInto 0 = .ok (.aload_n 0, 1) := by decide +kernel
theorem dX6_readInto_1 : decode cX6_readInto 1 = .ok (.iconst 0, 1) := by decide +kernel
theorem dX6_readInto_2 : decode cX6_readInto 2 = .ok (.putfield 19, 3) := by decide +kernel
theorem dX6_readInto_5 : decode cX6_readInto 5 = .ok (.aload_n 1, 1) := by decide +kernel
theorem dX6_readInto_6 : decode cX6_readInto 6 = .ok (.invokevirtual 22, 3) := by decide +kernel
theorem dX6_readInto_9 : decode cX6_readInto 9 = .ok (.aload_n 0, 1) := by decide +kernel
theorem dX6_readInto_10 : decode cX6_readInto 10 = .ok (.aload_n 1, 1) := by decide +kernel
theorem dX6_readInto_11 : decode cX6_readInto 11 = .ok (.invokevirtual 27, 3) := by decide +kernel
theorem dX6_readInto_14 : decode cX6_readInto 14 = .ok (.ifCond .eq 31, 3) := by decide +kernel
theorem dX6_readInto_17 : decode cX6_readInto 17 = .ok (.aload_n 0, 1) := by decide +kernel
theorem dX6_readInto_18 : decode cX6_readInto 18 = .ok (.aload_n 1, 1) := by decide +kernel
theorem dX6_readInto_19 : decode cX6_readInto 19 = .ok (.invokevirtual 31, 3) := by decide +kernel
theorem dX6_readInto_22 : decode cX6_readInto 22 = .ok (.ifCond .eq 23, 3) := by decide +kernel
theorem dX6_readInto_25 : decode cX6_readInto 25 = .ok (.aload_n 0, 1) := by decide +kernel
theorem dX6_readInto_26 : decode cX6_readInto 26 = .ok (.aload_n 1, 1) := by decide +kernel
theorem dX6_readInto_27 : decode cX6_readInto 27 = .ok (.invokevirtual 34, 3) := by decide +kernel
theorem dX6_readInto_30 : decode cX6_readInto 30 = .ok (.ifCond .eq 15, 3) := by decide +kernel
theorem dX6_readInto_33 : decode cX6_readInto 33 = .ok (.aload_n 0, 1) := by decide +kernel
theorem dX6_readInto_34 : decode cX6_readInto 34 = .ok (.aload_n 1, 1) := by decide +kernel
theorem dX6_readInto_35 : decode cX6_readInto 35 = .ok (.invokevirtual 37, 3) := by decide +kernel
theorem dX6_readInto_38 : decode cX6_readInto 38 = .ok (.ifCond .eq 7, 3) := by decide +kernel
theorem dX6_readInto_41 : decode cX6_readInto 41 = .ok (.iconst 1, 1) := by decide +kernel
theorem dX6_readInto_42 : decode cX6_readInto 42 = .ok (.goto 4, 3) := by decide +kernel
theorem dX6_readInto_45 : decode cX6_readInto 45 = .ok (.iconst 0, 1) := by decide +kernel
theorem dX6_readInto_46 : decode cX6_readInto 46 = .ok (.ireturn, 1) := by decide +kernel
theorem dX6_readLaw_0 : decode cX6_readLaw 0 = .ok (.aload_n 0, 1) := by decide +kernel
theorem dX6_readLaw_1 : decode cX6_readLaw 1 = .ok (.bipush 98, 2) := by decide +kernel
theorem dX6_readLaw_3 : decode cX6_readLaw 3 = .ok (.invokevirtual 40, 3) := by decide +kernel
theorem dX6_readLaw_6 : decode cX6_readLaw 6 = .ok (.ifCond .eq 13, 3) := by decide +kernel
theorem dX6_readLaw_9 : decode cX6_readLaw 9 = .ok (.aload_n 0, 1) := by decide +kernel
theorem dX6_readLaw_10 : decode cX6_readLaw 10 = .ok (.iconst 0, 1) := by decide +kernel
theorem dX6_readLaw_11 : decode cX6_readLaw 11 = .ok (.bipush 20, 2) := by decide +kernel
theorem dX6_readLaw_13 : decode cX6_readLaw 13 = .ok (.invokevirtual 44, 3) := by decide +kernel
theorem dX6_readLaw_16 : decode cX6_readLaw 16 = .ok (.ifCond .ne 5, 3) := by decide +kernel
theorem dX6_readLaw_19 : decode cX6_readLaw 19 = .ok (.iconst 0, 1) := by decide +kernel
theorem dX6_readLaw_20 : decode cX6_readLaw 20 = .ok (.ireturn, 1) := by decide +kernel
theorem dX6_readLaw_21 : decode cX6_readLaw 21 = .ok (.aload_n 1, 1) := by decide +kernel
theorem dX6_readLaw_22 : decode cX6_readLaw 22 = .ok (.aload_n 0, 1) := by decide +kernel
theorem dX6_readLaw_23 : decode cX6_readLaw 23 = .ok (.getfield 48, 3) := by decide +kernel
theorem dX6_readLaw_26 : decode cX6_readLaw 26 = .ok (.putfield 51, 3) := by decide +kernel
theorem dX6_readLaw_29 : decode cX6_readLaw 29 = .ok (.aload_n 0, 1) := by decide +kernel
theorem dX6_readLaw_30 : decode cX6_readLaw 30 = .ok (.bipush 44, 2) := by decide +kernel
theorem dX6_readLaw_32 : decode cX6_readLaw 32 = .ok (.invokevirtual 40, 3) := by decide +kernel
theorem dX6_readLaw_35 : decode cX6_readLaw 35 = .ok (.ifCond .eq 13, 3) := by decide +kernel
theorem dX6_readLaw_38 : decode cX6_readLaw 38 = .ok (.aload_n 0, 1) := by decide +kernel
theorem dX6_readLaw_39 : decode cX6_readLaw 39 = .ok (.iconst 0, 1) := by decide +kernel
theorem dX6_readLaw_40 : decode cX6_readLaw 40 = .ok (.bipush 20, 2) := by decide +kernel
theorem dX6_readLaw_42 : decode cX6_readLaw 42 = .ok (.invokevirtual 44, 3) := by decide +kernel
theorem dX6_readLaw_45 : decode cX6_readLaw 45 = .ok (.ifCond .ne 5, 3) := by decide +kernel
theorem dX6_readLaw_48 : decode cX6_readLaw 48 = .ok (.iconst 0, 1) := by decide +kernel
theorem dX6_readLaw_49 : decode cX6_readLaw 49 = .ok (.ireturn, 1) := by decide +kernel
theorem dX6_readLaw_50 : decode cX6_readLaw 50 = .ok (.aload_n 1, 1) := by decide +kernel
theorem dX6_readLaw_51 : decode cX6_readLaw 51 = .ok (.aload_n 0, 1) := by decide +kernel
theorem dX6_readLaw_52 : decode cX6_readLaw 52 = .ok (.getfield 48, 3) := by decide +kernel
theorem dX6_readLaw_55 : decode cX6_readLaw 55 = .ok (.putfield 54, 3) := by decide +kernel
theorem dX6_readLaw_58 : decode cX6_readLaw 58 = .ok (.aload_n 0, 1) := by decide +kernel
theorem dX6_readLaw_59 : decode cX6_readLaw 59 = .ok (.bipush 44, 2) := by decide +kernel
theorem dX6_readLaw_61 : decode cX6_readLaw 61 = .ok (.invokevirtual 40, 3) := by decide +kernel
theorem dX6_readLaw_64 : decode cX6_readLaw 64 = .ok (.ifCond .eq 13, 3) := by decide +kernel
theorem dX6_readLaw_67 : decode cX6_readLaw 67 = .ok (.aload_n 0, 1) := by decide +kernel
theorem dX6_readLaw_68 : decode cX6_readLaw 68 = .ok (.iconst 0, 1) := by decide +kernel
theorem dX6_readLaw_69 : decode cX6_readLaw 69 = .ok (.bipush 20, 2) := by decide +kernel
theorem dX6_readLaw_71 : decode cX6_readLaw 71 = .ok (.invokevirtual 44, 3) := by decide +kernel
theorem dX6_readLaw_74 : decode cX6_readLaw 74 = .ok (.ifCond .ne 5, 3) := by decide +kernel
theorem dX6_readLaw_77 : decode cX6_readLaw 77 = .ok (.iconst 0, 1) := by decide +kernel
theorem dX6_readLaw_78 : decode cX6_readLaw 78 = .ok (.ireturn, 1) := by decide +kernel
theorem dX6_readLaw_79 : decode cX6_readLaw 79 = .ok (.aload_n 1, 1) := by decide +kernel
theorem dX6_readLaw_80 : decode cX6_readLaw 80 = .ok (.aload_n 0, 1) := by decide +kernel
theorem dX6_readLaw_81 : decode cX6_readLaw 81 = .ok (.getfield 48, 3) := by decide +kernel
theorem dX6_readLaw_84 : decode cX6_readLaw 84 = .ok (.putfield 57, 3) := by decide +kernel
theorem dX6_readLaw_87 : decode cX6_readLaw 87 = .ok (.aload_n 0, 1) := by decide +kernel
theorem dX6_readLaw_88 : decode cX6_readLaw 88 = .ok (.bipush 44, 2) := by decide +kernel
theorem dX6_readLaw_90 : decode cX6_readLaw 90 = .ok (.invokevirtual 40, 3) := by decide +kernel
theorem dX6_readLaw_93 : decode cX6_readLaw 93 = .ok (.ifCond .eq 14, 3) := by decide +kernel
theorem dX6_readLaw_96 : decode cX6_readLaw 96 = .ok (.aload_n 0, 1) := by decide +kernel
theorem dX6_readLaw_97 : decode cX6_readLaw 97 = .ok (.bipush 40, 2) := by decide +kernel
theorem dX6_readLaw_99 : decode cX6_readLaw 99 = .ok (.bipush 99, 2) := by decide +kernel
theorem dX6_readLaw_101 : decode cX6_readLaw 101 = .ok (.invokevirtual 44, 3) := by decide +kernel
theorem dX6_readLaw_104 : decode cX6_readLaw 104 = .ok (.ifCond .ne 5, 3) := by decide +kernel
theorem dX6_readLaw_107 : decode cX6_readLaw 107 = .ok (.iconst 0, 1) := by decide +kernel
theorem dX6_readLaw_108 : decode cX6_readLaw 108 = .ok (.ireturn, 1) := by decide +kernel
theorem dX6_readLaw_109 : decode cX6_readLaw 109 = .ok (.aload_n 1, 1) := by decide +kernel
theorem dX6_readLaw_110 : decode cX6_readLaw 110 = .ok (.aload_n 0, 1) := by decide +kernel
theorem dX6_readLaw_111 : decode cX6_readLaw 111 = .ok (.getfield 48, 3) := by decide +kernel
theorem dX6_readLaw_114 : decode cX6_readLaw 114 = .ok (.putfield 60, 3) := by decide +kernel
theorem dX6_readLaw_117 : decode cX6_readLaw 117 = .ok (.aload_n 0, 1) := by decide +kernel
theorem dX6_readLaw_118 : decode cX6_readLaw 118 = .ok (.bipush 59, 2) := by decide +kernel
theorem dX6_readLaw_120 : decode cX6_readLaw 120 = .ok (.invokevirtual 40, 3) := by decide +kernel
theorem dX6_readLaw_123 : decode cX6_readLaw 123 = .ok (.ireturn, 1) := by decide +kernel
theorem dX6_readSong_0 : decode cX6_readSong 0 = .ok (.aload_n 0, 1) := by decide +kernel
theorem dX6_readSong_1 : decode cX6_readSong 1 = .ok (.bipush 122, 2) := by decide +kernel
theorem dX6_readSong_3 : decode cX6_readSong 3 = .ok (.invokevirtual 40, 3) := by decide +kernel
theorem dX6_readSong_6 : decode cX6_readSong 6 = .ok (.ifCond .ne 5, 3) := by decide +kernel
theorem dX6_readSong_9 : decode cX6_readSong 9 = .ok (.iconst 0, 1) := by decide +kernel
theorem dX6_readSong_10 : decode cX6_readSong 10 = .ok (.ireturn, 1) := by decide +kernel
theorem dX6_readSong_11 : decode cX6_readSong 11 = .ok (.aload_n 1, 1) := by decide +kernel
theorem dX6_readSong_12 : decode cX6_readSong 12 = .ok (.getfield 63, 3) := by decide +kernel
theorem dX6_readSong_15 : decode cX6_readSong 15 = .ok (.bipush 12, 2) := by decide +kernel
theorem dX6_readSong_17 : decode cX6_readSong 17 = .ok (.if_icmp .ge 52, 3) := by decide +kernel
theorem dX6_readSong_20 : decode cX6_readSong 20 = .ok (.aload_n 0, 1) := by decide +kernel
theorem dX6_readSong_21 : decode cX6_readSong 21 = .ok (.invokevirtual 64, 3) := by decide +kernel
theorem dX6_readSong_24 : decode cX6_readSong 24 = .ok (.invokestatic 68, 3) := by decide +kernel
theorem dX6_readSong_27 : decode cX6_readSong 27 = .ok (.ifCond .lt 42, 3) := by decide +kernel
theorem dX6_readSong_30 : decode cX6_readSong 30 = .ok (.aload_n 1, 1) := by decide +kernel
theorem dX6_readSong_31 : decode cX6_readSong 31 = .ok (.getfield 72, 3) := by decide +kernel
theorem dX6_readSong_34 : decode cX6_readSong 34 = .ok (.aload_n 1, 1) := by decide +kernel
theorem dX6_readSong_35 : decode cX6_readSong 35 = .ok (.getfield 63, 3) := by decide +kernel
theorem dX6_readSong_38 : decode cX6_readSong 38 = .ok (.aload_n 0, 1) := by decide +kernel
theorem dX6_readSong_39 : decode cX6_readSong 39 = .ok (.invokevirtual 64, 3) := by decide +kernel
theorem dX6_readSong_42 : decode cX6_readSong 42 = .ok (.invokestatic 68, 3) := by decide +kernel
theorem dX6_readSong_45 : decode cX6_readSong 45 = .ok (.iastore, 1) := by decide +kernel
theorem dX6_readSong_46 : decode cX6_readSong 46 = .ok (.aload_n 1, 1) := by decide +kernel
theorem dX6_readSong_47 : decode cX6_readSong 47 = .ok (.dup, 1) := by decide +kernel
theorem dX6_readSong_48 : decode cX6_readSong 48 = .ok (.getfield 63, 3) := by decide +kernel
theorem dX6_readSong_51 : decode cX6_readSong 51 = .ok (.iconst 1, 1) := by decide +kernel
theorem dX6_readSong_52 : decode cX6_readSong 52 = .ok (.iadd, 1) := by decide +kernel
theorem dX6_readSong_53 : decode cX6_readSong 53 = .ok (.putfield 63, 3) := by decide +kernel
theorem dX6_readSong_56 : decode cX6_readSong 56 = .ok (.aload_n 0, 1) := by decide +kernel
theorem dX6_readSong_57 : decode cX6_readSong 57 = .ok (.dup, 1) := by decide +kernel
theorem dX6_readSong_58 : decode cX6_readSong 58 = .ok (.getfield 19, 3) := by decide +kernel
theorem dX6_readSong_61 : decode cX6_readSong 61 = .ok (.iconst 1, 1) := by decide +kernel
theorem dX6_readSong_62 : decode cX6_readSong 62 = .ok (.iadd, 1) := by decide +kernel
theorem dX6_readSong_63 : decode cX6_readSong 63 = .ok (.putfield 19, 3) := by decide +kernel
theorem dX6_readSong_66 : decode cX6_readSong 66 = .ok (.goto (-55), 3) := by decide +kernel
theorem dX6_readSong_69 : decode cX6_readSong 69 = .ok (.aload_n 1, 1) := by decide +kernel
theorem dX6_readSong_70 : decode cX6_readSong 70 = .ok (.getfield 63, 3) := by decide +kernel
theorem dX6_readSong_73 : decode cX6_readSong 73 = .ok (.ifCond .ne 9, 3) := by decide +kernel
theorem dX6_readSong_76 : decode cX6_readSong 76 = .ok (.aload_n 0, 1) := by decide +kernel
theorem dX6_readSong_77 : decode cX6_readSong 77 = .ok (.iconst 1, 1) := by decide +kernel
theorem dX6_readSong_78 : decode cX6_readSong 78 = .ok (.invokevirtual 75, 3) := by decide +kernel
theorem dX6_readSong_81 : decode cX6_readSong 81 = .ok (.ireturn, 1) := by decide +kernel
theorem dX6_readSong_82 : decode cX6_readSong 82 = .ok (.aload_n 0, 1) := by decide +kernel
theorem dX6_readSong_83 : decode cX6_readSong 83 = .ok (.invokevirtual 64, 3) := by decide +kernel
theorem dX6_readSong_86 : decode cX6_readSong 86 = .ok (.invokestatic 68, 3) := by decide +kernel
theorem dX6_readSong_89 : decode cX6_readSong 89 = .ok (.ifCond .lt 11, 3) := by decide +kernel
theorem dX6_readSong_92 : decode cX6_readSong 92 = .ok (.aload_n 0, 1) := by decide +kernel
theorem dX6_readSong_93 : decode cX6_readSong 93 = .ok (.iconst 3, 1) := by decide +kernel
theorem dX6_readSong_94 : decode cX6_readSong 94 = .ok (.invokevirtual 75, 3) := by decide +kernel
theorem dX6_readSong_97 : decode cX6_readSong 97 = .ok (.goto 9, 3) := by decide +kernel
theorem dX6_readSong_100 : decode cX6_readSong 100 = .ok (.aload_n 0, 1) := by decide +kernel
theorem dX6_readSong_101 : decode cX6_readSong 101 = .ok (.bipush 59, 2) := by decide +kernel
theorem dX6_readSong_103 : decode cX6_readSong 103 = .ok (.invokevirtual 40, 3) := by decide +kernel
theorem dX6_readSong_106 : decode cX6_readSong 106 = .ok (.ireturn, 1) := by decide +kernel
theorem dX6_readPlayers_0 : decode cX6_readPlayers 0 = .ok (.iconst 0, 1) := by decide +kernel
theorem dX6_readPlayers_1 : decode cX6_readPlayers 1 = .ok (.istore_n 2, 1) := by decide +kernel
theorem dX6_readPlayers_2 : decode cX6_readPlayers 2 = .ok (.iload_n 2, 1) := by decide +kernel
theorem dX6_readPlayers_3 : decode cX6_readPlayers 3 = .ok (.iconst 5, 1) := by decide +kernel
theorem dX6_readPlayers_4 : decode cX6_readPlayers 4 = .ok (.if_icmp .ge 29, 3) := by decide +kernel
theorem dX6_readPlayers_7 : decode cX6_readPlayers 7 = .ok (.aload_n 0, 1) := by decide +kernel
theorem dX6_readPlayers_8 : decode cX6_readPlayers 8 = .ok (.invokevirtual 64, 3) := by decide +kernel
theorem dX6_readPlayers_11 : decode cX6_readPlayers 11 = .ok (.invokestatic 78, 3) := by decide +kernel
theorem dX6_readPlayers_14 : decode cX6_readPlayers 14 = .ok (.ifCond .eq 19, 3) := by decide +kernel
theorem dX6_readPlayers_17 : decode cX6_readPlayers 17 = .ok (.aload_n 0, 1) := by decide +kernel
theorem dX6_readPlayers_18 : decode cX6_readPlayers 18 = .ok (.aload_n 1, 1) := by decide +kernel
theorem dX6_readPlayers_19 : decode cX6_readPlayers 19 = .ok (.invokevirtual 81, 3) := by decide +kernel
theorem dX6_readPlayers_22 : decode cX6_readPlayers 22 = .ok (.ifCond .ne 5, 3) := by decide +kernel
theorem dX6_readPlayers_25 : decode cX6_readPlayers 25 = .ok (.iconst 0, 1) := by decide +kernel
theorem dX6_readPlayers_26 : decode cX6_readPlayers 26 = .ok (.ireturn, 1) := by decide +kernel
theorem dX6_readPlayers_27 : decode cX6_readPlayers 27 = .ok (.iinc 2 1, 3) := by decide +kernel
theorem dX6_readPlayers_30 : decode cX6_readPlayers 30 = .ok (.goto (-28), 3) := by decide +kernel
theorem dX6_readPlayers_33 : decode cX6_readPlayers 33 = .ok (.aload_n 1, 1) := by decide +kernel
theorem dX6_readPlayers_34 : decode cX6_readPlayers 34 = .ok (.getfield 84, 3) := by decide +kernel
theorem dX6_readPlayers_37 : decode cX6_readPlayers 37 = .ok (.ifCond .ne 9, 3) := by decide +kernel
theorem dX6_readPlayers_40 : decode cX6_readPlayers 40 = .ok (.aload_n 0, 1) := by decide +kernel
theorem dX6_readPlayers_41 : decode cX6_readPlayers 41 = .ok (.iconst 1, 1) := by decide +kernel
theorem dX6_readPlayers_42 : decode cX6_readPlayers 42 = .ok (.invokevirtual 75, 3) := by decide +kernel
theorem dX6_readPlayers_45 : decode cX6_readPlayers 45 = .ok (.ireturn, 1) := by decide +kernel
theorem dX6_readPlayers_46 : decode cX6_readPlayers 46 = .ok (.aload_n 0, 1) := by decide +kernel
theorem dX6_readPlayers_47 : decode cX6_readPlayers 47 = .ok (.invokevirtual 64, 3) := by decide +kernel
theorem dX6_readPlayers_50 : decode cX6_readPlayers 50 = .ok (.invokestatic 78, 3) := by decide +kernel
theorem dX6_readPlayers_53 : decode cX6_readPlayers 53 = .ok (.ifCond .eq 11, 3) := by decide +kernel
theorem dX6_readPlayers_56 : decode cX6_readPlayers 56 = .ok (.aload_n 0, 1) := by decide +kernel
theorem dX6_readPlayers_57 : decode cX6_readPlayers 57 = .ok (.iconst 3, 1) := by decide +kernel
theorem dX6_readPlayers_58 : decode cX6_readPlayers 58 = .ok (.invokevirtual 75, 3) := by decide +kernel
theorem dX6_readPlayers_61 : decode cX6_readPlayers 61 = .ok (.ifCond .eq 7, 3) := by decide +kernel
theorem dX6_readPlayers_64 : decode cX6_readPlayers 64 = .ok (.iconst 1, 1) := by decide +kernel
theorem dX6_readPlayers_65 : decode cX6_readPlayers 65 = .ok (.goto 4, 3) := by decide +kernel
theorem dX6_readPlayers_68 : decode cX6_readPlayers 68 = .ok (.iconst 0, 1) := by decide +kernel
theorem dX6_readPlayers_69 : decode cX6_readPlayers 69 = .ok (.ireturn, 1) := by decide +kernel
theorem dX6_readPlayer_0 : decode cX6_readPlayer 0 = .ok (.aload_n 1, 1) := by decide +kernel
theorem dX6_readPlayer_1 : decode cX6_readPlayer 1 = .ok (.getfield 84, 3) := by decide +kernel
theorem dX6_readPlayer_4 : decode cX6_readPlayer 4 = .ok (.istore_n 2, 1) := by decide +kernel
theorem dX6_readPlayer_5 : decode cX6_readPlayer 5 = .ok (.aload_n 1, 1) := by decide +kernel
theorem dX6_readPlayer_6 : decode cX6_readPlayer 6 = .ok (.getfield 87, 3) := by decide +kernel
theorem dX6_readPlayer_9 : decode cX6_readPlayer 9 = .ok (.iload_n 2, 1) := by decide +kernel
theorem dX6_readPlayer_10 : decode cX6_readPlayer 10 = .ok (.aload_n 0, 1) := by decide +kernel
theorem dX6_readPlayer_11 : decode cX6_readPlayer 11 = .ok (.invokevirtual 64, 3) := by decide +kernel
theorem dX6_readPlayer_14 : decode cX6_readPlayer 14 = .ok (.invokestatic 78, 3) := by decide +kernel
theorem dX6_readPlayer_17 : decode cX6_readPlayer 17 = .ok (.iastore, 1) := by decide +kernel
theorem dX6_readPlayer_18 : decode cX6_readPlayer 18 = .ok (.aload_n 0, 1) := by decide +kernel
theorem dX6_readPlayer_19 : decode cX6_readPlayer 19 = .ok (.dup, 1) := by decide +kernel
theorem dX6_readPlayer_20 : decode cX6_readPlayer 20 = .ok (.getfield 19, 3) := by decide +kernel
theorem dX6_readPlayer_23 : decode cX6_readPlayer 23 = .ok (.iconst 1, 1) := by decide +kernel
theorem dX6_readPlayer_24 : decode cX6_readPlayer 24 = .ok (.iadd, 1) := by decide +kernel
theorem dX6_readPlayer_25 : decode cX6_readPlayer 25 = .ok (.putfield 19, 3) := by decide +kernel
theorem dX6_readPlayer_28 : decode cX6_readPlayer 28 = .ok (.aload_n 0, 1) := by decide +kernel
theorem dX6_readPlayer_29 : decode cX6_readPlayer 29 = .ok (.bipush 40, 2) := by decide +kernel
theorem dX6_readPlayer_31 : decode cX6_readPlayer 31 = .ok (.bipush 99, 2) := by decide +kernel
theorem dX6_readPlayer_33 : decode cX6_readPlayer 33 = .ok (.invokevirtual 44, 3) := by decide +kernel
theorem dX6_readPlayer_36 : decode cX6_readPlayer 36 = .ok (.ifCond .ne 5, 3) := by decide +kernel
theorem dX6_readPlayer_39 : decode cX6_readPlayer 39 = .ok (.iconst 0, 1) := by decide +kernel
theorem dX6_readPlayer_40 : decode cX6_readPlayer 40 = .ok (.ireturn, 1) := by decide +kernel
theorem dX6_readPlayer_41 : decode cX6_readPlayer 41 = .ok (.aload_n 1, 1) := by decide +kernel
theorem dX6_readPlayer_42 : decode cX6_readPlayer 42 = .ok (.getfield 90, 3) := by decide +kernel
theorem dX6_readPlayer_45 : decode cX6_readPlayer 45 = .ok (.iload_n 2, 1) := by decide +kernel
theorem dX6_readPlayer_46 : decode cX6_readPlayer 46 = .ok (.bipush 10, 2) := by decide +kernel
theorem dX6_readPlayer_48 : decode cX6_readPlayer 48 = .ok (.aload_n 0, 1) := by decide +kernel
theorem dX6_readPlayer_49 : decode cX6_readPlayer 49 = .ok (.getfield 48, 3) := by decide +kernel
theorem dX6_readPlayer_52 : decode cX6_readPlayer 52 = .ok (.imul, 1) := by decide +kernel
theorem dX6_readPlayer_53 : decode cX6_readPlayer 53 = .ok (.iastore, 1) := by decide +kernel
theorem dX6_readPlayer_54 : decode cX6_readPlayer 54 = .ok (.aload_n 0, 1) := by decide +kernel
theorem dX6_readPlayer_55 : decode cX6_readPlayer 55 = .ok (.bipush 44, 2) := by decide +kernel
theorem dX6_readPlayer_57 : decode cX6_readPlayer 57 = .ok (.invokevirtual 40, 3) := by decide +kernel
theorem dX6_readPlayer_60 : decode cX6_readPlayer 60 = .ok (.ifCond .eq 13, 3) := by decide +kernel
theorem dX6_readPlayer_63 : decode cX6_readPlayer 63 = .ok (.aload_n 0, 1) := by decide +kernel
theorem dX6_readPlayer_64 : decode cX6_readPlayer 64 = .ok (.iconst 0, 1) := by decide +kernel
theorem dX6_readPlayer_65 : decode cX6_readPlayer 65 = .ok (.bipush 9, 2) := by decide +kernel
theorem dX6_readPlayer_67 : decode cX6_readPlayer 67 = .ok (.invokevirtual 44, 3) := by decide +kernel
theorem dX6_readPlayer_70 : decode cX6_readPlayer 70 = .ok (.ifCond .ne 5, 3) := by decide +kernel
theorem dX6_readPlayer_73 : decode cX6_readPlayer 73 = .ok (.iconst 0, 1) := by decide +kernel
theorem dX6_readPlayer_74 : decode cX6_readPlayer 74 = .ok (.ireturn, 1) := by decide +kernel
theorem dX6_readPlayer_75 : decode cX6_readPlayer 75 = .ok (.aload_n 1, 1) := by decide +kernel
theorem dX6_readPlayer_76 : decode cX6_readPlayer 76 = .ok (.getfield 93, 3) := by decide +kernel
theorem dX6_readPlayer_79 : decode cX6_readPlayer 79 = .ok (.iload_n 2, 1) := by decide +kernel
theorem dX6_readPlayer_80 : decode cX6_readPlayer 80 = .ok (.aload_n 0, 1) := by decide +kernel
theorem dX6_readPlayer_81 : decode cX6_readPlayer 81 = .ok (.getfield 48, 3) := by decide +kernel
theorem dX6_readPlayer_84 : decode cX6_readPlayer 84 = .ok (.iastore, 1) := by decide +kernel
theorem dX6_readPlayer_85 : decode cX6_readPlayer 85 = .ok (.aload_n 1, 1) := by decide +kernel
theorem dX6_readPlayer_86 : decode cX6_readPlayer 86 = .ok (.dup, 1) := by decide +kernel
theorem dX6_readPlayer_87 : decode cX6_readPlayer 87 = .ok (.getfield 84, 3) := by decide +kernel
theorem dX6_readPlayer_90 : decode cX6_readPlayer 90 = .ok (.iconst 1, 1) := by decide +kernel
theorem dX6_readPlayer_91 : decode cX6_readPlayer 91 = .ok (.iadd, 1) := by decide +kernel
theorem dX6_readPlayer_92 : decode cX6_readPlayer 92 = .ok (.putfield 84, 3) := by decide +kernel
theorem dX6_readPlayer_95 : decode cX6_readPlayer 95 = .ok (.aload_n 0, 1) := by decide +kernel
theorem dX6_readPlayer_96 : decode cX6_readPlayer 96 = .ok (.bipush 59, 2) := by decide +kernel
theorem dX6_readPlayer_98 : decode cX6_readPlayer 98 = .ok (.invokevirtual 40, 3) := by decide +kernel
theorem dX6_readPlayer_101 : decode cX6_readPlayer 101 = .ok (.ireturn, 1) := by decide +kernel
theorem dX6_readEars_0 : decode cX6_readEars 0 = .ok (.iconst 0, 1) := by decide +kernel
theorem dX6_readEars_1 : decode cX6_readEars 1 = .ok (.istore_n 2, 1) := by decide +kernel
theorem dX6_readEars_2 : decode cX6_readEars 2 = .ok (.iload_n 2, 1) := by decide +kernel
theorem dX6_readEars_3 : decode cX6_readEars 3 = .ok (.bipush 12, 2) := by decide +kernel
theorem dX6_readEars_5 : decode cX6_readEars 5 = .ok (.if_icmp .ge 28, 3) := by decide +kernel
theorem dX6_readEars_8 : decode cX6_readEars 8 = .ok (.aload_n 0, 1) := by decide +kernel
theorem dX6_readEars_9 : decode cX6_readEars 9 = .ok (.invokevirtual 64, 3) := by decide +kernel
theorem dX6_readEars_12 : decode cX6_readEars 12 = .ok (.bipush 119, 2) := by decide +kernel
theorem dX6_readEars_14 : decode cX6_readEars 14 = .ok (.if_icmp .ne 19, 3) := by decide +kernel
theorem dX6_readEars_17 : decode cX6_readEars 17 = .ok (.aload_n 0, 1) := by decide +kernel
theorem dX6_readEars_18 : decode cX6_readEars 18 = .ok (.aload_n 1, 1) := by decide +kernel
theorem dX6_readEars_19 : decode cX6_readEars 19 = .ok (.invokevirtual 96, 3) := by decide +kernel
theorem dX6_readEars_22 : decode cX6_readEars 22 = .ok (.ifCond .ne 5, 3) := by decide +kernel
theorem dX6_readEars_25 : decode cX6_readEars 25 = .ok (.iconst 0, 1) := by decide +kernel
theorem dX6_readEars_26 : decode cX6_readEars 26 = .ok (.ireturn, 1) := by decide +kernel
theorem dX6_readEars_27 : decode cX6_readEars 27 = .ok (.iinc 2 1, 3) := by decide +kernel
theorem dX6_readEars_30 : decode cX6_readEars 30 = .ok (.goto (-28), 3) := by decide +kernel
theorem dX6_readEars_33 : decode cX6_readEars 33 = .ok (.aload_n 0, 1) := by decide +kernel
theorem dX6_readEars_34 : decode cX6_readEars 34 = .ok (.invokevirtual 64, 3) := by decide +kernel
theorem dX6_readEars_37 : decode cX6_readEars 37 = .ok (.bipush 119, 2) := by decide +kernel
theorem dX6_readEars_39 : decode cX6_readEars 39 = .ok (.if_icmp .ne 9, 3) := by decide +kernel
theorem dX6_readEars_42 : decode cX6_readEars 42 = .ok (.aload_n 0, 1) := by decide +kernel
theorem dX6_readEars_43 : decode cX6_readEars 43 = .ok (.iconst 3, 1) := by decide +kernel
theorem dX6_readEars_44 : decode cX6_readEars 44 = .ok (.invokevirtual 75, 3) := by decide +kernel
theorem dX6_readEars_47 : decode cX6_readEars 47 = .ok (.ireturn, 1) := by decide +kernel
theorem dX6_readEars_48 : decode cX6_readEars 48 = .ok (.aload_n 0, 1) := by decide +kernel
theorem dX6_readEars_49 : decode cX6_readEars 49 = .ok (.invokevirtual 64, 3) := by decide +kernel
theorem dX6_readEars_52 : decode cX6_readEars 52 = .ok (.iconst (-1), 1) := by decide +kernel
theorem dX6_readEars_53 : decode cX6_readEars 53 = .ok (.if_icmp .eq 11, 3) := by decide +kernel
theorem dX6_readEars_56 : decode cX6_readEars 56 = .ok (.aload_n 0, 1) := by decide +kernel
theorem dX6_readEars_57 : decode cX6_readEars 57 = .ok (.iconst 1, 1) := by decide +kernel
theorem dX6_readEars_58 : decode cX6_readEars 58 = .ok (.invokevirtual 75, 3) := by decide +kernel
theorem dX6_readEars_61 : decode cX6_readEars 61 = .ok (.ifCond .eq 7, 3) := by decide +kernel
theorem dX6_readEars_64 : decode cX6_readEars 64 = .ok (.iconst 1, 1) := by decide +kernel
theorem dX6_readEars_65 : decode cX6_readEars 65 = .ok (.goto 4, 3) := by decide +kernel
theorem dX6_readEars_68 : decode cX6_readEars 68 = .ok (.iconst 0, 1) := by decide +kernel
theorem dX6_readEars_69 : decode cX6_readEars 69 = .ok (.ireturn, 1) := by decide +kernel
theorem dX6_readEar_0 : decode cX6_readEar 0 = .ok (.aload_n 0, 1) := by decide +kernel
theorem dX6_readEar_1 : decode cX6_readEar 1 = .ok (.bipush 119, 2) := by decide +kernel
theorem dX6_readEar_3 : decode cX6_readEar 3 = .ok (.invokevirtual 40, 3) := by decide +kernel
theorem dX6_readEar_6 : decode cX6_readEar 6 = .ok (.ifCond .eq 17, 3) := by decide +kernel
theorem dX6_readEar_9 : decode cX6_readEar 9 = .ok (.aload_n 0, 1) := by decide +kernel
theorem dX6_readEar_10 : decode cX6_readEar 10 = .ok (.iconst 0, 1) := by decide +kernel
theorem dX6_readEar_11 : decode cX6_readEar 11 = .ok (.aload_n 1, 1) := by decide +kernel
theorem dX6_readEar_12 : decode cX6_readEar 12 = .ok (.getfield 84, 3) := by decide +kernel
theorem dX6_readEar_15 : decode cX6_readEar 15 = .ok (.iconst 1, 1) := by decide +kernel
theorem dX6_readEar_16 : decode cX6_readEar 16 = .ok (.isub, 1) := by decide +kernel
theorem dX6_readEar_17 : decode cX6_readEar 17 = .ok (.invokevirtual 44, 3) := by decide +kernel
theorem dX6_readEar_20 : decode cX6_readEar 20 = .ok (.ifCond .ne 5, 3) := by decide +kernel
theorem dX6_readEar_23 : decode cX6_readEar 23 = .ok (.iconst 0, 1) := by decide +kernel
theorem dX6_readEar_24 : decode cX6_readEar 24 = .ok (.ireturn, 1) := by decide +kernel
theorem dX6_readEar_25 : decode cX6_readEar 25 = .ok (.aload_n 0, 1) := by decide +kernel
theorem dX6_readEar_26 : decode cX6_readEar 26 = .ok (.getfield 48, 3) := by decide +kernel
theorem dX6_readEar_29 : decode cX6_readEar 29 = .ok (.istore_n 2, 1) := by decide +kernel
theorem dX6_readEar_30 : decode cX6_readEar 30 = .ok (.aload_n 0, 1) := by decide +kernel
theorem dX6_readEar_31 : decode cX6_readEar 31 = .ok (.bipush 44, 2) := by decide +kernel
theorem dX6_readEar_33 : decode cX6_readEar 33 = .ok (.invokevirtual 40, 3) := by decide +kernel
theorem dX6_readEar_36 : decode cX6_readEar 36 = .ok (.ifCond .eq 12, 3) := by decide +kernel
theorem dX6_readEar_39 : decode cX6_readEar 39 = .ok (.aload_n 0, 1) := by decide +kernel
theorem dX6_readEar_40 : decode cX6_readEar 40 = .ok (.aload_n 1, 1) := by decide +kernel
theorem dX6_readEar_41 : decode cX6_readEar 41 = .ok (.iload_n 2, 1) := by decide +kernel
theorem dX6_readEar_42 : decode cX6_readEar 42 = .ok (.invokevirtual 99, 3) := by decide +kernel
theorem dX6_readEar_45 : decode cX6_readEar 45 = .ok (.ifCond .ne 5, 3) := by decide +kernel
theorem dX6_readEar_48 : decode cX6_readEar 48 = .ok (.iconst 0, 1) := by decide +kernel
theorem dX6_readEar_49 : decode cX6_readEar 49 = .ok (.ireturn, 1) := by decide +kernel
theorem dX6_readEar_50 : decode cX6_readEar 50 = .ok (.aload_n 0, 1) := by decide +kernel
theorem dX6_readEar_51 : decode cX6_readEar 51 = .ok (.getfield 48, 3) := by decide +kernel
theorem dX6_readEar_54 : decode cX6_readEar 54 = .ok (.istore_n 3, 1) := by decide +kernel
theorem dX6_readEar_55 : decode cX6_readEar 55 = .ok (.aload_n 0, 1) := by decide +kernel
theorem dX6_readEar_56 : decode cX6_readEar 56 = .ok (.bipush 44, 2) := by decide +kernel
theorem dX6_readEar_58 : decode cX6_readEar 58 = .ok (.invokevirtual 40, 3) := by decide +kernel
theorem dX6_readEar_61 : decode cX6_readEar 61 = .ok (.ifCond .eq 13, 3) := by decide +kernel
theorem dX6_readEar_64 : decode cX6_readEar 64 = .ok (.aload_n 0, 1) := by decide +kernel
theorem dX6_readEar_65 : decode cX6_readEar 65 = .ok (.iconst 1, 1) := by decide +kernel
theorem dX6_readEar_66 : decode cX6_readEar 66 = .ok (.bipush 9, 2) := by decide +kernel
theorem dX6_readEar_68 : decode cX6_readEar 68 = .ok (.invokevirtual 44, 3) := by decide +kernel
theorem dX6_readEar_71 : decode cX6_readEar 71 = .ok (.ifCond .ne 5, 3) := by decide +kernel
theorem dX6_readEar_74 : decode cX6_readEar 74 = .ok (.iconst 0, 1) := by decide +kernel
theorem dX6_readEar_75 : decode cX6_readEar 75 = .ok (.ireturn, 1) := by decide +kernel
theorem dX6_readEar_76 : decode cX6_readEar 76 = .ok (.aload_n 1, 1) := by decide +kernel
theorem dX6_readEar_77 : decode cX6_readEar 77 = .ok (.iload_n 2, 1) := by decide +kernel
theorem dX6_readEar_78 : decode cX6_readEar 78 = .ok (.iload_n 3, 1) := by decide +kernel
theorem dX6_readEar_79 : decode cX6_readEar 79 = .ok (.aload_n 0, 1) := by decide +kernel
theorem dX6_readEar_80 : decode cX6_readEar 80 = .ok (.getfield 48, 3) := by decide +kernel
theorem dX6_readEar_83 : decode cX6_readEar 83 = .ok (.invokevirtual 103, 3) := by decide +kernel
theorem dX6_readEar_86 : decode cX6_readEar 86 = .ok (.aload_n 0, 1) := by decide +kernel
theorem dX6_readEar_87 : decode cX6_readEar 87 = .ok (.bipush 59, 2) := by decide +kernel
theorem dX6_readEar_89 : decode cX6_readEar 89 = .ok (.invokevirtual 40, 3) := by decide +kernel
theorem dX6_readEar_92 : decode cX6_readEar 92 = .ok (.ireturn, 1) := by decide +kernel
theorem dX6_takesHeard_0 : decode cX6_takesHeard 0 = .ok (.aload_n 0, 1) := by decide +kernel
theorem dX6_takesHeard_1 : decode cX6_takesHeard 1 = .ok (.invokevirtual 107, 3) := by decide +kernel
theorem dX6_takesHeard_4 : decode cX6_takesHeard 4 = .ok (.ifCond .ne 9, 3) := by decide +kernel
theorem dX6_takesHeard_7 : decode cX6_takesHeard 7 = .ok (.aload_n 0, 1) := by decide +kernel
theorem dX6_takesHeard_8 : decode cX6_takesHeard 8 = .ok (.iconst 1, 1) := by decide +kernel
theorem dX6_takesHeard_9 : decode cX6_takesHeard 9 = .ok (.invokevirtual 75, 3) := by decide +kernel
theorem dX6_takesHeard_12 : decode cX6_takesHeard 12 = .ok (.ireturn, 1) := by decide +kernel
theorem dX6_takesHeard_13 : decode cX6_takesHeard 13 = .ok (.aload_n 1, 1) := by decide +kernel
theorem dX6_takesHeard_14 : decode cX6_takesHeard 14 = .ok (.iload_n 2, 1) := by decide +kernel
theorem dX6_takesHeard_15 : decode cX6_takesHeard 15 = .ok (.aload_n 0, 1) := by decide +kernel
theorem dX6_takesHeard_16 : decode cX6_takesHeard 16 = .ok (.getfield 48, 3) := by decide +kernel
theorem dX6_takesHeard_19 : decode cX6_takesHeard 19 = .ok (.invokevirtual 111, 3) := by decide +kernel
theorem dX6_takesHeard_22 : decode cX6_takesHeard 22 = .ok (.ifCond .eq 15, 3) := by decide +kernel
theorem dX6_takesHeard_25 : decode cX6_takesHeard 25 = .ok (.aload_n 1, 1) := by decide +kernel
theorem dX6_takesHeard_26 : decode cX6_takesHeard 26 = .ok (.iload_n 2, 1) := by decide +kernel
theorem dX6_takesHeard_27 : decode cX6_takesHeard 27 = .ok (.aload_n 0, 1) := by decide +kernel
theorem dX6_takesHeard_28 : decode cX6_takesHeard 28 = .ok (.getfield 48, 3) := by decide +kernel
theorem dX6_takesHeard_31 : decode cX6_takesHeard 31 = .ok (.invokevirtual 114, 3) := by decide +kernel
theorem dX6_takesHeard_34 : decode cX6_takesHeard 34 = .ok (.ifCond .eq 9, 3) := by decide +kernel
theorem dX6_takesHeard_37 : decode cX6_takesHeard 37 = .ok (.aload_n 0, 1) := by decide +kernel
theorem dX6_takesHeard_38 : decode cX6_takesHeard 38 = .ok (.iconst 2, 1) := by decide +kernel
theorem dX6_takesHeard_39 : decode cX6_takesHeard 39 = .ok (.invokevirtual 75, 3) := by decide +kernel
theorem dX6_takesHeard_42 : decode cX6_takesHeard 42 = .ok (.ireturn, 1) := by decide +kernel
theorem dX6_takesHeard_43 : decode cX6_takesHeard 43 = .ok (.aload_n 0, 1) := by decide +kernel
theorem dX6_takesHeard_44 : decode cX6_takesHeard 44 = .ok (.dup, 1) := by decide +kernel
theorem dX6_takesHeard_45 : decode cX6_takesHeard 45 = .ok (.getfield 19, 3) := by decide +kernel
theorem dX6_takesHeard_48 : decode cX6_takesHeard 48 = .ok (.aload_n 0, 1) := by decide +kernel
theorem dX6_takesHeard_49 : decode cX6_takesHeard 49 = .ok (.getfield 118, 3) := by decide +kernel
theorem dX6_takesHeard_52 : decode cX6_takesHeard 52 = .ok (.iadd, 1) := by decide +kernel
theorem dX6_takesHeard_53 : decode cX6_takesHeard 53 = .ok (.putfield 19, 3) := by decide +kernel
theorem dX6_takesHeard_56 : decode cX6_takesHeard 56 = .ok (.iconst 1, 1) := by decide +kernel
theorem dX6_takesHeard_57 : decode cX6_takesHeard 57 = .ok (.ireturn, 1) := by decide +kernel
theorem dX6_takesNumber_0 : decode cX6_takesNumber 0 = .ok (.aload_n 0, 1) := by decide +kernel
theorem dX6_takesNumber_1 : decode cX6_takesNumber 1 = .ok (.invokevirtual 107, 3) := by decide +kernel
theorem dX6_takesNumber_4 : decode cX6_takesNumber 4 = .ok (.ifCond .ne 9, 3) := by decide +kernel
theorem dX6_takesNumber_7 : decode cX6_takesNumber 7 = .ok (.aload_n 0, 1) := by decide +kernel
theorem dX6_takesNumber_8 : decode cX6_takesNumber 8 = .ok (.iconst 1, 1) := by decide +kernel
theorem dX6_takesNumber_9 : decode cX6_takesNumber 9 = .ok (.invokevirtual 75, 3) := by decide +kernel
theorem dX6_takesNumber_12 : decode cX6_takesNumber 12 = .ok (.ireturn, 1) := by decide +kernel
theorem dX6_takesNumber_13 : decode cX6_takesNumber 13 = .ok (.aload_n 0, 1) := by decide +kernel
theorem dX6_takesNumber_14 : decode cX6_takesNumber 14 = .ok (.getfield 48, 3) := by decide +kernel
theorem dX6_takesNumber_17 : decode cX6_takesNumber 17 = .ok (.iload_n 1, 1) := by decide +kernel
theorem dX6_takesNumber_18 : decode cX6_takesNumber 18 = .ok (.iload_n 2, 1) := by decide +kernel
theorem dX6_takesNumber_19 : decode cX6_takesNumber 19 = .ok (.invokestatic 121, 3) := by decide +kernel
theorem dX6_takesNumber_22 : decode cX6_takesNumber 22 = .ok (.ifCond .ne 9, 3) := by decide +kernel
theorem dX6_takesNumber_25 : decode cX6_takesNumber 25 = .ok (.aload_n 0, 1) := by decide +kernel
theorem dX6_takesNumber_26 : decode cX6_takesNumber 26 = .ok (.iconst 2, 1) := by decide +kernel
theorem dX6_takesNumber_27 : decode cX6_takesNumber 27 = .ok (.invokevirtual 75, 3) := by decide +kernel
theorem dX6_takesNumber_30 : decode cX6_takesNumber 30 = .ok (.ireturn, 1) := by decide +kernel
theorem dX6_takesNumber_31 : decode cX6_takesNumber 31 = .ok (.aload_n 0, 1) := by decide +kernel
theorem dX6_takesNumber_32 : decode cX6_takesNumber 32 = .ok (.dup, 1) := by decide +kernel
theorem dX6_takesNumber_33 : decode cX6_takesNumber 33 = .ok (.getfield 19, 3) := by decide +kernel
theorem dX6_takesNumber_36 : decode cX6_takesNumber 36 = .ok (.aload_n 0, 1) := by decide +kernel
theorem dX6_takesNumber_37 : decode cX6_takesNumber 37 = .ok (.getfield 118, 3) := by decide +kernel
theorem dX6_takesNumber_40 : decode cX6_takesNumber 40 = .ok (.iadd, 1) := by decide +kernel
theorem dX6_takesNumber_41 : decode cX6_takesNumber 41 = .ok (.putfield 19, 3) := by decide +kernel
theorem dX6_takesNumber_44 : decode cX6_takesNumber 44 = .ok (.iconst 1, 1) := by decide +kernel
theorem dX6_takesNumber_45 : decode cX6_takesNumber 45 = .ok (.ireturn, 1) := by decide +kernel
theorem dX6_seesNumber_0 : decode cX6_seesNumber 0 = .ok (.aload_n 0, 1) := by decide +kernel
theorem dX6_seesNumber_1 : decode cX6_seesNumber 1 = .ok (.iconst 0, 1) := by decide +kernel
theorem dX6_seesNumber_2 : decode cX6_seesNumber 2 = .ok (.putfield 48, 3) := by decide +kernel
theorem dX6_seesNumber_5 : decode cX6_seesNumber 5 = .ok (.aload_n 0, 1) := by decide +kernel
theorem dX6_seesNumber_6 : decode cX6_seesNumber 6 = .ok (.iconst 0, 1) := by decide +kernel
theorem dX6_seesNumber_7 : decode cX6_seesNumber 7 = .ok (.putfield 118, 3) := by decide +kernel
theorem dX6_seesNumber_10 : decode cX6_seesNumber 10 = .ok (.aload_n 0, 1) := by decide +kernel
theorem dX6_seesNumber_11 : decode cX6_seesNumber 11 = .ok (.getfield 118, 3) := by decide +kernel
theorem dX6_seesNumber_14 : decode cX6_seesNumber 14 = .ok (.iconst 3, 1) := by decide +kernel
theorem dX6_seesNumber_15 : decode cX6_seesNumber 15 = .ok (.if_icmp .ge 63, 3) := by decide +kernel
theorem dX6_seesNumber_18 : decode cX6_seesNumber 18 = .ok (.aload_n 0, 1) := by decide +kernel
theorem dX6_seesNumber_19 : decode cX6_seesNumber 19 = .ok (.aload_n 0, 1) := by decide +kernel
theorem dX6_seesNumber_20 : decode cX6_seesNumber 20 = .ok (.getfield 19, 3) := by decide +kernel
theorem dX6_seesNumber_23 : decode cX6_seesNumber 23 = .ok (.aload_n 0, 1) := by decide +kernel
theorem dX6_seesNumber_24 : decode cX6_seesNumber 24 = .ok (.getfield 118, 3) := by decide +kernel
theorem dX6_seesNumber_27 : decode cX6_seesNumber 27 = .ok (.iadd, 1) := by decide +kernel
theorem dX6_seesNumber_28 : decode cX6_seesNumber 28 = .ok (.invokevirtual 125, 3) := by decide +kernel
theorem dX6_seesNumber_31 : decode cX6_seesNumber 31 = .ok (.invokestatic 128, 3) := by decide +kernel
theorem dX6_seesNumber_34 : decode cX6_seesNumber 34 = .ok (.ifCond .eq 44, 3) := by decide +kernel
theorem dX6_seesNumber_37 : decode cX6_seesNumber 37 = .ok (.aload_n 0, 1) := by decide +kernel
theorem dX6_seesNumber_38 : decode cX6_seesNumber 38 = .ok (.bipush 10, 2) := by decide +kernel
theorem dX6_seesNumber_40 : decode cX6_seesNumber 40 = .ok (.aload_n 0, 1) := by decide +kernel
theorem dX6_seesNumber_41 : decode cX6_seesNumber 41 = .ok (.getfield 48, 3) := by decide +kernel
theorem dX6_seesNumber_44 : decode cX6_seesNumber 44 = .ok (.imul, 1) := by decide +kernel
theorem dX6_seesNumber_45 : decode cX6_seesNumber 45 = .ok (.aload_n 0, 1) := by decide +kernel
theorem dX6_seesNumber_46 : decode cX6_seesNumber 46 = .ok (.aload_n 0, 1) := by decide +kernel
theorem dX6_seesNumber_47 : decode cX6_seesNumber 47 = .ok (.getfield 19, 3) := by decide +kernel
theorem dX6_seesNumber_50 : decode cX6_seesNumber 50 = .ok (.aload_n 0, 1) := by decide +kernel
theorem dX6_seesNumber_51 : decode cX6_seesNumber 51 = .ok (.getfield 118, 3) := by decide +kernel
theorem dX6_seesNumber_54 : decode cX6_seesNumber 54 = .ok (.iadd, 1) := by decide +kernel
theorem dX6_seesNumber_55 : decode cX6_seesNumber 55 = .ok (.invokevirtual 125, 3) := by decide +kernel
theorem dX6_seesNumber_58 : decode cX6_seesNumber 58 = .ok (.iadd, 1) := by decide +kernel
theorem dX6_seesNumber_59 : decode cX6_seesNumber 59 = .ok (.bipush 48, 2) := by decide +kernel
theorem dX6_seesNumber_61 : decode cX6_seesNumber 61 = .ok (.isub, 1) := by decide +kernel
theorem dX6_seesNumber_62 : decode cX6_seesNumber 62 = .ok (.putfield 48, 3) := by decide +kernel
theorem dX6_seesNumber_65 : decode cX6_seesNumber 65 = .ok (.aload_n 0, 1) := by decide +kernel
theorem dX6_seesNumber_66 : decode cX6_seesNumber 66 = .ok (.dup, 1) := by decide +kernel
theorem dX6_seesNumber_67 : decode cX6_seesNumber 67 = .ok (.getfield 118, 3) := by decide +kernel
theorem dX6_seesNumber_70 : decode cX6_seesNumber 70 = .ok (.iconst 1, 1) := by decide +kernel
theorem dX6_seesNumber_71 : decode cX6_seesNumber 71 = .ok (.iadd, 1) := by decide +kernel
theorem dX6_seesNumber_72 : decode cX6_seesNumber 72 = .ok (.putfield 118, 3) := by decide +kernel
theorem dX6_seesNumber_75 : decode cX6_seesNumber 75 = .ok (.goto (-65), 3) := by decide +kernel
theorem dX6_seesNumber_78 : decode cX6_seesNumber 78 = .ok (.aload_n 0, 1) := by decide +kernel
theorem dX6_seesNumber_79 : decode cX6_seesNumber 79 = .ok (.getfield 118, 3) := by decide +kernel
theorem dX6_seesNumber_82 : decode cX6_seesNumber 82 = .ok (.iconst 1, 1) := by decide +kernel
theorem dX6_seesNumber_83 : decode cX6_seesNumber 83 = .ok (.if_icmp .eq 11, 3) := by decide +kernel
theorem dX6_seesNumber_86 : decode cX6_seesNumber 86 = .ok (.aload_n 0, 1) := by decide +kernel
theorem dX6_seesNumber_87 : decode cX6_seesNumber 87 = .ok (.getfield 118, 3) := by decide +kernel
theorem dX6_seesNumber_90 : decode cX6_seesNumber 90 = .ok (.iconst 2, 1) := by decide +kernel
theorem dX6_seesNumber_91 : decode cX6_seesNumber 91 = .ok (.if_icmp .ne 7, 3) := by decide +kernel
theorem dX6_seesNumber_94 : decode cX6_seesNumber 94 = .ok (.iconst 1, 1) := by decide +kernel
theorem dX6_seesNumber_95 : decode cX6_seesNumber 95 = .ok (.goto 4, 3) := by decide +kernel
theorem dX6_seesNumber_98 : decode cX6_seesNumber 98 = .ok (.iconst 0, 1) := by decide +kernel
theorem dX6_seesNumber_99 : decode cX6_seesNumber 99 = .ok (.ireturn, 1) := by decide +kernel
theorem dX6_takes_0 : decode cX6_takes 0 = .ok (.aload_n 0, 1) := by decide +kernel
theorem dX6_takes_1 : decode cX6_takes 1 = .ok (.invokevirtual 64, 3) := by decide +kernel
theorem dX6_takes_4 : decode cX6_takes 4 = .ok (.iload_n 1, 1) := by decide +kernel
theorem dX6_takes_5 : decode cX6_takes 5 = .ok (.if_icmp .eq 9, 3) := by decide +kernel
theorem dX6_takes_8 : decode cX6_takes 8 = .ok (.aload_n 0, 1) := by decide +kernel
theorem dX6_takes_9 : decode cX6_takes 9 = .ok (.iconst 1, 1) := by decide +kernel
theorem dX6_takes_10 : decode cX6_takes 10 = .ok (.invokevirtual 75, 3) := by decide +kernel
theorem dX6_takes_13 : decode cX6_takes 13 = .ok (.ireturn, 1) := by decide +kernel
theorem dX6_takes_14 : decode cX6_takes 14 = .ok (.aload_n 0, 1) := by decide +kernel
theorem dX6_takes_15 : decode cX6_takes 15 = .ok (.dup, 1) := by decide +kernel
theorem dX6_takes_16 : decode cX6_takes 16 = .ok (.getfield 19, 3) := by decide +kernel
theorem dX6_takes_19 : decode cX6_takes 19 = .ok (.iconst 1, 1) := by decide +kernel
theorem dX6_takes_20 : decode cX6_takes 20 = .ok (.iadd, 1) := by decide +kernel
theorem dX6_takes_21 : decode cX6_takes 21 = .ok (.putfield 19, 3) := by decide +kernel
theorem dX6_takes_24 : decode cX6_takes 24 = .ok (.iconst 1, 1) := by decide +kernel
theorem dX6_takes_25 : decode cX6_takes 25 = .ok (.ireturn, 1) := by decide +kernel
theorem dX6_fails_0 : decode cX6_fails 0 = .ok (.aload_n 0, 1) := by decide +kernel
theorem dX6_fails_1 : decode cX6_fails 1 = .ok (.iload_n 1, 1) := by decide +kernel
theorem dX6_fails_2 : decode cX6_fails 2 = .ok (.putfield 131, 3) := by decide +kernel
theorem dX6_fails_5 : decode cX6_fails 5 = .ok (.aload_n 0, 1) := by decide +kernel
theorem dX6_fails_6 : decode cX6_fails 6 = .ok (.aload_n 0, 1) := by decide +kernel
theorem dX6_fails_7 : decode cX6_fails 7 = .ok (.getfield 19, 3) := by decide +kernel
theorem dX6_fails_10 : decode cX6_fails 10 = .ok (.putfield 134, 3) := by decide +kernel
theorem dX6_fails_13 : decode cX6_fails 13 = .ok (.iconst 0, 1) := by decide +kernel
theorem dX6_fails_14 : decode cX6_fails 14 = .ok (.ireturn, 1) := by decide +kernel
theorem dX6_sign_0 : decode cX6_sign 0 = .ok (.aload_n 0, 1) := by decide +kernel
theorem dX6_sign_1 : decode cX6_sign 1 = .ok (.aload_n 0, 1) := by decide +kernel
theorem dX6_sign_2 : decode cX6_sign 2 = .ok (.getfield 19, 3) := by decide +kernel
theorem dX6_sign_5 : decode cX6_sign 5 = .ok (.invokevirtual 125, 3) := by decide +kernel
theorem dX6_sign_8 : decode cX6_sign 8 = .ok (.ireturn, 1) := by decide +kernel
theorem dX6_signAt_0 : decode cX6_signAt 0 = .ok (.iload_n 1, 1) := by decide +kernel
theorem dX6_signAt_1 : decode cX6_signAt 1 = .ok (.ifCond .lt 20, 3) := by decide +kernel
theorem dX6_signAt_4 : decode cX6_signAt 4 = .ok (.iload_n 1, 1) := by decide +kernel
theorem dX6_signAt_5 : decode cX6_signAt 5 = .ok (.aload_n 0, 1) := by decide +kernel
theorem dX6_signAt_6 : decode cX6_signAt 6 = .ok (.getfield 15, 3) := by decide +kernel
theorem dX6_signAt_9 : decode cX6_signAt 9 = .ok (.if_icmp .ge 12, 3) := by decide +kernel
theorem dX6_signAt_12 : decode cX6_signAt 12 = .ok (.aload_n 0, 1) := by decide +kernel
theorem dX6_signAt_13 : decode cX6_signAt 13 = .ok (.getfield 9, 3) := by decide +kernel
theorem dX6_signAt_16 : decode cX6_signAt 16 = .ok (.iload_n 1, 1) := by decide +kernel
theorem dX6_signAt_17 : decode cX6_signAt 17 = .ok (.iaload, 1) := by decide +kernel
theorem dX6_signAt_18 : decode cX6_signAt 18 = .ok (.goto 4, 3) := by decide +kernel
theorem dX6_signAt_21 : decode cX6_signAt 21 = .ok (.iconst (-1), 1) := by decide +kernel
theorem dX6_signAt_22 : decode cX6_signAt 22 = .ok (.ireturn, 1) := by decide +kernel
theorem dX6_isFigure_0 : decode cX6_isFigure 0 = .ok (.iload_n 0, 1) := by decide +kernel
theorem dX6_isFigure_1 : decode cX6_isFigure 1 = .ok (.bipush 48, 2) := by decide +kernel
theorem dX6_isFigure_3 : decode cX6_isFigure 3 = .ok (.if_icmp .lt 13, 3) := by decide +kernel
theorem dX6_isFigure_6 : decode cX6_isFigure 6 = .ok (.iload_n 0, 1) := by decide +kernel
theorem dX6_isFigure_7 : decode cX6_isFigure 7 = .ok (.bipush 57, 2) := by decide +kernel
theorem dX6_isFigure_9 : decode cX6_isFigure 9 = .ok (.if_icmp .gt 7, 3) := by decide +kernel
theorem dX6_isFigure_12 : decode cX6_isFigure 12 = .ok (.iconst 1, 1) := by decide +kernel
theorem dX6_isFigure_13 : decode cX6_isFigure 13 = .ok (.goto 4, 3) := by decide +kernel
theorem dX6_isFigure_16 : decode cX6_isFigure 16 = .ok (.iconst 0, 1) := by decide +kernel
theorem dX6_isFigure_17 : decode cX6_isFigure 17 = .ok (.ireturn, 1) := by decide +kernel
theorem dX6_barOf_0 : decode cX6_barOf 0 = .ok (.iload_n 0, 1) := by decide +kernel
theorem dX6_barOf_1 : decode cX6_barOf 1 = .ok (.tableswitch 85 99 113 #[81, 85, 75, 77, 85, 83, 85, 85, 85, 85, 85, 85, 85, 85, 79], 75) := by decide +kernel
theorem dX6_barOf_76 : decode cX6_barOf 76 = .ok (.iconst 0, 1) := by decide +kernel
theorem dX6_barOf_77 : decode cX6_barOf 77 = .ok (.ireturn, 1) := by decide +kernel
theorem dX6_barOf_78 : decode cX6_barOf 78 = .ok (.iconst 1, 1) := by decide +kernel
theorem dX6_barOf_79 : decode cX6_barOf 79 = .ok (.ireturn, 1) := by decide +kernel
theorem dX6_barOf_80 : decode cX6_barOf 80 = .ok (.iconst 2, 1) := by decide +kernel
theorem dX6_barOf_81 : decode cX6_barOf 81 = .ok (.ireturn, 1) := by decide +kernel
theorem dX6_barOf_82 : decode cX6_barOf 82 = .ok (.iconst 3, 1) := by decide +kernel
theorem dX6_barOf_83 : decode cX6_barOf 83 = .ok (.ireturn, 1) := by decide +kernel
theorem dX6_barOf_84 : decode cX6_barOf 84 = .ok (.iconst 4, 1) := by decide +kernel
theorem dX6_barOf_85 : decode cX6_barOf 85 = .ok (.ireturn, 1) := by decide +kernel
theorem dX6_barOf_86 : decode cX6_barOf 86 = .ok (.iconst (-1), 1) := by decide +kernel
theorem dX6_barOf_87 : decode cX6_barOf 87 = .ok (.ireturn, 1) := by decide +kernel
theorem dX6_kindOf_0 : decode cX6_kindOf 0 = .ok (.iload_n 0, 1) := by decide +kernel
theorem dX6_kindOf_1 : decode cX6_kindOf 1 = .ok (.lookupswitch 61 #[(100, 55), (107, 57), (108, 59), (114, 53), (116, 51)], 51) := by decide +kernel
theorem dX6_kindOf_52 : decode cX6_kindOf 52 = .ok (.iconst 1, 1) := by decide +kernel
theorem dX6_kindOf_53 : decode cX6_kindOf 53 = .ok (.ireturn, 1) := by decide +kernel
theorem dX6_kindOf_54 : decode cX6_kindOf 54 = .ok (.iconst 2, 1) := by decide +kernel
theorem dX6_kindOf_55 : decode cX6_kindOf 55 = .ok (.ireturn, 1) := by decide +kernel
theorem dX6_kindOf_56 : decode cX6_kindOf 56 = .ok (.iconst 3, 1) := by decide +kernel
theorem dX6_kindOf_57 : decode cX6_kindOf 57 = .ok (.ireturn, 1) := by decide +kernel
theorem dX6_kindOf_58 : decode cX6_kindOf 58 = .ok (.iconst 4, 1) := by decide +kernel
theorem dX6_kindOf_59 : decode cX6_kindOf 59 = .ok (.ireturn, 1) := by decide +kernel
theorem dX6_kindOf_60 : decode cX6_kindOf 60 = .ok (.iconst 5, 1) := by decide +kernel
theorem dX6_kindOf_61 : decode cX6_kindOf 61 = .ok (.ireturn, 1) := by decide +kernel
theorem dX6_kindOf_62 : decode cX6_kindOf 62 = .ok (.iconst 0, 1) := by decide +kernel
theorem dX6_kindOf_63 : decode cX6_kindOf 63 = .ok (.ireturn, 1) := by decide +kernel
theorem dJ9_abs_0f7a4_0 : decode cJ9_abs_0f7a4 0 = .ok (.iload_n 0, 1) := by decide +kernel
theorem dJ9_abs_0f7a4_1 : decode cJ9_abs_0f7a4 1 = .ok (.ifCond .ge 8, 3) := by decide +kernel
theorem dJ9_abs_0f7a4_4 : decode cJ9_abs_0f7a4 4 = .ok (.iload_n 0, 1) := by decide +kernel
theorem dJ9_abs_0f7a4_5 : decode cJ9_abs_0f7a4 5 = .ok (.ineg, 1) := by decide +kernel
theorem dJ9_abs_0f7a4_6 : decode cJ9_abs_0f7a4 6 = .ok (.goto 4, 3) := by decide +kernel
theorem dJ9_abs_0f7a4_9 : decode cJ9_abs_0f7a4 9 = .ok (.iload_n 0, 1) := by decide +kernel
theorem dJ9_abs_0f7a4_10 : decode cJ9_abs_0f7a4 10 = .ok (.ireturn, 1) := by decide +kernel
