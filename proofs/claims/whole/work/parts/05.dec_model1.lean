theorem dX8_init_0 : decode cX8_init 0 = .ok (.aload_n 0, 1) := by decide +kernel
theorem dX8_init_1 : decode cX8_init 1 = .ok (.invokespecial 1, 3) := by decide +kernel
theorem dX8_init_4 : decode cX8_init 4 = .ok (.aload_n 0, 1) := by decide +kernel
theorem dX8_init_5 : decode cX8_init 5 = .ok (.sipush 1708, 3) := by decide +kernel
theorem dX8_init_8 : decode cX8_init 8 = .ok (.newarray .int, 2) := by decide +kernel
theorem dX8_init_10 : decode cX8_init 10 = .ok (.putfield 7, 3) := by decide +kernel
theorem dX8_init_13 : decode cX8_init 13 = .ok (.aload_n 0, 1) := by decide +kernel
theorem dX8_init_14 : decode cX8_init 14 = .ok (.iconst 2, 1) := by decide +kernel
theorem dX8_init_15 : decode cX8_init 15 = .ok (.newarray .boolean, 2) := by decide +kernel
theorem dX8_init_17 : decode cX8_init 17 = .ok (.putfield 13, 3) := by decide +kernel
theorem dX8_init_20 : decode cX8_init 20 = .ok (.aload_n 0, 1) := by decide +kernel
theorem dX8_init_21 : decode cX8_init 21 = .ok (.bipush 8, 2) := by decide +kernel
theorem dX8_init_23 : decode cX8_init 23 = .ok (.newarray .int, 2) := by decide +kernel
theorem dX8_init_25 : decode cX8_init 25 = .ok (.putfield 17, 3) := by decide +kernel
theorem dX8_init_28 : decode cX8_init 28 = .ok (.aload_n 0, 1) := by decide +kernel
theorem dX8_init_29 : decode cX8_init 29 = .ok (.bipush 8, 2) := by decide +kernel
theorem dX8_init_31 : decode cX8_init 31 = .ok (.newarray .int, 2) := by decide +kernel
theorem dX8_init_33 : decode cX8_init 33 = .ok (.putfield 20, 3) := by decide +kernel
theorem dX8_init_36 : decode cX8_init 36 = .ok (.aload_n 0, 1) := by decide +kernel
theorem dX8_init_37 : decode cX8_init 37 = .ok (.sipush 320, 3) := by decide +kernel
theorem dX8_init_40 : decode cX8_init 40 = .ok (.newarray .int, 2) := by decide +kernel
theorem dX8_init_42 : decode cX8_init 42 = .ok (.putfield 23, 3) := by decide +kernel
theorem dX8_init_45 : decode cX8_init 45 = .ok (.aload_n 0, 1) := by decide +kernel
theorem dX8_init_46 : decode cX8_init 46 = .ok (.bipush 40, 2) := by decide +kernel
theorem dX8_init_48 : decode cX8_init 48 = .ok (.newarray .int, 2) := by decide +kernel
theorem dX8_init_50 : decode cX8_init 50 = .ok (.putfield 26, 3) := by decide +kernel
theorem dX8_init_53 : decode cX8_init 53 = .ok (.aload_n 0, 1) := by decide +kernel
theorem dX8_init_54 : decode cX8_init 54 = .ok (.sipush 140, 3) := by decide +kernel
theorem dX8_init_57 : decode cX8_init 57 = .ok (.newarray .int, 2) := by decide +kernel
theorem dX8_init_59 : decode cX8_init 59 = .ok (.putfield 29, 3) := by decide +kernel
theorem dX8_init_62 : decode cX8_init 62 = .ok (.aload_n 0, 1) := by decide +kernel
theorem dX8_init_63 : decode cX8_init 63 = .ok (.iconst 5, 1) := by decide +kernel
theorem dX8_init_64 : decode cX8_init 64 = .ok (.newarray .int, 2) := by decide +kernel
theorem dX8_init_66 : decode cX8_init 66 = .ok (.putfield 32, 3) := by decide +kernel
theorem dX8_init_69 : decode cX8_init 69 = .ok (.aload_n 0, 1) := by decide +kernel
theorem dX8_init_70 : decode cX8_init 70 = .ok (.iconst 5, 1) := by decide +kernel
theorem dX8_init_71 : decode cX8_init 71 = .ok (.newarray .int, 2) := by decide +kernel
theorem dX8_init_73 : decode cX8_init 73 = .ok (.putfield 35, 3) := by decide +kernel
theorem dX8_init_76 : decode cX8_init 76 = .ok (.aload_n 0, 1) := by decide +kernel
theorem dX8_init_77 : decode cX8_init 77 = .ok (.iconst 5, 1) := by decide +kernel
theorem dX8_init_78 : decode cX8_init 78 = .ok (.newarray .int, 2) := by decide +kernel
theorem dX8_init_80 : decode cX8_init 80 = .ok (.putfield 38, 3) := by decide +kernel
theorem dX8_init_83 : decode cX8_init 83 = .ok (.aload_n 0, 1) := by decide +kernel
theorem dX8_init_84 : decode cX8_init 84 = .ok (.iconst 5, 1) := by decide +kernel
theorem dX8_init_85 : decode cX8_init 85 = .ok (.newarray .int, 2) := by decide +kernel
theorem dX8_init_87 : decode cX8_init 87 = .ok (.putfield 41, 3) := by decide +kernel
theorem dX8_init_90 : decode cX8_init 90 = .ok (.aload_n 0, 1) := by decide +kernel
theorem dX8_init_91 : decode cX8_init 91 = .ok (.bipush 25, 2) := by decide +kernel
theorem dX8_init_93 : decode cX8_init 93 = .ok (.newarray .int, 2) := by decide +kernel
theorem dX8_init_95 : decode cX8_init 95 = .ok (.putfield 44, 3) := by decide +kernel
theorem dX8_init_98 : decode cX8_init 98 = .ok (.aload_n 0, 1) := by decide +kernel
theorem dX8_init_99 : decode cX8_init 99 = .ok (.sipush 1206, 3) := by decide +kernel
theorem dX8_init_102 : decode cX8_init 102 = .ok (.newarray .int, 2) := by decide +kernel
theorem dX8_init_104 : decode cX8_init 104 = .ok (.putfield 47, 3) := by decide +kernel
theorem dX8_init_107 : decode cX8_init 107 = .ok (.aload_n 0, 1) := by decide +kernel
theorem dX8_init_108 : decode cX8_init 108 = .ok (.bipush 16, 2) := by decide +kernel
theorem dX8_init_110 : decode cX8_init 110 = .ok (.newarray .int, 2) := by decide +kernel
theorem dX8_init_112 : decode cX8_init 112 = .ok (.putfield 50, 3) := by decide +kernel
theorem dX8_init_115 : decode cX8_init 115 = .ok (.iconst 0, 1) := by decide +kernel
theorem dX8_init_116 : decode cX8_init 116 = .ok (.istore_n 1, 1) := by decide +kernel
theorem dX8_init_117 : decode cX8_init 117 = .ok (.iload_n 1, 1) := by decide +kernel
theorem dX8_init_118 : decode cX8_init 118 = .ok (.bipush 8, 2) := by decide +kernel
theorem dX8_init_120 : decode cX8_init 120 = .ok (.if_icmp .ge 16, 3) := by decide +kernel
theorem dX8_init_123 : decode cX8_init 123 = .ok (.aload_n 0, 1) := by decide +kernel
theorem dX8_init_124 : decode cX8_init 124 = .ok (.getfield 17, 3) := by decide +kernel
theorem dX8_init_127 : decode cX8_init 127 = .ok (.iload_n 1, 1) := by decide +kernel
theorem dX8_init_128 : decode cX8_init 128 = .ok (.iconst (-1), 1) := by decide +kernel
theorem dX8_init_129 : decode cX8_init 129 = .ok (.iastore, 1) := by decide +kernel
theorem dX8_init_130 : decode cX8_init 130 = .ok (.iinc 1 1, 3) := by decide +kernel
theorem dX8_init_133 : decode cX8_init 133 = .ok (.goto (-16), 3) := by decide +kernel
theorem dX8_init_136 : decode cX8_init 136 = .ok (.return_, 1) := by decide +kernel
theorem dX8_in_0 : decode cX8_in 0 = .ok (.lload_n 0, 1) := by decide +kernel
theorem dX8_in_1 : decode cX8_in 1 = .ok (.lload_n 2, 1) := by decide +kernel
theorem dX8_in_2 : decode cX8_in 2 = .ok (.lcmp, 1) := by decide +kernel
theorem dX8_in_3 : decode cX8_in 3 = .ok (.ifCond .lt 14, 3) := by decide +kernel
theorem dX8_in_6 : decode cX8_in 6 = .ok (.lload_n 0, 1) := by decide +kernel
theorem dX8_in_7 : decode cX8_in 7 = .ok (.lload 4, 2) := by decide +kernel
theorem dX8_in_9 : decode cX8_in 9 = .ok (.lcmp, 1) := by decide +kernel
theorem dX8_in_10 : decode cX8_in 10 = .ok (.ifCond .gt 7, 3) := by decide +kernel
theorem dX8_in_13 : decode cX8_in 13 = .ok (.iconst 1, 1) := by decide +kernel
theorem dX8_in_14 : decode cX8_in 14 = .ok (.goto 4, 3) := by decide +kernel
theorem dX8_in_17 : decode cX8_in 17 = .ok (.iconst 0, 1) := by decide +kernel
theorem dX8_in_18 : decode cX8_in 18 = .ok (.ireturn, 1) := by decide +kernel
theorem dX8_plain_0 : decode cX8_plain 0 = .ok (.iload_n 0, 1) := by decide +kernel
theorem dX8_plain_1 : decode cX8_plain 1 = .ok (.ifCond .ge 8, 3) := by decide +kernel
theorem dX8_plain_4 : decode cX8_plain 4 = .ok (.iload_n 0, 1) := by decide +kernel
theorem dX8_plain_5 : decode cX8_plain 5 = .ok (.ineg, 1) := by decide +kernel
theorem dX8_plain_6 : decode cX8_plain 6 = .ok (.goto 4, 3) := by decide +kernel
theorem dX8_plain_9 : decode cX8_plain 9 = .ok (.iload_n 0, 1) := by decide +kernel
theorem dX8_plain_10 : decode cX8_plain 10 = .ok (.ireturn, 1) := by decide +kernel
theorem dX8_bound_0 : decode cX8_bound 0 = .ok (.iload_n 0, 1) := by decide +kernel
theorem dX8_bound_1 : decode cX8_bound 1 = .ok (.sipush 300, 3) := by decide +kernel
theorem dX8_bound_4 : decode cX8_bound 4 = .ok (.if_icmp .ge 9, 3) := by decide +kernel
theorem dX8_bound_7 : decode cX8_bound 7 = .ok (.sipush 300, 3) := by decide +kernel
theorem dX8_bound_10 : decode cX8_bound 10 = .ok (.goto 17, 3) := by decide +kernel
theorem dX8_bound_13 : decode cX8_bound 13 = .ok (.iload_n 0, 1) := by decide +kernel
theorem dX8_bound_14 : decode cX8_bound 14 = .ok (.sipush 2500, 3) := by decide +kernel
theorem dX8_bound_17 : decode cX8_bound 17 = .ok (.if_icmp .le 9, 3) := by decide +kernel
theorem dX8_bound_20 : decode cX8_bound 20 = .ok (.sipush 2500, 3) := by decide +kernel
theorem dX8_bound_23 : decode cX8_bound 23 = .ok (.goto 4, 3) := by decide +kernel
theorem dX8_bound_26 : decode cX8_bound 26 = .ok (.iload_n 0, 1) := by decide +kernel
theorem dX8_bound_27 : decode cX8_bound 27 = .ok (.ireturn, 1) := by decide +kernel
theorem dX8_found_0 : decode cX8_found 0 = .ok (.aload_n 0, 1) := by decide +kernel
theorem dX8_found_1 : decode cX8_found 1 = .ok (.iload_n 1, 1) := by decide +kernel
theorem dX8_found_2 : decode cX8_found 2 = .ok (.putfield 53, 3) := by decide +kernel
theorem dX8_found_5 : decode cX8_found 5 = .ok (.ldc 57, 2) := by decide +kernel
theorem dX8_found_7 : decode cX8_found 7 = .ok (.iload_n 1, 1) := by decide +kernel
theorem dX8_found_8 : decode cX8_found 8 = .ok (.isub, 1) := by decide +kernel
theorem dX8_found_9 : decode cX8_found 9 = .ok (.ireturn, 1) := by decide +kernel
theorem dX8_well_0 : decode cX8_well 0 = .ok (.aload_n 0, 1) := by decide +kernel
theorem dX8_well_1 : decode cX8_well 1 = .ok (.iconst 0, 1) := by decide +kernel
theorem dX8_well_2 : decode cX8_well 2 = .ok (.putfield 53, 3) := by decide +kernel
theorem dX8_well_5 : decode cX8_well 5 = .ok (.iload_n 1, 1) := by decide +kernel
theorem dX8_well_6 : decode cX8_well 6 = .ok (.ireturn, 1) := by decide +kernel
theorem dX8_isRow_0 : decode cX8_isRow 0 = .ok (.iload_n 0, 1) := by decide +kernel
theorem dX8_isRow_1 : decode cX8_isRow 1 = .ok (.i2l, 1) := by decide +kernel
theorem dX8_isRow_2 : decode cX8_isRow 2 = .ok (.lconst 0, 1) := by decide +kernel
theorem dX8_isRow_3 : decode cX8_isRow 3 = .ok (.ldc2_w 58, 3) := by decide +kernel
theorem dX8_isRow_6 : decode cX8_isRow 6 = .ok (.invokestatic 60, 3) := by decide +kernel
theorem dX8_isRow_9 : decode cX8_isRow 9 = .ok (.ireturn, 1) := by decide +kernel
theorem dX8_row_0 : decode cX8_row 0 = .ok (.iload_n 1, 1) := by decide +kernel
theorem dX8_row_1 : decode cX8_row 1 = .ok (.invokestatic 64, 3) := by decide +kernel
theorem dX8_row_4 : decode cX8_row 4 = .ok (.ifCond .eq 21, 3) := by decide +kernel
theorem dX8_row_7 : decode cX8_row 7 = .ok (.iload_n 2, 1) := by decide +kernel
theorem dX8_row_8 : decode cX8_row 8 = .ok (.i2l, 1) := by decide +kernel
theorem dX8_row_9 : decode cX8_row 9 = .ok (.lconst 0, 1) := by decide +kernel
theorem dX8_row_10 : decode cX8_row 10 = .ok (.ldc2_w 68, 3) := by decide +kernel
theorem dX8_row_13 : decode cX8_row 13 = .ok (.invokestatic 60, 3) := by decide +kernel
theorem dX8_row_16 : decode cX8_row 16 = .ok (.ifCond .eq 9, 3) := by decide +kernel
theorem dX8_row_19 : decode cX8_row 19 = .ok (.iload_n 3, 1) := by decide +kernel
theorem dX8_row_20 : decode cX8_row 20 = .ok (.bipush 40, 2) := by decide +kernel
theorem dX8_row_22 : decode cX8_row 22 = .ok (.if_icmp .le 6, 3) := by decide +kernel
theorem dX8_row_25 : decode cX8_row 25 = .ok (.ldc 70, 2) := by decide +kernel
theorem dX8_row_27 : decode cX8_row 27 = .ok (.ireturn, 1) := by decide +kernel
theorem dX8_row_28 : decode cX8_row 28 = .ok (.iload_n 3, 1) := by decide +kernel
theorem dX8_row_29 : decode cX8_row 29 = .ok (.ifCond .ge 9, 3) := by decide +kernel
theorem dX8_row_32 : decode cX8_row 32 = .ok (.aload_n 0, 1) := by decide +kernel
theorem dX8_row_33 : decode cX8_row 33 = .ok (.iconst 4, 1) := by decide +kernel
theorem dX8_row_34 : decode cX8_row 34 = .ok (.invokevirtual 71, 3) := by decide +kernel
theorem dX8_row_37 : decode cX8_row 37 = .ok (.ireturn, 1) := by decide +kernel
theorem dX8_row_38 : decode cX8_row 38 = .ok (.aload_n 0, 1) := by decide +kernel
theorem dX8_row_39 : decode cX8_row 39 = .ok (.getfield 17, 3) := by decide +kernel
theorem dX8_row_42 : decode cX8_row 42 = .ok (.iload_n 1, 1) := by decide +kernel
theorem dX8_row_43 : decode cX8_row 43 = .ok (.iload_n 2, 1) := by decide +kernel
theorem dX8_row_44 : decode cX8_row 44 = .ok (.iastore, 1) := by decide +kernel
theorem dX8_row_45 : decode cX8_row 45 = .ok (.aload_n 0, 1) := by decide +kernel
theorem dX8_row_46 : decode cX8_row 46 = .ok (.getfield 20, 3) := by decide +kernel
theorem dX8_row_49 : decode cX8_row 49 = .ok (.iload_n 1, 1) := by decide +kernel
theorem dX8_row_50 : decode cX8_row 50 = .ok (.iload_n 3, 1) := by decide +kernel
theorem dX8_row_51 : decode cX8_row 51 = .ok (.iastore, 1) := by decide +kernel
theorem dX8_row_52 : decode cX8_row 52 = .ok (.iconst 0, 1) := by decide +kernel
theorem dX8_row_53 : decode cX8_row 53 = .ok (.istore 4, 2) := by decide +kernel
theorem dX8_row_55 : decode cX8_row 55 = .ok (.iload 4, 2) := by decide +kernel
theorem dX8_row_57 : decode cX8_row 57 = .ok (.bipush 40, 2) := by decide +kernel
theorem dX8_row_59 : decode cX8_row 59 = .ok (.if_icmp .ge 22, 3) := by decide +kernel
theorem dX8_row_62 : decode cX8_row 62 = .ok (.aload_n 0, 1) := by decide +kernel
theorem dX8_row_63 : decode cX8_row 63 = .ok (.getfield 23, 3) := by decide +kernel
theorem dX8_row_66 : decode cX8_row 66 = .ok (.bipush 40, 2) := by decide +kernel
theorem dX8_row_68 : decode cX8_row 68 = .ok (.iload_n 1, 1) := by decide +kernel
theorem dX8_row_69 : decode cX8_row 69 = .ok (.imul, 1) := by decide +kernel
theorem dX8_row_70 : decode cX8_row 70 = .ok (.iload 4, 2) := by decide +kernel
theorem dX8_row_72 : decode cX8_row 72 = .ok (.iadd, 1) := by decide +kernel
theorem dX8_row_73 : decode cX8_row 73 = .ok (.iconst 0, 1) := by decide +kernel
theorem dX8_row_74 : decode cX8_row 74 = .ok (.iastore, 1) := by decide +kernel
theorem dX8_row_75 : decode cX8_row 75 = .ok (.iinc 4 1, 3) := by decide +kernel
theorem dX8_row_78 : decode cX8_row 78 = .ok (.goto (-23), 3) := by decide +kernel
theorem dX8_row_81 : decode cX8_row 81 = .ok (.aload_n 0, 1) := by decide +kernel
theorem dX8_row_82 : decode cX8_row 82 = .ok (.iload_n 3, 1) := by decide +kernel
theorem dX8_row_83 : decode cX8_row 83 = .ok (.invokevirtual 75, 3) := by decide +kernel
theorem dX8_row_86 : decode cX8_row 86 = .ok (.ireturn, 1) := by decide +kernel
theorem dX8_cutTo_0 : decode cX8_cutTo 0 = .ok (.iload_n 0, 1) := by decide +kernel
theorem dX8_cutTo_1 : decode cX8_cutTo 1 = .ok (.ifCond .ne 8, 3) := by decide +kernel
theorem dX8_cutTo_4 : decode cX8_cutTo 4 = .ok (.iload_n 1, 1) := by decide +kernel
theorem dX8_cutTo_5 : decode cX8_cutTo 5 = .ok (.i2b, 1) := by decide +kernel
theorem dX8_cutTo_6 : decode cX8_cutTo 6 = .ok (.goto 14, 3) := by decide +kernel
theorem dX8_cutTo_9 : decode cX8_cutTo 9 = .ok (.iload_n 0, 1) := by decide +kernel
theorem dX8_cutTo_10 : decode cX8_cutTo 10 = .ok (.iconst 1, 1) := by decide +kernel
theorem dX8_cutTo_11 : decode cX8_cutTo 11 = .ok (.if_icmp .ne 8, 3) := by decide +kernel
theorem dX8_cutTo_14 : decode cX8_cutTo 14 = .ok (.iload_n 1, 1) := by decide +kernel
theorem dX8_cutTo_15 : decode cX8_cutTo 15 = .ok (.i2s, 1) := by decide +kernel
theorem dX8_cutTo_16 : decode cX8_cutTo 16 = .ok (.goto 4, 3) := by decide +kernel
theorem dX8_cutTo_19 : decode cX8_cutTo 19 = .ok (.iload_n 1, 1) := by decide +kernel
theorem dX8_cutTo_20 : decode cX8_cutTo 20 = .ok (.ireturn, 1) := by decide +kernel
theorem dX8_against_0 : decode cX8_against 0 = .ok (.aload_n 0, 1) := by decide +kernel
theorem dX8_against_1 : decode cX8_against 1 = .ok (.getfield 17, 3) := by decide +kernel
theorem dX8_against_4 : decode cX8_against 4 = .ok (.iload_n 1, 1) := by decide +kernel
theorem dX8_against_5 : decode cX8_against 5 = .ok (.iaload, 1) := by decide +kernel
theorem dX8_against_6 : decode cX8_against 6 = .ok (.ifCond .ge 7, 3) := by decide +kernel
theorem dX8_against_9 : decode cX8_against 9 = .ok (.iconst 1, 1) := by decide +kernel
theorem dX8_against_10 : decode cX8_against 10 = .ok (.goto 32, 3) := by decide +kernel
theorem dX8_against_13 : decode cX8_against 13 = .ok (.iload_n 2, 1) := by decide +kernel
theorem dX8_against_14 : decode cX8_against 14 = .ok (.ifCond .lt 23, 3) := by decide +kernel
theorem dX8_against_17 : decode cX8_against 17 = .ok (.iload_n 3, 1) := by decide +kernel
theorem dX8_against_18 : decode cX8_against 18 = .ok (.ifCond .lt 19, 3) := by decide +kernel
theorem dX8_against_21 : decode cX8_against 21 = .ok (.iload_n 2, 1) := by decide +kernel
theorem dX8_against_22 : decode cX8_against 22 = .ok (.i2l, 1) := by decide +kernel
theorem dX8_against_23 : decode cX8_against 23 = .ok (.iload_n 3, 1) := by decide +kernel
theorem dX8_against_24 : decode cX8_against 24 = .ok (.i2l, 1) := by decide +kernel
theorem dX8_against_25 : decode cX8_against 25 = .ok (.ladd, 1) := by decide +kernel
theorem dX8_against_26 : decode cX8_against 26 = .ok (.aload_n 0, 1) := by decide +kernel
theorem dX8_against_27 : decode cX8_against 27 = .ok (.getfield 20, 3) := by decide +kernel
theorem dX8_against_30 : decode cX8_against 30 = .ok (.iload_n 1, 1) := by decide +kernel
theorem dX8_against_31 : decode cX8_against 31 = .ok (.iaload, 1) := by decide +kernel
theorem dX8_against_32 : decode cX8_against 32 = .ok (.i2l, 1) := by decide +kernel
theorem dX8_against_33 : decode cX8_against 33 = .ok (.lcmp, 1) := by decide +kernel
theorem dX8_against_34 : decode cX8_against 34 = .ok (.ifCond .le 7, 3) := by decide +kernel
theorem dX8_against_37 : decode cX8_against 37 = .ok (.iconst 2, 1) := by decide +kernel
theorem dX8_against_38 : decode cX8_against 38 = .ok (.goto 4, 3) := by decide +kernel
theorem dX8_against_41 : decode cX8_against 41 = .ok (.iconst 0, 1) := by decide +kernel
theorem dX8_against_42 : decode cX8_against 42 = .ok (.ireturn, 1) := by decide +kernel
theorem dX8_set_0 : decode cX8_set 0 = .ok (.iload_n 1, 1) := by decide +kernel
theorem dX8_set_1 : decode cX8_set 1 = .ok (.invokestatic 64, 3) := by decide +kernel
theorem dX8_set_4 : decode cX8_set 4 = .ok (.ifCond .ne 6, 3) := by decide +kernel
theorem dX8_set_7 : decode cX8_set 7 = .ok (.ldc 70, 2) := by decide +kernel
theorem dX8_set_9 : decode cX8_set 9 = .ok (.ireturn, 1) := by decide +kernel
theorem dX8_set_10 : decode cX8_set 10 = .ok (.aload_n 0, 1) := by decide +kernel
theorem dX8_set_11 : decode cX8_set 11 = .ok (.iload_n 1, 1) := by decide +kernel
theorem dX8_set_12 : decode cX8_set 12 = .ok (.iload_n 2, 1) := by decide +kernel
theorem dX8_set_13 : decode cX8_set 13 = .ok (.iconst 1, 1) := by decide +kernel
theorem dX8_set_14 : decode cX8_set 14 = .ok (.invokevirtual 78, 3) := by decide +kernel
theorem dX8_set_17 : decode cX8_set 17 = .ok (.istore 4, 2) := by decide +kernel
theorem dX8_set_19 : decode cX8_set 19 = .ok (.iload 4, 2) := by decide +kernel
theorem dX8_set_21 : decode cX8_set 21 = .ok (.ifCond .le 10, 3) := by decide +kernel
theorem dX8_set_24 : decode cX8_set 24 = .ok (.aload_n 0, 1) := by decide +kernel
theorem dX8_set_25 : decode cX8_set 25 = .ok (.iload 4, 2) := by decide +kernel
theorem dX8_set_27 : decode cX8_set 27 = .ok (.invokevirtual 71, 3) := by decide +kernel
theorem dX8_set_30 : decode cX8_set 30 = .ok (.ireturn, 1) := by decide +kernel
theorem dX8_set_31 : decode cX8_set 31 = .ok (.aload_n 0, 1) := by decide +kernel
theorem dX8_set_32 : decode cX8_set 32 = .ok (.getfield 23, 3) := by decide +kernel
theorem dX8_set_35 : decode cX8_set 35 = .ok (.bipush 40, 2) := by decide +kernel
theorem dX8_set_37 : decode cX8_set 37 = .ok (.iload_n 1, 1) := by decide +kernel
theorem dX8_set_38 : decode cX8_set 38 = .ok (.imul, 1) := by decide +kernel
theorem dX8_set_39 : decode cX8_set 39 = .ok (.iload_n 2, 1) := by decide +kernel
theorem dX8_set_40 : decode cX8_set 40 = .ok (.iadd, 1) := by decide +kernel
theorem dX8_set_41 : decode cX8_set 41 = .ok (.aload_n 0, 1) := by decide +kernel
theorem dX8_set_42 : decode cX8_set 42 = .ok (.getfield 17, 3) := by decide +kernel
theorem dX8_set_45 : decode cX8_set 45 = .ok (.iload_n 1, 1) := by decide +kernel
theorem dX8_set_46 : decode cX8_set 46 = .ok (.iaload, 1) := by decide +kernel
theorem dX8_set_47 : decode cX8_set 47 = .ok (.iload_n 3, 1) := by decide +kernel
theorem dX8_set_48 : decode cX8_set 48 = .ok (.invokestatic 82, 3) := by decide +kernel
theorem dX8_set_51 : decode cX8_set 51 = .ok (.iastore, 1) := by decide +kernel
theorem dX8_set_52 : decode cX8_set 52 = .ok (.aload_n 0, 1) := by decide +kernel
theorem dX8_set_53 : decode cX8_set 53 = .ok (.aload_n 0, 1) := by decide +kernel
theorem dX8_set_54 : decode cX8_set 54 = .ok (.getfield 23, 3) := by decide +kernel
theorem dX8_set_57 : decode cX8_set 57 = .ok (.bipush 40, 2) := by decide +kernel
theorem dX8_set_59 : decode cX8_set 59 = .ok (.iload_n 1, 1) := by decide +kernel
theorem dX8_set_60 : decode cX8_set 60 = .ok (.imul, 1) := by decide +kernel
theorem dX8_set_61 : decode cX8_set 61 = .ok (.iload_n 2, 1) := by decide +kernel
theorem dX8_set_62 : decode cX8_set 62 = .ok (.iadd, 1) := by decide +kernel
theorem dX8_set_63 : decode cX8_set 63 = .ok (.iaload, 1) := by decide +kernel
theorem dX8_set_64 : decode cX8_set 64 = .ok (.invokevirtual 75, 3) := by decide +kernel
theorem dX8_set_67 : decode cX8_set 67 = .ok (.ireturn, 1) := by decide +kernel
theorem dX8_copy_0 : decode cX8_copy 0 = .ok (.iload_n 1, 1) := by decide +kernel
theorem dX8_copy_1 : decode cX8_copy 1 = .ok (.invokestatic 64, 3) := by decide +kernel
theorem dX8_copy_4 : decode cX8_copy 4 = .ok (.ifCond .eq 10, 3) := by decide +kernel
theorem dX8_copy_7 : decode cX8_copy 7 = .ok (.iload_n 3, 1) := by decide +kernel
theorem dX8_copy_8 : decode cX8_copy 8 = .ok (.invokestatic 64, 3) := by decide +kernel
theorem dX8_copy_11 : decode cX8_copy 11 = .ok (.ifCond .ne 6, 3) := by decide +kernel
theorem dX8_copy_14 : decode cX8_copy 14 = .ok (.ldc 70, 2) := by decide +kernel
theorem dX8_copy_16 : decode cX8_copy 16 = .ok (.ireturn, 1) := by decide +kernel
theorem dX8_copy_17 : decode cX8_copy 17 = .ok (.aload_n 0, 1) := by decide +kernel
theorem dX8_copy_18 : decode cX8_copy 18 = .ok (.getfield 17, 3) := by decide +kernel
theorem dX8_copy_21 : decode cX8_copy 21 = .ok (.iload_n 1, 1) := by decide +kernel
theorem dX8_copy_22 : decode cX8_copy 22 = .ok (.iaload, 1) := by decide +kernel
theorem dX8_copy_23 : decode cX8_copy 23 = .ok (.ifCond .lt 12, 3) := by decide +kernel
theorem dX8_copy_26 : decode cX8_copy 26 = .ok (.aload_n 0, 1) := by decide +kernel
theorem dX8_copy_27 : decode cX8_copy 27 = .ok (.getfield 17, 3) := by decide +kernel
theorem dX8_copy_30 : decode cX8_copy 30 = .ok (.iload_n 3, 1) := by decide +kernel
theorem dX8_copy_31 : decode cX8_copy 31 = .ok (.iaload, 1) := by decide +kernel
theorem dX8_copy_32 : decode cX8_copy 32 = .ok (.ifCond .ge 9, 3) := by decide +kernel
theorem dX8_copy_35 : decode cX8_copy 35 = .ok (.aload_n 0, 1) := by decide +kernel
theorem dX8_copy_36 : decode cX8_copy 36 = .ok (.iconst 1, 1) := by decide +kernel
theorem dX8_copy_37 : decode cX8_copy 37 = .ok (.invokevirtual 71, 3) := by decide +kernel
theorem dX8_copy_40 : decode cX8_copy 40 = .ok (.ireturn, 1) := by decide +kernel
theorem dX8_copy_41 : decode cX8_copy 41 = .ok (.aload_n 0, 1) := by decide +kernel
theorem dX8_copy_42 : decode cX8_copy 42 = .ok (.getfield 17, 3) := by decide +kernel
theorem dX8_copy_45 : decode cX8_copy 45 = .ok (.iload_n 1, 1) := by decide +kernel
theorem dX8_copy_46 : decode cX8_copy 46 = .ok (.iaload, 1) := by decide +kernel
theorem dX8_copy_47 : decode cX8_copy 47 = .ok (.aload_n 0, 1) := by decide +kernel
theorem dX8_copy_48 : decode cX8_copy 48 = .ok (.getfield 17, 3) := by decide +kernel
theorem dX8_copy_51 : decode cX8_copy 51 = .ok (.iload_n 3, 1) := by decide +kernel
theorem dX8_copy_52 : decode cX8_copy 52 = .ok (.iaload, 1) := by decide +kernel
theorem dX8_copy_53 : decode cX8_copy 53 = .ok (.if_icmp .eq 9, 3) := by decide +kernel
theorem dX8_copy_56 : decode cX8_copy 56 = .ok (.aload_n 0, 1) := by decide +kernel
theorem dX8_copy_57 : decode cX8_copy 57 = .ok (.iconst 5, 1) := by decide +kernel
theorem dX8_copy_58 : decode cX8_copy 58 = .ok (.invokevirtual 71, 3) := by decide +kernel
theorem dX8_copy_61 : decode cX8_copy 61 = .ok (.ireturn, 1) := by decide +kernel
theorem dX8_copy_62 : decode cX8_copy 62 = .ok (.aload_n 0, 1) := by decide +kernel
theorem dX8_copy_63 : decode cX8_copy 63 = .ok (.iload_n 1, 1) := by decide +kernel
theorem dX8_copy_64 : decode cX8_copy 64 = .ok (.iload_n 2, 1) := by decide +kernel
theorem dX8_copy_65 : decode cX8_copy 65 = .ok (.iload 5, 2) := by decide +kernel
theorem dX8_copy_67 : decode cX8_copy 67 = .ok (.invokevirtual 78, 3) := by decide +kernel
theorem dX8_copy_70 : decode cX8_copy 70 = .ok (.ifCond .gt 15, 3) := by decide +kernel
theorem dX8_copy_73 : decode cX8_copy 73 = .ok (.aload_n 0, 1) := by decide +kernel
theorem dX8_copy_74 : decode cX8_copy 74 = .ok (.iload_n 3, 1) := by decide +kernel
theorem dX8_copy_75 : decode cX8_copy 75 = .ok (.iload 4, 2) := by decide +kernel
theorem dX8_copy_77 : decode cX8_copy 77 = .ok (.iload 5, 2) := by decide +kernel
theorem dX8_copy_79 : decode cX8_copy 79 = .ok (.invokevirtual 78, 3) := by decide +kernel
theorem dX8_copy_82 : decode cX8_copy 82 = .ok (.ifCond .le 9, 3) := by decide +kernel
theorem dX8_copy_85 : decode cX8_copy 85 = .ok (.aload_n 0, 1) := by decide +kernel
theorem dX8_copy_86 : decode cX8_copy 86 = .ok (.iconst 2, 1) := by decide +kernel
theorem dX8_copy_87 : decode cX8_copy 87 = .ok (.invokevirtual 71, 3) := by decide +kernel
theorem dX8_copy_90 : decode cX8_copy 90 = .ok (.ireturn, 1) := by decide +kernel
theorem dX8_copy_91 : decode cX8_copy 91 = .ok (.iconst 0, 1) := by decide +kernel
theorem dX8_copy_92 : decode cX8_copy 92 = .ok (.istore 6, 2) := by decide +kernel
theorem dX8_copy_94 : decode cX8_copy 94 = .ok (.iload 6, 2) := by decide +kernel
theorem dX8_copy_96 : decode cX8_copy 96 = .ok (.iload 5, 2) := by decide +kernel
theorem dX8_copy_98 : decode cX8_copy 98 = .ok (.if_icmp .ge 30, 3) := by decide +kernel
theorem dX8_copy_101 : decode cX8_copy 101 = .ok (.aload_n 0, 1) := by decide +kernel
theorem dX8_copy_102 : decode cX8_copy 102 = .ok (.getfield 26, 3) := by decide +kernel
theorem dX8_copy_105 : decode cX8_copy 105 = .ok (.iload 6, 2) := by decide +kernel
theorem dX8_copy_107 : decode cX8_copy 107 = .ok (.aload_n 0, 1) := by decide +kernel
theorem dX8_copy_108 : decode cX8_copy 108 = .ok (.getfield 23, 3) := by decide +kernel
theorem dX8_copy_111 : decode cX8_copy 111 = .ok (.bipush 40, 2) := by decide +kernel
theorem dX8_copy_113 : decode cX8_copy 113 = .ok (.iload_n 1, 1) := by decide +kernel
theorem dX8_copy_114 : decode cX8_copy 114 = .ok (.imul, 1) := by decide +kernel
theorem dX8_copy_115 : decode cX8_copy 115 = .ok (.iload_n 2, 1) := by decide +kernel
theorem dX8_copy_116 : decode cX8_copy 116 = .ok (.iadd, 1) := by decide +kernel
theorem dX8_copy_117 : decode cX8_copy 117 = .ok (.iload 6, 2) := by decide +kernel
theorem dX8_copy_119 : decode cX8_copy 119 = .ok (.iadd, 1) := by decide +kernel
theorem dX8_copy_120 : decode cX8_copy 120 = .ok (.iaload, 1) := by decide +kernel
theorem dX8_copy_121 : decode cX8_copy 121 = .ok (.iastore, 1) := by decide +kernel
theorem dX8_copy_122 : decode cX8_copy 122 = .ok (.iinc 6 1, 3) := by decide +kernel
theorem dX8_copy_125 : decode cX8_copy 125 = .ok (.goto (-31), 3) := by decide +kernel
theorem dX8_copy_128 : decode cX8_copy 128 = .ok (.iconst 0, 1) := by decide +kernel
theorem dX8_copy_129 : decode cX8_copy 129 = .ok (.istore 6, 2) := by decide +kernel
theorem dX8_copy_131 : decode cX8_copy 131 = .ok (.iload 6, 2) := by decide +kernel
theorem dX8_copy_133 : decode cX8_copy 133 = .ok (.iload 5, 2) := by decide +kernel
theorem dX8_copy_135 : decode cX8_copy 135 = .ok (.if_icmp .ge 31, 3) := by decide +kernel
theorem dX8_copy_138 : decode cX8_copy 138 = .ok (.aload_n 0, 1) := by decide +kernel
theorem dX8_copy_139 : decode cX8_copy 139 = .ok (.getfield 23, 3) := by decide +kernel
theorem dX8_copy_142 : decode cX8_copy 142 = .ok (.bipush 40, 2) := by decide +kernel
theorem dX8_copy_144 : decode cX8_copy 144 = .ok (.iload_n 3, 1) := by decide +kernel
theorem dX8_copy_145 : decode cX8_copy 145 = .ok (.imul, 1) := by decide +kernel
theorem dX8_copy_146 : decode cX8_copy 146 = .ok (.iload 4, 2) := by decide +kernel
theorem dX8_copy_148 : decode cX8_copy 148 = .ok (.iadd, 1) := by decide +kernel
theorem dX8_copy_149 : decode cX8_copy 149 = .ok (.iload 6, 2) := by decide +kernel
theorem dX8_copy_151 : decode cX8_copy 151 = .ok (.iadd, 1) := by decide +kernel
theorem dX8_copy_152 : decode cX8_copy 152 = .ok (.aload_n 0, 1) := by decide +kernel
theorem dX8_copy_153 : decode cX8_copy 153 = .ok (.getfield 26, 3) := by decide +kernel
theorem dX8_copy_156 : decode cX8_copy 156 = .ok (.iload 6, 2) := by decide +kernel
theorem dX8_copy_158 : decode cX8_copy 158 = .ok (.iaload, 1) := by decide +kernel
theorem dX8_copy_159 : decode cX8_copy 159 = .ok (.iastore, 1) := by decide +kernel
theorem dX8_copy_160 : decode cX8_copy 160 = .ok (.iinc 6 1, 3) := by decide +kernel
theorem dX8_copy_163 : decode cX8_copy 163 = .ok (.goto (-32), 3) := by decide +kernel
theorem dX8_copy_166 : decode cX8_copy 166 = .ok (.aload_n 0, 1) := by decide +kernel
theorem dX8_copy_167 : decode cX8_copy 167 = .ok (.iload 5, 2) := by decide +kernel
theorem dX8_copy_169 : decode cX8_copy 169 = .ok (.invokevirtual 75, 3) := by decide +kernel
theorem dX8_copy_172 : decode cX8_copy 172 = .ok (.ireturn, 1) := by decide +kernel
theorem dX8_drop_0 : decode cX8_drop 0 = .ok (.iload_n 1, 1) := by decide +kernel
theorem dX8_drop_1 : decode cX8_drop 1 = .ok (.invokestatic 64, 3) := by decide +kernel
theorem dX8_drop_4 : decode cX8_drop 4 = .ok (.ifCond .ne 6, 3) := by decide +kernel
theorem dX8_drop_7 : decode cX8_drop 7 = .ok (.ldc 70, 2) := by decide +kernel
theorem dX8_drop_9 : decode cX8_drop 9 = .ok (.ireturn, 1) := by decide +kernel
theorem dX8_drop_10 : decode cX8_drop 10 = .ok (.aload_n 0, 1) := by decide +kernel
theorem dX8_drop_11 : decode cX8_drop 11 = .ok (.getfield 17, 3) := by decide +kernel
theorem dX8_drop_14 : decode cX8_drop 14 = .ok (.iload_n 1, 1) := by decide +kernel
theorem dX8_drop_15 : decode cX8_drop 15 = .ok (.iaload, 1) := by decide +kernel
theorem dX8_drop_16 : decode cX8_drop 16 = .ok (.ifCond .ge 9, 3) := by decide +kernel
theorem dX8_drop_19 : decode cX8_drop 19 = .ok (.aload_n 0, 1) := by decide +kernel
theorem dX8_drop_20 : decode cX8_drop 20 = .ok (.iconst 1, 1) := by decide +kernel
theorem dX8_drop_21 : decode cX8_drop 21 = .ok (.invokevirtual 71, 3) := by decide +kernel
theorem dX8_drop_24 : decode cX8_drop 24 = .ok (.ireturn, 1) := by decide +kernel
theorem dX8_drop_25 : decode cX8_drop 25 = .ok (.aload_n 0, 1) := by decide +kernel
theorem dX8_drop_26 : decode cX8_drop 26 = .ok (.getfield 17, 3) := by decide +kernel
theorem dX8_drop_29 : decode cX8_drop 29 = .ok (.iload_n 1, 1) := by decide +kernel
theorem dX8_drop_30 : decode cX8_drop 30 = .ok (.iconst (-1), 1) := by decide +kernel
theorem dX8_drop_31 : decode cX8_drop 31 = .ok (.iastore, 1) := by decide +kernel
theorem dX8_drop_32 : decode cX8_drop 32 = .ok (.aload_n 0, 1) := by decide +kernel
theorem dX8_drop_33 : decode cX8_drop 33 = .ok (.aload_n 0, 1) := by decide +kernel
theorem dX8_drop_34 : decode cX8_drop 34 = .ok (.getfield 20, 3) := by decide +kernel
theorem dX8_drop_37 : decode cX8_drop 37 = .ok (.iload_n 1, 1) := by decide +kernel
theorem dX8_drop_38 : decode cX8_drop 38 = .ok (.iaload, 1) := by decide +kernel
theorem dX8_drop_39 : decode cX8_drop 39 = .ok (.invokevirtual 75, 3) := by decide +kernel
theorem dX8_drop_42 : decode cX8_drop 42 = .ok (.ireturn, 1) := by decide +kernel
theorem dX8_feed_0 : decode cX8_feed 0 = .ok (.iload_n 1, 1) := by decide +kernel
theorem dX8_feed_1 : decode cX8_feed 1 = .ok (.i2l, 1) := by decide +kernel
theorem dX8_feed_2 : decode cX8_feed 2 = .ok (.lconst 0, 1) := by decide +kernel
theorem dX8_feed_3 : decode cX8_feed 3 = .ok (.ldc2_w 86, 3) := by decide +kernel
theorem dX8_feed_6 : decode cX8_feed 6 = .ok (.invokestatic 60, 3) := by decide +kernel
theorem dX8_feed_9 : decode cX8_feed 9 = .ok (.ifCond .ne 6, 3) := by decide +kernel
theorem dX8_feed_12 : decode cX8_feed 12 = .ok (.ldc 70, 2) := by decide +kernel
theorem dX8_feed_14 : decode cX8_feed 14 = .ok (.ireturn, 1) := by decide +kernel
theorem dX8_feed_15 : decode cX8_feed 15 = .ok (.aload_n 0, 1) := by decide +kernel
theorem dX8_feed_16 : decode cX8_feed 16 = .ok (.getfield 88, 3) := by decide +kernel
theorem dX8_feed_19 : decode cX8_feed 19 = .ok (.sipush 140, 3) := by decide +kernel
theorem dX8_feed_22 : decode cX8_feed 22 = .ok (.if_icmp .ne 6, 3) := by decide +kernel
theorem dX8_feed_25 : decode cX8_feed 25 = .ok (.ldc 91, 2) := by decide +kernel
theorem dX8_feed_27 : decode cX8_feed 27 = .ok (.ireturn, 1) := by decide +kernel
theorem dX8_feed_28 : decode cX8_feed 28 = .ok (.aload_n 0, 1) := by decide +kernel
theorem dX8_feed_29 : decode cX8_feed 29 = .ok (.getfield 29, 3) := by decide +kernel
theorem dX8_feed_32 : decode cX8_feed 32 = .ok (.aload_n 0, 1) := by decide +kernel
theorem dX8_feed_33 : decode cX8_feed 33 = .ok (.getfield 88, 3) := by decide +kernel
theorem dX8_feed_36 : decode cX8_feed 36 = .ok (.iload_n 1, 1) := by decide +kernel
theorem dX8_feed_37 : decode cX8_feed 37 = .ok (.iastore, 1) := by decide +kernel
theorem dX8_feed_38 : decode cX8_feed 38 = .ok (.aload_n 0, 1) := by decide +kernel
theorem dX8_feed_39 : decode cX8_feed 39 = .ok (.dup, 1) := by decide +kernel
theorem dX8_feed_40 : decode cX8_feed 40 = .ok (.getfield 88, 3) := by decide +kernel
theorem dX8_feed_43 : decode cX8_feed 43 = .ok (.iconst 1, 1) := by decide +kernel
theorem dX8_feed_44 : decode cX8_feed 44 = .ok (.iadd, 1) := by decide +kernel
theorem dX8_feed_45 : decode cX8_feed 45 = .ok (.putfield 88, 3) := by decide +kernel
theorem dX8_feed_48 : decode cX8_feed 48 = .ok (.aload_n 0, 1) := by decide +kernel
theorem dX8_feed_49 : decode cX8_feed 49 = .ok (.getfield 88, 3) := by decide +kernel
theorem dX8_feed_52 : decode cX8_feed 52 = .ok (.ireturn, 1) := by decide +kernel
theorem dX8_byteAt_0 : decode cX8_byteAt 0 = .ok (.iload_n 1, 1) := by decide +kernel
theorem dX8_byteAt_1 : decode cX8_byteAt 1 = .ok (.aload_n 0, 1) := by decide +kernel
theorem dX8_byteAt_2 : decode cX8_byteAt 2 = .ok (.getfield 88, 3) := by decide +kernel
theorem dX8_byteAt_5 : decode cX8_byteAt 5 = .ok (.if_icmp .ge 12, 3) := by decide +kernel
theorem dX8_byteAt_8 : decode cX8_byteAt 8 = .ok (.aload_n 0, 1) := by decide +kernel
theorem dX8_byteAt_9 : decode cX8_byteAt 9 = .ok (.getfield 29, 3) := by decide +kernel
theorem dX8_byteAt_12 : decode cX8_byteAt 12 = .ok (.iload_n 1, 1) := by decide +kernel
theorem dX8_byteAt_13 : decode cX8_byteAt 13 = .ok (.iaload, 1) := by decide +kernel
theorem dX8_byteAt_14 : decode cX8_byteAt 14 = .ok (.goto 4, 3) := by decide +kernel
theorem dX8_byteAt_17 : decode cX8_byteAt 17 = .ok (.iconst (-1), 1) := by decide +kernel
theorem dX8_byteAt_18 : decode cX8_byteAt 18 = .ok (.ireturn, 1) := by decide +kernel
theorem dX8_isFigure_0 : decode cX8_isFigure 0 = .ok (.aload_n 0, 1) := by decide +kernel
theorem dX8_isFigure_1 : decode cX8_isFigure 1 = .ok (.iload_n 1, 1) := by decide +kernel
theorem dX8_isFigure_2 : decode cX8_isFigure 2 = .ok (.invokevirtual 92, 3) := by decide +kernel
theorem dX8_isFigure_5 : decode cX8_isFigure 5 = .ok (.i2l, 1) := by decide +kernel
theorem dX8_isFigure_6 : decode cX8_isFigure 6 = .ok (.ldc2_w 95, 3) := by decide +kernel
theorem dX8_isFigure_9 : decode cX8_isFigure 9 = .ok (.ldc2_w 97, 3) := by decide +kernel
theorem dX8_isFigure_12 : decode cX8_isFigure 12 = .ok (.invokestatic 60, 3) := by decide +kernel
theorem dX8_isFigure_15 : decode cX8_isFigure 15 = .ok (.ireturn, 1) := by decide +kernel
theorem dX8_takes_0 : decode cX8_takes 0 = .ok (.aload_n 0, 1) := by decide +kernel
theorem dX8_takes_1 : decode cX8_takes 1 = .ok (.aload_n 0, 1) := by decide +kernel
theorem dX8_takes_2 : decode cX8_takes 2 = .ok (.getfield 99, 3) := by decide +kernel
theorem dX8_takes_5 : decode cX8_takes 5 = .ok (.putfield 102, 3) := by decide +kernel
theorem dX8_takes_8 : decode cX8_takes 8 = .ok (.aload_n 0, 1) := by decide +kernel
theorem dX8_takes_9 : decode cX8_takes 9 = .ok (.iconst 1, 1) := by decide +kernel
theorem dX8_takes_10 : decode cX8_takes 10 = .ok (.putfield 105, 3) := by decide +kernel
theorem dX8_takes_13 : decode cX8_takes 13 = .ok (.aload_n 0, 1) := by decide +kernel
theorem dX8_takes_14 : decode cX8_takes 14 = .ok (.aload_n 0, 1) := by decide +kernel
theorem dX8_takes_15 : decode cX8_takes 15 = .ok (.getfield 99, 3) := by decide +kernel
theorem dX8_takes_18 : decode cX8_takes 18 = .ok (.invokevirtual 92, 3) := by decide +kernel
theorem dX8_takes_21 : decode cX8_takes 21 = .ok (.iload_n 1, 1) := by decide +kernel
theorem dX8_takes_22 : decode cX8_takes 22 = .ok (.if_icmp .ne 7, 3) := by decide +kernel
theorem dX8_takes_25 : decode cX8_takes 25 = .ok (.iconst 1, 1) := by decide +kernel
theorem dX8_takes_26 : decode cX8_takes 26 = .ok (.goto 4, 3) := by decide +kernel
theorem dX8_takes_29 : decode cX8_takes 29 = .ok (.iconst 0, 1) := by decide +kernel
theorem dX8_takes_30 : decode cX8_takes 30 = .ok (.istore_n 2, 1) := by decide +kernel
theorem dX8_takes_31 : decode cX8_takes 31 = .ok (.aload_n 0, 1) := by decide +kernel
theorem dX8_takes_32 : decode cX8_takes 32 = .ok (.dup, 1) := by decide +kernel
theorem dX8_takes_33 : decode cX8_takes 33 = .ok (.getfield 99, 3) := by decide +kernel
theorem dX8_takes_36 : decode cX8_takes 36 = .ok (.iload_n 2, 1) := by decide +kernel
theorem dX8_takes_37 : decode cX8_takes 37 = .ok (.ifCond .eq 7, 3) := by decide +kernel
theorem dX8_takes_40 : decode cX8_takes 40 = .ok (.iconst 1, 1) := by decide +kernel
theorem dX8_takes_41 : decode cX8_takes 41 = .ok (.goto 4, 3) := by decide +kernel
theorem dX8_takes_44 : decode cX8_takes 44 = .ok (.iconst 0, 1) := by decide +kernel
theorem dX8_takes_45 : decode cX8_takes 45 = .ok (.iadd, 1) := by decide +kernel
theorem dX8_takes_46 : decode cX8_takes 46 = .ok (.putfield 99, 3) := by decide +kernel
theorem dX8_takes_49 : decode cX8_takes 49 = .ok (.iload_n 2, 1) := by decide +kernel
theorem dX8_takes_50 : decode cX8_takes 50 = .ok (.ireturn, 1) := by decide +kernel
theorem dX8_takesNumber_0 : decode cX8_takesNumber 0 = .ok (.aload_n 0, 1) := by decide +kernel
theorem dX8_takesNumber_1 : decode cX8_takesNumber 1 = .ok (.aload_n 0, 1) := by decide +kernel
theorem dX8_takesNumber_2 : decode cX8_takesNumber 2 = .ok (.getfield 99, 3) := by decide +kernel
theorem dX8_takesNumber_5 : decode cX8_takesNumber 5 = .ok (.putfield 102, 3) := by decide +kernel
theorem dX8_takesNumber_8 : decode cX8_takesNumber 8 = .ok (.aload_n 0, 1) := by decide +kernel
theorem dX8_takesNumber_9 : decode cX8_takesNumber 9 = .ok (.iconst 1, 1) := by decide +kernel
theorem dX8_takesNumber_10 : decode cX8_takesNumber 10 = .ok (.putfield 105, 3) := by decide +kernel
theorem dX8_takesNumber_13 : decode cX8_takesNumber 13 = .ok (.iconst 0, 1) := by decide +kernel
theorem dX8_takesNumber_14 : decode cX8_takesNumber 14 = .ok (.istore_n 3, 1) := by decide +kernel
theorem dX8_takesNumber_15 : decode cX8_takesNumber 15 = .ok (.aload_n 0, 1) := by decide +kernel
theorem dX8_takesNumber_16 : decode cX8_takesNumber 16 = .ok (.iconst 0, 1) := by decide +kernel
theorem dX8_takesNumber_17 : decode cX8_takesNumber 17 = .ok (.putfield 108, 3) := by decide +kernel
theorem dX8_takesNumber_20 : decode cX8_takesNumber 20 = .ok (.aload_n 0, 1) := by decide +kernel
theorem dX8_takesNumber_21 : decode cX8_takesNumber 21 = .ok (.aload_n 0, 1) := by decide +kernel
theorem dX8_takesNumber_22 : decode cX8_takesNumber 22 = .ok (.getfield 99, 3) := by decide +kernel
theorem dX8_takesNumber_25 : decode cX8_takesNumber 25 = .ok (.iload_n 3, 1) := by decide +kernel
theorem dX8_takesNumber_26 : decode cX8_takesNumber 26 = .ok (.iadd, 1) := by decide +kernel
theorem dX8_takesNumber_27 : decode cX8_takesNumber 27 = .ok (.invokevirtual 111, 3) := by decide +kernel
theorem dX8_takesNumber_30 : decode cX8_takesNumber 30 = .ok (.ifCond .eq 46, 3) := by decide +kernel
theorem dX8_takesNumber_33 : decode cX8_takesNumber 33 = .ok (.aload_n 0, 1) := by decide +kernel
theorem dX8_takesNumber_34 : decode cX8_takesNumber 34 = .ok (.iload_n 3, 1) := by decide +kernel
theorem dX8_takesNumber_35 : decode cX8_takesNumber 35 = .ok (.iconst 2, 1) := by decide +kernel
theorem dX8_takesNumber_36 : decode cX8_takesNumber 36 = .ok (.if_icmp .ge 27, 3) := by decide +kernel
theorem dX8_takesNumber_39 : decode cX8_takesNumber 39 = .ok (.bipush 10, 2) := by decide +kernel
theorem dX8_takesNumber_41 : decode cX8_takesNumber 41 = .ok (.aload_n 0, 1) := by decide +kernel
theorem dX8_takesNumber_42 : decode cX8_takesNumber 42 = .ok (.getfield 108, 3) := by decide +kernel
theorem dX8_takesNumber_45 : decode cX8_takesNumber 45 = .ok (.imul, 1) := by decide +kernel
theorem dX8_takesNumber_46 : decode cX8_takesNumber 46 = .ok (.aload_n 0, 1) := by decide +kernel
theorem dX8_takesNumber_47 : decode cX8_takesNumber 47 = .ok (.aload_n 0, 1) := by decide +kernel
theorem dX8_takesNumber_48 : decode cX8_takesNumber 48 = .ok (.getfield 99, 3) := by decide +kernel
theorem dX8_takesNumber_51 : decode cX8_takesNumber 51 = .ok (.iload_n 3, 1) := by decide +kernel
theorem dX8_takesNumber_52 : decode cX8_takesNumber 52 = .ok (.iadd, 1) := by decide +kernel
theorem dX8_takesNumber_53 : decode cX8_takesNumber 53 = .ok (.invokevirtual 92, 3) := by decide +kernel
theorem dX8_takesNumber_56 : decode cX8_takesNumber 56 = .ok (.iadd, 1) := by decide +kernel
theorem dX8_takesNumber_57 : decode cX8_takesNumber 57 = .ok (.bipush 48, 2) := by decide +kernel
theorem dX8_takesNumber_59 : decode cX8_takesNumber 59 = .ok (.isub, 1) := by decide +kernel
theorem dX8_takesNumber_60 : decode cX8_takesNumber 60 = .ok (.goto 7, 3) := by decide +kernel
theorem dX8_takesNumber_63 : decode cX8_takesNumber 63 = .ok (.aload_n 0, 1) := by decide +kernel
theorem dX8_takesNumber_64 : decode cX8_takesNumber 64 = .ok (.getfield 108, 3) := by decide +kernel
theorem dX8_takesNumber_67 : decode cX8_takesNumber 67 = .ok (.putfield 108, 3) := by decide +kernel
theorem dX8_takesNumber_70 : decode cX8_takesNumber 70 = .ok (.iinc 3 1, 3) := by decide +kernel
theorem dX8_takesNumber_73 : decode cX8_takesNumber 73 = .ok (.goto (-53), 3) := by decide +kernel
theorem dX8_takesNumber_76 : decode cX8_takesNumber 76 = .ok (.iload_n 3, 1) := by decide +kernel
theorem dX8_takesNumber_77 : decode cX8_takesNumber 77 = .ok (.ifCond .eq 8, 3) := by decide +kernel
theorem dX8_takesNumber_80 : decode cX8_takesNumber 80 = .ok (.iload_n 3, 1) := by decide +kernel
theorem dX8_takesNumber_81 : decode cX8_takesNumber 81 = .ok (.iconst 2, 1) := by decide +kernel
theorem dX8_takesNumber_82 : decode cX8_takesNumber 82 = .ok (.if_icmp .le 5, 3) := by decide +kernel
theorem dX8_takesNumber_85 : decode cX8_takesNumber 85 = .ok (.iconst 0, 1) := by decide +kernel
theorem dX8_takesNumber_86 : decode cX8_takesNumber 86 = .ok (.ireturn, 1) := by decide +kernel
theorem dX8_takesNumber_87 : decode cX8_takesNumber 87 = .ok (.aload_n 0, 1) := by decide +kernel
theorem dX8_takesNumber_88 : decode cX8_takesNumber 88 = .ok (.dup, 1) := by decide +kernel
theorem dX8_takesNumber_89 : decode cX8_takesNumber 89 = .ok (.getfield 99, 3) := by decide +kernel
theorem dX8_takesNumber_92 : decode cX8_takesNumber 92 = .ok (.iload_n 3, 1) := by decide +kernel
theorem dX8_takesNumber_93 : decode cX8_takesNumber 93 = .ok (.iadd, 1) := by decide +kernel
theorem dX8_takesNumber_94 : decode cX8_takesNumber 94 = .ok (.putfield 99, 3) := by decide +kernel
theorem dX8_takesNumber_97 : decode cX8_takesNumber 97 = .ok (.aload_n 0, 1) := by decide +kernel
theorem dX8_takesNumber_98 : decode cX8_takesNumber 98 = .ok (.iconst 2, 1) := by decide +kernel
theorem dX8_takesNumber_99 : decode cX8_takesNumber 99 = .ok (.putfield 105, 3) := by decide +kernel
theorem dX8_takesNumber_102 : decode cX8_takesNumber 102 = .ok (.aload_n 0, 1) := by decide +kernel
theorem dX8_takesNumber_103 : decode cX8_takesNumber 103 = .ok (.getfield 108, 3) := by decide +kernel
theorem dX8_takesNumber_106 : decode cX8_takesNumber 106 = .ok (.i2l, 1) := by decide +kernel
theorem dX8_takesNumber_107 : decode cX8_takesNumber 107 = .ok (.iload_n 1, 1) := by decide +kernel
theorem dX8_takesNumber_108 : decode cX8_takesNumber 108 = .ok (.i2l, 1) := by decide +kernel
theorem dX8_takesNumber_109 : decode cX8_takesNumber 109 = .ok (.iload_n 2, 1) := by decide +kernel
theorem dX8_takesNumber_110 : decode cX8_takesNumber 110 = .ok (.i2l, 1) := by decide +kernel
theorem dX8_takesNumber_111 : decode cX8_takesNumber 111 = .ok (.invokestatic 60, 3) := by decide +kernel
theorem dX8_takesNumber_114 : decode cX8_takesNumber 114 = .ok (.ireturn, 1) := by decide +kernel
theorem dX8_isMore_0 : decode cX8_isMore 0 = .ok (.aload_n 0, 1) := by decide +kernel
theorem dX8_isMore_1 : decode cX8_isMore 1 = .ok (.aload_n 0, 1) := by decide +kernel
theorem dX8_isMore_2 : decode cX8_isMore 2 = .ok (.getfield 99, 3) := by decide +kernel
theorem dX8_isMore_5 : decode cX8_isMore 5 = .ok (.iconst 1, 1) := by decide +kernel
theorem dX8_isMore_6 : decode cX8_isMore 6 = .ok (.isub, 1) := by decide +kernel
theorem dX8_isMore_7 : decode cX8_isMore 7 = .ok (.putfield 102, 3) := by decide +kernel
theorem dX8_isMore_10 : decode cX8_isMore 10 = .ok (.aload_n 0, 1) := by decide +kernel
theorem dX8_isMore_11 : decode cX8_isMore 11 = .ok (.iconst 3, 1) := by decide +kernel
theorem dX8_isMore_12 : decode cX8_isMore 12 = .ok (.putfield 105, 3) := by decide +kernel
theorem dX8_isMore_15 : decode cX8_isMore 15 = .ok (.iconst 0, 1) := by decide +kernel
theorem dX8_isMore_16 : decode cX8_isMore 16 = .ok (.ireturn, 1) := by decide +kernel
theorem dX8_takesLaw_0 : decode cX8_takesLaw 0 = .ok (.aload_n 0, 1) := by decide +kernel
theorem dX8_takesLaw_1 : decode cX8_takesLaw 1 = .ok (.bipush 98, 2) := by decide +kernel
theorem dX8_takesLaw_3 : decode cX8_takesLaw 3 = .ok (.invokevirtual 114, 3) := by decide +kernel
theorem dX8_takesLaw_6 : decode cX8_takesLaw 6 = .ok (.ifCond .ne 5, 3) := by decide +kernel
theorem dX8_takesLaw_9 : decode cX8_takesLaw 9 = .ok (.iconst 0, 1) := by decide +kernel
theorem dX8_takesLaw_10 : decode cX8_takesLaw 10 = .ok (.ireturn, 1) := by decide +kernel
theorem dX8_takesLaw_11 : decode cX8_takesLaw 11 = .ok (.iconst 0, 1) := by decide +kernel
theorem dX8_takesLaw_12 : decode cX8_takesLaw 12 = .ok (.istore_n 1, 1) := by decide +kernel
theorem dX8_takesLaw_13 : decode cX8_takesLaw 13 = .ok (.iload_n 1, 1) := by decide +kernel
theorem dX8_takesLaw_14 : decode cX8_takesLaw 14 = .ok (.iconst 4, 1) := by decide +kernel
theorem dX8_takesLaw_15 : decode cX8_takesLaw 15 = .ok (.if_icmp .ge 76, 3) := by decide +kernel
theorem dX8_takesLaw_18 : decode cX8_takesLaw 18 = .ok (.aload_n 0, 1) := by decide +kernel
theorem dX8_takesLaw_19 : decode cX8_takesLaw 19 = .ok (.iload_n 1, 1) := by decide +kernel
theorem dX8_takesLaw_20 : decode cX8_takesLaw 20 = .ok (.iconst 3, 1) := by decide +kernel
theorem dX8_takesLaw_21 : decode cX8_takesLaw 21 = .ok (.if_icmp .ge 7, 3) := by decide +kernel
theorem dX8_takesLaw_24 : decode cX8_takesLaw 24 = .ok (.iconst 0, 1) := by decide +kernel
theorem dX8_takesLaw_25 : decode cX8_takesLaw 25 = .ok (.goto 5, 3) := by decide +kernel
theorem dX8_takesLaw_28 : decode cX8_takesLaw 28 = .ok (.bipush 40, 2) := by decide +kernel
theorem dX8_takesLaw_30 : decode cX8_takesLaw 30 = .ok (.iload_n 1, 1) := by decide +kernel
theorem dX8_takesLaw_31 : decode cX8_takesLaw 31 = .ok (.iconst 3, 1) := by decide +kernel
theorem dX8_takesLaw_32 : decode cX8_takesLaw 32 = .ok (.if_icmp .ge 8, 3) := by decide +kernel
theorem dX8_takesLaw_35 : decode cX8_takesLaw 35 = .ok (.bipush 20, 2) := by decide +kernel
theorem dX8_takesLaw_37 : decode cX8_takesLaw 37 = .ok (.goto 5, 3) := by decide +kernel
theorem dX8_takesLaw_40 : decode cX8_takesLaw 40 = .ok (.bipush 99, 2) := by decide +kernel
theorem dX8_takesLaw_42 : decode cX8_takesLaw 42 = .ok (.invokevirtual 117, 3) := by decide +kernel
theorem dX8_takesLaw_45 : decode cX8_takesLaw 45 = .ok (.ifCond .ne 5, 3) := by decide +kernel
theorem dX8_takesLaw_48 : decode cX8_takesLaw 48 = .ok (.iconst 0, 1) := by decide +kernel
theorem dX8_takesLaw_49 : decode cX8_takesLaw 49 = .ok (.ireturn, 1) := by decide +kernel
theorem dX8_takesLaw_50 : decode cX8_takesLaw 50 = .ok (.aload_n 0, 1) := by decide +kernel
theorem dX8_takesLaw_51 : decode cX8_takesLaw 51 = .ok (.getfield 7, 3) := by decide +kernel
theorem dX8_takesLaw_54 : decode cX8_takesLaw 54 = .ok (.sipush 183, 3) := by decide +kernel
theorem dX8_takesLaw_57 : decode cX8_takesLaw 57 = .ok (.iload_n 1, 1) := by decide +kernel
theorem dX8_takesLaw_58 : decode cX8_takesLaw 58 = .ok (.iadd, 1) := by decide +kernel
theorem dX8_takesLaw_59 : decode cX8_takesLaw 59 = .ok (.aload_n 0, 1) := by decide +kernel
theorem dX8_takesLaw_60 : decode cX8_takesLaw 60 = .ok (.getfield 108, 3) := by decide +kernel
theorem dX8_takesLaw_63 : decode cX8_takesLaw 63 = .ok (.iastore, 1) := by decide +kernel
theorem dX8_takesLaw_64 : decode cX8_takesLaw 64 = .ok (.aload_n 0, 1) := by decide +kernel
theorem dX8_takesLaw_65 : decode cX8_takesLaw 65 = .ok (.iload_n 1, 1) := by decide +kernel
theorem dX8_takesLaw_66 : decode cX8_takesLaw 66 = .ok (.iconst 3, 1) := by decide +kernel
theorem dX8_takesLaw_67 : decode cX8_takesLaw 67 = .ok (.if_icmp .ge 8, 3) := by decide +kernel
theorem dX8_takesLaw_70 : decode cX8_takesLaw 70 = .ok (.bipush 44, 2) := by decide +kernel
theorem dX8_takesLaw_72 : decode cX8_takesLaw 72 = .ok (.goto 5, 3) := by decide +kernel
theorem dX8_takesLaw_75 : decode cX8_takesLaw 75 = .ok (.bipush 59, 2) := by decide +kernel
theorem dX8_takesLaw_77 : decode cX8_takesLaw 77 = .ok (.invokevirtual 114, 3) := by decide +kernel
theorem dX8_takesLaw_80 : decode cX8_takesLaw 80 = .ok (.ifCond .ne 5, 3) := by decide +kernel
theorem dX8_takesLaw_83 : decode cX8_takesLaw 83 = .ok (.iconst 0, 1) := by decide +kernel
theorem dX8_takesLaw_84 : decode cX8_takesLaw 84 = .ok (.ireturn, 1) := by decide +kernel
theorem dX8_takesLaw_85 : decode cX8_takesLaw 85 = .ok (.iinc 1 1, 3) := by decide +kernel
theorem dX8_takesLaw_88 : decode cX8_takesLaw 88 = .ok (.goto (-75), 3) := by decide +kernel
theorem dX8_takesLaw_91 : decode cX8_takesLaw 91 = .ok (.iconst 1, 1) := by decide +kernel
theorem dX8_takesLaw_92 : decode cX8_takesLaw 92 = .ok (.ireturn, 1) := by decide +kernel
theorem dX8_barOf_0 : decode cX8_barOf 0 = .ok (.iload_n 0, 1) := by decide +kernel
theorem dX8_barOf_1 : decode cX8_barOf 1 = .ok (.bipush 101, 2) := by decide +kernel
theorem dX8_barOf_3 : decode cX8_barOf 3 = .ok (.if_icmp .ne 7, 3) := by decide +kernel
theorem dX8_barOf_6 : decode cX8_barOf 6 = .ok (.iconst 0, 1) := by decide +kernel
theorem dX8_barOf_7 : decode cX8_barOf 7 = .ok (.goto 44, 3) := by decide +kernel
theorem dX8_barOf_10 : decode cX8_barOf 10 = .ok (.iload_n 0, 1) := by decide +kernel
theorem dX8_barOf_11 : decode cX8_barOf 11 = .ok (.bipush 102, 2) := by decide +kernel
theorem dX8_barOf_13 : decode cX8_barOf 13 = .ok (.if_icmp .ne 7, 3) := by decide +kernel
theorem dX8_barOf_16 : decode cX8_barOf 16 = .ok (.iconst 1, 1) := by decide +kernel
theorem dX8_barOf_17 : decode cX8_barOf 17 = .ok (.goto 34, 3) := by decide +kernel
theorem dX8_barOf_20 : decode cX8_barOf 20 = .ok (.iload_n 0, 1) := by decide +kernel
theorem dX8_barOf_21 : decode cX8_barOf 21 = .ok (.bipush 113, 2) := by decide +kernel
theorem dX8_barOf_23 : decode cX8_barOf 23 = .ok (.if_icmp .ne 7, 3) := by decide +kernel
theorem dX8_barOf_26 : decode cX8_barOf 26 = .ok (.iconst 2, 1) := by decide +kernel
theorem dX8_barOf_27 : decode cX8_barOf 27 = .ok (.goto 24, 3) := by decide +kernel
theorem dX8_barOf_30 : decode cX8_barOf 30 = .ok (.iload_n 0, 1) := by decide +kernel
theorem dX8_barOf_31 : decode cX8_barOf 31 = .ok (.bipush 99, 2) := by decide +kernel
theorem dX8_barOf_33 : decode cX8_barOf 33 = .ok (.if_icmp .ne 7, 3) := by decide +kernel
theorem dX8_barOf_36 : decode cX8_barOf 36 = .ok (.iconst 3, 1) := by decide +kernel
theorem dX8_barOf_37 : decode cX8_barOf 37 = .ok (.goto 14, 3) := by decide +kernel
theorem dX8_barOf_40 : decode cX8_barOf 40 = .ok (.iload_n 0, 1) := by decide +kernel
theorem dX8_barOf_41 : decode cX8_barOf 41 = .ok (.bipush 104, 2) := by decide +kernel
theorem dX8_barOf_43 : decode cX8_barOf 43 = .ok (.if_icmp .ne 7, 3) := by decide +kernel
theorem dX8_barOf_46 : decode cX8_barOf 46 = .ok (.iconst 4, 1) := by decide +kernel
theorem dX8_barOf_47 : decode cX8_barOf 47 = .ok (.goto 4, 3) := by decide +kernel
theorem dX8_barOf_50 : decode cX8_barOf 50 = .ok (.iconst (-1), 1) := by decide +kernel
theorem dX8_barOf_51 : decode cX8_barOf 51 = .ok (.ireturn, 1) := by decide +kernel
theorem dX8_takesSong_0 : decode cX8_takesSong 0 = .ok (.aload_n 0, 1) := by decide +kernel
theorem dX8_takesSong_1 : decode cX8_takesSong 1 = .ok (.bipush 122, 2) := by decide +kernel
theorem dX8_takesSong_3 : decode cX8_takesSong 3 = .ok (.invokevirtual 114, 3) := by decide +kernel
theorem dX8_takesSong_6 : decode cX8_takesSong 6 = .ok (.ifCond .ne 5, 3) := by decide +kernel
theorem dX8_takesSong_9 : decode cX8_takesSong 9 = .ok (.iconst 0, 1) := by decide +kernel
theorem dX8_takesSong_10 : decode cX8_takesSong 10 = .ok (.ireturn, 1) := by decide +kernel
theorem dX8_takesSong_11 : decode cX8_takesSong 11 = .ok (.aload_n 0, 1) := by decide +kernel
theorem dX8_takesSong_12 : decode cX8_takesSong 12 = .ok (.aload_n 0, 1) := by decide +kernel
theorem dX8_takesSong_13 : decode cX8_takesSong 13 = .ok (.getfield 99, 3) := by decide +kernel
theorem dX8_takesSong_16 : decode cX8_takesSong 16 = .ok (.invokevirtual 92, 3) := by decide +kernel
theorem dX8_takesSong_19 : decode cX8_takesSong 19 = .ok (.invokestatic 121, 3) := by decide +kernel
theorem dX8_takesSong_22 : decode cX8_takesSong 22 = .ok (.ifCond .lt 76, 3) := by decide +kernel
theorem dX8_takesSong_25 : decode cX8_takesSong 25 = .ok (.aload_n 0, 1) := by decide +kernel
theorem dX8_takesSong_26 : decode cX8_takesSong 26 = .ok (.dup, 1) := by decide +kernel
theorem dX8_takesSong_27 : decode cX8_takesSong 27 = .ok (.getfield 99, 3) := by decide +kernel
theorem dX8_takesSong_30 : decode cX8_takesSong 30 = .ok (.iconst 1, 1) := by decide +kernel
theorem dX8_takesSong_31 : decode cX8_takesSong 31 = .ok (.iadd, 1) := by decide +kernel
theorem dX8_takesSong_32 : decode cX8_takesSong 32 = .ok (.putfield 99, 3) := by decide +kernel
theorem dX8_takesSong_35 : decode cX8_takesSong 35 = .ok (.aload_n 0, 1) := by decide +kernel
theorem dX8_takesSong_36 : decode cX8_takesSong 36 = .ok (.getfield 7, 3) := by decide +kernel
theorem dX8_takesSong_39 : decode cX8_takesSong 39 = .ok (.sipush 187, 3) := by decide +kernel
theorem dX8_takesSong_42 : decode cX8_takesSong 42 = .ok (.iaload, 1) := by decide +kernel
theorem dX8_takesSong_43 : decode cX8_takesSong 43 = .ok (.bipush 12, 2) := by decide +kernel
theorem dX8_takesSong_45 : decode cX8_takesSong 45 = .ok (.if_icmp .ne 8, 3) := by decide +kernel
theorem dX8_takesSong_48 : decode cX8_takesSong 48 = .ok (.aload_n 0, 1) := by decide +kernel
theorem dX8_takesSong_49 : decode cX8_takesSong 49 = .ok (.invokevirtual 124, 3) := by decide +kernel
theorem dX8_takesSong_52 : decode cX8_takesSong 52 = .ok (.ireturn, 1) := by decide +kernel
theorem dX8_takesSong_53 : decode cX8_takesSong 53 = .ok (.aload_n 0, 1) := by decide +kernel
theorem dX8_takesSong_54 : decode cX8_takesSong 54 = .ok (.getfield 7, 3) := by decide +kernel
theorem dX8_takesSong_57 : decode cX8_takesSong 57 = .ok (.sipush 192, 3) := by decide +kernel
theorem dX8_takesSong_60 : decode cX8_takesSong 60 = .ok (.aload_n 0, 1) := by decide +kernel
theorem dX8_takesSong_61 : decode cX8_takesSong 61 = .ok (.getfield 7, 3) := by decide +kernel
theorem dX8_takesSong_64 : decode cX8_takesSong 64 = .ok (.sipush 187, 3) := by decide +kernel
theorem dX8_takesSong_67 : decode cX8_takesSong 67 = .ok (.iaload, 1) := by decide +kernel
theorem dX8_takesSong_68 : decode cX8_takesSong 68 = .ok (.iadd, 1) := by decide +kernel
theorem dX8_takesSong_69 : decode cX8_takesSong 69 = .ok (.aload_n 0, 1) := by decide +kernel
theorem dX8_takesSong_70 : decode cX8_takesSong 70 = .ok (.aload_n 0, 1) := by decide +kernel
theorem dX8_takesSong_71 : decode cX8_takesSong 71 = .ok (.getfield 99, 3) := by decide +kernel
theorem dX8_takesSong_74 : decode cX8_takesSong 74 = .ok (.iconst 1, 1) := by decide +kernel
theorem dX8_takesSong_75 : decode cX8_takesSong 75 = .ok (.isub, 1) := by decide +kernel
theorem dX8_takesSong_76 : decode cX8_takesSong 76 = .ok (.invokevirtual 92, 3) := by decide +kernel
theorem dX8_takesSong_79 : decode cX8_takesSong 79 = .ok (.invokestatic 121, 3) := by decide +kernel
theorem dX8_takesSong_82 : decode cX8_takesSong 82 = .ok (.iastore, 1) := by decide +kernel
theorem dX8_takesSong_83 : decode cX8_takesSong 83 = .ok (.aload_n 0, 1) := by decide +kernel
theorem dX8_takesSong_84 : decode cX8_takesSong 84 = .ok (.getfield 7, 3) := by decide +kernel
theorem dX8_takesSong_87 : decode cX8_takesSong 87 = .ok (.sipush 187, 3) := by decide +kernel
theorem dX8_takesSong_90 : decode cX8_takesSong 90 = .ok (.dup2, 1) := by decide +kernel
theorem dX8_takesSong_91 : decode cX8_takesSong 91 = .ok (.iaload, 1) := by decide +kernel
theorem dX8_takesSong_92 : decode cX8_takesSong 92 = .ok (.iconst 1, 1) := by decide +kernel
theorem dX8_takesSong_93 : decode cX8_takesSong 93 = .ok (.iadd, 1) := by decide +kernel
theorem dX8_takesSong_94 : decode cX8_takesSong 94 = .ok (.iastore, 1) := by decide +kernel
theorem dX8_takesSong_95 : decode cX8_takesSong 95 = .ok (.goto (-84), 3) := by decide +kernel
theorem dX8_takesSong_98 : decode cX8_takesSong 98 = .ok (.aload_n 0, 1) := by decide +kernel
theorem dX8_takesSong_99 : decode cX8_takesSong 99 = .ok (.aload_n 0, 1) := by decide +kernel
theorem dX8_takesSong_100 : decode cX8_takesSong 100 = .ok (.getfield 99, 3) := by decide +kernel
theorem dX8_takesSong_103 : decode cX8_takesSong 103 = .ok (.putfield 102, 3) := by decide +kernel
theorem dX8_takesSong_106 : decode cX8_takesSong 106 = .ok (.aload_n 0, 1) := by decide +kernel
theorem dX8_takesSong_107 : decode cX8_takesSong 107 = .ok (.iconst 1, 1) := by decide +kernel
theorem dX8_takesSong_108 : decode cX8_takesSong 108 = .ok (.putfield 105, 3) := by decide +kernel
theorem dX8_takesSong_111 : decode cX8_takesSong 111 = .ok (.aload_n 0, 1) := by decide +kernel
theorem dX8_takesSong_112 : decode cX8_takesSong 112 = .ok (.getfield 7, 3) := by decide +kernel
theorem dX8_takesSong_115 : decode cX8_takesSong 115 = .ok (.sipush 187, 3) := by decide +kernel
theorem dX8_takesSong_118 : decode cX8_takesSong 118 = .ok (.iaload, 1) := by decide +kernel
theorem dX8_takesSong_119 : decode cX8_takesSong 119 = .ok (.ifCond .le 16, 3) := by decide +kernel
theorem dX8_takesSong_122 : decode cX8_takesSong 122 = .ok (.aload_n 0, 1) := by decide +kernel
theorem dX8_takesSong_123 : decode cX8_takesSong 123 = .ok (.bipush 59, 2) := by decide +kernel
theorem dX8_takesSong_125 : decode cX8_takesSong 125 = .ok (.invokevirtual 114, 3) := by decide +kernel
theorem dX8_takesSong_128 : decode cX8_takesSong 128 = .ok (.ifCond .eq 7, 3) := by decide +kernel
theorem dX8_takesSong_131 : decode cX8_takesSong 131 = .ok (.iconst 1, 1) := by decide +kernel
theorem dX8_takesSong_132 : decode cX8_takesSong 132 = .ok (.goto 4, 3) := by decide +kernel
theorem dX8_takesSong_135 : decode cX8_takesSong 135 = .ok (.iconst 0, 1) := by decide +kernel
theorem dX8_takesSong_136 : decode cX8_takesSong 136 = .ok (.ireturn, 1) := by decide +kernel
theorem dX8_sortOf_0 : decode cX8_sortOf 0 = .ok (.iload_n 0, 1) := by decide +kernel
theorem dX8_sortOf_1 : decode cX8_sortOf 1 = .ok (.bipush 116, 2) := by decide +kernel
theorem dX8_sortOf_3 : decode cX8_sortOf 3 = .ok (.if_icmp .ne 7, 3) := by decide +kernel
theorem dX8_sortOf_6 : decode cX8_sortOf 6 = .ok (.iconst 1, 1) := by decide +kernel
theorem dX8_sortOf_7 : decode cX8_sortOf 7 = .ok (.goto 44, 3) := by decide +kernel
theorem dX8_sortOf_10 : decode cX8_sortOf 10 = .ok (.iload_n 0, 1) := by decide +kernel
theorem dX8_sortOf_11 : decode cX8_sortOf 11 = .ok (.bipush 114, 2) := by decide +kernel
theorem dX8_sortOf_13 : decode cX8_sortOf 13 = .ok (.if_icmp .ne 7, 3) := by decide +kernel
theorem dX8_sortOf_16 : decode cX8_sortOf 16 = .ok (.iconst 2, 1) := by decide +kernel
theorem dX8_sortOf_17 : decode cX8_sortOf 17 = .ok (.goto 34, 3) := by decide +kernel
theorem dX8_sortOf_20 : decode cX8_sortOf 20 = .ok (.iload_n 0, 1) := by decide +kernel
theorem dX8_sortOf_21 : decode cX8_sortOf 21 = .ok (.bipush 100, 2) := by decide +kernel
theorem dX8_sortOf_23 : decode cX8_sortOf 23 = .ok (.if_icmp .ne 7, 3) := by decide +kernel
theorem dX8_sortOf_26 : decode cX8_sortOf 26 = .ok (.iconst 3, 1) := by decide +kernel
theorem dX8_sortOf_27 : decode cX8_sortOf 27 = .ok (.goto 24, 3) := by decide +kernel
theorem dX8_sortOf_30 : decode cX8_sortOf 30 = .ok (.iload_n 0, 1) := by decide +kernel
theorem dX8_sortOf_31 : decode cX8_sortOf 31 = .ok (.bipush 107, 2) := by decide +kernel
theorem dX8_sortOf_33 : decode cX8_sortOf 33 = .ok (.if_icmp .ne 7, 3) := by decide +kernel
theorem dX8_sortOf_36 : decode cX8_sortOf 36 = .ok (.iconst 4, 1) := by decide +kernel
theorem dX8_sortOf_37 : decode cX8_sortOf 37 = .ok (.goto 14, 3) := by decide +kernel
theorem dX8_sortOf_40 : decode cX8_sortOf 40 = .ok (.iload_n 0, 1) := by decide +kernel
theorem dX8_sortOf_41 : decode cX8_sortOf 41 = .ok (.bipush 108, 2) := by decide +kernel
theorem dX8_sortOf_43 : decode cX8_sortOf 43 = .ok (.if_icmp .ne 7, 3) := by decide +kernel
theorem dX8_sortOf_46 : decode cX8_sortOf 46 = .ok (.iconst 5, 1) := by decide +kernel
theorem dX8_sortOf_47 : decode cX8_sortOf 47 = .ok (.goto 4, 3) := by decide +kernel
theorem dX8_sortOf_50 : decode cX8_sortOf 50 = .ok (.iconst 0, 1) := by decide +kernel
theorem dX8_sortOf_51 : decode cX8_sortOf 51 = .ok (.ireturn, 1) := by decide +kernel
theorem dX8_takesPlayer_0 : decode cX8_takesPlayer 0 = .ok (.aload_n 0, 1) := by decide +kernel
theorem dX8_takesPlayer_1 : decode cX8_takesPlayer 1 = .ok (.aload_n 0, 1) := by decide +kernel
theorem dX8_takesPlayer_2 : decode cX8_takesPlayer 2 = .ok (.getfield 99, 3) := by decide +kernel
theorem dX8_takesPlayer_5 : decode cX8_takesPlayer 5 = .ok (.putfield 102, 3) := by decide +kernel
theorem dX8_takesPlayer_8 : decode cX8_takesPlayer 8 = .ok (.aload_n 0, 1) := by decide +kernel
theorem dX8_takesPlayer_9 : decode cX8_takesPlayer 9 = .ok (.iconst 1, 1) := by decide +kernel
theorem dX8_takesPlayer_10 : decode cX8_takesPlayer 10 = .ok (.putfield 105, 3) := by decide +kernel
theorem dX8_takesPlayer_13 : decode cX8_takesPlayer 13 = .ok (.aload_n 0, 1) := by decide +kernel
theorem dX8_takesPlayer_14 : decode cX8_takesPlayer 14 = .ok (.aload_n 0, 1) := by decide +kernel
theorem dX8_takesPlayer_15 : decode cX8_takesPlayer 15 = .ok (.getfield 99, 3) := by decide +kernel
theorem dX8_takesPlayer_18 : decode cX8_takesPlayer 18 = .ok (.invokevirtual 92, 3) := by decide +kernel
theorem dX8_takesPlayer_21 : decode cX8_takesPlayer 21 = .ok (.invokestatic 128, 3) := by decide +kernel
theorem dX8_takesPlayer_24 : decode cX8_takesPlayer 24 = .ok (.istore_n 1, 1) := by decide +kernel
theorem dX8_takesPlayer_25 : decode cX8_takesPlayer 25 = .ok (.iload_n 1, 1) := by decide +kernel
theorem dX8_takesPlayer_26 : decode cX8_takesPlayer 26 = .ok (.ifCond .ne 5, 3) := by decide +kernel
theorem dX8_takesPlayer_29 : decode cX8_takesPlayer 29 = .ok (.iconst 0, 1) := by decide +kernel
theorem dX8_takesPlayer_30 : decode cX8_takesPlayer 30 = .ok (.ireturn, 1) := by decide +kernel
theorem dX8_takesPlayer_31 : decode cX8_takesPlayer 31 = .ok (.aload_n 0, 1) := by decide +kernel
theorem dX8_takesPlayer_32 : decode cX8_takesPlayer 32 = .ok (.dup, 1) := by decide +kernel
theorem dX8_takesPlayer_33 : decode cX8_takesPlayer 33 = .ok (.getfield 99, 3) := by decide +kernel
theorem dX8_takesPlayer_36 : decode cX8_takesPlayer 36 = .ok (.iconst 1, 1) := by decide +kernel
theorem dX8_takesPlayer_37 : decode cX8_takesPlayer 37 = .ok (.iadd, 1) := by decide +kernel
theorem dX8_takesPlayer_38 : decode cX8_takesPlayer 38 = .ok (.putfield 99, 3) := by decide +kernel
theorem dX8_takesPlayer_41 : decode cX8_takesPlayer 41 = .ok (.aload_n 0, 1) := by decide +kernel
theorem dX8_takesPlayer_42 : decode cX8_takesPlayer 42 = .ok (.getfield 7, 3) := by decide +kernel
theorem dX8_takesPlayer_45 : decode cX8_takesPlayer 45 = .ok (.sipush 188, 3) := by decide +kernel
theorem dX8_takesPlayer_48 : decode cX8_takesPlayer 48 = .ok (.iaload, 1) := by decide +kernel
theorem dX8_takesPlayer_49 : decode cX8_takesPlayer 49 = .ok (.istore_n 2, 1) := by decide +kernel
theorem dX8_takesPlayer_50 : decode cX8_takesPlayer 50 = .ok (.iload_n 2, 1) := by decide +kernel
theorem dX8_takesPlayer_51 : decode cX8_takesPlayer 51 = .ok (.iconst 5, 1) := by decide +kernel
theorem dX8_takesPlayer_52 : decode cX8_takesPlayer 52 = .ok (.if_icmp .ne 8, 3) := by decide +kernel
theorem dX8_takesPlayer_55 : decode cX8_takesPlayer 55 = .ok (.aload_n 0, 1) := by decide +kernel
theorem dX8_takesPlayer_56 : decode cX8_takesPlayer 56 = .ok (.invokevirtual 124, 3) := by decide +kernel
theorem dX8_takesPlayer_59 : decode cX8_takesPlayer 59 = .ok (.ireturn, 1) := by decide +kernel
theorem dX8_takesPlayer_60 : decode cX8_takesPlayer 60 = .ok (.aload_n 0, 1) := by decide +kernel
theorem dX8_takesPlayer_61 : decode cX8_takesPlayer 61 = .ok (.getfield 7, 3) := by decide +kernel
theorem dX8_takesPlayer_64 : decode cX8_takesPlayer 64 = .ok (.sipush 204, 3) := by decide +kernel
theorem dX8_takesPlayer_67 : decode cX8_takesPlayer 67 = .ok (.iload_n 2, 1) := by decide +kernel
theorem dX8_takesPlayer_68 : decode cX8_takesPlayer 68 = .ok (.iadd, 1) := by decide +kernel
theorem dX8_takesPlayer_69 : decode cX8_takesPlayer 69 = .ok (.iload_n 1, 1) := by decide +kernel
theorem dX8_takesPlayer_70 : decode cX8_takesPlayer 70 = .ok (.iastore, 1) := by decide +kernel
theorem dX8_takesPlayer_71 : decode cX8_takesPlayer 71 = .ok (.aload_n 0, 1) := by decide +kernel
theorem dX8_takesPlayer_72 : decode cX8_takesPlayer 72 = .ok (.bipush 40, 2) := by decide +kernel
theorem dX8_takesPlayer_74 : decode cX8_takesPlayer 74 = .ok (.bipush 99, 2) := by decide +kernel
theorem dX8_takesPlayer_76 : decode cX8_takesPlayer 76 = .ok (.invokevirtual 117, 3) := by decide +kernel
theorem dX8_takesPlayer_79 : decode cX8_takesPlayer 79 = .ok (.ifCond .ne 5, 3) := by decide +kernel
theorem dX8_takesPlayer_82 : decode cX8_takesPlayer 82 = .ok (.iconst 0, 1) := by decide +kernel
theorem dX8_takesPlayer_83 : decode cX8_takesPlayer 83 = .ok (.ireturn, 1) := by decide +kernel
theorem dX8_takesPlayer_84 : decode cX8_takesPlayer 84 = .ok (.aload_n 0, 1) := by decide +kernel
theorem dX8_takesPlayer_85 : decode cX8_takesPlayer 85 = .ok (.getfield 7, 3) := by decide +kernel
theorem dX8_takesPlayer_88 : decode cX8_takesPlayer 88 = .ok (.sipush 209, 3) := by decide +kernel
theorem dX8_takesPlayer_91 : decode cX8_takesPlayer 91 = .ok (.iload_n 2, 1) := by decide +kernel
theorem dX8_takesPlayer_92 : decode cX8_takesPlayer 92 = .ok (.iadd, 1) := by decide +kernel
theorem dX8_takesPlayer_93 : decode cX8_takesPlayer 93 = .ok (.bipush 10, 2) := by decide +kernel
theorem dX8_takesPlayer_95 : decode cX8_takesPlayer 95 = .ok (.aload_n 0, 1) := by decide +kernel
theorem dX8_takesPlayer_96 : decode cX8_takesPlayer 96 = .ok (.getfield 108, 3) := by decide +kernel
theorem dX8_takesPlayer_99 : decode cX8_takesPlayer 99 = .ok (.imul, 1) := by decide +kernel
theorem dX8_takesPlayer_100 : decode cX8_takesPlayer 100 = .ok (.iastore, 1) := by decide +kernel
theorem dX8_takesPlayer_101 : decode cX8_takesPlayer 101 = .ok (.aload_n 0, 1) := by decide +kernel
theorem dX8_takesPlayer_102 : decode cX8_takesPlayer 102 = .ok (.bipush 44, 2) := by decide +kernel
theorem dX8_takesPlayer_104 : decode cX8_takesPlayer 104 = .ok (.invokevirtual 114, 3) := by decide +kernel
theorem dX8_takesPlayer_107 : decode cX8_takesPlayer 107 = .ok (.ifCond .eq 13, 3) := by decide +kernel
theorem dX8_takesPlayer_110 : decode cX8_takesPlayer 110 = .ok (.aload_n 0, 1) := by decide +kernel
theorem dX8_takesPlayer_111 : decode cX8_takesPlayer 111 = .ok (.iconst 0, 1) := by decide +kernel
theorem dX8_takesPlayer_112 : decode cX8_takesPlayer 112 = .ok (.bipush 9, 2) := by decide +kernel
theorem dX8_takesPlayer_114 : decode cX8_takesPlayer 114 = .ok (.invokevirtual 117, 3) := by decide +kernel
theorem dX8_takesPlayer_117 : decode cX8_takesPlayer 117 = .ok (.ifCond .ne 5, 3) := by decide +kernel
theorem dX8_takesPlayer_120 : decode cX8_takesPlayer 120 = .ok (.iconst 0, 1) := by decide +kernel
theorem dX8_takesPlayer_121 : decode cX8_takesPlayer 121 = .ok (.ireturn, 1) := by decide +kernel
theorem dX8_takesPlayer_122 : decode cX8_takesPlayer 122 = .ok (.aload_n 0, 1) := by decide +kernel
theorem dX8_takesPlayer_123 : decode cX8_takesPlayer 123 = .ok (.getfield 7, 3) := by decide +kernel
theorem dX8_takesPlayer_126 : decode cX8_takesPlayer 126 = .ok (.sipush 214, 3) := by decide +kernel
theorem dX8_takesPlayer_129 : decode cX8_takesPlayer 129 = .ok (.iload_n 2, 1) := by decide +kernel
theorem dX8_takesPlayer_130 : decode cX8_takesPlayer 130 = .ok (.iadd, 1) := by decide +kernel
theorem dX8_takesPlayer_131 : decode cX8_takesPlayer 131 = .ok (.aload_n 0, 1) := by decide +kernel
theorem dX8_takesPlayer_132 : decode cX8_takesPlayer 132 = .ok (.getfield 108, 3) := by decide +kernel
theorem dX8_takesPlayer_135 : decode cX8_takesPlayer 135 = .ok (.iastore, 1) := by decide +kernel
theorem dX8_takesPlayer_136 : decode cX8_takesPlayer 136 = .ok (.aload_n 0, 1) := by decide +kernel
theorem dX8_takesPlayer_137 : decode cX8_takesPlayer 137 = .ok (.getfield 7, 3) := by decide +kernel
theorem dX8_takesPlayer_140 : decode cX8_takesPlayer 140 = .ok (.sipush 188, 3) := by decide +kernel
theorem dX8_takesPlayer_143 : decode cX8_takesPlayer 143 = .ok (.dup2, 1) := by decide +kernel
theorem dX8_takesPlayer_144 : decode cX8_takesPlayer 144 = .ok (.iaload, 1) := by decide +kernel
theorem dX8_takesPlayer_145 : decode cX8_takesPlayer 145 = .ok (.iconst 1, 1) := by decide +kernel
theorem dX8_takesPlayer_146 : decode cX8_takesPlayer 146 = .ok (.iadd, 1) := by decide +kernel
theorem dX8_takesPlayer_147 : decode cX8_takesPlayer 147 = .ok (.iastore, 1) := by decide +kernel
theorem dX8_takesPlayer_148 : decode cX8_takesPlayer 148 = .ok (.aload_n 0, 1) := by decide +kernel
theorem dX8_takesPlayer_149 : decode cX8_takesPlayer 149 = .ok (.bipush 59, 2) := by decide +kernel
theorem dX8_takesPlayer_151 : decode cX8_takesPlayer 151 = .ok (.invokevirtual 114, 3) := by decide +kernel
theorem dX8_takesPlayer_154 : decode cX8_takesPlayer 154 = .ok (.ireturn, 1) := by decide +kernel
theorem dX8_takesEar_0 : decode cX8_takesEar 0 = .ok (.aload_n 0, 1) := by decide +kernel
theorem dX8_takesEar_1 : decode cX8_takesEar 1 = .ok (.bipush 119, 2) := by decide +kernel
theorem dX8_takesEar_3 : decode cX8_takesEar 3 = .ok (.invokevirtual 114, 3) := by decide +kernel
theorem dX8_takesEar_6 : decode cX8_takesEar 6 = .ok (.ifCond .ne 5, 3) := by decide +kernel
theorem dX8_takesEar_9 : decode cX8_takesEar 9 = .ok (.iconst 0, 1) := by decide +kernel
theorem dX8_takesEar_10 : decode cX8_takesEar 10 = .ok (.ireturn, 1) := by decide +kernel
theorem dX8_takesEar_11 : decode cX8_takesEar 11 = .ok (.aload_n 0, 1) := by decide +kernel
theorem dX8_takesEar_12 : decode cX8_takesEar 12 = .ok (.getfield 131, 3) := by decide +kernel
theorem dX8_takesEar_15 : decode cX8_takesEar 15 = .ok (.bipush 12, 2) := by decide +kernel
theorem dX8_takesEar_17 : decode cX8_takesEar 17 = .ok (.if_icmp .ne 8, 3) := by decide +kernel
theorem dX8_takesEar_20 : decode cX8_takesEar 20 = .ok (.aload_n 0, 1) := by decide +kernel
theorem dX8_takesEar_21 : decode cX8_takesEar 21 = .ok (.invokevirtual 124, 3) := by decide +kernel
theorem dX8_takesEar_24 : decode cX8_takesEar 24 = .ok (.ireturn, 1) := by decide +kernel
theorem dX8_takesEar_25 : decode cX8_takesEar 25 = .ok (.aload_n 0, 1) := by decide +kernel
theorem dX8_takesEar_26 : decode cX8_takesEar 26 = .ok (.getfield 7, 3) := by decide +kernel
theorem dX8_takesEar_29 : decode cX8_takesEar 29 = .ok (.sipush 188, 3) := by decide +kernel
theorem dX8_takesEar_32 : decode cX8_takesEar 32 = .ok (.iaload, 1) := by decide +kernel
theorem dX8_takesEar_33 : decode cX8_takesEar 33 = .ok (.istore_n 1, 1) := by decide +kernel
theorem dX8_takesEar_34 : decode cX8_takesEar 34 = .ok (.aload_n 0, 1) := by decide +kernel
theorem dX8_takesEar_35 : decode cX8_takesEar 35 = .ok (.iconst 0, 1) := by decide +kernel
theorem dX8_takesEar_36 : decode cX8_takesEar 36 = .ok (.iload_n 1, 1) := by decide +kernel
theorem dX8_takesEar_37 : decode cX8_takesEar 37 = .ok (.iconst 1, 1) := by decide +kernel
theorem dX8_takesEar_38 : decode cX8_takesEar 38 = .ok (.isub, 1) := by decide +kernel
theorem dX8_takesEar_39 : decode cX8_takesEar 39 = .ok (.invokevirtual 117, 3) := by decide +kernel
theorem dX8_takesEar_42 : decode cX8_takesEar 42 = .ok (.ifCond .ne 5, 3) := by decide +kernel
theorem dX8_takesEar_45 : decode cX8_takesEar 45 = .ok (.iconst 0, 1) := by decide +kernel
theorem dX8_takesEar_46 : decode cX8_takesEar 46 = .ok (.ireturn, 1) := by decide +kernel
theorem dX8_takesEar_47 : decode cX8_takesEar 47 = .ok (.aload_n 0, 1) := by decide +kernel
theorem dX8_takesEar_48 : decode cX8_takesEar 48 = .ok (.getfield 108, 3) := by decide +kernel
theorem dX8_takesEar_51 : decode cX8_takesEar 51 = .ok (.istore_n 2, 1) := by decide +kernel
theorem dX8_takesEar_52 : decode cX8_takesEar 52 = .ok (.aload_n 0, 1) := by decide +kernel
theorem dX8_takesEar_53 : decode cX8_takesEar 53 = .ok (.bipush 44, 2) := by decide +kernel
theorem dX8_takesEar_55 : decode cX8_takesEar 55 = .ok (.invokevirtual 114, 3) := by decide +kernel
theorem dX8_takesEar_58 : decode cX8_takesEar 58 = .ok (.ifCond .eq 42, 3) := by decide +kernel
theorem dX8_takesEar_61 : decode cX8_takesEar 61 = .ok (.aload_n 0, 1) := by decide +kernel
theorem dX8_takesEar_62 : decode cX8_takesEar 62 = .ok (.iconst 0, 1) := by decide +kernel
theorem dX8_takesEar_63 : decode cX8_takesEar 63 = .ok (.iload_n 1, 1) := by decide +kernel
theorem dX8_takesEar_64 : decode cX8_takesEar 64 = .ok (.iconst 1, 1) := by decide +kernel
theorem dX8_takesEar_65 : decode cX8_takesEar 65 = .ok (.isub, 1) := by decide +kernel
theorem dX8_takesEar_66 : decode cX8_takesEar 66 = .ok (.invokevirtual 117, 3) := by decide +kernel
theorem dX8_takesEar_69 : decode cX8_takesEar 69 = .ok (.ifCond .eq 31, 3) := by decide +kernel
theorem dX8_takesEar_72 : decode cX8_takesEar 72 = .ok (.aload_n 0, 1) := by decide +kernel
theorem dX8_takesEar_73 : decode cX8_takesEar 73 = .ok (.getfield 108, 3) := by decide +kernel
theorem dX8_takesEar_76 : decode cX8_takesEar 76 = .ok (.iload_n 2, 1) := by decide +kernel
theorem dX8_takesEar_77 : decode cX8_takesEar 77 = .ok (.if_icmp .eq 23, 3) := by decide +kernel
theorem dX8_takesEar_80 : decode cX8_takesEar 80 = .ok (.aload_n 0, 1) := by decide +kernel
theorem dX8_takesEar_81 : decode cX8_takesEar 81 = .ok (.getfield 7, 3) := by decide +kernel
theorem dX8_takesEar_84 : decode cX8_takesEar 84 = .ok (.sipush 219, 3) := by decide +kernel
theorem dX8_takesEar_87 : decode cX8_takesEar 87 = .ok (.iconst 5, 1) := by decide +kernel
theorem dX8_takesEar_88 : decode cX8_takesEar 88 = .ok (.iload_n 2, 1) := by decide +kernel
theorem dX8_takesEar_89 : decode cX8_takesEar 89 = .ok (.imul, 1) := by decide +kernel
theorem dX8_takesEar_90 : decode cX8_takesEar 90 = .ok (.iadd, 1) := by decide +kernel
theorem dX8_takesEar_91 : decode cX8_takesEar 91 = .ok (.aload_n 0, 1) := by decide +kernel
theorem dX8_takesEar_92 : decode cX8_takesEar 92 = .ok (.getfield 108, 3) := by decide +kernel
theorem dX8_takesEar_95 : decode cX8_takesEar 95 = .ok (.iadd, 1) := by decide +kernel
theorem dX8_takesEar_96 : decode cX8_takesEar 96 = .ok (.iaload, 1) := by decide +kernel
theorem dX8_takesEar_97 : decode cX8_takesEar 97 = .ok (.ifCond .le 5, 3) := by decide +kernel
theorem dX8_takesEar_100 : decode cX8_takesEar 100 = .ok (.iconst 0, 1) := by decide +kernel
theorem dX8_takesEar_101 : decode cX8_takesEar 101 = .ok (.ireturn, 1) := by decide +kernel
theorem dX8_takesEar_102 : decode cX8_takesEar 102 = .ok (.aload_n 0, 1) := by decide +kernel
theorem dX8_takesEar_103 : decode cX8_takesEar 103 = .ok (.getfield 108, 3) := by decide +kernel
theorem dX8_takesEar_106 : decode cX8_takesEar 106 = .ok (.istore_n 3, 1) := by decide +kernel
theorem dX8_takesEar_107 : decode cX8_takesEar 107 = .ok (.aload_n 0, 1) := by decide +kernel
theorem dX8_takesEar_108 : decode cX8_takesEar 108 = .ok (.bipush 44, 2) := by decide +kernel
theorem dX8_takesEar_110 : decode cX8_takesEar 110 = .ok (.invokevirtual 114, 3) := by decide +kernel
theorem dX8_takesEar_113 : decode cX8_takesEar 113 = .ok (.ifCond .eq 13, 3) := by decide +kernel
theorem dX8_takesEar_116 : decode cX8_takesEar 116 = .ok (.aload_n 0, 1) := by decide +kernel
theorem dX8_takesEar_117 : decode cX8_takesEar 117 = .ok (.iconst 1, 1) := by decide +kernel
theorem dX8_takesEar_118 : decode cX8_takesEar 118 = .ok (.bipush 9, 2) := by decide +kernel
theorem dX8_takesEar_120 : decode cX8_takesEar 120 = .ok (.invokevirtual 117, 3) := by decide +kernel
theorem dX8_takesEar_123 : decode cX8_takesEar 123 = .ok (.ifCond .ne 5, 3) := by decide +kernel
theorem dX8_takesEar_126 : decode cX8_takesEar 126 = .ok (.iconst 0, 1) := by decide +kernel
theorem dX8_takesEar_127 : decode cX8_takesEar 127 = .ok (.ireturn, 1) := by decide +kernel
theorem dX8_takesEar_128 : decode cX8_takesEar 128 = .ok (.aload_n 0, 1) := by decide +kernel
theorem dX8_takesEar_129 : decode cX8_takesEar 129 = .ok (.getfield 7, 3) := by decide +kernel
theorem dX8_takesEar_132 : decode cX8_takesEar 132 = .ok (.sipush 219, 3) := by decide +kernel
theorem dX8_takesEar_135 : decode cX8_takesEar 135 = .ok (.iconst 5, 1) := by decide +kernel
theorem dX8_takesEar_136 : decode cX8_takesEar 136 = .ok (.iload_n 2, 1) := by decide +kernel
theorem dX8_takesEar_137 : decode cX8_takesEar 137 = .ok (.imul, 1) := by decide +kernel
theorem dX8_takesEar_138 : decode cX8_takesEar 138 = .ok (.iadd, 1) := by decide +kernel
theorem dX8_takesEar_139 : decode cX8_takesEar 139 = .ok (.iload_n 3, 1) := by decide +kernel
theorem dX8_takesEar_140 : decode cX8_takesEar 140 = .ok (.iadd, 1) := by decide +kernel
theorem dX8_takesEar_141 : decode cX8_takesEar 141 = .ok (.aload_n 0, 1) := by decide +kernel
theorem dX8_takesEar_142 : decode cX8_takesEar 142 = .ok (.getfield 108, 3) := by decide +kernel
theorem dX8_takesEar_145 : decode cX8_takesEar 145 = .ok (.iastore, 1) := by decide +kernel
theorem dX8_takesEar_146 : decode cX8_takesEar 146 = .ok (.aload_n 0, 1) := by decide +kernel
theorem dX8_takesEar_147 : decode cX8_takesEar 147 = .ok (.dup, 1) := by decide +kernel
theorem dX8_takesEar_148 : decode cX8_takesEar 148 = .ok (.getfield 131, 3) := by decide +kernel
theorem dX8_takesEar_151 : decode cX8_takesEar 151 = .ok (.iconst 1, 1) := by decide +kernel
theorem dX8_takesEar_152 : decode cX8_takesEar 152 = .ok (.iadd, 1) := by decide +kernel
theorem dX8_takesEar_153 : decode cX8_takesEar 153 = .ok (.putfield 131, 3) := by decide +kernel
theorem dX8_takesEar_156 : decode cX8_takesEar 156 = .ok (.aload_n 0, 1) := by decide +kernel
theorem dX8_takesEar_157 : decode cX8_takesEar 157 = .ok (.bipush 59, 2) := by decide +kernel
theorem dX8_takesEar_159 : decode cX8_takesEar 159 = .ok (.invokevirtual 114, 3) := by decide +kernel
theorem dX8_takesEar_162 : decode cX8_takesEar 162 = .ok (.ireturn, 1) := by decide +kernel
theorem dX8_isBand_0 : decode cX8_isBand 0 = .ok (.iconst 0, 1) := by decide +kernel
theorem dX8_isBand_1 : decode cX8_isBand 1 = .ok (.istore_n 1, 1) := by decide +kernel
theorem dX8_isBand_2 : decode cX8_isBand 2 = .ok (.iload_n 1, 1) := by decide +kernel
theorem dX8_isBand_3 : decode cX8_isBand 3 = .ok (.bipush 61, 2) := by decide +kernel
theorem dX8_isBand_5 : decode cX8_isBand 5 = .ok (.if_icmp .ge 20, 3) := by decide +kernel
theorem dX8_isBand_8 : decode cX8_isBand 8 = .ok (.aload_n 0, 1) := by decide +kernel
theorem dX8_isBand_9 : decode cX8_isBand 9 = .ok (.getfield 7, 3) := by decide +kernel
theorem dX8_isBand_12 : decode cX8_isBand 12 = .ok (.sipush 183, 3) := by decide +kernel
theorem dX8_isBand_15 : decode cX8_isBand 15 = .ok (.iload_n 1, 1) := by decide +kernel
theorem dX8_isBand_16 : decode cX8_isBand 16 = .ok (.iadd, 1) := by decide +kernel
theorem dX8_isBand_17 : decode cX8_isBand 17 = .ok (.iconst 0, 1) := by decide +kernel
theorem dX8_isBand_18 : decode cX8_isBand 18 = .ok (.iastore, 1) := by decide +kernel
theorem dX8_isBand_19 : decode cX8_isBand 19 = .ok (.iinc 1 1, 3) := by decide +kernel
theorem dX8_isBand_22 : decode cX8_isBand 22 = .ok (.goto (-20), 3) := by decide +kernel
theorem dX8_isBand_25 : decode cX8_isBand 25 = .ok (.aload_n 0, 1) := by decide +kernel
theorem dX8_isBand_26 : decode cX8_isBand 26 = .ok (.iconst 0, 1) := by decide +kernel
theorem dX8_isBand_27 : decode cX8_isBand 27 = .ok (.putfield 99, 3) := by decide +kernel
theorem dX8_isBand_30 : decode cX8_isBand 30 = .ok (.aload_n 0, 1) := by decide +kernel
theorem dX8_isBand_31 : decode cX8_isBand 31 = .ok (.iconst 0, 1) := by decide +kernel
theorem dX8_isBand_32 : decode cX8_isBand 32 = .ok (.putfield 131, 3) := by decide +kernel
theorem dX8_isBand_35 : decode cX8_isBand 35 = .ok (.aload_n 0, 1) := by decide +kernel
theorem dX8_isBand_36 : decode cX8_isBand 36 = .ok (.invokevirtual 134, 3) := by decide +kernel
theorem dX8_isBand_39 : decode cX8_isBand 39 = .ok (.ifCond .eq 21, 3) := by decide +kernel
theorem dX8_isBand_42 : decode cX8_isBand 42 = .ok (.aload_n 0, 1) := by decide +kernel
theorem dX8_isBand_43 : decode cX8_isBand 43 = .ok (.invokevirtual 137, 3) := by decide +kernel
theorem dX8_isBand_46 : decode cX8_isBand 46 = .ok (.ifCond .eq 14, 3) := by decide +kernel
theorem dX8_isBand_49 : decode cX8_isBand 49 = .ok (.aload_n 0, 1) := by decide +kernel
theorem dX8_isBand_50 : decode cX8_isBand 50 = .ok (.invokevirtual 140, 3) := by decide +kernel
theorem dX8_isBand_53 : decode cX8_isBand 53 = .ok (.ifCond .eq 7, 3) := by decide +kernel
theorem dX8_isBand_56 : decode cX8_isBand 56 = .ok (.iconst 1, 1) := by decide +kernel
theorem dX8_isBand_57 : decode cX8_isBand 57 = .ok (.goto 4, 3) := by decide +kernel
theorem dX8_isBand_60 : decode cX8_isBand 60 = .ok (.iconst 0, 1) := by decide +kernel
theorem dX8_isBand_61 : decode cX8_isBand 61 = .ok (.istore_n 1, 1) := by decide +kernel
theorem dX8_isBand_62 : decode cX8_isBand 62 = .ok (.iload_n 1, 1) := by decide +kernel
theorem dX8_isBand_63 : decode cX8_isBand 63 = .ok (.ifCond .eq 25, 3) := by decide +kernel
theorem dX8_isBand_66 : decode cX8_isBand 66 = .ok (.aload_n 0, 1) := by decide +kernel
theorem dX8_isBand_67 : decode cX8_isBand 67 = .ok (.aload_n 0, 1) := by decide +kernel
theorem dX8_isBand_68 : decode cX8_isBand 68 = .ok (.getfield 99, 3) := by decide +kernel
theorem dX8_isBand_71 : decode cX8_isBand 71 = .ok (.invokevirtual 92, 3) := by decide +kernel
theorem dX8_isBand_74 : decode cX8_isBand 74 = .ok (.invokestatic 128, 3) := by decide +kernel
theorem dX8_isBand_77 : decode cX8_isBand 77 = .ok (.ifCond .le 11, 3) := by decide +kernel
theorem dX8_isBand_80 : decode cX8_isBand 80 = .ok (.aload_n 0, 1) := by decide +kernel
theorem dX8_isBand_81 : decode cX8_isBand 81 = .ok (.invokevirtual 140, 3) := by decide +kernel
theorem dX8_isBand_84 : decode cX8_isBand 84 = .ok (.istore_n 1, 1) := by decide +kernel
theorem dX8_isBand_85 : decode cX8_isBand 85 = .ok (.goto (-23), 3) := by decide +kernel
theorem dX8_isBand_88 : decode cX8_isBand 88 = .ok (.iload_n 1, 1) := by decide +kernel
theorem dX8_isBand_89 : decode cX8_isBand 89 = .ok (.ifCond .eq 22, 3) := by decide +kernel
theorem dX8_isBand_92 : decode cX8_isBand 92 = .ok (.aload_n 0, 1) := by decide +kernel
theorem dX8_isBand_93 : decode cX8_isBand 93 = .ok (.getfield 99, 3) := by decide +kernel
theorem dX8_isBand_96 : decode cX8_isBand 96 = .ok (.aload_n 0, 1) := by decide +kernel
theorem dX8_isBand_97 : decode cX8_isBand 97 = .ok (.getfield 88, 3) := by decide +kernel
theorem dX8_isBand_100 : decode cX8_isBand 100 = .ok (.if_icmp .ge 11, 3) := by decide +kernel
theorem dX8_isBand_103 : decode cX8_isBand 103 = .ok (.aload_n 0, 1) := by decide +kernel
theorem dX8_isBand_104 : decode cX8_isBand 104 = .ok (.invokevirtual 143, 3) := by decide +kernel
theorem dX8_isBand_107 : decode cX8_isBand 107 = .ok (.istore_n 1, 1) := by decide +kernel
theorem dX8_isBand_108 : decode cX8_isBand 108 = .ok (.goto (-20), 3) := by decide +kernel
theorem dX8_isBand_111 : decode cX8_isBand 111 = .ok (.iload_n 1, 1) := by decide +kernel
theorem dX8_isBand_112 : decode cX8_isBand 112 = .ok (.ireturn, 1) := by decide +kernel
theorem dX8_band_0 : decode cX8_band 0 = .ok (.aload_n 0, 1) := by decide +kernel
theorem dX8_band_1 : decode cX8_band 1 = .ok (.invokevirtual 146, 3) := by decide +kernel
theorem dX8_band_4 : decode cX8_band 4 = .ok (.istore_n 1, 1) := by decide +kernel
theorem dX8_band_5 : decode cX8_band 5 = .ok (.aload_n 0, 1) := by decide +kernel
theorem dX8_band_6 : decode cX8_band 6 = .ok (.iconst 0, 1) := by decide +kernel
theorem dX8_band_7 : decode cX8_band 7 = .ok (.putfield 88, 3) := by decide +kernel
theorem dX8_band_10 : decode cX8_band 10 = .ok (.iload_n 1, 1) := by decide +kernel
theorem dX8_band_11 : decode cX8_band 11 = .ok (.ifCond .ne 19, 3) := by decide +kernel
theorem dX8_band_14 : decode cX8_band 14 = .ok (.aload_n 0, 1) := by decide +kernel
theorem dX8_band_15 : decode cX8_band 15 = .ok (.aload_n 0, 1) := by decide +kernel
theorem dX8_band_16 : decode cX8_band 16 = .ok (.getfield 105, 3) := by decide +kernel
theorem dX8_band_19 : decode cX8_band 19 = .ok (.putfield 149, 3) := by decide +kernel
theorem dX8_band_22 : decode cX8_band 22 = .ok (.ldc 152, 2) := by decide +kernel
theorem dX8_band_24 : decode cX8_band 24 = .ok (.aload_n 0, 1) := by decide +kernel
theorem dX8_band_25 : decode cX8_band 25 = .ok (.getfield 102, 3) := by decide +kernel
theorem dX8_band_28 : decode cX8_band 28 = .ok (.isub, 1) := by decide +kernel
theorem dX8_band_29 : decode cX8_band 29 = .ok (.ireturn, 1) := by decide +kernel
theorem dX8_band_30 : decode cX8_band 30 = .ok (.iconst 0, 1) := by decide +kernel
theorem dX8_band_31 : decode cX8_band 31 = .ok (.istore_n 2, 1) := by decide +kernel
theorem dX8_band_32 : decode cX8_band 32 = .ok (.iload_n 2, 1) := by decide +kernel
theorem dX8_band_33 : decode cX8_band 33 = .ok (.bipush 61, 2) := by decide +kernel
theorem dX8_band_35 : decode cX8_band 35 = .ok (.if_icmp .ge 25, 3) := by decide +kernel
theorem dX8_band_38 : decode cX8_band 38 = .ok (.aload_n 0, 1) := by decide +kernel
theorem dX8_band_39 : decode cX8_band 39 = .ok (.getfield 7, 3) := by decide +kernel
theorem dX8_band_42 : decode cX8_band 42 = .ok (.iload_n 2, 1) := by decide +kernel
theorem dX8_band_43 : decode cX8_band 43 = .ok (.aload_n 0, 1) := by decide +kernel
theorem dX8_band_44 : decode cX8_band 44 = .ok (.getfield 7, 3) := by decide +kernel
theorem dX8_band_47 : decode cX8_band 47 = .ok (.sipush 183, 3) := by decide +kernel
theorem dX8_band_50 : decode cX8_band 50 = .ok (.iload_n 2, 1) := by decide +kernel
theorem dX8_band_51 : decode cX8_band 51 = .ok (.iadd, 1) := by decide +kernel
theorem dX8_band_52 : decode cX8_band 52 = .ok (.iaload, 1) := by decide +kernel
theorem dX8_band_53 : decode cX8_band 53 = .ok (.iastore, 1) := by decide +kernel
theorem dX8_band_54 : decode cX8_band 54 = .ok (.iinc 2 1, 3) := by decide +kernel
theorem dX8_band_57 : decode cX8_band 57 = .ok (.goto (-25), 3) := by decide +kernel
theorem dX8_band_60 : decode cX8_band 60 = .ok (.aload_n 0, 1) := by decide +kernel
theorem dX8_band_61 : decode cX8_band 61 = .ok (.getfield 7, 3) := by decide +kernel
theorem dX8_band_64 : decode cX8_band 64 = .ok (.bipush 8, 2) := by decide +kernel
theorem dX8_band_66 : decode cX8_band 66 = .ok (.iconst 1, 1) := by decide +kernel
theorem dX8_band_67 : decode cX8_band 67 = .ok (.iastore, 1) := by decide +kernel
theorem dX8_band_68 : decode cX8_band 68 = .ok (.aload_n 0, 1) := by decide +kernel
theorem dX8_band_69 : decode cX8_band 69 = .ok (.iconst 0, 1) := by decide +kernel
theorem dX8_band_70 : decode cX8_band 70 = .ok (.putfield 153, 3) := by decide +kernel
theorem dX8_band_73 : decode cX8_band 73 = .ok (.aload_n 0, 1) := by decide +kernel
theorem dX8_band_74 : decode cX8_band 74 = .ok (.getfield 7, 3) := by decide +kernel
theorem dX8_band_77 : decode cX8_band 77 = .ok (.iconst 5, 1) := by decide +kernel
theorem dX8_band_78 : decode cX8_band 78 = .ok (.iaload, 1) := by decide +kernel
theorem dX8_band_79 : decode cX8_band 79 = .ok (.ireturn, 1) := by decide +kernel
theorem dX8_fault_0 : decode cX8_fault 0 = .ok (.aload_n 0, 1) := by decide +kernel
theorem dX8_fault_1 : decode cX8_fault 1 = .ok (.getfield 149, 3) := by decide +kernel
theorem dX8_fault_4 : decode cX8_fault 4 = .ok (.ireturn, 1) := by decide +kernel
theorem dX8_layNow_0 : decode cX8_layNow 0 = .ok (.iconst 0, 1) := by decide +kernel
theorem dX8_layNow_1 : decode cX8_layNow 1 = .ok (.istore_n 1, 1) := by decide +kernel
theorem dX8_layNow_2 : decode cX8_layNow 2 = .ok (.iload_n 1, 1) := by decide +kernel
theorem dX8_layNow_3 : decode cX8_layNow 3 = .ok (.iconst 5, 1) := by decide +kernel
theorem dX8_layNow_4 : decode cX8_layNow 4 = .ok (.if_icmp .ge 54, 3) := by decide +kernel
theorem dX8_layNow_7 : decode cX8_layNow 7 = .ok (.aload_n 0, 1) := by decide +kernel
theorem dX8_layNow_8 : decode cX8_layNow 8 = .ok (.getfield 32, 3) := by decide +kernel
theorem dX8_layNow_11 : decode cX8_layNow 11 = .ok (.iload_n 1, 1) := by decide +kernel
theorem dX8_layNow_12 : decode cX8_layNow 12 = .ok (.aload_n 0, 1) := by decide +kernel
theorem dX8_layNow_13 : decode cX8_layNow 13 = .ok (.getfield 7, 3) := by decide +kernel
theorem dX8_layNow_16 : decode cX8_layNow 16 = .ok (.bipush 26, 2) := by decide +kernel
theorem dX8_layNow_18 : decode cX8_layNow 18 = .ok (.iload_n 1, 1) := by decide +kernel
theorem dX8_layNow_19 : decode cX8_layNow 19 = .ok (.iadd, 1) := by decide +kernel
theorem dX8_layNow_20 : decode cX8_layNow 20 = .ok (.iaload, 1) := by decide +kernel
theorem dX8_layNow_21 : decode cX8_layNow 21 = .ok (.iastore, 1) := by decide +kernel
theorem dX8_layNow_22 : decode cX8_layNow 22 = .ok (.aload_n 0, 1) := by decide +kernel
theorem dX8_layNow_23 : decode cX8_layNow 23 = .ok (.getfield 38, 3) := by decide +kernel
theorem dX8_layNow_26 : decode cX8_layNow 26 = .ok (.iload_n 1, 1) := by decide +kernel
theorem dX8_layNow_27 : decode cX8_layNow 27 = .ok (.aload_n 0, 1) := by decide +kernel
theorem dX8_layNow_28 : decode cX8_layNow 28 = .ok (.getfield 7, 3) := by decide +kernel
theorem dX8_layNow_31 : decode cX8_layNow 31 = .ok (.bipush 21, 2) := by decide +kernel
theorem dX8_layNow_33 : decode cX8_layNow 33 = .ok (.iload_n 1, 1) := by decide +kernel
theorem dX8_layNow_34 : decode cX8_layNow 34 = .ok (.iadd, 1) := by decide +kernel
theorem dX8_layNow_35 : decode cX8_layNow 35 = .ok (.iaload, 1) := by decide +kernel
theorem dX8_layNow_36 : decode cX8_layNow 36 = .ok (.iastore, 1) := by decide +kernel
theorem dX8_layNow_37 : decode cX8_layNow 37 = .ok (.aload_n 0, 1) := by decide +kernel
theorem dX8_layNow_38 : decode cX8_layNow 38 = .ok (.getfield 41, 3) := by decide +kernel
theorem dX8_layNow_41 : decode cX8_layNow 41 = .ok (.iload_n 1, 1) := by decide +kernel
theorem dX8_layNow_42 : decode cX8_layNow 42 = .ok (.aload_n 0, 1) := by decide +kernel
theorem dX8_layNow_43 : decode cX8_layNow 43 = .ok (.getfield 7, 3) := by decide +kernel
theorem dX8_layNow_46 : decode cX8_layNow 46 = .ok (.bipush 31, 2) := by decide +kernel
theorem dX8_layNow_48 : decode cX8_layNow 48 = .ok (.iload_n 1, 1) := by decide +kernel
theorem dX8_layNow_49 : decode cX8_layNow 49 = .ok (.iadd, 1) := by decide +kernel
theorem dX8_layNow_50 : decode cX8_layNow 50 = .ok (.iaload, 1) := by decide +kernel
theorem dX8_layNow_51 : decode cX8_layNow 51 = .ok (.iastore, 1) := by decide +kernel
theorem dX8_layNow_52 : decode cX8_layNow 52 = .ok (.iinc 1 1, 3) := by decide +kernel
theorem dX8_layNow_55 : decode cX8_layNow 55 = .ok (.goto (-53), 3) := by decide +kernel
theorem dX8_layNow_58 : decode cX8_layNow 58 = .ok (.iconst 0, 1) := by decide +kernel
theorem dX8_layNow_59 : decode cX8_layNow 59 = .ok (.istore_n 1, 1) := by decide +kernel
theorem dX8_layNow_60 : decode cX8_layNow 60 = .ok (.iload_n 1, 1) := by decide +kernel
theorem dX8_layNow_61 : decode cX8_layNow 61 = .ok (.bipush 25, 2) := by decide +kernel
theorem dX8_layNow_63 : decode cX8_layNow 63 = .ok (.if_icmp .ge 24, 3) := by decide +kernel
theorem dX8_layNow_66 : decode cX8_layNow 66 = .ok (.aload_n 0, 1) := by decide +kernel
theorem dX8_layNow_67 : decode cX8_layNow 67 = .ok (.getfield 44, 3) := by decide +kernel
theorem dX8_layNow_70 : decode cX8_layNow 70 = .ok (.iload_n 1, 1) := by decide +kernel
theorem dX8_layNow_71 : decode cX8_layNow 71 = .ok (.aload_n 0, 1) := by decide +kernel
theorem dX8_layNow_72 : decode cX8_layNow 72 = .ok (.getfield 7, 3) := by decide +kernel
theorem dX8_layNow_75 : decode cX8_layNow 75 = .ok (.bipush 36, 2) := by decide +kernel
theorem dX8_layNow_77 : decode cX8_layNow 77 = .ok (.iload_n 1, 1) := by decide +kernel
theorem dX8_layNow_78 : decode cX8_layNow 78 = .ok (.iadd, 1) := by decide +kernel
theorem dX8_layNow_79 : decode cX8_layNow 79 = .ok (.iaload, 1) := by decide +kernel
theorem dX8_layNow_80 : decode cX8_layNow 80 = .ok (.iastore, 1) := by decide +kernel
theorem dX8_layNow_81 : decode cX8_layNow 81 = .ok (.iinc 1 1, 3) := by decide +kernel
theorem dX8_layNow_84 : decode cX8_layNow 84 = .ok (.goto (-24), 3) := by decide +kernel
theorem dX8_layNow_87 : decode cX8_layNow 87 = .ok (.aload_n 0, 1) := by decide +kernel
theorem dX8_layNow_88 : decode cX8_layNow 88 = .ok (.aload_n 0, 1) := by decide +kernel
theorem dX8_layNow_89 : decode cX8_layNow 89 = .ok (.getfield 7, 3) := by decide +kernel
theorem dX8_layNow_92 : decode cX8_layNow 92 = .ok (.bipush 6, 2) := by decide +kernel
theorem dX8_layNow_94 : decode cX8_layNow 94 = .ok (.iaload, 1) := by decide +kernel
theorem dX8_layNow_95 : decode cX8_layNow 95 = .ok (.putfield 156, 3) := by decide +kernel
theorem dX8_layNow_98 : decode cX8_layNow 98 = .ok (.aload_n 0, 1) := by decide +kernel
theorem dX8_layNow_99 : decode cX8_layNow 99 = .ok (.iconst (-1), 1) := by decide +kernel
theorem dX8_layNow_100 : decode cX8_layNow 100 = .ok (.putfield 159, 3) := by decide +kernel
theorem dX8_layNow_103 : decode cX8_layNow 103 = .ok (.return_, 1) := by decide +kernel
theorem dX8_leanAt_0 : decode cX8_leanAt 0 = .ok (.iload_n 1, 1) := by decide +kernel
theorem dX8_leanAt_1 : decode cX8_leanAt 1 = .ok (.iconst 4, 1) := by decide +kernel
theorem dX8_leanAt_2 : decode cX8_leanAt 2 = .ok (.if_icmp .lt 5, 3) := by decide +kernel
theorem dX8_leanAt_5 : decode cX8_leanAt 5 = .ok (.iconst 0, 1) := by decide +kernel
theorem dX8_leanAt_6 : decode cX8_leanAt 6 = .ok (.ireturn, 1) := by decide +kernel
theorem dX8_leanAt_7 : decode cX8_leanAt 7 = .ok (.iload_n 2, 1) := by decide +kernel
theorem dX8_leanAt_8 : decode cX8_leanAt 8 = .ok (.iconst 1, 1) := by decide +kernel
theorem dX8_leanAt_9 : decode cX8_leanAt 9 = .ok (.if_icmp .ne 12, 3) := by decide +kernel
theorem dX8_leanAt_12 : decode cX8_leanAt 12 = .ok (.aload_n 0, 1) := by decide +kernel
theorem dX8_leanAt_13 : decode cX8_leanAt 13 = .ok (.getfield 7, 3) := by decide +kernel
theorem dX8_leanAt_16 : decode cX8_leanAt 16 = .ok (.iconst 0, 1) := by decide +kernel
theorem dX8_leanAt_17 : decode cX8_leanAt 17 = .ok (.iaload, 1) := by decide +kernel
theorem dX8_leanAt_18 : decode cX8_leanAt 18 = .ok (.goto 33, 3) := by decide +kernel
theorem dX8_leanAt_21 : decode cX8_leanAt 21 = .ok (.iload_n 2, 1) := by decide +kernel
theorem dX8_leanAt_22 : decode cX8_leanAt 22 = .ok (.iconst 2, 1) := by decide +kernel
theorem dX8_leanAt_23 : decode cX8_leanAt 23 = .ok (.if_icmp .ne 13, 3) := by decide +kernel
theorem dX8_leanAt_26 : decode cX8_leanAt 26 = .ok (.aload_n 0, 1) := by decide +kernel
theorem dX8_leanAt_27 : decode cX8_leanAt 27 = .ok (.getfield 7, 3) := by decide +kernel
theorem dX8_leanAt_30 : decode cX8_leanAt 30 = .ok (.iconst 1, 1) := by decide +kernel
theorem dX8_leanAt_31 : decode cX8_leanAt 31 = .ok (.iaload, 1) := by decide +kernel
theorem dX8_leanAt_32 : decode cX8_leanAt 32 = .ok (.ineg, 1) := by decide +kernel
theorem dX8_leanAt_33 : decode cX8_leanAt 33 = .ok (.goto 18, 3) := by decide +kernel
theorem dX8_leanAt_36 : decode cX8_leanAt 36 = .ok (.iload_n 2, 1) := by decide +kernel
theorem dX8_leanAt_37 : decode cX8_leanAt 37 = .ok (.iconst 3, 1) := by decide +kernel
theorem dX8_leanAt_38 : decode cX8_leanAt 38 = .ok (.if_icmp .ne 12, 3) := by decide +kernel
theorem dX8_leanAt_41 : decode cX8_leanAt 41 = .ok (.aload_n 0, 1) := by decide +kernel
theorem dX8_leanAt_42 : decode cX8_leanAt 42 = .ok (.getfield 7, 3) := by decide +kernel
theorem dX8_leanAt_45 : decode cX8_leanAt 45 = .ok (.iconst 2, 1) := by decide +kernel
theorem dX8_leanAt_46 : decode cX8_leanAt 46 = .ok (.iaload, 1) := by decide +kernel
theorem dX8_leanAt_47 : decode cX8_leanAt 47 = .ok (.goto 4, 3) := by decide +kernel
theorem dX8_leanAt_50 : decode cX8_leanAt 50 = .ok (.iconst 0, 1) := by decide +kernel
theorem dX8_leanAt_51 : decode cX8_leanAt 51 = .ok (.istore_n 3, 1) := by decide +kernel
theorem dX8_leanAt_52 : decode cX8_leanAt 52 = .ok (.iload_n 1, 1) := by decide +kernel
theorem dX8_leanAt_53 : decode cX8_leanAt 53 = .ok (.iconst 2, 1) := by decide +kernel
theorem dX8_leanAt_54 : decode cX8_leanAt 54 = .ok (.if_icmp .ne 8, 3) := by decide +kernel
theorem dX8_leanAt_57 : decode cX8_leanAt 57 = .ok (.iload_n 2, 1) := by decide +kernel
theorem dX8_leanAt_58 : decode cX8_leanAt 58 = .ok (.iconst 1, 1) := by decide +kernel
theorem dX8_leanAt_59 : decode cX8_leanAt 59 = .ok (.if_icmp .eq 13, 3) := by decide +kernel
theorem dX8_leanAt_62 : decode cX8_leanAt 62 = .ok (.iload_n 1, 1) := by decide +kernel
theorem dX8_leanAt_63 : decode cX8_leanAt 63 = .ok (.iconst 3, 1) := by decide +kernel
theorem dX8_leanAt_64 : decode cX8_leanAt 64 = .ok (.if_icmp .ne 14, 3) := by decide +kernel
theorem dX8_leanAt_67 : decode cX8_leanAt 67 = .ok (.iload_n 2, 1) := by decide +kernel
theorem dX8_leanAt_68 : decode cX8_leanAt 68 = .ok (.iconst 2, 1) := by decide +kernel
theorem dX8_leanAt_69 : decode cX8_leanAt 69 = .ok (.if_icmp .ne 9, 3) := by decide +kernel
theorem dX8_leanAt_72 : decode cX8_leanAt 72 = .ok (.iconst 2, 1) := by decide +kernel
theorem dX8_leanAt_73 : decode cX8_leanAt 73 = .ok (.iload_n 3, 1) := by decide +kernel
theorem dX8_leanAt_74 : decode cX8_leanAt 74 = .ok (.imul, 1) := by decide +kernel
theorem dX8_leanAt_75 : decode cX8_leanAt 75 = .ok (.goto 4, 3) := by decide +kernel
theorem dX8_leanAt_78 : decode cX8_leanAt 78 = .ok (.iload_n 3, 1) := by decide +kernel
theorem dX8_leanAt_79 : decode cX8_leanAt 79 = .ok (.ireturn, 1) := by decide +kernel
theorem dX8_paceBehind_0 : decode cX8_paceBehind 0 = .ok (.iconst 0, 1) := by decide +kernel
theorem dX8_paceBehind_1 : decode cX8_paceBehind 1 = .ok (.istore_n 3, 1) := by decide +kernel
theorem dX8_paceBehind_2 : decode cX8_paceBehind 2 = .ok (.iconst 0, 1) := by decide +kernel
theorem dX8_paceBehind_3 : decode cX8_paceBehind 3 = .ok (.istore 4, 2) := by decide +kernel
theorem dX8_paceBehind_5 : decode cX8_paceBehind 5 = .ok (.iload 4, 2) := by decide +kernel
theorem dX8_paceBehind_7 : decode cX8_paceBehind 7 = .ok (.aload_n 0, 1) := by decide +kernel
theorem dX8_paceBehind_8 : decode cX8_paceBehind 8 = .ok (.getfield 7, 3) := by decide +kernel
theorem dX8_paceBehind_11 : decode cX8_paceBehind 11 = .ok (.iconst 5, 1) := by decide +kernel
theorem dX8_paceBehind_12 : decode cX8_paceBehind 12 = .ok (.iaload, 1) := by decide +kernel
theorem dX8_paceBehind_13 : decode cX8_paceBehind 13 = .ok (.if_icmp .ge 38, 3) := by decide +kernel
theorem dX8_paceBehind_16 : decode cX8_paceBehind 16 = .ok (.iload_n 3, 1) := by decide +kernel
theorem dX8_paceBehind_17 : decode cX8_paceBehind 17 = .ok (.aload_n 0, 1) := by decide +kernel
theorem dX8_paceBehind_18 : decode cX8_paceBehind 18 = .ok (.getfield 44, 3) := by decide +kernel
theorem dX8_paceBehind_21 : decode cX8_paceBehind 21 = .ok (.iconst 5, 1) := by decide +kernel
theorem dX8_paceBehind_22 : decode cX8_paceBehind 22 = .ok (.iload_n 1, 1) := by decide +kernel
theorem dX8_paceBehind_23 : decode cX8_paceBehind 23 = .ok (.imul, 1) := by decide +kernel
theorem dX8_paceBehind_24 : decode cX8_paceBehind 24 = .ok (.iload 4, 2) := by decide +kernel
theorem dX8_paceBehind_26 : decode cX8_paceBehind 26 = .ok (.iadd, 1) := by decide +kernel
theorem dX8_paceBehind_27 : decode cX8_paceBehind 27 = .ok (.iaload, 1) := by decide +kernel
theorem dX8_paceBehind_28 : decode cX8_paceBehind 28 = .ok (.aload_n 0, 1) := by decide +kernel
theorem dX8_paceBehind_29 : decode cX8_paceBehind 29 = .ok (.getfield 32, 3) := by decide +kernel
theorem dX8_paceBehind_32 : decode cX8_paceBehind 32 = .ok (.iload 4, 2) := by decide +kernel
theorem dX8_paceBehind_34 : decode cX8_paceBehind 34 = .ok (.iaload, 1) := by decide +kernel
theorem dX8_paceBehind_35 : decode cX8_paceBehind 35 = .ok (.aload_n 0, 1) := by decide +kernel
theorem dX8_paceBehind_36 : decode cX8_paceBehind 36 = .ok (.getfield 32, 3) := by decide +kernel
theorem dX8_paceBehind_39 : decode cX8_paceBehind 39 = .ok (.iload_n 1, 1) := by decide +kernel
theorem dX8_paceBehind_40 : decode cX8_paceBehind 40 = .ok (.iaload, 1) := by decide +kernel
theorem dX8_paceBehind_41 : decode cX8_paceBehind 41 = .ok (.isub, 1) := by decide +kernel
theorem dX8_paceBehind_42 : decode cX8_paceBehind 42 = .ok (.imul, 1) := by decide +kernel
theorem dX8_paceBehind_43 : decode cX8_paceBehind 43 = .ok (.iadd, 1) := by decide +kernel
theorem dX8_paceBehind_44 : decode cX8_paceBehind 44 = .ok (.istore_n 3, 1) := by decide +kernel
theorem dX8_paceBehind_45 : decode cX8_paceBehind 45 = .ok (.iinc 4 1, 3) := by decide +kernel
theorem dX8_paceBehind_48 : decode cX8_paceBehind 48 = .ok (.goto (-43), 3) := by decide +kernel
theorem dX8_paceBehind_51 : decode cX8_paceBehind 51 = .ok (.aload_n 0, 1) := by decide +kernel
theorem dX8_paceBehind_52 : decode cX8_paceBehind 52 = .ok (.getfield 32, 3) := by decide +kernel
theorem dX8_paceBehind_55 : decode cX8_paceBehind 55 = .ok (.iload_n 1, 1) := by decide +kernel
theorem dX8_paceBehind_56 : decode cX8_paceBehind 56 = .ok (.iaload, 1) := by decide +kernel
theorem dX8_paceBehind_57 : decode cX8_paceBehind 57 = .ok (.iload_n 3, 1) := by decide +kernel
theorem dX8_paceBehind_58 : decode cX8_paceBehind 58 = .ok (.bipush 10, 2) := by decide +kernel
theorem dX8_paceBehind_60 : decode cX8_paceBehind 60 = .ok (.idiv, 1) := by decide +kernel
theorem dX8_paceBehind_61 : decode cX8_paceBehind 61 = .ok (.iadd, 1) := by decide +kernel
theorem dX8_paceBehind_62 : decode cX8_paceBehind 62 = .ok (.iload_n 2, 1) := by decide +kernel
theorem dX8_paceBehind_63 : decode cX8_paceBehind 63 = .ok (.iconst 4, 1) := by decide +kernel
theorem dX8_paceBehind_64 : decode cX8_paceBehind 64 = .ok (.if_icmp .ne 7, 3) := by decide +kernel
theorem dX8_paceBehind_67 : decode cX8_paceBehind 67 = .ok (.iconst 0, 1) := by decide +kernel
theorem dX8_paceBehind_68 : decode cX8_paceBehind 68 = .ok (.goto 9, 3) := by decide +kernel
theorem dX8_paceBehind_71 : decode cX8_paceBehind 71 = .ok (.aload_n 0, 1) := by decide +kernel
theorem dX8_paceBehind_72 : decode cX8_paceBehind 72 = .ok (.getfield 41, 3) := by decide +kernel
theorem dX8_paceBehind_75 : decode cX8_paceBehind 75 = .ok (.iload_n 1, 1) := by decide +kernel
theorem dX8_paceBehind_76 : decode cX8_paceBehind 76 = .ok (.iaload, 1) := by decide +kernel
theorem dX8_paceBehind_77 : decode cX8_paceBehind 77 = .ok (.iadd, 1) := by decide +kernel
theorem dX8_paceBehind_78 : decode cX8_paceBehind 78 = .ok (.iload_n 1, 1) := by decide +kernel
theorem dX8_paceBehind_79 : decode cX8_paceBehind 79 = .ok (.aload_n 0, 1) := by decide +kernel
theorem dX8_paceBehind_80 : decode cX8_paceBehind 80 = .ok (.getfield 159, 3) := by decide +kernel
theorem dX8_paceBehind_83 : decode cX8_paceBehind 83 = .ok (.if_icmp .ne 7, 3) := by decide +kernel
theorem dX8_paceBehind_86 : decode cX8_paceBehind 86 = .ok (.iconst 0, 1) := by decide +kernel
theorem dX8_paceBehind_87 : decode cX8_paceBehind 87 = .ok (.goto 14, 3) := by decide +kernel
theorem dX8_paceBehind_90 : decode cX8_paceBehind 90 = .ok (.aload_n 0, 1) := by decide +kernel
theorem dX8_paceBehind_91 : decode cX8_paceBehind 91 = .ok (.aload_n 0, 1) := by decide +kernel
theorem dX8_paceBehind_92 : decode cX8_paceBehind 92 = .ok (.getfield 38, 3) := by decide +kernel
theorem dX8_paceBehind_95 : decode cX8_paceBehind 95 = .ok (.iload_n 1, 1) := by decide +kernel
theorem dX8_paceBehind_96 : decode cX8_paceBehind 96 = .ok (.iaload, 1) := by decide +kernel
theorem dX8_paceBehind_97 : decode cX8_paceBehind 97 = .ok (.iload_n 2, 1) := by decide +kernel
theorem dX8_paceBehind_98 : decode cX8_paceBehind 98 = .ok (.invokevirtual 162, 3) := by decide +kernel
theorem dX8_paceBehind_101 : decode cX8_paceBehind 101 = .ok (.iadd, 1) := by decide +kernel
theorem dX8_paceBehind_102 : decode cX8_paceBehind 102 = .ok (.istore 4, 2) := by decide +kernel
theorem dX8_paceBehind_104 : decode cX8_paceBehind 104 = .ok (.bipush 10, 2) := by decide +kernel
theorem dX8_paceBehind_106 : decode cX8_paceBehind 106 = .ok (.aload_n 0, 1) := by decide +kernel
theorem dX8_paceBehind_107 : decode cX8_paceBehind 107 = .ok (.getfield 7, 3) := by decide +kernel
theorem dX8_paceBehind_110 : decode cX8_paceBehind 110 = .ok (.iconst 3, 1) := by decide +kernel
theorem dX8_paceBehind_111 : decode cX8_paceBehind 111 = .ok (.iaload, 1) := by decide +kernel
theorem dX8_paceBehind_112 : decode cX8_paceBehind 112 = .ok (.imul, 1) := by decide +kernel
theorem dX8_paceBehind_113 : decode cX8_paceBehind 113 = .ok (.iload 4, 2) := by decide +kernel
theorem dX8_paceBehind_115 : decode cX8_paceBehind 115 = .ok (.isub, 1) := by decide +kernel
theorem dX8_paceBehind_116 : decode cX8_paceBehind 116 = .ok (.iconst 2, 1) := by decide +kernel
theorem dX8_paceBehind_117 : decode cX8_paceBehind 117 = .ok (.idiv, 1) := by decide +kernel
theorem dX8_paceBehind_118 : decode cX8_paceBehind 118 = .ok (.istore 5, 2) := by decide +kernel
theorem dX8_paceBehind_120 : decode cX8_paceBehind 120 = .ok (.iload 4, 2) := by decide +kernel
theorem dX8_paceBehind_122 : decode cX8_paceBehind 122 = .ok (.aload_n 0, 1) := by decide +kernel
theorem dX8_paceBehind_123 : decode cX8_paceBehind 123 = .ok (.getfield 38, 3) := by decide +kernel
theorem dX8_paceBehind_126 : decode cX8_paceBehind 126 = .ok (.iload_n 1, 1) := by decide +kernel
theorem dX8_paceBehind_127 : decode cX8_paceBehind 127 = .ok (.iaload, 1) := by decide +kernel
theorem dX8_paceBehind_128 : decode cX8_paceBehind 128 = .ok (.iconst 4, 1) := by decide +kernel
theorem dX8_paceBehind_129 : decode cX8_paceBehind 129 = .ok (.if_icmp .ne 8, 3) := by decide +kernel
theorem dX8_paceBehind_132 : decode cX8_paceBehind 132 = .ok (.iload 5, 2) := by decide +kernel
theorem dX8_paceBehind_134 : decode cX8_paceBehind 134 = .ok (.goto 21, 3) := by decide +kernel
theorem dX8_paceBehind_137 : decode cX8_paceBehind 137 = .ok (.aload_n 0, 1) := by decide +kernel
theorem dX8_paceBehind_138 : decode cX8_paceBehind 138 = .ok (.getfield 38, 3) := by decide +kernel
theorem dX8_paceBehind_141 : decode cX8_paceBehind 141 = .ok (.iload_n 1, 1) := by decide +kernel
theorem dX8_paceBehind_142 : decode cX8_paceBehind 142 = .ok (.iaload, 1) := by decide +kernel
theorem dX8_paceBehind_143 : decode cX8_paceBehind 143 = .ok (.iconst 5, 1) := by decide +kernel
theorem dX8_paceBehind_144 : decode cX8_paceBehind 144 = .ok (.if_icmp .ne 10, 3) := by decide +kernel
theorem dX8_paceBehind_147 : decode cX8_paceBehind 147 = .ok (.iload 5, 2) := by decide +kernel
theorem dX8_paceBehind_149 : decode cX8_paceBehind 149 = .ok (.iconst 2, 1) := by decide +kernel
theorem dX8_paceBehind_150 : decode cX8_paceBehind 150 = .ok (.idiv, 1) := by decide +kernel
theorem dX8_paceBehind_151 : decode cX8_paceBehind 151 = .ok (.goto 4, 3) := by decide +kernel
theorem dX8_paceBehind_154 : decode cX8_paceBehind 154 = .ok (.iconst 0, 1) := by decide +kernel
theorem dX8_paceBehind_155 : decode cX8_paceBehind 155 = .ok (.iadd, 1) := by decide +kernel
theorem dX8_paceBehind_156 : decode cX8_paceBehind 156 = .ok (.istore 4, 2) := by decide +kernel
theorem dX8_paceBehind_158 : decode cX8_paceBehind 158 = .ok (.iload 4, 2) := by decide +kernel
theorem dX8_paceBehind_160 : decode cX8_paceBehind 160 = .ok (.invokestatic 165, 3) := by decide +kernel
theorem dX8_paceBehind_163 : decode cX8_paceBehind 163 = .ok (.ireturn, 1) := by decide +kernel
theorem dX8_plays_0 : decode cX8_plays 0 = .ok (.aload_n 0, 1) := by decide +kernel
theorem dX8_plays_1 : decode cX8_plays 1 = .ok (.getfield 7, 3) := by decide +kernel
theorem dX8_plays_4 : decode cX8_plays 4 = .ok (.bipush 9, 2) := by decide +kernel
theorem dX8_plays_6 : decode cX8_plays 6 = .ok (.aload_n 0, 1) := by decide +kernel
theorem dX8_plays_7 : decode cX8_plays 7 = .ok (.getfield 156, 3) := by decide +kernel
theorem dX8_plays_10 : decode cX8_plays 10 = .ok (.iadd, 1) := by decide +kernel
theorem dX8_plays_11 : decode cX8_plays 11 = .ok (.iaload, 1) := by decide +kernel
theorem dX8_plays_12 : decode cX8_plays 12 = .ok (.istore_n 1, 1) := by decide +kernel
theorem dX8_plays_13 : decode cX8_plays 13 = .ok (.iconst 0, 1) := by decide +kernel
theorem dX8_plays_14 : decode cX8_plays 14 = .ok (.istore_n 2, 1) := by decide +kernel
theorem dX8_plays_15 : decode cX8_plays 15 = .ok (.iload_n 2, 1) := by decide +kernel
theorem dX8_plays_16 : decode cX8_plays 16 = .ok (.aload_n 0, 1) := by decide +kernel
theorem dX8_plays_17 : decode cX8_plays 17 = .ok (.getfield 7, 3) := by decide +kernel
theorem dX8_plays_20 : decode cX8_plays 20 = .ok (.iconst 5, 1) := by decide +kernel
theorem dX8_plays_21 : decode cX8_plays 21 = .ok (.iaload, 1) := by decide +kernel
theorem dX8_plays_22 : decode cX8_plays 22 = .ok (.if_icmp .ge 21, 3) := by decide +kernel
theorem dX8_plays_25 : decode cX8_plays 25 = .ok (.aload_n 0, 1) := by decide +kernel
theorem dX8_plays_26 : decode cX8_plays 26 = .ok (.getfield 35, 3) := by decide +kernel
theorem dX8_plays_29 : decode cX8_plays 29 = .ok (.iload_n 2, 1) := by decide +kernel
theorem dX8_plays_30 : decode cX8_plays 30 = .ok (.aload_n 0, 1) := by decide +kernel
theorem dX8_plays_31 : decode cX8_plays 31 = .ok (.iload_n 2, 1) := by decide +kernel
theorem dX8_plays_32 : decode cX8_plays 32 = .ok (.iload_n 1, 1) := by decide +kernel
theorem dX8_plays_33 : decode cX8_plays 33 = .ok (.invokevirtual 168, 3) := by decide +kernel
theorem dX8_plays_36 : decode cX8_plays 36 = .ok (.iastore, 1) := by decide +kernel
theorem dX8_plays_37 : decode cX8_plays 37 = .ok (.iinc 2 1, 3) := by decide +kernel
theorem dX8_plays_40 : decode cX8_plays 40 = .ok (.goto (-25), 3) := by decide +kernel
theorem dX8_plays_43 : decode cX8_plays 43 = .ok (.iconst 0, 1) := by decide +kernel
theorem dX8_plays_44 : decode cX8_plays 44 = .ok (.istore_n 2, 1) := by decide +kernel
theorem dX8_plays_45 : decode cX8_plays 45 = .ok (.iload_n 2, 1) := by decide +kernel
theorem dX8_plays_46 : decode cX8_plays 46 = .ok (.aload_n 0, 1) := by decide +kernel
theorem dX8_plays_47 : decode cX8_plays 47 = .ok (.getfield 7, 3) := by decide +kernel
theorem dX8_plays_50 : decode cX8_plays 50 = .ok (.iconst 5, 1) := by decide +kernel
theorem dX8_plays_51 : decode cX8_plays 51 = .ok (.iaload, 1) := by decide +kernel
theorem dX8_plays_52 : decode cX8_plays 52 = .ok (.if_icmp .ge 21, 3) := by decide +kernel
theorem dX8_plays_55 : decode cX8_plays 55 = .ok (.aload_n 0, 1) := by decide +kernel
theorem dX8_plays_56 : decode cX8_plays 56 = .ok (.getfield 32, 3) := by decide +kernel
theorem dX8_plays_59 : decode cX8_plays 59 = .ok (.iload_n 2, 1) := by decide +kernel
theorem dX8_plays_60 : decode cX8_plays 60 = .ok (.aload_n 0, 1) := by decide +kernel
theorem dX8_plays_61 : decode cX8_plays 61 = .ok (.getfield 35, 3) := by decide +kernel
theorem dX8_plays_64 : decode cX8_plays 64 = .ok (.iload_n 2, 1) := by decide +kernel
theorem dX8_plays_65 : decode cX8_plays 65 = .ok (.iaload, 1) := by decide +kernel
theorem dX8_plays_66 : decode cX8_plays 66 = .ok (.iastore, 1) := by decide +kernel
theorem dX8_plays_67 : decode cX8_plays 67 = .ok (.iinc 2 1, 3) := by decide +kernel
theorem dX8_plays_70 : decode cX8_plays 70 = .ok (.goto (-25), 3) := by decide +kernel
theorem dX8_plays_73 : decode cX8_plays 73 = .ok (.aload_n 0, 1) := by decide +kernel
theorem dX8_plays_74 : decode cX8_plays 74 = .ok (.aload_n 0, 1) := by decide +kernel
theorem dX8_plays_75 : decode cX8_plays 75 = .ok (.getfield 156, 3) := by decide +kernel
theorem dX8_plays_78 : decode cX8_plays 78 = .ok (.iconst 1, 1) := by decide +kernel
theorem dX8_plays_79 : decode cX8_plays 79 = .ok (.iadd, 1) := by decide +kernel
theorem dX8_plays_80 : decode cX8_plays 80 = .ok (.aload_n 0, 1) := by decide +kernel
theorem dX8_plays_81 : decode cX8_plays 81 = .ok (.getfield 7, 3) := by decide +kernel
theorem dX8_plays_84 : decode cX8_plays 84 = .ok (.iconst 4, 1) := by decide +kernel
theorem dX8_plays_85 : decode cX8_plays 85 = .ok (.iaload, 1) := by decide +kernel
theorem dX8_plays_86 : decode cX8_plays 86 = .ok (.irem, 1) := by decide +kernel
theorem dX8_plays_87 : decode cX8_plays 87 = .ok (.putfield 156, 3) := by decide +kernel
theorem dX8_plays_90 : decode cX8_plays 90 = .ok (.return_, 1) := by decide +kernel
theorem dX8_mean_0 : decode cX8_mean 0 = .ok (.iconst 0, 1) := by decide +kernel
theorem dX8_mean_1 : decode cX8_mean 1 = .ok (.istore_n 1, 1) := by decide +kernel
theorem dX8_mean_2 : decode cX8_mean 2 = .ok (.iconst 0, 1) := by decide +kernel
theorem dX8_mean_3 : decode cX8_mean 3 = .ok (.istore_n 2, 1) := by decide +kernel
theorem dX8_mean_4 : decode cX8_mean 4 = .ok (.iload_n 2, 1) := by decide +kernel
theorem dX8_mean_5 : decode cX8_mean 5 = .ok (.aload_n 0, 1) := by decide +kernel
theorem dX8_mean_6 : decode cX8_mean 6 = .ok (.getfield 7, 3) := by decide +kernel
theorem dX8_mean_9 : decode cX8_mean 9 = .ok (.iconst 5, 1) := by decide +kernel
theorem dX8_mean_10 : decode cX8_mean 10 = .ok (.iaload, 1) := by decide +kernel
theorem dX8_mean_11 : decode cX8_mean 11 = .ok (.if_icmp .ge 18, 3) := by decide +kernel
theorem dX8_mean_14 : decode cX8_mean 14 = .ok (.iload_n 1, 1) := by decide +kernel
theorem dX8_mean_15 : decode cX8_mean 15 = .ok (.aload_n 0, 1) := by decide +kernel
theorem dX8_mean_16 : decode cX8_mean 16 = .ok (.getfield 32, 3) := by decide +kernel
theorem dX8_mean_19 : decode cX8_mean 19 = .ok (.iload_n 2, 1) := by decide +kernel
theorem dX8_mean_20 : decode cX8_mean 20 = .ok (.iaload, 1) := by decide +kernel
theorem dX8_mean_21 : decode cX8_mean 21 = .ok (.iadd, 1) := by decide +kernel
theorem dX8_mean_22 : decode cX8_mean 22 = .ok (.istore_n 1, 1) := by decide +kernel
theorem dX8_mean_23 : decode cX8_mean 23 = .ok (.iinc 2 1, 3) := by decide +kernel
theorem dX8_mean_26 : decode cX8_mean 26 = .ok (.goto (-22), 3) := by decide +kernel
theorem dX8_mean_29 : decode cX8_mean 29 = .ok (.aload_n 0, 1) := by decide +kernel
theorem dX8_mean_30 : decode cX8_mean 30 = .ok (.getfield 7, 3) := by decide +kernel
theorem dX8_mean_33 : decode cX8_mean 33 = .ok (.iconst 5, 1) := by decide +kernel
theorem dX8_mean_34 : decode cX8_mean 34 = .ok (.iaload, 1) := by decide +kernel
theorem dX8_mean_35 : decode cX8_mean 35 = .ok (.ifCond .ne 7, 3) := by decide +kernel
theorem dX8_mean_38 : decode cX8_mean 38 = .ok (.iconst 0, 1) := by decide +kernel
theorem dX8_mean_39 : decode cX8_mean 39 = .ok (.goto 11, 3) := by decide +kernel
theorem dX8_mean_42 : decode cX8_mean 42 = .ok (.iload_n 1, 1) := by decide +kernel
theorem dX8_mean_43 : decode cX8_mean 43 = .ok (.aload_n 0, 1) := by decide +kernel
theorem dX8_mean_44 : decode cX8_mean 44 = .ok (.getfield 7, 3) := by decide +kernel
theorem dX8_mean_47 : decode cX8_mean 47 = .ok (.iconst 5, 1) := by decide +kernel
theorem dX8_mean_48 : decode cX8_mean 48 = .ok (.iaload, 1) := by decide +kernel
theorem dX8_mean_49 : decode cX8_mean 49 = .ok (.idiv, 1) := by decide +kernel
theorem dX8_mean_50 : decode cX8_mean 50 = .ok (.ireturn, 1) := by decide +kernel
theorem dX8_playsMany_0 : decode cX8_playsMany 0 = .ok (.iconst 0, 1) := by decide +kernel
theorem dX8_playsMany_1 : decode cX8_playsMany 1 = .ok (.istore_n 2, 1) := by decide +kernel
theorem dX8_playsMany_2 : decode cX8_playsMany 2 = .ok (.iload_n 2, 1) := by decide +kernel
theorem dX8_playsMany_3 : decode cX8_playsMany 3 = .ok (.iload_n 1, 1) := by decide +kernel
theorem dX8_playsMany_4 : decode cX8_playsMany 4 = .ok (.if_icmp .ge 13, 3) := by decide +kernel
theorem dX8_playsMany_7 : decode cX8_playsMany 7 = .ok (.aload_n 0, 1) := by decide +kernel
theorem dX8_playsMany_8 : decode cX8_playsMany 8 = .ok (.invokevirtual 171, 3) := by decide +kernel
theorem dX8_playsMany_11 : decode cX8_playsMany 11 = .ok (.iinc 2 1, 3) := by decide +kernel
theorem dX8_playsMany_14 : decode cX8_playsMany 14 = .ok (.goto (-12), 3) := by decide +kernel
theorem dX8_playsMany_17 : decode cX8_playsMany 17 = .ok (.return_, 1) := by decide +kernel
theorem dX8_meanNow_0 : decode cX8_meanNow 0 = .ok (.iconst 0, 1) := by decide +kernel
theorem dX8_meanNow_1 : decode cX8_meanNow 1 = .ok (.istore_n 1, 1) := by decide +kernel
theorem dX8_meanNow_2 : decode cX8_meanNow 2 = .ok (.iconst 0, 1) := by decide +kernel
theorem dX8_meanNow_3 : decode cX8_meanNow 3 = .ok (.istore_n 2, 1) := by decide +kernel
theorem dX8_meanNow_4 : decode cX8_meanNow 4 = .ok (.iload_n 2, 1) := by decide +kernel
theorem dX8_meanNow_5 : decode cX8_meanNow 5 = .ok (.aload_n 0, 1) := by decide +kernel
theorem dX8_meanNow_6 : decode cX8_meanNow 6 = .ok (.getfield 7, 3) := by decide +kernel
theorem dX8_meanNow_9 : decode cX8_meanNow 9 = .ok (.iconst 5, 1) := by decide +kernel
theorem dX8_meanNow_10 : decode cX8_meanNow 10 = .ok (.iaload, 1) := by decide +kernel
theorem dX8_meanNow_11 : decode cX8_meanNow 11 = .ok (.if_icmp .ge 21, 3) := by decide +kernel
theorem dX8_meanNow_14 : decode cX8_meanNow 14 = .ok (.iload_n 1, 1) := by decide +kernel
theorem dX8_meanNow_15 : decode cX8_meanNow 15 = .ok (.aload_n 0, 1) := by decide +kernel
theorem dX8_meanNow_16 : decode cX8_meanNow 16 = .ok (.getfield 7, 3) := by decide +kernel
theorem dX8_meanNow_19 : decode cX8_meanNow 19 = .ok (.bipush 26, 2) := by decide +kernel
theorem dX8_meanNow_21 : decode cX8_meanNow 21 = .ok (.iload_n 2, 1) := by decide +kernel
theorem dX8_meanNow_22 : decode cX8_meanNow 22 = .ok (.iadd, 1) := by decide +kernel
theorem dX8_meanNow_23 : decode cX8_meanNow 23 = .ok (.iaload, 1) := by decide +kernel
theorem dX8_meanNow_24 : decode cX8_meanNow 24 = .ok (.iadd, 1) := by decide +kernel
theorem dX8_meanNow_25 : decode cX8_meanNow 25 = .ok (.istore_n 1, 1) := by decide +kernel
theorem dX8_meanNow_26 : decode cX8_meanNow 26 = .ok (.iinc 2 1, 3) := by decide +kernel
theorem dX8_meanNow_29 : decode cX8_meanNow 29 = .ok (.goto (-25), 3) := by decide +kernel
theorem dX8_meanNow_32 : decode cX8_meanNow 32 = .ok (.aload_n 0, 1) := by decide +kernel
theorem dX8_meanNow_33 : decode cX8_meanNow 33 = .ok (.getfield 7, 3) := by decide +kernel
theorem dX8_meanNow_36 : decode cX8_meanNow 36 = .ok (.iconst 5, 1) := by decide +kernel
theorem dX8_meanNow_37 : decode cX8_meanNow 37 = .ok (.iaload, 1) := by decide +kernel
theorem dX8_meanNow_38 : decode cX8_meanNow 38 = .ok (.ifCond .ne 7, 3) := by decide +kernel
theorem dX8_meanNow_41 : decode cX8_meanNow 41 = .ok (.iconst 0, 1) := by decide +kernel
theorem dX8_meanNow_42 : decode cX8_meanNow 42 = .ok (.goto 11, 3) := by decide +kernel
theorem dX8_meanNow_45 : decode cX8_meanNow 45 = .ok (.iload_n 1, 1) := by decide +kernel
theorem dX8_meanNow_46 : decode cX8_meanNow 46 = .ok (.aload_n 0, 1) := by decide +kernel
theorem dX8_meanNow_47 : decode cX8_meanNow 47 = .ok (.getfield 7, 3) := by decide +kernel
theorem dX8_meanNow_50 : decode cX8_meanNow 50 = .ok (.iconst 5, 1) := by decide +kernel
theorem dX8_meanNow_51 : decode cX8_meanNow 51 = .ok (.iaload, 1) := by decide +kernel
theorem dX8_meanNow_52 : decode cX8_meanNow 52 = .ok (.idiv, 1) := by decide +kernel
theorem dX8_meanNow_53 : decode cX8_meanNow 53 = .ok (.ireturn, 1) := by decide +kernel
theorem dX8_driftBy_0 : decode cX8_driftBy 0 = .ok (.aload_n 0, 1) := by decide +kernel
theorem dX8_driftBy_1 : decode cX8_driftBy 1 = .ok (.invokevirtual 174, 3) := by decide +kernel
theorem dX8_driftBy_4 : decode cX8_driftBy 4 = .ok (.istore_n 1, 1) := by decide +kernel
theorem dX8_driftBy_5 : decode cX8_driftBy 5 = .ok (.aload_n 0, 1) := by decide +kernel
theorem dX8_driftBy_6 : decode cX8_driftBy 6 = .ok (.aload_n 0, 1) := by decide +kernel
theorem dX8_driftBy_7 : decode cX8_driftBy 7 = .ok (.getfield 7, 3) := by decide +kernel
theorem dX8_driftBy_10 : decode cX8_driftBy 10 = .ok (.iconst 4, 1) := by decide +kernel
theorem dX8_driftBy_11 : decode cX8_driftBy 11 = .ok (.iaload, 1) := by decide +kernel
theorem dX8_driftBy_12 : decode cX8_driftBy 12 = .ok (.invokevirtual 178, 3) := by decide +kernel
theorem dX8_driftBy_15 : decode cX8_driftBy 15 = .ok (.aload_n 0, 1) := by decide +kernel
theorem dX8_driftBy_16 : decode cX8_driftBy 16 = .ok (.invokevirtual 174, 3) := by decide +kernel
theorem dX8_driftBy_19 : decode cX8_driftBy 19 = .ok (.iload_n 1, 1) := by decide +kernel
theorem dX8_driftBy_20 : decode cX8_driftBy 20 = .ok (.isub, 1) := by decide +kernel
theorem dX8_driftBy_21 : decode cX8_driftBy 21 = .ok (.ireturn, 1) := by decide +kernel
theorem dX8_minds_0 : decode cX8_minds 0 = .ok (.aload_n 0, 1) := by decide +kernel
theorem dX8_minds_1 : decode cX8_minds 1 = .ok (.getfield 153, 3) := by decide +kernel
theorem dX8_minds_4 : decode cX8_minds 4 = .ok (.bipush 24, 2) := by decide +kernel
theorem dX8_minds_6 : decode cX8_minds 6 = .ok (.if_icmp .ne 51, 3) := by decide +kernel
theorem dX8_minds_9 : decode cX8_minds 9 = .ok (.iconst 0, 1) := by decide +kernel
theorem dX8_minds_10 : decode cX8_minds 10 = .ok (.istore_n 1, 1) := by decide +kernel
theorem dX8_minds_11 : decode cX8_minds 11 = .ok (.iload_n 1, 1) := by decide +kernel
theorem dX8_minds_12 : decode cX8_minds 12 = .ok (.sipush 1403, 3) := by decide +kernel
theorem dX8_minds_15 : decode cX8_minds 15 = .ok (.if_icmp .ge 32, 3) := by decide +kernel
theorem dX8_minds_18 : decode cX8_minds 18 = .ok (.aload_n 0, 1) := by decide +kernel
theorem dX8_minds_19 : decode cX8_minds 19 = .ok (.getfield 7, 3) := by decide +kernel
theorem dX8_minds_22 : decode cX8_minds 22 = .ok (.sipush 244, 3) := by decide +kernel
theorem dX8_minds_25 : decode cX8_minds 25 = .ok (.iload_n 1, 1) := by decide +kernel
theorem dX8_minds_26 : decode cX8_minds 26 = .ok (.iadd, 1) := by decide +kernel
theorem dX8_minds_27 : decode cX8_minds 27 = .ok (.aload_n 0, 1) := by decide +kernel
theorem dX8_minds_28 : decode cX8_minds 28 = .ok (.getfield 7, 3) := by decide +kernel
theorem dX8_minds_31 : decode cX8_minds 31 = .ok (.sipush 244, 3) := by decide +kernel
theorem dX8_minds_34 : decode cX8_minds 34 = .ok (.iload_n 1, 1) := by decide +kernel
theorem dX8_minds_35 : decode cX8_minds 35 = .ok (.iadd, 1) := by decide +kernel
theorem dX8_minds_36 : decode cX8_minds 36 = .ok (.bipush 61, 2) := by decide +kernel
theorem dX8_minds_38 : decode cX8_minds 38 = .ok (.iadd, 1) := by decide +kernel
theorem dX8_minds_39 : decode cX8_minds 39 = .ok (.iaload, 1) := by decide +kernel
theorem dX8_minds_40 : decode cX8_minds 40 = .ok (.iastore, 1) := by decide +kernel
theorem dX8_minds_41 : decode cX8_minds 41 = .ok (.iinc 1 1, 3) := by decide +kernel
theorem dX8_minds_44 : decode cX8_minds 44 = .ok (.goto (-33), 3) := by decide +kernel
theorem dX8_minds_47 : decode cX8_minds 47 = .ok (.aload_n 0, 1) := by decide +kernel
theorem dX8_minds_48 : decode cX8_minds 48 = .ok (.dup, 1) := by decide +kernel
theorem dX8_minds_49 : decode cX8_minds 49 = .ok (.getfield 153, 3) := by decide +kernel
theorem dX8_minds_52 : decode cX8_minds 52 = .ok (.iconst 1, 1) := by decide +kernel
theorem dX8_minds_53 : decode cX8_minds 53 = .ok (.isub, 1) := by decide +kernel
theorem dX8_minds_54 : decode cX8_minds 54 = .ok (.putfield 153, 3) := by decide +kernel
theorem dX8_minds_57 : decode cX8_minds 57 = .ok (.iconst 0, 1) := by decide +kernel
theorem dX8_minds_58 : decode cX8_minds 58 = .ok (.istore_n 1, 1) := by decide +kernel
theorem dX8_minds_59 : decode cX8_minds 59 = .ok (.iload_n 1, 1) := by decide +kernel
theorem dX8_minds_60 : decode cX8_minds 60 = .ok (.bipush 61, 2) := by decide +kernel
theorem dX8_minds_62 : decode cX8_minds 62 = .ok (.if_icmp .ge 33, 3) := by decide +kernel
theorem dX8_minds_65 : decode cX8_minds 65 = .ok (.aload_n 0, 1) := by decide +kernel
theorem dX8_minds_66 : decode cX8_minds 66 = .ok (.getfield 7, 3) := by decide +kernel
theorem dX8_minds_69 : decode cX8_minds 69 = .ok (.sipush 244, 3) := by decide +kernel
theorem dX8_minds_72 : decode cX8_minds 72 = .ok (.bipush 61, 2) := by decide +kernel
theorem dX8_minds_74 : decode cX8_minds 74 = .ok (.aload_n 0, 1) := by decide +kernel
theorem dX8_minds_75 : decode cX8_minds 75 = .ok (.getfield 153, 3) := by decide +kernel
theorem dX8_minds_78 : decode cX8_minds 78 = .ok (.imul, 1) := by decide +kernel
theorem dX8_minds_79 : decode cX8_minds 79 = .ok (.iadd, 1) := by decide +kernel
theorem dX8_minds_80 : decode cX8_minds 80 = .ok (.iload_n 1, 1) := by decide +kernel
theorem dX8_minds_81 : decode cX8_minds 81 = .ok (.iadd, 1) := by decide +kernel
theorem dX8_minds_82 : decode cX8_minds 82 = .ok (.aload_n 0, 1) := by decide +kernel
theorem dX8_minds_83 : decode cX8_minds 83 = .ok (.getfield 7, 3) := by decide +kernel
theorem dX8_minds_86 : decode cX8_minds 86 = .ok (.iload_n 1, 1) := by decide +kernel
theorem dX8_minds_87 : decode cX8_minds 87 = .ok (.iaload, 1) := by decide +kernel
theorem dX8_minds_88 : decode cX8_minds 88 = .ok (.iastore, 1) := by decide +kernel
theorem dX8_minds_89 : decode cX8_minds 89 = .ok (.iinc 1 1, 3) := by decide +kernel
theorem dX8_minds_92 : decode cX8_minds 92 = .ok (.goto (-33), 3) := by decide +kernel
theorem dX8_minds_95 : decode cX8_minds 95 = .ok (.aload_n 0, 1) := by decide +kernel
theorem dX8_minds_96 : decode cX8_minds 96 = .ok (.dup, 1) := by decide +kernel
theorem dX8_minds_97 : decode cX8_minds 97 = .ok (.getfield 153, 3) := by decide +kernel
theorem dX8_minds_100 : decode cX8_minds 100 = .ok (.iconst 1, 1) := by decide +kernel
theorem dX8_minds_101 : decode cX8_minds 101 = .ok (.iadd, 1) := by decide +kernel
theorem dX8_minds_102 : decode cX8_minds 102 = .ok (.putfield 153, 3) := by decide +kernel
theorem dX8_minds_105 : decode cX8_minds 105 = .ok (.return_, 1) := by decide +kernel
theorem dX8_undo_0 : decode cX8_undo 0 = .ok (.aload_n 0, 1) := by decide +kernel
theorem dX8_undo_1 : decode cX8_undo 1 = .ok (.getfield 153, 3) := by decide +kernel
theorem dX8_undo_4 : decode cX8_undo 4 = .ok (.ifCond .ne 6, 3) := by decide +kernel
theorem dX8_undo_7 : decode cX8_undo 7 = .ok (.ldc 182, 2) := by decide +kernel
theorem dX8_undo_9 : decode cX8_undo 9 = .ok (.ireturn, 1) := by decide +kernel
theorem dX8_undo_10 : decode cX8_undo 10 = .ok (.aload_n 0, 1) := by decide +kernel
theorem dX8_undo_11 : decode cX8_undo 11 = .ok (.dup, 1) := by decide +kernel
theorem dX8_undo_12 : decode cX8_undo 12 = .ok (.getfield 153, 3) := by decide +kernel
theorem dX8_undo_15 : decode cX8_undo 15 = .ok (.iconst 1, 1) := by decide +kernel
theorem dX8_undo_16 : decode cX8_undo 16 = .ok (.isub, 1) := by decide +kernel
theorem dX8_undo_17 : decode cX8_undo 17 = .ok (.putfield 153, 3) := by decide +kernel
theorem dX8_undo_20 : decode cX8_undo 20 = .ok (.iconst 0, 1) := by decide +kernel
theorem dX8_undo_21 : decode cX8_undo 21 = .ok (.istore_n 1, 1) := by decide +kernel
theorem dX8_undo_22 : decode cX8_undo 22 = .ok (.iload_n 1, 1) := by decide +kernel
theorem dX8_undo_23 : decode cX8_undo 23 = .ok (.bipush 61, 2) := by decide +kernel
theorem dX8_undo_25 : decode cX8_undo 25 = .ok (.if_icmp .ge 33, 3) := by decide +kernel
theorem dX8_undo_28 : decode cX8_undo 28 = .ok (.aload_n 0, 1) := by decide +kernel
theorem dX8_undo_29 : decode cX8_undo 29 = .ok (.getfield 7, 3) := by decide +kernel
theorem dX8_undo_32 : decode cX8_undo 32 = .ok (.iload_n 1, 1) := by decide +kernel
theorem dX8_undo_33 : decode cX8_undo 33 = .ok (.aload_n 0, 1) := by decide +kernel
theorem dX8_undo_34 : decode cX8_undo 34 = .ok (.getfield 7, 3) := by decide +kernel
theorem dX8_undo_37 : decode cX8_undo 37 = .ok (.sipush 244, 3) := by decide +kernel
theorem dX8_undo_40 : decode cX8_undo 40 = .ok (.bipush 61, 2) := by decide +kernel
theorem dX8_undo_42 : decode cX8_undo 42 = .ok (.aload_n 0, 1) := by decide +kernel
theorem dX8_undo_43 : decode cX8_undo 43 = .ok (.getfield 153, 3) := by decide +kernel
theorem dX8_undo_46 : decode cX8_undo 46 = .ok (.imul, 1) := by decide +kernel
theorem dX8_undo_47 : decode cX8_undo 47 = .ok (.iadd, 1) := by decide +kernel
theorem dX8_undo_48 : decode cX8_undo 48 = .ok (.iload_n 1, 1) := by decide +kernel
theorem dX8_undo_49 : decode cX8_undo 49 = .ok (.iadd, 1) := by decide +kernel
theorem dX8_undo_50 : decode cX8_undo 50 = .ok (.iaload, 1) := by decide +kernel
theorem dX8_undo_51 : decode cX8_undo 51 = .ok (.iastore, 1) := by decide +kernel
theorem dX8_undo_52 : decode cX8_undo 52 = .ok (.iinc 1 1, 3) := by decide +kernel
theorem dX8_undo_55 : decode cX8_undo 55 = .ok (.goto (-33), 3) := by decide +kernel
theorem dX8_undo_58 : decode cX8_undo 58 = .ok (.aload_n 0, 1) := by decide +kernel
theorem dX8_undo_59 : decode cX8_undo 59 = .ok (.getfield 153, 3) := by decide +kernel
theorem dX8_undo_62 : decode cX8_undo 62 = .ok (.ireturn, 1) := by decide +kernel
theorem dX8_isPlayer_0 : decode cX8_isPlayer 0 = .ok (.iload_n 1, 1) := by decide +kernel
theorem dX8_isPlayer_1 : decode cX8_isPlayer 1 = .ok (.i2l, 1) := by decide +kernel
theorem dX8_isPlayer_2 : decode cX8_isPlayer 2 = .ok (.lconst 0, 1) := by decide +kernel
theorem dX8_isPlayer_3 : decode cX8_isPlayer 3 = .ok (.aload_n 0, 1) := by decide +kernel
theorem dX8_isPlayer_4 : decode cX8_isPlayer 4 = .ok (.getfield 7, 3) := by decide +kernel
theorem dX8_isPlayer_7 : decode cX8_isPlayer 7 = .ok (.iconst 5, 1) := by decide +kernel
theorem dX8_isPlayer_8 : decode cX8_isPlayer 8 = .ok (.iaload, 1) := by decide +kernel
theorem dX8_isPlayer_9 : decode cX8_isPlayer 9 = .ok (.iconst 1, 1) := by decide +kernel
theorem dX8_isPlayer_10 : decode cX8_isPlayer 10 = .ok (.isub, 1) := by decide +kernel
theorem dX8_isPlayer_11 : decode cX8_isPlayer 11 = .ok (.i2l, 1) := by decide +kernel
theorem dX8_isPlayer_12 : decode cX8_isPlayer 12 = .ok (.invokestatic 60, 3) := by decide +kernel
theorem dX8_isPlayer_15 : decode cX8_isPlayer 15 = .ok (.ireturn, 1) := by decide +kernel
theorem dX8_isNone_0 : decode cX8_isNone 0 = .ok (.aload_n 0, 1) := by decide +kernel
theorem dX8_isNone_1 : decode cX8_isNone 1 = .ok (.getfield 7, 3) := by decide +kernel
theorem dX8_isNone_4 : decode cX8_isNone 4 = .ok (.bipush 8, 2) := by decide +kernel
theorem dX8_isNone_6 : decode cX8_isNone 6 = .ok (.iaload, 1) := by decide +kernel
theorem dX8_isNone_7 : decode cX8_isNone 7 = .ok (.ifCond .ne 7, 3) := by decide +kernel
theorem dX8_isNone_10 : decode cX8_isNone 10 = .ok (.iconst 1, 1) := by decide +kernel
theorem dX8_isNone_11 : decode cX8_isNone 11 = .ok (.goto 4, 3) := by decide +kernel
theorem dX8_isNone_14 : decode cX8_isNone 14 = .ok (.iconst 0, 1) := by decide +kernel
theorem dX8_isNone_15 : decode cX8_isNone 15 = .ok (.ireturn, 1) := by decide +kernel
theorem dX8_bars_0 : decode cX8_bars 0 = .ok (.aload_n 0, 1) := by decide +kernel
theorem dX8_bars_1 : decode cX8_bars 1 = .ok (.invokevirtual 183, 3) := by decide +kernel
theorem dX8_bars_4 : decode cX8_bars 4 = .ok (.ifCond .eq 6, 3) := by decide +kernel
theorem dX8_bars_7 : decode cX8_bars 7 = .ok (.ldc 182, 2) := by decide +kernel
theorem dX8_bars_9 : decode cX8_bars 9 = .ok (.ireturn, 1) := by decide +kernel
theorem dX8_bars_10 : decode cX8_bars 10 = .ok (.iload_n 1, 1) := by decide +kernel
theorem dX8_bars_11 : decode cX8_bars 11 = .ok (.i2l, 1) := by decide +kernel
theorem dX8_bars_12 : decode cX8_bars 12 = .ok (.lconst 1, 1) := by decide +kernel
theorem dX8_bars_13 : decode cX8_bars 13 = .ok (.ldc2_w 186, 3) := by decide +kernel
theorem dX8_bars_16 : decode cX8_bars 16 = .ok (.invokestatic 60, 3) := by decide +kernel
theorem dX8_bars_19 : decode cX8_bars 19 = .ok (.ifCond .ne 6, 3) := by decide +kernel
theorem dX8_bars_22 : decode cX8_bars 22 = .ok (.ldc 70, 2) := by decide +kernel
theorem dX8_bars_24 : decode cX8_bars 24 = .ok (.ireturn, 1) := by decide +kernel
theorem dX8_bars_25 : decode cX8_bars 25 = .ok (.aload_n 0, 1) := by decide +kernel
theorem dX8_bars_26 : decode cX8_bars 26 = .ok (.getfield 7, 3) := by decide +kernel
theorem dX8_bars_29 : decode cX8_bars 29 = .ok (.bipush 7, 2) := by decide +kernel
theorem dX8_bars_31 : decode cX8_bars 31 = .ok (.iaload, 1) := by decide +kernel
theorem dX8_bars_32 : decode cX8_bars 32 = .ok (.iload_n 1, 1) := by decide +kernel
theorem dX8_bars_33 : decode cX8_bars 33 = .ok (.iadd, 1) := by decide +kernel
theorem dX8_bars_34 : decode cX8_bars 34 = .ok (.sipush 999, 3) := by decide +kernel
theorem dX8_bars_37 : decode cX8_bars 37 = .ok (.if_icmp .le 6, 3) := by decide +kernel
theorem dX8_bars_40 : decode cX8_bars 40 = .ok (.ldc 91, 2) := by decide +kernel
theorem dX8_bars_42 : decode cX8_bars 42 = .ok (.ireturn, 1) := by decide +kernel
theorem dX8_bars_43 : decode cX8_bars 43 = .ok (.iconst 0, 1) := by decide +kernel
theorem dX8_bars_44 : decode cX8_bars 44 = .ok (.istore_n 2, 1) := by decide +kernel
theorem dX8_bars_45 : decode cX8_bars 45 = .ok (.iload_n 2, 1) := by decide +kernel
theorem dX8_bars_46 : decode cX8_bars 46 = .ok (.iload_n 1, 1) := by decide +kernel
theorem dX8_bars_47 : decode cX8_bars 47 = .ok (.if_icmp .ge 76, 3) := by decide +kernel
theorem dX8_bars_50 : decode cX8_bars 50 = .ok (.aload_n 0, 1) := by decide +kernel
theorem dX8_bars_51 : decode cX8_bars 51 = .ok (.invokevirtual 188, 3) := by decide +kernel
theorem dX8_bars_54 : decode cX8_bars 54 = .ok (.aload_n 0, 1) := by decide +kernel
theorem dX8_bars_55 : decode cX8_bars 55 = .ok (.invokevirtual 191, 3) := by decide +kernel
theorem dX8_bars_58 : decode cX8_bars 58 = .ok (.aload_n 0, 1) := by decide +kernel
theorem dX8_bars_59 : decode cX8_bars 59 = .ok (.invokevirtual 171, 3) := by decide +kernel
theorem dX8_bars_62 : decode cX8_bars 62 = .ok (.iconst 0, 1) := by decide +kernel
theorem dX8_bars_63 : decode cX8_bars 63 = .ok (.istore_n 3, 1) := by decide +kernel
theorem dX8_bars_64 : decode cX8_bars 64 = .ok (.iload_n 3, 1) := by decide +kernel
theorem dX8_bars_65 : decode cX8_bars 65 = .ok (.aload_n 0, 1) := by decide +kernel
theorem dX8_bars_66 : decode cX8_bars 66 = .ok (.getfield 7, 3) := by decide +kernel
theorem dX8_bars_69 : decode cX8_bars 69 = .ok (.iconst 5, 1) := by decide +kernel
theorem dX8_bars_70 : decode cX8_bars 70 = .ok (.iaload, 1) := by decide +kernel
theorem dX8_bars_71 : decode cX8_bars 71 = .ok (.if_icmp .ge 24, 3) := by decide +kernel
theorem dX8_bars_74 : decode cX8_bars 74 = .ok (.aload_n 0, 1) := by decide +kernel
theorem dX8_bars_75 : decode cX8_bars 75 = .ok (.getfield 7, 3) := by decide +kernel
theorem dX8_bars_78 : decode cX8_bars 78 = .ok (.bipush 26, 2) := by decide +kernel
theorem dX8_bars_80 : decode cX8_bars 80 = .ok (.iload_n 3, 1) := by decide +kernel
theorem dX8_bars_81 : decode cX8_bars 81 = .ok (.iadd, 1) := by decide +kernel
theorem dX8_bars_82 : decode cX8_bars 82 = .ok (.aload_n 0, 1) := by decide +kernel
theorem dX8_bars_83 : decode cX8_bars 83 = .ok (.getfield 32, 3) := by decide +kernel
theorem dX8_bars_86 : decode cX8_bars 86 = .ok (.iload_n 3, 1) := by decide +kernel
theorem dX8_bars_87 : decode cX8_bars 87 = .ok (.iaload, 1) := by decide +kernel
theorem dX8_bars_88 : decode cX8_bars 88 = .ok (.iastore, 1) := by decide +kernel
theorem dX8_bars_89 : decode cX8_bars 89 = .ok (.iinc 3 1, 3) := by decide +kernel
theorem dX8_bars_92 : decode cX8_bars 92 = .ok (.goto (-28), 3) := by decide +kernel
theorem dX8_bars_95 : decode cX8_bars 95 = .ok (.aload_n 0, 1) := by decide +kernel
theorem dX8_bars_96 : decode cX8_bars 96 = .ok (.getfield 7, 3) := by decide +kernel
theorem dX8_bars_99 : decode cX8_bars 99 = .ok (.bipush 6, 2) := by decide +kernel
theorem dX8_bars_101 : decode cX8_bars 101 = .ok (.aload_n 0, 1) := by decide +kernel
theorem dX8_bars_102 : decode cX8_bars 102 = .ok (.getfield 156, 3) := by decide +kernel
theorem dX8_bars_105 : decode cX8_bars 105 = .ok (.iastore, 1) := by decide +kernel
theorem dX8_bars_106 : decode cX8_bars 106 = .ok (.aload_n 0, 1) := by decide +kernel
theorem dX8_bars_107 : decode cX8_bars 107 = .ok (.getfield 7, 3) := by decide +kernel
theorem dX8_bars_110 : decode cX8_bars 110 = .ok (.bipush 7, 2) := by decide +kernel
theorem dX8_bars_112 : decode cX8_bars 112 = .ok (.dup2, 1) := by decide +kernel
theorem dX8_bars_113 : decode cX8_bars 113 = .ok (.iaload, 1) := by decide +kernel
theorem dX8_bars_114 : decode cX8_bars 114 = .ok (.iconst 1, 1) := by decide +kernel
theorem dX8_bars_115 : decode cX8_bars 115 = .ok (.iadd, 1) := by decide +kernel
theorem dX8_bars_116 : decode cX8_bars 116 = .ok (.iastore, 1) := by decide +kernel
theorem dX8_bars_117 : decode cX8_bars 117 = .ok (.iinc 2 1, 3) := by decide +kernel
theorem dX8_bars_120 : decode cX8_bars 120 = .ok (.goto (-75), 3) := by decide +kernel
theorem dX8_bars_123 : decode cX8_bars 123 = .ok (.aload_n 0, 1) := by decide +kernel
theorem dX8_bars_124 : decode cX8_bars 124 = .ok (.invokevirtual 194, 3) := by decide +kernel
theorem dX8_bars_127 : decode cX8_bars 127 = .ok (.ireturn, 1) := by decide +kernel
theorem dX8_pace_0 : decode cX8_pace 0 = .ok (.aload_n 0, 1) := by decide +kernel
theorem dX8_pace_1 : decode cX8_pace 1 = .ok (.iload_n 1, 1) := by decide +kernel
theorem dX8_pace_2 : decode cX8_pace 2 = .ok (.invokevirtual 197, 3) := by decide +kernel
theorem dX8_pace_5 : decode cX8_pace 5 = .ok (.ifCond .eq 17, 3) := by decide +kernel
theorem dX8_pace_8 : decode cX8_pace 8 = .ok (.iload_n 2, 1) := by decide +kernel
theorem dX8_pace_9 : decode cX8_pace 9 = .ok (.i2l, 1) := by decide +kernel
theorem dX8_pace_10 : decode cX8_pace 10 = .ok (.ldc2_w 200, 3) := by decide +kernel
theorem dX8_pace_13 : decode cX8_pace 13 = .ok (.ldc2_w 202, 3) := by decide +kernel
theorem dX8_pace_16 : decode cX8_pace 16 = .ok (.invokestatic 60, 3) := by decide +kernel
theorem dX8_pace_19 : decode cX8_pace 19 = .ok (.ifCond .ne 6, 3) := by decide +kernel
theorem dX8_pace_22 : decode cX8_pace 22 = .ok (.ldc 70, 2) := by decide +kernel
theorem dX8_pace_24 : decode cX8_pace 24 = .ok (.ireturn, 1) := by decide +kernel
theorem dX8_pace_25 : decode cX8_pace 25 = .ok (.aload_n 0, 1) := by decide +kernel
theorem dX8_pace_26 : decode cX8_pace 26 = .ok (.invokevirtual 188, 3) := by decide +kernel
theorem dX8_pace_29 : decode cX8_pace 29 = .ok (.aload_n 0, 1) := by decide +kernel
theorem dX8_pace_30 : decode cX8_pace 30 = .ok (.getfield 7, 3) := by decide +kernel
theorem dX8_pace_33 : decode cX8_pace 33 = .ok (.bipush 26, 2) := by decide +kernel
theorem dX8_pace_35 : decode cX8_pace 35 = .ok (.iload_n 1, 1) := by decide +kernel
theorem dX8_pace_36 : decode cX8_pace 36 = .ok (.iadd, 1) := by decide +kernel
theorem dX8_pace_37 : decode cX8_pace 37 = .ok (.iaload, 1) := by decide +kernel
theorem dX8_pace_38 : decode cX8_pace 38 = .ok (.istore_n 3, 1) := by decide +kernel
theorem dX8_pace_39 : decode cX8_pace 39 = .ok (.aload_n 0, 1) := by decide +kernel
theorem dX8_pace_40 : decode cX8_pace 40 = .ok (.getfield 7, 3) := by decide +kernel
theorem dX8_pace_43 : decode cX8_pace 43 = .ok (.bipush 26, 2) := by decide +kernel
theorem dX8_pace_45 : decode cX8_pace 45 = .ok (.iload_n 1, 1) := by decide +kernel
theorem dX8_pace_46 : decode cX8_pace 46 = .ok (.iadd, 1) := by decide +kernel
theorem dX8_pace_47 : decode cX8_pace 47 = .ok (.iload_n 2, 1) := by decide +kernel
theorem dX8_pace_48 : decode cX8_pace 48 = .ok (.iastore, 1) := by decide +kernel
theorem dX8_pace_49 : decode cX8_pace 49 = .ok (.iload_n 3, 1) := by decide +kernel
theorem dX8_pace_50 : decode cX8_pace 50 = .ok (.ireturn, 1) := by decide +kernel
theorem dX8_hears_0 : decode cX8_hears 0 = .ok (.aload_n 0, 1) := by decide +kernel
theorem dX8_hears_1 : decode cX8_hears 1 = .ok (.iload_n 1, 1) := by decide +kernel
theorem dX8_hears_2 : decode cX8_hears 2 = .ok (.invokevirtual 197, 3) := by decide +kernel
theorem dX8_hears_5 : decode cX8_hears 5 = .ok (.ifCond .eq 28, 3) := by decide +kernel
theorem dX8_hears_8 : decode cX8_hears 8 = .ok (.aload_n 0, 1) := by decide +kernel
theorem dX8_hears_9 : decode cX8_hears 9 = .ok (.iload_n 2, 1) := by decide +kernel
theorem dX8_hears_10 : decode cX8_hears 10 = .ok (.invokevirtual 197, 3) := by decide +kernel
theorem dX8_hears_13 : decode cX8_hears 13 = .ok (.ifCond .eq 20, 3) := by decide +kernel
theorem dX8_hears_16 : decode cX8_hears 16 = .ok (.iload_n 1, 1) := by decide +kernel
theorem dX8_hears_17 : decode cX8_hears 17 = .ok (.iload_n 2, 1) := by decide +kernel
theorem dX8_hears_18 : decode cX8_hears 18 = .ok (.if_icmp .eq 15, 3) := by decide +kernel
theorem dX8_hears_21 : decode cX8_hears 21 = .ok (.iload_n 3, 1) := by decide +kernel
theorem dX8_hears_22 : decode cX8_hears 22 = .ok (.i2l, 1) := by decide +kernel
theorem dX8_hears_23 : decode cX8_hears 23 = .ok (.lconst 0, 1) := by decide +kernel
theorem dX8_hears_24 : decode cX8_hears 24 = .ok (.ldc2_w 204, 3) := by decide +kernel
theorem dX8_hears_27 : decode cX8_hears 27 = .ok (.invokestatic 60, 3) := by decide +kernel
theorem dX8_hears_30 : decode cX8_hears 30 = .ok (.ifCond .ne 6, 3) := by decide +kernel
theorem dX8_hears_33 : decode cX8_hears 33 = .ok (.ldc 70, 2) := by decide +kernel
theorem dX8_hears_35 : decode cX8_hears 35 = .ok (.ireturn, 1) := by decide +kernel
theorem dX8_hears_36 : decode cX8_hears 36 = .ok (.aload_n 0, 1) := by decide +kernel
theorem dX8_hears_37 : decode cX8_hears 37 = .ok (.invokevirtual 188, 3) := by decide +kernel
theorem dX8_hears_40 : decode cX8_hears 40 = .ok (.aload_n 0, 1) := by decide +kernel
theorem dX8_hears_41 : decode cX8_hears 41 = .ok (.getfield 7, 3) := by decide +kernel
theorem dX8_hears_44 : decode cX8_hears 44 = .ok (.bipush 36, 2) := by decide +kernel
theorem dX8_hears_46 : decode cX8_hears 46 = .ok (.iconst 5, 1) := by decide +kernel
theorem dX8_hears_47 : decode cX8_hears 47 = .ok (.iload_n 1, 1) := by decide +kernel
theorem dX8_hears_48 : decode cX8_hears 48 = .ok (.imul, 1) := by decide +kernel
theorem dX8_hears_49 : decode cX8_hears 49 = .ok (.iadd, 1) := by decide +kernel
theorem dX8_hears_50 : decode cX8_hears 50 = .ok (.iload_n 2, 1) := by decide +kernel
theorem dX8_hears_51 : decode cX8_hears 51 = .ok (.iadd, 1) := by decide +kernel
theorem dX8_hears_52 : decode cX8_hears 52 = .ok (.iaload, 1) := by decide +kernel
theorem dX8_hears_53 : decode cX8_hears 53 = .ok (.istore 4, 2) := by decide +kernel
theorem dX8_hears_55 : decode cX8_hears 55 = .ok (.aload_n 0, 1) := by decide +kernel
theorem dX8_hears_56 : decode cX8_hears 56 = .ok (.getfield 7, 3) := by decide +kernel
theorem dX8_hears_59 : decode cX8_hears 59 = .ok (.bipush 36, 2) := by decide +kernel
theorem dX8_hears_61 : decode cX8_hears 61 = .ok (.iconst 5, 1) := by decide +kernel
theorem dX8_hears_62 : decode cX8_hears 62 = .ok (.iload_n 1, 1) := by decide +kernel
theorem dX8_hears_63 : decode cX8_hears 63 = .ok (.imul, 1) := by decide +kernel
theorem dX8_hears_64 : decode cX8_hears 64 = .ok (.iadd, 1) := by decide +kernel
theorem dX8_hears_65 : decode cX8_hears 65 = .ok (.iload_n 2, 1) := by decide +kernel
theorem dX8_hears_66 : decode cX8_hears 66 = .ok (.iadd, 1) := by decide +kernel
theorem dX8_hears_67 : decode cX8_hears 67 = .ok (.iload_n 3, 1) := by decide +kernel
theorem dX8_hears_68 : decode cX8_hears 68 = .ok (.iastore, 1) := by decide +kernel
theorem dX8_hears_69 : decode cX8_hears 69 = .ok (.iload 4, 2) := by decide +kernel
theorem dX8_hears_71 : decode cX8_hears 71 = .ok (.ireturn, 1) := by decide +kernel
theorem dX8_click_0 : decode cX8_click 0 = .ok (.aload_n 0, 1) := by decide +kernel
theorem dX8_click_1 : decode cX8_click 1 = .ok (.invokevirtual 183, 3) := by decide +kernel
theorem dX8_click_4 : decode cX8_click 4 = .ok (.ifCond .eq 6, 3) := by decide +kernel
theorem dX8_click_7 : decode cX8_click 7 = .ok (.ldc 182, 2) := by decide +kernel
theorem dX8_click_9 : decode cX8_click 9 = .ok (.ireturn, 1) := by decide +kernel
theorem dX8_click_10 : decode cX8_click 10 = .ok (.iload_n 1, 1) := by decide +kernel
theorem dX8_click_11 : decode cX8_click 11 = .ok (.i2l, 1) := by decide +kernel
theorem dX8_click_12 : decode cX8_click 12 = .ok (.ldc2_w 206, 3) := by decide +kernel
theorem dX8_click_15 : decode cX8_click 15 = .ok (.ldc2_w 208, 3) := by decide +kernel
theorem dX8_click_18 : decode cX8_click 18 = .ok (.invokestatic 60, 3) := by decide +kernel
theorem dX8_click_21 : decode cX8_click 21 = .ok (.ifCond .ne 6, 3) := by decide +kernel
theorem dX8_click_24 : decode cX8_click 24 = .ok (.ldc 70, 2) := by decide +kernel
theorem dX8_click_26 : decode cX8_click 26 = .ok (.ireturn, 1) := by decide +kernel
theorem dX8_click_27 : decode cX8_click 27 = .ok (.aload_n 0, 1) := by decide +kernel
theorem dX8_click_28 : decode cX8_click 28 = .ok (.invokevirtual 188, 3) := by decide +kernel
theorem dX8_click_31 : decode cX8_click 31 = .ok (.aload_n 0, 1) := by decide +kernel
theorem dX8_click_32 : decode cX8_click 32 = .ok (.getfield 7, 3) := by decide +kernel
theorem dX8_click_35 : decode cX8_click 35 = .ok (.iconst 3, 1) := by decide +kernel
theorem dX8_click_36 : decode cX8_click 36 = .ok (.iaload, 1) := by decide +kernel
theorem dX8_click_37 : decode cX8_click 37 = .ok (.istore_n 2, 1) := by decide +kernel
theorem dX8_click_38 : decode cX8_click 38 = .ok (.aload_n 0, 1) := by decide +kernel
theorem dX8_click_39 : decode cX8_click 39 = .ok (.getfield 7, 3) := by decide +kernel
theorem dX8_click_42 : decode cX8_click 42 = .ok (.iconst 3, 1) := by decide +kernel
theorem dX8_click_43 : decode cX8_click 43 = .ok (.iload_n 1, 1) := by decide +kernel
theorem dX8_click_44 : decode cX8_click 44 = .ok (.iastore, 1) := by decide +kernel
theorem dX8_click_45 : decode cX8_click 45 = .ok (.iload_n 2, 1) := by decide +kernel
theorem dX8_click_46 : decode cX8_click 46 = .ok (.ireturn, 1) := by decide +kernel
theorem dX8_claps_0 : decode cX8_claps 0 = .ok (.aload_n 0, 1) := by decide +kernel
theorem dX8_claps_1 : decode cX8_claps 1 = .ok (.invokevirtual 183, 3) := by decide +kernel
theorem dX8_claps_4 : decode cX8_claps 4 = .ok (.ifCond .eq 6, 3) := by decide +kernel
theorem dX8_claps_7 : decode cX8_claps 7 = .ok (.ldc 182, 2) := by decide +kernel
theorem dX8_claps_9 : decode cX8_claps 9 = .ok (.ireturn, 1) := by decide +kernel
theorem dX8_claps_10 : decode cX8_claps 10 = .ok (.iload_n 1, 1) := by decide +kernel
theorem dX8_claps_11 : decode cX8_claps 11 = .ok (.i2l, 1) := by decide +kernel
theorem dX8_claps_12 : decode cX8_claps 12 = .ok (.lconst 1, 1) := by decide +kernel
theorem dX8_claps_13 : decode cX8_claps 13 = .ok (.ldc2_w 208, 3) := by decide +kernel
theorem dX8_claps_16 : decode cX8_claps 16 = .ok (.invokestatic 60, 3) := by decide +kernel
theorem dX8_claps_19 : decode cX8_claps 19 = .ok (.ifCond .ne 6, 3) := by decide +kernel
theorem dX8_claps_22 : decode cX8_claps 22 = .ok (.ldc 70, 2) := by decide +kernel
theorem dX8_claps_24 : decode cX8_claps 24 = .ok (.ireturn, 1) := by decide +kernel
theorem dX8_claps_25 : decode cX8_claps 25 = .ok (.aload_n 0, 1) := by decide +kernel
theorem dX8_claps_26 : decode cX8_claps 26 = .ok (.invokevirtual 188, 3) := by decide +kernel
theorem dX8_claps_29 : decode cX8_claps 29 = .ok (.iconst 0, 1) := by decide +kernel
theorem dX8_claps_30 : decode cX8_claps 30 = .ok (.istore_n 2, 1) := by decide +kernel
theorem dX8_claps_31 : decode cX8_claps 31 = .ok (.iload_n 2, 1) := by decide +kernel
theorem dX8_claps_32 : decode cX8_claps 32 = .ok (.aload_n 0, 1) := by decide +kernel
theorem dX8_claps_33 : decode cX8_claps 33 = .ok (.getfield 7, 3) := by decide +kernel
theorem dX8_claps_36 : decode cX8_claps 36 = .ok (.iconst 5, 1) := by decide +kernel
theorem dX8_claps_37 : decode cX8_claps 37 = .ok (.iaload, 1) := by decide +kernel
theorem dX8_claps_38 : decode cX8_claps 38 = .ok (.if_icmp .ge 32, 3) := by decide +kernel
theorem dX8_claps_41 : decode cX8_claps 41 = .ok (.aload_n 0, 1) := by decide +kernel
theorem dX8_claps_42 : decode cX8_claps 42 = .ok (.getfield 7, 3) := by decide +kernel
theorem dX8_claps_45 : decode cX8_claps 45 = .ok (.bipush 26, 2) := by decide +kernel
theorem dX8_claps_47 : decode cX8_claps 47 = .ok (.iload_n 2, 1) := by decide +kernel
theorem dX8_claps_48 : decode cX8_claps 48 = .ok (.iadd, 1) := by decide +kernel
theorem dX8_claps_49 : decode cX8_claps 49 = .ok (.aload_n 0, 1) := by decide +kernel
theorem dX8_claps_50 : decode cX8_claps 50 = .ok (.getfield 7, 3) := by decide +kernel
theorem dX8_claps_53 : decode cX8_claps 53 = .ok (.bipush 26, 2) := by decide +kernel
theorem dX8_claps_55 : decode cX8_claps 55 = .ok (.iload_n 2, 1) := by decide +kernel
theorem dX8_claps_56 : decode cX8_claps 56 = .ok (.iadd, 1) := by decide +kernel
theorem dX8_claps_57 : decode cX8_claps 57 = .ok (.iaload, 1) := by decide +kernel
theorem dX8_claps_58 : decode cX8_claps 58 = .ok (.iload_n 1, 1) := by decide +kernel
theorem dX8_claps_59 : decode cX8_claps 59 = .ok (.iadd, 1) := by decide +kernel
theorem dX8_claps_60 : decode cX8_claps 60 = .ok (.invokestatic 165, 3) := by decide +kernel
theorem dX8_claps_63 : decode cX8_claps 63 = .ok (.iastore, 1) := by decide +kernel
theorem dX8_claps_64 : decode cX8_claps 64 = .ok (.iinc 2 1, 3) := by decide +kernel
theorem dX8_claps_67 : decode cX8_claps 67 = .ok (.goto (-36), 3) := by decide +kernel
theorem dX8_claps_70 : decode cX8_claps 70 = .ok (.aload_n 0, 1) := by decide +kernel
theorem dX8_claps_71 : decode cX8_claps 71 = .ok (.invokevirtual 194, 3) := by decide +kernel
theorem dX8_claps_74 : decode cX8_claps 74 = .ok (.ireturn, 1) := by decide +kernel
theorem dX8_player_0 : decode cX8_player 0 = .ok (.aload_n 0, 1) := by decide +kernel
theorem dX8_player_1 : decode cX8_player 1 = .ok (.iload_n 1, 1) := by decide +kernel
theorem dX8_player_2 : decode cX8_player 2 = .ok (.invokevirtual 197, 3) := by decide +kernel
theorem dX8_player_5 : decode cX8_player 5 = .ok (.ifCond .eq 15, 3) := by decide +kernel
theorem dX8_player_8 : decode cX8_player 8 = .ok (.iload_n 2, 1) := by decide +kernel
theorem dX8_player_9 : decode cX8_player 9 = .ok (.i2l, 1) := by decide +kernel
theorem dX8_player_10 : decode cX8_player 10 = .ok (.lconst 0, 1) := by decide +kernel
theorem dX8_player_11 : decode cX8_player 11 = .ok (.ldc2_w 210, 3) := by decide +kernel
theorem dX8_player_14 : decode cX8_player 14 = .ok (.invokestatic 60, 3) := by decide +kernel
theorem dX8_player_17 : decode cX8_player 17 = .ok (.ifCond .ne 6, 3) := by decide +kernel
theorem dX8_player_20 : decode cX8_player 20 = .ok (.ldc 70, 2) := by decide +kernel
theorem dX8_player_22 : decode cX8_player 22 = .ok (.ireturn, 1) := by decide +kernel
theorem dX8_player_23 : decode cX8_player 23 = .ok (.iconst 0, 1) := by decide +kernel
