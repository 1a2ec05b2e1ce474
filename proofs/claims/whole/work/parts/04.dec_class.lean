theorem dX7_init_0 : decode cX7_init 0 = .ok (.aload_n 0, 1) := by decide +kernel
theorem dX7_init_1 : decode cX7_init 1 = .ok (.invokespecial 1, 3) := by decide +kernel
theorem dX7_init_4 : decode cX7_init 4 = .ok (.aload_n 0, 1) := by decide +kernel
theorem dX7_init_5 : decode cX7_init 5 = .ok (.new 7, 3) := by decide +kernel
theorem dX7_init_8 : decode cX7_init 8 = .ok (.dup, 1) := by decide +kernel
theorem dX7_init_9 : decode cX7_init 9 = .ok (.invokespecial 9, 3) := by decide +kernel
theorem dX7_init_12 : decode cX7_init 12 = .ok (.putfield 10, 3) := by decide +kernel
theorem dX7_init_15 : decode cX7_init 15 = .ok (.aload_n 0, 1) := by decide +kernel
theorem dX7_init_16 : decode cX7_init 16 = .ok (.new 16, 3) := by decide +kernel
theorem dX7_init_19 : decode cX7_init 19 = .ok (.dup, 1) := by decide +kernel
theorem dX7_init_20 : decode cX7_init 20 = .ok (.invokespecial 18, 3) := by decide +kernel
theorem dX7_init_23 : decode cX7_init 23 = .ok (.putfield 19, 3) := by decide +kernel
theorem dX7_init_26 : decode cX7_init 26 = .ok (.aload_n 0, 1) := by decide +kernel
theorem dX7_init_27 : decode cX7_init 27 = .ok (.new 23, 3) := by decide +kernel
theorem dX7_init_30 : decode cX7_init 30 = .ok (.dup, 1) := by decide +kernel
theorem dX7_init_31 : decode cX7_init 31 = .ok (.invokespecial 25, 3) := by decide +kernel
theorem dX7_init_34 : decode cX7_init 34 = .ok (.putfield 26, 3) := by decide +kernel
theorem dX7_init_37 : decode cX7_init 37 = .ok (.aload_n 0, 1) := by decide +kernel
theorem dX7_init_38 : decode cX7_init 38 = .ok (.new 23, 3) := by decide +kernel
theorem dX7_init_41 : decode cX7_init 41 = .ok (.dup, 1) := by decide +kernel
theorem dX7_init_42 : decode cX7_init 42 = .ok (.invokespecial 25, 3) := by decide +kernel
theorem dX7_init_45 : decode cX7_init 45 = .ok (.putfield 30, 3) := by decide +kernel
theorem dX7_init_48 : decode cX7_init 48 = .ok (.aload_n 0, 1) := by decide +kernel
theorem dX7_init_49 : decode cX7_init 49 = .ok (.new 33, 3) := by decide +kernel
theorem dX7_init_52 : decode cX7_init 52 = .ok (.dup, 1) := by decide +kernel
theorem dX7_init_53 : decode cX7_init 53 = .ok (.invokespecial 35, 3) := by decide +kernel
theorem dX7_init_56 : decode cX7_init 56 = .ok (.putfield 36, 3) := by decide +kernel
theorem dX7_init_59 : decode cX7_init 59 = .ok (.aload_n 0, 1) := by decide +kernel
theorem dX7_init_60 : decode cX7_init 60 = .ok (.new 40, 3) := by decide +kernel
theorem dX7_init_63 : decode cX7_init 63 = .ok (.dup, 1) := by decide +kernel
theorem dX7_init_64 : decode cX7_init 64 = .ok (.invokespecial 42, 3) := by decide +kernel
theorem dX7_init_67 : decode cX7_init 67 = .ok (.putfield 43, 3) := by decide +kernel
theorem dX7_init_70 : decode cX7_init 70 = .ok (.aload_n 0, 1) := by decide +kernel
theorem dX7_init_71 : decode cX7_init 71 = .ok (.new 47, 3) := by decide +kernel
theorem dX7_init_74 : decode cX7_init 74 = .ok (.dup, 1) := by decide +kernel
theorem dX7_init_75 : decode cX7_init 75 = .ok (.invokespecial 49, 3) := by decide +kernel
theorem dX7_init_78 : decode cX7_init 78 = .ok (.putfield 50, 3) := by decide +kernel
theorem dX7_init_81 : decode cX7_init 81 = .ok (.aload_n 0, 1) := by decide +kernel
theorem dX7_init_82 : decode cX7_init 82 = .ok (.new 54, 3) := by decide +kernel
theorem dX7_init_85 : decode cX7_init 85 = .ok (.dup, 1) := by decide +kernel
theorem dX7_init_86 : decode cX7_init 86 = .ok (.invokespecial 56, 3) := by decide +kernel
theorem dX7_init_89 : decode cX7_init 89 = .ok (.putfield 57, 3) := by decide +kernel
theorem dX7_init_92 : decode cX7_init 92 = .ok (.aload_n 0, 1) := by decide +kernel
theorem dX7_init_93 : decode cX7_init 93 = .ok (.iconst 2, 1) := by decide +kernel
theorem dX7_init_94 : decode cX7_init 94 = .ok (.anewarray 23, 3) := by decide +kernel
theorem dX7_init_97 : decode cX7_init 97 = .ok (.putfield 61, 3) := by decide +kernel
theorem dX7_init_100 : decode cX7_init 100 = .ok (.iconst 0, 1) := by decide +kernel
theorem dX7_init_101 : decode cX7_init 101 = .ok (.istore_n 1, 1) := by decide +kernel
theorem dX7_init_102 : decode cX7_init 102 = .ok (.iload_n 1, 1) := by decide +kernel
theorem dX7_init_103 : decode cX7_init 103 = .ok (.iconst 2, 1) := by decide +kernel
theorem dX7_init_104 : decode cX7_init 104 = .ok (.if_icmp .ge 22, 3) := by decide +kernel
theorem dX7_init_107 : decode cX7_init 107 = .ok (.aload_n 0, 1) := by decide +kernel
theorem dX7_init_108 : decode cX7_init 108 = .ok (.getfield 61, 3) := by decide +kernel
theorem dX7_init_111 : decode cX7_init 111 = .ok (.iload_n 1, 1) := by decide +kernel
theorem dX7_init_112 : decode cX7_init 112 = .ok (.new 23, 3) := by decide +kernel
theorem dX7_init_115 : decode cX7_init 115 = .ok (.dup, 1) := by decide +kernel
theorem dX7_init_116 : decode cX7_init 116 = .ok (.invokespecial 25, 3) := by decide +kernel
theorem dX7_init_119 : decode cX7_init 119 = .ok (.aastore, 1) := by decide +kernel
theorem dX7_init_120 : decode cX7_init 120 = .ok (.iinc 1 1, 3) := by decide +kernel
theorem dX7_init_123 : decode cX7_init 123 = .ok (.goto (-21), 3) := by decide +kernel
theorem dX7_init_126 : decode cX7_init 126 = .ok (.return_, 1) := by decide +kernel
theorem dX7_row_0 : decode cX7_row 0 = .ok (.aload_n 0, 1) := by decide +kernel
theorem dX7_row_1 : decode cX7_row 1 = .ok (.getfield 10, 3) := by decide +kernel
theorem dX7_row_4 : decode cX7_row 4 = .ok (.iload_n 1, 1) := by decide +kernel
theorem dX7_row_5 : decode cX7_row 5 = .ok (.invokevirtual 65, 3) := by decide +kernel
theorem dX7_row_8 : decode cX7_row 8 = .ok (.ifCond .eq 18, 3) := by decide +kernel
theorem dX7_row_11 : decode cX7_row 11 = .ok (.iload_n 2, 1) := by decide +kernel
theorem dX7_row_12 : decode cX7_row 12 = .ok (.iconst 0, 1) := by decide +kernel
theorem dX7_row_13 : decode cX7_row 13 = .ok (.iconst 2, 1) := by decide +kernel
theorem dX7_row_14 : decode cX7_row 14 = .ok (.invokestatic 69, 3) := by decide +kernel
theorem dX7_row_17 : decode cX7_row 17 = .ok (.ifCond .eq 9, 3) := by decide +kernel
theorem dX7_row_20 : decode cX7_row 20 = .ok (.iload_n 3, 1) := by decide +kernel
theorem dX7_row_21 : decode cX7_row 21 = .ok (.bipush 40, 2) := by decide +kernel
theorem dX7_row_23 : decode cX7_row 23 = .ok (.if_icmp .le 6, 3) := by decide +kernel
theorem dX7_row_26 : decode cX7_row 26 = .ok (.ldc 73, 2) := by decide +kernel
theorem dX7_row_28 : decode cX7_row 28 = .ok (.ireturn, 1) := by decide +kernel
theorem dX7_row_29 : decode cX7_row 29 = .ok (.iload_n 3, 1) := by decide +kernel
theorem dX7_row_30 : decode cX7_row 30 = .ok (.ifCond .ge 9, 3) := by decide +kernel
theorem dX7_row_33 : decode cX7_row 33 = .ok (.aload_n 0, 1) := by decide +kernel
theorem dX7_row_34 : decode cX7_row 34 = .ok (.iconst 4, 1) := by decide +kernel
theorem dX7_row_35 : decode cX7_row 35 = .ok (.invokevirtual 74, 3) := by decide +kernel
theorem dX7_row_38 : decode cX7_row 38 = .ok (.ireturn, 1) := by decide +kernel
theorem dX7_row_39 : decode cX7_row 39 = .ok (.aload_n 0, 1) := by decide +kernel
theorem dX7_row_40 : decode cX7_row 40 = .ok (.getfield 10, 3) := by decide +kernel
theorem dX7_row_43 : decode cX7_row 43 = .ok (.iload_n 1, 1) := by decide +kernel
theorem dX7_row_44 : decode cX7_row 44 = .ok (.iload_n 2, 1) := by decide +kernel
theorem dX7_row_45 : decode cX7_row 45 = .ok (.iload_n 3, 1) := by decide +kernel
theorem dX7_row_46 : decode cX7_row 46 = .ok (.invokevirtual 78, 3) := by decide +kernel
theorem dX7_row_49 : decode cX7_row 49 = .ok (.aload_n 0, 1) := by decide +kernel
theorem dX7_row_50 : decode cX7_row 50 = .ok (.iload_n 3, 1) := by decide +kernel
theorem dX7_row_51 : decode cX7_row 51 = .ok (.invokevirtual 82, 3) := by decide +kernel
theorem dX7_row_54 : decode cX7_row 54 = .ok (.ireturn, 1) := by decide +kernel
theorem dX7_set_0 : decode cX7_set 0 = .ok (.aload_n 0, 1) := by decide +kernel
theorem dX7_set_1 : decode cX7_set 1 = .ok (.getfield 10, 3) := by decide +kernel
theorem dX7_set_4 : decode cX7_set 4 = .ok (.iload_n 1, 1) := by decide +kernel
theorem dX7_set_5 : decode cX7_set 5 = .ok (.invokevirtual 65, 3) := by decide +kernel
theorem dX7_set_8 : decode cX7_set 8 = .ok (.ifCond .ne 6, 3) := by decide +kernel
theorem dX7_set_11 : decode cX7_set 11 = .ok (.ldc 73, 2) := by decide +kernel
theorem dX7_set_13 : decode cX7_set 13 = .ok (.ireturn, 1) := by decide +kernel
theorem dX7_set_14 : decode cX7_set 14 = .ok (.aload_n 0, 1) := by decide +kernel
theorem dX7_set_15 : decode cX7_set 15 = .ok (.getfield 10, 3) := by decide +kernel
theorem dX7_set_18 : decode cX7_set 18 = .ok (.iload_n 1, 1) := by decide +kernel
theorem dX7_set_19 : decode cX7_set 19 = .ok (.invokevirtual 85, 3) := by decide +kernel
theorem dX7_set_22 : decode cX7_set 22 = .ok (.ifCond .eq 9, 3) := by decide +kernel
theorem dX7_set_25 : decode cX7_set 25 = .ok (.aload_n 0, 1) := by decide +kernel
theorem dX7_set_26 : decode cX7_set 26 = .ok (.iconst 1, 1) := by decide +kernel
theorem dX7_set_27 : decode cX7_set 27 = .ok (.invokevirtual 74, 3) := by decide +kernel
theorem dX7_set_30 : decode cX7_set 30 = .ok (.ireturn, 1) := by decide +kernel
theorem dX7_set_31 : decode cX7_set 31 = .ok (.aload_n 0, 1) := by decide +kernel
theorem dX7_set_32 : decode cX7_set 32 = .ok (.getfield 10, 3) := by decide +kernel
theorem dX7_set_35 : decode cX7_set 35 = .ok (.iload_n 1, 1) := by decide +kernel
theorem dX7_set_36 : decode cX7_set 36 = .ok (.iload_n 2, 1) := by decide +kernel
theorem dX7_set_37 : decode cX7_set 37 = .ok (.iconst 1, 1) := by decide +kernel
theorem dX7_set_38 : decode cX7_set 38 = .ok (.invokevirtual 88, 3) := by decide +kernel
theorem dX7_set_41 : decode cX7_set 41 = .ok (.ifCond .ne 9, 3) := by decide +kernel
theorem dX7_set_44 : decode cX7_set 44 = .ok (.aload_n 0, 1) := by decide +kernel
theorem dX7_set_45 : decode cX7_set 45 = .ok (.iconst 2, 1) := by decide +kernel
theorem dX7_set_46 : decode cX7_set 46 = .ok (.invokevirtual 74, 3) := by decide +kernel
theorem dX7_set_49 : decode cX7_set 49 = .ok (.ireturn, 1) := by decide +kernel
theorem dX7_set_50 : decode cX7_set 50 = .ok (.aload_n 0, 1) := by decide +kernel
theorem dX7_set_51 : decode cX7_set 51 = .ok (.aload_n 0, 1) := by decide +kernel
theorem dX7_set_52 : decode cX7_set 52 = .ok (.getfield 10, 3) := by decide +kernel
theorem dX7_set_55 : decode cX7_set 55 = .ok (.iload_n 1, 1) := by decide +kernel
theorem dX7_set_56 : decode cX7_set 56 = .ok (.iload_n 2, 1) := by decide +kernel
theorem dX7_set_57 : decode cX7_set 57 = .ok (.iload_n 3, 1) := by decide +kernel
theorem dX7_set_58 : decode cX7_set 58 = .ok (.invokevirtual 91, 3) := by decide +kernel
theorem dX7_set_61 : decode cX7_set 61 = .ok (.invokevirtual 82, 3) := by decide +kernel
theorem dX7_set_64 : decode cX7_set 64 = .ok (.ireturn, 1) := by decide +kernel
theorem dX7_copy_0 : decode cX7_copy 0 = .ok (.aload_n 0, 1) := by decide +kernel
theorem dX7_copy_1 : decode cX7_copy 1 = .ok (.getfield 10, 3) := by decide +kernel
theorem dX7_copy_4 : decode cX7_copy 4 = .ok (.iload_n 1, 1) := by decide +kernel
theorem dX7_copy_5 : decode cX7_copy 5 = .ok (.invokevirtual 65, 3) := by decide +kernel
theorem dX7_copy_8 : decode cX7_copy 8 = .ok (.ifCond .eq 14, 3) := by decide +kernel
theorem dX7_copy_11 : decode cX7_copy 11 = .ok (.aload_n 0, 1) := by decide +kernel
theorem dX7_copy_12 : decode cX7_copy 12 = .ok (.getfield 10, 3) := by decide +kernel
theorem dX7_copy_15 : decode cX7_copy 15 = .ok (.iload_n 3, 1) := by decide +kernel
theorem dX7_copy_16 : decode cX7_copy 16 = .ok (.invokevirtual 65, 3) := by decide +kernel
theorem dX7_copy_19 : decode cX7_copy 19 = .ok (.ifCond .ne 6, 3) := by decide +kernel
theorem dX7_copy_22 : decode cX7_copy 22 = .ok (.ldc 73, 2) := by decide +kernel
theorem dX7_copy_24 : decode cX7_copy 24 = .ok (.ireturn, 1) := by decide +kernel
theorem dX7_copy_25 : decode cX7_copy 25 = .ok (.aload_n 0, 1) := by decide +kernel
theorem dX7_copy_26 : decode cX7_copy 26 = .ok (.getfield 10, 3) := by decide +kernel
theorem dX7_copy_29 : decode cX7_copy 29 = .ok (.iload_n 1, 1) := by decide +kernel
theorem dX7_copy_30 : decode cX7_copy 30 = .ok (.invokevirtual 85, 3) := by decide +kernel
theorem dX7_copy_33 : decode cX7_copy 33 = .ok (.ifCond .ne 14, 3) := by decide +kernel
theorem dX7_copy_36 : decode cX7_copy 36 = .ok (.aload_n 0, 1) := by decide +kernel
theorem dX7_copy_37 : decode cX7_copy 37 = .ok (.getfield 10, 3) := by decide +kernel
theorem dX7_copy_40 : decode cX7_copy 40 = .ok (.iload_n 3, 1) := by decide +kernel
theorem dX7_copy_41 : decode cX7_copy 41 = .ok (.invokevirtual 85, 3) := by decide +kernel
theorem dX7_copy_44 : decode cX7_copy 44 = .ok (.ifCond .eq 9, 3) := by decide +kernel
theorem dX7_copy_47 : decode cX7_copy 47 = .ok (.aload_n 0, 1) := by decide +kernel
theorem dX7_copy_48 : decode cX7_copy 48 = .ok (.iconst 1, 1) := by decide +kernel
theorem dX7_copy_49 : decode cX7_copy 49 = .ok (.invokevirtual 74, 3) := by decide +kernel
theorem dX7_copy_52 : decode cX7_copy 52 = .ok (.ireturn, 1) := by decide +kernel
theorem dX7_copy_53 : decode cX7_copy 53 = .ok (.aload_n 0, 1) := by decide +kernel
theorem dX7_copy_54 : decode cX7_copy 54 = .ok (.getfield 10, 3) := by decide +kernel
theorem dX7_copy_57 : decode cX7_copy 57 = .ok (.iload_n 1, 1) := by decide +kernel
theorem dX7_copy_58 : decode cX7_copy 58 = .ok (.invokevirtual 95, 3) := by decide +kernel
theorem dX7_copy_61 : decode cX7_copy 61 = .ok (.aload_n 0, 1) := by decide +kernel
theorem dX7_copy_62 : decode cX7_copy 62 = .ok (.getfield 10, 3) := by decide +kernel
theorem dX7_copy_65 : decode cX7_copy 65 = .ok (.iload_n 3, 1) := by decide +kernel
theorem dX7_copy_66 : decode cX7_copy 66 = .ok (.invokevirtual 95, 3) := by decide +kernel
theorem dX7_copy_69 : decode cX7_copy 69 = .ok (.if_icmp .eq 9, 3) := by decide +kernel
theorem dX7_copy_72 : decode cX7_copy 72 = .ok (.aload_n 0, 1) := by decide +kernel
theorem dX7_copy_73 : decode cX7_copy 73 = .ok (.iconst 5, 1) := by decide +kernel
theorem dX7_copy_74 : decode cX7_copy 74 = .ok (.invokevirtual 74, 3) := by decide +kernel
theorem dX7_copy_77 : decode cX7_copy 77 = .ok (.ireturn, 1) := by decide +kernel
theorem dX7_copy_78 : decode cX7_copy 78 = .ok (.aload_n 0, 1) := by decide +kernel
theorem dX7_copy_79 : decode cX7_copy 79 = .ok (.getfield 10, 3) := by decide +kernel
theorem dX7_copy_82 : decode cX7_copy 82 = .ok (.iload_n 1, 1) := by decide +kernel
theorem dX7_copy_83 : decode cX7_copy 83 = .ok (.iload_n 2, 1) := by decide +kernel
theorem dX7_copy_84 : decode cX7_copy 84 = .ok (.iload 5, 2) := by decide +kernel
theorem dX7_copy_86 : decode cX7_copy 86 = .ok (.invokevirtual 88, 3) := by decide +kernel
theorem dX7_copy_89 : decode cX7_copy 89 = .ok (.ifCond .eq 18, 3) := by decide +kernel
theorem dX7_copy_92 : decode cX7_copy 92 = .ok (.aload_n 0, 1) := by decide +kernel
theorem dX7_copy_93 : decode cX7_copy 93 = .ok (.getfield 10, 3) := by decide +kernel
theorem dX7_copy_96 : decode cX7_copy 96 = .ok (.iload_n 3, 1) := by decide +kernel
theorem dX7_copy_97 : decode cX7_copy 97 = .ok (.iload 4, 2) := by decide +kernel
theorem dX7_copy_99 : decode cX7_copy 99 = .ok (.iload 5, 2) := by decide +kernel
theorem dX7_copy_101 : decode cX7_copy 101 = .ok (.invokevirtual 88, 3) := by decide +kernel
theorem dX7_copy_104 : decode cX7_copy 104 = .ok (.ifCond .ne 9, 3) := by decide +kernel
theorem dX7_copy_107 : decode cX7_copy 107 = .ok (.aload_n 0, 1) := by decide +kernel
theorem dX7_copy_108 : decode cX7_copy 108 = .ok (.iconst 2, 1) := by decide +kernel
theorem dX7_copy_109 : decode cX7_copy 109 = .ok (.invokevirtual 74, 3) := by decide +kernel
theorem dX7_copy_112 : decode cX7_copy 112 = .ok (.ireturn, 1) := by decide +kernel
theorem dX7_copy_113 : decode cX7_copy 113 = .ok (.aload_n 0, 1) := by decide +kernel
theorem dX7_copy_114 : decode cX7_copy 114 = .ok (.getfield 10, 3) := by decide +kernel
theorem dX7_copy_117 : decode cX7_copy 117 = .ok (.iload_n 1, 1) := by decide +kernel
theorem dX7_copy_118 : decode cX7_copy 118 = .ok (.iload_n 2, 1) := by decide +kernel
theorem dX7_copy_119 : decode cX7_copy 119 = .ok (.iload_n 3, 1) := by decide +kernel
theorem dX7_copy_120 : decode cX7_copy 120 = .ok (.iload 4, 2) := by decide +kernel
theorem dX7_copy_122 : decode cX7_copy 122 = .ok (.iload 5, 2) := by decide +kernel
theorem dX7_copy_124 : decode cX7_copy 124 = .ok (.invokevirtual 98, 3) := by decide +kernel
theorem dX7_copy_127 : decode cX7_copy 127 = .ok (.aload_n 0, 1) := by decide +kernel
theorem dX7_copy_128 : decode cX7_copy 128 = .ok (.iload 5, 2) := by decide +kernel
theorem dX7_copy_130 : decode cX7_copy 130 = .ok (.invokevirtual 82, 3) := by decide +kernel
theorem dX7_copy_133 : decode cX7_copy 133 = .ok (.ireturn, 1) := by decide +kernel
theorem dX7_drop_0 : decode cX7_drop 0 = .ok (.aload_n 0, 1) := by decide +kernel
theorem dX7_drop_1 : decode cX7_drop 1 = .ok (.getfield 10, 3) := by decide +kernel
theorem dX7_drop_4 : decode cX7_drop 4 = .ok (.iload_n 1, 1) := by decide +kernel
theorem dX7_drop_5 : decode cX7_drop 5 = .ok (.invokevirtual 65, 3) := by decide +kernel
theorem dX7_drop_8 : decode cX7_drop 8 = .ok (.ifCond .ne 6, 3) := by decide +kernel
theorem dX7_drop_11 : decode cX7_drop 11 = .ok (.ldc 73, 2) := by decide +kernel
theorem dX7_drop_13 : decode cX7_drop 13 = .ok (.ireturn, 1) := by decide +kernel
theorem dX7_drop_14 : decode cX7_drop 14 = .ok (.aload_n 0, 1) := by decide +kernel
theorem dX7_drop_15 : decode cX7_drop 15 = .ok (.getfield 10, 3) := by decide +kernel
theorem dX7_drop_18 : decode cX7_drop 18 = .ok (.iload_n 1, 1) := by decide +kernel
theorem dX7_drop_19 : decode cX7_drop 19 = .ok (.invokevirtual 85, 3) := by decide +kernel
theorem dX7_drop_22 : decode cX7_drop 22 = .ok (.ifCond .eq 9, 3) := by decide +kernel
theorem dX7_drop_25 : decode cX7_drop 25 = .ok (.aload_n 0, 1) := by decide +kernel
theorem dX7_drop_26 : decode cX7_drop 26 = .ok (.iconst 1, 1) := by decide +kernel
theorem dX7_drop_27 : decode cX7_drop 27 = .ok (.invokevirtual 74, 3) := by decide +kernel
theorem dX7_drop_30 : decode cX7_drop 30 = .ok (.ireturn, 1) := by decide +kernel
theorem dX7_drop_31 : decode cX7_drop 31 = .ok (.aload_n 0, 1) := by decide +kernel
theorem dX7_drop_32 : decode cX7_drop 32 = .ok (.aload_n 0, 1) := by decide +kernel
theorem dX7_drop_33 : decode cX7_drop 33 = .ok (.getfield 10, 3) := by decide +kernel
theorem dX7_drop_36 : decode cX7_drop 36 = .ok (.iload_n 1, 1) := by decide +kernel
theorem dX7_drop_37 : decode cX7_drop 37 = .ok (.invokevirtual 102, 3) := by decide +kernel
theorem dX7_drop_40 : decode cX7_drop 40 = .ok (.invokevirtual 82, 3) := by decide +kernel
theorem dX7_drop_43 : decode cX7_drop 43 = .ok (.ireturn, 1) := by decide +kernel
theorem dX7_feed_0 : decode cX7_feed 0 = .ok (.iload_n 1, 1) := by decide +kernel
theorem dX7_feed_1 : decode cX7_feed 1 = .ok (.iconst 0, 1) := by decide +kernel
theorem dX7_feed_2 : decode cX7_feed 2 = .ok (.sipush 255, 3) := by decide +kernel
theorem dX7_feed_5 : decode cX7_feed 5 = .ok (.invokestatic 69, 3) := by decide +kernel
theorem dX7_feed_8 : decode cX7_feed 8 = .ok (.ifCond .ne 6, 3) := by decide +kernel
theorem dX7_feed_11 : decode cX7_feed 11 = .ok (.ldc 73, 2) := by decide +kernel
theorem dX7_feed_13 : decode cX7_feed 13 = .ok (.ireturn, 1) := by decide +kernel
theorem dX7_feed_14 : decode cX7_feed 14 = .ok (.aload_n 0, 1) := by decide +kernel
theorem dX7_feed_15 : decode cX7_feed 15 = .ok (.getfield 19, 3) := by decide +kernel
theorem dX7_feed_18 : decode cX7_feed 18 = .ok (.iload_n 1, 1) := by decide +kernel
theorem dX7_feed_19 : decode cX7_feed 19 = .ok (.invokevirtual 105, 3) := by decide +kernel
theorem dX7_feed_22 : decode cX7_feed 22 = .ok (.ifCond .eq 13, 3) := by decide +kernel
theorem dX7_feed_25 : decode cX7_feed 25 = .ok (.aload_n 0, 1) := by decide +kernel
theorem dX7_feed_26 : decode cX7_feed 26 = .ok (.getfield 19, 3) := by decide +kernel
theorem dX7_feed_29 : decode cX7_feed 29 = .ok (.getfield 108, 3) := by decide +kernel
theorem dX7_feed_32 : decode cX7_feed 32 = .ok (.goto 5, 3) := by decide +kernel
theorem dX7_feed_35 : decode cX7_feed 35 = .ok (.ldc 112, 2) := by decide +kernel
theorem dX7_feed_37 : decode cX7_feed 37 = .ok (.ireturn, 1) := by decide +kernel
theorem dX7_band_0 : decode cX7_band 0 = .ok (.aload_n 0, 1) := by decide +kernel
theorem dX7_band_1 : decode cX7_band 1 = .ok (.getfield 19, 3) := by decide +kernel
theorem dX7_band_4 : decode cX7_band 4 = .ok (.aload_n 0, 1) := by decide +kernel
theorem dX7_band_5 : decode cX7_band 5 = .ok (.getfield 30, 3) := by decide +kernel
theorem dX7_band_8 : decode cX7_band 8 = .ok (.invokevirtual 113, 3) := by decide +kernel
theorem dX7_band_11 : decode cX7_band 11 = .ok (.istore_n 1, 1) := by decide +kernel
theorem dX7_band_12 : decode cX7_band 12 = .ok (.aload_n 0, 1) := by decide +kernel
theorem dX7_band_13 : decode cX7_band 13 = .ok (.getfield 19, 3) := by decide +kernel
theorem dX7_band_16 : decode cX7_band 16 = .ok (.iconst 0, 1) := by decide +kernel
theorem dX7_band_17 : decode cX7_band 17 = .ok (.putfield 108, 3) := by decide +kernel
theorem dX7_band_20 : decode cX7_band 20 = .ok (.iload_n 1, 1) := by decide +kernel
theorem dX7_band_21 : decode cX7_band 21 = .ok (.ifCond .ne 25, 3) := by decide +kernel
theorem dX7_band_24 : decode cX7_band 24 = .ok (.aload_n 0, 1) := by decide +kernel
theorem dX7_band_25 : decode cX7_band 25 = .ok (.aload_n 0, 1) := by decide +kernel
theorem dX7_band_26 : decode cX7_band 26 = .ok (.getfield 19, 3) := by decide +kernel
theorem dX7_band_29 : decode cX7_band 29 = .ok (.getfield 117, 3) := by decide +kernel
theorem dX7_band_32 : decode cX7_band 32 = .ok (.putfield 120, 3) := by decide +kernel
theorem dX7_band_35 : decode cX7_band 35 = .ok (.ldc 123, 2) := by decide +kernel
theorem dX7_band_37 : decode cX7_band 37 = .ok (.aload_n 0, 1) := by decide +kernel
theorem dX7_band_38 : decode cX7_band 38 = .ok (.getfield 19, 3) := by decide +kernel
theorem dX7_band_41 : decode cX7_band 41 = .ok (.getfield 124, 3) := by decide +kernel
theorem dX7_band_44 : decode cX7_band 44 = .ok (.isub, 1) := by decide +kernel
theorem dX7_band_45 : decode cX7_band 45 = .ok (.ireturn, 1) := by decide +kernel
theorem dX7_band_46 : decode cX7_band 46 = .ok (.aload_n 0, 1) := by decide +kernel
theorem dX7_band_47 : decode cX7_band 47 = .ok (.getfield 26, 3) := by decide +kernel
theorem dX7_band_50 : decode cX7_band 50 = .ok (.aload_n 0, 1) := by decide +kernel
theorem dX7_band_51 : decode cX7_band 51 = .ok (.getfield 30, 3) := by decide +kernel
theorem dX7_band_54 : decode cX7_band 54 = .ok (.invokevirtual 127, 3) := by decide +kernel
theorem dX7_band_57 : decode cX7_band 57 = .ok (.aload_n 0, 1) := by decide +kernel
theorem dX7_band_58 : decode cX7_band 58 = .ok (.getfield 36, 3) := by decide +kernel
theorem dX7_band_61 : decode cX7_band 61 = .ok (.invokevirtual 131, 3) := by decide +kernel
theorem dX7_band_64 : decode cX7_band 64 = .ok (.aload_n 0, 1) := by decide +kernel
theorem dX7_band_65 : decode cX7_band 65 = .ok (.getfield 26, 3) := by decide +kernel
theorem dX7_band_68 : decode cX7_band 68 = .ok (.getfield 133, 3) := by decide +kernel
theorem dX7_band_71 : decode cX7_band 71 = .ok (.ireturn, 1) := by decide +kernel
theorem dX7_fault_0 : decode cX7_fault 0 = .ok (.aload_n 0, 1) := by decide +kernel
theorem dX7_fault_1 : decode cX7_fault 1 = .ok (.getfield 120, 3) := by decide +kernel
theorem dX7_fault_4 : decode cX7_fault 4 = .ok (.ireturn, 1) := by decide +kernel
theorem dX7_undo_0 : decode cX7_undo 0 = .ok (.aload_n 0, 1) := by decide +kernel
theorem dX7_undo_1 : decode cX7_undo 1 = .ok (.getfield 36, 3) := by decide +kernel
theorem dX7_undo_4 : decode cX7_undo 4 = .ok (.aload_n 0, 1) := by decide +kernel
theorem dX7_undo_5 : decode cX7_undo 5 = .ok (.getfield 26, 3) := by decide +kernel
theorem dX7_undo_8 : decode cX7_undo 8 = .ok (.invokevirtual 136, 3) := by decide +kernel
theorem dX7_undo_11 : decode cX7_undo 11 = .ok (.ifCond .eq 13, 3) := by decide +kernel
theorem dX7_undo_14 : decode cX7_undo 14 = .ok (.aload_n 0, 1) := by decide +kernel
theorem dX7_undo_15 : decode cX7_undo 15 = .ok (.getfield 36, 3) := by decide +kernel
theorem dX7_undo_18 : decode cX7_undo 18 = .ok (.getfield 139, 3) := by decide +kernel
theorem dX7_undo_21 : decode cX7_undo 21 = .ok (.goto 5, 3) := by decide +kernel
theorem dX7_undo_24 : decode cX7_undo 24 = .ok (.ldc 142, 2) := by decide +kernel
theorem dX7_undo_26 : decode cX7_undo 26 = .ok (.ireturn, 1) := by decide +kernel
theorem dX7_bars_0 : decode cX7_bars 0 = .ok (.aload_n 0, 1) := by decide +kernel
theorem dX7_bars_1 : decode cX7_bars 1 = .ok (.getfield 26, 3) := by decide +kernel
theorem dX7_bars_4 : decode cX7_bars 4 = .ok (.invokevirtual 143, 3) := by decide +kernel
theorem dX7_bars_7 : decode cX7_bars 7 = .ok (.ifCond .ne 6, 3) := by decide +kernel
theorem dX7_bars_10 : decode cX7_bars 10 = .ok (.ldc 142, 2) := by decide +kernel
theorem dX7_bars_12 : decode cX7_bars 12 = .ok (.ireturn, 1) := by decide +kernel
theorem dX7_bars_13 : decode cX7_bars 13 = .ok (.iload_n 1, 1) := by decide +kernel
theorem dX7_bars_14 : decode cX7_bars 14 = .ok (.iconst 1, 1) := by decide +kernel
theorem dX7_bars_15 : decode cX7_bars 15 = .ok (.bipush 24, 2) := by decide +kernel
theorem dX7_bars_17 : decode cX7_bars 17 = .ok (.invokestatic 69, 3) := by decide +kernel
theorem dX7_bars_20 : decode cX7_bars 20 = .ok (.ifCond .ne 6, 3) := by decide +kernel
theorem dX7_bars_23 : decode cX7_bars 23 = .ok (.ldc 73, 2) := by decide +kernel
theorem dX7_bars_25 : decode cX7_bars 25 = .ok (.ireturn, 1) := by decide +kernel
theorem dX7_bars_26 : decode cX7_bars 26 = .ok (.aload_n 0, 1) := by decide +kernel
theorem dX7_bars_27 : decode cX7_bars 27 = .ok (.getfield 26, 3) := by decide +kernel
theorem dX7_bars_30 : decode cX7_bars 30 = .ok (.getfield 147, 3) := by decide +kernel
theorem dX7_bars_33 : decode cX7_bars 33 = .ok (.iload_n 1, 1) := by decide +kernel
theorem dX7_bars_34 : decode cX7_bars 34 = .ok (.iadd, 1) := by decide +kernel
theorem dX7_bars_35 : decode cX7_bars 35 = .ok (.sipush 999, 3) := by decide +kernel
theorem dX7_bars_38 : decode cX7_bars 38 = .ok (.if_icmp .le 6, 3) := by decide +kernel
theorem dX7_bars_41 : decode cX7_bars 41 = .ok (.ldc 112, 2) := by decide +kernel
theorem dX7_bars_43 : decode cX7_bars 43 = .ok (.ireturn, 1) := by decide +kernel
theorem dX7_bars_44 : decode cX7_bars 44 = .ok (.iconst 0, 1) := by decide +kernel
theorem dX7_bars_45 : decode cX7_bars 45 = .ok (.istore_n 2, 1) := by decide +kernel
theorem dX7_bars_46 : decode cX7_bars 46 = .ok (.iload_n 2, 1) := by decide +kernel
theorem dX7_bars_47 : decode cX7_bars 47 = .ok (.iload_n 1, 1) := by decide +kernel
theorem dX7_bars_48 : decode cX7_bars 48 = .ok (.if_icmp .ge 27, 3) := by decide +kernel
theorem dX7_bars_51 : decode cX7_bars 51 = .ok (.aload_n 0, 1) := by decide +kernel
theorem dX7_bars_52 : decode cX7_bars 52 = .ok (.getfield 36, 3) := by decide +kernel
theorem dX7_bars_55 : decode cX7_bars 55 = .ok (.aload_n 0, 1) := by decide +kernel
theorem dX7_bars_56 : decode cX7_bars 56 = .ok (.getfield 26, 3) := by decide +kernel
theorem dX7_bars_59 : decode cX7_bars 59 = .ok (.invokevirtual 150, 3) := by decide +kernel
theorem dX7_bars_62 : decode cX7_bars 62 = .ok (.aload_n 0, 1) := by decide +kernel
theorem dX7_bars_63 : decode cX7_bars 63 = .ok (.getfield 26, 3) := by decide +kernel
theorem dX7_bars_66 : decode cX7_bars 66 = .ok (.invokevirtual 153, 3) := by decide +kernel
theorem dX7_bars_69 : decode cX7_bars 69 = .ok (.iinc 2 1, 3) := by decide +kernel
theorem dX7_bars_72 : decode cX7_bars 72 = .ok (.goto (-26), 3) := by decide +kernel
theorem dX7_bars_75 : decode cX7_bars 75 = .ok (.aload_n 0, 1) := by decide +kernel
theorem dX7_bars_76 : decode cX7_bars 76 = .ok (.getfield 26, 3) := by decide +kernel
theorem dX7_bars_79 : decode cX7_bars 79 = .ok (.invokevirtual 156, 3) := by decide +kernel
theorem dX7_bars_82 : decode cX7_bars 82 = .ok (.ireturn, 1) := by decide +kernel
theorem dX7_pace_0 : decode cX7_pace 0 = .ok (.aload_n 0, 1) := by decide +kernel
theorem dX7_pace_1 : decode cX7_pace 1 = .ok (.getfield 26, 3) := by decide +kernel
theorem dX7_pace_4 : decode cX7_pace 4 = .ok (.iload_n 1, 1) := by decide +kernel
theorem dX7_pace_5 : decode cX7_pace 5 = .ok (.invokevirtual 160, 3) := by decide +kernel
theorem dX7_pace_8 : decode cX7_pace 8 = .ok (.ifCond .eq 16, 3) := by decide +kernel
theorem dX7_pace_11 : decode cX7_pace 11 = .ok (.iload_n 2, 1) := by decide +kernel
theorem dX7_pace_12 : decode cX7_pace 12 = .ok (.sipush 300, 3) := by decide +kernel
theorem dX7_pace_15 : decode cX7_pace 15 = .ok (.sipush 2500, 3) := by decide +kernel
theorem dX7_pace_18 : decode cX7_pace 18 = .ok (.invokestatic 69, 3) := by decide +kernel
theorem dX7_pace_21 : decode cX7_pace 21 = .ok (.ifCond .ne 6, 3) := by decide +kernel
theorem dX7_pace_24 : decode cX7_pace 24 = .ok (.ldc 73, 2) := by decide +kernel
theorem dX7_pace_26 : decode cX7_pace 26 = .ok (.ireturn, 1) := by decide +kernel
theorem dX7_pace_27 : decode cX7_pace 27 = .ok (.aload_n 0, 1) := by decide +kernel
theorem dX7_pace_28 : decode cX7_pace 28 = .ok (.getfield 36, 3) := by decide +kernel
theorem dX7_pace_31 : decode cX7_pace 31 = .ok (.aload_n 0, 1) := by decide +kernel
theorem dX7_pace_32 : decode cX7_pace 32 = .ok (.getfield 26, 3) := by decide +kernel
theorem dX7_pace_35 : decode cX7_pace 35 = .ok (.invokevirtual 150, 3) := by decide +kernel
theorem dX7_pace_38 : decode cX7_pace 38 = .ok (.aload_n 0, 1) := by decide +kernel
theorem dX7_pace_39 : decode cX7_pace 39 = .ok (.getfield 26, 3) := by decide +kernel
theorem dX7_pace_42 : decode cX7_pace 42 = .ok (.getfield 163, 3) := by decide +kernel
theorem dX7_pace_45 : decode cX7_pace 45 = .ok (.iload_n 1, 1) := by decide +kernel
theorem dX7_pace_46 : decode cX7_pace 46 = .ok (.iaload, 1) := by decide +kernel
theorem dX7_pace_47 : decode cX7_pace 47 = .ok (.istore_n 3, 1) := by decide +kernel
theorem dX7_pace_48 : decode cX7_pace 48 = .ok (.aload_n 0, 1) := by decide +kernel
theorem dX7_pace_49 : decode cX7_pace 49 = .ok (.getfield 26, 3) := by decide +kernel
theorem dX7_pace_52 : decode cX7_pace 52 = .ok (.getfield 163, 3) := by decide +kernel
theorem dX7_pace_55 : decode cX7_pace 55 = .ok (.iload_n 1, 1) := by decide +kernel
theorem dX7_pace_56 : decode cX7_pace 56 = .ok (.iload_n 2, 1) := by decide +kernel
theorem dX7_pace_57 : decode cX7_pace 57 = .ok (.iastore, 1) := by decide +kernel
theorem dX7_pace_58 : decode cX7_pace 58 = .ok (.iload_n 3, 1) := by decide +kernel
theorem dX7_pace_59 : decode cX7_pace 59 = .ok (.ireturn, 1) := by decide +kernel
theorem dX7_hears_0 : decode cX7_hears 0 = .ok (.aload_n 0, 1) := by decide +kernel
theorem dX7_hears_1 : decode cX7_hears 1 = .ok (.getfield 26, 3) := by decide +kernel
theorem dX7_hears_4 : decode cX7_hears 4 = .ok (.iload_n 1, 1) := by decide +kernel
theorem dX7_hears_5 : decode cX7_hears 5 = .ok (.iload_n 2, 1) := by decide +kernel
theorem dX7_hears_6 : decode cX7_hears 6 = .ok (.invokevirtual 167, 3) := by decide +kernel
theorem dX7_hears_9 : decode cX7_hears 9 = .ok (.ifCond .eq 13, 3) := by decide +kernel
theorem dX7_hears_12 : decode cX7_hears 12 = .ok (.iload_n 3, 1) := by decide +kernel
theorem dX7_hears_13 : decode cX7_hears 13 = .ok (.iconst 0, 1) := by decide +kernel
theorem dX7_hears_14 : decode cX7_hears 14 = .ok (.bipush 9, 2) := by decide +kernel
theorem dX7_hears_16 : decode cX7_hears 16 = .ok (.invokestatic 69, 3) := by decide +kernel
theorem dX7_hears_19 : decode cX7_hears 19 = .ok (.ifCond .ne 6, 3) := by decide +kernel
theorem dX7_hears_22 : decode cX7_hears 22 = .ok (.ldc 73, 2) := by decide +kernel
theorem dX7_hears_24 : decode cX7_hears 24 = .ok (.ireturn, 1) := by decide +kernel
theorem dX7_hears_25 : decode cX7_hears 25 = .ok (.aload_n 0, 1) := by decide +kernel
theorem dX7_hears_26 : decode cX7_hears 26 = .ok (.getfield 36, 3) := by decide +kernel
theorem dX7_hears_29 : decode cX7_hears 29 = .ok (.aload_n 0, 1) := by decide +kernel
theorem dX7_hears_30 : decode cX7_hears 30 = .ok (.getfield 26, 3) := by decide +kernel
theorem dX7_hears_33 : decode cX7_hears 33 = .ok (.invokevirtual 150, 3) := by decide +kernel
theorem dX7_hears_36 : decode cX7_hears 36 = .ok (.aload_n 0, 1) := by decide +kernel
theorem dX7_hears_37 : decode cX7_hears 37 = .ok (.getfield 26, 3) := by decide +kernel
theorem dX7_hears_40 : decode cX7_hears 40 = .ok (.iload_n 1, 1) := by decide +kernel
theorem dX7_hears_41 : decode cX7_hears 41 = .ok (.iload_n 2, 1) := by decide +kernel
theorem dX7_hears_42 : decode cX7_hears 42 = .ok (.invokevirtual 171, 3) := by decide +kernel
theorem dX7_hears_45 : decode cX7_hears 45 = .ok (.istore 4, 2) := by decide +kernel
theorem dX7_hears_47 : decode cX7_hears 47 = .ok (.aload_n 0, 1) := by decide +kernel
theorem dX7_hears_48 : decode cX7_hears 48 = .ok (.getfield 26, 3) := by decide +kernel
theorem dX7_hears_51 : decode cX7_hears 51 = .ok (.iload_n 1, 1) := by decide +kernel
theorem dX7_hears_52 : decode cX7_hears 52 = .ok (.iload_n 2, 1) := by decide +kernel
theorem dX7_hears_53 : decode cX7_hears 53 = .ok (.iload_n 3, 1) := by decide +kernel
theorem dX7_hears_54 : decode cX7_hears 54 = .ok (.invokevirtual 175, 3) := by decide +kernel
theorem dX7_hears_57 : decode cX7_hears 57 = .ok (.iload 4, 2) := by decide +kernel
theorem dX7_hears_59 : decode cX7_hears 59 = .ok (.ireturn, 1) := by decide +kernel
theorem dX7_click_0 : decode cX7_click 0 = .ok (.aload_n 0, 1) := by decide +kernel
theorem dX7_click_1 : decode cX7_click 1 = .ok (.getfield 26, 3) := by decide +kernel
theorem dX7_click_4 : decode cX7_click 4 = .ok (.invokevirtual 143, 3) := by decide +kernel
theorem dX7_click_7 : decode cX7_click 7 = .ok (.ifCond .ne 6, 3) := by decide +kernel
theorem dX7_click_10 : decode cX7_click 10 = .ok (.ldc 142, 2) := by decide +kernel
theorem dX7_click_12 : decode cX7_click 12 = .ok (.ireturn, 1) := by decide +kernel
theorem dX7_click_13 : decode cX7_click 13 = .ok (.iload_n 1, 1) := by decide +kernel
theorem dX7_click_14 : decode cX7_click 14 = .ok (.bipush 40, 2) := by decide +kernel
theorem dX7_click_16 : decode cX7_click 16 = .ok (.bipush 99, 2) := by decide +kernel
theorem dX7_click_18 : decode cX7_click 18 = .ok (.invokestatic 69, 3) := by decide +kernel
theorem dX7_click_21 : decode cX7_click 21 = .ok (.ifCond .ne 6, 3) := by decide +kernel
theorem dX7_click_24 : decode cX7_click 24 = .ok (.ldc 73, 2) := by decide +kernel
theorem dX7_click_26 : decode cX7_click 26 = .ok (.ireturn, 1) := by decide +kernel
theorem dX7_click_27 : decode cX7_click 27 = .ok (.aload_n 0, 1) := by decide +kernel
theorem dX7_click_28 : decode cX7_click 28 = .ok (.getfield 36, 3) := by decide +kernel
theorem dX7_click_31 : decode cX7_click 31 = .ok (.aload_n 0, 1) := by decide +kernel
theorem dX7_click_32 : decode cX7_click 32 = .ok (.getfield 26, 3) := by decide +kernel
theorem dX7_click_35 : decode cX7_click 35 = .ok (.invokevirtual 150, 3) := by decide +kernel
theorem dX7_click_38 : decode cX7_click 38 = .ok (.aload_n 0, 1) := by decide +kernel
theorem dX7_click_39 : decode cX7_click 39 = .ok (.getfield 26, 3) := by decide +kernel
theorem dX7_click_42 : decode cX7_click 42 = .ok (.getfield 178, 3) := by decide +kernel
theorem dX7_click_45 : decode cX7_click 45 = .ok (.istore_n 2, 1) := by decide +kernel
theorem dX7_click_46 : decode cX7_click 46 = .ok (.aload_n 0, 1) := by decide +kernel
theorem dX7_click_47 : decode cX7_click 47 = .ok (.getfield 26, 3) := by decide +kernel
theorem dX7_click_50 : decode cX7_click 50 = .ok (.iload_n 1, 1) := by decide +kernel
theorem dX7_click_51 : decode cX7_click 51 = .ok (.putfield 178, 3) := by decide +kernel
theorem dX7_click_54 : decode cX7_click 54 = .ok (.iload_n 2, 1) := by decide +kernel
theorem dX7_click_55 : decode cX7_click 55 = .ok (.ireturn, 1) := by decide +kernel
theorem dX7_claps_0 : decode cX7_claps 0 = .ok (.aload_n 0, 1) := by decide +kernel
theorem dX7_claps_1 : decode cX7_claps 1 = .ok (.getfield 26, 3) := by decide +kernel
theorem dX7_claps_4 : decode cX7_claps 4 = .ok (.invokevirtual 143, 3) := by decide +kernel
theorem dX7_claps_7 : decode cX7_claps 7 = .ok (.ifCond .ne 6, 3) := by decide +kernel
theorem dX7_claps_10 : decode cX7_claps 10 = .ok (.ldc 142, 2) := by decide +kernel
theorem dX7_claps_12 : decode cX7_claps 12 = .ok (.ireturn, 1) := by decide +kernel
theorem dX7_claps_13 : decode cX7_claps 13 = .ok (.iload_n 1, 1) := by decide +kernel
theorem dX7_claps_14 : decode cX7_claps 14 = .ok (.iconst 1, 1) := by decide +kernel
theorem dX7_claps_15 : decode cX7_claps 15 = .ok (.bipush 99, 2) := by decide +kernel
theorem dX7_claps_17 : decode cX7_claps 17 = .ok (.invokestatic 69, 3) := by decide +kernel
theorem dX7_claps_20 : decode cX7_claps 20 = .ok (.ifCond .ne 6, 3) := by decide +kernel
theorem dX7_claps_23 : decode cX7_claps 23 = .ok (.ldc 73, 2) := by decide +kernel
theorem dX7_claps_25 : decode cX7_claps 25 = .ok (.ireturn, 1) := by decide +kernel
theorem dX7_claps_26 : decode cX7_claps 26 = .ok (.aload_n 0, 1) := by decide +kernel
theorem dX7_claps_27 : decode cX7_claps 27 = .ok (.getfield 36, 3) := by decide +kernel
theorem dX7_claps_30 : decode cX7_claps 30 = .ok (.aload_n 0, 1) := by decide +kernel
theorem dX7_claps_31 : decode cX7_claps 31 = .ok (.getfield 26, 3) := by decide +kernel
theorem dX7_claps_34 : decode cX7_claps 34 = .ok (.invokevirtual 150, 3) := by decide +kernel
theorem dX7_claps_37 : decode cX7_claps 37 = .ok (.aload_n 0, 1) := by decide +kernel
theorem dX7_claps_38 : decode cX7_claps 38 = .ok (.getfield 26, 3) := by decide +kernel
theorem dX7_claps_41 : decode cX7_claps 41 = .ok (.iload_n 1, 1) := by decide +kernel
theorem dX7_claps_42 : decode cX7_claps 42 = .ok (.invokevirtual 181, 3) := by decide +kernel
theorem dX7_claps_45 : decode cX7_claps 45 = .ok (.aload_n 0, 1) := by decide +kernel
theorem dX7_claps_46 : decode cX7_claps 46 = .ok (.getfield 26, 3) := by decide +kernel
theorem dX7_claps_49 : decode cX7_claps 49 = .ok (.invokevirtual 156, 3) := by decide +kernel
theorem dX7_claps_52 : decode cX7_claps 52 = .ok (.ireturn, 1) := by decide +kernel
theorem dX7_player_0 : decode cX7_player 0 = .ok (.aload_n 0, 1) := by decide +kernel
theorem dX7_player_1 : decode cX7_player 1 = .ok (.getfield 26, 3) := by decide +kernel
theorem dX7_player_4 : decode cX7_player 4 = .ok (.iload_n 1, 1) := by decide +kernel
theorem dX7_player_5 : decode cX7_player 5 = .ok (.invokevirtual 160, 3) := by decide +kernel
theorem dX7_player_8 : decode cX7_player 8 = .ok (.ifCond .ne 6, 3) := by decide +kernel
theorem dX7_player_11 : decode cX7_player 11 = .ok (.ldc 73, 2) := by decide +kernel
theorem dX7_player_13 : decode cX7_player 13 = .ok (.ireturn, 1) := by decide +kernel
theorem dX7_player_14 : decode cX7_player 14 = .ok (.iload_n 2, 1) := by decide +kernel
theorem dX7_player_15 : decode cX7_player 15 = .ok (.tableswitch 81 0 3 #[29, 39, 49, 72], 29) := by decide +kernel
theorem dX7_player_44 : decode cX7_player 44 = .ok (.aload_n 0, 1) := by decide +kernel
theorem dX7_player_45 : decode cX7_player 45 = .ok (.getfield 26, 3) := by decide +kernel
theorem dX7_player_48 : decode cX7_player 48 = .ok (.getfield 163, 3) := by decide +kernel
theorem dX7_player_51 : decode cX7_player 51 = .ok (.iload_n 1, 1) := by decide +kernel
theorem dX7_player_52 : decode cX7_player 52 = .ok (.iaload, 1) := by decide +kernel
theorem dX7_player_53 : decode cX7_player 53 = .ok (.ireturn, 1) := by decide +kernel
theorem dX7_player_54 : decode cX7_player 54 = .ok (.aload_n 0, 1) := by decide +kernel
theorem dX7_player_55 : decode cX7_player 55 = .ok (.getfield 26, 3) := by decide +kernel
theorem dX7_player_58 : decode cX7_player 58 = .ok (.getfield 185, 3) := by decide +kernel
theorem dX7_player_61 : decode cX7_player 61 = .ok (.iload_n 1, 1) := by decide +kernel
theorem dX7_player_62 : decode cX7_player 62 = .ok (.iaload, 1) := by decide +kernel
theorem dX7_player_63 : decode cX7_player 63 = .ok (.ireturn, 1) := by decide +kernel
theorem dX7_player_64 : decode cX7_player 64 = .ok (.aload_n 0, 1) := by decide +kernel
theorem dX7_player_65 : decode cX7_player 65 = .ok (.getfield 26, 3) := by decide +kernel
theorem dX7_player_68 : decode cX7_player 68 = .ok (.iload_n 1, 1) := by decide +kernel
theorem dX7_player_69 : decode cX7_player 69 = .ok (.aload_n 0, 1) := by decide +kernel
theorem dX7_player_70 : decode cX7_player 70 = .ok (.getfield 26, 3) := by decide +kernel
theorem dX7_player_73 : decode cX7_player 73 = .ok (.aload_n 0, 1) := by decide +kernel
theorem dX7_player_74 : decode cX7_player 74 = .ok (.getfield 26, 3) := by decide +kernel
theorem dX7_player_77 : decode cX7_player 77 = .ok (.getfield 188, 3) := by decide +kernel
theorem dX7_player_80 : decode cX7_player 80 = .ok (.invokevirtual 191, 3) := by decide +kernel
theorem dX7_player_83 : decode cX7_player 83 = .ok (.invokevirtual 194, 3) := by decide +kernel
theorem dX7_player_86 : decode cX7_player 86 = .ok (.ireturn, 1) := by decide +kernel
theorem dX7_player_87 : decode cX7_player 87 = .ok (.aload_n 0, 1) := by decide +kernel
theorem dX7_player_88 : decode cX7_player 88 = .ok (.getfield 26, 3) := by decide +kernel
theorem dX7_player_91 : decode cX7_player 91 = .ok (.iload_n 1, 1) := by decide +kernel
theorem dX7_player_92 : decode cX7_player 92 = .ok (.invokevirtual 197, 3) := by decide +kernel
theorem dX7_player_95 : decode cX7_player 95 = .ok (.ireturn, 1) := by decide +kernel
theorem dX7_player_96 : decode cX7_player 96 = .ok (.ldc 73, 2) := by decide +kernel
theorem dX7_player_98 : decode cX7_player 98 = .ok (.ireturn, 1) := by decide +kernel
theorem dX7_ear_0 : decode cX7_ear 0 = .ok (.aload_n 0, 1) := by decide +kernel
theorem dX7_ear_1 : decode cX7_ear 1 = .ok (.getfield 26, 3) := by decide +kernel
theorem dX7_ear_4 : decode cX7_ear 4 = .ok (.iload_n 1, 1) := by decide +kernel
theorem dX7_ear_5 : decode cX7_ear 5 = .ok (.iload_n 2, 1) := by decide +kernel
theorem dX7_ear_6 : decode cX7_ear 6 = .ok (.invokevirtual 167, 3) := by decide +kernel
theorem dX7_ear_9 : decode cX7_ear 9 = .ok (.ifCond .eq 15, 3) := by decide +kernel
theorem dX7_ear_12 : decode cX7_ear 12 = .ok (.aload_n 0, 1) := by decide +kernel
theorem dX7_ear_13 : decode cX7_ear 13 = .ok (.getfield 26, 3) := by decide +kernel
theorem dX7_ear_16 : decode cX7_ear 16 = .ok (.iload_n 1, 1) := by decide +kernel
theorem dX7_ear_17 : decode cX7_ear 17 = .ok (.iload_n 2, 1) := by decide +kernel
theorem dX7_ear_18 : decode cX7_ear 18 = .ok (.invokevirtual 171, 3) := by decide +kernel
theorem dX7_ear_21 : decode cX7_ear 21 = .ok (.goto 5, 3) := by decide +kernel
theorem dX7_ear_24 : decode cX7_ear 24 = .ok (.ldc 73, 2) := by decide +kernel
theorem dX7_ear_26 : decode cX7_ear 26 = .ok (.ireturn, 1) := by decide +kernel
theorem dX7_bar_0 : decode cX7_bar 0 = .ok (.iload_n 1, 1) := by decide +kernel
theorem dX7_bar_1 : decode cX7_bar 1 = .ok (.iconst 0, 1) := by decide +kernel
theorem dX7_bar_2 : decode cX7_bar 2 = .ok (.aload_n 0, 1) := by decide +kernel
theorem dX7_bar_3 : decode cX7_bar 3 = .ok (.getfield 26, 3) := by decide +kernel
theorem dX7_bar_6 : decode cX7_bar 6 = .ok (.getfield 200, 3) := by decide +kernel
theorem dX7_bar_9 : decode cX7_bar 9 = .ok (.iconst 1, 1) := by decide +kernel
theorem dX7_bar_10 : decode cX7_bar 10 = .ok (.isub, 1) := by decide +kernel
theorem dX7_bar_11 : decode cX7_bar 11 = .ok (.invokestatic 69, 3) := by decide +kernel
theorem dX7_bar_14 : decode cX7_bar 14 = .ok (.ifCond .eq 14, 3) := by decide +kernel
theorem dX7_bar_17 : decode cX7_bar 17 = .ok (.aload_n 0, 1) := by decide +kernel
theorem dX7_bar_18 : decode cX7_bar 18 = .ok (.getfield 26, 3) := by decide +kernel
theorem dX7_bar_21 : decode cX7_bar 21 = .ok (.iload_n 1, 1) := by decide +kernel
theorem dX7_bar_22 : decode cX7_bar 22 = .ok (.invokevirtual 191, 3) := by decide +kernel
theorem dX7_bar_25 : decode cX7_bar 25 = .ok (.goto 5, 3) := by decide +kernel
theorem dX7_bar_28 : decode cX7_bar 28 = .ok (.ldc 73, 2) := by decide +kernel
theorem dX7_bar_30 : decode cX7_bar 30 = .ok (.ireturn, 1) := by decide +kernel
theorem dX7_ahead_0 : decode cX7_ahead 0 = .ok (.aload_n 0, 1) := by decide +kernel
theorem dX7_ahead_1 : decode cX7_ahead 1 = .ok (.getfield 26, 3) := by decide +kernel
theorem dX7_ahead_4 : decode cX7_ahead 4 = .ok (.invokevirtual 143, 3) := by decide +kernel
theorem dX7_ahead_7 : decode cX7_ahead 7 = .ok (.ifCond .ne 6, 3) := by decide +kernel
theorem dX7_ahead_10 : decode cX7_ahead 10 = .ok (.ldc 142, 2) := by decide +kernel
theorem dX7_ahead_12 : decode cX7_ahead 12 = .ok (.ireturn, 1) := by decide +kernel
theorem dX7_ahead_13 : decode cX7_ahead 13 = .ok (.iload_n 1, 1) := by decide +kernel
theorem dX7_ahead_14 : decode cX7_ahead 14 = .ok (.iconst (-1), 1) := by decide +kernel
theorem dX7_ahead_15 : decode cX7_ahead 15 = .ok (.if_icmp .eq 14, 3) := by decide +kernel
theorem dX7_ahead_18 : decode cX7_ahead 18 = .ok (.aload_n 0, 1) := by decide +kernel
theorem dX7_ahead_19 : decode cX7_ahead 19 = .ok (.getfield 26, 3) := by decide +kernel
theorem dX7_ahead_22 : decode cX7_ahead 22 = .ok (.iload_n 1, 1) := by decide +kernel
theorem dX7_ahead_23 : decode cX7_ahead 23 = .ok (.invokevirtual 160, 3) := by decide +kernel
theorem dX7_ahead_26 : decode cX7_ahead 26 = .ok (.ifCond .eq 14, 3) := by decide +kernel
theorem dX7_ahead_29 : decode cX7_ahead 29 = .ok (.iload_n 2, 1) := by decide +kernel
theorem dX7_ahead_30 : decode cX7_ahead 30 = .ok (.iconst 0, 1) := by decide +kernel
theorem dX7_ahead_31 : decode cX7_ahead 31 = .ok (.sipush 200, 3) := by decide +kernel
theorem dX7_ahead_34 : decode cX7_ahead 34 = .ok (.invokestatic 69, 3) := by decide +kernel
theorem dX7_ahead_37 : decode cX7_ahead 37 = .ok (.ifCond .ne 6, 3) := by decide +kernel
theorem dX7_ahead_40 : decode cX7_ahead 40 = .ok (.ldc 73, 2) := by decide +kernel
theorem dX7_ahead_42 : decode cX7_ahead 42 = .ok (.ireturn, 1) := by decide +kernel
theorem dX7_ahead_43 : decode cX7_ahead 43 = .ok (.aload_n 0, 1) := by decide +kernel
theorem dX7_ahead_44 : decode cX7_ahead 44 = .ok (.getfield 43, 3) := by decide +kernel
theorem dX7_ahead_47 : decode cX7_ahead 47 = .ok (.aload_n 0, 1) := by decide +kernel
theorem dX7_ahead_48 : decode cX7_ahead 48 = .ok (.getfield 26, 3) := by decide +kernel
theorem dX7_ahead_51 : decode cX7_ahead 51 = .ok (.iload_n 2, 1) := by decide +kernel
theorem dX7_ahead_52 : decode cX7_ahead 52 = .ok (.invokevirtual 201, 3) := by decide +kernel
theorem dX7_ahead_55 : decode cX7_ahead 55 = .ok (.astore_n 3, 1) := by decide +kernel
theorem dX7_ahead_56 : decode cX7_ahead 56 = .ok (.iload_n 1, 1) := by decide +kernel
theorem dX7_ahead_57 : decode cX7_ahead 57 = .ok (.iconst (-1), 1) := by decide +kernel
theorem dX7_ahead_58 : decode cX7_ahead 58 = .ok (.if_icmp .ne 10, 3) := by decide +kernel
theorem dX7_ahead_61 : decode cX7_ahead 61 = .ok (.aload_n 3, 1) := by decide +kernel
theorem dX7_ahead_62 : decode cX7_ahead 62 = .ok (.invokevirtual 156, 3) := by decide +kernel
theorem dX7_ahead_65 : decode cX7_ahead 65 = .ok (.goto 9, 3) := by decide +kernel
theorem dX7_ahead_68 : decode cX7_ahead 68 = .ok (.aload_n 3, 1) := by decide +kernel
theorem dX7_ahead_69 : decode cX7_ahead 69 = .ok (.getfield 163, 3) := by decide +kernel
theorem dX7_ahead_72 : decode cX7_ahead 72 = .ok (.iload_n 1, 1) := by decide +kernel
theorem dX7_ahead_73 : decode cX7_ahead 73 = .ok (.iaload, 1) := by decide +kernel
theorem dX7_ahead_74 : decode cX7_ahead 74 = .ok (.ireturn, 1) := by decide +kernel
theorem dX7_drift_0 : decode cX7_drift 0 = .ok (.aload_n 0, 1) := by decide +kernel
theorem dX7_drift_1 : decode cX7_drift 1 = .ok (.getfield 26, 3) := by decide +kernel
theorem dX7_drift_4 : decode cX7_drift 4 = .ok (.invokevirtual 143, 3) := by decide +kernel
theorem dX7_drift_7 : decode cX7_drift 7 = .ok (.ifCond .eq 17, 3) := by decide +kernel
theorem dX7_drift_10 : decode cX7_drift 10 = .ok (.aload_n 0, 1) := by decide +kernel
theorem dX7_drift_11 : decode cX7_drift 11 = .ok (.getfield 43, 3) := by decide +kernel
theorem dX7_drift_14 : decode cX7_drift 14 = .ok (.aload_n 0, 1) := by decide +kernel
theorem dX7_drift_15 : decode cX7_drift 15 = .ok (.getfield 26, 3) := by decide +kernel
theorem dX7_drift_18 : decode cX7_drift 18 = .ok (.invokevirtual 205, 3) := by decide +kernel
theorem dX7_drift_21 : decode cX7_drift 21 = .ok (.goto 5, 3) := by decide +kernel
theorem dX7_drift_24 : decode cX7_drift 24 = .ok (.ldc 142, 2) := by decide +kernel
theorem dX7_drift_26 : decode cX7_drift 26 = .ok (.ireturn, 1) := by decide +kernel
theorem dX7_round_0 : decode cX7_round 0 = .ok (.aload_n 0, 1) := by decide +kernel
theorem dX7_round_1 : decode cX7_round 1 = .ok (.getfield 26, 3) := by decide +kernel
theorem dX7_round_4 : decode cX7_round 4 = .ok (.invokevirtual 143, 3) := by decide +kernel
theorem dX7_round_7 : decode cX7_round 7 = .ok (.ifCond .ne 6, 3) := by decide +kernel
theorem dX7_round_10 : decode cX7_round 10 = .ok (.ldc 142, 2) := by decide +kernel
theorem dX7_round_12 : decode cX7_round 12 = .ok (.ireturn, 1) := by decide +kernel
theorem dX7_round_13 : decode cX7_round 13 = .ok (.iload_n 1, 1) := by decide +kernel
theorem dX7_round_14 : decode cX7_round 14 = .ok (.iconst 0, 1) := by decide +kernel
theorem dX7_round_15 : decode cX7_round 15 = .ok (.iconst 1, 1) := by decide +kernel
theorem dX7_round_16 : decode cX7_round 16 = .ok (.invokestatic 69, 3) := by decide +kernel
theorem dX7_round_19 : decode cX7_round 19 = .ok (.ifCond .ne 6, 3) := by decide +kernel
theorem dX7_round_22 : decode cX7_round 22 = .ok (.ldc 73, 2) := by decide +kernel
theorem dX7_round_24 : decode cX7_round 24 = .ok (.ireturn, 1) := by decide +kernel
theorem dX7_round_25 : decode cX7_round 25 = .ok (.aload_n 0, 1) := by decide +kernel
theorem dX7_round_26 : decode cX7_round 26 = .ok (.getfield 43, 3) := by decide +kernel
theorem dX7_round_29 : decode cX7_round 29 = .ok (.aload_n 0, 1) := by decide +kernel
theorem dX7_round_30 : decode cX7_round 30 = .ok (.getfield 26, 3) := by decide +kernel
theorem dX7_round_33 : decode cX7_round 33 = .ok (.invokevirtual 209, 3) := by decide +kernel
theorem dX7_round_36 : decode cX7_round 36 = .ok (.ifCond .ne 6, 3) := by decide +kernel
theorem dX7_round_39 : decode cX7_round 39 = .ok (.ldc 212, 2) := by decide +kernel
theorem dX7_round_41 : decode cX7_round 41 = .ok (.ireturn, 1) := by decide +kernel
theorem dX7_round_42 : decode cX7_round 42 = .ok (.iload_n 1, 1) := by decide +kernel
theorem dX7_round_43 : decode cX7_round 43 = .ok (.ifCond .ne 13, 3) := by decide +kernel
theorem dX7_round_46 : decode cX7_round 46 = .ok (.aload_n 0, 1) := by decide +kernel
theorem dX7_round_47 : decode cX7_round 47 = .ok (.getfield 43, 3) := by decide +kernel
theorem dX7_round_50 : decode cX7_round 50 = .ok (.getfield 213, 3) := by decide +kernel
theorem dX7_round_53 : decode cX7_round 53 = .ok (.goto 10, 3) := by decide +kernel
theorem dX7_round_56 : decode cX7_round 56 = .ok (.aload_n 0, 1) := by decide +kernel
theorem dX7_round_57 : decode cX7_round 57 = .ok (.getfield 43, 3) := by decide +kernel
theorem dX7_round_60 : decode cX7_round 60 = .ok (.getfield 216, 3) := by decide +kernel
theorem dX7_round_63 : decode cX7_round 63 = .ok (.ireturn, 1) := by decide +kernel
theorem dX7_noticed_0 : decode cX7_noticed 0 = .ok (.aload_n 0, 1) := by decide +kernel
theorem dX7_noticed_1 : decode cX7_noticed 1 = .ok (.getfield 26, 3) := by decide +kernel
theorem dX7_noticed_4 : decode cX7_noticed 4 = .ok (.invokevirtual 143, 3) := by decide +kernel
theorem dX7_noticed_7 : decode cX7_noticed 7 = .ok (.ifCond .ne 6, 3) := by decide +kernel
theorem dX7_noticed_10 : decode cX7_noticed 10 = .ok (.ldc 142, 2) := by decide +kernel
theorem dX7_noticed_12 : decode cX7_noticed 12 = .ok (.ireturn, 1) := by decide +kernel
theorem dX7_noticed_13 : decode cX7_noticed 13 = .ok (.iload_n 1, 1) := by decide +kernel
theorem dX7_noticed_14 : decode cX7_noticed 14 = .ok (.iconst 1, 1) := by decide +kernel
theorem dX7_noticed_15 : decode cX7_noticed 15 = .ok (.sipush 200, 3) := by decide +kernel
theorem dX7_noticed_18 : decode cX7_noticed 18 = .ok (.invokestatic 69, 3) := by decide +kernel
theorem dX7_noticed_21 : decode cX7_noticed 21 = .ok (.ifCond .eq 13, 3) := by decide +kernel
theorem dX7_noticed_24 : decode cX7_noticed 24 = .ok (.iload_n 2, 1) := by decide +kernel
theorem dX7_noticed_25 : decode cX7_noticed 25 = .ok (.iconst 0, 1) := by decide +kernel
theorem dX7_noticed_26 : decode cX7_noticed 26 = .ok (.bipush 99, 2) := by decide +kernel
theorem dX7_noticed_28 : decode cX7_noticed 28 = .ok (.invokestatic 69, 3) := by decide +kernel
theorem dX7_noticed_31 : decode cX7_noticed 31 = .ok (.ifCond .ne 6, 3) := by decide +kernel
theorem dX7_noticed_34 : decode cX7_noticed 34 = .ok (.ldc 73, 2) := by decide +kernel
theorem dX7_noticed_36 : decode cX7_noticed 36 = .ok (.ireturn, 1) := by decide +kernel
theorem dX7_noticed_37 : decode cX7_noticed 37 = .ok (.aload_n 0, 1) := by decide +kernel
theorem dX7_noticed_38 : decode cX7_noticed 38 = .ok (.getfield 43, 3) := by decide +kernel
theorem dX7_noticed_41 : decode cX7_noticed 41 = .ok (.aload_n 0, 1) := by decide +kernel
theorem dX7_noticed_42 : decode cX7_noticed 42 = .ok (.getfield 26, 3) := by decide +kernel
theorem dX7_noticed_45 : decode cX7_noticed 45 = .ok (.iload_n 1, 1) := by decide +kernel
theorem dX7_noticed_46 : decode cX7_noticed 46 = .ok (.iload_n 2, 1) := by decide +kernel
theorem dX7_noticed_47 : decode cX7_noticed 47 = .ok (.invokevirtual 219, 3) := by decide +kernel
theorem dX7_noticed_50 : decode cX7_noticed 50 = .ok (.ireturn, 1) := by decide +kernel
theorem dX7_dancers_0 : decode cX7_dancers 0 = .ok (.aload_n 0, 1) := by decide +kernel
theorem dX7_dancers_1 : decode cX7_dancers 1 = .ok (.getfield 26, 3) := by decide +kernel
theorem dX7_dancers_4 : decode cX7_dancers 4 = .ok (.invokevirtual 143, 3) := by decide +kernel
theorem dX7_dancers_7 : decode cX7_dancers 7 = .ok (.ifCond .ne 6, 3) := by decide +kernel
theorem dX7_dancers_10 : decode cX7_dancers 10 = .ok (.ldc 142, 2) := by decide +kernel
theorem dX7_dancers_12 : decode cX7_dancers 12 = .ok (.ireturn, 1) := by decide +kernel
theorem dX7_dancers_13 : decode cX7_dancers 13 = .ok (.aload_n 0, 1) := by decide +kernel
theorem dX7_dancers_14 : decode cX7_dancers 14 = .ok (.getfield 10, 3) := by decide +kernel
theorem dX7_dancers_17 : decode cX7_dancers 17 = .ok (.iload_n 1, 1) := by decide +kernel
theorem dX7_dancers_18 : decode cX7_dancers 18 = .ok (.invokevirtual 65, 3) := by decide +kernel
theorem dX7_dancers_21 : decode cX7_dancers 21 = .ok (.ifCond .eq 35, 3) := by decide +kernel
theorem dX7_dancers_24 : decode cX7_dancers 24 = .ok (.iload_n 3, 1) := by decide +kernel
theorem dX7_dancers_25 : decode cX7_dancers 25 = .ok (.iconst 1, 1) := by decide +kernel
theorem dX7_dancers_26 : decode cX7_dancers 26 = .ok (.bipush 10, 2) := by decide +kernel
theorem dX7_dancers_28 : decode cX7_dancers 28 = .ok (.invokestatic 69, 3) := by decide +kernel
theorem dX7_dancers_31 : decode cX7_dancers 31 = .ok (.ifCond .eq 25, 3) := by decide +kernel
theorem dX7_dancers_34 : decode cX7_dancers 34 = .ok (.iload 4, 2) := by decide +kernel
theorem dX7_dancers_36 : decode cX7_dancers 36 = .ok (.iconst 0, 1) := by decide +kernel
theorem dX7_dancers_37 : decode cX7_dancers 37 = .ok (.sipush 200, 3) := by decide +kernel
theorem dX7_dancers_40 : decode cX7_dancers 40 = .ok (.invokestatic 69, 3) := by decide +kernel
theorem dX7_dancers_43 : decode cX7_dancers 43 = .ok (.ifCond .eq 13, 3) := by decide +kernel
theorem dX7_dancers_46 : decode cX7_dancers 46 = .ok (.iload 5, 2) := by decide +kernel
theorem dX7_dancers_48 : decode cX7_dancers 48 = .ok (.iconst 0, 1) := by decide +kernel
theorem dX7_dancers_49 : decode cX7_dancers 49 = .ok (.iconst 1, 1) := by decide +kernel
theorem dX7_dancers_50 : decode cX7_dancers 50 = .ok (.invokestatic 69, 3) := by decide +kernel
theorem dX7_dancers_53 : decode cX7_dancers 53 = .ok (.ifCond .ne 6, 3) := by decide +kernel
theorem dX7_dancers_56 : decode cX7_dancers 56 = .ok (.ldc 73, 2) := by decide +kernel
theorem dX7_dancers_58 : decode cX7_dancers 58 = .ok (.ireturn, 1) := by decide +kernel
theorem dX7_dancers_59 : decode cX7_dancers 59 = .ok (.aload_n 0, 1) := by decide +kernel
theorem dX7_dancers_60 : decode cX7_dancers 60 = .ok (.getfield 10, 3) := by decide +kernel
theorem dX7_dancers_63 : decode cX7_dancers 63 = .ok (.iload_n 1, 1) := by decide +kernel
theorem dX7_dancers_64 : decode cX7_dancers 64 = .ok (.invokevirtual 85, 3) := by decide +kernel
theorem dX7_dancers_67 : decode cX7_dancers 67 = .ok (.ifCond .eq 9, 3) := by decide +kernel
theorem dX7_dancers_70 : decode cX7_dancers 70 = .ok (.aload_n 0, 1) := by decide +kernel
theorem dX7_dancers_71 : decode cX7_dancers 71 = .ok (.iconst 1, 1) := by decide +kernel
theorem dX7_dancers_72 : decode cX7_dancers 72 = .ok (.invokevirtual 74, 3) := by decide +kernel
theorem dX7_dancers_75 : decode cX7_dancers 75 = .ok (.ireturn, 1) := by decide +kernel
theorem dX7_dancers_76 : decode cX7_dancers 76 = .ok (.aload_n 0, 1) := by decide +kernel
theorem dX7_dancers_77 : decode cX7_dancers 77 = .ok (.getfield 10, 3) := by decide +kernel
theorem dX7_dancers_80 : decode cX7_dancers 80 = .ok (.iload_n 1, 1) := by decide +kernel
theorem dX7_dancers_81 : decode cX7_dancers 81 = .ok (.iload_n 2, 1) := by decide +kernel
theorem dX7_dancers_82 : decode cX7_dancers 82 = .ok (.iconst 2, 1) := by decide +kernel
theorem dX7_dancers_83 : decode cX7_dancers 83 = .ok (.iload_n 3, 1) := by decide +kernel
theorem dX7_dancers_84 : decode cX7_dancers 84 = .ok (.imul, 1) := by decide +kernel
theorem dX7_dancers_85 : decode cX7_dancers 85 = .ok (.invokevirtual 88, 3) := by decide +kernel
theorem dX7_dancers_88 : decode cX7_dancers 88 = .ok (.ifCond .ne 9, 3) := by decide +kernel
theorem dX7_dancers_91 : decode cX7_dancers 91 = .ok (.aload_n 0, 1) := by decide +kernel
theorem dX7_dancers_92 : decode cX7_dancers 92 = .ok (.iconst 2, 1) := by decide +kernel
theorem dX7_dancers_93 : decode cX7_dancers 93 = .ok (.invokevirtual 74, 3) := by decide +kernel
theorem dX7_dancers_96 : decode cX7_dancers 96 = .ok (.ireturn, 1) := by decide +kernel
theorem dX7_dancers_97 : decode cX7_dancers 97 = .ok (.aload_n 0, 1) := by decide +kernel
theorem dX7_dancers_98 : decode cX7_dancers 98 = .ok (.getfield 10, 3) := by decide +kernel
theorem dX7_dancers_101 : decode cX7_dancers 101 = .ok (.iload_n 1, 1) := by decide +kernel
theorem dX7_dancers_102 : decode cX7_dancers 102 = .ok (.iload_n 2, 1) := by decide +kernel
theorem dX7_dancers_103 : decode cX7_dancers 103 = .ok (.iconst 2, 1) := by decide +kernel
theorem dX7_dancers_104 : decode cX7_dancers 104 = .ok (.iload_n 3, 1) := by decide +kernel
theorem dX7_dancers_105 : decode cX7_dancers 105 = .ok (.imul, 1) := by decide +kernel
theorem dX7_dancers_106 : decode cX7_dancers 106 = .ok (.invokevirtual 223, 3) := by decide +kernel
theorem dX7_dancers_109 : decode cX7_dancers 109 = .ok (.aload_n 0, 1) := by decide +kernel
theorem dX7_dancers_110 : decode cX7_dancers 110 = .ok (.getfield 43, 3) := by decide +kernel
theorem dX7_dancers_113 : decode cX7_dancers 113 = .ok (.aload_n 0, 1) := by decide +kernel
theorem dX7_dancers_114 : decode cX7_dancers 114 = .ok (.getfield 26, 3) := by decide +kernel
theorem dX7_dancers_117 : decode cX7_dancers 117 = .ok (.aload_n 0, 1) := by decide +kernel
theorem dX7_dancers_118 : decode cX7_dancers 118 = .ok (.getfield 10, 3) := by decide +kernel
theorem dX7_dancers_121 : decode cX7_dancers 121 = .ok (.getfield 226, 3) := by decide +kernel
theorem dX7_dancers_124 : decode cX7_dancers 124 = .ok (.iload_n 3, 1) := by decide +kernel
theorem dX7_dancers_125 : decode cX7_dancers 125 = .ok (.iload 4, 2) := by decide +kernel
theorem dX7_dancers_127 : decode cX7_dancers 127 = .ok (.invokevirtual 229, 3) := by decide +kernel
theorem dX7_dancers_130 : decode cX7_dancers 130 = .ok (.aload_n 0, 1) := by decide +kernel
theorem dX7_dancers_131 : decode cX7_dancers 131 = .ok (.iload 5, 2) := by decide +kernel
theorem dX7_dancers_133 : decode cX7_dancers 133 = .ok (.ifCond .ne 13, 3) := by decide +kernel
theorem dX7_dancers_136 : decode cX7_dancers 136 = .ok (.aload_n 0, 1) := by decide +kernel
theorem dX7_dancers_137 : decode cX7_dancers 137 = .ok (.getfield 43, 3) := by decide +kernel
theorem dX7_dancers_140 : decode cX7_dancers 140 = .ok (.getfield 213, 3) := by decide +kernel
theorem dX7_dancers_143 : decode cX7_dancers 143 = .ok (.goto 10, 3) := by decide +kernel
theorem dX7_dancers_146 : decode cX7_dancers 146 = .ok (.aload_n 0, 1) := by decide +kernel
theorem dX7_dancers_147 : decode cX7_dancers 147 = .ok (.getfield 43, 3) := by decide +kernel
theorem dX7_dancers_150 : decode cX7_dancers 150 = .ok (.getfield 216, 3) := by decide +kernel
theorem dX7_dancers_153 : decode cX7_dancers 153 = .ok (.invokevirtual 82, 3) := by decide +kernel
theorem dX7_dancers_156 : decode cX7_dancers 156 = .ok (.ireturn, 1) := by decide +kernel
theorem dX7_countIn_0 : decode cX7_countIn 0 = .ok (.aload_n 0, 1) := by decide +kernel
theorem dX7_countIn_1 : decode cX7_countIn 1 = .ok (.getfield 26, 3) := by decide +kernel
theorem dX7_countIn_4 : decode cX7_countIn 4 = .ok (.invokevirtual 143, 3) := by decide +kernel
theorem dX7_countIn_7 : decode cX7_countIn 7 = .ok (.ifCond .ne 6, 3) := by decide +kernel
theorem dX7_countIn_10 : decode cX7_countIn 10 = .ok (.ldc 142, 2) := by decide +kernel
theorem dX7_countIn_12 : decode cX7_countIn 12 = .ok (.ireturn, 1) := by decide +kernel
theorem dX7_countIn_13 : decode cX7_countIn 13 = .ok (.iload_n 1, 1) := by decide +kernel
theorem dX7_countIn_14 : decode cX7_countIn 14 = .ok (.iconst 0, 1) := by decide +kernel
theorem dX7_countIn_15 : decode cX7_countIn 15 = .ok (.sipush 200, 3) := by decide +kernel
theorem dX7_countIn_18 : decode cX7_countIn 18 = .ok (.invokestatic 69, 3) := by decide +kernel
theorem dX7_countIn_21 : decode cX7_countIn 21 = .ok (.ifCond .eq 16, 3) := by decide +kernel
theorem dX7_countIn_24 : decode cX7_countIn 24 = .ok (.iload_n 2, 1) := by decide +kernel
theorem dX7_countIn_25 : decode cX7_countIn 25 = .ok (.sipush 300, 3) := by decide +kernel
theorem dX7_countIn_28 : decode cX7_countIn 28 = .ok (.sipush 2500, 3) := by decide +kernel
theorem dX7_countIn_31 : decode cX7_countIn 31 = .ok (.invokestatic 69, 3) := by decide +kernel
theorem dX7_countIn_34 : decode cX7_countIn 34 = .ok (.ifCond .ne 6, 3) := by decide +kernel
theorem dX7_countIn_37 : decode cX7_countIn 37 = .ok (.ldc 73, 2) := by decide +kernel
theorem dX7_countIn_39 : decode cX7_countIn 39 = .ok (.ireturn, 1) := by decide +kernel
theorem dX7_countIn_40 : decode cX7_countIn 40 = .ok (.aload_n 0, 1) := by decide +kernel
theorem dX7_countIn_41 : decode cX7_countIn 41 = .ok (.getfield 43, 3) := by decide +kernel
theorem dX7_countIn_44 : decode cX7_countIn 44 = .ok (.aload_n 0, 1) := by decide +kernel
theorem dX7_countIn_45 : decode cX7_countIn 45 = .ok (.getfield 26, 3) := by decide +kernel
theorem dX7_countIn_48 : decode cX7_countIn 48 = .ok (.iload_n 1, 1) := by decide +kernel
theorem dX7_countIn_49 : decode cX7_countIn 49 = .ok (.iload_n 2, 1) := by decide +kernel
theorem dX7_countIn_50 : decode cX7_countIn 50 = .ok (.invokevirtual 233, 3) := by decide +kernel
theorem dX7_countIn_53 : decode cX7_countIn 53 = .ok (.ireturn, 1) := by decide +kernel
theorem dX7_deaf_0 : decode cX7_deaf 0 = .ok (.aload_n 0, 1) := by decide +kernel
theorem dX7_deaf_1 : decode cX7_deaf 1 = .ok (.getfield 26, 3) := by decide +kernel
theorem dX7_deaf_4 : decode cX7_deaf 4 = .ok (.invokevirtual 143, 3) := by decide +kernel
theorem dX7_deaf_7 : decode cX7_deaf 7 = .ok (.ifCond .ne 6, 3) := by decide +kernel
theorem dX7_deaf_10 : decode cX7_deaf 10 = .ok (.ldc 142, 2) := by decide +kernel
theorem dX7_deaf_12 : decode cX7_deaf 12 = .ok (.ireturn, 1) := by decide +kernel
theorem dX7_deaf_13 : decode cX7_deaf 13 = .ok (.iload_n 1, 1) := by decide +kernel
theorem dX7_deaf_14 : decode cX7_deaf 14 = .ok (.iconst 0, 1) := by decide +kernel
theorem dX7_deaf_15 : decode cX7_deaf 15 = .ok (.iconst 1, 1) := by decide +kernel
theorem dX7_deaf_16 : decode cX7_deaf 16 = .ok (.invokestatic 69, 3) := by decide +kernel
theorem dX7_deaf_19 : decode cX7_deaf 19 = .ok (.ifCond .ne 6, 3) := by decide +kernel
theorem dX7_deaf_22 : decode cX7_deaf 22 = .ok (.ldc 73, 2) := by decide +kernel
theorem dX7_deaf_24 : decode cX7_deaf 24 = .ok (.ireturn, 1) := by decide +kernel
theorem dX7_deaf_25 : decode cX7_deaf 25 = .ok (.aload_n 0, 1) := by decide +kernel
theorem dX7_deaf_26 : decode cX7_deaf 26 = .ok (.getfield 43, 3) := by decide +kernel
theorem dX7_deaf_29 : decode cX7_deaf 29 = .ok (.aload_n 0, 1) := by decide +kernel
theorem dX7_deaf_30 : decode cX7_deaf 30 = .ok (.getfield 26, 3) := by decide +kernel
theorem dX7_deaf_33 : decode cX7_deaf 33 = .ok (.invokevirtual 236, 3) := by decide +kernel
theorem dX7_deaf_36 : decode cX7_deaf 36 = .ok (.iload_n 1, 1) := by decide +kernel
theorem dX7_deaf_37 : decode cX7_deaf 37 = .ok (.ifCond .ne 13, 3) := by decide +kernel
theorem dX7_deaf_40 : decode cX7_deaf 40 = .ok (.aload_n 0, 1) := by decide +kernel
theorem dX7_deaf_41 : decode cX7_deaf 41 = .ok (.getfield 43, 3) := by decide +kernel
theorem dX7_deaf_44 : decode cX7_deaf 44 = .ok (.getfield 213, 3) := by decide +kernel
theorem dX7_deaf_47 : decode cX7_deaf 47 = .ok (.goto 10, 3) := by decide +kernel
theorem dX7_deaf_50 : decode cX7_deaf 50 = .ok (.aload_n 0, 1) := by decide +kernel
theorem dX7_deaf_51 : decode cX7_deaf 51 = .ok (.getfield 43, 3) := by decide +kernel
theorem dX7_deaf_54 : decode cX7_deaf 54 = .ok (.getfield 216, 3) := by decide +kernel
theorem dX7_deaf_57 : decode cX7_deaf 57 = .ok (.ireturn, 1) := by decide +kernel
theorem dX7_inEar_0 : decode cX7_inEar 0 = .ok (.aload_n 0, 1) := by decide +kernel
theorem dX7_inEar_1 : decode cX7_inEar 1 = .ok (.getfield 26, 3) := by decide +kernel
theorem dX7_inEar_4 : decode cX7_inEar 4 = .ok (.invokevirtual 143, 3) := by decide +kernel
theorem dX7_inEar_7 : decode cX7_inEar 7 = .ok (.ifCond .ne 6, 3) := by decide +kernel
theorem dX7_inEar_10 : decode cX7_inEar 10 = .ok (.ldc 142, 2) := by decide +kernel
theorem dX7_inEar_12 : decode cX7_inEar 12 = .ok (.ireturn, 1) := by decide +kernel
theorem dX7_inEar_13 : decode cX7_inEar 13 = .ok (.iload_n 1, 1) := by decide +kernel
theorem dX7_inEar_14 : decode cX7_inEar 14 = .ok (.iconst 0, 1) := by decide +kernel
theorem dX7_inEar_15 : decode cX7_inEar 15 = .ok (.iconst 1, 1) := by decide +kernel
theorem dX7_inEar_16 : decode cX7_inEar 16 = .ok (.invokestatic 69, 3) := by decide +kernel
theorem dX7_inEar_19 : decode cX7_inEar 19 = .ok (.ifCond .ne 6, 3) := by decide +kernel
theorem dX7_inEar_22 : decode cX7_inEar 22 = .ok (.ldc 73, 2) := by decide +kernel
theorem dX7_inEar_24 : decode cX7_inEar 24 = .ok (.ireturn, 1) := by decide +kernel
theorem dX7_inEar_25 : decode cX7_inEar 25 = .ok (.aload_n 0, 1) := by decide +kernel
theorem dX7_inEar_26 : decode cX7_inEar 26 = .ok (.getfield 43, 3) := by decide +kernel
theorem dX7_inEar_29 : decode cX7_inEar 29 = .ok (.aload_n 0, 1) := by decide +kernel
theorem dX7_inEar_30 : decode cX7_inEar 30 = .ok (.getfield 26, 3) := by decide +kernel
theorem dX7_inEar_33 : decode cX7_inEar 33 = .ok (.invokevirtual 239, 3) := by decide +kernel
theorem dX7_inEar_36 : decode cX7_inEar 36 = .ok (.iload_n 1, 1) := by decide +kernel
theorem dX7_inEar_37 : decode cX7_inEar 37 = .ok (.ifCond .ne 13, 3) := by decide +kernel
theorem dX7_inEar_40 : decode cX7_inEar 40 = .ok (.aload_n 0, 1) := by decide +kernel
theorem dX7_inEar_41 : decode cX7_inEar 41 = .ok (.getfield 43, 3) := by decide +kernel
theorem dX7_inEar_44 : decode cX7_inEar 44 = .ok (.getfield 213, 3) := by decide +kernel
theorem dX7_inEar_47 : decode cX7_inEar 47 = .ok (.goto 10, 3) := by decide +kernel
theorem dX7_inEar_50 : decode cX7_inEar 50 = .ok (.aload_n 0, 1) := by decide +kernel
theorem dX7_inEar_51 : decode cX7_inEar 51 = .ok (.getfield 43, 3) := by decide +kernel
theorem dX7_inEar_54 : decode cX7_inEar 54 = .ok (.getfield 216, 3) := by decide +kernel
theorem dX7_inEar_57 : decode cX7_inEar 57 = .ok (.ireturn, 1) := by decide +kernel
theorem dX7_blame_0 : decode cX7_blame 0 = .ok (.aload_n 0, 1) := by decide +kernel
theorem dX7_blame_1 : decode cX7_blame 1 = .ok (.getfield 26, 3) := by decide +kernel
theorem dX7_blame_4 : decode cX7_blame 4 = .ok (.iload_n 1, 1) := by decide +kernel
theorem dX7_blame_5 : decode cX7_blame 5 = .ok (.invokevirtual 160, 3) := by decide +kernel
theorem dX7_blame_8 : decode cX7_blame 8 = .ok (.ifCond .eq 18, 3) := by decide +kernel
theorem dX7_blame_11 : decode cX7_blame 11 = .ok (.aload_n 0, 1) := by decide +kernel
theorem dX7_blame_12 : decode cX7_blame 12 = .ok (.getfield 43, 3) := by decide +kernel
theorem dX7_blame_15 : decode cX7_blame 15 = .ok (.aload_n 0, 1) := by decide +kernel
theorem dX7_blame_16 : decode cX7_blame 16 = .ok (.getfield 26, 3) := by decide +kernel
theorem dX7_blame_19 : decode cX7_blame 19 = .ok (.iload_n 1, 1) := by decide +kernel
theorem dX7_blame_20 : decode cX7_blame 20 = .ok (.invokevirtual 242, 3) := by decide +kernel
theorem dX7_blame_23 : decode cX7_blame 23 = .ok (.goto 5, 3) := by decide +kernel
theorem dX7_blame_26 : decode cX7_blame 26 = .ok (.ldc 73, 2) := by decide +kernel
theorem dX7_blame_28 : decode cX7_blame 28 = .ok (.ireturn, 1) := by decide +kernel
theorem dX7_back_0 : decode cX7_back 0 = .ok (.aload_n 0, 1) := by decide +kernel
theorem dX7_back_1 : decode cX7_back 1 = .ok (.getfield 26, 3) := by decide +kernel
theorem dX7_back_4 : decode cX7_back 4 = .ok (.iload_n 1, 1) := by decide +kernel
theorem dX7_back_5 : decode cX7_back 5 = .ok (.invokevirtual 160, 3) := by decide +kernel
theorem dX7_back_8 : decode cX7_back 8 = .ok (.ifCond .eq 37, 3) := by decide +kernel
theorem dX7_back_11 : decode cX7_back 11 = .ok (.iload_n 2, 1) := by decide +kernel
theorem dX7_back_12 : decode cX7_back 12 = .ok (.iconst 1, 1) := by decide +kernel
theorem dX7_back_13 : decode cX7_back 13 = .ok (.bipush 99, 2) := by decide +kernel
theorem dX7_back_15 : decode cX7_back 15 = .ok (.invokestatic 69, 3) := by decide +kernel
theorem dX7_back_18 : decode cX7_back 18 = .ok (.ifCond .eq 27, 3) := by decide +kernel
theorem dX7_back_21 : decode cX7_back 21 = .ok (.iload_n 3, 1) := by decide +kernel
theorem dX7_back_22 : decode cX7_back 22 = .ok (.iconst 1, 1) := by decide +kernel
theorem dX7_back_23 : decode cX7_back 23 = .ok (.bipush 40, 2) := by decide +kernel
theorem dX7_back_25 : decode cX7_back 25 = .ok (.invokestatic 69, 3) := by decide +kernel
theorem dX7_back_28 : decode cX7_back 28 = .ok (.ifCond .eq 17, 3) := by decide +kernel
theorem dX7_back_31 : decode cX7_back 31 = .ok (.iload 4, 2) := by decide +kernel
theorem dX7_back_33 : decode cX7_back 33 = .ok (.sipush 300, 3) := by decide +kernel
theorem dX7_back_36 : decode cX7_back 36 = .ok (.sipush 2500, 3) := by decide +kernel
theorem dX7_back_39 : decode cX7_back 39 = .ok (.invokestatic 69, 3) := by decide +kernel
theorem dX7_back_42 : decode cX7_back 42 = .ok (.ifCond .ne 6, 3) := by decide +kernel
theorem dX7_back_45 : decode cX7_back 45 = .ok (.ldc 73, 2) := by decide +kernel
theorem dX7_back_47 : decode cX7_back 47 = .ok (.ireturn, 1) := by decide +kernel
theorem dX7_back_48 : decode cX7_back 48 = .ok (.aload_n 0, 1) := by decide +kernel
theorem dX7_back_49 : decode cX7_back 49 = .ok (.getfield 26, 3) := by decide +kernel
theorem dX7_back_52 : decode cX7_back 52 = .ok (.getfield 246, 3) := by decide +kernel
theorem dX7_back_55 : decode cX7_back 55 = .ok (.iload_n 1, 1) := by decide +kernel
theorem dX7_back_56 : decode cX7_back 56 = .ok (.iaload, 1) := by decide +kernel
theorem dX7_back_57 : decode cX7_back 57 = .ok (.iconst 4, 1) := by decide +kernel
theorem dX7_back_58 : decode cX7_back 58 = .ok (.invokestatic 249, 3) := by decide +kernel
theorem dX7_back_61 : decode cX7_back 61 = .ok (.ifCond .ne 6, 3) := by decide +kernel
theorem dX7_back_64 : decode cX7_back 64 = .ok (.ldc 142, 2) := by decide +kernel
theorem dX7_back_66 : decode cX7_back 66 = .ok (.ireturn, 1) := by decide +kernel
theorem dX7_back_67 : decode cX7_back 67 = .ok (.aload_n 0, 1) := by decide +kernel
theorem dX7_back_68 : decode cX7_back 68 = .ok (.getfield 43, 3) := by decide +kernel
theorem dX7_back_71 : decode cX7_back 71 = .ok (.aload_n 0, 1) := by decide +kernel
theorem dX7_back_72 : decode cX7_back 72 = .ok (.getfield 26, 3) := by decide +kernel
theorem dX7_back_75 : decode cX7_back 75 = .ok (.iload_n 1, 1) := by decide +kernel
theorem dX7_back_76 : decode cX7_back 76 = .ok (.iload_n 2, 1) := by decide +kernel
theorem dX7_back_77 : decode cX7_back 77 = .ok (.iload_n 3, 1) := by decide +kernel
theorem dX7_back_78 : decode cX7_back 78 = .ok (.iload 4, 2) := by decide +kernel
theorem dX7_back_80 : decode cX7_back 80 = .ok (.invokevirtual 252, 3) := by decide +kernel
theorem dX7_back_83 : decode cX7_back 83 = .ok (.ireturn, 1) := by decide +kernel
theorem dX7_songs_0 : decode cX7_songs 0 = .ok (.aload_n 0, 1) := by decide +kernel
theorem dX7_songs_1 : decode cX7_songs 1 = .ok (.getfield 10, 3) := by decide +kernel
theorem dX7_songs_4 : decode cX7_songs 4 = .ok (.iload_n 1, 1) := by decide +kernel
theorem dX7_songs_5 : decode cX7_songs 5 = .ok (.invokevirtual 65, 3) := by decide +kernel
theorem dX7_songs_8 : decode cX7_songs 8 = .ok (.ifCond .eq 25, 3) := by decide +kernel
theorem dX7_songs_11 : decode cX7_songs 11 = .ok (.iload_n 3, 1) := by decide +kernel
theorem dX7_songs_12 : decode cX7_songs 12 = .ok (.iconst 1, 1) := by decide +kernel
theorem dX7_songs_13 : decode cX7_songs 13 = .ok (.bipush 6, 2) := by decide +kernel
theorem dX7_songs_15 : decode cX7_songs 15 = .ok (.invokestatic 69, 3) := by decide +kernel
theorem dX7_songs_18 : decode cX7_songs 18 = .ok (.ifCond .eq 15, 3) := by decide +kernel
theorem dX7_songs_21 : decode cX7_songs 21 = .ok (.iload 4, 2) := by decide +kernel
theorem dX7_songs_23 : decode cX7_songs 23 = .ok (.iconst (-1), 1) := by decide +kernel
theorem dX7_songs_24 : decode cX7_songs 24 = .ok (.iload_n 3, 1) := by decide +kernel
theorem dX7_songs_25 : decode cX7_songs 25 = .ok (.iconst 1, 1) := by decide +kernel
theorem dX7_songs_26 : decode cX7_songs 26 = .ok (.isub, 1) := by decide +kernel
theorem dX7_songs_27 : decode cX7_songs 27 = .ok (.invokestatic 69, 3) := by decide +kernel
theorem dX7_songs_30 : decode cX7_songs 30 = .ok (.ifCond .ne 6, 3) := by decide +kernel
theorem dX7_songs_33 : decode cX7_songs 33 = .ok (.ldc 73, 2) := by decide +kernel
theorem dX7_songs_35 : decode cX7_songs 35 = .ok (.ireturn, 1) := by decide +kernel
theorem dX7_songs_36 : decode cX7_songs 36 = .ok (.aload_n 0, 1) := by decide +kernel
theorem dX7_songs_37 : decode cX7_songs 37 = .ok (.getfield 10, 3) := by decide +kernel
theorem dX7_songs_40 : decode cX7_songs 40 = .ok (.iload_n 1, 1) := by decide +kernel
theorem dX7_songs_41 : decode cX7_songs 41 = .ok (.invokevirtual 85, 3) := by decide +kernel
theorem dX7_songs_44 : decode cX7_songs 44 = .ok (.ifCond .eq 9, 3) := by decide +kernel
theorem dX7_songs_47 : decode cX7_songs 47 = .ok (.aload_n 0, 1) := by decide +kernel
theorem dX7_songs_48 : decode cX7_songs 48 = .ok (.iconst 1, 1) := by decide +kernel
theorem dX7_songs_49 : decode cX7_songs 49 = .ok (.invokevirtual 74, 3) := by decide +kernel
theorem dX7_songs_52 : decode cX7_songs 52 = .ok (.ireturn, 1) := by decide +kernel
theorem dX7_songs_53 : decode cX7_songs 53 = .ok (.aload_n 0, 1) := by decide +kernel
theorem dX7_songs_54 : decode cX7_songs 54 = .ok (.getfield 10, 3) := by decide +kernel
theorem dX7_songs_57 : decode cX7_songs 57 = .ok (.iload_n 1, 1) := by decide +kernel
theorem dX7_songs_58 : decode cX7_songs 58 = .ok (.iload_n 2, 1) := by decide +kernel
theorem dX7_songs_59 : decode cX7_songs 59 = .ok (.iload_n 3, 1) := by decide +kernel
theorem dX7_songs_60 : decode cX7_songs 60 = .ok (.invokevirtual 88, 3) := by decide +kernel
theorem dX7_songs_63 : decode cX7_songs 63 = .ok (.ifCond .ne 9, 3) := by decide +kernel
theorem dX7_songs_66 : decode cX7_songs 66 = .ok (.aload_n 0, 1) := by decide +kernel
theorem dX7_songs_67 : decode cX7_songs 67 = .ok (.iconst 2, 1) := by decide +kernel
theorem dX7_songs_68 : decode cX7_songs 68 = .ok (.invokevirtual 74, 3) := by decide +kernel
theorem dX7_songs_71 : decode cX7_songs 71 = .ok (.ireturn, 1) := by decide +kernel
theorem dX7_songs_72 : decode cX7_songs 72 = .ok (.aload_n 0, 1) := by decide +kernel
theorem dX7_songs_73 : decode cX7_songs 73 = .ok (.getfield 10, 3) := by decide +kernel
theorem dX7_songs_76 : decode cX7_songs 76 = .ok (.iload_n 1, 1) := by decide +kernel
theorem dX7_songs_77 : decode cX7_songs 77 = .ok (.iload_n 2, 1) := by decide +kernel
theorem dX7_songs_78 : decode cX7_songs 78 = .ok (.iload_n 3, 1) := by decide +kernel
theorem dX7_songs_79 : decode cX7_songs 79 = .ok (.invokevirtual 223, 3) := by decide +kernel
theorem dX7_songs_82 : decode cX7_songs 82 = .ok (.iconst 0, 1) := by decide +kernel
theorem dX7_songs_83 : decode cX7_songs 83 = .ok (.istore 5, 2) := by decide +kernel
theorem dX7_songs_85 : decode cX7_songs 85 = .ok (.iload 5, 2) := by decide +kernel
theorem dX7_songs_87 : decode cX7_songs 87 = .ok (.iload_n 3, 1) := by decide +kernel
theorem dX7_songs_88 : decode cX7_songs 88 = .ok (.if_icmp .ge 32, 3) := by decide +kernel
theorem dX7_songs_91 : decode cX7_songs 91 = .ok (.aload_n 0, 1) := by decide +kernel
theorem dX7_songs_92 : decode cX7_songs 92 = .ok (.getfield 10, 3) := by decide +kernel
theorem dX7_songs_95 : decode cX7_songs 95 = .ok (.getfield 226, 3) := by decide +kernel
theorem dX7_songs_98 : decode cX7_songs 98 = .ok (.iload 5, 2) := by decide +kernel
theorem dX7_songs_100 : decode cX7_songs 100 = .ok (.iaload, 1) := by decide +kernel
theorem dX7_songs_101 : decode cX7_songs 101 = .ok (.iconst 0, 1) := by decide +kernel
theorem dX7_songs_102 : decode cX7_songs 102 = .ok (.sipush 2500, 3) := by decide +kernel
theorem dX7_songs_105 : decode cX7_songs 105 = .ok (.invokestatic 69, 3) := by decide +kernel
theorem dX7_songs_108 : decode cX7_songs 108 = .ok (.ifCond .ne 6, 3) := by decide +kernel
theorem dX7_songs_111 : decode cX7_songs 111 = .ok (.ldc 73, 2) := by decide +kernel
theorem dX7_songs_113 : decode cX7_songs 113 = .ok (.ireturn, 1) := by decide +kernel
theorem dX7_songs_114 : decode cX7_songs 114 = .ok (.iinc 5 1, 3) := by decide +kernel
theorem dX7_songs_117 : decode cX7_songs 117 = .ok (.goto (-32), 3) := by decide +kernel
theorem dX7_songs_120 : decode cX7_songs 120 = .ok (.aload_n 0, 1) := by decide +kernel
theorem dX7_songs_121 : decode cX7_songs 121 = .ok (.getfield 50, 3) := by decide +kernel
theorem dX7_songs_124 : decode cX7_songs 124 = .ok (.aload_n 0, 1) := by decide +kernel
theorem dX7_songs_125 : decode cX7_songs 125 = .ok (.getfield 10, 3) := by decide +kernel
theorem dX7_songs_128 : decode cX7_songs 128 = .ok (.getfield 226, 3) := by decide +kernel
theorem dX7_songs_131 : decode cX7_songs 131 = .ok (.iload_n 3, 1) := by decide +kernel
theorem dX7_songs_132 : decode cX7_songs 132 = .ok (.invokevirtual 256, 3) := by decide +kernel
theorem dX7_songs_135 : decode cX7_songs 135 = .ok (.aload_n 0, 1) := by decide +kernel
theorem dX7_songs_136 : decode cX7_songs 136 = .ok (.iload 4, 2) := by decide +kernel
theorem dX7_songs_138 : decode cX7_songs 138 = .ok (.iconst (-1), 1) := by decide +kernel
theorem dX7_songs_139 : decode cX7_songs 139 = .ok (.if_icmp .ne 13, 3) := by decide +kernel
theorem dX7_songs_142 : decode cX7_songs 142 = .ok (.aload_n 0, 1) := by decide +kernel
theorem dX7_songs_143 : decode cX7_songs 143 = .ok (.getfield 50, 3) := by decide +kernel
theorem dX7_songs_146 : decode cX7_songs 146 = .ok (.getfield 260, 3) := by decide +kernel
theorem dX7_songs_149 : decode cX7_songs 149 = .ok (.goto 13, 3) := by decide +kernel
theorem dX7_songs_152 : decode cX7_songs 152 = .ok (.aload_n 0, 1) := by decide +kernel
theorem dX7_songs_153 : decode cX7_songs 153 = .ok (.getfield 50, 3) := by decide +kernel
theorem dX7_songs_156 : decode cX7_songs 156 = .ok (.getfield 263, 3) := by decide +kernel
theorem dX7_songs_159 : decode cX7_songs 159 = .ok (.iload 4, 2) := by decide +kernel
theorem dX7_songs_161 : decode cX7_songs 161 = .ok (.iaload, 1) := by decide +kernel
theorem dX7_songs_162 : decode cX7_songs 162 = .ok (.invokevirtual 82, 3) := by decide +kernel
theorem dX7_songs_165 : decode cX7_songs 165 = .ok (.ireturn, 1) := by decide +kernel
theorem dX7_clapped_0 : decode cX7_clapped 0 = .ok (.aload_n 0, 1) := by decide +kernel
theorem dX7_clapped_1 : decode cX7_clapped 1 = .ok (.getfield 26, 3) := by decide +kernel
theorem dX7_clapped_4 : decode cX7_clapped 4 = .ok (.invokevirtual 143, 3) := by decide +kernel
theorem dX7_clapped_7 : decode cX7_clapped 7 = .ok (.ifCond .ne 6, 3) := by decide +kernel
theorem dX7_clapped_10 : decode cX7_clapped 10 = .ok (.ldc 142, 2) := by decide +kernel
theorem dX7_clapped_12 : decode cX7_clapped 12 = .ok (.ireturn, 1) := by decide +kernel
theorem dX7_clapped_13 : decode cX7_clapped 13 = .ok (.iload_n 1, 1) := by decide +kernel
theorem dX7_clapped_14 : decode cX7_clapped 14 = .ok (.iconst 1, 1) := by decide +kernel
theorem dX7_clapped_15 : decode cX7_clapped 15 = .ok (.bipush 99, 2) := by decide +kernel
theorem dX7_clapped_17 : decode cX7_clapped 17 = .ok (.invokestatic 69, 3) := by decide +kernel
theorem dX7_clapped_20 : decode cX7_clapped 20 = .ok (.ifCond .eq 14, 3) := by decide +kernel
theorem dX7_clapped_23 : decode cX7_clapped 23 = .ok (.iload_n 2, 1) := by decide +kernel
theorem dX7_clapped_24 : decode cX7_clapped 24 = .ok (.iconst 0, 1) := by decide +kernel
theorem dX7_clapped_25 : decode cX7_clapped 25 = .ok (.sipush 200, 3) := by decide +kernel
theorem dX7_clapped_28 : decode cX7_clapped 28 = .ok (.invokestatic 69, 3) := by decide +kernel
theorem dX7_clapped_31 : decode cX7_clapped 31 = .ok (.ifCond .ne 6, 3) := by decide +kernel
theorem dX7_clapped_34 : decode cX7_clapped 34 = .ok (.ldc 73, 2) := by decide +kernel
theorem dX7_clapped_36 : decode cX7_clapped 36 = .ok (.ireturn, 1) := by decide +kernel
theorem dX7_clapped_37 : decode cX7_clapped 37 = .ok (.aload_n 0, 1) := by decide +kernel
theorem dX7_clapped_38 : decode cX7_clapped 38 = .ok (.getfield 43, 3) := by decide +kernel
theorem dX7_clapped_41 : decode cX7_clapped 41 = .ok (.aload_n 0, 1) := by decide +kernel
theorem dX7_clapped_42 : decode cX7_clapped 42 = .ok (.getfield 26, 3) := by decide +kernel
theorem dX7_clapped_45 : decode cX7_clapped 45 = .ok (.iload_n 1, 1) := by decide +kernel
theorem dX7_clapped_46 : decode cX7_clapped 46 = .ok (.iload_n 2, 1) := by decide +kernel
theorem dX7_clapped_47 : decode cX7_clapped 47 = .ok (.invokevirtual 266, 3) := by decide +kernel
theorem dX7_clapped_50 : decode cX7_clapped 50 = .ok (.ireturn, 1) := by decide +kernel
theorem dX7_whoPushed_0 : decode cX7_whoPushed 0 = .ok (.aload_n 0, 1) := by decide +kernel
theorem dX7_whoPushed_1 : decode cX7_whoPushed 1 = .ok (.getfield 26, 3) := by decide +kernel
theorem dX7_whoPushed_4 : decode cX7_whoPushed 4 = .ok (.invokevirtual 143, 3) := by decide +kernel
theorem dX7_whoPushed_7 : decode cX7_whoPushed 7 = .ok (.ifCond .ne 6, 3) := by decide +kernel
theorem dX7_whoPushed_10 : decode cX7_whoPushed 10 = .ok (.ldc 142, 2) := by decide +kernel
theorem dX7_whoPushed_12 : decode cX7_whoPushed 12 = .ok (.ireturn, 1) := by decide +kernel
theorem dX7_whoPushed_13 : decode cX7_whoPushed 13 = .ok (.aload_n 0, 1) := by decide +kernel
theorem dX7_whoPushed_14 : decode cX7_whoPushed 14 = .ok (.getfield 10, 3) := by decide +kernel
theorem dX7_whoPushed_17 : decode cX7_whoPushed 17 = .ok (.iload_n 1, 1) := by decide +kernel
theorem dX7_whoPushed_18 : decode cX7_whoPushed 18 = .ok (.invokevirtual 65, 3) := by decide +kernel
theorem dX7_whoPushed_21 : decode cX7_whoPushed 21 = .ok (.ifCond .eq 12, 3) := by decide +kernel
theorem dX7_whoPushed_24 : decode cX7_whoPushed 24 = .ok (.iload_n 3, 1) := by decide +kernel
theorem dX7_whoPushed_25 : decode cX7_whoPushed 25 = .ok (.iconst 0, 1) := by decide +kernel
theorem dX7_whoPushed_26 : decode cX7_whoPushed 26 = .ok (.iconst 1, 1) := by decide +kernel
theorem dX7_whoPushed_27 : decode cX7_whoPushed 27 = .ok (.invokestatic 69, 3) := by decide +kernel
theorem dX7_whoPushed_30 : decode cX7_whoPushed 30 = .ok (.ifCond .ne 6, 3) := by decide +kernel
theorem dX7_whoPushed_33 : decode cX7_whoPushed 33 = .ok (.ldc 73, 2) := by decide +kernel
theorem dX7_whoPushed_35 : decode cX7_whoPushed 35 = .ok (.ireturn, 1) := by decide +kernel
theorem dX7_whoPushed_36 : decode cX7_whoPushed 36 = .ok (.aload_n 0, 1) := by decide +kernel
theorem dX7_whoPushed_37 : decode cX7_whoPushed 37 = .ok (.getfield 10, 3) := by decide +kernel
theorem dX7_whoPushed_40 : decode cX7_whoPushed 40 = .ok (.iload_n 1, 1) := by decide +kernel
theorem dX7_whoPushed_41 : decode cX7_whoPushed 41 = .ok (.invokevirtual 85, 3) := by decide +kernel
theorem dX7_whoPushed_44 : decode cX7_whoPushed 44 = .ok (.ifCond .eq 9, 3) := by decide +kernel
theorem dX7_whoPushed_47 : decode cX7_whoPushed 47 = .ok (.aload_n 0, 1) := by decide +kernel
theorem dX7_whoPushed_48 : decode cX7_whoPushed 48 = .ok (.iconst 1, 1) := by decide +kernel
theorem dX7_whoPushed_49 : decode cX7_whoPushed 49 = .ok (.invokevirtual 74, 3) := by decide +kernel
theorem dX7_whoPushed_52 : decode cX7_whoPushed 52 = .ok (.ireturn, 1) := by decide +kernel
theorem dX7_whoPushed_53 : decode cX7_whoPushed 53 = .ok (.aload_n 0, 1) := by decide +kernel
theorem dX7_whoPushed_54 : decode cX7_whoPushed 54 = .ok (.getfield 10, 3) := by decide +kernel
theorem dX7_whoPushed_57 : decode cX7_whoPushed 57 = .ok (.iload_n 1, 1) := by decide +kernel
theorem dX7_whoPushed_58 : decode cX7_whoPushed 58 = .ok (.iload_n 2, 1) := by decide +kernel
theorem dX7_whoPushed_59 : decode cX7_whoPushed 59 = .ok (.aload_n 0, 1) := by decide +kernel
theorem dX7_whoPushed_60 : decode cX7_whoPushed 60 = .ok (.getfield 26, 3) := by decide +kernel
theorem dX7_whoPushed_63 : decode cX7_whoPushed 63 = .ok (.getfield 133, 3) := by decide +kernel
theorem dX7_whoPushed_66 : decode cX7_whoPushed 66 = .ok (.invokevirtual 88, 3) := by decide +kernel
theorem dX7_whoPushed_69 : decode cX7_whoPushed 69 = .ok (.ifCond .ne 9, 3) := by decide +kernel
theorem dX7_whoPushed_72 : decode cX7_whoPushed 72 = .ok (.aload_n 0, 1) := by decide +kernel
theorem dX7_whoPushed_73 : decode cX7_whoPushed 73 = .ok (.iconst 2, 1) := by decide +kernel
theorem dX7_whoPushed_74 : decode cX7_whoPushed 74 = .ok (.invokevirtual 74, 3) := by decide +kernel
theorem dX7_whoPushed_77 : decode cX7_whoPushed 77 = .ok (.ireturn, 1) := by decide +kernel
theorem dX7_whoPushed_78 : decode cX7_whoPushed 78 = .ok (.aload_n 0, 1) := by decide +kernel
theorem dX7_whoPushed_79 : decode cX7_whoPushed 79 = .ok (.getfield 10, 3) := by decide +kernel
theorem dX7_whoPushed_82 : decode cX7_whoPushed 82 = .ok (.iload_n 1, 1) := by decide +kernel
theorem dX7_whoPushed_83 : decode cX7_whoPushed 83 = .ok (.iload_n 2, 1) := by decide +kernel
theorem dX7_whoPushed_84 : decode cX7_whoPushed 84 = .ok (.aload_n 0, 1) := by decide +kernel
theorem dX7_whoPushed_85 : decode cX7_whoPushed 85 = .ok (.getfield 26, 3) := by decide +kernel
theorem dX7_whoPushed_88 : decode cX7_whoPushed 88 = .ok (.getfield 133, 3) := by decide +kernel
theorem dX7_whoPushed_91 : decode cX7_whoPushed 91 = .ok (.invokevirtual 223, 3) := by decide +kernel
theorem dX7_whoPushed_94 : decode cX7_whoPushed 94 = .ok (.aload_n 0, 1) := by decide +kernel
theorem dX7_whoPushed_95 : decode cX7_whoPushed 95 = .ok (.getfield 43, 3) := by decide +kernel
theorem dX7_whoPushed_98 : decode cX7_whoPushed 98 = .ok (.aload_n 0, 1) := by decide +kernel
theorem dX7_whoPushed_99 : decode cX7_whoPushed 99 = .ok (.getfield 26, 3) := by decide +kernel
theorem dX7_whoPushed_102 : decode cX7_whoPushed 102 = .ok (.aload_n 0, 1) := by decide +kernel
theorem dX7_whoPushed_103 : decode cX7_whoPushed 103 = .ok (.getfield 10, 3) := by decide +kernel
theorem dX7_whoPushed_106 : decode cX7_whoPushed 106 = .ok (.getfield 226, 3) := by decide +kernel
theorem dX7_whoPushed_109 : decode cX7_whoPushed 109 = .ok (.invokevirtual 269, 3) := by decide +kernel
theorem dX7_whoPushed_112 : decode cX7_whoPushed 112 = .ok (.aload_n 0, 1) := by decide +kernel
theorem dX7_whoPushed_113 : decode cX7_whoPushed 113 = .ok (.iload_n 3, 1) := by decide +kernel
theorem dX7_whoPushed_114 : decode cX7_whoPushed 114 = .ok (.ifCond .ne 13, 3) := by decide +kernel
theorem dX7_whoPushed_117 : decode cX7_whoPushed 117 = .ok (.aload_n 0, 1) := by decide +kernel
theorem dX7_whoPushed_118 : decode cX7_whoPushed 118 = .ok (.getfield 43, 3) := by decide +kernel
theorem dX7_whoPushed_121 : decode cX7_whoPushed 121 = .ok (.getfield 213, 3) := by decide +kernel
theorem dX7_whoPushed_124 : decode cX7_whoPushed 124 = .ok (.goto 10, 3) := by decide +kernel
theorem dX7_whoPushed_127 : decode cX7_whoPushed 127 = .ok (.aload_n 0, 1) := by decide +kernel
theorem dX7_whoPushed_128 : decode cX7_whoPushed 128 = .ok (.getfield 43, 3) := by decide +kernel
theorem dX7_whoPushed_131 : decode cX7_whoPushed 131 = .ok (.getfield 216, 3) := by decide +kernel
theorem dX7_whoPushed_134 : decode cX7_whoPushed 134 = .ok (.invokevirtual 82, 3) := by decide +kernel
theorem dX7_whoPushed_137 : decode cX7_whoPushed 137 = .ok (.ireturn, 1) := by decide +kernel
theorem dX7_night_0 : decode cX7_night 0 = .ok (.aload_n 0, 1) := by decide +kernel
theorem dX7_night_1 : decode cX7_night 1 = .ok (.getfield 26, 3) := by decide +kernel
theorem dX7_night_4 : decode cX7_night 4 = .ok (.invokevirtual 143, 3) := by decide +kernel
theorem dX7_night_7 : decode cX7_night 7 = .ok (.ifCond .ne 6, 3) := by decide +kernel
theorem dX7_night_10 : decode cX7_night 10 = .ok (.ldc 142, 2) := by decide +kernel
theorem dX7_night_12 : decode cX7_night 12 = .ok (.ireturn, 1) := by decide +kernel
theorem dX7_night_13 : decode cX7_night 13 = .ok (.iload_n 1, 1) := by decide +kernel
theorem dX7_night_14 : decode cX7_night 14 = .ok (.iconst 0, 1) := by decide +kernel
theorem dX7_night_15 : decode cX7_night 15 = .ok (.bipush 100, 2) := by decide +kernel
theorem dX7_night_17 : decode cX7_night 17 = .ok (.invokestatic 69, 3) := by decide +kernel
theorem dX7_night_20 : decode cX7_night 20 = .ok (.ifCond .eq 23, 3) := by decide +kernel
theorem dX7_night_23 : decode cX7_night 23 = .ok (.iload_n 2, 1) := by decide +kernel
theorem dX7_night_24 : decode cX7_night 24 = .ok (.iconst 1, 1) := by decide +kernel
theorem dX7_night_25 : decode cX7_night 25 = .ok (.ldc_w 273, 3) := by decide +kernel
theorem dX7_night_28 : decode cX7_night 28 = .ok (.invokestatic 69, 3) := by decide +kernel
theorem dX7_night_31 : decode cX7_night 31 = .ok (.ifCond .eq 12, 3) := by decide +kernel
theorem dX7_night_34 : decode cX7_night 34 = .ok (.iload_n 3, 1) := by decide +kernel
theorem dX7_night_35 : decode cX7_night 35 = .ok (.iconst 0, 1) := by decide +kernel
theorem dX7_night_36 : decode cX7_night 36 = .ok (.iconst 1, 1) := by decide +kernel
theorem dX7_night_37 : decode cX7_night 37 = .ok (.invokestatic 69, 3) := by decide +kernel
theorem dX7_night_40 : decode cX7_night 40 = .ok (.ifCond .ne 6, 3) := by decide +kernel
theorem dX7_night_43 : decode cX7_night 43 = .ok (.ldc 73, 2) := by decide +kernel
theorem dX7_night_45 : decode cX7_night 45 = .ok (.ireturn, 1) := by decide +kernel
theorem dX7_night_46 : decode cX7_night 46 = .ok (.aload_n 0, 1) := by decide +kernel
theorem dX7_night_47 : decode cX7_night 47 = .ok (.getfield 43, 3) := by decide +kernel
theorem dX7_night_50 : decode cX7_night 50 = .ok (.aload_n 0, 1) := by decide +kernel
theorem dX7_night_51 : decode cX7_night 51 = .ok (.getfield 26, 3) := by decide +kernel
theorem dX7_night_54 : decode cX7_night 54 = .ok (.iload_n 1, 1) := by decide +kernel
theorem dX7_night_55 : decode cX7_night 55 = .ok (.iload_n 2, 1) := by decide +kernel
theorem dX7_night_56 : decode cX7_night 56 = .ok (.invokevirtual 274, 3) := by decide +kernel
theorem dX7_night_59 : decode cX7_night 59 = .ok (.iload_n 3, 1) := by decide +kernel
theorem dX7_night_60 : decode cX7_night 60 = .ok (.ifCond .ne 13, 3) := by decide +kernel
theorem dX7_night_63 : decode cX7_night 63 = .ok (.aload_n 0, 1) := by decide +kernel
theorem dX7_night_64 : decode cX7_night 64 = .ok (.getfield 43, 3) := by decide +kernel
theorem dX7_night_67 : decode cX7_night 67 = .ok (.getfield 213, 3) := by decide +kernel
theorem dX7_night_70 : decode cX7_night 70 = .ok (.goto 10, 3) := by decide +kernel
theorem dX7_night_73 : decode cX7_night 73 = .ok (.aload_n 0, 1) := by decide +kernel
theorem dX7_night_74 : decode cX7_night 74 = .ok (.getfield 43, 3) := by decide +kernel
theorem dX7_night_77 : decode cX7_night 77 = .ok (.getfield 216, 3) := by decide +kernel
theorem dX7_night_80 : decode cX7_night 80 = .ok (.ireturn, 1) := by decide +kernel
theorem dX7_image_0 : decode cX7_image 0 = .ok (.iload_n 1, 1) := by decide +kernel
theorem dX7_image_1 : decode cX7_image 1 = .ok (.iconst 0, 1) := by decide +kernel
theorem dX7_image_2 : decode cX7_image 2 = .ok (.iconst 1, 1) := by decide +kernel
theorem dX7_image_3 : decode cX7_image 3 = .ok (.invokestatic 69, 3) := by decide +kernel
theorem dX7_image_6 : decode cX7_image 6 = .ok (.ifCond .ne 6, 3) := by decide +kernel
theorem dX7_image_9 : decode cX7_image 9 = .ok (.ldc 73, 2) := by decide +kernel
theorem dX7_image_11 : decode cX7_image 11 = .ok (.ireturn, 1) := by decide +kernel
theorem dX7_image_12 : decode cX7_image 12 = .ok (.aload_n 0, 1) := by decide +kernel
theorem dX7_image_13 : decode cX7_image 13 = .ok (.getfield 26, 3) := by decide +kernel
theorem dX7_image_16 : decode cX7_image 16 = .ok (.invokevirtual 143, 3) := by decide +kernel
theorem dX7_image_19 : decode cX7_image 19 = .ok (.ifCond .ne 6, 3) := by decide +kernel
theorem dX7_image_22 : decode cX7_image 22 = .ok (.ldc 142, 2) := by decide +kernel
theorem dX7_image_24 : decode cX7_image 24 = .ok (.ireturn, 1) := by decide +kernel
theorem dX7_image_25 : decode cX7_image 25 = .ok (.aload_n 0, 1) := by decide +kernel
theorem dX7_image_26 : decode cX7_image 26 = .ok (.getfield 61, 3) := by decide +kernel
theorem dX7_image_29 : decode cX7_image 29 = .ok (.iload_n 1, 1) := by decide +kernel
theorem dX7_image_30 : decode cX7_image 30 = .ok (.aaload, 1) := by decide +kernel
theorem dX7_image_31 : decode cX7_image 31 = .ok (.aload_n 0, 1) := by decide +kernel
theorem dX7_image_32 : decode cX7_image 32 = .ok (.getfield 26, 3) := by decide +kernel
theorem dX7_image_35 : decode cX7_image 35 = .ok (.invokevirtual 127, 3) := by decide +kernel
theorem dX7_image_38 : decode cX7_image 38 = .ok (.iconst 1, 1) := by decide +kernel
theorem dX7_image_39 : decode cX7_image 39 = .ok (.ireturn, 1) := by decide +kernel
theorem dX7_restore_0 : decode cX7_restore 0 = .ok (.iload_n 1, 1) := by decide +kernel
theorem dX7_restore_1 : decode cX7_restore 1 = .ok (.iconst 0, 1) := by decide +kernel
theorem dX7_restore_2 : decode cX7_restore 2 = .ok (.iconst 1, 1) := by decide +kernel
theorem dX7_restore_3 : decode cX7_restore 3 = .ok (.invokestatic 69, 3) := by decide +kernel
theorem dX7_restore_6 : decode cX7_restore 6 = .ok (.ifCond .ne 6, 3) := by decide +kernel
theorem dX7_restore_9 : decode cX7_restore 9 = .ok (.ldc 73, 2) := by decide +kernel
theorem dX7_restore_11 : decode cX7_restore 11 = .ok (.ireturn, 1) := by decide +kernel
theorem dX7_restore_12 : decode cX7_restore 12 = .ok (.aload_n 0, 1) := by decide +kernel
theorem dX7_restore_13 : decode cX7_restore 13 = .ok (.getfield 61, 3) := by decide +kernel
theorem dX7_restore_16 : decode cX7_restore 16 = .ok (.iload_n 1, 1) := by decide +kernel
theorem dX7_restore_17 : decode cX7_restore 17 = .ok (.aaload, 1) := by decide +kernel
theorem dX7_restore_18 : decode cX7_restore 18 = .ok (.invokevirtual 143, 3) := by decide +kernel
theorem dX7_restore_21 : decode cX7_restore 21 = .ok (.ifCond .ne 6, 3) := by decide +kernel
theorem dX7_restore_24 : decode cX7_restore 24 = .ok (.ldc 142, 2) := by decide +kernel
theorem dX7_restore_26 : decode cX7_restore 26 = .ok (.ireturn, 1) := by decide +kernel
theorem dX7_restore_27 : decode cX7_restore 27 = .ok (.aload_n 0, 1) := by decide +kernel
theorem dX7_restore_28 : decode cX7_restore 28 = .ok (.getfield 26, 3) := by decide +kernel
theorem dX7_restore_31 : decode cX7_restore 31 = .ok (.aload_n 0, 1) := by decide +kernel
theorem dX7_restore_32 : decode cX7_restore 32 = .ok (.getfield 61, 3) := by decide +kernel
theorem dX7_restore_35 : decode cX7_restore 35 = .ok (.iload_n 1, 1) := by decide +kernel
theorem dX7_restore_36 : decode cX7_restore 36 = .ok (.aaload, 1) := by decide +kernel
theorem dX7_restore_37 : decode cX7_restore 37 = .ok (.invokevirtual 127, 3) := by decide +kernel
theorem dX7_restore_40 : decode cX7_restore 40 = .ok (.aload_n 0, 1) := by decide +kernel
theorem dX7_restore_41 : decode cX7_restore 41 = .ok (.getfield 36, 3) := by decide +kernel
theorem dX7_restore_44 : decode cX7_restore 44 = .ok (.invokevirtual 131, 3) := by decide +kernel
theorem dX7_restore_47 : decode cX7_restore 47 = .ok (.iconst 1, 1) := by decide +kernel
theorem dX7_restore_48 : decode cX7_restore 48 = .ok (.ireturn, 1) := by decide +kernel
theorem dX7_kind_0 : decode cX7_kind 0 = .ok (.aload_n 0, 1) := by decide +kernel
theorem dX7_kind_1 : decode cX7_kind 1 = .ok (.getfield 26, 3) := by decide +kernel
theorem dX7_kind_4 : decode cX7_kind 4 = .ok (.iload_n 1, 1) := by decide +kernel
theorem dX7_kind_5 : decode cX7_kind 5 = .ok (.invokevirtual 160, 3) := by decide +kernel
theorem dX7_kind_8 : decode cX7_kind 8 = .ok (.ifCond .eq 15, 3) := by decide +kernel
theorem dX7_kind_11 : decode cX7_kind 11 = .ok (.aload_n 0, 1) := by decide +kernel
theorem dX7_kind_12 : decode cX7_kind 12 = .ok (.getfield 26, 3) := by decide +kernel
theorem dX7_kind_15 : decode cX7_kind 15 = .ok (.getfield 246, 3) := by decide +kernel
theorem dX7_kind_18 : decode cX7_kind 18 = .ok (.iload_n 1, 1) := by decide +kernel
theorem dX7_kind_19 : decode cX7_kind 19 = .ok (.iaload, 1) := by decide +kernel
theorem dX7_kind_20 : decode cX7_kind 20 = .ok (.goto 5, 3) := by decide +kernel
theorem dX7_kind_23 : decode cX7_kind 23 = .ok (.ldc 73, 2) := by decide +kernel
theorem dX7_kind_25 : decode cX7_kind 25 = .ok (.ireturn, 1) := by decide +kernel
theorem dX7_as_0 : decode cX7_as 0 = .ok (.aload_n 0, 1) := by decide +kernel
theorem dX7_as_1 : decode cX7_as 1 = .ok (.getfield 26, 3) := by decide +kernel
theorem dX7_as_4 : decode cX7_as 4 = .ok (.iload_n 1, 1) := by decide +kernel
theorem dX7_as_5 : decode cX7_as 5 = .ok (.invokevirtual 160, 3) := by decide +kernel
theorem dX7_as_8 : decode cX7_as 8 = .ok (.ifCond .eq 12, 3) := by decide +kernel
theorem dX7_as_11 : decode cX7_as 11 = .ok (.iload_n 2, 1) := by decide +kernel
theorem dX7_as_12 : decode cX7_as 12 = .ok (.iconst 0, 1) := by decide +kernel
theorem dX7_as_13 : decode cX7_as 13 = .ok (.iconst 5, 1) := by decide +kernel
theorem dX7_as_14 : decode cX7_as 14 = .ok (.invokestatic 69, 3) := by decide +kernel
theorem dX7_as_17 : decode cX7_as 17 = .ok (.ifCond .ne 6, 3) := by decide +kernel
theorem dX7_as_20 : decode cX7_as 20 = .ok (.ldc 73, 2) := by decide +kernel
theorem dX7_as_22 : decode cX7_as 22 = .ok (.ireturn, 1) := by decide +kernel
theorem dX7_as_23 : decode cX7_as 23 = .ok (.aload_n 0, 1) := by decide +kernel
theorem dX7_as_24 : decode cX7_as 24 = .ok (.getfield 26, 3) := by decide +kernel
theorem dX7_as_27 : decode cX7_as 27 = .ok (.getfield 246, 3) := by decide +kernel
theorem dX7_as_30 : decode cX7_as 30 = .ok (.iload_n 1, 1) := by decide +kernel
theorem dX7_as_31 : decode cX7_as 31 = .ok (.iaload, 1) := by decide +kernel
theorem dX7_as_32 : decode cX7_as 32 = .ok (.iload_n 2, 1) := by decide +kernel
theorem dX7_as_33 : decode cX7_as 33 = .ok (.invokestatic 249, 3) := by decide +kernel
theorem dX7_as_36 : decode cX7_as 36 = .ok (.ifCond .ne 9, 3) := by decide +kernel
theorem dX7_as_39 : decode cX7_as 39 = .ok (.aload_n 0, 1) := by decide +kernel
theorem dX7_as_40 : decode cX7_as 40 = .ok (.iconst 3, 1) := by decide +kernel
theorem dX7_as_41 : decode cX7_as 41 = .ok (.invokevirtual 74, 3) := by decide +kernel
theorem dX7_as_44 : decode cX7_as 44 = .ok (.ireturn, 1) := by decide +kernel
theorem dX7_as_45 : decode cX7_as 45 = .ok (.aload_n 0, 1) := by decide +kernel
theorem dX7_as_46 : decode cX7_as 46 = .ok (.iload_n 1, 1) := by decide +kernel
theorem dX7_as_47 : decode cX7_as 47 = .ok (.invokevirtual 82, 3) := by decide +kernel
theorem dX7_as_50 : decode cX7_as 50 = .ok (.ireturn, 1) := by decide +kernel
theorem dX7_ask_0 : decode cX7_ask 0 = .ok (.aload_n 0, 1) := by decide +kernel
theorem dX7_ask_1 : decode cX7_ask 1 = .ok (.getfield 26, 3) := by decide +kernel
theorem dX7_ask_4 : decode cX7_ask 4 = .ok (.iload_n 1, 1) := by decide +kernel
theorem dX7_ask_5 : decode cX7_ask 5 = .ok (.invokevirtual 160, 3) := by decide +kernel
theorem dX7_ask_8 : decode cX7_ask 8 = .ok (.ifCond .eq 12, 3) := by decide +kernel
theorem dX7_ask_11 : decode cX7_ask 11 = .ok (.iload_n 2, 1) := by decide +kernel
theorem dX7_ask_12 : decode cX7_ask 12 = .ok (.iconst 0, 1) := by decide +kernel
theorem dX7_ask_13 : decode cX7_ask 13 = .ok (.iconst 1, 1) := by decide +kernel
theorem dX7_ask_14 : decode cX7_ask 14 = .ok (.invokestatic 69, 3) := by decide +kernel
theorem dX7_ask_17 : decode cX7_ask 17 = .ok (.ifCond .ne 6, 3) := by decide +kernel
theorem dX7_ask_20 : decode cX7_ask 20 = .ok (.ldc 73, 2) := by decide +kernel
theorem dX7_ask_22 : decode cX7_ask 22 = .ok (.ireturn, 1) := by decide +kernel
theorem dX7_ask_23 : decode cX7_ask 23 = .ok (.aload_n 0, 1) := by decide +kernel
theorem dX7_ask_24 : decode cX7_ask 24 = .ok (.getfield 57, 3) := by decide +kernel
theorem dX7_ask_27 : decode cX7_ask 27 = .ok (.aload_n 0, 1) := by decide +kernel
theorem dX7_ask_28 : decode cX7_ask 28 = .ok (.getfield 26, 3) := by decide +kernel
theorem dX7_ask_31 : decode cX7_ask 31 = .ok (.iload_n 1, 1) := by decide +kernel
theorem dX7_ask_32 : decode cX7_ask 32 = .ok (.iload_n 2, 1) := by decide +kernel
theorem dX7_ask_33 : decode cX7_ask 33 = .ok (.invokevirtual 278, 3) := by decide +kernel
theorem dX7_ask_36 : decode cX7_ask 36 = .ok (.ireturn, 1) := by decide +kernel
theorem dX7_trace_0 : decode cX7_trace 0 = .ok (.iload_n 1, 1) := by decide +kernel
theorem dX7_trace_1 : decode cX7_trace 1 = .ok (.iconst 0, 1) := by decide +kernel
theorem dX7_trace_2 : decode cX7_trace 2 = .ok (.aload_n 0, 1) := by decide +kernel
theorem dX7_trace_3 : decode cX7_trace 3 = .ok (.getfield 57, 3) := by decide +kernel
theorem dX7_trace_6 : decode cX7_trace 6 = .ok (.getfield 281, 3) := by decide +kernel
theorem dX7_trace_9 : decode cX7_trace 9 = .ok (.iconst 1, 1) := by decide +kernel
theorem dX7_trace_10 : decode cX7_trace 10 = .ok (.isub, 1) := by decide +kernel
theorem dX7_trace_11 : decode cX7_trace 11 = .ok (.invokestatic 69, 3) := by decide +kernel
theorem dX7_trace_14 : decode cX7_trace 14 = .ok (.ifCond .eq 15, 3) := by decide +kernel
theorem dX7_trace_17 : decode cX7_trace 17 = .ok (.aload_n 0, 1) := by decide +kernel
theorem dX7_trace_18 : decode cX7_trace 18 = .ok (.getfield 57, 3) := by decide +kernel
theorem dX7_trace_21 : decode cX7_trace 21 = .ok (.getfield 284, 3) := by decide +kernel
theorem dX7_trace_24 : decode cX7_trace 24 = .ok (.iload_n 1, 1) := by decide +kernel
theorem dX7_trace_25 : decode cX7_trace 25 = .ok (.iaload, 1) := by decide +kernel
theorem dX7_trace_26 : decode cX7_trace 26 = .ok (.goto 5, 3) := by decide +kernel
theorem dX7_trace_29 : decode cX7_trace 29 = .ok (.ldc 212, 2) := by decide +kernel
theorem dX7_trace_31 : decode cX7_trace 31 = .ok (.ireturn, 1) := by decide +kernel
theorem dX7_count_0 : decode cX7_count 0 = .ok (.iload_n 1, 1) := by decide +kernel
theorem dX7_count_1 : decode cX7_count 1 = .ok (.tableswitch 123 0 8 #[51, 59, 67, 75, 83, 91, 99, 107, 115], 51) := by decide +kernel
theorem dX7_count_52 : decode cX7_count 52 = .ok (.aload_n 0, 1) := by decide +kernel
theorem dX7_count_53 : decode cX7_count 53 = .ok (.getfield 10, 3) := by decide +kernel
theorem dX7_count_56 : decode cX7_count 56 = .ok (.invokevirtual 287, 3) := by decide +kernel
theorem dX7_count_59 : decode cX7_count 59 = .ok (.ireturn, 1) := by decide +kernel
theorem dX7_count_60 : decode cX7_count 60 = .ok (.aload_n 0, 1) := by decide +kernel
theorem dX7_count_61 : decode cX7_count 61 = .ok (.getfield 26, 3) := by decide +kernel
theorem dX7_count_64 : decode cX7_count 64 = .ok (.getfield 133, 3) := by decide +kernel
theorem dX7_count_67 : decode cX7_count 67 = .ok (.ireturn, 1) := by decide +kernel
theorem dX7_count_68 : decode cX7_count 68 = .ok (.aload_n 0, 1) := by decide +kernel
theorem dX7_count_69 : decode cX7_count 69 = .ok (.getfield 26, 3) := by decide +kernel
theorem dX7_count_72 : decode cX7_count 72 = .ok (.getfield 200, 3) := by decide +kernel
theorem dX7_count_75 : decode cX7_count 75 = .ok (.ireturn, 1) := by decide +kernel
theorem dX7_count_76 : decode cX7_count 76 = .ok (.aload_n 0, 1) := by decide +kernel
theorem dX7_count_77 : decode cX7_count 77 = .ok (.getfield 26, 3) := by decide +kernel
theorem dX7_count_80 : decode cX7_count 80 = .ok (.getfield 188, 3) := by decide +kernel
theorem dX7_count_83 : decode cX7_count 83 = .ok (.ireturn, 1) := by decide +kernel
theorem dX7_count_84 : decode cX7_count 84 = .ok (.aload_n 0, 1) := by decide +kernel
theorem dX7_count_85 : decode cX7_count 85 = .ok (.getfield 26, 3) := by decide +kernel
theorem dX7_count_88 : decode cX7_count 88 = .ok (.getfield 147, 3) := by decide +kernel
theorem dX7_count_91 : decode cX7_count 91 = .ok (.ireturn, 1) := by decide +kernel
theorem dX7_count_92 : decode cX7_count 92 = .ok (.aload_n 0, 1) := by decide +kernel
theorem dX7_count_93 : decode cX7_count 93 = .ok (.getfield 26, 3) := by decide +kernel
theorem dX7_count_96 : decode cX7_count 96 = .ok (.invokevirtual 156, 3) := by decide +kernel
theorem dX7_count_99 : decode cX7_count 99 = .ok (.ireturn, 1) := by decide +kernel
theorem dX7_count_100 : decode cX7_count 100 = .ok (.aload_n 0, 1) := by decide +kernel
theorem dX7_count_101 : decode cX7_count 101 = .ok (.getfield 26, 3) := by decide +kernel
theorem dX7_count_104 : decode cX7_count 104 = .ok (.getfield 178, 3) := by decide +kernel
theorem dX7_count_107 : decode cX7_count 107 = .ok (.ireturn, 1) := by decide +kernel
theorem dX7_count_108 : decode cX7_count 108 = .ok (.aload_n 0, 1) := by decide +kernel
theorem dX7_count_109 : decode cX7_count 109 = .ok (.getfield 36, 3) := by decide +kernel
theorem dX7_count_112 : decode cX7_count 112 = .ok (.getfield 139, 3) := by decide +kernel
theorem dX7_count_115 : decode cX7_count 115 = .ok (.ireturn, 1) := by decide +kernel
theorem dX7_count_116 : decode cX7_count 116 = .ok (.aload_n 0, 1) := by decide +kernel
theorem dX7_count_117 : decode cX7_count 117 = .ok (.getfield 19, 3) := by decide +kernel
theorem dX7_count_120 : decode cX7_count 120 = .ok (.getfield 108, 3) := by decide +kernel
theorem dX7_count_123 : decode cX7_count 123 = .ok (.ireturn, 1) := by decide +kernel
theorem dX7_count_124 : decode cX7_count 124 = .ok (.ldc 73, 2) := by decide +kernel
theorem dX7_count_126 : decode cX7_count 126 = .ok (.ireturn, 1) := by decide +kernel
theorem dX7_status_0 : decode cX7_status 0 = .ok (.aload_n 0, 1) := by decide +kernel
theorem dX7_status_1 : decode cX7_status 1 = .ok (.getfield 290, 3) := by decide +kernel
theorem dX7_status_4 : decode cX7_status 4 = .ok (.ireturn, 1) := by decide +kernel
theorem dX7_found_0 : decode cX7_found 0 = .ok (.aload_n 0, 1) := by decide +kernel
theorem dX7_found_1 : decode cX7_found 1 = .ok (.iload_n 1, 1) := by decide +kernel
theorem dX7_found_2 : decode cX7_found 2 = .ok (.putfield 290, 3) := by decide +kernel
theorem dX7_found_5 : decode cX7_found 5 = .ok (.ldc_w 293, 3) := by decide +kernel
theorem dX7_found_8 : decode cX7_found 8 = .ok (.iload_n 1, 1) := by decide +kernel
theorem dX7_found_9 : decode cX7_found 9 = .ok (.isub, 1) := by decide +kernel
theorem dX7_found_10 : decode cX7_found 10 = .ok (.ireturn, 1) := by decide +kernel
theorem dX7_withoutFinding_0 : decode cX7_withoutFinding 0 = .ok (.aload_n 0, 1) := by decide +kernel
theorem dX7_withoutFinding_1 : decode cX7_withoutFinding 1 = .ok (.iconst 0, 1) := by decide +kernel
theorem dX7_withoutFinding_2 : decode cX7_withoutFinding 2 = .ok (.putfield 290, 3) := by decide +kernel
theorem dX7_withoutFinding_5 : decode cX7_withoutFinding 5 = .ok (.iload_n 1, 1) := by decide +kernel
theorem dX7_withoutFinding_6 : decode cX7_withoutFinding 6 = .ok (.ireturn, 1) := by decide +kernel
theorem dX7_within_0 : decode cX7_within 0 = .ok (.iload_n 0, 1) := by decide +kernel
theorem dX7_within_1 : decode cX7_within 1 = .ok (.iload_n 1, 1) := by decide +kernel
theorem dX7_within_2 : decode cX7_within 2 = .ok (.if_icmp .lt 12, 3) := by decide +kernel
theorem dX7_within_5 : decode cX7_within 5 = .ok (.iload_n 0, 1) := by decide +kernel
theorem dX7_within_6 : decode cX7_within 6 = .ok (.iload_n 2, 1) := by decide +kernel
theorem dX7_within_7 : decode cX7_within 7 = .ok (.if_icmp .gt 7, 3) := by decide +kernel
theorem dX7_within_10 : decode cX7_within 10 = .ok (.iconst 1, 1) := by decide +kernel
theorem dX7_within_11 : decode cX7_within 11 = .ok (.goto 4, 3) := by decide +kernel
theorem dX7_within_14 : decode cX7_within 14 = .ok (.iconst 0, 1) := by decide +kernel
theorem dX7_within_15 : decode cX7_within 15 = .ok (.ireturn, 1) := by decide +kernel
theorem dX7_bounded_0 : decode cX7_bounded 0 = .ok (.iload_n 0, 1) := by decide +kernel
theorem dX7_bounded_1 : decode cX7_bounded 1 = .ok (.sipush 300, 3) := by decide +kernel
theorem dX7_bounded_4 : decode cX7_bounded 4 = .ok (.if_icmp .ge 9, 3) := by decide +kernel
theorem dX7_bounded_7 : decode cX7_bounded 7 = .ok (.sipush 300, 3) := by decide +kernel
theorem dX7_bounded_10 : decode cX7_bounded 10 = .ok (.goto 17, 3) := by decide +kernel
theorem dX7_bounded_13 : decode cX7_bounded 13 = .ok (.iload_n 0, 1) := by decide +kernel
theorem dX7_bounded_14 : decode cX7_bounded 14 = .ok (.sipush 2500, 3) := by decide +kernel
theorem dX7_bounded_17 : decode cX7_bounded 17 = .ok (.if_icmp .le 9, 3) := by decide +kernel
theorem dX7_bounded_20 : decode cX7_bounded 20 = .ok (.sipush 2500, 3) := by decide +kernel
theorem dX7_bounded_23 : decode cX7_bounded 23 = .ok (.goto 4, 3) := by decide +kernel
theorem dX7_bounded_26 : decode cX7_bounded 26 = .ok (.iload_n 0, 1) := by decide +kernel
theorem dX7_bounded_27 : decode cX7_bounded 27 = .ok (.ireturn, 1) := by decide +kernel
theorem dX7_isOf_0 : decode cX7_isOf 0 = .ok (.iload_n 1, 1) := by decide +kernel
theorem dX7_isOf_1 : decode cX7_isOf 1 = .ok (.ifCond .eq 8, 3) := by decide +kernel
theorem dX7_isOf_4 : decode cX7_isOf 4 = .ok (.iload_n 1, 1) := by decide +kernel
theorem dX7_isOf_5 : decode cX7_isOf 5 = .ok (.iload_n 0, 1) := by decide +kernel
theorem dX7_isOf_6 : decode cX7_isOf 6 = .ok (.if_icmp .ne 5, 3) := by decide +kernel
theorem dX7_isOf_9 : decode cX7_isOf 9 = .ok (.iconst 1, 1) := by decide +kernel
theorem dX7_isOf_10 : decode cX7_isOf 10 = .ok (.ireturn, 1) := by decide +kernel
theorem dX7_isOf_11 : decode cX7_isOf 11 = .ok (.iload_n 1, 1) := by decide +kernel
theorem dX7_isOf_12 : decode cX7_isOf 12 = .ok (.iconst 1, 1) := by decide +kernel
theorem dX7_isOf_13 : decode cX7_isOf 13 = .ok (.if_icmp .ne 19, 3) := by decide +kernel
theorem dX7_isOf_16 : decode cX7_isOf 16 = .ok (.iload_n 0, 1) := by decide +kernel
theorem dX7_isOf_17 : decode cX7_isOf 17 = .ok (.iconst 2, 1) := by decide +kernel
theorem dX7_isOf_18 : decode cX7_isOf 18 = .ok (.if_icmp .eq 8, 3) := by decide +kernel
theorem dX7_isOf_21 : decode cX7_isOf 21 = .ok (.iload_n 0, 1) := by decide +kernel
theorem dX7_isOf_22 : decode cX7_isOf 22 = .ok (.iconst 3, 1) := by decide +kernel
theorem dX7_isOf_23 : decode cX7_isOf 23 = .ok (.if_icmp .ne 7, 3) := by decide +kernel
theorem dX7_isOf_26 : decode cX7_isOf 26 = .ok (.iconst 1, 1) := by decide +kernel
theorem dX7_isOf_27 : decode cX7_isOf 27 = .ok (.goto 4, 3) := by decide +kernel
theorem dX7_isOf_30 : decode cX7_isOf 30 = .ok (.iconst 0, 1) := by decide +kernel
theorem dX7_isOf_31 : decode cX7_isOf 31 = .ok (.ireturn, 1) := by decide +kernel
theorem dX7_isOf_32 : decode cX7_isOf 32 = .ok (.iload_n 1, 1) := by decide +kernel
theorem dX7_isOf_33 : decode cX7_isOf 33 = .ok (.iconst 4, 1) := by decide +kernel
theorem dX7_isOf_34 : decode cX7_isOf 34 = .ok (.if_icmp .ne 12, 3) := by decide +kernel
theorem dX7_isOf_37 : decode cX7_isOf 37 = .ok (.iload_n 0, 1) := by decide +kernel
theorem dX7_isOf_38 : decode cX7_isOf 38 = .ok (.iconst 5, 1) := by decide +kernel
theorem dX7_isOf_39 : decode cX7_isOf 39 = .ok (.if_icmp .ne 7, 3) := by decide +kernel
theorem dX7_isOf_42 : decode cX7_isOf 42 = .ok (.iconst 1, 1) := by decide +kernel
theorem dX7_isOf_43 : decode cX7_isOf 43 = .ok (.goto 4, 3) := by decide +kernel
theorem dX7_isOf_46 : decode cX7_isOf 46 = .ok (.iconst 0, 1) := by decide +kernel
theorem dX7_isOf_47 : decode cX7_isOf 47 = .ok (.ireturn, 1) := by decide +kernel
