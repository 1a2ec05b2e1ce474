theorem dX8_player_24 : decode cX8_player 24 = .ok (.istore_n 3, 1) := by decide +kernel
theorem dX8_player_25 : decode cX8_player 25 = .ok (.iconst 0, 1) := by decide +kernel
theorem dX8_player_26 : decode cX8_player 26 = .ok (.istore 4, 2) := by decide +kernel
theorem dX8_player_28 : decode cX8_player 28 = .ok (.iload 4, 2) := by decide +kernel
theorem dX8_player_30 : decode cX8_player 30 = .ok (.iconst 5, 1) := by decide +kernel
theorem dX8_player_31 : decode cX8_player 31 = .ok (.if_icmp .ge 34, 3) := by decide +kernel
theorem dX8_player_34 : decode cX8_player 34 = .ok (.iload_n 3, 1) := by decide +kernel
theorem dX8_player_35 : decode cX8_player 35 = .ok (.aload_n 0, 1) := by decide +kernel
theorem dX8_player_36 : decode cX8_player 36 = .ok (.getfield 7, 3) := by decide +kernel
theorem dX8_player_39 : decode cX8_player 39 = .ok (.bipush 36, 2) := by decide +kernel
theorem dX8_player_41 : decode cX8_player 41 = .ok (.iconst 5, 1) := by decide +kernel
theorem dX8_player_42 : decode cX8_player 42 = .ok (.iload_n 1, 1) := by decide +kernel
theorem dX8_player_43 : decode cX8_player 43 = .ok (.imul, 1) := by decide +kernel
theorem dX8_player_44 : decode cX8_player 44 = .ok (.iadd, 1) := by decide +kernel
theorem dX8_player_45 : decode cX8_player 45 = .ok (.iload 4, 2) := by decide +kernel
theorem dX8_player_47 : decode cX8_player 47 = .ok (.iadd, 1) := by decide +kernel
theorem dX8_player_48 : decode cX8_player 48 = .ok (.iaload, 1) := by decide +kernel
theorem dX8_player_49 : decode cX8_player 49 = .ok (.ifCond .le 7, 3) := by decide +kernel
theorem dX8_player_52 : decode cX8_player 52 = .ok (.iconst 1, 1) := by decide +kernel
theorem dX8_player_53 : decode cX8_player 53 = .ok (.goto 4, 3) := by decide +kernel
theorem dX8_player_56 : decode cX8_player 56 = .ok (.iconst 0, 1) := by decide +kernel
theorem dX8_player_57 : decode cX8_player 57 = .ok (.iadd, 1) := by decide +kernel
theorem dX8_player_58 : decode cX8_player 58 = .ok (.istore_n 3, 1) := by decide +kernel
theorem dX8_player_59 : decode cX8_player 59 = .ok (.iinc 4 1, 3) := by decide +kernel
theorem dX8_player_62 : decode cX8_player 62 = .ok (.goto (-34), 3) := by decide +kernel
theorem dX8_player_65 : decode cX8_player 65 = .ok (.iload_n 2, 1) := by decide +kernel
theorem dX8_player_66 : decode cX8_player 66 = .ok (.ifCond .ne 15, 3) := by decide +kernel
theorem dX8_player_69 : decode cX8_player 69 = .ok (.aload_n 0, 1) := by decide +kernel
theorem dX8_player_70 : decode cX8_player 70 = .ok (.getfield 7, 3) := by decide +kernel
theorem dX8_player_73 : decode cX8_player 73 = .ok (.bipush 26, 2) := by decide +kernel
theorem dX8_player_75 : decode cX8_player 75 = .ok (.iload_n 1, 1) := by decide +kernel
theorem dX8_player_76 : decode cX8_player 76 = .ok (.iadd, 1) := by decide +kernel
theorem dX8_player_77 : decode cX8_player 77 = .ok (.iaload, 1) := by decide +kernel
theorem dX8_player_78 : decode cX8_player 78 = .ok (.goto 57, 3) := by decide +kernel
theorem dX8_player_81 : decode cX8_player 81 = .ok (.iload_n 2, 1) := by decide +kernel
theorem dX8_player_82 : decode cX8_player 82 = .ok (.iconst 1, 1) := by decide +kernel
theorem dX8_player_83 : decode cX8_player 83 = .ok (.if_icmp .ne 15, 3) := by decide +kernel
theorem dX8_player_86 : decode cX8_player 86 = .ok (.aload_n 0, 1) := by decide +kernel
theorem dX8_player_87 : decode cX8_player 87 = .ok (.getfield 7, 3) := by decide +kernel
theorem dX8_player_90 : decode cX8_player 90 = .ok (.bipush 31, 2) := by decide +kernel
theorem dX8_player_92 : decode cX8_player 92 = .ok (.iload_n 1, 1) := by decide +kernel
theorem dX8_player_93 : decode cX8_player 93 = .ok (.iadd, 1) := by decide +kernel
theorem dX8_player_94 : decode cX8_player 94 = .ok (.iaload, 1) := by decide +kernel
theorem dX8_player_95 : decode cX8_player 95 = .ok (.goto 40, 3) := by decide +kernel
theorem dX8_player_98 : decode cX8_player 98 = .ok (.iload_n 2, 1) := by decide +kernel
theorem dX8_player_99 : decode cX8_player 99 = .ok (.iconst 2, 1) := by decide +kernel
theorem dX8_player_100 : decode cX8_player 100 = .ok (.if_icmp .ne 34, 3) := by decide +kernel
theorem dX8_player_103 : decode cX8_player 103 = .ok (.aload_n 0, 1) := by decide +kernel
theorem dX8_player_104 : decode cX8_player 104 = .ok (.aload_n 0, 1) := by decide +kernel
theorem dX8_player_105 : decode cX8_player 105 = .ok (.getfield 7, 3) := by decide +kernel
theorem dX8_player_108 : decode cX8_player 108 = .ok (.bipush 21, 2) := by decide +kernel
theorem dX8_player_110 : decode cX8_player 110 = .ok (.iload_n 1, 1) := by decide +kernel
theorem dX8_player_111 : decode cX8_player 111 = .ok (.iadd, 1) := by decide +kernel
theorem dX8_player_112 : decode cX8_player 112 = .ok (.iaload, 1) := by decide +kernel
theorem dX8_player_113 : decode cX8_player 113 = .ok (.aload_n 0, 1) := by decide +kernel
theorem dX8_player_114 : decode cX8_player 114 = .ok (.getfield 7, 3) := by decide +kernel
theorem dX8_player_117 : decode cX8_player 117 = .ok (.bipush 9, 2) := by decide +kernel
theorem dX8_player_119 : decode cX8_player 119 = .ok (.aload_n 0, 1) := by decide +kernel
theorem dX8_player_120 : decode cX8_player 120 = .ok (.getfield 7, 3) := by decide +kernel
theorem dX8_player_123 : decode cX8_player 123 = .ok (.bipush 6, 2) := by decide +kernel
theorem dX8_player_125 : decode cX8_player 125 = .ok (.iaload, 1) := by decide +kernel
theorem dX8_player_126 : decode cX8_player 126 = .ok (.iadd, 1) := by decide +kernel
theorem dX8_player_127 : decode cX8_player 127 = .ok (.iaload, 1) := by decide +kernel
theorem dX8_player_128 : decode cX8_player 128 = .ok (.invokevirtual 162, 3) := by decide +kernel
theorem dX8_player_131 : decode cX8_player 131 = .ok (.goto 4, 3) := by decide +kernel
theorem dX8_player_134 : decode cX8_player 134 = .ok (.iload_n 3, 1) := by decide +kernel
theorem dX8_player_135 : decode cX8_player 135 = .ok (.ireturn, 1) := by decide +kernel
theorem dX8_ear_0 : decode cX8_ear 0 = .ok (.aload_n 0, 1) := by decide +kernel
theorem dX8_ear_1 : decode cX8_ear 1 = .ok (.iload_n 1, 1) := by decide +kernel
theorem dX8_ear_2 : decode cX8_ear 2 = .ok (.invokevirtual 197, 3) := by decide +kernel
theorem dX8_ear_5 : decode cX8_ear 5 = .ok (.ifCond .eq 32, 3) := by decide +kernel
theorem dX8_ear_8 : decode cX8_ear 8 = .ok (.aload_n 0, 1) := by decide +kernel
theorem dX8_ear_9 : decode cX8_ear 9 = .ok (.iload_n 2, 1) := by decide +kernel
theorem dX8_ear_10 : decode cX8_ear 10 = .ok (.invokevirtual 197, 3) := by decide +kernel
theorem dX8_ear_13 : decode cX8_ear 13 = .ok (.ifCond .eq 24, 3) := by decide +kernel
theorem dX8_ear_16 : decode cX8_ear 16 = .ok (.iload_n 1, 1) := by decide +kernel
theorem dX8_ear_17 : decode cX8_ear 17 = .ok (.iload_n 2, 1) := by decide +kernel
theorem dX8_ear_18 : decode cX8_ear 18 = .ok (.if_icmp .eq 19, 3) := by decide +kernel
theorem dX8_ear_21 : decode cX8_ear 21 = .ok (.aload_n 0, 1) := by decide +kernel
theorem dX8_ear_22 : decode cX8_ear 22 = .ok (.getfield 7, 3) := by decide +kernel
theorem dX8_ear_25 : decode cX8_ear 25 = .ok (.bipush 36, 2) := by decide +kernel
theorem dX8_ear_27 : decode cX8_ear 27 = .ok (.iconst 5, 1) := by decide +kernel
theorem dX8_ear_28 : decode cX8_ear 28 = .ok (.iload_n 1, 1) := by decide +kernel
theorem dX8_ear_29 : decode cX8_ear 29 = .ok (.imul, 1) := by decide +kernel
theorem dX8_ear_30 : decode cX8_ear 30 = .ok (.iadd, 1) := by decide +kernel
theorem dX8_ear_31 : decode cX8_ear 31 = .ok (.iload_n 2, 1) := by decide +kernel
theorem dX8_ear_32 : decode cX8_ear 32 = .ok (.iadd, 1) := by decide +kernel
theorem dX8_ear_33 : decode cX8_ear 33 = .ok (.iaload, 1) := by decide +kernel
theorem dX8_ear_34 : decode cX8_ear 34 = .ok (.goto 5, 3) := by decide +kernel
theorem dX8_ear_37 : decode cX8_ear 37 = .ok (.ldc 70, 2) := by decide +kernel
theorem dX8_ear_39 : decode cX8_ear 39 = .ok (.ireturn, 1) := by decide +kernel
theorem dX8_bar_0 : decode cX8_bar 0 = .ok (.iload_n 1, 1) := by decide +kernel
theorem dX8_bar_1 : decode cX8_bar 1 = .ok (.i2l, 1) := by decide +kernel
theorem dX8_bar_2 : decode cX8_bar 2 = .ok (.lconst 0, 1) := by decide +kernel
theorem dX8_bar_3 : decode cX8_bar 3 = .ok (.aload_n 0, 1) := by decide +kernel
theorem dX8_bar_4 : decode cX8_bar 4 = .ok (.getfield 7, 3) := by decide +kernel
theorem dX8_bar_7 : decode cX8_bar 7 = .ok (.iconst 4, 1) := by decide +kernel
theorem dX8_bar_8 : decode cX8_bar 8 = .ok (.iaload, 1) := by decide +kernel
theorem dX8_bar_9 : decode cX8_bar 9 = .ok (.iconst 1, 1) := by decide +kernel
theorem dX8_bar_10 : decode cX8_bar 10 = .ok (.isub, 1) := by decide +kernel
theorem dX8_bar_11 : decode cX8_bar 11 = .ok (.i2l, 1) := by decide +kernel
theorem dX8_bar_12 : decode cX8_bar 12 = .ok (.invokestatic 60, 3) := by decide +kernel
theorem dX8_bar_15 : decode cX8_bar 15 = .ok (.ifCond .eq 15, 3) := by decide +kernel
theorem dX8_bar_18 : decode cX8_bar 18 = .ok (.aload_n 0, 1) := by decide +kernel
theorem dX8_bar_19 : decode cX8_bar 19 = .ok (.getfield 7, 3) := by decide +kernel
theorem dX8_bar_22 : decode cX8_bar 22 = .ok (.bipush 9, 2) := by decide +kernel
theorem dX8_bar_24 : decode cX8_bar 24 = .ok (.iload_n 1, 1) := by decide +kernel
theorem dX8_bar_25 : decode cX8_bar 25 = .ok (.iadd, 1) := by decide +kernel
theorem dX8_bar_26 : decode cX8_bar 26 = .ok (.iaload, 1) := by decide +kernel
theorem dX8_bar_27 : decode cX8_bar 27 = .ok (.goto 5, 3) := by decide +kernel
theorem dX8_bar_30 : decode cX8_bar 30 = .ok (.ldc 70, 2) := by decide +kernel
theorem dX8_bar_32 : decode cX8_bar 32 = .ok (.ireturn, 1) := by decide +kernel
theorem dX8_ahead_0 : decode cX8_ahead 0 = .ok (.aload_n 0, 1) := by decide +kernel
theorem dX8_ahead_1 : decode cX8_ahead 1 = .ok (.invokevirtual 183, 3) := by decide +kernel
theorem dX8_ahead_4 : decode cX8_ahead 4 = .ok (.ifCond .eq 6, 3) := by decide +kernel
theorem dX8_ahead_7 : decode cX8_ahead 7 = .ok (.ldc 182, 2) := by decide +kernel
theorem dX8_ahead_9 : decode cX8_ahead 9 = .ok (.ireturn, 1) := by decide +kernel
theorem dX8_ahead_10 : decode cX8_ahead 10 = .ok (.aload_n 0, 1) := by decide +kernel
theorem dX8_ahead_11 : decode cX8_ahead 11 = .ok (.iload_n 1, 1) := by decide +kernel
theorem dX8_ahead_12 : decode cX8_ahead 12 = .ok (.invokevirtual 197, 3) := by decide +kernel
theorem dX8_ahead_15 : decode cX8_ahead 15 = .ok (.ifCond .ne 8, 3) := by decide +kernel
theorem dX8_ahead_18 : decode cX8_ahead 18 = .ok (.iload_n 1, 1) := by decide +kernel
theorem dX8_ahead_19 : decode cX8_ahead 19 = .ok (.iconst (-1), 1) := by decide +kernel
theorem dX8_ahead_20 : decode cX8_ahead 20 = .ok (.if_icmp .ne 15, 3) := by decide +kernel
theorem dX8_ahead_23 : decode cX8_ahead 23 = .ok (.iload_n 2, 1) := by decide +kernel
theorem dX8_ahead_24 : decode cX8_ahead 24 = .ok (.i2l, 1) := by decide +kernel
theorem dX8_ahead_25 : decode cX8_ahead 25 = .ok (.lconst 0, 1) := by decide +kernel
theorem dX8_ahead_26 : decode cX8_ahead 26 = .ok (.ldc2_w 212, 3) := by decide +kernel
theorem dX8_ahead_29 : decode cX8_ahead 29 = .ok (.invokestatic 60, 3) := by decide +kernel
theorem dX8_ahead_32 : decode cX8_ahead 32 = .ok (.ifCond .ne 6, 3) := by decide +kernel
theorem dX8_ahead_35 : decode cX8_ahead 35 = .ok (.ldc 70, 2) := by decide +kernel
theorem dX8_ahead_37 : decode cX8_ahead 37 = .ok (.ireturn, 1) := by decide +kernel
theorem dX8_ahead_38 : decode cX8_ahead 38 = .ok (.aload_n 0, 1) := by decide +kernel
theorem dX8_ahead_39 : decode cX8_ahead 39 = .ok (.invokevirtual 191, 3) := by decide +kernel
theorem dX8_ahead_42 : decode cX8_ahead 42 = .ok (.aload_n 0, 1) := by decide +kernel
theorem dX8_ahead_43 : decode cX8_ahead 43 = .ok (.iload_n 2, 1) := by decide +kernel
theorem dX8_ahead_44 : decode cX8_ahead 44 = .ok (.invokevirtual 178, 3) := by decide +kernel
theorem dX8_ahead_47 : decode cX8_ahead 47 = .ok (.iload_n 1, 1) := by decide +kernel
theorem dX8_ahead_48 : decode cX8_ahead 48 = .ok (.ifCond .ge 10, 3) := by decide +kernel
theorem dX8_ahead_51 : decode cX8_ahead 51 = .ok (.aload_n 0, 1) := by decide +kernel
theorem dX8_ahead_52 : decode cX8_ahead 52 = .ok (.invokevirtual 174, 3) := by decide +kernel
theorem dX8_ahead_55 : decode cX8_ahead 55 = .ok (.goto 9, 3) := by decide +kernel
theorem dX8_ahead_58 : decode cX8_ahead 58 = .ok (.aload_n 0, 1) := by decide +kernel
theorem dX8_ahead_59 : decode cX8_ahead 59 = .ok (.getfield 32, 3) := by decide +kernel
theorem dX8_ahead_62 : decode cX8_ahead 62 = .ok (.iload_n 1, 1) := by decide +kernel
theorem dX8_ahead_63 : decode cX8_ahead 63 = .ok (.iaload, 1) := by decide +kernel
theorem dX8_ahead_64 : decode cX8_ahead 64 = .ok (.ireturn, 1) := by decide +kernel
theorem dX8_drift_0 : decode cX8_drift 0 = .ok (.aload_n 0, 1) := by decide +kernel
theorem dX8_drift_1 : decode cX8_drift 1 = .ok (.invokevirtual 183, 3) := by decide +kernel
theorem dX8_drift_4 : decode cX8_drift 4 = .ok (.ifCond .eq 6, 3) := by decide +kernel
theorem dX8_drift_7 : decode cX8_drift 7 = .ok (.ldc 182, 2) := by decide +kernel
theorem dX8_drift_9 : decode cX8_drift 9 = .ok (.ireturn, 1) := by decide +kernel
theorem dX8_drift_10 : decode cX8_drift 10 = .ok (.aload_n 0, 1) := by decide +kernel
theorem dX8_drift_11 : decode cX8_drift 11 = .ok (.invokevirtual 191, 3) := by decide +kernel
theorem dX8_drift_14 : decode cX8_drift 14 = .ok (.aload_n 0, 1) := by decide +kernel
theorem dX8_drift_15 : decode cX8_drift 15 = .ok (.invokevirtual 214, 3) := by decide +kernel
theorem dX8_drift_18 : decode cX8_drift 18 = .ok (.ireturn, 1) := by decide +kernel
theorem dX8_round_0 : decode cX8_round 0 = .ok (.aload_n 0, 1) := by decide +kernel
theorem dX8_round_1 : decode cX8_round 1 = .ok (.invokevirtual 183, 3) := by decide +kernel
theorem dX8_round_4 : decode cX8_round 4 = .ok (.ifCond .eq 6, 3) := by decide +kernel
theorem dX8_round_7 : decode cX8_round 7 = .ok (.ldc 182, 2) := by decide +kernel
theorem dX8_round_9 : decode cX8_round 9 = .ok (.ireturn, 1) := by decide +kernel
theorem dX8_round_10 : decode cX8_round 10 = .ok (.iload_n 1, 1) := by decide +kernel
theorem dX8_round_11 : decode cX8_round 11 = .ok (.i2l, 1) := by decide +kernel
theorem dX8_round_12 : decode cX8_round 12 = .ok (.lconst 0, 1) := by decide +kernel
theorem dX8_round_13 : decode cX8_round 13 = .ok (.lconst 1, 1) := by decide +kernel
theorem dX8_round_14 : decode cX8_round 14 = .ok (.invokestatic 60, 3) := by decide +kernel
theorem dX8_round_17 : decode cX8_round 17 = .ok (.ifCond .ne 6, 3) := by decide +kernel
theorem dX8_round_20 : decode cX8_round 20 = .ok (.ldc 70, 2) := by decide +kernel
theorem dX8_round_22 : decode cX8_round 22 = .ok (.ireturn, 1) := by decide +kernel
theorem dX8_round_23 : decode cX8_round 23 = .ok (.aload_n 0, 1) := by decide +kernel
theorem dX8_round_24 : decode cX8_round 24 = .ok (.invokevirtual 191, 3) := by decide +kernel
theorem dX8_round_27 : decode cX8_round 27 = .ok (.iconst 0, 1) := by decide +kernel
theorem dX8_round_28 : decode cX8_round 28 = .ok (.istore_n 2, 1) := by decide +kernel
theorem dX8_round_29 : decode cX8_round 29 = .ok (.iload_n 2, 1) := by decide +kernel
theorem dX8_round_30 : decode cX8_round 30 = .ok (.sipush 200, 3) := by decide +kernel
theorem dX8_round_33 : decode cX8_round 33 = .ok (.if_icmp .gt 90, 3) := by decide +kernel
theorem dX8_round_36 : decode cX8_round 36 = .ok (.iconst 0, 1) := by decide +kernel
theorem dX8_round_37 : decode cX8_round 37 = .ok (.istore_n 3, 1) := by decide +kernel
theorem dX8_round_38 : decode cX8_round 38 = .ok (.iload_n 3, 1) := by decide +kernel
theorem dX8_round_39 : decode cX8_round 39 = .ok (.iconst 5, 1) := by decide +kernel
theorem dX8_round_40 : decode cX8_round 40 = .ok (.if_icmp .ge 26, 3) := by decide +kernel
theorem dX8_round_43 : decode cX8_round 43 = .ok (.aload_n 0, 1) := by decide +kernel
theorem dX8_round_44 : decode cX8_round 44 = .ok (.getfield 47, 3) := by decide +kernel
theorem dX8_round_47 : decode cX8_round 47 = .ok (.bipush 6, 2) := by decide +kernel
theorem dX8_round_49 : decode cX8_round 49 = .ok (.iload_n 2, 1) := by decide +kernel
theorem dX8_round_50 : decode cX8_round 50 = .ok (.imul, 1) := by decide +kernel
theorem dX8_round_51 : decode cX8_round 51 = .ok (.iload_n 3, 1) := by decide +kernel
theorem dX8_round_52 : decode cX8_round 52 = .ok (.iadd, 1) := by decide +kernel
theorem dX8_round_53 : decode cX8_round 53 = .ok (.aload_n 0, 1) := by decide +kernel
theorem dX8_round_54 : decode cX8_round 54 = .ok (.getfield 32, 3) := by decide +kernel
theorem dX8_round_57 : decode cX8_round 57 = .ok (.iload_n 3, 1) := by decide +kernel
theorem dX8_round_58 : decode cX8_round 58 = .ok (.iaload, 1) := by decide +kernel
theorem dX8_round_59 : decode cX8_round 59 = .ok (.iastore, 1) := by decide +kernel
theorem dX8_round_60 : decode cX8_round 60 = .ok (.iinc 3 1, 3) := by decide +kernel
theorem dX8_round_63 : decode cX8_round 63 = .ok (.goto (-25), 3) := by decide +kernel
theorem dX8_round_66 : decode cX8_round 66 = .ok (.aload_n 0, 1) := by decide +kernel
theorem dX8_round_67 : decode cX8_round 67 = .ok (.getfield 47, 3) := by decide +kernel
theorem dX8_round_70 : decode cX8_round 70 = .ok (.bipush 6, 2) := by decide +kernel
theorem dX8_round_72 : decode cX8_round 72 = .ok (.iload_n 2, 1) := by decide +kernel
theorem dX8_round_73 : decode cX8_round 73 = .ok (.imul, 1) := by decide +kernel
theorem dX8_round_74 : decode cX8_round 74 = .ok (.iconst 5, 1) := by decide +kernel
theorem dX8_round_75 : decode cX8_round 75 = .ok (.iadd, 1) := by decide +kernel
theorem dX8_round_76 : decode cX8_round 76 = .ok (.aload_n 0, 1) := by decide +kernel
theorem dX8_round_77 : decode cX8_round 77 = .ok (.getfield 156, 3) := by decide +kernel
theorem dX8_round_80 : decode cX8_round 80 = .ok (.iastore, 1) := by decide +kernel
theorem dX8_round_81 : decode cX8_round 81 = .ok (.iconst 0, 1) := by decide +kernel
theorem dX8_round_82 : decode cX8_round 82 = .ok (.istore_n 3, 1) := by decide +kernel
theorem dX8_round_83 : decode cX8_round 83 = .ok (.iload_n 3, 1) := by decide +kernel
theorem dX8_round_84 : decode cX8_round 84 = .ok (.iload_n 2, 1) := by decide +kernel
theorem dX8_round_85 : decode cX8_round 85 = .ok (.if_icmp .ge 28, 3) := by decide +kernel
theorem dX8_round_88 : decode cX8_round 88 = .ok (.aload_n 0, 1) := by decide +kernel
theorem dX8_round_89 : decode cX8_round 89 = .ok (.iload_n 2, 1) := by decide +kernel
theorem dX8_round_90 : decode cX8_round 90 = .ok (.iload_n 3, 1) := by decide +kernel
theorem dX8_round_91 : decode cX8_round 91 = .ok (.invokevirtual 217, 3) := by decide +kernel
theorem dX8_round_94 : decode cX8_round 94 = .ok (.ifCond .eq 13, 3) := by decide +kernel
theorem dX8_round_97 : decode cX8_round 97 = .ok (.iload_n 1, 1) := by decide +kernel
theorem dX8_round_98 : decode cX8_round 98 = .ok (.ifCond .ne 7, 3) := by decide +kernel
theorem dX8_round_101 : decode cX8_round 101 = .ok (.iload_n 2, 1) := by decide +kernel
theorem dX8_round_102 : decode cX8_round 102 = .ok (.goto 4, 3) := by decide +kernel
theorem dX8_round_105 : decode cX8_round 105 = .ok (.iload_n 3, 1) := by decide +kernel
theorem dX8_round_106 : decode cX8_round 106 = .ok (.ireturn, 1) := by decide +kernel
theorem dX8_round_107 : decode cX8_round 107 = .ok (.iinc 3 1, 3) := by decide +kernel
theorem dX8_round_110 : decode cX8_round 110 = .ok (.goto (-27), 3) := by decide +kernel
theorem dX8_round_113 : decode cX8_round 113 = .ok (.aload_n 0, 1) := by decide +kernel
theorem dX8_round_114 : decode cX8_round 114 = .ok (.invokevirtual 171, 3) := by decide +kernel
theorem dX8_round_117 : decode cX8_round 117 = .ok (.iinc 2 1, 3) := by decide +kernel
theorem dX8_round_120 : decode cX8_round 120 = .ok (.goto (-91), 3) := by decide +kernel
theorem dX8_round_123 : decode cX8_round 123 = .ok (.ldc 220, 2) := by decide +kernel
theorem dX8_round_125 : decode cX8_round 125 = .ok (.ireturn, 1) := by decide +kernel
theorem dX8_areAlike_0 : decode cX8_areAlike 0 = .ok (.aload_n 0, 1) := by decide +kernel
theorem dX8_areAlike_1 : decode cX8_areAlike 1 = .ok (.getfield 47, 3) := by decide +kernel
theorem dX8_areAlike_4 : decode cX8_areAlike 4 = .ok (.bipush 6, 2) := by decide +kernel
theorem dX8_areAlike_6 : decode cX8_areAlike 6 = .ok (.iload_n 1, 1) := by decide +kernel
theorem dX8_areAlike_7 : decode cX8_areAlike 7 = .ok (.imul, 1) := by decide +kernel
theorem dX8_areAlike_8 : decode cX8_areAlike 8 = .ok (.iconst 5, 1) := by decide +kernel
theorem dX8_areAlike_9 : decode cX8_areAlike 9 = .ok (.iadd, 1) := by decide +kernel
theorem dX8_areAlike_10 : decode cX8_areAlike 10 = .ok (.iaload, 1) := by decide +kernel
theorem dX8_areAlike_11 : decode cX8_areAlike 11 = .ok (.aload_n 0, 1) := by decide +kernel
theorem dX8_areAlike_12 : decode cX8_areAlike 12 = .ok (.getfield 47, 3) := by decide +kernel
theorem dX8_areAlike_15 : decode cX8_areAlike 15 = .ok (.bipush 6, 2) := by decide +kernel
theorem dX8_areAlike_17 : decode cX8_areAlike 17 = .ok (.iload_n 2, 1) := by decide +kernel
theorem dX8_areAlike_18 : decode cX8_areAlike 18 = .ok (.imul, 1) := by decide +kernel
theorem dX8_areAlike_19 : decode cX8_areAlike 19 = .ok (.iconst 5, 1) := by decide +kernel
theorem dX8_areAlike_20 : decode cX8_areAlike 20 = .ok (.iadd, 1) := by decide +kernel
theorem dX8_areAlike_21 : decode cX8_areAlike 21 = .ok (.iaload, 1) := by decide +kernel
theorem dX8_areAlike_22 : decode cX8_areAlike 22 = .ok (.if_icmp .ne 7, 3) := by decide +kernel
theorem dX8_areAlike_25 : decode cX8_areAlike 25 = .ok (.iconst 1, 1) := by decide +kernel
theorem dX8_areAlike_26 : decode cX8_areAlike 26 = .ok (.goto 4, 3) := by decide +kernel
theorem dX8_areAlike_29 : decode cX8_areAlike 29 = .ok (.iconst 0, 1) := by decide +kernel
theorem dX8_areAlike_30 : decode cX8_areAlike 30 = .ok (.istore_n 3, 1) := by decide +kernel
theorem dX8_areAlike_31 : decode cX8_areAlike 31 = .ok (.iconst 0, 1) := by decide +kernel
theorem dX8_areAlike_32 : decode cX8_areAlike 32 = .ok (.istore 4, 2) := by decide +kernel
theorem dX8_areAlike_34 : decode cX8_areAlike 34 = .ok (.iload 4, 2) := by decide +kernel
theorem dX8_areAlike_36 : decode cX8_areAlike 36 = .ok (.aload_n 0, 1) := by decide +kernel
theorem dX8_areAlike_37 : decode cX8_areAlike 37 = .ok (.getfield 7, 3) := by decide +kernel
theorem dX8_areAlike_40 : decode cX8_areAlike 40 = .ok (.iconst 5, 1) := by decide +kernel
theorem dX8_areAlike_41 : decode cX8_areAlike 41 = .ok (.iaload, 1) := by decide +kernel
theorem dX8_areAlike_42 : decode cX8_areAlike 42 = .ok (.if_icmp .ge 46, 3) := by decide +kernel
theorem dX8_areAlike_45 : decode cX8_areAlike 45 = .ok (.iload_n 3, 1) := by decide +kernel
theorem dX8_areAlike_46 : decode cX8_areAlike 46 = .ok (.ifCond .eq 34, 3) := by decide +kernel
theorem dX8_areAlike_49 : decode cX8_areAlike 49 = .ok (.aload_n 0, 1) := by decide +kernel
theorem dX8_areAlike_50 : decode cX8_areAlike 50 = .ok (.getfield 47, 3) := by decide +kernel
theorem dX8_areAlike_53 : decode cX8_areAlike 53 = .ok (.bipush 6, 2) := by decide +kernel
theorem dX8_areAlike_55 : decode cX8_areAlike 55 = .ok (.iload_n 1, 1) := by decide +kernel
theorem dX8_areAlike_56 : decode cX8_areAlike 56 = .ok (.imul, 1) := by decide +kernel
theorem dX8_areAlike_57 : decode cX8_areAlike 57 = .ok (.iload 4, 2) := by decide +kernel
theorem dX8_areAlike_59 : decode cX8_areAlike 59 = .ok (.iadd, 1) := by decide +kernel
theorem dX8_areAlike_60 : decode cX8_areAlike 60 = .ok (.iaload, 1) := by decide +kernel
theorem dX8_areAlike_61 : decode cX8_areAlike 61 = .ok (.aload_n 0, 1) := by decide +kernel
theorem dX8_areAlike_62 : decode cX8_areAlike 62 = .ok (.getfield 47, 3) := by decide +kernel
theorem dX8_areAlike_65 : decode cX8_areAlike 65 = .ok (.bipush 6, 2) := by decide +kernel
theorem dX8_areAlike_67 : decode cX8_areAlike 67 = .ok (.iload_n 2, 1) := by decide +kernel
theorem dX8_areAlike_68 : decode cX8_areAlike 68 = .ok (.imul, 1) := by decide +kernel
theorem dX8_areAlike_69 : decode cX8_areAlike 69 = .ok (.iload 4, 2) := by decide +kernel
theorem dX8_areAlike_71 : decode cX8_areAlike 71 = .ok (.iadd, 1) := by decide +kernel
theorem dX8_areAlike_72 : decode cX8_areAlike 72 = .ok (.iaload, 1) := by decide +kernel
theorem dX8_areAlike_73 : decode cX8_areAlike 73 = .ok (.if_icmp .ne 7, 3) := by decide +kernel
theorem dX8_areAlike_76 : decode cX8_areAlike 76 = .ok (.iconst 1, 1) := by decide +kernel
theorem dX8_areAlike_77 : decode cX8_areAlike 77 = .ok (.goto 4, 3) := by decide +kernel
theorem dX8_areAlike_80 : decode cX8_areAlike 80 = .ok (.iconst 0, 1) := by decide +kernel
theorem dX8_areAlike_81 : decode cX8_areAlike 81 = .ok (.istore_n 3, 1) := by decide +kernel
theorem dX8_areAlike_82 : decode cX8_areAlike 82 = .ok (.iinc 4 1, 3) := by decide +kernel
theorem dX8_areAlike_85 : decode cX8_areAlike 85 = .ok (.goto (-51), 3) := by decide +kernel
theorem dX8_areAlike_88 : decode cX8_areAlike 88 = .ok (.iload_n 3, 1) := by decide +kernel
theorem dX8_areAlike_89 : decode cX8_areAlike 89 = .ok (.ireturn, 1) := by decide +kernel
theorem dX8_noticed_0 : decode cX8_noticed 0 = .ok (.aload_n 0, 1) := by decide +kernel
theorem dX8_noticed_1 : decode cX8_noticed 1 = .ok (.invokevirtual 183, 3) := by decide +kernel
theorem dX8_noticed_4 : decode cX8_noticed 4 = .ok (.ifCond .eq 6, 3) := by decide +kernel
theorem dX8_noticed_7 : decode cX8_noticed 7 = .ok (.ldc 182, 2) := by decide +kernel
theorem dX8_noticed_9 : decode cX8_noticed 9 = .ok (.ireturn, 1) := by decide +kernel
theorem dX8_noticed_10 : decode cX8_noticed 10 = .ok (.iload_n 1, 1) := by decide +kernel
theorem dX8_noticed_11 : decode cX8_noticed 11 = .ok (.i2l, 1) := by decide +kernel
theorem dX8_noticed_12 : decode cX8_noticed 12 = .ok (.lconst 1, 1) := by decide +kernel
theorem dX8_noticed_13 : decode cX8_noticed 13 = .ok (.ldc2_w 212, 3) := by decide +kernel
theorem dX8_noticed_16 : decode cX8_noticed 16 = .ok (.invokestatic 60, 3) := by decide +kernel
theorem dX8_noticed_19 : decode cX8_noticed 19 = .ok (.ifCond .eq 15, 3) := by decide +kernel
theorem dX8_noticed_22 : decode cX8_noticed 22 = .ok (.iload_n 2, 1) := by decide +kernel
theorem dX8_noticed_23 : decode cX8_noticed 23 = .ok (.i2l, 1) := by decide +kernel
theorem dX8_noticed_24 : decode cX8_noticed 24 = .ok (.lconst 0, 1) := by decide +kernel
theorem dX8_noticed_25 : decode cX8_noticed 25 = .ok (.ldc2_w 208, 3) := by decide +kernel
theorem dX8_noticed_28 : decode cX8_noticed 28 = .ok (.invokestatic 60, 3) := by decide +kernel
theorem dX8_noticed_31 : decode cX8_noticed 31 = .ok (.ifCond .ne 6, 3) := by decide +kernel
theorem dX8_noticed_34 : decode cX8_noticed 34 = .ok (.ldc 70, 2) := by decide +kernel
theorem dX8_noticed_36 : decode cX8_noticed 36 = .ok (.ireturn, 1) := by decide +kernel
theorem dX8_noticed_37 : decode cX8_noticed 37 = .ok (.aload_n 0, 1) := by decide +kernel
theorem dX8_noticed_38 : decode cX8_noticed 38 = .ok (.invokevirtual 191, 3) := by decide +kernel
theorem dX8_noticed_41 : decode cX8_noticed 41 = .ok (.iconst 0, 1) := by decide +kernel
theorem dX8_noticed_42 : decode cX8_noticed 42 = .ok (.istore_n 3, 1) := by decide +kernel
theorem dX8_noticed_43 : decode cX8_noticed 43 = .ok (.iload_n 3, 1) := by decide +kernel
theorem dX8_noticed_44 : decode cX8_noticed 44 = .ok (.iload_n 1, 1) := by decide +kernel
theorem dX8_noticed_45 : decode cX8_noticed 45 = .ok (.if_icmp .ge 35, 3) := by decide +kernel
theorem dX8_noticed_48 : decode cX8_noticed 48 = .ok (.aload_n 0, 1) := by decide +kernel
theorem dX8_noticed_49 : decode cX8_noticed 49 = .ok (.invokevirtual 174, 3) := by decide +kernel
theorem dX8_noticed_52 : decode cX8_noticed 52 = .ok (.istore 4, 2) := by decide +kernel
theorem dX8_noticed_54 : decode cX8_noticed 54 = .ok (.aload_n 0, 1) := by decide +kernel
theorem dX8_noticed_55 : decode cX8_noticed 55 = .ok (.invokevirtual 171, 3) := by decide +kernel
theorem dX8_noticed_58 : decode cX8_noticed 58 = .ok (.aload_n 0, 1) := by decide +kernel
theorem dX8_noticed_59 : decode cX8_noticed 59 = .ok (.invokevirtual 174, 3) := by decide +kernel
theorem dX8_noticed_62 : decode cX8_noticed 62 = .ok (.iload 4, 2) := by decide +kernel
theorem dX8_noticed_64 : decode cX8_noticed 64 = .ok (.isub, 1) := by decide +kernel
theorem dX8_noticed_65 : decode cX8_noticed 65 = .ok (.invokestatic 221, 3) := by decide +kernel
theorem dX8_noticed_68 : decode cX8_noticed 68 = .ok (.iload_n 2, 1) := by decide +kernel
theorem dX8_noticed_69 : decode cX8_noticed 69 = .ok (.if_icmp .le 5, 3) := by decide +kernel
theorem dX8_noticed_72 : decode cX8_noticed 72 = .ok (.iload_n 3, 1) := by decide +kernel
theorem dX8_noticed_73 : decode cX8_noticed 73 = .ok (.ireturn, 1) := by decide +kernel
theorem dX8_noticed_74 : decode cX8_noticed 74 = .ok (.iinc 3 1, 3) := by decide +kernel
theorem dX8_noticed_77 : decode cX8_noticed 77 = .ok (.goto (-34), 3) := by decide +kernel
theorem dX8_noticed_80 : decode cX8_noticed 80 = .ok (.ldc 220, 2) := by decide +kernel
theorem dX8_noticed_82 : decode cX8_noticed 82 = .ok (.ireturn, 1) := by decide +kernel
theorem dX8_dancers_0 : decode cX8_dancers 0 = .ok (.aload_n 0, 1) := by decide +kernel
theorem dX8_dancers_1 : decode cX8_dancers 1 = .ok (.invokevirtual 183, 3) := by decide +kernel
theorem dX8_dancers_4 : decode cX8_dancers 4 = .ok (.ifCond .eq 6, 3) := by decide +kernel
theorem dX8_dancers_7 : decode cX8_dancers 7 = .ok (.ldc 182, 2) := by decide +kernel
theorem dX8_dancers_9 : decode cX8_dancers 9 = .ok (.ireturn, 1) := by decide +kernel
theorem dX8_dancers_10 : decode cX8_dancers 10 = .ok (.iload_n 1, 1) := by decide +kernel
theorem dX8_dancers_11 : decode cX8_dancers 11 = .ok (.invokestatic 64, 3) := by decide +kernel
theorem dX8_dancers_14 : decode cX8_dancers 14 = .ok (.ifCond .eq 39, 3) := by decide +kernel
theorem dX8_dancers_17 : decode cX8_dancers 17 = .ok (.iload_n 3, 1) := by decide +kernel
theorem dX8_dancers_18 : decode cX8_dancers 18 = .ok (.i2l, 1) := by decide +kernel
theorem dX8_dancers_19 : decode cX8_dancers 19 = .ok (.lconst 1, 1) := by decide +kernel
theorem dX8_dancers_20 : decode cX8_dancers 20 = .ok (.ldc2_w 224, 3) := by decide +kernel
theorem dX8_dancers_23 : decode cX8_dancers 23 = .ok (.invokestatic 60, 3) := by decide +kernel
theorem dX8_dancers_26 : decode cX8_dancers 26 = .ok (.ifCond .eq 27, 3) := by decide +kernel
theorem dX8_dancers_29 : decode cX8_dancers 29 = .ok (.iload 4, 2) := by decide +kernel
theorem dX8_dancers_31 : decode cX8_dancers 31 = .ok (.i2l, 1) := by decide +kernel
theorem dX8_dancers_32 : decode cX8_dancers 32 = .ok (.lconst 0, 1) := by decide +kernel
theorem dX8_dancers_33 : decode cX8_dancers 33 = .ok (.ldc2_w 212, 3) := by decide +kernel
theorem dX8_dancers_36 : decode cX8_dancers 36 = .ok (.invokestatic 60, 3) := by decide +kernel
theorem dX8_dancers_39 : decode cX8_dancers 39 = .ok (.ifCond .eq 14, 3) := by decide +kernel
theorem dX8_dancers_42 : decode cX8_dancers 42 = .ok (.iload 5, 2) := by decide +kernel
theorem dX8_dancers_44 : decode cX8_dancers 44 = .ok (.i2l, 1) := by decide +kernel
theorem dX8_dancers_45 : decode cX8_dancers 45 = .ok (.lconst 0, 1) := by decide +kernel
theorem dX8_dancers_46 : decode cX8_dancers 46 = .ok (.lconst 1, 1) := by decide +kernel
theorem dX8_dancers_47 : decode cX8_dancers 47 = .ok (.invokestatic 60, 3) := by decide +kernel
theorem dX8_dancers_50 : decode cX8_dancers 50 = .ok (.ifCond .ne 6, 3) := by decide +kernel
theorem dX8_dancers_53 : decode cX8_dancers 53 = .ok (.ldc 70, 2) := by decide +kernel
theorem dX8_dancers_55 : decode cX8_dancers 55 = .ok (.ireturn, 1) := by decide +kernel
theorem dX8_dancers_56 : decode cX8_dancers 56 = .ok (.aload_n 0, 1) := by decide +kernel
theorem dX8_dancers_57 : decode cX8_dancers 57 = .ok (.iload_n 1, 1) := by decide +kernel
theorem dX8_dancers_58 : decode cX8_dancers 58 = .ok (.iload_n 2, 1) := by decide +kernel
theorem dX8_dancers_59 : decode cX8_dancers 59 = .ok (.iconst 2, 1) := by decide +kernel
theorem dX8_dancers_60 : decode cX8_dancers 60 = .ok (.iload_n 3, 1) := by decide +kernel
theorem dX8_dancers_61 : decode cX8_dancers 61 = .ok (.imul, 1) := by decide +kernel
theorem dX8_dancers_62 : decode cX8_dancers 62 = .ok (.invokevirtual 78, 3) := by decide +kernel
theorem dX8_dancers_65 : decode cX8_dancers 65 = .ok (.istore 6, 2) := by decide +kernel
theorem dX8_dancers_67 : decode cX8_dancers 67 = .ok (.iload 6, 2) := by decide +kernel
theorem dX8_dancers_69 : decode cX8_dancers 69 = .ok (.ifCond .le 10, 3) := by decide +kernel
theorem dX8_dancers_72 : decode cX8_dancers 72 = .ok (.aload_n 0, 1) := by decide +kernel
theorem dX8_dancers_73 : decode cX8_dancers 73 = .ok (.iload 6, 2) := by decide +kernel
theorem dX8_dancers_75 : decode cX8_dancers 75 = .ok (.invokevirtual 71, 3) := by decide +kernel
theorem dX8_dancers_78 : decode cX8_dancers 78 = .ok (.ireturn, 1) := by decide +kernel
theorem dX8_dancers_79 : decode cX8_dancers 79 = .ok (.aload_n 0, 1) := by decide +kernel
theorem dX8_dancers_80 : decode cX8_dancers 80 = .ok (.invokevirtual 191, 3) := by decide +kernel
theorem dX8_dancers_83 : decode cX8_dancers 83 = .ok (.iconst 0, 1) := by decide +kernel
theorem dX8_dancers_84 : decode cX8_dancers 84 = .ok (.istore 7, 2) := by decide +kernel
theorem dX8_dancers_86 : decode cX8_dancers 86 = .ok (.ldc 220, 2) := by decide +kernel
theorem dX8_dancers_88 : decode cX8_dancers 88 = .ok (.istore 8, 2) := by decide +kernel
theorem dX8_dancers_90 : decode cX8_dancers 90 = .ok (.iconst 0, 1) := by decide +kernel
theorem dX8_dancers_91 : decode cX8_dancers 91 = .ok (.istore 9, 2) := by decide +kernel
theorem dX8_dancers_93 : decode cX8_dancers 93 = .ok (.iload 9, 2) := by decide +kernel
theorem dX8_dancers_95 : decode cX8_dancers 95 = .ok (.iload 4, 2) := by decide +kernel
theorem dX8_dancers_97 : decode cX8_dancers 97 = .ok (.if_icmp .gt 125, 3) := by decide +kernel
theorem dX8_dancers_100 : decode cX8_dancers 100 = .ok (.iconst 0, 1) := by decide +kernel
theorem dX8_dancers_101 : decode cX8_dancers 101 = .ok (.istore 10, 2) := by decide +kernel
theorem dX8_dancers_103 : decode cX8_dancers 103 = .ok (.iload 10, 2) := by decide +kernel
theorem dX8_dancers_105 : decode cX8_dancers 105 = .ok (.iload_n 3, 1) := by decide +kernel
theorem dX8_dancers_106 : decode cX8_dancers 106 = .ok (.if_icmp .ge 106, 3) := by decide +kernel
theorem dX8_dancers_109 : decode cX8_dancers 109 = .ok (.aload_n 0, 1) := by decide +kernel
theorem dX8_dancers_110 : decode cX8_dancers 110 = .ok (.invokevirtual 174, 3) := by decide +kernel
theorem dX8_dancers_113 : decode cX8_dancers 113 = .ok (.aload_n 0, 1) := by decide +kernel
theorem dX8_dancers_114 : decode cX8_dancers 114 = .ok (.getfield 23, 3) := by decide +kernel
theorem dX8_dancers_117 : decode cX8_dancers 117 = .ok (.bipush 40, 2) := by decide +kernel
theorem dX8_dancers_119 : decode cX8_dancers 119 = .ok (.iload_n 1, 1) := by decide +kernel
theorem dX8_dancers_120 : decode cX8_dancers 120 = .ok (.imul, 1) := by decide +kernel
theorem dX8_dancers_121 : decode cX8_dancers 121 = .ok (.iload_n 2, 1) := by decide +kernel
theorem dX8_dancers_122 : decode cX8_dancers 122 = .ok (.iadd, 1) := by decide +kernel
theorem dX8_dancers_123 : decode cX8_dancers 123 = .ok (.iconst 2, 1) := by decide +kernel
theorem dX8_dancers_124 : decode cX8_dancers 124 = .ok (.iload 10, 2) := by decide +kernel
theorem dX8_dancers_126 : decode cX8_dancers 126 = .ok (.imul, 1) := by decide +kernel
theorem dX8_dancers_127 : decode cX8_dancers 127 = .ok (.iadd, 1) := by decide +kernel
theorem dX8_dancers_128 : decode cX8_dancers 128 = .ok (.iaload, 1) := by decide +kernel
theorem dX8_dancers_129 : decode cX8_dancers 129 = .ok (.if_icmp .lt 28, 3) := by decide +kernel
theorem dX8_dancers_132 : decode cX8_dancers 132 = .ok (.aload_n 0, 1) := by decide +kernel
theorem dX8_dancers_133 : decode cX8_dancers 133 = .ok (.invokevirtual 174, 3) := by decide +kernel
theorem dX8_dancers_136 : decode cX8_dancers 136 = .ok (.aload_n 0, 1) := by decide +kernel
theorem dX8_dancers_137 : decode cX8_dancers 137 = .ok (.getfield 23, 3) := by decide +kernel
theorem dX8_dancers_140 : decode cX8_dancers 140 = .ok (.bipush 40, 2) := by decide +kernel
theorem dX8_dancers_142 : decode cX8_dancers 142 = .ok (.iload_n 1, 1) := by decide +kernel
theorem dX8_dancers_143 : decode cX8_dancers 143 = .ok (.imul, 1) := by decide +kernel
theorem dX8_dancers_144 : decode cX8_dancers 144 = .ok (.iload_n 2, 1) := by decide +kernel
theorem dX8_dancers_145 : decode cX8_dancers 145 = .ok (.iadd, 1) := by decide +kernel
theorem dX8_dancers_146 : decode cX8_dancers 146 = .ok (.iconst 2, 1) := by decide +kernel
theorem dX8_dancers_147 : decode cX8_dancers 147 = .ok (.iload 10, 2) := by decide +kernel
theorem dX8_dancers_149 : decode cX8_dancers 149 = .ok (.imul, 1) := by decide +kernel
theorem dX8_dancers_150 : decode cX8_dancers 150 = .ok (.iadd, 1) := by decide +kernel
theorem dX8_dancers_151 : decode cX8_dancers 151 = .ok (.iconst 1, 1) := by decide +kernel
theorem dX8_dancers_152 : decode cX8_dancers 152 = .ok (.iadd, 1) := by decide +kernel
theorem dX8_dancers_153 : decode cX8_dancers 153 = .ok (.iaload, 1) := by decide +kernel
theorem dX8_dancers_154 : decode cX8_dancers 154 = .ok (.if_icmp .le 7, 3) := by decide +kernel
theorem dX8_dancers_157 : decode cX8_dancers 157 = .ok (.iconst 1, 1) := by decide +kernel
theorem dX8_dancers_158 : decode cX8_dancers 158 = .ok (.goto 4, 3) := by decide +kernel
theorem dX8_dancers_161 : decode cX8_dancers 161 = .ok (.iconst 0, 1) := by decide +kernel
theorem dX8_dancers_162 : decode cX8_dancers 162 = .ok (.istore 11, 2) := by decide +kernel
theorem dX8_dancers_164 : decode cX8_dancers 164 = .ok (.iload 11, 2) := by decide +kernel
theorem dX8_dancers_166 : decode cX8_dancers 166 = .ok (.ifCond .eq 18, 3) := by decide +kernel
theorem dX8_dancers_169 : decode cX8_dancers 169 = .ok (.iload 7, 2) := by decide +kernel
theorem dX8_dancers_171 : decode cX8_dancers 171 = .ok (.iload 10, 2) := by decide +kernel
theorem dX8_dancers_173 : decode cX8_dancers 173 = .ok (.ishr, 1) := by decide +kernel
theorem dX8_dancers_174 : decode cX8_dancers 174 = .ok (.iconst 1, 1) := by decide +kernel
theorem dX8_dancers_175 : decode cX8_dancers 175 = .ok (.iand, 1) := by decide +kernel
theorem dX8_dancers_176 : decode cX8_dancers 176 = .ok (.ifCond .ne 8, 3) := by decide +kernel
theorem dX8_dancers_179 : decode cX8_dancers 179 = .ok (.iload 9, 2) := by decide +kernel
theorem dX8_dancers_181 : decode cX8_dancers 181 = .ok (.goto 5, 3) := by decide +kernel
theorem dX8_dancers_184 : decode cX8_dancers 184 = .ok (.iload 8, 2) := by decide +kernel
theorem dX8_dancers_186 : decode cX8_dancers 186 = .ok (.istore 8, 2) := by decide +kernel
theorem dX8_dancers_188 : decode cX8_dancers 188 = .ok (.iload 7, 2) := by decide +kernel
theorem dX8_dancers_190 : decode cX8_dancers 190 = .ok (.iload 11, 2) := by decide +kernel
theorem dX8_dancers_192 : decode cX8_dancers 192 = .ok (.ifCond .eq 10, 3) := by decide +kernel
theorem dX8_dancers_195 : decode cX8_dancers 195 = .ok (.iconst 1, 1) := by decide +kernel
theorem dX8_dancers_196 : decode cX8_dancers 196 = .ok (.iload 10, 2) := by decide +kernel
theorem dX8_dancers_198 : decode cX8_dancers 198 = .ok (.ishl, 1) := by decide +kernel
theorem dX8_dancers_199 : decode cX8_dancers 199 = .ok (.goto 4, 3) := by decide +kernel
theorem dX8_dancers_202 : decode cX8_dancers 202 = .ok (.iconst 0, 1) := by decide +kernel
theorem dX8_dancers_203 : decode cX8_dancers 203 = .ok (.ior, 1) := by decide +kernel
theorem dX8_dancers_204 : decode cX8_dancers 204 = .ok (.istore 7, 2) := by decide +kernel
theorem dX8_dancers_206 : decode cX8_dancers 206 = .ok (.iinc 10 1, 3) := by decide +kernel
theorem dX8_dancers_209 : decode cX8_dancers 209 = .ok (.goto (-106), 3) := by decide +kernel
theorem dX8_dancers_212 : decode cX8_dancers 212 = .ok (.aload_n 0, 1) := by decide +kernel
theorem dX8_dancers_213 : decode cX8_dancers 213 = .ok (.invokevirtual 171, 3) := by decide +kernel
theorem dX8_dancers_216 : decode cX8_dancers 216 = .ok (.iinc 9 1, 3) := by decide +kernel
theorem dX8_dancers_219 : decode cX8_dancers 219 = .ok (.goto (-126), 3) := by decide +kernel
theorem dX8_dancers_222 : decode cX8_dancers 222 = .ok (.aload_n 0, 1) := by decide +kernel
theorem dX8_dancers_223 : decode cX8_dancers 223 = .ok (.iload 5, 2) := by decide +kernel
theorem dX8_dancers_225 : decode cX8_dancers 225 = .ok (.ifCond .ne 8, 3) := by decide +kernel
theorem dX8_dancers_228 : decode cX8_dancers 228 = .ok (.iload 7, 2) := by decide +kernel
theorem dX8_dancers_230 : decode cX8_dancers 230 = .ok (.goto 5, 3) := by decide +kernel
theorem dX8_dancers_233 : decode cX8_dancers 233 = .ok (.iload 8, 2) := by decide +kernel
theorem dX8_dancers_235 : decode cX8_dancers 235 = .ok (.invokevirtual 75, 3) := by decide +kernel
theorem dX8_dancers_238 : decode cX8_dancers 238 = .ok (.ireturn, 1) := by decide +kernel
theorem dX8_countIn_0 : decode cX8_countIn 0 = .ok (.aload_n 0, 1) := by decide +kernel
theorem dX8_countIn_1 : decode cX8_countIn 1 = .ok (.invokevirtual 183, 3) := by decide +kernel
theorem dX8_countIn_4 : decode cX8_countIn 4 = .ok (.ifCond .eq 6, 3) := by decide +kernel
theorem dX8_countIn_7 : decode cX8_countIn 7 = .ok (.ldc 182, 2) := by decide +kernel
theorem dX8_countIn_9 : decode cX8_countIn 9 = .ok (.ireturn, 1) := by decide +kernel
theorem dX8_countIn_10 : decode cX8_countIn 10 = .ok (.iload_n 1, 1) := by decide +kernel
theorem dX8_countIn_11 : decode cX8_countIn 11 = .ok (.i2l, 1) := by decide +kernel
theorem dX8_countIn_12 : decode cX8_countIn 12 = .ok (.lconst 0, 1) := by decide +kernel
theorem dX8_countIn_13 : decode cX8_countIn 13 = .ok (.ldc2_w 212, 3) := by decide +kernel
theorem dX8_countIn_16 : decode cX8_countIn 16 = .ok (.invokestatic 60, 3) := by decide +kernel
theorem dX8_countIn_19 : decode cX8_countIn 19 = .ok (.ifCond .eq 17, 3) := by decide +kernel
theorem dX8_countIn_22 : decode cX8_countIn 22 = .ok (.iload_n 2, 1) := by decide +kernel
theorem dX8_countIn_23 : decode cX8_countIn 23 = .ok (.i2l, 1) := by decide +kernel
theorem dX8_countIn_24 : decode cX8_countIn 24 = .ok (.ldc2_w 200, 3) := by decide +kernel
theorem dX8_countIn_27 : decode cX8_countIn 27 = .ok (.ldc2_w 202, 3) := by decide +kernel
theorem dX8_countIn_30 : decode cX8_countIn 30 = .ok (.invokestatic 60, 3) := by decide +kernel
theorem dX8_countIn_33 : decode cX8_countIn 33 = .ok (.ifCond .ne 6, 3) := by decide +kernel
theorem dX8_countIn_36 : decode cX8_countIn 36 = .ok (.ldc 70, 2) := by decide +kernel
theorem dX8_countIn_38 : decode cX8_countIn 38 = .ok (.ireturn, 1) := by decide +kernel
theorem dX8_countIn_39 : decode cX8_countIn 39 = .ok (.ldc 220, 2) := by decide +kernel
theorem dX8_countIn_41 : decode cX8_countIn 41 = .ok (.istore_n 3, 1) := by decide +kernel
theorem dX8_countIn_42 : decode cX8_countIn 42 = .ok (.ldc 226, 2) := by decide +kernel
theorem dX8_countIn_44 : decode cX8_countIn 44 = .ok (.istore 4, 2) := by decide +kernel
theorem dX8_countIn_46 : decode cX8_countIn 46 = .ok (.sipush 400, 3) := by decide +kernel
theorem dX8_countIn_49 : decode cX8_countIn 49 = .ok (.istore 5, 2) := by decide +kernel
theorem dX8_countIn_51 : decode cX8_countIn 51 = .ok (.iload 5, 2) := by decide +kernel
theorem dX8_countIn_53 : decode cX8_countIn 53 = .ok (.sipush 990, 3) := by decide +kernel
theorem dX8_countIn_56 : decode cX8_countIn 56 = .ok (.if_icmp .gt 88, 3) := by decide +kernel
theorem dX8_countIn_59 : decode cX8_countIn 59 = .ok (.aload_n 0, 1) := by decide +kernel
theorem dX8_countIn_60 : decode cX8_countIn 60 = .ok (.invokevirtual 191, 3) := by decide +kernel
theorem dX8_countIn_63 : decode cX8_countIn 63 = .ok (.iconst 0, 1) := by decide +kernel
theorem dX8_countIn_64 : decode cX8_countIn 64 = .ok (.istore 6, 2) := by decide +kernel
theorem dX8_countIn_66 : decode cX8_countIn 66 = .ok (.iload 6, 2) := by decide +kernel
theorem dX8_countIn_68 : decode cX8_countIn 68 = .ok (.aload_n 0, 1) := by decide +kernel
theorem dX8_countIn_69 : decode cX8_countIn 69 = .ok (.getfield 7, 3) := by decide +kernel
theorem dX8_countIn_72 : decode cX8_countIn 72 = .ok (.iconst 5, 1) := by decide +kernel
theorem dX8_countIn_73 : decode cX8_countIn 73 = .ok (.iaload, 1) := by decide +kernel
theorem dX8_countIn_74 : decode cX8_countIn 74 = .ok (.if_icmp .ge 18, 3) := by decide +kernel
theorem dX8_countIn_77 : decode cX8_countIn 77 = .ok (.aload_n 0, 1) := by decide +kernel
theorem dX8_countIn_78 : decode cX8_countIn 78 = .ok (.getfield 32, 3) := by decide +kernel
theorem dX8_countIn_81 : decode cX8_countIn 81 = .ok (.iload 6, 2) := by decide +kernel
theorem dX8_countIn_83 : decode cX8_countIn 83 = .ok (.iload 5, 2) := by decide +kernel
theorem dX8_countIn_85 : decode cX8_countIn 85 = .ok (.iastore, 1) := by decide +kernel
theorem dX8_countIn_86 : decode cX8_countIn 86 = .ok (.iinc 6 1, 3) := by decide +kernel
theorem dX8_countIn_89 : decode cX8_countIn 89 = .ok (.goto (-23), 3) := by decide +kernel
theorem dX8_countIn_92 : decode cX8_countIn 92 = .ok (.aload_n 0, 1) := by decide +kernel
theorem dX8_countIn_93 : decode cX8_countIn 93 = .ok (.iload_n 1, 1) := by decide +kernel
theorem dX8_countIn_94 : decode cX8_countIn 94 = .ok (.invokevirtual 178, 3) := by decide +kernel
theorem dX8_countIn_97 : decode cX8_countIn 97 = .ok (.aload_n 0, 1) := by decide +kernel
theorem dX8_countIn_98 : decode cX8_countIn 98 = .ok (.invokevirtual 174, 3) := by decide +kernel
theorem dX8_countIn_101 : decode cX8_countIn 101 = .ok (.iload_n 2, 1) := by decide +kernel
theorem dX8_countIn_102 : decode cX8_countIn 102 = .ok (.isub, 1) := by decide +kernel
theorem dX8_countIn_103 : decode cX8_countIn 103 = .ok (.invokestatic 221, 3) := by decide +kernel
theorem dX8_countIn_106 : decode cX8_countIn 106 = .ok (.istore 6, 2) := by decide +kernel
theorem dX8_countIn_108 : decode cX8_countIn 108 = .ok (.iload 6, 2) := by decide +kernel
theorem dX8_countIn_110 : decode cX8_countIn 110 = .ok (.iload 4, 2) := by decide +kernel
theorem dX8_countIn_112 : decode cX8_countIn 112 = .ok (.if_icmp .ge 8, 3) := by decide +kernel
theorem dX8_countIn_115 : decode cX8_countIn 115 = .ok (.iload 5, 2) := by decide +kernel
theorem dX8_countIn_117 : decode cX8_countIn 117 = .ok (.goto 4, 3) := by decide +kernel
theorem dX8_countIn_120 : decode cX8_countIn 120 = .ok (.iload_n 3, 1) := by decide +kernel
theorem dX8_countIn_121 : decode cX8_countIn 121 = .ok (.istore_n 3, 1) := by decide +kernel
theorem dX8_countIn_122 : decode cX8_countIn 122 = .ok (.iload 6, 2) := by decide +kernel
theorem dX8_countIn_124 : decode cX8_countIn 124 = .ok (.iload 4, 2) := by decide +kernel
theorem dX8_countIn_126 : decode cX8_countIn 126 = .ok (.if_icmp .ge 8, 3) := by decide +kernel
theorem dX8_countIn_129 : decode cX8_countIn 129 = .ok (.iload 6, 2) := by decide +kernel
theorem dX8_countIn_131 : decode cX8_countIn 131 = .ok (.goto 5, 3) := by decide +kernel
theorem dX8_countIn_134 : decode cX8_countIn 134 = .ok (.iload 4, 2) := by decide +kernel
theorem dX8_countIn_136 : decode cX8_countIn 136 = .ok (.istore 4, 2) := by decide +kernel
theorem dX8_countIn_138 : decode cX8_countIn 138 = .ok (.iinc 5 10, 3) := by decide +kernel
theorem dX8_countIn_141 : decode cX8_countIn 141 = .ok (.goto (-90), 3) := by decide +kernel
theorem dX8_countIn_144 : decode cX8_countIn 144 = .ok (.iload_n 3, 1) := by decide +kernel
theorem dX8_countIn_145 : decode cX8_countIn 145 = .ok (.ireturn, 1) := by decide +kernel
theorem dX8_deaf_0 : decode cX8_deaf 0 = .ok (.aload_n 0, 1) := by decide +kernel
theorem dX8_deaf_1 : decode cX8_deaf 1 = .ok (.invokevirtual 183, 3) := by decide +kernel
theorem dX8_deaf_4 : decode cX8_deaf 4 = .ok (.ifCond .eq 6, 3) := by decide +kernel
theorem dX8_deaf_7 : decode cX8_deaf 7 = .ok (.ldc 182, 2) := by decide +kernel
theorem dX8_deaf_9 : decode cX8_deaf 9 = .ok (.ireturn, 1) := by decide +kernel
theorem dX8_deaf_10 : decode cX8_deaf 10 = .ok (.iload_n 1, 1) := by decide +kernel
theorem dX8_deaf_11 : decode cX8_deaf 11 = .ok (.i2l, 1) := by decide +kernel
theorem dX8_deaf_12 : decode cX8_deaf 12 = .ok (.lconst 0, 1) := by decide +kernel
theorem dX8_deaf_13 : decode cX8_deaf 13 = .ok (.lconst 1, 1) := by decide +kernel
theorem dX8_deaf_14 : decode cX8_deaf 14 = .ok (.invokestatic 60, 3) := by decide +kernel
theorem dX8_deaf_17 : decode cX8_deaf 17 = .ok (.ifCond .ne 6, 3) := by decide +kernel
theorem dX8_deaf_20 : decode cX8_deaf 20 = .ok (.ldc 70, 2) := by decide +kernel
theorem dX8_deaf_22 : decode cX8_deaf 22 = .ok (.ireturn, 1) := by decide +kernel
theorem dX8_deaf_23 : decode cX8_deaf 23 = .ok (.ldc 220, 2) := by decide +kernel
theorem dX8_deaf_25 : decode cX8_deaf 25 = .ok (.istore_n 2, 1) := by decide +kernel
theorem dX8_deaf_26 : decode cX8_deaf 26 = .ok (.ldc 220, 2) := by decide +kernel
theorem dX8_deaf_28 : decode cX8_deaf 28 = .ok (.istore_n 3, 1) := by decide +kernel
theorem dX8_deaf_29 : decode cX8_deaf 29 = .ok (.iconst 0, 1) := by decide +kernel
theorem dX8_deaf_30 : decode cX8_deaf 30 = .ok (.istore 4, 2) := by decide +kernel
theorem dX8_deaf_32 : decode cX8_deaf 32 = .ok (.iload 4, 2) := by decide +kernel
theorem dX8_deaf_34 : decode cX8_deaf 34 = .ok (.bipush 25, 2) := by decide +kernel
theorem dX8_deaf_36 : decode cX8_deaf 36 = .ok (.if_icmp .ge 89, 3) := by decide +kernel
theorem dX8_deaf_39 : decode cX8_deaf 39 = .ok (.aload_n 0, 1) := by decide +kernel
theorem dX8_deaf_40 : decode cX8_deaf 40 = .ok (.getfield 7, 3) := by decide +kernel
theorem dX8_deaf_43 : decode cX8_deaf 43 = .ok (.bipush 36, 2) := by decide +kernel
theorem dX8_deaf_45 : decode cX8_deaf 45 = .ok (.iload 4, 2) := by decide +kernel
theorem dX8_deaf_47 : decode cX8_deaf 47 = .ok (.iadd, 1) := by decide +kernel
theorem dX8_deaf_48 : decode cX8_deaf 48 = .ok (.iaload, 1) := by decide +kernel
theorem dX8_deaf_49 : decode cX8_deaf 49 = .ok (.ifCond .le 70, 3) := by decide +kernel
theorem dX8_deaf_52 : decode cX8_deaf 52 = .ok (.aload_n 0, 1) := by decide +kernel
theorem dX8_deaf_53 : decode cX8_deaf 53 = .ok (.invokevirtual 191, 3) := by decide +kernel
theorem dX8_deaf_56 : decode cX8_deaf 56 = .ok (.aload_n 0, 1) := by decide +kernel
theorem dX8_deaf_57 : decode cX8_deaf 57 = .ok (.getfield 44, 3) := by decide +kernel
theorem dX8_deaf_60 : decode cX8_deaf 60 = .ok (.iload 4, 2) := by decide +kernel
theorem dX8_deaf_62 : decode cX8_deaf 62 = .ok (.iconst 0, 1) := by decide +kernel
theorem dX8_deaf_63 : decode cX8_deaf 63 = .ok (.iastore, 1) := by decide +kernel
theorem dX8_deaf_64 : decode cX8_deaf 64 = .ok (.aload_n 0, 1) := by decide +kernel
theorem dX8_deaf_65 : decode cX8_deaf 65 = .ok (.invokevirtual 214, 3) := by decide +kernel
theorem dX8_deaf_68 : decode cX8_deaf 68 = .ok (.istore 5, 2) := by decide +kernel
theorem dX8_deaf_70 : decode cX8_deaf 70 = .ok (.iload_n 2, 1) := by decide +kernel
theorem dX8_deaf_71 : decode cX8_deaf 71 = .ok (.ldc 220, 2) := by decide +kernel
theorem dX8_deaf_73 : decode cX8_deaf 73 = .ok (.if_icmp .eq 15, 3) := by decide +kernel
theorem dX8_deaf_76 : decode cX8_deaf 76 = .ok (.iload 5, 2) := by decide +kernel
theorem dX8_deaf_78 : decode cX8_deaf 78 = .ok (.invokestatic 221, 3) := by decide +kernel
theorem dX8_deaf_81 : decode cX8_deaf 81 = .ok (.iload_n 3, 1) := by decide +kernel
theorem dX8_deaf_82 : decode cX8_deaf 82 = .ok (.invokestatic 221, 3) := by decide +kernel
theorem dX8_deaf_85 : decode cX8_deaf 85 = .ok (.if_icmp .ge 7, 3) := by decide +kernel
theorem dX8_deaf_88 : decode cX8_deaf 88 = .ok (.iconst 1, 1) := by decide +kernel
theorem dX8_deaf_89 : decode cX8_deaf 89 = .ok (.goto 4, 3) := by decide +kernel
theorem dX8_deaf_92 : decode cX8_deaf 92 = .ok (.iconst 0, 1) := by decide +kernel
theorem dX8_deaf_93 : decode cX8_deaf 93 = .ok (.istore 6, 2) := by decide +kernel
theorem dX8_deaf_95 : decode cX8_deaf 95 = .ok (.iload 6, 2) := by decide +kernel
theorem dX8_deaf_97 : decode cX8_deaf 97 = .ok (.ifCond .eq 8, 3) := by decide +kernel
theorem dX8_deaf_100 : decode cX8_deaf 100 = .ok (.iload 4, 2) := by decide +kernel
theorem dX8_deaf_102 : decode cX8_deaf 102 = .ok (.goto 4, 3) := by decide +kernel
theorem dX8_deaf_105 : decode cX8_deaf 105 = .ok (.iload_n 2, 1) := by decide +kernel
theorem dX8_deaf_106 : decode cX8_deaf 106 = .ok (.istore_n 2, 1) := by decide +kernel
theorem dX8_deaf_107 : decode cX8_deaf 107 = .ok (.iload 6, 2) := by decide +kernel
theorem dX8_deaf_109 : decode cX8_deaf 109 = .ok (.ifCond .eq 8, 3) := by decide +kernel
theorem dX8_deaf_112 : decode cX8_deaf 112 = .ok (.iload 5, 2) := by decide +kernel
theorem dX8_deaf_114 : decode cX8_deaf 114 = .ok (.goto 4, 3) := by decide +kernel
theorem dX8_deaf_117 : decode cX8_deaf 117 = .ok (.iload_n 3, 1) := by decide +kernel
theorem dX8_deaf_118 : decode cX8_deaf 118 = .ok (.istore_n 3, 1) := by decide +kernel
theorem dX8_deaf_119 : decode cX8_deaf 119 = .ok (.iinc 4 1, 3) := by decide +kernel
theorem dX8_deaf_122 : decode cX8_deaf 122 = .ok (.goto (-90), 3) := by decide +kernel
theorem dX8_deaf_125 : decode cX8_deaf 125 = .ok (.iload_n 1, 1) := by decide +kernel
theorem dX8_deaf_126 : decode cX8_deaf 126 = .ok (.ifCond .ne 7, 3) := by decide +kernel
theorem dX8_deaf_129 : decode cX8_deaf 129 = .ok (.iload_n 2, 1) := by decide +kernel
theorem dX8_deaf_130 : decode cX8_deaf 130 = .ok (.goto 4, 3) := by decide +kernel
theorem dX8_deaf_133 : decode cX8_deaf 133 = .ok (.iload_n 3, 1) := by decide +kernel
theorem dX8_deaf_134 : decode cX8_deaf 134 = .ok (.ireturn, 1) := by decide +kernel
theorem dX8_inEar_0 : decode cX8_inEar 0 = .ok (.aload_n 0, 1) := by decide +kernel
theorem dX8_inEar_1 : decode cX8_inEar 1 = .ok (.invokevirtual 183, 3) := by decide +kernel
theorem dX8_inEar_4 : decode cX8_inEar 4 = .ok (.ifCond .eq 6, 3) := by decide +kernel
theorem dX8_inEar_7 : decode cX8_inEar 7 = .ok (.ldc 182, 2) := by decide +kernel
theorem dX8_inEar_9 : decode cX8_inEar 9 = .ok (.ireturn, 1) := by decide +kernel
theorem dX8_inEar_10 : decode cX8_inEar 10 = .ok (.iload_n 1, 1) := by decide +kernel
theorem dX8_inEar_11 : decode cX8_inEar 11 = .ok (.i2l, 1) := by decide +kernel
theorem dX8_inEar_12 : decode cX8_inEar 12 = .ok (.lconst 0, 1) := by decide +kernel
theorem dX8_inEar_13 : decode cX8_inEar 13 = .ok (.lconst 1, 1) := by decide +kernel
theorem dX8_inEar_14 : decode cX8_inEar 14 = .ok (.invokestatic 60, 3) := by decide +kernel
theorem dX8_inEar_17 : decode cX8_inEar 17 = .ok (.ifCond .ne 6, 3) := by decide +kernel
theorem dX8_inEar_20 : decode cX8_inEar 20 = .ok (.ldc 70, 2) := by decide +kernel
theorem dX8_inEar_22 : decode cX8_inEar 22 = .ok (.ireturn, 1) := by decide +kernel
theorem dX8_inEar_23 : decode cX8_inEar 23 = .ok (.ldc 220, 2) := by decide +kernel
theorem dX8_inEar_25 : decode cX8_inEar 25 = .ok (.istore_n 2, 1) := by decide +kernel
theorem dX8_inEar_26 : decode cX8_inEar 26 = .ok (.ldc 220, 2) := by decide +kernel
theorem dX8_inEar_28 : decode cX8_inEar 28 = .ok (.istore_n 3, 1) := by decide +kernel
theorem dX8_inEar_29 : decode cX8_inEar 29 = .ok (.iconst 0, 1) := by decide +kernel
theorem dX8_inEar_30 : decode cX8_inEar 30 = .ok (.istore 4, 2) := by decide +kernel
theorem dX8_inEar_32 : decode cX8_inEar 32 = .ok (.iload 4, 2) := by decide +kernel
theorem dX8_inEar_34 : decode cX8_inEar 34 = .ok (.aload_n 0, 1) := by decide +kernel
theorem dX8_inEar_35 : decode cX8_inEar 35 = .ok (.getfield 7, 3) := by decide +kernel
theorem dX8_inEar_38 : decode cX8_inEar 38 = .ok (.iconst 5, 1) := by decide +kernel
theorem dX8_inEar_39 : decode cX8_inEar 39 = .ok (.iaload, 1) := by decide +kernel
theorem dX8_inEar_40 : decode cX8_inEar 40 = .ok (.if_icmp .ge 76, 3) := by decide +kernel
theorem dX8_inEar_43 : decode cX8_inEar 43 = .ok (.aload_n 0, 1) := by decide +kernel
theorem dX8_inEar_44 : decode cX8_inEar 44 = .ok (.invokevirtual 191, 3) := by decide +kernel
theorem dX8_inEar_47 : decode cX8_inEar 47 = .ok (.aload_n 0, 1) := by decide +kernel
theorem dX8_inEar_48 : decode cX8_inEar 48 = .ok (.getfield 38, 3) := by decide +kernel
theorem dX8_inEar_51 : decode cX8_inEar 51 = .ok (.iload 4, 2) := by decide +kernel
theorem dX8_inEar_53 : decode cX8_inEar 53 = .ok (.iconst 4, 1) := by decide +kernel
theorem dX8_inEar_54 : decode cX8_inEar 54 = .ok (.iastore, 1) := by decide +kernel
theorem dX8_inEar_55 : decode cX8_inEar 55 = .ok (.aload_n 0, 1) := by decide +kernel
theorem dX8_inEar_56 : decode cX8_inEar 56 = .ok (.invokevirtual 214, 3) := by decide +kernel
theorem dX8_inEar_59 : decode cX8_inEar 59 = .ok (.istore 5, 2) := by decide +kernel
theorem dX8_inEar_61 : decode cX8_inEar 61 = .ok (.iload_n 2, 1) := by decide +kernel
theorem dX8_inEar_62 : decode cX8_inEar 62 = .ok (.ldc 220, 2) := by decide +kernel
theorem dX8_inEar_64 : decode cX8_inEar 64 = .ok (.if_icmp .eq 15, 3) := by decide +kernel
theorem dX8_inEar_67 : decode cX8_inEar 67 = .ok (.iload 5, 2) := by decide +kernel
theorem dX8_inEar_69 : decode cX8_inEar 69 = .ok (.invokestatic 221, 3) := by decide +kernel
theorem dX8_inEar_72 : decode cX8_inEar 72 = .ok (.iload_n 3, 1) := by decide +kernel
theorem dX8_inEar_73 : decode cX8_inEar 73 = .ok (.invokestatic 221, 3) := by decide +kernel
theorem dX8_inEar_76 : decode cX8_inEar 76 = .ok (.if_icmp .ge 7, 3) := by decide +kernel
theorem dX8_inEar_79 : decode cX8_inEar 79 = .ok (.iconst 1, 1) := by decide +kernel
theorem dX8_inEar_80 : decode cX8_inEar 80 = .ok (.goto 4, 3) := by decide +kernel
theorem dX8_inEar_83 : decode cX8_inEar 83 = .ok (.iconst 0, 1) := by decide +kernel
theorem dX8_inEar_84 : decode cX8_inEar 84 = .ok (.istore 6, 2) := by decide +kernel
theorem dX8_inEar_86 : decode cX8_inEar 86 = .ok (.iload 6, 2) := by decide +kernel
theorem dX8_inEar_88 : decode cX8_inEar 88 = .ok (.ifCond .eq 8, 3) := by decide +kernel
theorem dX8_inEar_91 : decode cX8_inEar 91 = .ok (.iload 4, 2) := by decide +kernel
theorem dX8_inEar_93 : decode cX8_inEar 93 = .ok (.goto 4, 3) := by decide +kernel
theorem dX8_inEar_96 : decode cX8_inEar 96 = .ok (.iload_n 2, 1) := by decide +kernel
theorem dX8_inEar_97 : decode cX8_inEar 97 = .ok (.istore_n 2, 1) := by decide +kernel
theorem dX8_inEar_98 : decode cX8_inEar 98 = .ok (.iload 6, 2) := by decide +kernel
theorem dX8_inEar_100 : decode cX8_inEar 100 = .ok (.ifCond .eq 8, 3) := by decide +kernel
theorem dX8_inEar_103 : decode cX8_inEar 103 = .ok (.iload 5, 2) := by decide +kernel
theorem dX8_inEar_105 : decode cX8_inEar 105 = .ok (.goto 4, 3) := by decide +kernel
theorem dX8_inEar_108 : decode cX8_inEar 108 = .ok (.iload_n 3, 1) := by decide +kernel
theorem dX8_inEar_109 : decode cX8_inEar 109 = .ok (.istore_n 3, 1) := by decide +kernel
theorem dX8_inEar_110 : decode cX8_inEar 110 = .ok (.iinc 4 1, 3) := by decide +kernel
theorem dX8_inEar_113 : decode cX8_inEar 113 = .ok (.goto (-81), 3) := by decide +kernel
theorem dX8_inEar_116 : decode cX8_inEar 116 = .ok (.iload_n 1, 1) := by decide +kernel
theorem dX8_inEar_117 : decode cX8_inEar 117 = .ok (.ifCond .ne 7, 3) := by decide +kernel
theorem dX8_inEar_120 : decode cX8_inEar 120 = .ok (.iload_n 2, 1) := by decide +kernel
theorem dX8_inEar_121 : decode cX8_inEar 121 = .ok (.goto 4, 3) := by decide +kernel
theorem dX8_inEar_124 : decode cX8_inEar 124 = .ok (.iload_n 3, 1) := by decide +kernel
theorem dX8_inEar_125 : decode cX8_inEar 125 = .ok (.ireturn, 1) := by decide +kernel
theorem dX8_blame_0 : decode cX8_blame 0 = .ok (.aload_n 0, 1) := by decide +kernel
theorem dX8_blame_1 : decode cX8_blame 1 = .ok (.iload_n 1, 1) := by decide +kernel
theorem dX8_blame_2 : decode cX8_blame 2 = .ok (.invokevirtual 197, 3) := by decide +kernel
theorem dX8_blame_5 : decode cX8_blame 5 = .ok (.ifCond .ne 6, 3) := by decide +kernel
theorem dX8_blame_8 : decode cX8_blame 8 = .ok (.ldc 70, 2) := by decide +kernel
theorem dX8_blame_10 : decode cX8_blame 10 = .ok (.ireturn, 1) := by decide +kernel
theorem dX8_blame_11 : decode cX8_blame 11 = .ok (.aload_n 0, 1) := by decide +kernel
theorem dX8_blame_12 : decode cX8_blame 12 = .ok (.invokevirtual 191, 3) := by decide +kernel
theorem dX8_blame_15 : decode cX8_blame 15 = .ok (.aload_n 0, 1) := by decide +kernel
theorem dX8_blame_16 : decode cX8_blame 16 = .ok (.invokevirtual 214, 3) := by decide +kernel
theorem dX8_blame_19 : decode cX8_blame 19 = .ok (.istore_n 2, 1) := by decide +kernel
theorem dX8_blame_20 : decode cX8_blame 20 = .ok (.aload_n 0, 1) := by decide +kernel
theorem dX8_blame_21 : decode cX8_blame 21 = .ok (.invokevirtual 191, 3) := by decide +kernel
theorem dX8_blame_24 : decode cX8_blame 24 = .ok (.aload_n 0, 1) := by decide +kernel
theorem dX8_blame_25 : decode cX8_blame 25 = .ok (.getfield 41, 3) := by decide +kernel
theorem dX8_blame_28 : decode cX8_blame 28 = .ok (.iload_n 1, 1) := by decide +kernel
theorem dX8_blame_29 : decode cX8_blame 29 = .ok (.iconst 0, 1) := by decide +kernel
theorem dX8_blame_30 : decode cX8_blame 30 = .ok (.iastore, 1) := by decide +kernel
theorem dX8_blame_31 : decode cX8_blame 31 = .ok (.aload_n 0, 1) := by decide +kernel
theorem dX8_blame_32 : decode cX8_blame 32 = .ok (.iload_n 1, 1) := by decide +kernel
theorem dX8_blame_33 : decode cX8_blame 33 = .ok (.putfield 159, 3) := by decide +kernel
theorem dX8_blame_36 : decode cX8_blame 36 = .ok (.iload_n 2, 1) := by decide +kernel
theorem dX8_blame_37 : decode cX8_blame 37 = .ok (.aload_n 0, 1) := by decide +kernel
theorem dX8_blame_38 : decode cX8_blame 38 = .ok (.invokevirtual 214, 3) := by decide +kernel
theorem dX8_blame_41 : decode cX8_blame 41 = .ok (.isub, 1) := by decide +kernel
theorem dX8_blame_42 : decode cX8_blame 42 = .ok (.ireturn, 1) := by decide +kernel
theorem dX8_farBy_0 : decode cX8_farBy 0 = .ok (.aload_n 0, 1) := by decide +kernel
theorem dX8_farBy_1 : decode cX8_farBy 1 = .ok (.invokevirtual 191, 3) := by decide +kernel
theorem dX8_farBy_4 : decode cX8_farBy 4 = .ok (.iconst 1, 1) := by decide +kernel
theorem dX8_farBy_5 : decode cX8_farBy 5 = .ok (.istore 6, 2) := by decide +kernel
theorem dX8_farBy_7 : decode cX8_farBy 7 = .ok (.iconst 0, 1) := by decide +kernel
theorem dX8_farBy_8 : decode cX8_farBy 8 = .ok (.istore 7, 2) := by decide +kernel
theorem dX8_farBy_10 : decode cX8_farBy 10 = .ok (.iload 7, 2) := by decide +kernel
theorem dX8_farBy_12 : decode cX8_farBy 12 = .ok (.iload_n 3, 1) := by decide +kernel
theorem dX8_farBy_13 : decode cX8_farBy 13 = .ok (.if_icmp .ge 79, 3) := by decide +kernel
theorem dX8_farBy_16 : decode cX8_farBy 16 = .ok (.aload_n 0, 1) := by decide +kernel
theorem dX8_farBy_17 : decode cX8_farBy 17 = .ok (.invokevirtual 174, 3) := by decide +kernel
theorem dX8_farBy_20 : decode cX8_farBy 20 = .ok (.istore 8, 2) := by decide +kernel
theorem dX8_farBy_22 : decode cX8_farBy 22 = .ok (.aload_n 0, 1) := by decide +kernel
theorem dX8_farBy_23 : decode cX8_farBy 23 = .ok (.getfield 32, 3) := by decide +kernel
theorem dX8_farBy_26 : decode cX8_farBy 26 = .ok (.iload_n 1, 1) := by decide +kernel
theorem dX8_farBy_27 : decode cX8_farBy 27 = .ok (.iload 7, 2) := by decide +kernel
theorem dX8_farBy_29 : decode cX8_farBy 29 = .ok (.iload 5, 2) := by decide +kernel
theorem dX8_farBy_31 : decode cX8_farBy 31 = .ok (.if_icmp .ne 17, 3) := by decide +kernel
theorem dX8_farBy_34 : decode cX8_farBy 34 = .ok (.aload_n 0, 1) := by decide +kernel
theorem dX8_farBy_35 : decode cX8_farBy 35 = .ok (.getfield 32, 3) := by decide +kernel
theorem dX8_farBy_38 : decode cX8_farBy 38 = .ok (.iload_n 1, 1) := by decide +kernel
theorem dX8_farBy_39 : decode cX8_farBy 39 = .ok (.iaload, 1) := by decide +kernel
theorem dX8_farBy_40 : decode cX8_farBy 40 = .ok (.iload_n 2, 1) := by decide +kernel
theorem dX8_farBy_41 : decode cX8_farBy 41 = .ok (.isub, 1) := by decide +kernel
theorem dX8_farBy_42 : decode cX8_farBy 42 = .ok (.invokestatic 165, 3) := by decide +kernel
theorem dX8_farBy_45 : decode cX8_farBy 45 = .ok (.goto 9, 3) := by decide +kernel
theorem dX8_farBy_48 : decode cX8_farBy 48 = .ok (.aload_n 0, 1) := by decide +kernel
theorem dX8_farBy_49 : decode cX8_farBy 49 = .ok (.getfield 32, 3) := by decide +kernel
theorem dX8_farBy_52 : decode cX8_farBy 52 = .ok (.iload_n 1, 1) := by decide +kernel
theorem dX8_farBy_53 : decode cX8_farBy 53 = .ok (.iaload, 1) := by decide +kernel
theorem dX8_farBy_54 : decode cX8_farBy 54 = .ok (.iastore, 1) := by decide +kernel
theorem dX8_farBy_55 : decode cX8_farBy 55 = .ok (.aload_n 0, 1) := by decide +kernel
theorem dX8_farBy_56 : decode cX8_farBy 56 = .ok (.invokevirtual 171, 3) := by decide +kernel
theorem dX8_farBy_59 : decode cX8_farBy 59 = .ok (.iload 6, 2) := by decide +kernel
theorem dX8_farBy_61 : decode cX8_farBy 61 = .ok (.ifCond .eq 22, 3) := by decide +kernel
theorem dX8_farBy_64 : decode cX8_farBy 64 = .ok (.aload_n 0, 1) := by decide +kernel
theorem dX8_farBy_65 : decode cX8_farBy 65 = .ok (.invokevirtual 174, 3) := by decide +kernel
theorem dX8_farBy_68 : decode cX8_farBy 68 = .ok (.iload 8, 2) := by decide +kernel
theorem dX8_farBy_70 : decode cX8_farBy 70 = .ok (.isub, 1) := by decide +kernel
theorem dX8_farBy_71 : decode cX8_farBy 71 = .ok (.invokestatic 221, 3) := by decide +kernel
theorem dX8_farBy_74 : decode cX8_farBy 74 = .ok (.bipush 9, 2) := by decide +kernel
theorem dX8_farBy_76 : decode cX8_farBy 76 = .ok (.if_icmp .gt 7, 3) := by decide +kernel
theorem dX8_farBy_79 : decode cX8_farBy 79 = .ok (.iconst 1, 1) := by decide +kernel
theorem dX8_farBy_80 : decode cX8_farBy 80 = .ok (.goto 4, 3) := by decide +kernel
theorem dX8_farBy_83 : decode cX8_farBy 83 = .ok (.iconst 0, 1) := by decide +kernel
theorem dX8_farBy_84 : decode cX8_farBy 84 = .ok (.istore 6, 2) := by decide +kernel
theorem dX8_farBy_86 : decode cX8_farBy 86 = .ok (.iinc 7 1, 3) := by decide +kernel
theorem dX8_farBy_89 : decode cX8_farBy 89 = .ok (.goto (-79), 3) := by decide +kernel
theorem dX8_farBy_92 : decode cX8_farBy 92 = .ok (.iload 6, 2) := by decide +kernel
theorem dX8_farBy_94 : decode cX8_farBy 94 = .ok (.ifCond .eq 16, 3) := by decide +kernel
theorem dX8_farBy_97 : decode cX8_farBy 97 = .ok (.aload_n 0, 1) := by decide +kernel
theorem dX8_farBy_98 : decode cX8_farBy 98 = .ok (.invokevirtual 174, 3) := by decide +kernel
theorem dX8_farBy_101 : decode cX8_farBy 101 = .ok (.iload 4, 2) := by decide +kernel
theorem dX8_farBy_103 : decode cX8_farBy 103 = .ok (.isub, 1) := by decide +kernel
theorem dX8_farBy_104 : decode cX8_farBy 104 = .ok (.invokestatic 221, 3) := by decide +kernel
theorem dX8_farBy_107 : decode cX8_farBy 107 = .ok (.goto 5, 3) := by decide +kernel
theorem dX8_farBy_110 : decode cX8_farBy 110 = .ok (.ldc 226, 2) := by decide +kernel
theorem dX8_farBy_112 : decode cX8_farBy 112 = .ok (.ireturn, 1) := by decide +kernel
theorem dX8_back_0 : decode cX8_back 0 = .ok (.aload_n 0, 1) := by decide +kernel
theorem dX8_back_1 : decode cX8_back 1 = .ok (.iload_n 1, 1) := by decide +kernel
theorem dX8_back_2 : decode cX8_back 2 = .ok (.invokevirtual 197, 3) := by decide +kernel
theorem dX8_back_5 : decode cX8_back 5 = .ok (.ifCond .eq 42, 3) := by decide +kernel
theorem dX8_back_8 : decode cX8_back 8 = .ok (.iload_n 2, 1) := by decide +kernel
theorem dX8_back_9 : decode cX8_back 9 = .ok (.i2l, 1) := by decide +kernel
theorem dX8_back_10 : decode cX8_back 10 = .ok (.lconst 1, 1) := by decide +kernel
theorem dX8_back_11 : decode cX8_back 11 = .ok (.ldc2_w 208, 3) := by decide +kernel
theorem dX8_back_14 : decode cX8_back 14 = .ok (.invokestatic 60, 3) := by decide +kernel
theorem dX8_back_17 : decode cX8_back 17 = .ok (.ifCond .eq 30, 3) := by decide +kernel
theorem dX8_back_20 : decode cX8_back 20 = .ok (.iload_n 3, 1) := by decide +kernel
theorem dX8_back_21 : decode cX8_back 21 = .ok (.i2l, 1) := by decide +kernel
theorem dX8_back_22 : decode cX8_back 22 = .ok (.lconst 1, 1) := by decide +kernel
theorem dX8_back_23 : decode cX8_back 23 = .ok (.ldc2_w 206, 3) := by decide +kernel
theorem dX8_back_26 : decode cX8_back 26 = .ok (.invokestatic 60, 3) := by decide +kernel
theorem dX8_back_29 : decode cX8_back 29 = .ok (.ifCond .eq 18, 3) := by decide +kernel
theorem dX8_back_32 : decode cX8_back 32 = .ok (.iload 4, 2) := by decide +kernel
theorem dX8_back_34 : decode cX8_back 34 = .ok (.i2l, 1) := by decide +kernel
theorem dX8_back_35 : decode cX8_back 35 = .ok (.ldc2_w 200, 3) := by decide +kernel
theorem dX8_back_38 : decode cX8_back 38 = .ok (.ldc2_w 202, 3) := by decide +kernel
theorem dX8_back_41 : decode cX8_back 41 = .ok (.invokestatic 60, 3) := by decide +kernel
theorem dX8_back_44 : decode cX8_back 44 = .ok (.ifCond .ne 6, 3) := by decide +kernel
theorem dX8_back_47 : decode cX8_back 47 = .ok (.ldc 70, 2) := by decide +kernel
theorem dX8_back_49 : decode cX8_back 49 = .ok (.ireturn, 1) := by decide +kernel
theorem dX8_back_50 : decode cX8_back 50 = .ok (.aload_n 0, 1) := by decide +kernel
theorem dX8_back_51 : decode cX8_back 51 = .ok (.getfield 7, 3) := by decide +kernel
theorem dX8_back_54 : decode cX8_back 54 = .ok (.bipush 21, 2) := by decide +kernel
theorem dX8_back_56 : decode cX8_back 56 = .ok (.iload_n 1, 1) := by decide +kernel
theorem dX8_back_57 : decode cX8_back 57 = .ok (.iadd, 1) := by decide +kernel
theorem dX8_back_58 : decode cX8_back 58 = .ok (.iaload, 1) := by decide +kernel
theorem dX8_back_59 : decode cX8_back 59 = .ok (.iconst 4, 1) := by decide +kernel
theorem dX8_back_60 : decode cX8_back 60 = .ok (.if_icmp .ge 6, 3) := by decide +kernel
theorem dX8_back_63 : decode cX8_back 63 = .ok (.ldc 182, 2) := by decide +kernel
theorem dX8_back_65 : decode cX8_back 65 = .ok (.ireturn, 1) := by decide +kernel
theorem dX8_back_66 : decode cX8_back 66 = .ok (.ldc 220, 2) := by decide +kernel
theorem dX8_back_68 : decode cX8_back 68 = .ok (.istore 5, 2) := by decide +kernel
theorem dX8_back_70 : decode cX8_back 70 = .ok (.ldc 226, 2) := by decide +kernel
theorem dX8_back_72 : decode cX8_back 72 = .ok (.istore 6, 2) := by decide +kernel
theorem dX8_back_74 : decode cX8_back 74 = .ok (.iconst 0, 1) := by decide +kernel
theorem dX8_back_75 : decode cX8_back 75 = .ok (.istore 7, 2) := by decide +kernel
theorem dX8_back_77 : decode cX8_back 77 = .ok (.iload 7, 2) := by decide +kernel
theorem dX8_back_79 : decode cX8_back 79 = .ok (.iload_n 3, 1) := by decide +kernel
theorem dX8_back_80 : decode cX8_back 80 = .ok (.if_icmp .ge 54, 3) := by decide +kernel
theorem dX8_back_83 : decode cX8_back 83 = .ok (.aload_n 0, 1) := by decide +kernel
theorem dX8_back_84 : decode cX8_back 84 = .ok (.iload_n 1, 1) := by decide +kernel
theorem dX8_back_85 : decode cX8_back 85 = .ok (.iload_n 2, 1) := by decide +kernel
theorem dX8_back_86 : decode cX8_back 86 = .ok (.iload_n 3, 1) := by decide +kernel
theorem dX8_back_87 : decode cX8_back 87 = .ok (.iload 4, 2) := by decide +kernel
theorem dX8_back_89 : decode cX8_back 89 = .ok (.iload 7, 2) := by decide +kernel
theorem dX8_back_91 : decode cX8_back 91 = .ok (.invokevirtual 227, 3) := by decide +kernel
theorem dX8_back_94 : decode cX8_back 94 = .ok (.istore 8, 2) := by decide +kernel
theorem dX8_back_96 : decode cX8_back 96 = .ok (.iload 8, 2) := by decide +kernel
theorem dX8_back_98 : decode cX8_back 98 = .ok (.iload 6, 2) := by decide +kernel
theorem dX8_back_100 : decode cX8_back 100 = .ok (.if_icmp .ge 8, 3) := by decide +kernel
theorem dX8_back_103 : decode cX8_back 103 = .ok (.iload 7, 2) := by decide +kernel
theorem dX8_back_105 : decode cX8_back 105 = .ok (.goto 5, 3) := by decide +kernel
theorem dX8_back_108 : decode cX8_back 108 = .ok (.iload 5, 2) := by decide +kernel
theorem dX8_back_110 : decode cX8_back 110 = .ok (.istore 5, 2) := by decide +kernel
theorem dX8_back_112 : decode cX8_back 112 = .ok (.iload 8, 2) := by decide +kernel
theorem dX8_back_114 : decode cX8_back 114 = .ok (.iload 6, 2) := by decide +kernel
theorem dX8_back_116 : decode cX8_back 116 = .ok (.if_icmp .ge 8, 3) := by decide +kernel
theorem dX8_back_119 : decode cX8_back 119 = .ok (.iload 8, 2) := by decide +kernel
theorem dX8_back_121 : decode cX8_back 121 = .ok (.goto 5, 3) := by decide +kernel
theorem dX8_back_124 : decode cX8_back 124 = .ok (.iload 6, 2) := by decide +kernel
theorem dX8_back_126 : decode cX8_back 126 = .ok (.istore 6, 2) := by decide +kernel
theorem dX8_back_128 : decode cX8_back 128 = .ok (.iinc 7 1, 3) := by decide +kernel
theorem dX8_back_131 : decode cX8_back 131 = .ok (.goto (-54), 3) := by decide +kernel
theorem dX8_back_134 : decode cX8_back 134 = .ok (.iload 5, 2) := by decide +kernel
theorem dX8_back_136 : decode cX8_back 136 = .ok (.ireturn, 1) := by decide +kernel
theorem dX8_between_0 : decode cX8_between 0 = .ok (.iconst 0, 1) := by decide +kernel
theorem dX8_between_1 : decode cX8_between 1 = .ok (.istore 4, 2) := by decide +kernel
theorem dX8_between_3 : decode cX8_between 3 = .ok (.iconst 0, 1) := by decide +kernel
theorem dX8_between_4 : decode cX8_between 4 = .ok (.istore 5, 2) := by decide +kernel
theorem dX8_between_6 : decode cX8_between 6 = .ok (.iload_n 3, 1) := by decide +kernel
theorem dX8_between_7 : decode cX8_between 7 = .ok (.istore 6, 2) := by decide +kernel
theorem dX8_between_9 : decode cX8_between 9 = .ok (.iconst (-1), 1) := by decide +kernel
theorem dX8_between_10 : decode cX8_between 10 = .ok (.istore 7, 2) := by decide +kernel
theorem dX8_between_12 : decode cX8_between 12 = .ok (.iconst 0, 1) := by decide +kernel
theorem dX8_between_13 : decode cX8_between 13 = .ok (.istore 8, 2) := by decide +kernel
theorem dX8_between_15 : decode cX8_between 15 = .ok (.iload 8, 2) := by decide +kernel
theorem dX8_between_17 : decode cX8_between 17 = .ok (.iload_n 2, 1) := by decide +kernel
theorem dX8_between_18 : decode cX8_between 18 = .ok (.if_icmp .ge 70, 3) := by decide +kernel
theorem dX8_between_21 : decode cX8_between 21 = .ok (.iload 6, 2) := by decide +kernel
theorem dX8_between_23 : decode cX8_between 23 = .ok (.iload_n 2, 1) := by decide +kernel
theorem dX8_between_24 : decode cX8_between 24 = .ok (.irem, 1) := by decide +kernel
theorem dX8_between_25 : decode cX8_between 25 = .ok (.istore 9, 2) := by decide +kernel
theorem dX8_between_27 : decode cX8_between 27 = .ok (.iload 6, 2) := by decide +kernel
theorem dX8_between_29 : decode cX8_between 29 = .ok (.iload_n 2, 1) := by decide +kernel
theorem dX8_between_30 : decode cX8_between 30 = .ok (.idiv, 1) := by decide +kernel
theorem dX8_between_31 : decode cX8_between 31 = .ok (.istore 6, 2) := by decide +kernel
theorem dX8_between_33 : decode cX8_between 33 = .ok (.iload 4, 2) := by decide +kernel
theorem dX8_between_35 : decode cX8_between 35 = .ok (.iload 7, 2) := by decide +kernel
theorem dX8_between_37 : decode cX8_between 37 = .ok (.ifCond .ge 7, 3) := by decide +kernel
theorem dX8_between_40 : decode cX8_between 40 = .ok (.iconst 0, 1) := by decide +kernel
theorem dX8_between_41 : decode cX8_between 41 = .ok (.goto 25, 3) := by decide +kernel
theorem dX8_between_44 : decode cX8_between 44 = .ok (.aload_n 0, 1) := by decide +kernel
theorem dX8_between_45 : decode cX8_between 45 = .ok (.getfield 23, 3) := by decide +kernel
theorem dX8_between_48 : decode cX8_between 48 = .ok (.iload_n 1, 1) := by decide +kernel
theorem dX8_between_49 : decode cX8_between 49 = .ok (.iload 9, 2) := by decide +kernel
theorem dX8_between_51 : decode cX8_between 51 = .ok (.iadd, 1) := by decide +kernel
theorem dX8_between_52 : decode cX8_between 52 = .ok (.iaload, 1) := by decide +kernel
theorem dX8_between_53 : decode cX8_between 53 = .ok (.aload_n 0, 1) := by decide +kernel
theorem dX8_between_54 : decode cX8_between 54 = .ok (.getfield 23, 3) := by decide +kernel
theorem dX8_between_57 : decode cX8_between 57 = .ok (.iload_n 1, 1) := by decide +kernel
theorem dX8_between_58 : decode cX8_between 58 = .ok (.iload 7, 2) := by decide +kernel
theorem dX8_between_60 : decode cX8_between 60 = .ok (.iadd, 1) := by decide +kernel
theorem dX8_between_61 : decode cX8_between 61 = .ok (.iaload, 1) := by decide +kernel
theorem dX8_between_62 : decode cX8_between 62 = .ok (.isub, 1) := by decide +kernel
theorem dX8_between_63 : decode cX8_between 63 = .ok (.invokestatic 221, 3) := by decide +kernel
theorem dX8_between_66 : decode cX8_between 66 = .ok (.iadd, 1) := by decide +kernel
theorem dX8_between_67 : decode cX8_between 67 = .ok (.istore 4, 2) := by decide +kernel
theorem dX8_between_69 : decode cX8_between 69 = .ok (.iload 9, 2) := by decide +kernel
theorem dX8_between_71 : decode cX8_between 71 = .ok (.istore 7, 2) := by decide +kernel
theorem dX8_between_73 : decode cX8_between 73 = .ok (.iload 5, 2) := by decide +kernel
theorem dX8_between_75 : decode cX8_between 75 = .ok (.iconst 1, 1) := by decide +kernel
theorem dX8_between_76 : decode cX8_between 76 = .ok (.iload 9, 2) := by decide +kernel
theorem dX8_between_78 : decode cX8_between 78 = .ok (.ishl, 1) := by decide +kernel
theorem dX8_between_79 : decode cX8_between 79 = .ok (.ior, 1) := by decide +kernel
theorem dX8_between_80 : decode cX8_between 80 = .ok (.istore 5, 2) := by decide +kernel
theorem dX8_between_82 : decode cX8_between 82 = .ok (.iinc 8 1, 3) := by decide +kernel
theorem dX8_between_85 : decode cX8_between 85 = .ok (.goto (-70), 3) := by decide +kernel
theorem dX8_between_88 : decode cX8_between 88 = .ok (.iload 5, 2) := by decide +kernel
theorem dX8_between_90 : decode cX8_between 90 = .ok (.iconst 1, 1) := by decide +kernel
theorem dX8_between_91 : decode cX8_between 91 = .ok (.iload_n 2, 1) := by decide +kernel
theorem dX8_between_92 : decode cX8_between 92 = .ok (.ishl, 1) := by decide +kernel
theorem dX8_between_93 : decode cX8_between 93 = .ok (.iconst 1, 1) := by decide +kernel
theorem dX8_between_94 : decode cX8_between 94 = .ok (.isub, 1) := by decide +kernel
theorem dX8_between_95 : decode cX8_between 95 = .ok (.if_icmp .ne 8, 3) := by decide +kernel
theorem dX8_between_98 : decode cX8_between 98 = .ok (.iload 4, 2) := by decide +kernel
theorem dX8_between_100 : decode cX8_between 100 = .ok (.goto 5, 3) := by decide +kernel
theorem dX8_between_103 : decode cX8_between 103 = .ok (.ldc 226, 2) := by decide +kernel
theorem dX8_between_105 : decode cX8_between 105 = .ok (.ireturn, 1) := by decide +kernel
theorem dX8_songs_0 : decode cX8_songs 0 = .ok (.iload_n 1, 1) := by decide +kernel
theorem dX8_songs_1 : decode cX8_songs 1 = .ok (.invokestatic 64, 3) := by decide +kernel
theorem dX8_songs_4 : decode cX8_songs 4 = .ok (.ifCond .eq 31, 3) := by decide +kernel
theorem dX8_songs_7 : decode cX8_songs 7 = .ok (.iload_n 3, 1) := by decide +kernel
theorem dX8_songs_8 : decode cX8_songs 8 = .ok (.i2l, 1) := by decide +kernel
theorem dX8_songs_9 : decode cX8_songs 9 = .ok (.lconst 1, 1) := by decide +kernel
theorem dX8_songs_10 : decode cX8_songs 10 = .ok (.ldc2_w 231, 3) := by decide +kernel
theorem dX8_songs_13 : decode cX8_songs 13 = .ok (.invokestatic 60, 3) := by decide +kernel
theorem dX8_songs_16 : decode cX8_songs 16 = .ok (.ifCond .eq 19, 3) := by decide +kernel
theorem dX8_songs_19 : decode cX8_songs 19 = .ok (.iload 4, 2) := by decide +kernel
theorem dX8_songs_21 : decode cX8_songs 21 = .ok (.i2l, 1) := by decide +kernel
theorem dX8_songs_22 : decode cX8_songs 22 = .ok (.ldc2_w 233, 3) := by decide +kernel
theorem dX8_songs_25 : decode cX8_songs 25 = .ok (.iload_n 3, 1) := by decide +kernel
theorem dX8_songs_26 : decode cX8_songs 26 = .ok (.iconst 1, 1) := by decide +kernel
theorem dX8_songs_27 : decode cX8_songs 27 = .ok (.isub, 1) := by decide +kernel
theorem dX8_songs_28 : decode cX8_songs 28 = .ok (.i2l, 1) := by decide +kernel
theorem dX8_songs_29 : decode cX8_songs 29 = .ok (.invokestatic 60, 3) := by decide +kernel
theorem dX8_songs_32 : decode cX8_songs 32 = .ok (.ifCond .ne 6, 3) := by decide +kernel
theorem dX8_songs_35 : decode cX8_songs 35 = .ok (.ldc 70, 2) := by decide +kernel
theorem dX8_songs_37 : decode cX8_songs 37 = .ok (.ireturn, 1) := by decide +kernel
theorem dX8_songs_38 : decode cX8_songs 38 = .ok (.aload_n 0, 1) := by decide +kernel
theorem dX8_songs_39 : decode cX8_songs 39 = .ok (.iload_n 1, 1) := by decide +kernel
theorem dX8_songs_40 : decode cX8_songs 40 = .ok (.iload_n 2, 1) := by decide +kernel
theorem dX8_songs_41 : decode cX8_songs 41 = .ok (.iload_n 3, 1) := by decide +kernel
theorem dX8_songs_42 : decode cX8_songs 42 = .ok (.invokevirtual 78, 3) := by decide +kernel
theorem dX8_songs_45 : decode cX8_songs 45 = .ok (.istore 5, 2) := by decide +kernel
theorem dX8_songs_47 : decode cX8_songs 47 = .ok (.iload 5, 2) := by decide +kernel
theorem dX8_songs_49 : decode cX8_songs 49 = .ok (.ifCond .le 10, 3) := by decide +kernel
theorem dX8_songs_52 : decode cX8_songs 52 = .ok (.aload_n 0, 1) := by decide +kernel
theorem dX8_songs_53 : decode cX8_songs 53 = .ok (.iload 5, 2) := by decide +kernel
theorem dX8_songs_55 : decode cX8_songs 55 = .ok (.invokevirtual 71, 3) := by decide +kernel
theorem dX8_songs_58 : decode cX8_songs 58 = .ok (.ireturn, 1) := by decide +kernel
theorem dX8_songs_59 : decode cX8_songs 59 = .ok (.bipush 40, 2) := by decide +kernel
theorem dX8_songs_61 : decode cX8_songs 61 = .ok (.iload_n 1, 1) := by decide +kernel
theorem dX8_songs_62 : decode cX8_songs 62 = .ok (.imul, 1) := by decide +kernel
theorem dX8_songs_63 : decode cX8_songs 63 = .ok (.iload_n 2, 1) := by decide +kernel
theorem dX8_songs_64 : decode cX8_songs 64 = .ok (.iadd, 1) := by decide +kernel
theorem dX8_songs_65 : decode cX8_songs 65 = .ok (.istore 6, 2) := by decide +kernel
theorem dX8_songs_67 : decode cX8_songs 67 = .ok (.iconst 1, 1) := by decide +kernel
theorem dX8_songs_68 : decode cX8_songs 68 = .ok (.istore 7, 2) := by decide +kernel
theorem dX8_songs_70 : decode cX8_songs 70 = .ok (.iconst 0, 1) := by decide +kernel
theorem dX8_songs_71 : decode cX8_songs 71 = .ok (.istore 8, 2) := by decide +kernel
theorem dX8_songs_73 : decode cX8_songs 73 = .ok (.iload 8, 2) := by decide +kernel
theorem dX8_songs_75 : decode cX8_songs 75 = .ok (.iload_n 3, 1) := by decide +kernel
theorem dX8_songs_76 : decode cX8_songs 76 = .ok (.if_icmp .ge 39, 3) := by decide +kernel
theorem dX8_songs_79 : decode cX8_songs 79 = .ok (.aload_n 0, 1) := by decide +kernel
theorem dX8_songs_80 : decode cX8_songs 80 = .ok (.getfield 23, 3) := by decide +kernel
theorem dX8_songs_83 : decode cX8_songs 83 = .ok (.iload 6, 2) := by decide +kernel
theorem dX8_songs_85 : decode cX8_songs 85 = .ok (.iload 8, 2) := by decide +kernel
theorem dX8_songs_87 : decode cX8_songs 87 = .ok (.iadd, 1) := by decide +kernel
theorem dX8_songs_88 : decode cX8_songs 88 = .ok (.iaload, 1) := by decide +kernel
theorem dX8_songs_89 : decode cX8_songs 89 = .ok (.i2l, 1) := by decide +kernel
theorem dX8_songs_90 : decode cX8_songs 90 = .ok (.lconst 0, 1) := by decide +kernel
theorem dX8_songs_91 : decode cX8_songs 91 = .ok (.ldc2_w 202, 3) := by decide +kernel
theorem dX8_songs_94 : decode cX8_songs 94 = .ok (.invokestatic 60, 3) := by decide +kernel
theorem dX8_songs_97 : decode cX8_songs 97 = .ok (.ifCond .ne 6, 3) := by decide +kernel
theorem dX8_songs_100 : decode cX8_songs 100 = .ok (.ldc 70, 2) := by decide +kernel
theorem dX8_songs_102 : decode cX8_songs 102 = .ok (.ireturn, 1) := by decide +kernel
theorem dX8_songs_103 : decode cX8_songs 103 = .ok (.iload 7, 2) := by decide +kernel
theorem dX8_songs_105 : decode cX8_songs 105 = .ok (.iload_n 3, 1) := by decide +kernel
theorem dX8_songs_106 : decode cX8_songs 106 = .ok (.imul, 1) := by decide +kernel
theorem dX8_songs_107 : decode cX8_songs 107 = .ok (.istore 7, 2) := by decide +kernel
theorem dX8_songs_109 : decode cX8_songs 109 = .ok (.iinc 8 1, 3) := by decide +kernel
theorem dX8_songs_112 : decode cX8_songs 112 = .ok (.goto (-39), 3) := by decide +kernel
theorem dX8_songs_115 : decode cX8_songs 115 = .ok (.iconst 0, 1) := by decide +kernel
theorem dX8_songs_116 : decode cX8_songs 116 = .ok (.istore 8, 2) := by decide +kernel
theorem dX8_songs_118 : decode cX8_songs 118 = .ok (.ldc 226, 2) := by decide +kernel
theorem dX8_songs_120 : decode cX8_songs 120 = .ok (.istore 9, 2) := by decide +kernel
theorem dX8_songs_122 : decode cX8_songs 122 = .ok (.iconst 0, 1) := by decide +kernel
theorem dX8_songs_123 : decode cX8_songs 123 = .ok (.istore 10, 2) := by decide +kernel
theorem dX8_songs_125 : decode cX8_songs 125 = .ok (.iload 10, 2) := by decide +kernel
theorem dX8_songs_127 : decode cX8_songs 127 = .ok (.iload 7, 2) := by decide +kernel
theorem dX8_songs_129 : decode cX8_songs 129 = .ok (.if_icmp .ge 52, 3) := by decide +kernel
theorem dX8_songs_132 : decode cX8_songs 132 = .ok (.aload_n 0, 1) := by decide +kernel
theorem dX8_songs_133 : decode cX8_songs 133 = .ok (.iload 6, 2) := by decide +kernel
theorem dX8_songs_135 : decode cX8_songs 135 = .ok (.iload_n 3, 1) := by decide +kernel
theorem dX8_songs_136 : decode cX8_songs 136 = .ok (.iload 10, 2) := by decide +kernel
theorem dX8_songs_138 : decode cX8_songs 138 = .ok (.invokevirtual 235, 3) := by decide +kernel
theorem dX8_songs_141 : decode cX8_songs 141 = .ok (.istore 11, 2) := by decide +kernel
theorem dX8_songs_143 : decode cX8_songs 143 = .ok (.iload 11, 2) := by decide +kernel
theorem dX8_songs_145 : decode cX8_songs 145 = .ok (.iload 9, 2) := by decide +kernel
theorem dX8_songs_147 : decode cX8_songs 147 = .ok (.if_icmp .ge 8, 3) := by decide +kernel
theorem dX8_songs_150 : decode cX8_songs 150 = .ok (.iload 10, 2) := by decide +kernel
theorem dX8_songs_152 : decode cX8_songs 152 = .ok (.goto 5, 3) := by decide +kernel
theorem dX8_songs_155 : decode cX8_songs 155 = .ok (.iload 8, 2) := by decide +kernel
theorem dX8_songs_157 : decode cX8_songs 157 = .ok (.istore 8, 2) := by decide +kernel
theorem dX8_songs_159 : decode cX8_songs 159 = .ok (.iload 11, 2) := by decide +kernel
theorem dX8_songs_161 : decode cX8_songs 161 = .ok (.iload 9, 2) := by decide +kernel
theorem dX8_songs_163 : decode cX8_songs 163 = .ok (.if_icmp .ge 8, 3) := by decide +kernel
theorem dX8_songs_166 : decode cX8_songs 166 = .ok (.iload 11, 2) := by decide +kernel
theorem dX8_songs_168 : decode cX8_songs 168 = .ok (.goto 5, 3) := by decide +kernel
theorem dX8_songs_171 : decode cX8_songs 171 = .ok (.iload 9, 2) := by decide +kernel
theorem dX8_songs_173 : decode cX8_songs 173 = .ok (.istore 9, 2) := by decide +kernel
theorem dX8_songs_175 : decode cX8_songs 175 = .ok (.iinc 10 1, 3) := by decide +kernel
theorem dX8_songs_178 : decode cX8_songs 178 = .ok (.goto (-53), 3) := by decide +kernel
theorem dX8_songs_181 : decode cX8_songs 181 = .ok (.iload 7, 2) := by decide +kernel
theorem dX8_songs_183 : decode cX8_songs 183 = .ok (.istore 10, 2) := by decide +kernel
theorem dX8_songs_185 : decode cX8_songs 185 = .ok (.iconst 0, 1) := by decide +kernel
theorem dX8_songs_186 : decode cX8_songs 186 = .ok (.istore 11, 2) := by decide +kernel
theorem dX8_songs_188 : decode cX8_songs 188 = .ok (.iload 11, 2) := by decide +kernel
theorem dX8_songs_190 : decode cX8_songs 190 = .ok (.iload 4, 2) := by decide +kernel
theorem dX8_songs_192 : decode cX8_songs 192 = .ok (.if_icmp .gt 15, 3) := by decide +kernel
theorem dX8_songs_195 : decode cX8_songs 195 = .ok (.iload 10, 2) := by decide +kernel
theorem dX8_songs_197 : decode cX8_songs 197 = .ok (.iload_n 3, 1) := by decide +kernel
theorem dX8_songs_198 : decode cX8_songs 198 = .ok (.idiv, 1) := by decide +kernel
theorem dX8_songs_199 : decode cX8_songs 199 = .ok (.istore 10, 2) := by decide +kernel
theorem dX8_songs_201 : decode cX8_songs 201 = .ok (.iinc 11 1, 3) := by decide +kernel
theorem dX8_songs_204 : decode cX8_songs 204 = .ok (.goto (-16), 3) := by decide +kernel
theorem dX8_songs_207 : decode cX8_songs 207 = .ok (.aload_n 0, 1) := by decide +kernel
theorem dX8_songs_208 : decode cX8_songs 208 = .ok (.iload 4, 2) := by decide +kernel
theorem dX8_songs_210 : decode cX8_songs 210 = .ok (.ifCond .ge 8, 3) := by decide +kernel
theorem dX8_songs_213 : decode cX8_songs 213 = .ok (.iload 9, 2) := by decide +kernel
theorem dX8_songs_215 : decode cX8_songs 215 = .ok (.goto 10, 3) := by decide +kernel
theorem dX8_songs_218 : decode cX8_songs 218 = .ok (.iload 8, 2) := by decide +kernel
theorem dX8_songs_220 : decode cX8_songs 220 = .ok (.iload 10, 2) := by decide +kernel
theorem dX8_songs_222 : decode cX8_songs 222 = .ok (.idiv, 1) := by decide +kernel
theorem dX8_songs_223 : decode cX8_songs 223 = .ok (.iload_n 3, 1) := by decide +kernel
theorem dX8_songs_224 : decode cX8_songs 224 = .ok (.irem, 1) := by decide +kernel
theorem dX8_songs_225 : decode cX8_songs 225 = .ok (.invokevirtual 75, 3) := by decide +kernel
theorem dX8_songs_228 : decode cX8_songs 228 = .ok (.ireturn, 1) := by decide +kernel
theorem dX8_clapped_0 : decode cX8_clapped 0 = .ok (.aload_n 0, 1) := by decide +kernel
theorem dX8_clapped_1 : decode cX8_clapped 1 = .ok (.invokevirtual 183, 3) := by decide +kernel
theorem dX8_clapped_4 : decode cX8_clapped 4 = .ok (.ifCond .eq 6, 3) := by decide +kernel
theorem dX8_clapped_7 : decode cX8_clapped 7 = .ok (.ldc 182, 2) := by decide +kernel
theorem dX8_clapped_9 : decode cX8_clapped 9 = .ok (.ireturn, 1) := by decide +kernel
theorem dX8_clapped_10 : decode cX8_clapped 10 = .ok (.iload_n 1, 1) := by decide +kernel
theorem dX8_clapped_11 : decode cX8_clapped 11 = .ok (.i2l, 1) := by decide +kernel
theorem dX8_clapped_12 : decode cX8_clapped 12 = .ok (.lconst 1, 1) := by decide +kernel
theorem dX8_clapped_13 : decode cX8_clapped 13 = .ok (.ldc2_w 208, 3) := by decide +kernel
theorem dX8_clapped_16 : decode cX8_clapped 16 = .ok (.invokestatic 60, 3) := by decide +kernel
theorem dX8_clapped_19 : decode cX8_clapped 19 = .ok (.ifCond .eq 15, 3) := by decide +kernel
theorem dX8_clapped_22 : decode cX8_clapped 22 = .ok (.iload_n 2, 1) := by decide +kernel
theorem dX8_clapped_23 : decode cX8_clapped 23 = .ok (.i2l, 1) := by decide +kernel
theorem dX8_clapped_24 : decode cX8_clapped 24 = .ok (.lconst 0, 1) := by decide +kernel
theorem dX8_clapped_25 : decode cX8_clapped 25 = .ok (.ldc2_w 212, 3) := by decide +kernel
theorem dX8_clapped_28 : decode cX8_clapped 28 = .ok (.invokestatic 60, 3) := by decide +kernel
theorem dX8_clapped_31 : decode cX8_clapped 31 = .ok (.ifCond .ne 6, 3) := by decide +kernel
theorem dX8_clapped_34 : decode cX8_clapped 34 = .ok (.ldc 70, 2) := by decide +kernel
theorem dX8_clapped_36 : decode cX8_clapped 36 = .ok (.ireturn, 1) := by decide +kernel
theorem dX8_clapped_37 : decode cX8_clapped 37 = .ok (.aload_n 0, 1) := by decide +kernel
theorem dX8_clapped_38 : decode cX8_clapped 38 = .ok (.invokevirtual 191, 3) := by decide +kernel
theorem dX8_clapped_41 : decode cX8_clapped 41 = .ok (.aload_n 0, 1) := by decide +kernel
theorem dX8_clapped_42 : decode cX8_clapped 42 = .ok (.iload_n 2, 1) := by decide +kernel
theorem dX8_clapped_43 : decode cX8_clapped 43 = .ok (.invokevirtual 178, 3) := by decide +kernel
theorem dX8_clapped_46 : decode cX8_clapped 46 = .ok (.aload_n 0, 1) := by decide +kernel
theorem dX8_clapped_47 : decode cX8_clapped 47 = .ok (.invokevirtual 174, 3) := by decide +kernel
theorem dX8_clapped_50 : decode cX8_clapped 50 = .ok (.istore_n 3, 1) := by decide +kernel
theorem dX8_clapped_51 : decode cX8_clapped 51 = .ok (.aload_n 0, 1) := by decide +kernel
theorem dX8_clapped_52 : decode cX8_clapped 52 = .ok (.invokevirtual 191, 3) := by decide +kernel
theorem dX8_clapped_55 : decode cX8_clapped 55 = .ok (.iconst 0, 1) := by decide +kernel
theorem dX8_clapped_56 : decode cX8_clapped 56 = .ok (.istore 4, 2) := by decide +kernel
theorem dX8_clapped_58 : decode cX8_clapped 58 = .ok (.iload 4, 2) := by decide +kernel
theorem dX8_clapped_60 : decode cX8_clapped 60 = .ok (.aload_n 0, 1) := by decide +kernel
theorem dX8_clapped_61 : decode cX8_clapped 61 = .ok (.getfield 7, 3) := by decide +kernel
theorem dX8_clapped_64 : decode cX8_clapped 64 = .ok (.iconst 5, 1) := by decide +kernel
theorem dX8_clapped_65 : decode cX8_clapped 65 = .ok (.iaload, 1) := by decide +kernel
theorem dX8_clapped_66 : decode cX8_clapped 66 = .ok (.if_icmp .ge 28, 3) := by decide +kernel
theorem dX8_clapped_69 : decode cX8_clapped 69 = .ok (.aload_n 0, 1) := by decide +kernel
theorem dX8_clapped_70 : decode cX8_clapped 70 = .ok (.getfield 32, 3) := by decide +kernel
theorem dX8_clapped_73 : decode cX8_clapped 73 = .ok (.iload 4, 2) := by decide +kernel
theorem dX8_clapped_75 : decode cX8_clapped 75 = .ok (.aload_n 0, 1) := by decide +kernel
theorem dX8_clapped_76 : decode cX8_clapped 76 = .ok (.getfield 32, 3) := by decide +kernel
theorem dX8_clapped_79 : decode cX8_clapped 79 = .ok (.iload 4, 2) := by decide +kernel
theorem dX8_clapped_81 : decode cX8_clapped 81 = .ok (.iaload, 1) := by decide +kernel
theorem dX8_clapped_82 : decode cX8_clapped 82 = .ok (.iload_n 1, 1) := by decide +kernel
theorem dX8_clapped_83 : decode cX8_clapped 83 = .ok (.iadd, 1) := by decide +kernel
theorem dX8_clapped_84 : decode cX8_clapped 84 = .ok (.invokestatic 165, 3) := by decide +kernel
theorem dX8_clapped_87 : decode cX8_clapped 87 = .ok (.iastore, 1) := by decide +kernel
theorem dX8_clapped_88 : decode cX8_clapped 88 = .ok (.iinc 4 1, 3) := by decide +kernel
theorem dX8_clapped_91 : decode cX8_clapped 91 = .ok (.goto (-33), 3) := by decide +kernel
theorem dX8_clapped_94 : decode cX8_clapped 94 = .ok (.aload_n 0, 1) := by decide +kernel
theorem dX8_clapped_95 : decode cX8_clapped 95 = .ok (.iload_n 2, 1) := by decide +kernel
theorem dX8_clapped_96 : decode cX8_clapped 96 = .ok (.invokevirtual 178, 3) := by decide +kernel
theorem dX8_clapped_99 : decode cX8_clapped 99 = .ok (.aload_n 0, 1) := by decide +kernel
theorem dX8_clapped_100 : decode cX8_clapped 100 = .ok (.invokevirtual 174, 3) := by decide +kernel
theorem dX8_clapped_103 : decode cX8_clapped 103 = .ok (.iload_n 3, 1) := by decide +kernel
theorem dX8_clapped_104 : decode cX8_clapped 104 = .ok (.isub, 1) := by decide +kernel
theorem dX8_clapped_105 : decode cX8_clapped 105 = .ok (.ireturn, 1) := by decide +kernel
theorem dX8_pushBy_0 : decode cX8_pushBy 0 = .ok (.iconst 0, 1) := by decide +kernel
theorem dX8_pushBy_1 : decode cX8_pushBy 1 = .ok (.istore_n 3, 1) := by decide +kernel
theorem dX8_pushBy_2 : decode cX8_pushBy 2 = .ok (.bipush 20, 2) := by decide +kernel
theorem dX8_pushBy_4 : decode cX8_pushBy 4 = .ok (.istore 4, 2) := by decide +kernel
theorem dX8_pushBy_6 : decode cX8_pushBy 6 = .ok (.iload 4, 2) := by decide +kernel
theorem dX8_pushBy_8 : decode cX8_pushBy 8 = .ok (.ifCond .le 94, 3) := by decide +kernel
theorem dX8_pushBy_11 : decode cX8_pushBy 11 = .ok (.aload_n 0, 1) := by decide +kernel
theorem dX8_pushBy_12 : decode cX8_pushBy 12 = .ok (.invokevirtual 191, 3) := by decide +kernel
theorem dX8_pushBy_15 : decode cX8_pushBy 15 = .ok (.aload_n 0, 1) := by decide +kernel
theorem dX8_pushBy_16 : decode cX8_pushBy 16 = .ok (.getfield 41, 3) := by decide +kernel
theorem dX8_pushBy_19 : decode cX8_pushBy 19 = .ok (.iload_n 1, 1) := by decide +kernel
theorem dX8_pushBy_20 : decode cX8_pushBy 20 = .ok (.dup2, 1) := by decide +kernel
theorem dX8_pushBy_21 : decode cX8_pushBy 21 = .ok (.iaload, 1) := by decide +kernel
theorem dX8_pushBy_22 : decode cX8_pushBy 22 = .ok (.iload 4, 2) := by decide +kernel
theorem dX8_pushBy_24 : decode cX8_pushBy 24 = .ok (.iadd, 1) := by decide +kernel
theorem dX8_pushBy_25 : decode cX8_pushBy 25 = .ok (.iastore, 1) := by decide +kernel
theorem dX8_pushBy_26 : decode cX8_pushBy 26 = .ok (.aload_n 0, 1) := by decide +kernel
theorem dX8_pushBy_27 : decode cX8_pushBy 27 = .ok (.invokevirtual 171, 3) := by decide +kernel
theorem dX8_pushBy_30 : decode cX8_pushBy 30 = .ok (.iconst 1, 1) := by decide +kernel
theorem dX8_pushBy_31 : decode cX8_pushBy 31 = .ok (.istore 5, 2) := by decide +kernel
theorem dX8_pushBy_33 : decode cX8_pushBy 33 = .ok (.iconst 0, 1) := by decide +kernel
theorem dX8_pushBy_34 : decode cX8_pushBy 34 = .ok (.istore 6, 2) := by decide +kernel
theorem dX8_pushBy_36 : decode cX8_pushBy 36 = .ok (.iload 6, 2) := by decide +kernel
theorem dX8_pushBy_38 : decode cX8_pushBy 38 = .ok (.aload_n 0, 1) := by decide +kernel
theorem dX8_pushBy_39 : decode cX8_pushBy 39 = .ok (.getfield 7, 3) := by decide +kernel
theorem dX8_pushBy_42 : decode cX8_pushBy 42 = .ok (.iconst 5, 1) := by decide +kernel
theorem dX8_pushBy_43 : decode cX8_pushBy 43 = .ok (.iaload, 1) := by decide +kernel
theorem dX8_pushBy_44 : decode cX8_pushBy 44 = .ok (.if_icmp .ge 40, 3) := by decide +kernel
theorem dX8_pushBy_47 : decode cX8_pushBy 47 = .ok (.iload 5, 2) := by decide +kernel
theorem dX8_pushBy_49 : decode cX8_pushBy 49 = .ok (.ifCond .eq 26, 3) := by decide +kernel
theorem dX8_pushBy_52 : decode cX8_pushBy 52 = .ok (.aload_n 0, 1) := by decide +kernel
theorem dX8_pushBy_53 : decode cX8_pushBy 53 = .ok (.getfield 32, 3) := by decide +kernel
theorem dX8_pushBy_56 : decode cX8_pushBy 56 = .ok (.iload 6, 2) := by decide +kernel
theorem dX8_pushBy_58 : decode cX8_pushBy 58 = .ok (.iaload, 1) := by decide +kernel
theorem dX8_pushBy_59 : decode cX8_pushBy 59 = .ok (.aload_n 0, 1) := by decide +kernel
theorem dX8_pushBy_60 : decode cX8_pushBy 60 = .ok (.getfield 23, 3) := by decide +kernel
theorem dX8_pushBy_63 : decode cX8_pushBy 63 = .ok (.iload_n 2, 1) := by decide +kernel
theorem dX8_pushBy_64 : decode cX8_pushBy 64 = .ok (.iload 6, 2) := by decide +kernel
theorem dX8_pushBy_66 : decode cX8_pushBy 66 = .ok (.iadd, 1) := by decide +kernel
theorem dX8_pushBy_67 : decode cX8_pushBy 67 = .ok (.iaload, 1) := by decide +kernel
theorem dX8_pushBy_68 : decode cX8_pushBy 68 = .ok (.if_icmp .ne 7, 3) := by decide +kernel
theorem dX8_pushBy_71 : decode cX8_pushBy 71 = .ok (.iconst 1, 1) := by decide +kernel
theorem dX8_pushBy_72 : decode cX8_pushBy 72 = .ok (.goto 4, 3) := by decide +kernel
theorem dX8_pushBy_75 : decode cX8_pushBy 75 = .ok (.iconst 0, 1) := by decide +kernel
theorem dX8_pushBy_76 : decode cX8_pushBy 76 = .ok (.istore 5, 2) := by decide +kernel
theorem dX8_pushBy_78 : decode cX8_pushBy 78 = .ok (.iinc 6 1, 3) := by decide +kernel
theorem dX8_pushBy_81 : decode cX8_pushBy 81 = .ok (.goto (-45), 3) := by decide +kernel
theorem dX8_pushBy_84 : decode cX8_pushBy 84 = .ok (.iload 5, 2) := by decide +kernel
theorem dX8_pushBy_86 : decode cX8_pushBy 86 = .ok (.ifCond .eq 8, 3) := by decide +kernel
theorem dX8_pushBy_89 : decode cX8_pushBy 89 = .ok (.iload 4, 2) := by decide +kernel
theorem dX8_pushBy_91 : decode cX8_pushBy 91 = .ok (.goto 4, 3) := by decide +kernel
theorem dX8_pushBy_94 : decode cX8_pushBy 94 = .ok (.iload_n 3, 1) := by decide +kernel
theorem dX8_pushBy_95 : decode cX8_pushBy 95 = .ok (.istore_n 3, 1) := by decide +kernel
theorem dX8_pushBy_96 : decode cX8_pushBy 96 = .ok (.iinc 4 (-1), 3) := by decide +kernel
theorem dX8_pushBy_99 : decode cX8_pushBy 99 = .ok (.goto (-93), 3) := by decide +kernel
theorem dX8_pushBy_102 : decode cX8_pushBy 102 = .ok (.iload_n 3, 1) := by decide +kernel
theorem dX8_pushBy_103 : decode cX8_pushBy 103 = .ok (.ireturn, 1) := by decide +kernel
theorem dX8_whoPushed_0 : decode cX8_whoPushed 0 = .ok (.aload_n 0, 1) := by decide +kernel
theorem dX8_whoPushed_1 : decode cX8_whoPushed 1 = .ok (.invokevirtual 183, 3) := by decide +kernel
theorem dX8_whoPushed_4 : decode cX8_whoPushed 4 = .ok (.ifCond .eq 6, 3) := by decide +kernel
theorem dX8_whoPushed_7 : decode cX8_whoPushed 7 = .ok (.ldc 182, 2) := by decide +kernel
theorem dX8_whoPushed_9 : decode cX8_whoPushed 9 = .ok (.ireturn, 1) := by decide +kernel
theorem dX8_whoPushed_10 : decode cX8_whoPushed 10 = .ok (.iload_n 1, 1) := by decide +kernel
theorem dX8_whoPushed_11 : decode cX8_whoPushed 11 = .ok (.invokestatic 64, 3) := by decide +kernel
theorem dX8_whoPushed_14 : decode cX8_whoPushed 14 = .ok (.ifCond .eq 13, 3) := by decide +kernel
theorem dX8_whoPushed_17 : decode cX8_whoPushed 17 = .ok (.iload_n 3, 1) := by decide +kernel
theorem dX8_whoPushed_18 : decode cX8_whoPushed 18 = .ok (.i2l, 1) := by decide +kernel
theorem dX8_whoPushed_19 : decode cX8_whoPushed 19 = .ok (.lconst 0, 1) := by decide +kernel
theorem dX8_whoPushed_20 : decode cX8_whoPushed 20 = .ok (.lconst 1, 1) := by decide +kernel
theorem dX8_whoPushed_21 : decode cX8_whoPushed 21 = .ok (.invokestatic 60, 3) := by decide +kernel
theorem dX8_whoPushed_24 : decode cX8_whoPushed 24 = .ok (.ifCond .ne 6, 3) := by decide +kernel
theorem dX8_whoPushed_27 : decode cX8_whoPushed 27 = .ok (.ldc 70, 2) := by decide +kernel
theorem dX8_whoPushed_29 : decode cX8_whoPushed 29 = .ok (.ireturn, 1) := by decide +kernel
theorem dX8_whoPushed_30 : decode cX8_whoPushed 30 = .ok (.aload_n 0, 1) := by decide +kernel
theorem dX8_whoPushed_31 : decode cX8_whoPushed 31 = .ok (.iload_n 1, 1) := by decide +kernel
theorem dX8_whoPushed_32 : decode cX8_whoPushed 32 = .ok (.iload_n 2, 1) := by decide +kernel
theorem dX8_whoPushed_33 : decode cX8_whoPushed 33 = .ok (.aload_n 0, 1) := by decide +kernel
theorem dX8_whoPushed_34 : decode cX8_whoPushed 34 = .ok (.getfield 7, 3) := by decide +kernel
theorem dX8_whoPushed_37 : decode cX8_whoPushed 37 = .ok (.iconst 5, 1) := by decide +kernel
theorem dX8_whoPushed_38 : decode cX8_whoPushed 38 = .ok (.iaload, 1) := by decide +kernel
theorem dX8_whoPushed_39 : decode cX8_whoPushed 39 = .ok (.invokevirtual 78, 3) := by decide +kernel
theorem dX8_whoPushed_42 : decode cX8_whoPushed 42 = .ok (.istore 4, 2) := by decide +kernel
theorem dX8_whoPushed_44 : decode cX8_whoPushed 44 = .ok (.iload 4, 2) := by decide +kernel
theorem dX8_whoPushed_46 : decode cX8_whoPushed 46 = .ok (.ifCond .le 10, 3) := by decide +kernel
theorem dX8_whoPushed_49 : decode cX8_whoPushed 49 = .ok (.aload_n 0, 1) := by decide +kernel
theorem dX8_whoPushed_50 : decode cX8_whoPushed 50 = .ok (.iload 4, 2) := by decide +kernel
theorem dX8_whoPushed_52 : decode cX8_whoPushed 52 = .ok (.invokevirtual 71, 3) := by decide +kernel
theorem dX8_whoPushed_55 : decode cX8_whoPushed 55 = .ok (.ireturn, 1) := by decide +kernel
theorem dX8_whoPushed_56 : decode cX8_whoPushed 56 = .ok (.iconst 0, 1) := by decide +kernel
theorem dX8_whoPushed_57 : decode cX8_whoPushed 57 = .ok (.istore 5, 2) := by decide +kernel
theorem dX8_whoPushed_59 : decode cX8_whoPushed 59 = .ok (.ldc 220, 2) := by decide +kernel
theorem dX8_whoPushed_61 : decode cX8_whoPushed 61 = .ok (.istore 6, 2) := by decide +kernel
theorem dX8_whoPushed_63 : decode cX8_whoPushed 63 = .ok (.aload_n 0, 1) := by decide +kernel
theorem dX8_whoPushed_64 : decode cX8_whoPushed 64 = .ok (.getfield 7, 3) := by decide +kernel
theorem dX8_whoPushed_67 : decode cX8_whoPushed 67 = .ok (.iconst 5, 1) := by decide +kernel
theorem dX8_whoPushed_68 : decode cX8_whoPushed 68 = .ok (.iaload, 1) := by decide +kernel
theorem dX8_whoPushed_69 : decode cX8_whoPushed 69 = .ok (.iconst 1, 1) := by decide +kernel
theorem dX8_whoPushed_70 : decode cX8_whoPushed 70 = .ok (.isub, 1) := by decide +kernel
theorem dX8_whoPushed_71 : decode cX8_whoPushed 71 = .ok (.istore 7, 2) := by decide +kernel
theorem dX8_whoPushed_73 : decode cX8_whoPushed 73 = .ok (.iload 7, 2) := by decide +kernel
theorem dX8_whoPushed_75 : decode cX8_whoPushed 75 = .ok (.ifCond .lt 55, 3) := by decide +kernel
theorem dX8_whoPushed_78 : decode cX8_whoPushed 78 = .ok (.aload_n 0, 1) := by decide +kernel
theorem dX8_whoPushed_79 : decode cX8_whoPushed 79 = .ok (.iload 7, 2) := by decide +kernel
theorem dX8_whoPushed_81 : decode cX8_whoPushed 81 = .ok (.bipush 40, 2) := by decide +kernel
theorem dX8_whoPushed_83 : decode cX8_whoPushed 83 = .ok (.iload_n 1, 1) := by decide +kernel
theorem dX8_whoPushed_84 : decode cX8_whoPushed 84 = .ok (.imul, 1) := by decide +kernel
theorem dX8_whoPushed_85 : decode cX8_whoPushed 85 = .ok (.iload_n 2, 1) := by decide +kernel
theorem dX8_whoPushed_86 : decode cX8_whoPushed 86 = .ok (.iadd, 1) := by decide +kernel
theorem dX8_whoPushed_87 : decode cX8_whoPushed 87 = .ok (.invokevirtual 238, 3) := by decide +kernel
theorem dX8_whoPushed_90 : decode cX8_whoPushed 90 = .ok (.istore 8, 2) := by decide +kernel
theorem dX8_whoPushed_92 : decode cX8_whoPushed 92 = .ok (.iload 5, 2) := by decide +kernel
theorem dX8_whoPushed_94 : decode cX8_whoPushed 94 = .ok (.iload 8, 2) := by decide +kernel
theorem dX8_whoPushed_96 : decode cX8_whoPushed 96 = .ok (.ifCond .le 10, 3) := by decide +kernel
theorem dX8_whoPushed_99 : decode cX8_whoPushed 99 = .ok (.iconst 1, 1) := by decide +kernel
theorem dX8_whoPushed_100 : decode cX8_whoPushed 100 = .ok (.iload 7, 2) := by decide +kernel
theorem dX8_whoPushed_102 : decode cX8_whoPushed 102 = .ok (.ishl, 1) := by decide +kernel
theorem dX8_whoPushed_103 : decode cX8_whoPushed 103 = .ok (.goto 4, 3) := by decide +kernel
theorem dX8_whoPushed_106 : decode cX8_whoPushed 106 = .ok (.iconst 0, 1) := by decide +kernel
theorem dX8_whoPushed_107 : decode cX8_whoPushed 107 = .ok (.ior, 1) := by decide +kernel
theorem dX8_whoPushed_108 : decode cX8_whoPushed 108 = .ok (.istore 5, 2) := by decide +kernel
theorem dX8_whoPushed_110 : decode cX8_whoPushed 110 = .ok (.iload 8, 2) := by decide +kernel
theorem dX8_whoPushed_112 : decode cX8_whoPushed 112 = .ok (.ifCond .le 8, 3) := by decide +kernel
theorem dX8_whoPushed_115 : decode cX8_whoPushed 115 = .ok (.iload 8, 2) := by decide +kernel
theorem dX8_whoPushed_117 : decode cX8_whoPushed 117 = .ok (.goto 5, 3) := by decide +kernel
theorem dX8_whoPushed_120 : decode cX8_whoPushed 120 = .ok (.iload 6, 2) := by decide +kernel
theorem dX8_whoPushed_122 : decode cX8_whoPushed 122 = .ok (.istore 6, 2) := by decide +kernel
theorem dX8_whoPushed_124 : decode cX8_whoPushed 124 = .ok (.iinc 7 (-1), 3) := by decide +kernel
theorem dX8_whoPushed_127 : decode cX8_whoPushed 127 = .ok (.goto (-54), 3) := by decide +kernel
theorem dX8_whoPushed_130 : decode cX8_whoPushed 130 = .ok (.aload_n 0, 1) := by decide +kernel
theorem dX8_whoPushed_131 : decode cX8_whoPushed 131 = .ok (.iload_n 3, 1) := by decide +kernel
theorem dX8_whoPushed_132 : decode cX8_whoPushed 132 = .ok (.ifCond .ne 8, 3) := by decide +kernel
theorem dX8_whoPushed_135 : decode cX8_whoPushed 135 = .ok (.iload 5, 2) := by decide +kernel
theorem dX8_whoPushed_137 : decode cX8_whoPushed 137 = .ok (.goto 5, 3) := by decide +kernel
theorem dX8_whoPushed_140 : decode cX8_whoPushed 140 = .ok (.iload 6, 2) := by decide +kernel
theorem dX8_whoPushed_142 : decode cX8_whoPushed 142 = .ok (.invokevirtual 75, 3) := by decide +kernel
theorem dX8_whoPushed_145 : decode cX8_whoPushed 145 = .ok (.ireturn, 1) := by decide +kernel
theorem dX8_night_0 : decode cX8_night 0 = .ok (.aload_n 0, 1) := by decide +kernel
theorem dX8_night_1 : decode cX8_night 1 = .ok (.invokevirtual 183, 3) := by decide +kernel
theorem dX8_night_4 : decode cX8_night 4 = .ok (.ifCond .eq 6, 3) := by decide +kernel
theorem dX8_night_7 : decode cX8_night 7 = .ok (.ldc 182, 2) := by decide +kernel
theorem dX8_night_9 : decode cX8_night 9 = .ok (.ireturn, 1) := by decide +kernel
theorem dX8_night_10 : decode cX8_night 10 = .ok (.iload_n 1, 1) := by decide +kernel
theorem dX8_night_11 : decode cX8_night 11 = .ok (.i2l, 1) := by decide +kernel
theorem dX8_night_12 : decode cX8_night 12 = .ok (.lconst 0, 1) := by decide +kernel
theorem dX8_night_13 : decode cX8_night 13 = .ok (.ldc2_w 241, 3) := by decide +kernel
theorem dX8_night_16 : decode cX8_night 16 = .ok (.invokestatic 60, 3) := by decide +kernel
theorem dX8_night_19 : decode cX8_night 19 = .ok (.ifCond .eq 25, 3) := by decide +kernel
theorem dX8_night_22 : decode cX8_night 22 = .ok (.iload_n 2, 1) := by decide +kernel
theorem dX8_night_23 : decode cX8_night 23 = .ok (.i2l, 1) := by decide +kernel
theorem dX8_night_24 : decode cX8_night 24 = .ok (.lconst 1, 1) := by decide +kernel
theorem dX8_night_25 : decode cX8_night 25 = .ok (.ldc2_w 243, 3) := by decide +kernel
theorem dX8_night_28 : decode cX8_night 28 = .ok (.invokestatic 60, 3) := by decide +kernel
theorem dX8_night_31 : decode cX8_night 31 = .ok (.ifCond .eq 13, 3) := by decide +kernel
theorem dX8_night_34 : decode cX8_night 34 = .ok (.iload_n 3, 1) := by decide +kernel
theorem dX8_night_35 : decode cX8_night 35 = .ok (.i2l, 1) := by decide +kernel
theorem dX8_night_36 : decode cX8_night 36 = .ok (.lconst 0, 1) := by decide +kernel
theorem dX8_night_37 : decode cX8_night 37 = .ok (.lconst 1, 1) := by decide +kernel
theorem dX8_night_38 : decode cX8_night 38 = .ok (.invokestatic 60, 3) := by decide +kernel
theorem dX8_night_41 : decode cX8_night 41 = .ok (.ifCond .ne 6, 3) := by decide +kernel
theorem dX8_night_44 : decode cX8_night 44 = .ok (.ldc 70, 2) := by decide +kernel
theorem dX8_night_46 : decode cX8_night 46 = .ok (.ireturn, 1) := by decide +kernel
theorem dX8_night_47 : decode cX8_night 47 = .ok (.aload_n 0, 1) := by decide +kernel
theorem dX8_night_48 : decode cX8_night 48 = .ok (.invokevirtual 191, 3) := by decide +kernel
theorem dX8_night_51 : decode cX8_night 51 = .ok (.iload_n 2, 1) := by decide +kernel
theorem dX8_night_52 : decode cX8_night 52 = .ok (.i2l, 1) := by decide +kernel
theorem dX8_night_53 : decode cX8_night 53 = .ok (.lstore 4, 2) := by decide +kernel
theorem dX8_night_55 : decode cX8_night 55 = .ok (.iconst 0, 1) := by decide +kernel
theorem dX8_night_56 : decode cX8_night 56 = .ok (.istore 6, 2) := by decide +kernel
theorem dX8_night_58 : decode cX8_night 58 = .ok (.iconst 0, 1) := by decide +kernel
theorem dX8_night_59 : decode cX8_night 59 = .ok (.istore 7, 2) := by decide +kernel
theorem dX8_night_61 : decode cX8_night 61 = .ok (.iload 7, 2) := by decide +kernel
theorem dX8_night_63 : decode cX8_night 63 = .ok (.iload_n 1, 1) := by decide +kernel
theorem dX8_night_64 : decode cX8_night 64 = .ok (.if_icmp .ge 103, 3) := by decide +kernel
theorem dX8_night_67 : decode cX8_night 67 = .ok (.aload_n 0, 1) := by decide +kernel
theorem dX8_night_68 : decode cX8_night 68 = .ok (.invokevirtual 174, 3) := by decide +kernel
theorem dX8_night_71 : decode cX8_night 71 = .ok (.istore 8, 2) := by decide +kernel
theorem dX8_night_73 : decode cX8_night 73 = .ok (.iconst 0, 1) := by decide +kernel
theorem dX8_night_74 : decode cX8_night 74 = .ok (.istore 9, 2) := by decide +kernel
theorem dX8_night_76 : decode cX8_night 76 = .ok (.iload 9, 2) := by decide +kernel
theorem dX8_night_78 : decode cX8_night 78 = .ok (.aload_n 0, 1) := by decide +kernel
theorem dX8_night_79 : decode cX8_night 79 = .ok (.getfield 7, 3) := by decide +kernel
theorem dX8_night_82 : decode cX8_night 82 = .ok (.iconst 5, 1) := by decide +kernel
theorem dX8_night_83 : decode cX8_night 83 = .ok (.iaload, 1) := by decide +kernel
theorem dX8_night_84 : decode cX8_night 84 = .ok (.if_icmp .ge 48, 3) := by decide +kernel
theorem dX8_night_87 : decode cX8_night 87 = .ok (.lload 4, 2) := by decide +kernel
theorem dX8_night_89 : decode cX8_night 89 = .ok (.ldc2_w 245, 3) := by decide +kernel
theorem dX8_night_92 : decode cX8_night 92 = .ok (.lmul, 1) := by decide +kernel
theorem dX8_night_93 : decode cX8_night 93 = .ok (.ldc2_w 247, 3) := by decide +kernel
theorem dX8_night_96 : decode cX8_night 96 = .ok (.lrem, 1) := by decide +kernel
theorem dX8_night_97 : decode cX8_night 97 = .ok (.lstore 4, 2) := by decide +kernel
theorem dX8_night_99 : decode cX8_night 99 = .ok (.aload_n 0, 1) := by decide +kernel
theorem dX8_night_100 : decode cX8_night 100 = .ok (.getfield 32, 3) := by decide +kernel
theorem dX8_night_103 : decode cX8_night 103 = .ok (.iload 9, 2) := by decide +kernel
theorem dX8_night_105 : decode cX8_night 105 = .ok (.aload_n 0, 1) := by decide +kernel
theorem dX8_night_106 : decode cX8_night 106 = .ok (.getfield 32, 3) := by decide +kernel
theorem dX8_night_109 : decode cX8_night 109 = .ok (.iload 9, 2) := by decide +kernel
theorem dX8_night_111 : decode cX8_night 111 = .ok (.iaload, 1) := by decide +kernel
theorem dX8_night_112 : decode cX8_night 112 = .ok (.lload 4, 2) := by decide +kernel
theorem dX8_night_114 : decode cX8_night 114 = .ok (.ldc2_w 249, 3) := by decide +kernel
theorem dX8_night_117 : decode cX8_night 117 = .ok (.lrem, 1) := by decide +kernel
theorem dX8_night_118 : decode cX8_night 118 = .ok (.l2i, 1) := by decide +kernel
theorem dX8_night_119 : decode cX8_night 119 = .ok (.iadd, 1) := by decide +kernel
theorem dX8_night_120 : decode cX8_night 120 = .ok (.iconst 2, 1) := by decide +kernel
theorem dX8_night_121 : decode cX8_night 121 = .ok (.isub, 1) := by decide +kernel
theorem dX8_night_122 : decode cX8_night 122 = .ok (.invokestatic 165, 3) := by decide +kernel
theorem dX8_night_125 : decode cX8_night 125 = .ok (.iastore, 1) := by decide +kernel
theorem dX8_night_126 : decode cX8_night 126 = .ok (.iinc 9 1, 3) := by decide +kernel
theorem dX8_night_129 : decode cX8_night 129 = .ok (.goto (-53), 3) := by decide +kernel
theorem dX8_night_132 : decode cX8_night 132 = .ok (.aload_n 0, 1) := by decide +kernel
theorem dX8_night_133 : decode cX8_night 133 = .ok (.invokevirtual 171, 3) := by decide +kernel
theorem dX8_night_136 : decode cX8_night 136 = .ok (.iload 6, 2) := by decide +kernel
theorem dX8_night_138 : decode cX8_night 138 = .ok (.aload_n 0, 1) := by decide +kernel
theorem dX8_night_139 : decode cX8_night 139 = .ok (.invokevirtual 174, 3) := by decide +kernel
theorem dX8_night_142 : decode cX8_night 142 = .ok (.iload 8, 2) := by decide +kernel
theorem dX8_night_144 : decode cX8_night 144 = .ok (.isub, 1) := by decide +kernel
theorem dX8_night_145 : decode cX8_night 145 = .ok (.invokestatic 221, 3) := by decide +kernel
theorem dX8_night_148 : decode cX8_night 148 = .ok (.bipush 9, 2) := by decide +kernel
theorem dX8_night_150 : decode cX8_night 150 = .ok (.if_icmp .le 7, 3) := by decide +kernel
theorem dX8_night_153 : decode cX8_night 153 = .ok (.iconst 1, 1) := by decide +kernel
theorem dX8_night_154 : decode cX8_night 154 = .ok (.goto 4, 3) := by decide +kernel
theorem dX8_night_157 : decode cX8_night 157 = .ok (.iconst 0, 1) := by decide +kernel
theorem dX8_night_158 : decode cX8_night 158 = .ok (.iadd, 1) := by decide +kernel
theorem dX8_night_159 : decode cX8_night 159 = .ok (.istore 6, 2) := by decide +kernel
theorem dX8_night_161 : decode cX8_night 161 = .ok (.iinc 7 1, 3) := by decide +kernel
theorem dX8_night_164 : decode cX8_night 164 = .ok (.goto (-103), 3) := by decide +kernel
theorem dX8_night_167 : decode cX8_night 167 = .ok (.iload_n 3, 1) := by decide +kernel
theorem dX8_night_168 : decode cX8_night 168 = .ok (.ifCond .ne 10, 3) := by decide +kernel
theorem dX8_night_171 : decode cX8_night 171 = .ok (.aload_n 0, 1) := by decide +kernel
theorem dX8_night_172 : decode cX8_night 172 = .ok (.invokevirtual 174, 3) := by decide +kernel
theorem dX8_night_175 : decode cX8_night 175 = .ok (.goto 5, 3) := by decide +kernel
theorem dX8_night_178 : decode cX8_night 178 = .ok (.iload 6, 2) := by decide +kernel
theorem dX8_night_180 : decode cX8_night 180 = .ok (.ireturn, 1) := by decide +kernel
theorem dX8_image_0 : decode cX8_image 0 = .ok (.iload_n 1, 1) := by decide +kernel
theorem dX8_image_1 : decode cX8_image 1 = .ok (.i2l, 1) := by decide +kernel
theorem dX8_image_2 : decode cX8_image 2 = .ok (.lconst 0, 1) := by decide +kernel
theorem dX8_image_3 : decode cX8_image 3 = .ok (.lconst 1, 1) := by decide +kernel
theorem dX8_image_4 : decode cX8_image 4 = .ok (.invokestatic 60, 3) := by decide +kernel
theorem dX8_image_7 : decode cX8_image 7 = .ok (.ifCond .ne 6, 3) := by decide +kernel
theorem dX8_image_10 : decode cX8_image 10 = .ok (.ldc 70, 2) := by decide +kernel
theorem dX8_image_12 : decode cX8_image 12 = .ok (.ireturn, 1) := by decide +kernel
theorem dX8_image_13 : decode cX8_image 13 = .ok (.aload_n 0, 1) := by decide +kernel
theorem dX8_image_14 : decode cX8_image 14 = .ok (.invokevirtual 183, 3) := by decide +kernel
theorem dX8_image_17 : decode cX8_image 17 = .ok (.ifCond .eq 6, 3) := by decide +kernel
theorem dX8_image_20 : decode cX8_image 20 = .ok (.ldc 182, 2) := by decide +kernel
theorem dX8_image_22 : decode cX8_image 22 = .ok (.ireturn, 1) := by decide +kernel
theorem dX8_image_23 : decode cX8_image 23 = .ok (.iconst 0, 1) := by decide +kernel
theorem dX8_image_24 : decode cX8_image 24 = .ok (.istore_n 2, 1) := by decide +kernel
theorem dX8_image_25 : decode cX8_image 25 = .ok (.iload_n 2, 1) := by decide +kernel
theorem dX8_image_26 : decode cX8_image 26 = .ok (.bipush 61, 2) := by decide +kernel
theorem dX8_image_28 : decode cX8_image 28 = .ok (.if_icmp .ge 28, 3) := by decide +kernel
theorem dX8_image_31 : decode cX8_image 31 = .ok (.aload_n 0, 1) := by decide +kernel
theorem dX8_image_32 : decode cX8_image 32 = .ok (.getfield 7, 3) := by decide +kernel
theorem dX8_image_35 : decode cX8_image 35 = .ok (.bipush 61, 2) := by decide +kernel
theorem dX8_image_37 : decode cX8_image 37 = .ok (.iload_n 1, 1) := by decide +kernel
theorem dX8_image_38 : decode cX8_image 38 = .ok (.iconst 1, 1) := by decide +kernel
theorem dX8_image_39 : decode cX8_image 39 = .ok (.iadd, 1) := by decide +kernel
theorem dX8_image_40 : decode cX8_image 40 = .ok (.imul, 1) := by decide +kernel
theorem dX8_image_41 : decode cX8_image 41 = .ok (.iload_n 2, 1) := by decide +kernel
theorem dX8_image_42 : decode cX8_image 42 = .ok (.iadd, 1) := by decide +kernel
theorem dX8_image_43 : decode cX8_image 43 = .ok (.aload_n 0, 1) := by decide +kernel
theorem dX8_image_44 : decode cX8_image 44 = .ok (.getfield 7, 3) := by decide +kernel
theorem dX8_image_47 : decode cX8_image 47 = .ok (.iload_n 2, 1) := by decide +kernel
theorem dX8_image_48 : decode cX8_image 48 = .ok (.iaload, 1) := by decide +kernel
theorem dX8_image_49 : decode cX8_image 49 = .ok (.iastore, 1) := by decide +kernel
theorem dX8_image_50 : decode cX8_image 50 = .ok (.iinc 2 1, 3) := by decide +kernel
theorem dX8_image_53 : decode cX8_image 53 = .ok (.goto (-28), 3) := by decide +kernel
theorem dX8_image_56 : decode cX8_image 56 = .ok (.aload_n 0, 1) := by decide +kernel
theorem dX8_image_57 : decode cX8_image 57 = .ok (.getfield 13, 3) := by decide +kernel
theorem dX8_image_60 : decode cX8_image 60 = .ok (.iload_n 1, 1) := by decide +kernel
theorem dX8_image_61 : decode cX8_image 61 = .ok (.iconst 1, 1) := by decide +kernel
theorem dX8_image_62 : decode cX8_image 62 = .ok (.bastore, 1) := by decide +kernel
theorem dX8_image_63 : decode cX8_image 63 = .ok (.iconst 1, 1) := by decide +kernel
theorem dX8_image_64 : decode cX8_image 64 = .ok (.ireturn, 1) := by decide +kernel
theorem dX8_restore_0 : decode cX8_restore 0 = .ok (.iload_n 1, 1) := by decide +kernel
theorem dX8_restore_1 : decode cX8_restore 1 = .ok (.i2l, 1) := by decide +kernel
theorem dX8_restore_2 : decode cX8_restore 2 = .ok (.lconst 0, 1) := by decide +kernel
theorem dX8_restore_3 : decode cX8_restore 3 = .ok (.lconst 1, 1) := by decide +kernel
theorem dX8_restore_4 : decode cX8_restore 4 = .ok (.invokestatic 60, 3) := by decide +kernel
theorem dX8_restore_7 : decode cX8_restore 7 = .ok (.ifCond .ne 6, 3) := by decide +kernel
theorem dX8_restore_10 : decode cX8_restore 10 = .ok (.ldc 70, 2) := by decide +kernel
theorem dX8_restore_12 : decode cX8_restore 12 = .ok (.ireturn, 1) := by decide +kernel
theorem dX8_restore_13 : decode cX8_restore 13 = .ok (.aload_n 0, 1) := by decide +kernel
theorem dX8_restore_14 : decode cX8_restore 14 = .ok (.getfield 13, 3) := by decide +kernel
theorem dX8_restore_17 : decode cX8_restore 17 = .ok (.iload_n 1, 1) := by decide +kernel
theorem dX8_restore_18 : decode cX8_restore 18 = .ok (.baload, 1) := by decide +kernel
theorem dX8_restore_19 : decode cX8_restore 19 = .ok (.ifCond .ne 6, 3) := by decide +kernel
theorem dX8_restore_22 : decode cX8_restore 22 = .ok (.ldc 182, 2) := by decide +kernel
theorem dX8_restore_24 : decode cX8_restore 24 = .ok (.ireturn, 1) := by decide +kernel
theorem dX8_restore_25 : decode cX8_restore 25 = .ok (.iconst 0, 1) := by decide +kernel
theorem dX8_restore_26 : decode cX8_restore 26 = .ok (.istore_n 2, 1) := by decide +kernel
theorem dX8_restore_27 : decode cX8_restore 27 = .ok (.iload_n 2, 1) := by decide +kernel
theorem dX8_restore_28 : decode cX8_restore 28 = .ok (.bipush 61, 2) := by decide +kernel
theorem dX8_restore_30 : decode cX8_restore 30 = .ok (.if_icmp .ge 28, 3) := by decide +kernel
theorem dX8_restore_33 : decode cX8_restore 33 = .ok (.aload_n 0, 1) := by decide +kernel
theorem dX8_restore_34 : decode cX8_restore 34 = .ok (.getfield 7, 3) := by decide +kernel
theorem dX8_restore_37 : decode cX8_restore 37 = .ok (.iload_n 2, 1) := by decide +kernel
theorem dX8_restore_38 : decode cX8_restore 38 = .ok (.aload_n 0, 1) := by decide +kernel
theorem dX8_restore_39 : decode cX8_restore 39 = .ok (.getfield 7, 3) := by decide +kernel
theorem dX8_restore_42 : decode cX8_restore 42 = .ok (.bipush 61, 2) := by decide +kernel
theorem dX8_restore_44 : decode cX8_restore 44 = .ok (.iload_n 1, 1) := by decide +kernel
theorem dX8_restore_45 : decode cX8_restore 45 = .ok (.iconst 1, 1) := by decide +kernel
theorem dX8_restore_46 : decode cX8_restore 46 = .ok (.iadd, 1) := by decide +kernel
theorem dX8_restore_47 : decode cX8_restore 47 = .ok (.imul, 1) := by decide +kernel
theorem dX8_restore_48 : decode cX8_restore 48 = .ok (.iload_n 2, 1) := by decide +kernel
theorem dX8_restore_49 : decode cX8_restore 49 = .ok (.iadd, 1) := by decide +kernel
theorem dX8_restore_50 : decode cX8_restore 50 = .ok (.iaload, 1) := by decide +kernel
theorem dX8_restore_51 : decode cX8_restore 51 = .ok (.iastore, 1) := by decide +kernel
theorem dX8_restore_52 : decode cX8_restore 52 = .ok (.iinc 2 1, 3) := by decide +kernel
theorem dX8_restore_55 : decode cX8_restore 55 = .ok (.goto (-28), 3) := by decide +kernel
theorem dX8_restore_58 : decode cX8_restore 58 = .ok (.aload_n 0, 1) := by decide +kernel
theorem dX8_restore_59 : decode cX8_restore 59 = .ok (.iconst 0, 1) := by decide +kernel
theorem dX8_restore_60 : decode cX8_restore 60 = .ok (.putfield 153, 3) := by decide +kernel
theorem dX8_restore_63 : decode cX8_restore 63 = .ok (.iconst 1, 1) := by decide +kernel
theorem dX8_restore_64 : decode cX8_restore 64 = .ok (.ireturn, 1) := by decide +kernel
theorem dX8_leaves_0 : decode cX8_leaves 0 = .ok (.aload_n 0, 1) := by decide +kernel
theorem dX8_leaves_1 : decode cX8_leaves 1 = .ok (.getfield 251, 3) := by decide +kernel
theorem dX8_leaves_4 : decode cX8_leaves 4 = .ok (.bipush 16, 2) := by decide +kernel
theorem dX8_leaves_6 : decode cX8_leaves 6 = .ok (.if_icmp .ge 23, 3) := by decide +kernel
theorem dX8_leaves_9 : decode cX8_leaves 9 = .ok (.aload_n 0, 1) := by decide +kernel
theorem dX8_leaves_10 : decode cX8_leaves 10 = .ok (.getfield 50, 3) := by decide +kernel
theorem dX8_leaves_13 : decode cX8_leaves 13 = .ok (.aload_n 0, 1) := by decide +kernel
theorem dX8_leaves_14 : decode cX8_leaves 14 = .ok (.getfield 251, 3) := by decide +kernel
theorem dX8_leaves_17 : decode cX8_leaves 17 = .ok (.iload_n 1, 1) := by decide +kernel
theorem dX8_leaves_18 : decode cX8_leaves 18 = .ok (.iastore, 1) := by decide +kernel
theorem dX8_leaves_19 : decode cX8_leaves 19 = .ok (.aload_n 0, 1) := by decide +kernel
theorem dX8_leaves_20 : decode cX8_leaves 20 = .ok (.dup, 1) := by decide +kernel
theorem dX8_leaves_21 : decode cX8_leaves 21 = .ok (.getfield 251, 3) := by decide +kernel
theorem dX8_leaves_24 : decode cX8_leaves 24 = .ok (.iconst 1, 1) := by decide +kernel
theorem dX8_leaves_25 : decode cX8_leaves 25 = .ok (.iadd, 1) := by decide +kernel
theorem dX8_leaves_26 : decode cX8_leaves 26 = .ok (.putfield 251, 3) := by decide +kernel
theorem dX8_leaves_29 : decode cX8_leaves 29 = .ok (.return_, 1) := by decide +kernel
theorem dX8_kind_0 : decode cX8_kind 0 = .ok (.aload_n 0, 1) := by decide +kernel
theorem dX8_kind_1 : decode cX8_kind 1 = .ok (.iload_n 1, 1) := by decide +kernel
theorem dX8_kind_2 : decode cX8_kind 2 = .ok (.invokevirtual 197, 3) := by decide +kernel
theorem dX8_kind_5 : decode cX8_kind 5 = .ok (.ifCond .eq 15, 3) := by decide +kernel
theorem dX8_kind_8 : decode cX8_kind 8 = .ok (.aload_n 0, 1) := by decide +kernel
theorem dX8_kind_9 : decode cX8_kind 9 = .ok (.getfield 7, 3) := by decide +kernel
theorem dX8_kind_12 : decode cX8_kind 12 = .ok (.bipush 21, 2) := by decide +kernel
theorem dX8_kind_14 : decode cX8_kind 14 = .ok (.iload_n 1, 1) := by decide +kernel
theorem dX8_kind_15 : decode cX8_kind 15 = .ok (.iadd, 1) := by decide +kernel
theorem dX8_kind_16 : decode cX8_kind 16 = .ok (.iaload, 1) := by decide +kernel
theorem dX8_kind_17 : decode cX8_kind 17 = .ok (.goto 5, 3) := by decide +kernel
theorem dX8_kind_20 : decode cX8_kind 20 = .ok (.ldc 70, 2) := by decide +kernel
theorem dX8_kind_22 : decode cX8_kind 22 = .ok (.ireturn, 1) := by decide +kernel
theorem dX8_isOf_0 : decode cX8_isOf 0 = .ok (.iload_n 1, 1) := by decide +kernel
theorem dX8_isOf_1 : decode cX8_isOf 1 = .ok (.ifCond .eq 28, 3) := by decide +kernel
theorem dX8_isOf_4 : decode cX8_isOf 4 = .ok (.iload_n 1, 1) := by decide +kernel
theorem dX8_isOf_5 : decode cX8_isOf 5 = .ok (.iload_n 0, 1) := by decide +kernel
theorem dX8_isOf_6 : decode cX8_isOf 6 = .ok (.if_icmp .eq 23, 3) := by decide +kernel
theorem dX8_isOf_9 : decode cX8_isOf 9 = .ok (.iload_n 1, 1) := by decide +kernel
theorem dX8_isOf_10 : decode cX8_isOf 10 = .ok (.iconst 1, 1) := by decide +kernel
theorem dX8_isOf_11 : decode cX8_isOf 11 = .ok (.if_icmp .ne 8, 3) := by decide +kernel
theorem dX8_isOf_14 : decode cX8_isOf 14 = .ok (.iload_n 0, 1) := by decide +kernel
theorem dX8_isOf_15 : decode cX8_isOf 15 = .ok (.iconst 3, 1) := by decide +kernel
theorem dX8_isOf_16 : decode cX8_isOf 16 = .ok (.if_icmp .le 13, 3) := by decide +kernel
theorem dX8_isOf_19 : decode cX8_isOf 19 = .ok (.iload_n 1, 1) := by decide +kernel
theorem dX8_isOf_20 : decode cX8_isOf 20 = .ok (.iconst 4, 1) := by decide +kernel
theorem dX8_isOf_21 : decode cX8_isOf 21 = .ok (.if_icmp .ne 12, 3) := by decide +kernel
theorem dX8_isOf_24 : decode cX8_isOf 24 = .ok (.iload_n 0, 1) := by decide +kernel
theorem dX8_isOf_25 : decode cX8_isOf 25 = .ok (.iconst 5, 1) := by decide +kernel
theorem dX8_isOf_26 : decode cX8_isOf 26 = .ok (.if_icmp .ne 7, 3) := by decide +kernel
theorem dX8_isOf_29 : decode cX8_isOf 29 = .ok (.iconst 1, 1) := by decide +kernel
theorem dX8_isOf_30 : decode cX8_isOf 30 = .ok (.goto 4, 3) := by decide +kernel
theorem dX8_isOf_33 : decode cX8_isOf 33 = .ok (.iconst 0, 1) := by decide +kernel
theorem dX8_isOf_34 : decode cX8_isOf 34 = .ok (.ireturn, 1) := by decide +kernel
theorem dX8_as_0 : decode cX8_as 0 = .ok (.aload_n 0, 1) := by decide +kernel
theorem dX8_as_1 : decode cX8_as 1 = .ok (.iload_n 1, 1) := by decide +kernel
theorem dX8_as_2 : decode cX8_as 2 = .ok (.invokevirtual 197, 3) := by decide +kernel
theorem dX8_as_5 : decode cX8_as 5 = .ok (.ifCond .eq 15, 3) := by decide +kernel
theorem dX8_as_8 : decode cX8_as 8 = .ok (.iload_n 2, 1) := by decide +kernel
theorem dX8_as_9 : decode cX8_as 9 = .ok (.i2l, 1) := by decide +kernel
theorem dX8_as_10 : decode cX8_as 10 = .ok (.lconst 0, 1) := by decide +kernel
theorem dX8_as_11 : decode cX8_as 11 = .ok (.ldc2_w 249, 3) := by decide +kernel
theorem dX8_as_14 : decode cX8_as 14 = .ok (.invokestatic 60, 3) := by decide +kernel
theorem dX8_as_17 : decode cX8_as 17 = .ok (.ifCond .ne 6, 3) := by decide +kernel
theorem dX8_as_20 : decode cX8_as 20 = .ok (.ldc 70, 2) := by decide +kernel
theorem dX8_as_22 : decode cX8_as 22 = .ok (.ireturn, 1) := by decide +kernel
theorem dX8_as_23 : decode cX8_as 23 = .ok (.aload_n 0, 1) := by decide +kernel
theorem dX8_as_24 : decode cX8_as 24 = .ok (.getfield 7, 3) := by decide +kernel
theorem dX8_as_27 : decode cX8_as 27 = .ok (.bipush 21, 2) := by decide +kernel
theorem dX8_as_29 : decode cX8_as 29 = .ok (.iload_n 1, 1) := by decide +kernel
theorem dX8_as_30 : decode cX8_as 30 = .ok (.iadd, 1) := by decide +kernel
theorem dX8_as_31 : decode cX8_as 31 = .ok (.iaload, 1) := by decide +kernel
theorem dX8_as_32 : decode cX8_as 32 = .ok (.iload_n 2, 1) := by decide +kernel
theorem dX8_as_33 : decode cX8_as 33 = .ok (.invokestatic 254, 3) := by decide +kernel
theorem dX8_as_36 : decode cX8_as 36 = .ok (.ifCond .eq 11, 3) := by decide +kernel
theorem dX8_as_39 : decode cX8_as 39 = .ok (.aload_n 0, 1) := by decide +kernel
theorem dX8_as_40 : decode cX8_as 40 = .ok (.iload_n 1, 1) := by decide +kernel
theorem dX8_as_41 : decode cX8_as 41 = .ok (.invokevirtual 75, 3) := by decide +kernel
theorem dX8_as_44 : decode cX8_as 44 = .ok (.goto 8, 3) := by decide +kernel
theorem dX8_as_47 : decode cX8_as 47 = .ok (.aload_n 0, 1) := by decide +kernel
theorem dX8_as_48 : decode cX8_as 48 = .ok (.iconst 3, 1) := by decide +kernel
theorem dX8_as_49 : decode cX8_as 49 = .ok (.invokevirtual 71, 3) := by decide +kernel
theorem dX8_as_52 : decode cX8_as 52 = .ok (.ireturn, 1) := by decide +kernel
theorem dX8_bareSize_0 : decode cX8_bareSize 0 = .ok (.aload_n 0, 1) := by decide +kernel
theorem dX8_bareSize_1 : decode cX8_bareSize 1 = .ok (.bipush 10, 2) := by decide +kernel
theorem dX8_bareSize_3 : decode cX8_bareSize 3 = .ok (.invokevirtual 257, 3) := by decide +kernel
theorem dX8_bareSize_6 : decode cX8_bareSize 6 = .ok (.aload_n 0, 1) := by decide +kernel
theorem dX8_bareSize_7 : decode cX8_bareSize 7 = .ok (.getfield 7, 3) := by decide +kernel
theorem dX8_bareSize_10 : decode cX8_bareSize 10 = .ok (.bipush 26, 2) := by decide +kernel
theorem dX8_bareSize_12 : decode cX8_bareSize 12 = .ok (.iload_n 1, 1) := by decide +kernel
theorem dX8_bareSize_13 : decode cX8_bareSize 13 = .ok (.iadd, 1) := by decide +kernel
theorem dX8_bareSize_14 : decode cX8_bareSize 14 = .ok (.iaload, 1) := by decide +kernel
theorem dX8_bareSize_15 : decode cX8_bareSize 15 = .ok (.ireturn, 1) := by decide +kernel
theorem dX8_bareMark_0 : decode cX8_bareMark 0 = .ok (.aload_n 0, 1) := by decide +kernel
theorem dX8_bareMark_1 : decode cX8_bareMark 1 = .ok (.bipush 20, 2) := by decide +kernel
theorem dX8_bareMark_3 : decode cX8_bareMark 3 = .ok (.invokevirtual 257, 3) := by decide +kernel
theorem dX8_bareMark_6 : decode cX8_bareMark 6 = .ok (.iload_n 1, 1) := by decide +kernel
theorem dX8_bareMark_7 : decode cX8_bareMark 7 = .ok (.ireturn, 1) := by decide +kernel
theorem dX8_steadyMark_0 : decode cX8_steadyMark 0 = .ok (.aload_n 0, 1) := by decide +kernel
theorem dX8_steadyMark_1 : decode cX8_steadyMark 1 = .ok (.bipush 21, 2) := by decide +kernel
theorem dX8_steadyMark_3 : decode cX8_steadyMark 3 = .ok (.invokevirtual 257, 3) := by decide +kernel
theorem dX8_steadyMark_6 : decode cX8_steadyMark 6 = .ok (.aload_n 0, 1) := by decide +kernel
theorem dX8_steadyMark_7 : decode cX8_steadyMark 7 = .ok (.iload_n 1, 1) := by decide +kernel
theorem dX8_steadyMark_8 : decode cX8_steadyMark 8 = .ok (.invokevirtual 260, 3) := by decide +kernel
theorem dX8_steadyMark_11 : decode cX8_steadyMark 11 = .ok (.aload_n 0, 1) := by decide +kernel
theorem dX8_steadyMark_12 : decode cX8_steadyMark 12 = .ok (.getfield 7, 3) := by decide +kernel
theorem dX8_steadyMark_15 : decode cX8_steadyMark 15 = .ok (.bipush 31, 2) := by decide +kernel
theorem dX8_steadyMark_17 : decode cX8_steadyMark 17 = .ok (.iload_n 1, 1) := by decide +kernel
theorem dX8_steadyMark_18 : decode cX8_steadyMark 18 = .ok (.iadd, 1) := by decide +kernel
theorem dX8_steadyMark_19 : decode cX8_steadyMark 19 = .ok (.iaload, 1) := by decide +kernel
theorem dX8_steadyMark_20 : decode cX8_steadyMark 20 = .ok (.iadd, 1) := by decide +kernel
theorem dX8_steadyMark_21 : decode cX8_steadyMark 21 = .ok (.ireturn, 1) := by decide +kernel
theorem dX8_markOfSteady_0 : decode cX8_markOfSteady 0 = .ok (.aload_n 0, 1) := by decide +kernel
theorem dX8_markOfSteady_1 : decode cX8_markOfSteady 1 = .ok (.getfield 7, 3) := by decide +kernel
theorem dX8_markOfSteady_4 : decode cX8_markOfSteady 4 = .ok (.bipush 21, 2) := by decide +kernel
theorem dX8_markOfSteady_6 : decode cX8_markOfSteady 6 = .ok (.iload_n 1, 1) := by decide +kernel
theorem dX8_markOfSteady_7 : decode cX8_markOfSteady 7 = .ok (.iadd, 1) := by decide +kernel
theorem dX8_markOfSteady_8 : decode cX8_markOfSteady 8 = .ok (.iaload, 1) := by decide +kernel
theorem dX8_markOfSteady_9 : decode cX8_markOfSteady 9 = .ok (.iconst 2, 1) := by decide +kernel
theorem dX8_markOfSteady_10 : decode cX8_markOfSteady 10 = .ok (.if_icmp .ne 17, 3) := by decide +kernel
theorem dX8_markOfSteady_13 : decode cX8_markOfSteady 13 = .ok (.aload_n 0, 1) := by decide +kernel
theorem dX8_markOfSteady_14 : decode cX8_markOfSteady 14 = .ok (.bipush 24, 2) := by decide +kernel
theorem dX8_markOfSteady_16 : decode cX8_markOfSteady 16 = .ok (.invokevirtual 257, 3) := by decide +kernel
theorem dX8_markOfSteady_19 : decode cX8_markOfSteady 19 = .ok (.iconst 2, 1) := by decide +kernel
theorem dX8_markOfSteady_20 : decode cX8_markOfSteady 20 = .ok (.aload_n 0, 1) := by decide +kernel
theorem dX8_markOfSteady_21 : decode cX8_markOfSteady 21 = .ok (.iload_n 1, 1) := by decide +kernel
theorem dX8_markOfSteady_22 : decode cX8_markOfSteady 22 = .ok (.invokevirtual 263, 3) := by decide +kernel
theorem dX8_markOfSteady_25 : decode cX8_markOfSteady 25 = .ok (.imul, 1) := by decide +kernel
theorem dX8_markOfSteady_26 : decode cX8_markOfSteady 26 = .ok (.ireturn, 1) := by decide +kernel
theorem dX8_markOfSteady_27 : decode cX8_markOfSteady 27 = .ok (.aload_n 0, 1) := by decide +kernel
theorem dX8_markOfSteady_28 : decode cX8_markOfSteady 28 = .ok (.getfield 7, 3) := by decide +kernel
theorem dX8_markOfSteady_31 : decode cX8_markOfSteady 31 = .ok (.bipush 21, 2) := by decide +kernel
theorem dX8_markOfSteady_33 : decode cX8_markOfSteady 33 = .ok (.iload_n 1, 1) := by decide +kernel
theorem dX8_markOfSteady_34 : decode cX8_markOfSteady 34 = .ok (.iadd, 1) := by decide +kernel
theorem dX8_markOfSteady_35 : decode cX8_markOfSteady 35 = .ok (.iaload, 1) := by decide +kernel
theorem dX8_markOfSteady_36 : decode cX8_markOfSteady 36 = .ok (.iconst 3, 1) := by decide +kernel
theorem dX8_markOfSteady_37 : decode cX8_markOfSteady 37 = .ok (.if_icmp .ne 19, 3) := by decide +kernel
theorem dX8_markOfSteady_40 : decode cX8_markOfSteady 40 = .ok (.aload_n 0, 1) := by decide +kernel
theorem dX8_markOfSteady_41 : decode cX8_markOfSteady 41 = .ok (.bipush 22, 2) := by decide +kernel
theorem dX8_markOfSteady_43 : decode cX8_markOfSteady 43 = .ok (.invokevirtual 257, 3) := by decide +kernel
theorem dX8_markOfSteady_46 : decode cX8_markOfSteady 46 = .ok (.aload_n 0, 1) := by decide +kernel
theorem dX8_markOfSteady_47 : decode cX8_markOfSteady 47 = .ok (.iload_n 1, 1) := by decide +kernel
theorem dX8_markOfSteady_48 : decode cX8_markOfSteady 48 = .ok (.invokevirtual 263, 3) := by decide +kernel
theorem dX8_markOfSteady_51 : decode cX8_markOfSteady 51 = .ok (.sipush 1000, 3) := by decide +kernel
theorem dX8_markOfSteady_54 : decode cX8_markOfSteady 54 = .ok (.isub, 1) := by decide +kernel
theorem dX8_markOfSteady_55 : decode cX8_markOfSteady 55 = .ok (.ireturn, 1) := by decide +kernel
theorem dX8_markOfSteady_56 : decode cX8_markOfSteady 56 = .ok (.aload_n 0, 1) := by decide +kernel
theorem dX8_markOfSteady_57 : decode cX8_markOfSteady 57 = .ok (.iload_n 1, 1) := by decide +kernel
theorem dX8_markOfSteady_58 : decode cX8_markOfSteady 58 = .ok (.invokevirtual 263, 3) := by decide +kernel
theorem dX8_markOfSteady_61 : decode cX8_markOfSteady 61 = .ok (.ireturn, 1) := by decide +kernel
theorem dX8_steadySize_0 : decode cX8_steadySize 0 = .ok (.aload_n 0, 1) := by decide +kernel
theorem dX8_steadySize_1 : decode cX8_steadySize 1 = .ok (.bipush 11, 2) := by decide +kernel
theorem dX8_steadySize_3 : decode cX8_steadySize 3 = .ok (.invokevirtual 257, 3) := by decide +kernel
theorem dX8_steadySize_6 : decode cX8_steadySize 6 = .ok (.aload_n 0, 1) := by decide +kernel
theorem dX8_steadySize_7 : decode cX8_steadySize 7 = .ok (.iload_n 1, 1) := by decide +kernel
theorem dX8_steadySize_8 : decode cX8_steadySize 8 = .ok (.invokevirtual 266, 3) := by decide +kernel
theorem dX8_steadySize_11 : decode cX8_steadySize 11 = .ok (.istore_n 2, 1) := by decide +kernel
theorem dX8_steadySize_12 : decode cX8_steadySize 12 = .ok (.iload_n 2, 1) := by decide +kernel
theorem dX8_steadySize_13 : decode cX8_steadySize 13 = .ok (.aload_n 0, 1) := by decide +kernel
theorem dX8_steadySize_14 : decode cX8_steadySize 14 = .ok (.iload_n 1, 1) := by decide +kernel
theorem dX8_steadySize_15 : decode cX8_steadySize 15 = .ok (.invokevirtual 269, 3) := by decide +kernel
theorem dX8_steadySize_18 : decode cX8_steadySize 18 = .ok (.iadd, 1) := by decide +kernel
theorem dX8_steadySize_19 : decode cX8_steadySize 19 = .ok (.ireturn, 1) := by decide +kernel
theorem dX8_clickedSize_0 : decode cX8_clickedSize 0 = .ok (.aload_n 0, 1) := by decide +kernel
theorem dX8_clickedSize_1 : decode cX8_clickedSize 1 = .ok (.bipush 13, 2) := by decide +kernel
theorem dX8_clickedSize_3 : decode cX8_clickedSize 3 = .ok (.invokevirtual 257, 3) := by decide +kernel
theorem dX8_clickedSize_6 : decode cX8_clickedSize 6 = .ok (.aload_n 0, 1) := by decide +kernel
theorem dX8_clickedSize_7 : decode cX8_clickedSize 7 = .ok (.iload_n 1, 1) := by decide +kernel
theorem dX8_clickedSize_8 : decode cX8_clickedSize 8 = .ok (.invokevirtual 266, 3) := by decide +kernel
theorem dX8_clickedSize_11 : decode cX8_clickedSize 11 = .ok (.bipush 100, 2) := by decide +kernel
theorem dX8_clickedSize_13 : decode cX8_clickedSize 13 = .ok (.isub, 1) := by decide +kernel
theorem dX8_clickedSize_14 : decode cX8_clickedSize 14 = .ok (.ireturn, 1) := by decide +kernel
theorem dX8_sizeOf_0 : decode cX8_sizeOf 0 = .ok (.aload_n 0, 1) := by decide +kernel
theorem dX8_sizeOf_1 : decode cX8_sizeOf 1 = .ok (.getfield 7, 3) := by decide +kernel
theorem dX8_sizeOf_4 : decode cX8_sizeOf 4 = .ok (.bipush 21, 2) := by decide +kernel
theorem dX8_sizeOf_6 : decode cX8_sizeOf 6 = .ok (.iload_n 1, 1) := by decide +kernel
theorem dX8_sizeOf_7 : decode cX8_sizeOf 7 = .ok (.iadd, 1) := by decide +kernel
theorem dX8_sizeOf_8 : decode cX8_sizeOf 8 = .ok (.iaload, 1) := by decide +kernel
theorem dX8_sizeOf_9 : decode cX8_sizeOf 9 = .ok (.tableswitch 64 2 5 #[31, 64, 44, 50], 31) := by decide +kernel
theorem dX8_sizeOf_40 : decode cX8_sizeOf 40 = .ok (.aload_n 0, 1) := by decide +kernel
theorem dX8_sizeOf_41 : decode cX8_sizeOf 41 = .ok (.bipush 12, 2) := by decide +kernel
theorem dX8_sizeOf_43 : decode cX8_sizeOf 43 = .ok (.invokevirtual 257, 3) := by decide +kernel
theorem dX8_sizeOf_46 : decode cX8_sizeOf 46 = .ok (.aload_n 0, 1) := by decide +kernel
theorem dX8_sizeOf_47 : decode cX8_sizeOf 47 = .ok (.iload_n 1, 1) := by decide +kernel
theorem dX8_sizeOf_48 : decode cX8_sizeOf 48 = .ok (.invokevirtual 272, 3) := by decide +kernel
theorem dX8_sizeOf_51 : decode cX8_sizeOf 51 = .ok (.ineg, 1) := by decide +kernel
theorem dX8_sizeOf_52 : decode cX8_sizeOf 52 = .ok (.ireturn, 1) := by decide +kernel
theorem dX8_sizeOf_53 : decode cX8_sizeOf 53 = .ok (.aload_n 0, 1) := by decide +kernel
theorem dX8_sizeOf_54 : decode cX8_sizeOf 54 = .ok (.iload_n 1, 1) := by decide +kernel
theorem dX8_sizeOf_55 : decode cX8_sizeOf 55 = .ok (.invokevirtual 275, 3) := by decide +kernel
theorem dX8_sizeOf_58 : decode cX8_sizeOf 58 = .ok (.ireturn, 1) := by decide +kernel
theorem dX8_sizeOf_59 : decode cX8_sizeOf 59 = .ok (.aload_n 0, 1) := by decide +kernel
theorem dX8_sizeOf_60 : decode cX8_sizeOf 60 = .ok (.bipush 14, 2) := by decide +kernel
theorem dX8_sizeOf_62 : decode cX8_sizeOf 62 = .ok (.invokevirtual 257, 3) := by decide +kernel
theorem dX8_sizeOf_65 : decode cX8_sizeOf 65 = .ok (.iconst 2, 1) := by decide +kernel
theorem dX8_sizeOf_66 : decode cX8_sizeOf 66 = .ok (.aload_n 0, 1) := by decide +kernel
theorem dX8_sizeOf_67 : decode cX8_sizeOf 67 = .ok (.iload_n 1, 1) := by decide +kernel
theorem dX8_sizeOf_68 : decode cX8_sizeOf 68 = .ok (.invokevirtual 275, 3) := by decide +kernel
theorem dX8_sizeOf_71 : decode cX8_sizeOf 71 = .ok (.imul, 1) := by decide +kernel
theorem dX8_sizeOf_72 : decode cX8_sizeOf 72 = .ok (.ireturn, 1) := by decide +kernel
theorem dX8_sizeOf_73 : decode cX8_sizeOf 73 = .ok (.aload_n 0, 1) := by decide +kernel
theorem dX8_sizeOf_74 : decode cX8_sizeOf 74 = .ok (.iload_n 1, 1) := by decide +kernel
theorem dX8_sizeOf_75 : decode cX8_sizeOf 75 = .ok (.invokevirtual 272, 3) := by decide +kernel
theorem dX8_sizeOf_78 : decode cX8_sizeOf 78 = .ok (.ireturn, 1) := by decide +kernel
theorem dX8_markOf_0 : decode cX8_markOf 0 = .ok (.aload_n 0, 1) := by decide +kernel
theorem dX8_markOf_1 : decode cX8_markOf 1 = .ok (.getfield 7, 3) := by decide +kernel
theorem dX8_markOf_4 : decode cX8_markOf 4 = .ok (.bipush 21, 2) := by decide +kernel
theorem dX8_markOf_6 : decode cX8_markOf 6 = .ok (.iload_n 1, 1) := by decide +kernel
theorem dX8_markOf_7 : decode cX8_markOf 7 = .ok (.iadd, 1) := by decide +kernel
theorem dX8_markOf_8 : decode cX8_markOf 8 = .ok (.iaload, 1) := by decide +kernel
theorem dX8_markOf_9 : decode cX8_markOf 9 = .ok (.iconst 4, 1) := by decide +kernel
theorem dX8_markOf_10 : decode cX8_markOf 10 = .ok (.if_icmp .ge 9, 3) := by decide +kernel
theorem dX8_markOf_13 : decode cX8_markOf 13 = .ok (.aload_n 0, 1) := by decide +kernel
theorem dX8_markOf_14 : decode cX8_markOf 14 = .ok (.iload_n 1, 1) := by decide +kernel
theorem dX8_markOf_15 : decode cX8_markOf 15 = .ok (.invokevirtual 269, 3) := by decide +kernel
theorem dX8_markOf_18 : decode cX8_markOf 18 = .ok (.ireturn, 1) := by decide +kernel
theorem dX8_markOf_19 : decode cX8_markOf 19 = .ok (.aload_n 0, 1) := by decide +kernel
theorem dX8_markOf_20 : decode cX8_markOf 20 = .ok (.bipush 23, 2) := by decide +kernel
theorem dX8_markOf_22 : decode cX8_markOf 22 = .ok (.invokevirtual 257, 3) := by decide +kernel
theorem dX8_markOf_25 : decode cX8_markOf 25 = .ok (.aload_n 0, 1) := by decide +kernel
theorem dX8_markOf_26 : decode cX8_markOf 26 = .ok (.iload_n 1, 1) := by decide +kernel
theorem dX8_markOf_27 : decode cX8_markOf 27 = .ok (.invokevirtual 260, 3) := by decide +kernel
theorem dX8_markOf_30 : decode cX8_markOf 30 = .ok (.istore_n 2, 1) := by decide +kernel
theorem dX8_markOf_31 : decode cX8_markOf 31 = .ok (.iload_n 2, 1) := by decide +kernel
theorem dX8_markOf_32 : decode cX8_markOf 32 = .ok (.aload_n 0, 1) := by decide +kernel
theorem dX8_markOf_33 : decode cX8_markOf 33 = .ok (.iload_n 1, 1) := by decide +kernel
theorem dX8_markOf_34 : decode cX8_markOf 34 = .ok (.invokevirtual 278, 3) := by decide +kernel
theorem dX8_markOf_37 : decode cX8_markOf 37 = .ok (.isub, 1) := by decide +kernel
theorem dX8_markOf_38 : decode cX8_markOf 38 = .ok (.ireturn, 1) := by decide +kernel
theorem dX8_ask_0 : decode cX8_ask 0 = .ok (.aload_n 0, 1) := by decide +kernel
theorem dX8_ask_1 : decode cX8_ask 1 = .ok (.iload_n 1, 1) := by decide +kernel
theorem dX8_ask_2 : decode cX8_ask 2 = .ok (.invokevirtual 197, 3) := by decide +kernel
theorem dX8_ask_5 : decode cX8_ask 5 = .ok (.ifCond .eq 13, 3) := by decide +kernel
theorem dX8_ask_8 : decode cX8_ask 8 = .ok (.iload_n 2, 1) := by decide +kernel
theorem dX8_ask_9 : decode cX8_ask 9 = .ok (.i2l, 1) := by decide +kernel
theorem dX8_ask_10 : decode cX8_ask 10 = .ok (.lconst 0, 1) := by decide +kernel
theorem dX8_ask_11 : decode cX8_ask 11 = .ok (.lconst 1, 1) := by decide +kernel
theorem dX8_ask_12 : decode cX8_ask 12 = .ok (.invokestatic 60, 3) := by decide +kernel
theorem dX8_ask_15 : decode cX8_ask 15 = .ok (.ifCond .ne 6, 3) := by decide +kernel
theorem dX8_ask_18 : decode cX8_ask 18 = .ok (.ldc 70, 2) := by decide +kernel
theorem dX8_ask_20 : decode cX8_ask 20 = .ok (.ireturn, 1) := by decide +kernel
theorem dX8_ask_21 : decode cX8_ask 21 = .ok (.aload_n 0, 1) := by decide +kernel
theorem dX8_ask_22 : decode cX8_ask 22 = .ok (.iconst 0, 1) := by decide +kernel
theorem dX8_ask_23 : decode cX8_ask 23 = .ok (.putfield 251, 3) := by decide +kernel
theorem dX8_ask_26 : decode cX8_ask 26 = .ok (.iload_n 2, 1) := by decide +kernel
theorem dX8_ask_27 : decode cX8_ask 27 = .ok (.ifCond .ne 11, 3) := by decide +kernel
theorem dX8_ask_30 : decode cX8_ask 30 = .ok (.aload_n 0, 1) := by decide +kernel
theorem dX8_ask_31 : decode cX8_ask 31 = .ok (.iload_n 1, 1) := by decide +kernel
theorem dX8_ask_32 : decode cX8_ask 32 = .ok (.invokevirtual 278, 3) := by decide +kernel
theorem dX8_ask_35 : decode cX8_ask 35 = .ok (.goto 8, 3) := by decide +kernel
theorem dX8_ask_38 : decode cX8_ask 38 = .ok (.aload_n 0, 1) := by decide +kernel
theorem dX8_ask_39 : decode cX8_ask 39 = .ok (.iload_n 1, 1) := by decide +kernel
theorem dX8_ask_40 : decode cX8_ask 40 = .ok (.invokevirtual 281, 3) := by decide +kernel
theorem dX8_ask_43 : decode cX8_ask 43 = .ok (.ireturn, 1) := by decide +kernel
theorem dX8_trace_0 : decode cX8_trace 0 = .ok (.iload_n 1, 1) := by decide +kernel
theorem dX8_trace_1 : decode cX8_trace 1 = .ok (.i2l, 1) := by decide +kernel
theorem dX8_trace_2 : decode cX8_trace 2 = .ok (.lconst 0, 1) := by decide +kernel
theorem dX8_trace_3 : decode cX8_trace 3 = .ok (.aload_n 0, 1) := by decide +kernel
theorem dX8_trace_4 : decode cX8_trace 4 = .ok (.getfield 251, 3) := by decide +kernel
theorem dX8_trace_7 : decode cX8_trace 7 = .ok (.iconst 1, 1) := by decide +kernel
theorem dX8_trace_8 : decode cX8_trace 8 = .ok (.isub, 1) := by decide +kernel
theorem dX8_trace_9 : decode cX8_trace 9 = .ok (.i2l, 1) := by decide +kernel
theorem dX8_trace_10 : decode cX8_trace 10 = .ok (.invokestatic 60, 3) := by decide +kernel
theorem dX8_trace_13 : decode cX8_trace 13 = .ok (.ifCond .eq 12, 3) := by decide +kernel
theorem dX8_trace_16 : decode cX8_trace 16 = .ok (.aload_n 0, 1) := by decide +kernel
theorem dX8_trace_17 : decode cX8_trace 17 = .ok (.getfield 50, 3) := by decide +kernel
theorem dX8_trace_20 : decode cX8_trace 20 = .ok (.iload_n 1, 1) := by decide +kernel
theorem dX8_trace_21 : decode cX8_trace 21 = .ok (.iaload, 1) := by decide +kernel
theorem dX8_trace_22 : decode cX8_trace 22 = .ok (.goto 5, 3) := by decide +kernel
theorem dX8_trace_25 : decode cX8_trace 25 = .ok (.ldc 220, 2) := by decide +kernel
theorem dX8_trace_27 : decode cX8_trace 27 = .ok (.ireturn, 1) := by decide +kernel
theorem dX8_rowsMany_0 : decode cX8_rowsMany 0 = .ok (.iconst 0, 1) := by decide +kernel
theorem dX8_rowsMany_1 : decode cX8_rowsMany 1 = .ok (.istore_n 1, 1) := by decide +kernel
theorem dX8_rowsMany_2 : decode cX8_rowsMany 2 = .ok (.iconst 0, 1) := by decide +kernel
theorem dX8_rowsMany_3 : decode cX8_rowsMany 3 = .ok (.istore_n 2, 1) := by decide +kernel
theorem dX8_rowsMany_4 : decode cX8_rowsMany 4 = .ok (.iload_n 2, 1) := by decide +kernel
theorem dX8_rowsMany_5 : decode cX8_rowsMany 5 = .ok (.bipush 8, 2) := by decide +kernel
theorem dX8_rowsMany_7 : decode cX8_rowsMany 7 = .ok (.if_icmp .ge 26, 3) := by decide +kernel
theorem dX8_rowsMany_10 : decode cX8_rowsMany 10 = .ok (.iload_n 1, 1) := by decide +kernel
theorem dX8_rowsMany_11 : decode cX8_rowsMany 11 = .ok (.aload_n 0, 1) := by decide +kernel
theorem dX8_rowsMany_12 : decode cX8_rowsMany 12 = .ok (.getfield 17, 3) := by decide +kernel
theorem dX8_rowsMany_15 : decode cX8_rowsMany 15 = .ok (.iload_n 2, 1) := by decide +kernel
theorem dX8_rowsMany_16 : decode cX8_rowsMany 16 = .ok (.iaload, 1) := by decide +kernel
theorem dX8_rowsMany_17 : decode cX8_rowsMany 17 = .ok (.ifCond .ge 7, 3) := by decide +kernel
theorem dX8_rowsMany_20 : decode cX8_rowsMany 20 = .ok (.iconst 0, 1) := by decide +kernel
theorem dX8_rowsMany_21 : decode cX8_rowsMany 21 = .ok (.goto 4, 3) := by decide +kernel
theorem dX8_rowsMany_24 : decode cX8_rowsMany 24 = .ok (.iconst 1, 1) := by decide +kernel
theorem dX8_rowsMany_25 : decode cX8_rowsMany 25 = .ok (.iadd, 1) := by decide +kernel
theorem dX8_rowsMany_26 : decode cX8_rowsMany 26 = .ok (.istore_n 1, 1) := by decide +kernel
theorem dX8_rowsMany_27 : decode cX8_rowsMany 27 = .ok (.iinc 2 1, 3) := by decide +kernel
theorem dX8_rowsMany_30 : decode cX8_rowsMany 30 = .ok (.goto (-26), 3) := by decide +kernel
theorem dX8_rowsMany_33 : decode cX8_rowsMany 33 = .ok (.iload_n 1, 1) := by decide +kernel
theorem dX8_rowsMany_34 : decode cX8_rowsMany 34 = .ok (.ireturn, 1) := by decide +kernel
theorem dX8_count_0 : decode cX8_count 0 = .ok (.iload_n 1, 1) := by decide +kernel
theorem dX8_count_1 : decode cX8_count 1 = .ok (.tableswitch 108 0 8 #[51, 56, 63, 70, 78, 86, 91, 98, 103], 51) := by decide +kernel
theorem dX8_count_52 : decode cX8_count 52 = .ok (.aload_n 0, 1) := by decide +kernel
theorem dX8_count_53 : decode cX8_count 53 = .ok (.invokevirtual 284, 3) := by decide +kernel
theorem dX8_count_56 : decode cX8_count 56 = .ok (.ireturn, 1) := by decide +kernel
theorem dX8_count_57 : decode cX8_count 57 = .ok (.aload_n 0, 1) := by decide +kernel
theorem dX8_count_58 : decode cX8_count 58 = .ok (.getfield 7, 3) := by decide +kernel
theorem dX8_count_61 : decode cX8_count 61 = .ok (.iconst 5, 1) := by decide +kernel
theorem dX8_count_62 : decode cX8_count 62 = .ok (.iaload, 1) := by decide +kernel
theorem dX8_count_63 : decode cX8_count 63 = .ok (.ireturn, 1) := by decide +kernel
theorem dX8_count_64 : decode cX8_count 64 = .ok (.aload_n 0, 1) := by decide +kernel
theorem dX8_count_65 : decode cX8_count 65 = .ok (.getfield 7, 3) := by decide +kernel
theorem dX8_count_68 : decode cX8_count 68 = .ok (.iconst 4, 1) := by decide +kernel
theorem dX8_count_69 : decode cX8_count 69 = .ok (.iaload, 1) := by decide +kernel
theorem dX8_count_70 : decode cX8_count 70 = .ok (.ireturn, 1) := by decide +kernel
theorem dX8_count_71 : decode cX8_count 71 = .ok (.aload_n 0, 1) := by decide +kernel
theorem dX8_count_72 : decode cX8_count 72 = .ok (.getfield 7, 3) := by decide +kernel
theorem dX8_count_75 : decode cX8_count 75 = .ok (.bipush 6, 2) := by decide +kernel
theorem dX8_count_77 : decode cX8_count 77 = .ok (.iaload, 1) := by decide +kernel
theorem dX8_count_78 : decode cX8_count 78 = .ok (.ireturn, 1) := by decide +kernel
theorem dX8_count_79 : decode cX8_count 79 = .ok (.aload_n 0, 1) := by decide +kernel
theorem dX8_count_80 : decode cX8_count 80 = .ok (.getfield 7, 3) := by decide +kernel
theorem dX8_count_83 : decode cX8_count 83 = .ok (.bipush 7, 2) := by decide +kernel
theorem dX8_count_85 : decode cX8_count 85 = .ok (.iaload, 1) := by decide +kernel
theorem dX8_count_86 : decode cX8_count 86 = .ok (.ireturn, 1) := by decide +kernel
theorem dX8_count_87 : decode cX8_count 87 = .ok (.aload_n 0, 1) := by decide +kernel
theorem dX8_count_88 : decode cX8_count 88 = .ok (.invokevirtual 194, 3) := by decide +kernel
theorem dX8_count_91 : decode cX8_count 91 = .ok (.ireturn, 1) := by decide +kernel
theorem dX8_count_92 : decode cX8_count 92 = .ok (.aload_n 0, 1) := by decide +kernel
theorem dX8_count_93 : decode cX8_count 93 = .ok (.getfield 7, 3) := by decide +kernel
theorem dX8_count_96 : decode cX8_count 96 = .ok (.iconst 3, 1) := by decide +kernel
theorem dX8_count_97 : decode cX8_count 97 = .ok (.iaload, 1) := by decide +kernel
theorem dX8_count_98 : decode cX8_count 98 = .ok (.ireturn, 1) := by decide +kernel
theorem dX8_count_99 : decode cX8_count 99 = .ok (.aload_n 0, 1) := by decide +kernel
theorem dX8_count_100 : decode cX8_count 100 = .ok (.getfield 153, 3) := by decide +kernel
theorem dX8_count_103 : decode cX8_count 103 = .ok (.ireturn, 1) := by decide +kernel
theorem dX8_count_104 : decode cX8_count 104 = .ok (.aload_n 0, 1) := by decide +kernel
theorem dX8_count_105 : decode cX8_count 105 = .ok (.getfield 88, 3) := by decide +kernel
theorem dX8_count_108 : decode cX8_count 108 = .ok (.ireturn, 1) := by decide +kernel
theorem dX8_count_109 : decode cX8_count 109 = .ok (.ldc 70, 2) := by decide +kernel
theorem dX8_count_111 : decode cX8_count 111 = .ok (.ireturn, 1) := by decide +kernel
theorem dX8_status_0 : decode cX8_status 0 = .ok (.aload_n 0, 1) := by decide +kernel
theorem dX8_status_1 : decode cX8_status 1 = .ok (.getfield 53, 3) := by decide +kernel
theorem dX8_status_4 : decode cX8_status 4 = .ok (.ireturn, 1) := by decide +kernel
