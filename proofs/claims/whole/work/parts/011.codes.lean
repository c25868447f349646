theorem dX9_come_83 : decode cX9_come 83 = .ok (.iload_n 1, 1) := by decide +kernel
theorem dX9_come_84 : decode cX9_come 84 = .ok (.iadd, 1) := by decide +kernel
theorem dX9_come_85 : decode cX9_come 85 = .ok (.putfield 139, 3) := by decide +kernel
theorem dX9_come_88 : decode cX9_come 88 = .ok (.iload_n 2, 1) := by decide +kernel
theorem dX9_come_89 : decode cX9_come 89 = .ok (.ireturn, 1) := by decide +kernel
theorem dX9_anew_0 : decode cX9_anew 0 = .ok (.aload_n 0, 1) := by decide +kernel
theorem dX9_anew_1 : decode cX9_anew 1 = .ok (.invokevirtual 145, 3) := by decide +kernel
theorem dX9_anew_4 : decode cX9_anew 4 = .ok (.ifCond .ne 6, 3) := by decide +kernel
theorem dX9_anew_7 : decode cX9_anew 7 = .ok (.bipush (-3), 2) := by decide +kernel
theorem dX9_anew_9 : decode cX9_anew 9 = .ok (.ireturn, 1) := by decide +kernel
theorem dX9_anew_10 : decode cX9_anew 10 = .ok (.aload_n 0, 1) := by decide +kernel
theorem dX9_anew_11 : decode cX9_anew 11 = .ok (.getfield 139, 3) := by decide +kernel
theorem dX9_anew_14 : decode cX9_anew 14 = .ok (.istore_n 1, 1) := by decide +kernel
theorem dX9_anew_15 : decode cX9_anew 15 = .ok (.aload_n 0, 1) := by decide +kernel
theorem dX9_anew_16 : decode cX9_anew 16 = .ok (.iconst 0, 1) := by decide +kernel
theorem dX9_anew_17 : decode cX9_anew 17 = .ok (.putfield 139, 3) := by decide +kernel
theorem dX9_anew_20 : decode cX9_anew 20 = .ok (.iconst 0, 1) := by decide +kernel
theorem dX9_anew_21 : decode cX9_anew 21 = .ok (.istore_n 2, 1) := by decide +kernel
theorem dX9_anew_22 : decode cX9_anew 22 = .ok (.iload_n 2, 1) := by decide +kernel
theorem dX9_anew_23 : decode cX9_anew 23 = .ok (.aload_n 0, 1) := by decide +kernel
theorem dX9_anew_24 : decode cX9_anew 24 = .ok (.getfield 99, 3) := by decide +kernel
theorem dX9_anew_27 : decode cX9_anew 27 = .ok (.if_icmp .ge 27, 3) := by decide +kernel
theorem dX9_anew_30 : decode cX9_anew 30 = .ok (.aload_n 0, 1) := by decide +kernel
theorem dX9_anew_31 : decode cX9_anew 31 = .ok (.getfield 26, 3) := by decide +kernel
theorem dX9_anew_34 : decode cX9_anew 34 = .ok (.iload_n 2, 1) := by decide +kernel
theorem dX9_anew_35 : decode cX9_anew 35 = .ok (.aaload, 1) := by decide +kernel
theorem dX9_anew_36 : decode cX9_anew 36 = .ok (.aload_n 0, 1) := by decide +kernel
theorem dX9_anew_37 : decode cX9_anew 37 = .ok (.getfield 26, 3) := by decide +kernel
theorem dX9_anew_40 : decode cX9_anew 40 = .ok (.iload_n 2, 1) := by decide +kernel
theorem dX9_anew_41 : decode cX9_anew 41 = .ok (.aaload, 1) := by decide +kernel
theorem dX9_anew_42 : decode cX9_anew 42 = .ok (.getfield 109, 3) := by decide +kernel
theorem dX9_anew_45 : decode cX9_anew 45 = .ok (.invokevirtual 135, 3) := by decide +kernel
theorem dX9_anew_48 : decode cX9_anew 48 = .ok (.iinc 2 1, 3) := by decide +kernel
theorem dX9_anew_51 : decode cX9_anew 51 = .ok (.goto (-29), 3) := by decide +kernel
theorem dX9_anew_54 : decode cX9_anew 54 = .ok (.iload_n 1, 1) := by decide +kernel
theorem dX9_anew_55 : decode cX9_anew 55 = .ok (.ireturn, 1) := by decide +kernel
theorem dX9_ask_0 : decode cX9_ask 0 = .ok (.aload_n 0, 1) := by decide +kernel
theorem dX9_ask_1 : decode cX9_ask 1 = .ok (.invokevirtual 145, 3) := by decide +kernel
theorem dX9_ask_4 : decode cX9_ask 4 = .ok (.ifCond .ne 6, 3) := by decide +kernel
theorem dX9_ask_7 : decode cX9_ask 7 = .ok (.bipush (-3), 2) := by decide +kernel
theorem dX9_ask_9 : decode cX9_ask 9 = .ok (.ireturn, 1) := by decide +kernel
theorem dX9_ask_10 : decode cX9_ask 10 = .ok (.iload_n 1, 1) := by decide +kernel
theorem dX9_ask_11 : decode cX9_ask 11 = .ok (.invokestatic 155, 3) := by decide +kernel
theorem dX9_ask_14 : decode cX9_ask 14 = .ok (.ifCond .ne 6, 3) := by decide +kernel
theorem dX9_ask_17 : decode cX9_ask 17 = .ok (.bipush (-2), 2) := by decide +kernel
theorem dX9_ask_19 : decode cX9_ask 19 = .ok (.ireturn, 1) := by decide +kernel
theorem dX9_ask_20 : decode cX9_ask 20 = .ok (.aload_n 0, 1) := by decide +kernel
theorem dX9_ask_21 : decode cX9_ask 21 = .ok (.getfield 36, 3) := by decide +kernel
theorem dX9_ask_24 : decode cX9_ask 24 = .ok (.getfield 149, 3) := by decide +kernel
theorem dX9_ask_27 : decode cX9_ask 27 = .ok (.bipush 24, 2) := by decide +kernel
theorem dX9_ask_29 : decode cX9_ask 29 = .ok (.if_icmp .lt 6, 3) := by decide +kernel
theorem dX9_ask_32 : decode cX9_ask 32 = .ok (.bipush (-4), 2) := by decide +kernel
theorem dX9_ask_34 : decode cX9_ask 34 = .ok (.ireturn, 1) := by decide +kernel
theorem dX9_ask_35 : decode cX9_ask 35 = .ok (.aload_n 0, 1) := by decide +kernel
theorem dX9_ask_36 : decode cX9_ask 36 = .ok (.getfield 36, 3) := by decide +kernel
theorem dX9_ask_39 : decode cX9_ask 39 = .ok (.iload_n 1, 1) := by decide +kernel
theorem dX9_ask_40 : decode cX9_ask 40 = .ok (.invokevirtual 158, 3) := by decide +kernel
theorem dX9_ask_43 : decode cX9_ask 43 = .ok (.aload_n 0, 1) := by decide +kernel
theorem dX9_ask_44 : decode cX9_ask 44 = .ok (.getfield 36, 3) := by decide +kernel
theorem dX9_ask_47 : decode cX9_ask 47 = .ok (.getfield 149, 3) := by decide +kernel
theorem dX9_ask_50 : decode cX9_ask 50 = .ok (.ireturn, 1) := by decide +kernel
theorem dX9_drop_0 : decode cX9_drop 0 = .ok (.aload_n 0, 1) := by decide +kernel
theorem dX9_drop_1 : decode cX9_drop 1 = .ok (.invokevirtual 145, 3) := by decide +kernel
theorem dX9_drop_4 : decode cX9_drop 4 = .ok (.ifCond .eq 28, 3) := by decide +kernel
theorem dX9_drop_7 : decode cX9_drop 7 = .ok (.aload_n 0, 1) := by decide +kernel
theorem dX9_drop_8 : decode cX9_drop 8 = .ok (.getfield 139, 3) := by decide +kernel
theorem dX9_drop_11 : decode cX9_drop 11 = .ok (.aload_n 0, 1) := by decide +kernel
theorem dX9_drop_12 : decode cX9_drop 12 = .ok (.getfield 36, 3) := by decide +kernel
theorem dX9_drop_15 : decode cX9_drop 15 = .ok (.getfield 149, 3) := by decide +kernel
theorem dX9_drop_18 : decode cX9_drop 18 = .ok (.if_icmp .eq 14, 3) := by decide +kernel
theorem dX9_drop_21 : decode cX9_drop 21 = .ok (.aload_n 0, 1) := by decide +kernel
theorem dX9_drop_22 : decode cX9_drop 22 = .ok (.getfield 36, 3) := by decide +kernel
theorem dX9_drop_25 : decode cX9_drop 25 = .ok (.getfield 149, 3) := by decide +kernel
theorem dX9_drop_28 : decode cX9_drop 28 = .ok (.iconst 1, 1) := by decide +kernel
theorem dX9_drop_29 : decode cX9_drop 29 = .ok (.if_icmp .ne 6, 3) := by decide +kernel
theorem dX9_drop_32 : decode cX9_drop 32 = .ok (.bipush (-3), 2) := by decide +kernel
theorem dX9_drop_34 : decode cX9_drop 34 = .ok (.ireturn, 1) := by decide +kernel
theorem dX9_drop_35 : decode cX9_drop 35 = .ok (.aload_n 0, 1) := by decide +kernel
theorem dX9_drop_36 : decode cX9_drop 36 = .ok (.getfield 50, 3) := by decide +kernel
theorem dX9_drop_39 : decode cX9_drop 39 = .ok (.iconst 0, 1) := by decide +kernel
theorem dX9_drop_40 : decode cX9_drop 40 = .ok (.putfield 161, 3) := by decide +kernel
theorem dX9_drop_43 : decode cX9_drop 43 = .ok (.aload_n 0, 1) := by decide +kernel
theorem dX9_drop_44 : decode cX9_drop 44 = .ok (.getfield 36, 3) := by decide +kernel
theorem dX9_drop_47 : decode cX9_drop 47 = .ok (.dup, 1) := by decide +kernel
theorem dX9_drop_48 : decode cX9_drop 48 = .ok (.getfield 149, 3) := by decide +kernel
theorem dX9_drop_51 : decode cX9_drop 51 = .ok (.iconst 1, 1) := by decide +kernel
theorem dX9_drop_52 : decode cX9_drop 52 = .ok (.isub, 1) := by decide +kernel
theorem dX9_drop_53 : decode cX9_drop 53 = .ok (.putfield 149, 3) := by decide +kernel
theorem dX9_drop_56 : decode cX9_drop 56 = .ok (.aload_n 0, 1) := by decide +kernel
theorem dX9_drop_57 : decode cX9_drop 57 = .ok (.getfield 36, 3) := by decide +kernel
theorem dX9_drop_60 : decode cX9_drop 60 = .ok (.getfield 133, 3) := by decide +kernel
theorem dX9_drop_63 : decode cX9_drop 63 = .ok (.aload_n 0, 1) := by decide +kernel
theorem dX9_drop_64 : decode cX9_drop 64 = .ok (.getfield 36, 3) := by decide +kernel
theorem dX9_drop_67 : decode cX9_drop 67 = .ok (.getfield 149, 3) := by decide +kernel
theorem dX9_drop_70 : decode cX9_drop 70 = .ok (.iaload, 1) := by decide +kernel
theorem dX9_drop_71 : decode cX9_drop 71 = .ok (.ireturn, 1) := by decide +kernel
theorem dX9_tale_0 : decode cX9_tale 0 = .ok (.iload_n 1, 1) := by decide +kernel
theorem dX9_tale_1 : decode cX9_tale 1 = .ok (.invokestatic 66, 3) := by decide +kernel
theorem dX9_tale_4 : decode cX9_tale 4 = .ok (.ifCond .eq 12, 3) := by decide +kernel
theorem dX9_tale_7 : decode cX9_tale 7 = .ok (.aload_n 0, 1) := by decide +kernel
theorem dX9_tale_8 : decode cX9_tale 8 = .ok (.iload 5, 2) := by decide +kernel
theorem dX9_tale_10 : decode cX9_tale 10 = .ok (.invokevirtual 102, 3) := by decide +kernel
theorem dX9_tale_13 : decode cX9_tale 13 = .ok (.ifCond .ne 9, 3) := by decide +kernel
theorem dX9_tale_16 : decode cX9_tale 16 = .ok (.aload_n 0, 1) := by decide +kernel
theorem dX9_tale_17 : decode cX9_tale 17 = .ok (.iconst (-1), 1) := by decide +kernel
theorem dX9_tale_18 : decode cX9_tale 18 = .ok (.invokevirtual 70, 3) := by decide +kernel
theorem dX9_tale_21 : decode cX9_tale 21 = .ok (.ireturn, 1) := by decide +kernel
theorem dX9_tale_22 : decode cX9_tale 22 = .ok (.iload_n 2, 1) := by decide +kernel
theorem dX9_tale_23 : decode cX9_tale 23 = .ok (.iconst 0, 1) := by decide +kernel
theorem dX9_tale_24 : decode cX9_tale 24 = .ok (.iconst 2, 1) := by decide +kernel
theorem dX9_tale_25 : decode cX9_tale 25 = .ok (.invokestatic 74, 3) := by decide +kernel
theorem dX9_tale_28 : decode cX9_tale 28 = .ok (.ifCond .eq 24, 3) := by decide +kernel
theorem dX9_tale_31 : decode cX9_tale 31 = .ok (.iload 4, 2) := by decide +kernel
theorem dX9_tale_33 : decode cX9_tale 33 = .ok (.iconst 0, 1) := by decide +kernel
theorem dX9_tale_34 : decode cX9_tale 34 = .ok (.bipush 20, 2) := by decide +kernel
theorem dX9_tale_36 : decode cX9_tale 36 = .ok (.invokestatic 74, 3) := by decide +kernel
theorem dX9_tale_39 : decode cX9_tale 39 = .ok (.ifCond .eq 13, 3) := by decide +kernel
theorem dX9_tale_42 : decode cX9_tale 42 = .ok (.iload 6, 2) := by decide +kernel
theorem dX9_tale_44 : decode cX9_tale 44 = .ok (.iconst 0, 1) := by decide +kernel
theorem dX9_tale_45 : decode cX9_tale 45 = .ok (.iconst 4, 1) := by decide +kernel
theorem dX9_tale_46 : decode cX9_tale 46 = .ok (.invokestatic 74, 3) := by decide +kernel
theorem dX9_tale_49 : decode cX9_tale 49 = .ok (.ifCond .ne 10, 3) := by decide +kernel
theorem dX9_tale_52 : decode cX9_tale 52 = .ok (.aload_n 0, 1) := by decide +kernel
theorem dX9_tale_53 : decode cX9_tale 53 = .ok (.bipush (-2), 2) := by decide +kernel
theorem dX9_tale_55 : decode cX9_tale 55 = .ok (.invokevirtual 70, 3) := by decide +kernel
theorem dX9_tale_58 : decode cX9_tale 58 = .ok (.ireturn, 1) := by decide +kernel
theorem dX9_tale_59 : decode cX9_tale 59 = .ok (.aload_n 0, 1) := by decide +kernel
theorem dX9_tale_60 : decode cX9_tale 60 = .ok (.getfield 13, 3) := by decide +kernel
theorem dX9_tale_63 : decode cX9_tale 63 = .ok (.iload_n 1, 1) := by decide +kernel
theorem dX9_tale_64 : decode cX9_tale 64 = .ok (.aaload, 1) := by decide +kernel
theorem dX9_tale_65 : decode cX9_tale 65 = .ok (.astore 7, 2) := by decide +kernel
theorem dX9_tale_67 : decode cX9_tale 67 = .ok (.aload 7, 2) := by decide +kernel
theorem dX9_tale_69 : decode cX9_tale 69 = .ok (.iload_n 2, 1) := by decide +kernel
theorem dX9_tale_70 : decode cX9_tale 70 = .ok (.invokevirtual 78, 3) := by decide +kernel
theorem dX9_tale_73 : decode cX9_tale 73 = .ok (.istore 8, 2) := by decide +kernel
theorem dX9_tale_75 : decode cX9_tale 75 = .ok (.iload 8, 2) := by decide +kernel
theorem dX9_tale_77 : decode cX9_tale 77 = .ok (.ifCond .ne 17, 3) := by decide +kernel
theorem dX9_tale_80 : decode cX9_tale 80 = .ok (.aload 7, 2) := by decide +kernel
theorem dX9_tale_82 : decode cX9_tale 82 = .ok (.iload_n 3, 1) := by decide +kernel
theorem dX9_tale_83 : decode cX9_tale 83 = .ok (.iload 4, 2) := by decide +kernel
theorem dX9_tale_85 : decode cX9_tale 85 = .ok (.invokevirtual 81, 3) := by decide +kernel
theorem dX9_tale_88 : decode cX9_tale 88 = .ok (.ifCond .ne 6, 3) := by decide +kernel
theorem dX9_tale_91 : decode cX9_tale 91 = .ok (.iconst 3, 1) := by decide +kernel
theorem dX9_tale_92 : decode cX9_tale 92 = .ok (.istore 8, 2) := by decide +kernel
theorem dX9_tale_94 : decode cX9_tale 94 = .ok (.iload 8, 2) := by decide +kernel
theorem dX9_tale_96 : decode cX9_tale 96 = .ok (.ifCond .eq 10, 3) := by decide +kernel
theorem dX9_tale_99 : decode cX9_tale 99 = .ok (.aload_n 0, 1) := by decide +kernel
theorem dX9_tale_100 : decode cX9_tale 100 = .ok (.iload 8, 2) := by decide +kernel
theorem dX9_tale_102 : decode cX9_tale 102 = .ok (.invokevirtual 85, 3) := by decide +kernel
theorem dX9_tale_105 : decode cX9_tale 105 = .ok (.ireturn, 1) := by decide +kernel
theorem dX9_tale_106 : decode cX9_tale 106 = .ok (.aload_n 0, 1) := by decide +kernel
theorem dX9_tale_107 : decode cX9_tale 107 = .ok (.iconst 0, 1) := by decide +kernel
theorem dX9_tale_108 : decode cX9_tale 108 = .ok (.putfield 88, 3) := by decide +kernel
theorem dX9_tale_111 : decode cX9_tale 111 = .ok (.iload_n 3, 1) := by decide +kernel
theorem dX9_tale_112 : decode cX9_tale 112 = .ok (.istore 9, 2) := by decide +kernel
theorem dX9_tale_114 : decode cX9_tale 114 = .ok (.iload 9, 2) := by decide +kernel
theorem dX9_tale_116 : decode cX9_tale 116 = .ok (.iload_n 3, 1) := by decide +kernel
theorem dX9_tale_117 : decode cX9_tale 117 = .ok (.iload 4, 2) := by decide +kernel
theorem dX9_tale_119 : decode cX9_tale 119 = .ok (.iadd, 1) := by decide +kernel
theorem dX9_tale_120 : decode cX9_tale 120 = .ok (.if_icmp .ge 26, 3) := by decide +kernel
theorem dX9_tale_123 : decode cX9_tale 123 = .ok (.aload 7, 2) := by decide +kernel
theorem dX9_tale_125 : decode cX9_tale 125 = .ok (.getfield 162, 3) := by decide +kernel
theorem dX9_tale_128 : decode cX9_tale 128 = .ok (.iload 9, 2) := by decide +kernel
theorem dX9_tale_130 : decode cX9_tale 130 = .ok (.iaload, 1) := by decide +kernel
theorem dX9_tale_131 : decode cX9_tale 131 = .ok (.invokestatic 155, 3) := by decide +kernel
theorem dX9_tale_134 : decode cX9_tale 134 = .ok (.ifCond .ne 6, 3) := by decide +kernel
theorem dX9_tale_137 : decode cX9_tale 137 = .ok (.bipush (-2), 2) := by decide +kernel
theorem dX9_tale_139 : decode cX9_tale 139 = .ok (.ireturn, 1) := by decide +kernel
theorem dX9_tale_140 : decode cX9_tale 140 = .ok (.iinc 9 1, 3) := by decide +kernel
theorem dX9_tale_143 : decode cX9_tale 143 = .ok (.goto (-29), 3) := by decide +kernel
theorem dX9_tale_146 : decode cX9_tale 146 = .ok (.aload_n 0, 1) := by decide +kernel
theorem dX9_tale_147 : decode cX9_tale 147 = .ok (.aload_n 0, 1) := by decide +kernel
theorem dX9_tale_148 : decode cX9_tale 148 = .ok (.getfield 26, 3) := by decide +kernel
theorem dX9_tale_151 : decode cX9_tale 151 = .ok (.iload 5, 2) := by decide +kernel
theorem dX9_tale_153 : decode cX9_tale 153 = .ok (.aaload, 1) := by decide +kernel
theorem dX9_tale_154 : decode cX9_tale 154 = .ok (.aload 7, 2) := by decide +kernel
theorem dX9_tale_156 : decode cX9_tale 156 = .ok (.iload_n 3, 1) := by decide +kernel
theorem dX9_tale_157 : decode cX9_tale 157 = .ok (.iload 4, 2) := by decide +kernel
theorem dX9_tale_159 : decode cX9_tale 159 = .ok (.iload 6, 2) := by decide +kernel
theorem dX9_tale_161 : decode cX9_tale 161 = .ok (.invokevirtual 165, 3) := by decide +kernel
theorem dX9_tale_164 : decode cX9_tale 164 = .ok (.ireturn, 1) := by decide +kernel
theorem dX9_misses_0 : decode cX9_misses 0 = .ok (.aload_n 0, 1) := by decide +kernel
theorem dX9_misses_1 : decode cX9_misses 1 = .ok (.iload_n 1, 1) := by decide +kernel
theorem dX9_misses_2 : decode cX9_misses 2 = .ok (.invokevirtual 102, 3) := by decide +kernel
theorem dX9_misses_5 : decode cX9_misses 5 = .ok (.ifCond .ne 5, 3) := by decide +kernel
theorem dX9_misses_8 : decode cX9_misses 8 = .ok (.iconst (-1), 1) := by decide +kernel
theorem dX9_misses_9 : decode cX9_misses 9 = .ok (.ireturn, 1) := by decide +kernel
theorem dX9_misses_10 : decode cX9_misses 10 = .ok (.iload_n 2, 1) := by decide +kernel
theorem dX9_misses_11 : decode cX9_misses 11 = .ok (.iconst 1, 1) := by decide +kernel
theorem dX9_misses_12 : decode cX9_misses 12 = .ok (.bipush 8, 2) := by decide +kernel
theorem dX9_misses_14 : decode cX9_misses 14 = .ok (.invokestatic 74, 3) := by decide +kernel
theorem dX9_misses_17 : decode cX9_misses 17 = .ok (.ifCond .eq 12, 3) := by decide +kernel
theorem dX9_misses_20 : decode cX9_misses 20 = .ok (.aload_n 0, 1) := by decide +kernel
theorem dX9_misses_21 : decode cX9_misses 21 = .ok (.iload_n 1, 1) := by decide +kernel
theorem dX9_misses_22 : decode cX9_misses 22 = .ok (.iload_n 2, 1) := by decide +kernel
theorem dX9_misses_23 : decode cX9_misses 23 = .ok (.invokevirtual 169, 3) := by decide +kernel
theorem dX9_misses_26 : decode cX9_misses 26 = .ok (.goto 5, 3) := by decide +kernel
theorem dX9_misses_29 : decode cX9_misses 29 = .ok (.bipush (-2), 2) := by decide +kernel
theorem dX9_misses_31 : decode cX9_misses 31 = .ok (.ireturn, 1) := by decide +kernel
theorem dX9_odd_0 : decode cX9_odd 0 = .ok (.aload_n 0, 1) := by decide +kernel
theorem dX9_odd_1 : decode cX9_odd 1 = .ok (.iload_n 1, 1) := by decide +kernel
theorem dX9_odd_2 : decode cX9_odd 2 = .ok (.invokevirtual 102, 3) := by decide +kernel
theorem dX9_odd_5 : decode cX9_odd 5 = .ok (.ifCond .ne 5, 3) := by decide +kernel
theorem dX9_odd_8 : decode cX9_odd 8 = .ok (.iconst (-1), 1) := by decide +kernel
theorem dX9_odd_9 : decode cX9_odd 9 = .ok (.ireturn, 1) := by decide +kernel
theorem dX9_odd_10 : decode cX9_odd 10 = .ok (.aload_n 0, 1) := by decide +kernel
theorem dX9_odd_11 : decode cX9_odd 11 = .ok (.iload_n 1, 1) := by decide +kernel
theorem dX9_odd_12 : decode cX9_odd 12 = .ok (.iconst 1, 1) := by decide +kernel
theorem dX9_odd_13 : decode cX9_odd 13 = .ok (.invokevirtual 169, 3) := by decide +kernel
theorem dX9_odd_16 : decode cX9_odd 16 = .ok (.istore_n 2, 1) := by decide +kernel
theorem dX9_odd_17 : decode cX9_odd 17 = .ok (.iconst 1, 1) := by decide +kernel
theorem dX9_odd_18 : decode cX9_odd 18 = .ok (.istore_n 3, 1) := by decide +kernel
theorem dX9_odd_19 : decode cX9_odd 19 = .ok (.iload_n 3, 1) := by decide +kernel
theorem dX9_odd_20 : decode cX9_odd 20 = .ok (.bipush 8, 2) := by decide +kernel
theorem dX9_odd_22 : decode cX9_odd 22 = .ok (.if_icmp .ge 30, 3) := by decide +kernel
theorem dX9_odd_25 : decode cX9_odd 25 = .ok (.aload_n 0, 1) := by decide +kernel
theorem dX9_odd_26 : decode cX9_odd 26 = .ok (.iload_n 1, 1) := by decide +kernel
theorem dX9_odd_27 : decode cX9_odd 27 = .ok (.iload_n 3, 1) := by decide +kernel
theorem dX9_odd_28 : decode cX9_odd 28 = .ok (.iconst 1, 1) := by decide +kernel
theorem dX9_odd_29 : decode cX9_odd 29 = .ok (.iadd, 1) := by decide +kernel
theorem dX9_odd_30 : decode cX9_odd 30 = .ok (.invokevirtual 169, 3) := by decide +kernel
theorem dX9_odd_33 : decode cX9_odd 33 = .ok (.istore 4, 2) := by decide +kernel
theorem dX9_odd_35 : decode cX9_odd 35 = .ok (.iload_n 2, 1) := by decide +kernel
theorem dX9_odd_36 : decode cX9_odd 36 = .ok (.iload 4, 2) := by decide +kernel
theorem dX9_odd_38 : decode cX9_odd 38 = .ok (.if_icmp .ge 5, 3) := by decide +kernel
theorem dX9_odd_41 : decode cX9_odd 41 = .ok (.iload_n 3, 1) := by decide +kernel
theorem dX9_odd_42 : decode cX9_odd 42 = .ok (.ireturn, 1) := by decide +kernel
theorem dX9_odd_43 : decode cX9_odd 43 = .ok (.iload 4, 2) := by decide +kernel
theorem dX9_odd_45 : decode cX9_odd 45 = .ok (.istore_n 2, 1) := by decide +kernel
theorem dX9_odd_46 : decode cX9_odd 46 = .ok (.iinc 3 1, 3) := by decide +kernel
theorem dX9_odd_49 : decode cX9_odd 49 = .ok (.goto (-30), 3) := by decide +kernel
theorem dX9_odd_52 : decode cX9_odd 52 = .ok (.bipush (-9), 2) := by decide +kernel
theorem dX9_odd_54 : decode cX9_odd 54 = .ok (.ireturn, 1) := by decide +kernel
theorem dX9_need_0 : decode cX9_need 0 = .ok (.aload_n 0, 1) := by decide +kernel
theorem dX9_need_1 : decode cX9_need 1 = .ok (.iload_n 1, 1) := by decide +kernel
theorem dX9_need_2 : decode cX9_need 2 = .ok (.invokevirtual 102, 3) := by decide +kernel
theorem dX9_need_5 : decode cX9_need 5 = .ok (.ifCond .ne 5, 3) := by decide +kernel
theorem dX9_need_8 : decode cX9_need 8 = .ok (.iconst (-1), 1) := by decide +kernel
theorem dX9_need_9 : decode cX9_need 9 = .ok (.ireturn, 1) := by decide +kernel
theorem dX9_need_10 : decode cX9_need 10 = .ok (.iload_n 2, 1) := by decide +kernel
theorem dX9_need_11 : decode cX9_need 11 = .ok (.iconst 0, 1) := by decide +kernel
theorem dX9_need_12 : decode cX9_need 12 = .ok (.bipush 24, 2) := by decide +kernel
theorem dX9_need_14 : decode cX9_need 14 = .ok (.invokestatic 74, 3) := by decide +kernel
theorem dX9_need_17 : decode cX9_need 17 = .ok (.ifCond .ne 6, 3) := by decide +kernel
theorem dX9_need_20 : decode cX9_need 20 = .ok (.bipush (-2), 2) := by decide +kernel
theorem dX9_need_22 : decode cX9_need 22 = .ok (.ireturn, 1) := by decide +kernel
theorem dX9_need_23 : decode cX9_need 23 = .ok (.iconst 1, 1) := by decide +kernel
theorem dX9_need_24 : decode cX9_need 24 = .ok (.istore_n 3, 1) := by decide +kernel
theorem dX9_need_25 : decode cX9_need 25 = .ok (.iload_n 3, 1) := by decide +kernel
theorem dX9_need_26 : decode cX9_need 26 = .ok (.bipush 8, 2) := by decide +kernel
theorem dX9_need_28 : decode cX9_need 28 = .ok (.if_icmp .gt 21, 3) := by decide +kernel
theorem dX9_need_31 : decode cX9_need 31 = .ok (.aload_n 0, 1) := by decide +kernel
theorem dX9_need_32 : decode cX9_need 32 = .ok (.iload_n 1, 1) := by decide +kernel
theorem dX9_need_33 : decode cX9_need 33 = .ok (.iload_n 3, 1) := by decide +kernel
theorem dX9_need_34 : decode cX9_need 34 = .ok (.invokevirtual 169, 3) := by decide +kernel
theorem dX9_need_37 : decode cX9_need 37 = .ok (.iload_n 2, 1) := by decide +kernel
theorem dX9_need_38 : decode cX9_need 38 = .ok (.if_icmp .gt 5, 3) := by decide +kernel
theorem dX9_need_41 : decode cX9_need 41 = .ok (.iload_n 3, 1) := by decide +kernel
theorem dX9_need_42 : decode cX9_need 42 = .ok (.ireturn, 1) := by decide +kernel
theorem dX9_need_43 : decode cX9_need 43 = .ok (.iinc 3 1, 3) := by decide +kernel
theorem dX9_need_46 : decode cX9_need 46 = .ok (.goto (-21), 3) := by decide +kernel
theorem dX9_need_49 : decode cX9_need 49 = .ok (.bipush (-9), 2) := by decide +kernel
theorem dX9_need_51 : decode cX9_need 51 = .ok (.ireturn, 1) := by decide +kernel
theorem dX9_fewest_0 : decode cX9_fewest 0 = .ok (.aload_n 0, 1) := by decide +kernel
theorem dX9_fewest_1 : decode cX9_fewest 1 = .ok (.invokevirtual 145, 3) := by decide +kernel
theorem dX9_fewest_4 : decode cX9_fewest 4 = .ok (.ifCond .ne 6, 3) := by decide +kernel
theorem dX9_fewest_7 : decode cX9_fewest 7 = .ok (.bipush (-3), 2) := by decide +kernel
theorem dX9_fewest_9 : decode cX9_fewest 9 = .ok (.ireturn, 1) := by decide +kernel
theorem dX9_fewest_10 : decode cX9_fewest 10 = .ok (.iload_n 1, 1) := by decide +kernel
theorem dX9_fewest_11 : decode cX9_fewest 11 = .ok (.iconst 1, 1) := by decide +kernel
theorem dX9_fewest_12 : decode cX9_fewest 12 = .ok (.bipush 8, 2) := by decide +kernel
theorem dX9_fewest_14 : decode cX9_fewest 14 = .ok (.invokestatic 74, 3) := by decide +kernel
theorem dX9_fewest_17 : decode cX9_fewest 17 = .ok (.ifCond .ne 6, 3) := by decide +kernel
theorem dX9_fewest_20 : decode cX9_fewest 20 = .ok (.bipush (-2), 2) := by decide +kernel
theorem dX9_fewest_22 : decode cX9_fewest 22 = .ok (.ireturn, 1) := by decide +kernel
theorem dX9_fewest_23 : decode cX9_fewest 23 = .ok (.aload_n 0, 1) := by decide +kernel
theorem dX9_fewest_24 : decode cX9_fewest 24 = .ok (.getfield 43, 3) := by decide +kernel
theorem dX9_fewest_27 : decode cX9_fewest 27 = .ok (.aload_n 0, 1) := by decide +kernel
theorem dX9_fewest_28 : decode cX9_fewest 28 = .ok (.getfield 36, 3) := by decide +kernel
theorem dX9_fewest_31 : decode cX9_fewest 31 = .ok (.iload_n 1, 1) := by decide +kernel
theorem dX9_fewest_32 : decode cX9_fewest 32 = .ok (.invokevirtual 173, 3) := by decide +kernel
theorem dX9_fewest_35 : decode cX9_fewest 35 = .ok (.aload_n 0, 1) := by decide +kernel
theorem dX9_fewest_36 : decode cX9_fewest 36 = .ok (.getfield 43, 3) := by decide +kernel
theorem dX9_fewest_39 : decode cX9_fewest 39 = .ok (.getfield 177, 3) := by decide +kernel
theorem dX9_fewest_42 : decode cX9_fewest 42 = .ok (.ireturn, 1) := by decide +kernel
theorem dX9_latest_0 : decode cX9_latest 0 = .ok (.aload_n 0, 1) := by decide +kernel
theorem dX9_latest_1 : decode cX9_latest 1 = .ok (.getfield 36, 3) := by decide +kernel
theorem dX9_latest_4 : decode cX9_latest 4 = .ok (.iload_n 2, 1) := by decide +kernel
theorem dX9_latest_5 : decode cX9_latest 5 = .ok (.invokevirtual 131, 3) := by decide +kernel
theorem dX9_latest_8 : decode cX9_latest 8 = .ok (.ifCond .ne 5, 3) := by decide +kernel
theorem dX9_latest_11 : decode cX9_latest 11 = .ok (.iconst (-1), 1) := by decide +kernel
theorem dX9_latest_12 : decode cX9_latest 12 = .ok (.ireturn, 1) := by decide +kernel
theorem dX9_latest_13 : decode cX9_latest 13 = .ok (.iload_n 1, 1) := by decide +kernel
theorem dX9_latest_14 : decode cX9_latest 14 = .ok (.iconst 1, 1) := by decide +kernel
theorem dX9_latest_15 : decode cX9_latest 15 = .ok (.bipush 8, 2) := by decide +kernel
theorem dX9_latest_17 : decode cX9_latest 17 = .ok (.invokestatic 74, 3) := by decide +kernel
theorem dX9_latest_20 : decode cX9_latest 20 = .ok (.ifCond .ne 6, 3) := by decide +kernel
theorem dX9_latest_23 : decode cX9_latest 23 = .ok (.bipush (-2), 2) := by decide +kernel
theorem dX9_latest_25 : decode cX9_latest 25 = .ok (.ireturn, 1) := by decide +kernel
theorem dX9_latest_26 : decode cX9_latest 26 = .ok (.aload_n 0, 1) := by decide +kernel
theorem dX9_latest_27 : decode cX9_latest 27 = .ok (.getfield 43, 3) := by decide +kernel
theorem dX9_latest_30 : decode cX9_latest 30 = .ok (.aload_n 0, 1) := by decide +kernel
theorem dX9_latest_31 : decode cX9_latest 31 = .ok (.getfield 36, 3) := by decide +kernel
theorem dX9_latest_34 : decode cX9_latest 34 = .ok (.iload_n 1, 1) := by decide +kernel
theorem dX9_latest_35 : decode cX9_latest 35 = .ok (.invokevirtual 173, 3) := by decide +kernel
theorem dX9_latest_38 : decode cX9_latest 38 = .ok (.aload_n 0, 1) := by decide +kernel
theorem dX9_latest_39 : decode cX9_latest 39 = .ok (.getfield 43, 3) := by decide +kernel
theorem dX9_latest_42 : decode cX9_latest 42 = .ok (.getfield 178, 3) := by decide +kernel
theorem dX9_latest_45 : decode cX9_latest 45 = .ok (.iload_n 2, 1) := by decide +kernel
theorem dX9_latest_46 : decode cX9_latest 46 = .ok (.iaload, 1) := by decide +kernel
theorem dX9_latest_47 : decode cX9_latest 47 = .ok (.ireturn, 1) := by decide +kernel
theorem dX9_depth_0 : decode cX9_depth 0 = .ok (.aload_n 0, 1) := by decide +kernel
theorem dX9_depth_1 : decode cX9_depth 1 = .ok (.getfield 36, 3) := by decide +kernel
theorem dX9_depth_4 : decode cX9_depth 4 = .ok (.iload_n 1, 1) := by decide +kernel
theorem dX9_depth_5 : decode cX9_depth 5 = .ok (.invokevirtual 131, 3) := by decide +kernel
theorem dX9_depth_8 : decode cX9_depth 8 = .ok (.ifCond .ne 5, 3) := by decide +kernel
theorem dX9_depth_11 : decode cX9_depth 11 = .ok (.iconst (-1), 1) := by decide +kernel
theorem dX9_depth_12 : decode cX9_depth 12 = .ok (.ireturn, 1) := by decide +kernel
theorem dX9_depth_13 : decode cX9_depth 13 = .ok (.aload_n 0, 1) := by decide +kernel
theorem dX9_depth_14 : decode cX9_depth 14 = .ok (.getfield 36, 3) := by decide +kernel
theorem dX9_depth_17 : decode cX9_depth 17 = .ok (.iload_n 1, 1) := by decide +kernel
theorem dX9_depth_18 : decode cX9_depth 18 = .ok (.invokevirtual 181, 3) := by decide +kernel
theorem dX9_depth_21 : decode cX9_depth 21 = .ok (.istore_n 2, 1) := by decide +kernel
theorem dX9_depth_22 : decode cX9_depth 22 = .ok (.iload_n 2, 1) := by decide +kernel
theorem dX9_depth_23 : decode cX9_depth 23 = .ok (.bipush (-9), 2) := by decide +kernel
theorem dX9_depth_25 : decode cX9_depth 25 = .ok (.if_icmp .ne 8, 3) := by decide +kernel
theorem dX9_depth_28 : decode cX9_depth 28 = .ok (.bipush (-9), 2) := by decide +kernel
theorem dX9_depth_30 : decode cX9_depth 30 = .ok (.goto 15, 3) := by decide +kernel
theorem dX9_depth_33 : decode cX9_depth 33 = .ok (.aload_n 0, 1) := by decide +kernel
theorem dX9_depth_34 : decode cX9_depth 34 = .ok (.getfield 36, 3) := by decide +kernel
theorem dX9_depth_37 : decode cX9_depth 37 = .ok (.iload_n 2, 1) := by decide +kernel
theorem dX9_depth_38 : decode cX9_depth 38 = .ok (.iload_n 1, 1) := by decide +kernel
theorem dX9_depth_39 : decode cX9_depth 39 = .ok (.invokevirtual 184, 3) := by decide +kernel
theorem dX9_depth_42 : decode cX9_depth 42 = .ok (.invokestatic 187, 3) := by decide +kernel
theorem dX9_depth_45 : decode cX9_depth 45 = .ok (.ireturn, 1) := by decide +kernel
theorem dX9_work_0 : decode cX9_work 0 = .ok (.aload_n 0, 1) := by decide +kernel
theorem dX9_work_1 : decode cX9_work 1 = .ok (.getfield 36, 3) := by decide +kernel
theorem dX9_work_4 : decode cX9_work 4 = .ok (.iload_n 1, 1) := by decide +kernel
theorem dX9_work_5 : decode cX9_work 5 = .ok (.invokevirtual 131, 3) := by decide +kernel
theorem dX9_work_8 : decode cX9_work 8 = .ok (.ifCond .ne 5, 3) := by decide +kernel
theorem dX9_work_11 : decode cX9_work 11 = .ok (.iconst (-1), 1) := by decide +kernel
theorem dX9_work_12 : decode cX9_work 12 = .ok (.ireturn, 1) := by decide +kernel
theorem dX9_work_13 : decode cX9_work 13 = .ok (.iload_n 2, 1) := by decide +kernel
theorem dX9_work_14 : decode cX9_work 14 = .ok (.iconst 1, 1) := by decide +kernel
theorem dX9_work_15 : decode cX9_work 15 = .ok (.bipush 24, 2) := by decide +kernel
theorem dX9_work_17 : decode cX9_work 17 = .ok (.invokestatic 74, 3) := by decide +kernel
theorem dX9_work_20 : decode cX9_work 20 = .ok (.ifCond .ne 6, 3) := by decide +kernel
theorem dX9_work_23 : decode cX9_work 23 = .ok (.bipush (-2), 2) := by decide +kernel
theorem dX9_work_25 : decode cX9_work 25 = .ok (.ireturn, 1) := by decide +kernel
theorem dX9_work_26 : decode cX9_work 26 = .ok (.aload_n 0, 1) := by decide +kernel
theorem dX9_work_27 : decode cX9_work 27 = .ok (.getfield 36, 3) := by decide +kernel
theorem dX9_work_30 : decode cX9_work 30 = .ok (.iconst 0, 1) := by decide +kernel
theorem dX9_work_31 : decode cX9_work 31 = .ok (.iload_n 1, 1) := by decide +kernel
theorem dX9_work_32 : decode cX9_work 32 = .ok (.iload_n 2, 1) := by decide +kernel
theorem dX9_work_33 : decode cX9_work 33 = .ok (.isub, 1) := by decide +kernel
theorem dX9_work_34 : decode cX9_work 34 = .ok (.iconst 1, 1) := by decide +kernel
theorem dX9_work_35 : decode cX9_work 35 = .ok (.iadd, 1) := by decide +kernel
theorem dX9_work_36 : decode cX9_work 36 = .ok (.invokestatic 192, 3) := by decide +kernel
theorem dX9_work_39 : decode cX9_work 39 = .ok (.iload_n 1, 1) := by decide +kernel
theorem dX9_work_40 : decode cX9_work 40 = .ok (.invokevirtual 184, 3) := by decide +kernel
theorem dX9_work_43 : decode cX9_work 43 = .ok (.ireturn, 1) := by decide +kernel
theorem dX9_reading_0 : decode cX9_reading 0 = .ok (.aload_n 0, 1) := by decide +kernel
theorem dX9_reading_1 : decode cX9_reading 1 = .ok (.iload_n 1, 1) := by decide +kernel
theorem dX9_reading_2 : decode cX9_reading 2 = .ok (.invokevirtual 102, 3) := by decide +kernel
theorem dX9_reading_5 : decode cX9_reading 5 = .ok (.ifCond .eq 14, 3) := by decide +kernel
theorem dX9_reading_8 : decode cX9_reading 8 = .ok (.aload_n 0, 1) := by decide +kernel
theorem dX9_reading_9 : decode cX9_reading 9 = .ok (.getfield 36, 3) := by decide +kernel
theorem dX9_reading_12 : decode cX9_reading 12 = .ok (.iload_n 2, 1) := by decide +kernel
theorem dX9_reading_13 : decode cX9_reading 13 = .ok (.invokevirtual 131, 3) := by decide +kernel
theorem dX9_reading_16 : decode cX9_reading 16 = .ok (.ifCond .ne 5, 3) := by decide +kernel
theorem dX9_reading_19 : decode cX9_reading 19 = .ok (.iconst (-1), 1) := by decide +kernel
theorem dX9_reading_20 : decode cX9_reading 20 = .ok (.ireturn, 1) := by decide +kernel
theorem dX9_reading_21 : decode cX9_reading 21 = .ok (.iload_n 3, 1) := by decide +kernel
theorem dX9_reading_22 : decode cX9_reading 22 = .ok (.iconst 0, 1) := by decide +kernel
theorem dX9_reading_23 : decode cX9_reading 23 = .ok (.iconst 1, 1) := by decide +kernel
theorem dX9_reading_24 : decode cX9_reading 24 = .ok (.invokestatic 74, 3) := by decide +kernel
theorem dX9_reading_27 : decode cX9_reading 27 = .ok (.ifCond .ne 6, 3) := by decide +kernel
theorem dX9_reading_30 : decode cX9_reading 30 = .ok (.bipush (-2), 2) := by decide +kernel
theorem dX9_reading_32 : decode cX9_reading 32 = .ok (.ireturn, 1) := by decide +kernel
theorem dX9_reading_33 : decode cX9_reading 33 = .ok (.aload_n 0, 1) := by decide +kernel
theorem dX9_reading_34 : decode cX9_reading 34 = .ok (.getfield 50, 3) := by decide +kernel
theorem dX9_reading_37 : decode cX9_reading 37 = .ok (.getfield 161, 3) := by decide +kernel
theorem dX9_reading_40 : decode cX9_reading 40 = .ok (.bipush 8, 2) := by decide +kernel
theorem dX9_reading_42 : decode cX9_reading 42 = .ok (.if_icmp .lt 6, 3) := by decide +kernel
theorem dX9_reading_45 : decode cX9_reading 45 = .ok (.bipush (-4), 2) := by decide +kernel
theorem dX9_reading_47 : decode cX9_reading 47 = .ok (.ireturn, 1) := by decide +kernel
theorem dX9_reading_48 : decode cX9_reading 48 = .ok (.aload_n 0, 1) := by decide +kernel
theorem dX9_reading_49 : decode cX9_reading 49 = .ok (.getfield 50, 3) := by decide +kernel
theorem dX9_reading_52 : decode cX9_reading 52 = .ok (.iload_n 1, 1) := by decide +kernel
theorem dX9_reading_53 : decode cX9_reading 53 = .ok (.iload_n 2, 1) := by decide +kernel
theorem dX9_reading_54 : decode cX9_reading 54 = .ok (.iload_n 3, 1) := by decide +kernel
theorem dX9_reading_55 : decode cX9_reading 55 = .ok (.invokevirtual 197, 3) := by decide +kernel
theorem dX9_reading_58 : decode cX9_reading 58 = .ok (.aload_n 0, 1) := by decide +kernel
theorem dX9_reading_59 : decode cX9_reading 59 = .ok (.getfield 50, 3) := by decide +kernel
theorem dX9_reading_62 : decode cX9_reading 62 = .ok (.getfield 161, 3) := by decide +kernel
theorem dX9_reading_65 : decode cX9_reading 65 = .ok (.iconst 1, 1) := by decide +kernel
theorem dX9_reading_66 : decode cX9_reading 66 = .ok (.isub, 1) := by decide +kernel
theorem dX9_reading_67 : decode cX9_reading 67 = .ok (.ireturn, 1) := by decide +kernel
theorem dX9_back_0 : decode cX9_back 0 = .ok (.iload_n 1, 1) := by decide +kernel
theorem dX9_back_1 : decode cX9_back 1 = .ok (.iconst 0, 1) := by decide +kernel
theorem dX9_back_2 : decode cX9_back 2 = .ok (.aload_n 0, 1) := by decide +kernel
theorem dX9_back_3 : decode cX9_back 3 = .ok (.getfield 50, 3) := by decide +kernel
theorem dX9_back_6 : decode cX9_back 6 = .ok (.getfield 161, 3) := by decide +kernel
theorem dX9_back_9 : decode cX9_back 9 = .ok (.invokestatic 74, 3) := by decide +kernel
theorem dX9_back_12 : decode cX9_back 12 = .ok (.ifCond .ne 6, 3) := by decide +kernel
theorem dX9_back_15 : decode cX9_back 15 = .ok (.bipush (-2), 2) := by decide +kernel
theorem dX9_back_17 : decode cX9_back 17 = .ok (.ireturn, 1) := by decide +kernel
theorem dX9_back_18 : decode cX9_back 18 = .ok (.aload_n 0, 1) := by decide +kernel
theorem dX9_back_19 : decode cX9_back 19 = .ok (.getfield 50, 3) := by decide +kernel
theorem dX9_back_22 : decode cX9_back 22 = .ok (.dup, 1) := by decide +kernel
theorem dX9_back_23 : decode cX9_back 23 = .ok (.getfield 161, 3) := by decide +kernel
theorem dX9_back_26 : decode cX9_back 26 = .ok (.iload_n 1, 1) := by decide +kernel
theorem dX9_back_27 : decode cX9_back 27 = .ok (.isub, 1) := by decide +kernel
theorem dX9_back_28 : decode cX9_back 28 = .ok (.putfield 161, 3) := by decide +kernel
theorem dX9_back_31 : decode cX9_back 31 = .ok (.aload_n 0, 1) := by decide +kernel
theorem dX9_back_32 : decode cX9_back 32 = .ok (.getfield 50, 3) := by decide +kernel
theorem dX9_back_35 : decode cX9_back 35 = .ok (.getfield 161, 3) := by decide +kernel
theorem dX9_back_38 : decode cX9_back 38 = .ok (.ireturn, 1) := by decide +kernel
theorem dX9_sizes_0 : decode cX9_sizes 0 = .ok (.aload_n 0, 1) := by decide +kernel
theorem dX9_sizes_1 : decode cX9_sizes 1 = .ok (.iload_n 1, 1) := by decide +kernel
theorem dX9_sizes_2 : decode cX9_sizes 2 = .ok (.invokevirtual 102, 3) := by decide +kernel
theorem dX9_sizes_5 : decode cX9_sizes 5 = .ok (.ifCond .ne 5, 3) := by decide +kernel
theorem dX9_sizes_8 : decode cX9_sizes 8 = .ok (.iconst (-1), 1) := by decide +kernel
theorem dX9_sizes_9 : decode cX9_sizes 9 = .ok (.ireturn, 1) := by decide +kernel
theorem dX9_sizes_10 : decode cX9_sizes 10 = .ok (.iconst 0, 1) := by decide +kernel
theorem dX9_sizes_11 : decode cX9_sizes 11 = .ok (.istore_n 2, 1) := by decide +kernel
theorem dX9_sizes_12 : decode cX9_sizes 12 = .ok (.aload_n 0, 1) := by decide +kernel
theorem dX9_sizes_13 : decode cX9_sizes 13 = .ok (.iload_n 1, 1) := by decide +kernel
theorem dX9_sizes_14 : decode cX9_sizes 14 = .ok (.invokevirtual 200, 3) := by decide +kernel
theorem dX9_sizes_17 : decode cX9_sizes 17 = .ok (.ifCond .eq 51, 3) := by decide +kernel
theorem dX9_sizes_20 : decode cX9_sizes 20 = .ok (.iconst 1, 1) := by decide +kernel
theorem dX9_sizes_21 : decode cX9_sizes 21 = .ok (.istore_n 3, 1) := by decide +kernel
theorem dX9_sizes_22 : decode cX9_sizes 22 = .ok (.iload_n 3, 1) := by decide +kernel
theorem dX9_sizes_23 : decode cX9_sizes 23 = .ok (.iconst 5, 1) := by decide +kernel
theorem dX9_sizes_24 : decode cX9_sizes 24 = .ok (.if_icmp .gt 44, 3) := by decide +kernel
theorem dX9_sizes_27 : decode cX9_sizes 27 = .ok (.iload_n 2, 1) := by decide +kernel
theorem dX9_sizes_28 : decode cX9_sizes 28 = .ok (.aload_n 0, 1) := by decide +kernel
theorem dX9_sizes_29 : decode cX9_sizes 29 = .ok (.getfield 50, 3) := by decide +kernel
theorem dX9_sizes_32 : decode cX9_sizes 32 = .ok (.iload_n 1, 1) := by decide +kernel
theorem dX9_sizes_33 : decode cX9_sizes 33 = .ok (.aload_n 0, 1) := by decide +kernel
theorem dX9_sizes_34 : decode cX9_sizes 34 = .ok (.aload_n 0, 1) := by decide +kernel
theorem dX9_sizes_35 : decode cX9_sizes 35 = .ok (.getfield 26, 3) := by decide +kernel
theorem dX9_sizes_38 : decode cX9_sizes 38 = .ok (.iload_n 1, 1) := by decide +kernel
theorem dX9_sizes_39 : decode cX9_sizes 39 = .ok (.aaload, 1) := by decide +kernel
theorem dX9_sizes_40 : decode cX9_sizes 40 = .ok (.invokevirtual 105, 3) := by decide +kernel
theorem dX9_sizes_43 : decode cX9_sizes 43 = .ok (.iload_n 3, 1) := by decide +kernel
theorem dX9_sizes_44 : decode cX9_sizes 44 = .ok (.invokevirtual 203, 3) := by decide +kernel
theorem dX9_sizes_47 : decode cX9_sizes 47 = .ok (.invokevirtual 206, 3) := by decide +kernel
theorem dX9_sizes_50 : decode cX9_sizes 50 = .ok (.ifCond .eq 9, 3) := by decide +kernel
theorem dX9_sizes_53 : decode cX9_sizes 53 = .ok (.iconst 1, 1) := by decide +kernel
theorem dX9_sizes_54 : decode cX9_sizes 54 = .ok (.iload_n 3, 1) := by decide +kernel
theorem dX9_sizes_55 : decode cX9_sizes 55 = .ok (.ishl, 1) := by decide +kernel
theorem dX9_sizes_56 : decode cX9_sizes 56 = .ok (.goto 4, 3) := by decide +kernel
theorem dX9_sizes_59 : decode cX9_sizes 59 = .ok (.iconst 0, 1) := by decide +kernel
theorem dX9_sizes_60 : decode cX9_sizes 60 = .ok (.ior, 1) := by decide +kernel
theorem dX9_sizes_61 : decode cX9_sizes 61 = .ok (.istore_n 2, 1) := by decide +kernel
theorem dX9_sizes_62 : decode cX9_sizes 62 = .ok (.iinc 3 1, 3) := by decide +kernel
theorem dX9_sizes_65 : decode cX9_sizes 65 = .ok (.goto (-43), 3) := by decide +kernel
theorem dX9_sizes_68 : decode cX9_sizes 68 = .ok (.iload_n 2, 1) := by decide +kernel
theorem dX9_sizes_69 : decode cX9_sizes 69 = .ok (.ireturn, 1) := by decide +kernel
theorem dX9_kinds_0 : decode cX9_kinds 0 = .ok (.aload_n 0, 1) := by decide +kernel
theorem dX9_kinds_1 : decode cX9_kinds 1 = .ok (.iload_n 1, 1) := by decide +kernel
theorem dX9_kinds_2 : decode cX9_kinds 2 = .ok (.invokevirtual 102, 3) := by decide +kernel
theorem dX9_kinds_5 : decode cX9_kinds 5 = .ok (.ifCond .ne 5, 3) := by decide +kernel
theorem dX9_kinds_8 : decode cX9_kinds 8 = .ok (.iconst (-1), 1) := by decide +kernel
theorem dX9_kinds_9 : decode cX9_kinds 9 = .ok (.ireturn, 1) := by decide +kernel
theorem dX9_kinds_10 : decode cX9_kinds 10 = .ok (.iconst 0, 1) := by decide +kernel
theorem dX9_kinds_11 : decode cX9_kinds 11 = .ok (.istore_n 2, 1) := by decide +kernel
theorem dX9_kinds_12 : decode cX9_kinds 12 = .ok (.aload_n 0, 1) := by decide +kernel
theorem dX9_kinds_13 : decode cX9_kinds 13 = .ok (.iload_n 1, 1) := by decide +kernel
theorem dX9_kinds_14 : decode cX9_kinds 14 = .ok (.invokevirtual 200, 3) := by decide +kernel
theorem dX9_kinds_17 : decode cX9_kinds 17 = .ok (.ifCond .eq 51, 3) := by decide +kernel
theorem dX9_kinds_20 : decode cX9_kinds 20 = .ok (.iconst 0, 1) := by decide +kernel
theorem dX9_kinds_21 : decode cX9_kinds 21 = .ok (.istore_n 3, 1) := by decide +kernel
theorem dX9_kinds_22 : decode cX9_kinds 22 = .ok (.iload_n 3, 1) := by decide +kernel
theorem dX9_kinds_23 : decode cX9_kinds 23 = .ok (.iconst 3, 1) := by decide +kernel
theorem dX9_kinds_24 : decode cX9_kinds 24 = .ok (.if_icmp .ge 44, 3) := by decide +kernel
theorem dX9_kinds_27 : decode cX9_kinds 27 = .ok (.iload_n 2, 1) := by decide +kernel
theorem dX9_kinds_28 : decode cX9_kinds 28 = .ok (.aload_n 0, 1) := by decide +kernel
theorem dX9_kinds_29 : decode cX9_kinds 29 = .ok (.getfield 50, 3) := by decide +kernel
theorem dX9_kinds_32 : decode cX9_kinds 32 = .ok (.iload_n 1, 1) := by decide +kernel
theorem dX9_kinds_33 : decode cX9_kinds 33 = .ok (.aload_n 0, 1) := by decide +kernel
theorem dX9_kinds_34 : decode cX9_kinds 34 = .ok (.iload_n 3, 1) := by decide +kernel
theorem dX9_kinds_35 : decode cX9_kinds 35 = .ok (.aload_n 0, 1) := by decide +kernel
theorem dX9_kinds_36 : decode cX9_kinds 36 = .ok (.getfield 26, 3) := by decide +kernel
theorem dX9_kinds_39 : decode cX9_kinds 39 = .ok (.iload_n 1, 1) := by decide +kernel
theorem dX9_kinds_40 : decode cX9_kinds 40 = .ok (.aaload, 1) := by decide +kernel
theorem dX9_kinds_41 : decode cX9_kinds 41 = .ok (.getfield 109, 3) := by decide +kernel
theorem dX9_kinds_44 : decode cX9_kinds 44 = .ok (.invokevirtual 203, 3) := by decide +kernel
theorem dX9_kinds_47 : decode cX9_kinds 47 = .ok (.invokevirtual 206, 3) := by decide +kernel
theorem dX9_kinds_50 : decode cX9_kinds 50 = .ok (.ifCond .eq 9, 3) := by decide +kernel
theorem dX9_kinds_53 : decode cX9_kinds 53 = .ok (.iconst 1, 1) := by decide +kernel
theorem dX9_kinds_54 : decode cX9_kinds 54 = .ok (.iload_n 3, 1) := by decide +kernel
theorem dX9_kinds_55 : decode cX9_kinds 55 = .ok (.ishl, 1) := by decide +kernel
theorem dX9_kinds_56 : decode cX9_kinds 56 = .ok (.goto 4, 3) := by decide +kernel
theorem dX9_kinds_59 : decode cX9_kinds 59 = .ok (.iconst 0, 1) := by decide +kernel
theorem dX9_kinds_60 : decode cX9_kinds 60 = .ok (.ior, 1) := by decide +kernel
theorem dX9_kinds_61 : decode cX9_kinds 61 = .ok (.istore_n 2, 1) := by decide +kernel
theorem dX9_kinds_62 : decode cX9_kinds 62 = .ok (.iinc 3 1, 3) := by decide +kernel
theorem dX9_kinds_65 : decode cX9_kinds 65 = .ok (.goto (-43), 3) := by decide +kernel
theorem dX9_kinds_68 : decode cX9_kinds 68 = .ok (.iload_n 2, 1) := by decide +kernel
theorem dX9_kinds_69 : decode cX9_kinds 69 = .ok (.ireturn, 1) := by decide +kernel
theorem dX9_odds_0 : decode cX9_odds 0 = .ok (.aload_n 0, 1) := by decide +kernel
theorem dX9_odds_1 : decode cX9_odds 1 = .ok (.iload_n 1, 1) := by decide +kernel
theorem dX9_odds_2 : decode cX9_odds 2 = .ok (.invokevirtual 102, 3) := by decide +kernel
theorem dX9_odds_5 : decode cX9_odds 5 = .ok (.ifCond .eq 21, 3) := by decide +kernel
theorem dX9_odds_8 : decode cX9_odds 8 = .ok (.iload_n 2, 1) := by decide +kernel
theorem dX9_odds_9 : decode cX9_odds 9 = .ok (.iconst 0, 1) := by decide +kernel
theorem dX9_odds_10 : decode cX9_odds 10 = .ok (.iconst 3, 1) := by decide +kernel
theorem dX9_odds_11 : decode cX9_odds 11 = .ok (.invokestatic 74, 3) := by decide +kernel
theorem dX9_odds_14 : decode cX9_odds 14 = .ok (.ifCond .eq 12, 3) := by decide +kernel
theorem dX9_odds_17 : decode cX9_odds 17 = .ok (.iload_n 3, 1) := by decide +kernel
theorem dX9_odds_18 : decode cX9_odds 18 = .ok (.iconst 0, 1) := by decide +kernel
theorem dX9_odds_19 : decode cX9_odds 19 = .ok (.iconst 1, 1) := by decide +kernel
theorem dX9_odds_20 : decode cX9_odds 20 = .ok (.invokestatic 74, 3) := by decide +kernel
theorem dX9_odds_23 : decode cX9_odds 23 = .ok (.ifCond .ne 7, 3) := by decide +kernel
theorem dX9_odds_26 : decode cX9_odds 26 = .ok (.ldc2_w 209, 3) := by decide +kernel
theorem dX9_odds_29 : decode cX9_odds 29 = .ok (.lreturn, 1) := by decide +kernel
theorem dX9_odds_30 : decode cX9_odds 30 = .ok (.lconst 1, 1) := by decide +kernel
theorem dX9_odds_31 : decode cX9_odds 31 = .ok (.lstore 4, 2) := by decide +kernel
theorem dX9_odds_33 : decode cX9_odds 33 = .ok (.lconst 1, 1) := by decide +kernel
theorem dX9_odds_34 : decode cX9_odds 34 = .ok (.lstore 6, 2) := by decide +kernel
theorem dX9_odds_36 : decode cX9_odds 36 = .ok (.iconst 0, 1) := by decide +kernel
theorem dX9_odds_37 : decode cX9_odds 37 = .ok (.istore 8, 2) := by decide +kernel
theorem dX9_odds_39 : decode cX9_odds 39 = .ok (.iload 8, 2) := by decide +kernel
theorem dX9_odds_41 : decode cX9_odds 41 = .ok (.iload_n 2, 1) := by decide +kernel
theorem dX9_odds_42 : decode cX9_odds 42 = .ok (.if_icmp .ge 32, 3) := by decide +kernel
theorem dX9_odds_45 : decode cX9_odds 45 = .ok (.lload 4, 2) := by decide +kernel
theorem dX9_odds_47 : decode cX9_odds 47 = .ok (.aload_n 0, 1) := by decide +kernel
theorem dX9_odds_48 : decode cX9_odds 48 = .ok (.getfield 26, 3) := by decide +kernel
theorem dX9_odds_51 : decode cX9_odds 51 = .ok (.iload_n 1, 1) := by decide +kernel
theorem dX9_odds_52 : decode cX9_odds 52 = .ok (.aaload, 1) := by decide +kernel
theorem dX9_odds_53 : decode cX9_odds 53 = .ok (.getfield 124, 3) := by decide +kernel
theorem dX9_odds_56 : decode cX9_odds 56 = .ok (.i2l, 1) := by decide +kernel
theorem dX9_odds_57 : decode cX9_odds 57 = .ok (.lmul, 1) := by decide +kernel
theorem dX9_odds_58 : decode cX9_odds 58 = .ok (.lstore 4, 2) := by decide +kernel
theorem dX9_odds_60 : decode cX9_odds 60 = .ok (.lload 6, 2) := by decide +kernel
theorem dX9_odds_62 : decode cX9_odds 62 = .ok (.ldc2_w 211, 3) := by decide +kernel
theorem dX9_odds_65 : decode cX9_odds 65 = .ok (.lmul, 1) := by decide +kernel
theorem dX9_odds_66 : decode cX9_odds 66 = .ok (.lstore 6, 2) := by decide +kernel
theorem dX9_odds_68 : decode cX9_odds 68 = .ok (.iinc 8 1, 3) := by decide +kernel
theorem dX9_odds_71 : decode cX9_odds 71 = .ok (.goto (-32), 3) := by decide +kernel
theorem dX9_odds_74 : decode cX9_odds 74 = .ok (.lload 4, 2) := by decide +kernel
theorem dX9_odds_76 : decode cX9_odds 76 = .ok (.lload 6, 2) := by decide +kernel
theorem dX9_odds_78 : decode cX9_odds 78 = .ok (.invokestatic 213, 3) := by decide +kernel
theorem dX9_odds_81 : decode cX9_odds 81 = .ok (.lstore 8, 2) := by decide +kernel
theorem dX9_odds_83 : decode cX9_odds 83 = .ok (.iload_n 3, 1) := by decide +kernel
theorem dX9_odds_84 : decode cX9_odds 84 = .ok (.ifCond .ne 8, 3) := by decide +kernel
theorem dX9_odds_87 : decode cX9_odds 87 = .ok (.lload 4, 2) := by decide +kernel
theorem dX9_odds_89 : decode cX9_odds 89 = .ok (.goto 5, 3) := by decide +kernel
theorem dX9_odds_92 : decode cX9_odds 92 = .ok (.lload 6, 2) := by decide +kernel
theorem dX9_odds_94 : decode cX9_odds 94 = .ok (.lload 8, 2) := by decide +kernel
theorem dX9_odds_96 : decode cX9_odds 96 = .ok (.ldiv, 1) := by decide +kernel
theorem dX9_odds_97 : decode cX9_odds 97 = .ok (.lreturn, 1) := by decide +kernel
theorem dX9_sheet_0 : decode cX9_sheet 0 = .ok (.iload_n 1, 1) := by decide +kernel
theorem dX9_sheet_1 : decode cX9_sheet 1 = .ok (.invokestatic 66, 3) := by decide +kernel
theorem dX9_sheet_4 : decode cX9_sheet 4 = .ok (.ifCond .ne 9, 3) := by decide +kernel
theorem dX9_sheet_7 : decode cX9_sheet 7 = .ok (.aload_n 0, 1) := by decide +kernel
theorem dX9_sheet_8 : decode cX9_sheet 8 = .ok (.iconst (-1), 1) := by decide +kernel
theorem dX9_sheet_9 : decode cX9_sheet 9 = .ok (.invokevirtual 70, 3) := by decide +kernel
theorem dX9_sheet_12 : decode cX9_sheet 12 = .ok (.ireturn, 1) := by decide +kernel
theorem dX9_sheet_13 : decode cX9_sheet 13 = .ok (.iload_n 2, 1) := by decide +kernel
theorem dX9_sheet_14 : decode cX9_sheet 14 = .ok (.iconst 0, 1) := by decide +kernel
theorem dX9_sheet_15 : decode cX9_sheet 15 = .ok (.iconst 2, 1) := by decide +kernel
theorem dX9_sheet_16 : decode cX9_sheet 16 = .ok (.invokestatic 74, 3) := by decide +kernel
theorem dX9_sheet_19 : decode cX9_sheet 19 = .ok (.ifCond .eq 9, 3) := by decide +kernel
theorem dX9_sheet_22 : decode cX9_sheet 22 = .ok (.iload_n 3, 1) := by decide +kernel
theorem dX9_sheet_23 : decode cX9_sheet 23 = .ok (.bipush 60, 2) := by decide +kernel
theorem dX9_sheet_25 : decode cX9_sheet 25 = .ok (.if_icmp .le 10, 3) := by decide +kernel
theorem dX9_sheet_28 : decode cX9_sheet 28 = .ok (.aload_n 0, 1) := by decide +kernel
theorem dX9_sheet_29 : decode cX9_sheet 29 = .ok (.bipush (-2), 2) := by decide +kernel
theorem dX9_sheet_31 : decode cX9_sheet 31 = .ok (.invokevirtual 70, 3) := by decide +kernel
theorem dX9_sheet_34 : decode cX9_sheet 34 = .ok (.ireturn, 1) := by decide +kernel
theorem dX9_sheet_35 : decode cX9_sheet 35 = .ok (.iload_n 3, 1) := by decide +kernel
theorem dX9_sheet_36 : decode cX9_sheet 36 = .ok (.ifCond .ge 9, 3) := by decide +kernel
theorem dX9_sheet_39 : decode cX9_sheet 39 = .ok (.aload_n 0, 1) := by decide +kernel
theorem dX9_sheet_40 : decode cX9_sheet 40 = .ok (.iconst 4, 1) := by decide +kernel
theorem dX9_sheet_41 : decode cX9_sheet 41 = .ok (.invokevirtual 85, 3) := by decide +kernel
theorem dX9_sheet_44 : decode cX9_sheet 44 = .ok (.ireturn, 1) := by decide +kernel
theorem dX9_sheet_45 : decode cX9_sheet 45 = .ok (.aload_n 0, 1) := by decide +kernel
theorem dX9_sheet_46 : decode cX9_sheet 46 = .ok (.iconst 0, 1) := by decide +kernel
theorem dX9_sheet_47 : decode cX9_sheet 47 = .ok (.putfield 88, 3) := by decide +kernel
theorem dX9_sheet_50 : decode cX9_sheet 50 = .ok (.aload_n 0, 1) := by decide +kernel
theorem dX9_sheet_51 : decode cX9_sheet 51 = .ok (.getfield 13, 3) := by decide +kernel
theorem dX9_sheet_54 : decode cX9_sheet 54 = .ok (.iload_n 1, 1) := by decide +kernel
theorem dX9_sheet_55 : decode cX9_sheet 55 = .ok (.aaload, 1) := by decide +kernel
theorem dX9_sheet_56 : decode cX9_sheet 56 = .ok (.iload_n 2, 1) := by decide +kernel
theorem dX9_sheet_57 : decode cX9_sheet 57 = .ok (.iload_n 3, 1) := by decide +kernel
theorem dX9_sheet_58 : decode cX9_sheet 58 = .ok (.invokevirtual 217, 3) := by decide +kernel
theorem dX9_sheet_61 : decode cX9_sheet 61 = .ok (.iconst 1, 1) := by decide +kernel
theorem dX9_sheet_62 : decode cX9_sheet 62 = .ok (.ireturn, 1) := by decide +kernel
theorem dX9_lose_0 : decode cX9_lose 0 = .ok (.iload_n 1, 1) := by decide +kernel
theorem dX9_lose_1 : decode cX9_lose 1 = .ok (.invokestatic 66, 3) := by decide +kernel
theorem dX9_lose_4 : decode cX9_lose 4 = .ok (.ifCond .ne 5, 3) := by decide +kernel
theorem dX9_lose_7 : decode cX9_lose 7 = .ok (.iconst (-1), 1) := by decide +kernel
theorem dX9_lose_8 : decode cX9_lose 8 = .ok (.ireturn, 1) := by decide +kernel
theorem dX9_lose_9 : decode cX9_lose 9 = .ok (.aload_n 0, 1) := by decide +kernel
theorem dX9_lose_10 : decode cX9_lose 10 = .ok (.getfield 13, 3) := by decide +kernel
theorem dX9_lose_13 : decode cX9_lose 13 = .ok (.iload_n 1, 1) := by decide +kernel
theorem dX9_lose_14 : decode cX9_lose 14 = .ok (.aaload, 1) := by decide +kernel
theorem dX9_lose_15 : decode cX9_lose 15 = .ok (.invokevirtual 221, 3) := by decide +kernel
theorem dX9_lose_18 : decode cX9_lose 18 = .ok (.ifCond .eq 7, 3) := by decide +kernel
theorem dX9_lose_21 : decode cX9_lose 21 = .ok (.iconst 0, 1) := by decide +kernel
theorem dX9_lose_22 : decode cX9_lose 22 = .ok (.goto 4, 3) := by decide +kernel
theorem dX9_lose_25 : decode cX9_lose 25 = .ok (.iconst 1, 1) := by decide +kernel
theorem dX9_lose_26 : decode cX9_lose 26 = .ok (.istore_n 2, 1) := by decide +kernel
theorem dX9_lose_27 : decode cX9_lose 27 = .ok (.aload_n 0, 1) := by decide +kernel
theorem dX9_lose_28 : decode cX9_lose 28 = .ok (.getfield 13, 3) := by decide +kernel
theorem dX9_lose_31 : decode cX9_lose 31 = .ok (.iload_n 1, 1) := by decide +kernel
theorem dX9_lose_32 : decode cX9_lose 32 = .ok (.aaload, 1) := by decide +kernel
theorem dX9_lose_33 : decode cX9_lose 33 = .ok (.iconst (-1), 1) := by decide +kernel
theorem dX9_lose_34 : decode cX9_lose 34 = .ok (.putfield 224, 3) := by decide +kernel
theorem dX9_lose_37 : decode cX9_lose 37 = .ok (.iload_n 2, 1) := by decide +kernel
theorem dX9_lose_38 : decode cX9_lose 38 = .ok (.ireturn, 1) := by decide +kernel
theorem dX9_put_0 : decode cX9_put 0 = .ok (.iload_n 1, 1) := by decide +kernel
theorem dX9_put_1 : decode cX9_put 1 = .ok (.invokestatic 66, 3) := by decide +kernel
theorem dX9_put_4 : decode cX9_put 4 = .ok (.ifCond .ne 9, 3) := by decide +kernel
theorem dX9_put_7 : decode cX9_put 7 = .ok (.aload_n 0, 1) := by decide +kernel
theorem dX9_put_8 : decode cX9_put 8 = .ok (.iconst (-1), 1) := by decide +kernel
theorem dX9_put_9 : decode cX9_put 9 = .ok (.invokevirtual 70, 3) := by decide +kernel
theorem dX9_put_12 : decode cX9_put 12 = .ok (.ireturn, 1) := by decide +kernel
theorem dX9_put_13 : decode cX9_put 13 = .ok (.aload_n 0, 1) := by decide +kernel
theorem dX9_put_14 : decode cX9_put 14 = .ok (.getfield 13, 3) := by decide +kernel
theorem dX9_put_17 : decode cX9_put 17 = .ok (.iload_n 1, 1) := by decide +kernel
theorem dX9_put_18 : decode cX9_put 18 = .ok (.aaload, 1) := by decide +kernel
theorem dX9_put_19 : decode cX9_put 19 = .ok (.invokevirtual 221, 3) := by decide +kernel
theorem dX9_put_22 : decode cX9_put 22 = .ok (.ifCond .eq 9, 3) := by decide +kernel
theorem dX9_put_25 : decode cX9_put 25 = .ok (.aload_n 0, 1) := by decide +kernel
theorem dX9_put_26 : decode cX9_put 26 = .ok (.iconst 1, 1) := by decide +kernel
theorem dX9_put_27 : decode cX9_put 27 = .ok (.invokevirtual 85, 3) := by decide +kernel
theorem dX9_put_30 : decode cX9_put 30 = .ok (.ireturn, 1) := by decide +kernel
theorem dX9_put_31 : decode cX9_put 31 = .ok (.aload_n 0, 1) := by decide +kernel
theorem dX9_put_32 : decode cX9_put 32 = .ok (.getfield 13, 3) := by decide +kernel
theorem dX9_put_35 : decode cX9_put 35 = .ok (.iload_n 1, 1) := by decide +kernel
theorem dX9_put_36 : decode cX9_put 36 = .ok (.aaload, 1) := by decide +kernel
theorem dX9_put_37 : decode cX9_put 37 = .ok (.iload_n 2, 1) := by decide +kernel
theorem dX9_put_38 : decode cX9_put 38 = .ok (.iconst 1, 1) := by decide +kernel
theorem dX9_put_39 : decode cX9_put 39 = .ok (.invokevirtual 81, 3) := by decide +kernel
theorem dX9_put_42 : decode cX9_put 42 = .ok (.ifCond .ne 9, 3) := by decide +kernel
theorem dX9_put_45 : decode cX9_put 45 = .ok (.aload_n 0, 1) := by decide +kernel
theorem dX9_put_46 : decode cX9_put 46 = .ok (.iconst 3, 1) := by decide +kernel
theorem dX9_put_47 : decode cX9_put 47 = .ok (.invokevirtual 85, 3) := by decide +kernel
theorem dX9_put_50 : decode cX9_put 50 = .ok (.ireturn, 1) := by decide +kernel
theorem dX9_put_51 : decode cX9_put 51 = .ok (.aload_n 0, 1) := by decide +kernel
theorem dX9_put_52 : decode cX9_put 52 = .ok (.iconst 0, 1) := by decide +kernel
theorem dX9_put_53 : decode cX9_put 53 = .ok (.putfield 88, 3) := by decide +kernel
theorem dX9_put_56 : decode cX9_put 56 = .ok (.aload_n 0, 1) := by decide +kernel
theorem dX9_put_57 : decode cX9_put 57 = .ok (.getfield 13, 3) := by decide +kernel
theorem dX9_put_60 : decode cX9_put 60 = .ok (.iload_n 1, 1) := by decide +kernel
theorem dX9_put_61 : decode cX9_put 61 = .ok (.aaload, 1) := by decide +kernel
theorem dX9_put_62 : decode cX9_put 62 = .ok (.getfield 162, 3) := by decide +kernel
theorem dX9_put_65 : decode cX9_put 65 = .ok (.iload_n 2, 1) := by decide +kernel
theorem dX9_put_66 : decode cX9_put 66 = .ok (.aload_n 0, 1) := by decide +kernel
theorem dX9_put_67 : decode cX9_put 67 = .ok (.getfield 13, 3) := by decide +kernel
theorem dX9_put_70 : decode cX9_put 70 = .ok (.iload_n 1, 1) := by decide +kernel
theorem dX9_put_71 : decode cX9_put 71 = .ok (.aaload, 1) := by decide +kernel
theorem dX9_put_72 : decode cX9_put 72 = .ok (.iload_n 3, 1) := by decide +kernel
theorem dX9_put_73 : decode cX9_put 73 = .ok (.invokevirtual 227, 3) := by decide +kernel
theorem dX9_put_76 : decode cX9_put 76 = .ok (.iastore, 1) := by decide +kernel
theorem dX9_put_77 : decode cX9_put 77 = .ok (.iconst 1, 1) := by decide +kernel
theorem dX9_put_78 : decode cX9_put 78 = .ok (.ireturn, 1) := by decide +kernel
theorem dX9_cell_0 : decode cX9_cell 0 = .ok (.aload_n 0, 1) := by decide +kernel
theorem dX9_cell_1 : decode cX9_cell 1 = .ok (.iconst 0, 1) := by decide +kernel
theorem dX9_cell_2 : decode cX9_cell 2 = .ok (.putfield 88, 3) := by decide +kernel
theorem dX9_cell_5 : decode cX9_cell 5 = .ok (.iload_n 1, 1) := by decide +kernel
theorem dX9_cell_6 : decode cX9_cell 6 = .ok (.invokestatic 66, 3) := by decide +kernel
theorem dX9_cell_9 : decode cX9_cell 9 = .ok (.ifCond .eq 12, 3) := by decide +kernel
theorem dX9_cell_12 : decode cX9_cell 12 = .ok (.iload_n 3, 1) := by decide +kernel
theorem dX9_cell_13 : decode cX9_cell 13 = .ok (.iconst 0, 1) := by decide +kernel
theorem dX9_cell_14 : decode cX9_cell 14 = .ok (.iconst 2, 1) := by decide +kernel
theorem dX9_cell_15 : decode cX9_cell 15 = .ok (.invokestatic 74, 3) := by decide +kernel
theorem dX9_cell_18 : decode cX9_cell 18 = .ok (.ifCond .ne 7, 3) := by decide +kernel
theorem dX9_cell_21 : decode cX9_cell 21 = .ok (.ldc2_w 209, 3) := by decide +kernel
theorem dX9_cell_24 : decode cX9_cell 24 = .ok (.lreturn, 1) := by decide +kernel
theorem dX9_cell_25 : decode cX9_cell 25 = .ok (.aload_n 0, 1) := by decide +kernel
theorem dX9_cell_26 : decode cX9_cell 26 = .ok (.aload_n 0, 1) := by decide +kernel
theorem dX9_cell_27 : decode cX9_cell 27 = .ok (.getfield 13, 3) := by decide +kernel
theorem dX9_cell_30 : decode cX9_cell 30 = .ok (.iload_n 1, 1) := by decide +kernel
theorem dX9_cell_31 : decode cX9_cell 31 = .ok (.aaload, 1) := by decide +kernel
theorem dX9_cell_32 : decode cX9_cell 32 = .ok (.iload_n 3, 1) := by decide +kernel
theorem dX9_cell_33 : decode cX9_cell 33 = .ok (.invokevirtual 78, 3) := by decide +kernel
theorem dX9_cell_36 : decode cX9_cell 36 = .ok (.putfield 88, 3) := by decide +kernel
theorem dX9_cell_39 : decode cX9_cell 39 = .ok (.aload_n 0, 1) := by decide +kernel
theorem dX9_cell_40 : decode cX9_cell 40 = .ok (.getfield 88, 3) := by decide +kernel
theorem dX9_cell_43 : decode cX9_cell 43 = .ok (.ifCond .ne 22, 3) := by decide +kernel
theorem dX9_cell_46 : decode cX9_cell 46 = .ok (.aload_n 0, 1) := by decide +kernel
theorem dX9_cell_47 : decode cX9_cell 47 = .ok (.getfield 13, 3) := by decide +kernel
theorem dX9_cell_50 : decode cX9_cell 50 = .ok (.iload_n 1, 1) := by decide +kernel
theorem dX9_cell_51 : decode cX9_cell 51 = .ok (.aaload, 1) := by decide +kernel
theorem dX9_cell_52 : decode cX9_cell 52 = .ok (.iload_n 2, 1) := by decide +kernel
theorem dX9_cell_53 : decode cX9_cell 53 = .ok (.iconst 1, 1) := by decide +kernel
theorem dX9_cell_54 : decode cX9_cell 54 = .ok (.invokevirtual 81, 3) := by decide +kernel
theorem dX9_cell_57 : decode cX9_cell 57 = .ok (.ifCond .ne 8, 3) := by decide +kernel
theorem dX9_cell_60 : decode cX9_cell 60 = .ok (.aload_n 0, 1) := by decide +kernel
theorem dX9_cell_61 : decode cX9_cell 61 = .ok (.iconst 3, 1) := by decide +kernel
theorem dX9_cell_62 : decode cX9_cell 62 = .ok (.putfield 88, 3) := by decide +kernel
theorem dX9_cell_65 : decode cX9_cell 65 = .ok (.aload_n 0, 1) := by decide +kernel
theorem dX9_cell_66 : decode cX9_cell 66 = .ok (.getfield 88, 3) := by decide +kernel
theorem dX9_cell_69 : decode cX9_cell 69 = .ok (.ifCond .ne 18, 3) := by decide +kernel
theorem dX9_cell_72 : decode cX9_cell 72 = .ok (.aload_n 0, 1) := by decide +kernel
theorem dX9_cell_73 : decode cX9_cell 73 = .ok (.getfield 13, 3) := by decide +kernel
theorem dX9_cell_76 : decode cX9_cell 76 = .ok (.iload_n 1, 1) := by decide +kernel
theorem dX9_cell_77 : decode cX9_cell 77 = .ok (.aaload, 1) := by decide +kernel
theorem dX9_cell_78 : decode cX9_cell 78 = .ok (.getfield 162, 3) := by decide +kernel
theorem dX9_cell_81 : decode cX9_cell 81 = .ok (.iload_n 2, 1) := by decide +kernel
theorem dX9_cell_82 : decode cX9_cell 82 = .ok (.iaload, 1) := by decide +kernel
theorem dX9_cell_83 : decode cX9_cell 83 = .ok (.i2l, 1) := by decide +kernel
theorem dX9_cell_84 : decode cX9_cell 84 = .ok (.goto 6, 3) := by decide +kernel
theorem dX9_cell_87 : decode cX9_cell 87 = .ok (.ldc2_w 209, 3) := by decide +kernel
theorem dX9_cell_90 : decode cX9_cell 90 = .ok (.lreturn, 1) := by decide +kernel
theorem dX9_copy_0 : decode cX9_copy 0 = .ok (.iload_n 1, 1) := by decide +kernel
theorem dX9_copy_1 : decode cX9_copy 1 = .ok (.invokestatic 66, 3) := by decide +kernel
theorem dX9_copy_4 : decode cX9_copy 4 = .ok (.ifCond .eq 10, 3) := by decide +kernel
theorem dX9_copy_7 : decode cX9_copy 7 = .ok (.iload_n 3, 1) := by decide +kernel
theorem dX9_copy_8 : decode cX9_copy 8 = .ok (.invokestatic 66, 3) := by decide +kernel
theorem dX9_copy_11 : decode cX9_copy 11 = .ok (.ifCond .ne 9, 3) := by decide +kernel
theorem dX9_copy_14 : decode cX9_copy 14 = .ok (.aload_n 0, 1) := by decide +kernel
theorem dX9_copy_15 : decode cX9_copy 15 = .ok (.iconst (-1), 1) := by decide +kernel
theorem dX9_copy_16 : decode cX9_copy 16 = .ok (.invokevirtual 70, 3) := by decide +kernel
theorem dX9_copy_19 : decode cX9_copy 19 = .ok (.ireturn, 1) := by decide +kernel
theorem dX9_copy_20 : decode cX9_copy 20 = .ok (.aload_n 0, 1) := by decide +kernel
theorem dX9_copy_21 : decode cX9_copy 21 = .ok (.getfield 13, 3) := by decide +kernel
theorem dX9_copy_24 : decode cX9_copy 24 = .ok (.iload_n 1, 1) := by decide +kernel
theorem dX9_copy_25 : decode cX9_copy 25 = .ok (.aaload, 1) := by decide +kernel
theorem dX9_copy_26 : decode cX9_copy 26 = .ok (.astore 6, 2) := by decide +kernel
theorem dX9_copy_28 : decode cX9_copy 28 = .ok (.aload_n 0, 1) := by decide +kernel
theorem dX9_copy_29 : decode cX9_copy 29 = .ok (.getfield 13, 3) := by decide +kernel
theorem dX9_copy_32 : decode cX9_copy 32 = .ok (.iload_n 3, 1) := by decide +kernel
theorem dX9_copy_33 : decode cX9_copy 33 = .ok (.aaload, 1) := by decide +kernel
theorem dX9_copy_34 : decode cX9_copy 34 = .ok (.astore 7, 2) := by decide +kernel
theorem dX9_copy_36 : decode cX9_copy 36 = .ok (.aload 6, 2) := by decide +kernel
theorem dX9_copy_38 : decode cX9_copy 38 = .ok (.invokevirtual 221, 3) := by decide +kernel
theorem dX9_copy_41 : decode cX9_copy 41 = .ok (.ifCond .ne 11, 3) := by decide +kernel
theorem dX9_copy_44 : decode cX9_copy 44 = .ok (.aload 7, 2) := by decide +kernel
theorem dX9_copy_46 : decode cX9_copy 46 = .ok (.invokevirtual 221, 3) := by decide +kernel
theorem dX9_copy_49 : decode cX9_copy 49 = .ok (.ifCond .eq 9, 3) := by decide +kernel
theorem dX9_copy_52 : decode cX9_copy 52 = .ok (.aload_n 0, 1) := by decide +kernel
theorem dX9_copy_53 : decode cX9_copy 53 = .ok (.iconst 1, 1) := by decide +kernel
theorem dX9_copy_54 : decode cX9_copy 54 = .ok (.invokevirtual 85, 3) := by decide +kernel
theorem dX9_copy_57 : decode cX9_copy 57 = .ok (.ireturn, 1) := by decide +kernel
theorem dX9_copy_58 : decode cX9_copy 58 = .ok (.aload 6, 2) := by decide +kernel
theorem dX9_copy_60 : decode cX9_copy 60 = .ok (.getfield 224, 3) := by decide +kernel
theorem dX9_copy_63 : decode cX9_copy 63 = .ok (.aload 7, 2) := by decide +kernel
theorem dX9_copy_65 : decode cX9_copy 65 = .ok (.getfield 224, 3) := by decide +kernel
theorem dX9_copy_68 : decode cX9_copy 68 = .ok (.if_icmp .eq 9, 3) := by decide +kernel
theorem dX9_copy_71 : decode cX9_copy 71 = .ok (.aload_n 0, 1) := by decide +kernel
theorem dX9_copy_72 : decode cX9_copy 72 = .ok (.iconst 2, 1) := by decide +kernel
theorem dX9_copy_73 : decode cX9_copy 73 = .ok (.invokevirtual 85, 3) := by decide +kernel
theorem dX9_copy_76 : decode cX9_copy 76 = .ok (.ireturn, 1) := by decide +kernel
theorem dX9_copy_77 : decode cX9_copy 77 = .ok (.aload 6, 2) := by decide +kernel
theorem dX9_copy_79 : decode cX9_copy 79 = .ok (.iload_n 2, 1) := by decide +kernel
theorem dX9_copy_80 : decode cX9_copy 80 = .ok (.iload 5, 2) := by decide +kernel
theorem dX9_copy_82 : decode cX9_copy 82 = .ok (.invokevirtual 81, 3) := by decide +kernel
theorem dX9_copy_85 : decode cX9_copy 85 = .ok (.ifCond .eq 15, 3) := by decide +kernel
theorem dX9_copy_88 : decode cX9_copy 88 = .ok (.aload 7, 2) := by decide +kernel
theorem dX9_copy_90 : decode cX9_copy 90 = .ok (.iload 4, 2) := by decide +kernel
theorem dX9_copy_92 : decode cX9_copy 92 = .ok (.iload 5, 2) := by decide +kernel
theorem dX9_copy_94 : decode cX9_copy 94 = .ok (.invokevirtual 81, 3) := by decide +kernel
theorem dX9_copy_97 : decode cX9_copy 97 = .ok (.ifCond .ne 9, 3) := by decide +kernel
theorem dX9_copy_100 : decode cX9_copy 100 = .ok (.aload_n 0, 1) := by decide +kernel
theorem dX9_copy_101 : decode cX9_copy 101 = .ok (.iconst 3, 1) := by decide +kernel
theorem dX9_copy_102 : decode cX9_copy 102 = .ok (.invokevirtual 85, 3) := by decide +kernel
theorem dX9_copy_105 : decode cX9_copy 105 = .ok (.ireturn, 1) := by decide +kernel
theorem dX9_copy_106 : decode cX9_copy 106 = .ok (.aload_n 0, 1) := by decide +kernel
theorem dX9_copy_107 : decode cX9_copy 107 = .ok (.iconst 0, 1) := by decide +kernel
theorem dX9_copy_108 : decode cX9_copy 108 = .ok (.putfield 88, 3) := by decide +kernel
theorem dX9_copy_111 : decode cX9_copy 111 = .ok (.aload 6, 2) := by decide +kernel
theorem dX9_copy_113 : decode cX9_copy 113 = .ok (.getfield 162, 3) := by decide +kernel
theorem dX9_copy_116 : decode cX9_copy 116 = .ok (.iload_n 2, 1) := by decide +kernel
theorem dX9_copy_117 : decode cX9_copy 117 = .ok (.aload 7, 2) := by decide +kernel
theorem dX9_copy_119 : decode cX9_copy 119 = .ok (.getfield 162, 3) := by decide +kernel
theorem dX9_copy_122 : decode cX9_copy 122 = .ok (.iload 4, 2) := by decide +kernel
theorem dX9_copy_124 : decode cX9_copy 124 = .ok (.iload 5, 2) := by decide +kernel
theorem dX9_copy_126 : decode cX9_copy 126 = .ok (.invokestatic 230, 3) := by decide +kernel
theorem dX9_copy_129 : decode cX9_copy 129 = .ok (.iload 5, 2) := by decide +kernel
theorem dX9_copy_131 : decode cX9_copy 131 = .ok (.ireturn, 1) := by decide +kernel
theorem dX9_tell_0 : decode cX9_tell 0 = .ok (.aload_n 0, 1) := by decide +kernel
theorem dX9_tell_1 : decode cX9_tell 1 = .ok (.iload_n 1, 1) := by decide +kernel
theorem dX9_tell_2 : decode cX9_tell 2 = .ok (.invokevirtual 102, 3) := by decide +kernel
theorem dX9_tell_5 : decode cX9_tell 5 = .ok (.ifCond .eq 19, 3) := by decide +kernel
theorem dX9_tell_8 : decode cX9_tell 8 = .ok (.aload_n 0, 1) := by decide +kernel
theorem dX9_tell_9 : decode cX9_tell 9 = .ok (.getfield 26, 3) := by decide +kernel
theorem dX9_tell_12 : decode cX9_tell 12 = .ok (.iload_n 1, 1) := by decide +kernel
theorem dX9_tell_13 : decode cX9_tell 13 = .ok (.aaload, 1) := by decide +kernel
theorem dX9_tell_14 : decode cX9_tell 14 = .ok (.aload_n 0, 1) := by decide +kernel
theorem dX9_tell_15 : decode cX9_tell 15 = .ok (.getfield 57, 3) := by decide +kernel
theorem dX9_tell_18 : decode cX9_tell 18 = .ok (.invokevirtual 236, 3) := by decide +kernel
theorem dX9_tell_21 : decode cX9_tell 21 = .ok (.goto 4, 3) := by decide +kernel
theorem dX9_tell_24 : decode cX9_tell 24 = .ok (.iconst (-1), 1) := by decide +kernel
theorem dX9_tell_25 : decode cX9_tell 25 = .ok (.ireturn, 1) := by decide +kernel
theorem dX9_tally_0 : decode cX9_tally 0 = .ok (.aload_n 0, 1) := by decide +kernel
theorem dX9_tally_1 : decode cX9_tally 1 = .ok (.iload_n 1, 1) := by decide +kernel
theorem dX9_tally_2 : decode cX9_tally 2 = .ok (.invokevirtual 102, 3) := by decide +kernel
theorem dX9_tally_5 : decode cX9_tally 5 = .ok (.ifCond .eq 19, 3) := by decide +kernel
theorem dX9_tally_8 : decode cX9_tally 8 = .ok (.aload_n 0, 1) := by decide +kernel
theorem dX9_tally_9 : decode cX9_tally 9 = .ok (.getfield 26, 3) := by decide +kernel
theorem dX9_tally_12 : decode cX9_tally 12 = .ok (.iload_n 1, 1) := by decide +kernel
theorem dX9_tally_13 : decode cX9_tally 13 = .ok (.aaload, 1) := by decide +kernel
theorem dX9_tally_14 : decode cX9_tally 14 = .ok (.aload_n 0, 1) := by decide +kernel
theorem dX9_tally_15 : decode cX9_tally 15 = .ok (.getfield 57, 3) := by decide +kernel
theorem dX9_tally_18 : decode cX9_tally 18 = .ok (.invokevirtual 240, 3) := by decide +kernel
theorem dX9_tally_21 : decode cX9_tally 21 = .ok (.goto 4, 3) := by decide +kernel
theorem dX9_tally_24 : decode cX9_tally 24 = .ok (.iconst (-1), 1) := by decide +kernel
theorem dX9_tally_25 : decode cX9_tally 25 = .ok (.ireturn, 1) := by decide +kernel
theorem dX9_as_0 : decode cX9_as 0 = .ok (.aload_n 0, 1) := by decide +kernel
theorem dX9_as_1 : decode cX9_as 1 = .ok (.iload_n 1, 1) := by decide +kernel
theorem dX9_as_2 : decode cX9_as 2 = .ok (.invokevirtual 102, 3) := by decide +kernel
theorem dX9_as_5 : decode cX9_as 5 = .ok (.ifCond .ne 9, 3) := by decide +kernel
theorem dX9_as_8 : decode cX9_as 8 = .ok (.aload_n 0, 1) := by decide +kernel
theorem dX9_as_9 : decode cX9_as 9 = .ok (.iconst (-1), 1) := by decide +kernel
theorem dX9_as_10 : decode cX9_as 10 = .ok (.invokevirtual 70, 3) := by decide +kernel
theorem dX9_as_13 : decode cX9_as 13 = .ok (.ireturn, 1) := by decide +kernel
theorem dX9_as_14 : decode cX9_as 14 = .ok (.iload_n 2, 1) := by decide +kernel
theorem dX9_as_15 : decode cX9_as 15 = .ok (.iconst 0, 1) := by decide +kernel
theorem dX9_as_16 : decode cX9_as 16 = .ok (.iconst 2, 1) := by decide +kernel
theorem dX9_as_17 : decode cX9_as 17 = .ok (.invokestatic 74, 3) := by decide +kernel
theorem dX9_as_20 : decode cX9_as 20 = .ok (.ifCond .ne 10, 3) := by decide +kernel
theorem dX9_as_23 : decode cX9_as 23 = .ok (.aload_n 0, 1) := by decide +kernel
theorem dX9_as_24 : decode cX9_as 24 = .ok (.bipush (-2), 2) := by decide +kernel
theorem dX9_as_26 : decode cX9_as 26 = .ok (.invokevirtual 70, 3) := by decide +kernel
theorem dX9_as_29 : decode cX9_as 29 = .ok (.ireturn, 1) := by decide +kernel
theorem dX9_as_30 : decode cX9_as 30 = .ok (.aload_n 0, 1) := by decide +kernel
theorem dX9_as_31 : decode cX9_as 31 = .ok (.getfield 26, 3) := by decide +kernel
theorem dX9_as_34 : decode cX9_as 34 = .ok (.iload_n 1, 1) := by decide +kernel
theorem dX9_as_35 : decode cX9_as 35 = .ok (.aaload, 1) := by decide +kernel
theorem dX9_as_36 : decode cX9_as 36 = .ok (.iload_n 2, 1) := by decide +kernel
theorem dX9_as_37 : decode cX9_as 37 = .ok (.invokestatic 243, 3) := by decide +kernel
theorem dX9_as_40 : decode cX9_as 40 = .ok (.ifCond .ne 9, 3) := by decide +kernel
theorem dX9_as_43 : decode cX9_as 43 = .ok (.aload_n 0, 1) := by decide +kernel
theorem dX9_as_44 : decode cX9_as 44 = .ok (.iconst 2, 1) := by decide +kernel
theorem dX9_as_45 : decode cX9_as 45 = .ok (.invokevirtual 85, 3) := by decide +kernel
theorem dX9_as_48 : decode cX9_as 48 = .ok (.ireturn, 1) := by decide +kernel
theorem dX9_as_49 : decode cX9_as 49 = .ok (.aload_n 0, 1) := by decide +kernel
theorem dX9_as_50 : decode cX9_as 50 = .ok (.iconst 0, 1) := by decide +kernel
theorem dX9_as_51 : decode cX9_as 51 = .ok (.putfield 88, 3) := by decide +kernel
theorem dX9_as_54 : decode cX9_as 54 = .ok (.iconst 1, 1) := by decide +kernel
theorem dX9_as_55 : decode cX9_as 55 = .ok (.ireturn, 1) := by decide +kernel
theorem dX9_trace_0 : decode cX9_trace 0 = .ok (.aload_n 0, 1) := by decide +kernel
theorem dX9_trace_1 : decode cX9_trace 1 = .ok (.getfield 57, 3) := by decide +kernel
theorem dX9_trace_4 : decode cX9_trace 4 = .ok (.getfield 247, 3) := by decide +kernel
theorem dX9_trace_7 : decode cX9_trace 7 = .ok (.ireturn, 1) := by decide +kernel
theorem dX9_fault_0 : decode cX9_fault 0 = .ok (.aload_n 0, 1) := by decide +kernel
theorem dX9_fault_1 : decode cX9_fault 1 = .ok (.getfield 88, 3) := by decide +kernel
theorem dX9_fault_4 : decode cX9_fault 4 = .ok (.ireturn, 1) := by decide +kernel
theorem dX9_many_0 : decode cX9_many 0 = .ok (.iload_n 1, 1) := by decide +kernel
theorem dX9_many_1 : decode cX9_many 1 = .ok (.tableswitch 82 0 4 #[35, 40, 48, 53, 74], 35) := by decide +kernel
theorem dX9_many_36 : decode cX9_many 36 = .ok (.aload_n 0, 1) := by decide +kernel
theorem dX9_many_37 : decode cX9_many 37 = .ok (.getfield 99, 3) := by decide +kernel
theorem dX9_many_40 : decode cX9_many 40 = .ok (.ireturn, 1) := by decide +kernel
theorem dX9_many_41 : decode cX9_many 41 = .ok (.aload_n 0, 1) := by decide +kernel
theorem dX9_many_42 : decode cX9_many 42 = .ok (.getfield 36, 3) := by decide +kernel
theorem dX9_many_45 : decode cX9_many 45 = .ok (.getfield 149, 3) := by decide +kernel
theorem dX9_many_48 : decode cX9_many 48 = .ok (.ireturn, 1) := by decide +kernel
theorem dX9_many_49 : decode cX9_many 49 = .ok (.aload_n 0, 1) := by decide +kernel
theorem dX9_many_50 : decode cX9_many 50 = .ok (.getfield 139, 3) := by decide +kernel
theorem dX9_many_53 : decode cX9_many 53 = .ok (.ireturn, 1) := by decide +kernel
theorem dX9_many_54 : decode cX9_many 54 = .ok (.aload_n 0, 1) := by decide +kernel
theorem dX9_many_55 : decode cX9_many 55 = .ok (.getfield 36, 3) := by decide +kernel
theorem dX9_many_58 : decode cX9_many 58 = .ok (.iconst 0, 1) := by decide +kernel
theorem dX9_many_59 : decode cX9_many 59 = .ok (.aload_n 0, 1) := by decide +kernel
theorem dX9_many_60 : decode cX9_many 60 = .ok (.getfield 36, 3) := by decide +kernel
theorem dX9_many_63 : decode cX9_many 63 = .ok (.getfield 149, 3) := by decide +kernel
theorem dX9_many_66 : decode cX9_many 66 = .ok (.iconst 1, 1) := by decide +kernel
theorem dX9_many_67 : decode cX9_many 67 = .ok (.isub, 1) := by decide +kernel
theorem dX9_many_68 : decode cX9_many 68 = .ok (.invokevirtual 184, 3) := by decide +kernel
theorem dX9_many_71 : decode cX9_many 71 = .ok (.invokestatic 187, 3) := by decide +kernel
theorem dX9_many_74 : decode cX9_many 74 = .ok (.ireturn, 1) := by decide +kernel
theorem dX9_many_75 : decode cX9_many 75 = .ok (.aload_n 0, 1) := by decide +kernel
theorem dX9_many_76 : decode cX9_many 76 = .ok (.getfield 50, 3) := by decide +kernel
theorem dX9_many_79 : decode cX9_many 79 = .ok (.getfield 161, 3) := by decide +kernel
theorem dX9_many_82 : decode cX9_many 82 = .ok (.ireturn, 1) := by decide +kernel
theorem dX9_many_83 : decode cX9_many 83 = .ok (.bipush (-2), 2) := by decide +kernel
theorem dX9_many_85 : decode cX9_many 85 = .ok (.ireturn, 1) := by decide +kernel
theorem dX9_isWithin_0 : decode cX9_isWithin 0 = .ok (.iload_n 0, 1) := by decide +kernel
theorem dX9_isWithin_1 : decode cX9_isWithin 1 = .ok (.iload_n 1, 1) := by decide +kernel
theorem dX9_isWithin_2 : decode cX9_isWithin 2 = .ok (.if_icmp .lt 12, 3) := by decide +kernel
theorem dX9_isWithin_5 : decode cX9_isWithin 5 = .ok (.iload_n 0, 1) := by decide +kernel
theorem dX9_isWithin_6 : decode cX9_isWithin 6 = .ok (.iload_n 2, 1) := by decide +kernel
theorem dX9_isWithin_7 : decode cX9_isWithin 7 = .ok (.if_icmp .gt 7, 3) := by decide +kernel
theorem dX9_isWithin_10 : decode cX9_isWithin 10 = .ok (.iconst 1, 1) := by decide +kernel
theorem dX9_isWithin_11 : decode cX9_isWithin 11 = .ok (.goto 4, 3) := by decide +kernel
theorem dX9_isWithin_14 : decode cX9_isWithin 14 = .ok (.iconst 0, 1) := by decide +kernel
theorem dX9_isWithin_15 : decode cX9_isWithin 15 = .ok (.ireturn, 1) := by decide +kernel
theorem dX9_isPage_0 : decode cX9_isPage 0 = .ok (.iload_n 0, 1) := by decide +kernel
theorem dX9_isPage_1 : decode cX9_isPage 1 = .ok (.iconst 0, 1) := by decide +kernel
theorem dX9_isPage_2 : decode cX9_isPage 2 = .ok (.bipush 7, 2) := by decide +kernel
theorem dX9_isPage_4 : decode cX9_isPage 4 = .ok (.invokestatic 74, 3) := by decide +kernel
theorem dX9_isPage_7 : decode cX9_isPage 7 = .ok (.ireturn, 1) := by decide +kernel
theorem dX9_isSheet_0 : decode cX9_isSheet 0 = .ok (.iload_n 0, 1) := by decide +kernel
theorem dX9_isSheet_1 : decode cX9_isSheet 1 = .ok (.iconst 0, 1) := by decide +kernel
theorem dX9_isSheet_2 : decode cX9_isSheet 2 = .ok (.iconst 3, 1) := by decide +kernel
theorem dX9_isSheet_3 : decode cX9_isSheet 3 = .ok (.invokestatic 74, 3) := by decide +kernel
theorem dX9_isSheet_6 : decode cX9_isSheet 6 = .ok (.ireturn, 1) := by decide +kernel
theorem dX9_isDesk_0 : decode cX9_isDesk 0 = .ok (.iload_n 1, 1) := by decide +kernel
theorem dX9_isDesk_1 : decode cX9_isDesk 1 = .ok (.iconst 0, 1) := by decide +kernel
theorem dX9_isDesk_2 : decode cX9_isDesk 2 = .ok (.aload_n 0, 1) := by decide +kernel
theorem dX9_isDesk_3 : decode cX9_isDesk 3 = .ok (.getfield 99, 3) := by decide +kernel
theorem dX9_isDesk_6 : decode cX9_isDesk 6 = .ok (.iconst 1, 1) := by decide +kernel
theorem dX9_isDesk_7 : decode cX9_isDesk 7 = .ok (.isub, 1) := by decide +kernel
theorem dX9_isDesk_8 : decode cX9_isDesk 8 = .ok (.invokestatic 74, 3) := by decide +kernel
theorem dX9_isDesk_11 : decode cX9_isDesk 11 = .ok (.ireturn, 1) := by decide +kernel
theorem dX9_hasRoom_0 : decode cX9_hasRoom 0 = .ok (.aload_n 0, 1) := by decide +kernel
theorem dX9_hasRoom_1 : decode cX9_hasRoom 1 = .ok (.getfield 99, 3) := by decide +kernel
theorem dX9_hasRoom_4 : decode cX9_hasRoom 4 = .ok (.ifCond .le 7, 3) := by decide +kernel
theorem dX9_hasRoom_7 : decode cX9_hasRoom 7 = .ok (.iconst 1, 1) := by decide +kernel
theorem dX9_hasRoom_8 : decode cX9_hasRoom 8 = .ok (.goto 4, 3) := by decide +kernel
theorem dX9_hasRoom_11 : decode cX9_hasRoom 11 = .ok (.iconst 0, 1) := by decide +kernel
theorem dX9_hasRoom_12 : decode cX9_hasRoom 12 = .ok (.ireturn, 1) := by decide +kernel
theorem dX9_refused_0 : decode cX9_refused 0 = .ok (.aload_n 0, 1) := by decide +kernel
theorem dX9_refused_1 : decode cX9_refused 1 = .ok (.iconst 0, 1) := by decide +kernel
theorem dX9_refused_2 : decode cX9_refused 2 = .ok (.putfield 88, 3) := by decide +kernel
theorem dX9_refused_5 : decode cX9_refused 5 = .ok (.iload_n 1, 1) := by decide +kernel
theorem dX9_refused_6 : decode cX9_refused 6 = .ok (.ireturn, 1) := by decide +kernel
theorem dX9_faulted_0 : decode cX9_faulted 0 = .ok (.aload_n 0, 1) := by decide +kernel
theorem dX9_faulted_1 : decode cX9_faulted 1 = .ok (.iload_n 1, 1) := by decide +kernel
theorem dX9_faulted_2 : decode cX9_faulted 2 = .ok (.putfield 88, 3) := by decide +kernel
theorem dX9_faulted_5 : decode cX9_faulted 5 = .ok (.bipush (-10), 2) := by decide +kernel
theorem dX9_faulted_7 : decode cX9_faulted 7 = .ok (.iload_n 1, 1) := by decide +kernel
theorem dX9_faulted_8 : decode cX9_faulted 8 = .ok (.isub, 1) := by decide +kernel
theorem dX9_faulted_9 : decode cX9_faulted 9 = .ok (.ireturn, 1) := by decide +kernel
theorem dX9_newDesk_0 : decode cX9_newDesk 0 = .ok (.iload_n 0, 1) := by decide +kernel
theorem dX9_newDesk_1 : decode cX9_newDesk 1 = .ok (.lookupswitch 43 #[(1, 27), (2, 35)], 27) := by decide +kernel
theorem dX9_newDesk_28 : decode cX9_newDesk 28 = .ok (.new 250, 3) := by decide +kernel
theorem dX9_newDesk_31 : decode cX9_newDesk 31 = .ok (.dup, 1) := by decide +kernel
theorem dX9_newDesk_32 : decode cX9_newDesk 32 = .ok (.invokespecial 252, 3) := by decide +kernel
theorem dX9_newDesk_35 : decode cX9_newDesk 35 = .ok (.areturn, 1) := by decide +kernel
theorem dX9_newDesk_36 : decode cX9_newDesk 36 = .ok (.new 253, 3) := by decide +kernel
theorem dX9_newDesk_39 : decode cX9_newDesk 39 = .ok (.dup, 1) := by decide +kernel
theorem dX9_newDesk_40 : decode cX9_newDesk 40 = .ok (.invokespecial 255, 3) := by decide +kernel
theorem dX9_newDesk_43 : decode cX9_newDesk 43 = .ok (.areturn, 1) := by decide +kernel
theorem dX9_newDesk_44 : decode cX9_newDesk 44 = .ok (.new 24, 3) := by decide +kernel
theorem dX9_newDesk_47 : decode cX9_newDesk 47 = .ok (.dup, 1) := by decide +kernel
theorem dX9_newDesk_48 : decode cX9_newDesk 48 = .ok (.invokespecial 256, 3) := by decide +kernel
theorem dX9_newDesk_51 : decode cX9_newDesk 51 = .ok (.areturn, 1) := by decide +kernel
theorem dX9_isOfKind_0 : decode cX9_isOfKind 0 = .ok (.iload_n 1, 1) := by decide +kernel
theorem dX9_isOfKind_1 : decode cX9_isOfKind 1 = .ok (.lookupswitch 34 #[(0, 27), (1, 29)], 27) := by decide +kernel
theorem dX9_isOfKind_28 : decode cX9_isOfKind 28 = .ok (.iconst 1, 1) := by decide +kernel
theorem dX9_isOfKind_29 : decode cX9_isOfKind 29 = .ok (.ireturn, 1) := by decide +kernel
theorem dX9_isOfKind_30 : decode cX9_isOfKind 30 = .ok (.aload_n 0, 1) := by decide +kernel
theorem dX9_isOfKind_31 : decode cX9_isOfKind 31 = .ok (.instanceof 250, 3) := by decide +kernel
theorem dX9_isOfKind_34 : decode cX9_isOfKind 34 = .ok (.ireturn, 1) := by decide +kernel
theorem dX9_isOfKind_35 : decode cX9_isOfKind 35 = .ok (.aload_n 0, 1) := by decide +kernel
theorem dX9_isOfKind_36 : decode cX9_isOfKind 36 = .ok (.instanceof 253, 3) := by decide +kernel
theorem dX9_isOfKind_39 : decode cX9_isOfKind 39 = .ok (.ireturn, 1) := by decide +kernel
theorem dX9_furnish_0 : decode cX9_furnish 0 = .ok (.aload_n 0, 1) := by decide +kernel
theorem dX9_furnish_1 : decode cX9_furnish 1 = .ok (.aload_n 0, 1) := by decide +kernel
theorem dX9_furnish_2 : decode cX9_furnish 2 = .ok (.getfield 20, 3) := by decide +kernel
theorem dX9_furnish_5 : decode cX9_furnish 5 = .ok (.getfield 257, 3) := by decide +kernel
theorem dX9_furnish_8 : decode cX9_furnish 8 = .ok (.putfield 99, 3) := by decide +kernel
theorem dX9_furnish_11 : decode cX9_furnish 11 = .ok (.iconst 0, 1) := by decide +kernel
theorem dX9_furnish_12 : decode cX9_furnish 12 = .ok (.istore_n 1, 1) := by decide +kernel
theorem dX9_furnish_13 : decode cX9_furnish 13 = .ok (.iload_n 1, 1) := by decide +kernel
theorem dX9_furnish_14 : decode cX9_furnish 14 = .ok (.aload_n 0, 1) := by decide +kernel
theorem dX9_furnish_15 : decode cX9_furnish 15 = .ok (.getfield 99, 3) := by decide +kernel
theorem dX9_furnish_18 : decode cX9_furnish 18 = .ok (.if_icmp .ge 45, 3) := by decide +kernel
theorem dX9_furnish_21 : decode cX9_furnish 21 = .ok (.aload_n 0, 1) := by decide +kernel
theorem dX9_furnish_22 : decode cX9_furnish 22 = .ok (.getfield 26, 3) := by decide +kernel
theorem dX9_furnish_25 : decode cX9_furnish 25 = .ok (.iload_n 1, 1) := by decide +kernel
theorem dX9_furnish_26 : decode cX9_furnish 26 = .ok (.aload_n 0, 1) := by decide +kernel
theorem dX9_furnish_27 : decode cX9_furnish 27 = .ok (.getfield 20, 3) := by decide +kernel
theorem dX9_furnish_30 : decode cX9_furnish 30 = .ok (.getfield 259, 3) := by decide +kernel
theorem dX9_furnish_33 : decode cX9_furnish 33 = .ok (.iload_n 1, 1) := by decide +kernel
theorem dX9_furnish_34 : decode cX9_furnish 34 = .ok (.iaload, 1) := by decide +kernel
theorem dX9_furnish_35 : decode cX9_furnish 35 = .ok (.invokestatic 62, 3) := by decide +kernel
theorem dX9_furnish_38 : decode cX9_furnish 38 = .ok (.aastore, 1) := by decide +kernel
theorem dX9_furnish_39 : decode cX9_furnish 39 = .ok (.aload_n 0, 1) := by decide +kernel
theorem dX9_furnish_40 : decode cX9_furnish 40 = .ok (.getfield 26, 3) := by decide +kernel
theorem dX9_furnish_43 : decode cX9_furnish 43 = .ok (.iload_n 1, 1) := by decide +kernel
theorem dX9_furnish_44 : decode cX9_furnish 44 = .ok (.aaload, 1) := by decide +kernel
theorem dX9_furnish_45 : decode cX9_furnish 45 = .ok (.aload_n 0, 1) := by decide +kernel
theorem dX9_furnish_46 : decode cX9_furnish 46 = .ok (.getfield 20, 3) := by decide +kernel
theorem dX9_furnish_49 : decode cX9_furnish 49 = .ok (.getfield 262, 3) := by decide +kernel
theorem dX9_furnish_52 : decode cX9_furnish 52 = .ok (.iload_n 1, 1) := by decide +kernel
theorem dX9_furnish_53 : decode cX9_furnish 53 = .ok (.iaload, 1) := by decide +kernel
theorem dX9_furnish_54 : decode cX9_furnish 54 = .ok (.invokevirtual 135, 3) := by decide +kernel
theorem dX9_furnish_57 : decode cX9_furnish 57 = .ok (.iinc 1 1, 3) := by decide +kernel
theorem dX9_furnish_60 : decode cX9_furnish 60 = .ok (.goto (-47), 3) := by decide +kernel
theorem dX9_furnish_63 : decode cX9_furnish 63 = .ok (.aload_n 0, 1) := by decide +kernel
theorem dX9_furnish_64 : decode cX9_furnish 64 = .ok (.getfield 36, 3) := by decide +kernel
theorem dX9_furnish_67 : decode cX9_furnish 67 = .ok (.aload_n 0, 1) := by decide +kernel
theorem dX9_furnish_68 : decode cX9_furnish 68 = .ok (.getfield 20, 3) := by decide +kernel
theorem dX9_furnish_71 : decode cX9_furnish 71 = .ok (.getfield 264, 3) := by decide +kernel
theorem dX9_furnish_74 : decode cX9_furnish 74 = .ok (.aload_n 0, 1) := by decide +kernel
theorem dX9_furnish_75 : decode cX9_furnish 75 = .ok (.getfield 20, 3) := by decide +kernel
theorem dX9_furnish_78 : decode cX9_furnish 78 = .ok (.getfield 265, 3) := by decide +kernel
theorem dX9_furnish_81 : decode cX9_furnish 81 = .ok (.invokevirtual 267, 3) := by decide +kernel
theorem dX9_furnish_84 : decode cX9_furnish 84 = .ok (.aload_n 0, 1) := by decide +kernel
theorem dX9_furnish_85 : decode cX9_furnish 85 = .ok (.iconst 0, 1) := by decide +kernel
theorem dX9_furnish_86 : decode cX9_furnish 86 = .ok (.putfield 139, 3) := by decide +kernel
theorem dX9_furnish_89 : decode cX9_furnish 89 = .ok (.aload_n 0, 1) := by decide +kernel
theorem dX9_furnish_90 : decode cX9_furnish 90 = .ok (.getfield 50, 3) := by decide +kernel
theorem dX9_furnish_93 : decode cX9_furnish 93 = .ok (.iconst 0, 1) := by decide +kernel
theorem dX9_furnish_94 : decode cX9_furnish 94 = .ok (.putfield 161, 3) := by decide +kernel
theorem dX9_furnish_97 : decode cX9_furnish 97 = .ok (.return_, 1) := by decide +kernel
theorem dX9_missesOfAll_0 : decode cX9_missesOfAll 0 = .ok (.iconst 0, 1) := by decide +kernel
theorem dX9_missesOfAll_1 : decode cX9_missesOfAll 1 = .ok (.istore_n 2, 1) := by decide +kernel
theorem dX9_missesOfAll_2 : decode cX9_missesOfAll 2 = .ok (.iconst 0, 1) := by decide +kernel
theorem dX9_missesOfAll_3 : decode cX9_missesOfAll 3 = .ok (.istore_n 3, 1) := by decide +kernel
theorem dX9_missesOfAll_4 : decode cX9_missesOfAll 4 = .ok (.iload_n 3, 1) := by decide +kernel
theorem dX9_missesOfAll_5 : decode cX9_missesOfAll 5 = .ok (.aload_n 0, 1) := by decide +kernel
theorem dX9_missesOfAll_6 : decode cX9_missesOfAll 6 = .ok (.getfield 99, 3) := by decide +kernel
theorem dX9_missesOfAll_9 : decode cX9_missesOfAll 9 = .ok (.if_icmp .ge 30, 3) := by decide +kernel
theorem dX9_missesOfAll_12 : decode cX9_missesOfAll 12 = .ok (.iload_n 2, 1) := by decide +kernel
theorem dX9_missesOfAll_13 : decode cX9_missesOfAll 13 = .ok (.aload_n 0, 1) := by decide +kernel
theorem dX9_missesOfAll_14 : decode cX9_missesOfAll 14 = .ok (.getfield 26, 3) := by decide +kernel
theorem dX9_missesOfAll_17 : decode cX9_missesOfAll 17 = .ok (.iload_n 3, 1) := by decide +kernel
theorem dX9_missesOfAll_18 : decode cX9_missesOfAll 18 = .ok (.aaload, 1) := by decide +kernel
theorem dX9_missesOfAll_19 : decode cX9_missesOfAll 19 = .ok (.iload_n 1, 1) := by decide +kernel
theorem dX9_missesOfAll_20 : decode cX9_missesOfAll 20 = .ok (.invokevirtual 142, 3) := by decide +kernel
theorem dX9_missesOfAll_23 : decode cX9_missesOfAll 23 = .ok (.ifCond .eq 7, 3) := by decide +kernel
theorem dX9_missesOfAll_26 : decode cX9_missesOfAll 26 = .ok (.iconst 0, 1) := by decide +kernel
theorem dX9_missesOfAll_27 : decode cX9_missesOfAll 27 = .ok (.goto 4, 3) := by decide +kernel
theorem dX9_missesOfAll_30 : decode cX9_missesOfAll 30 = .ok (.iconst 1, 1) := by decide +kernel
theorem dX9_missesOfAll_31 : decode cX9_missesOfAll 31 = .ok (.iadd, 1) := by decide +kernel
theorem dX9_missesOfAll_32 : decode cX9_missesOfAll 32 = .ok (.istore_n 2, 1) := by decide +kernel
theorem dX9_missesOfAll_33 : decode cX9_missesOfAll 33 = .ok (.iinc 3 1, 3) := by decide +kernel
theorem dX9_missesOfAll_36 : decode cX9_missesOfAll 36 = .ok (.goto (-32), 3) := by decide +kernel
theorem dX9_missesOfAll_39 : decode cX9_missesOfAll 39 = .ok (.iload_n 2, 1) := by decide +kernel
theorem dX9_missesOfAll_40 : decode cX9_missesOfAll 40 = .ok (.ireturn, 1) := by decide +kernel
theorem dX9_toldOn_0 : decode cX9_toldOn 0 = .ok (.aload_n 0, 1) := by decide +kernel
theorem dX9_toldOn_1 : decode cX9_toldOn 1 = .ok (.getfield 30, 3) := by decide +kernel
theorem dX9_toldOn_4 : decode cX9_toldOn 4 = .ok (.aload_n 1, 1) := by decide +kernel
theorem dX9_toldOn_5 : decode cX9_toldOn 5 = .ok (.invokevirtual 105, 3) := by decide +kernel
theorem dX9_toldOn_8 : decode cX9_toldOn 8 = .ok (.aaload, 1) := by decide +kernel
theorem dX9_toldOn_9 : decode cX9_toldOn 9 = .ok (.astore 6, 2) := by decide +kernel
theorem dX9_toldOn_11 : decode cX9_toldOn 11 = .ok (.aload 6, 2) := by decide +kernel
theorem dX9_toldOn_13 : decode cX9_toldOn 13 = .ok (.aload_n 1, 1) := by decide +kernel
theorem dX9_toldOn_14 : decode cX9_toldOn 14 = .ok (.invokevirtual 271, 3) := by decide +kernel
theorem dX9_toldOn_17 : decode cX9_toldOn 17 = .ok (.bipush (-9), 2) := by decide +kernel
theorem dX9_toldOn_19 : decode cX9_toldOn 19 = .ok (.istore 7, 2) := by decide +kernel
theorem dX9_toldOn_21 : decode cX9_toldOn 21 = .ok (.iconst 0, 1) := by decide +kernel
theorem dX9_toldOn_22 : decode cX9_toldOn 22 = .ok (.istore 8, 2) := by decide +kernel
theorem dX9_toldOn_24 : decode cX9_toldOn 24 = .ok (.iload 8, 2) := by decide +kernel
theorem dX9_toldOn_26 : decode cX9_toldOn 26 = .ok (.iload 4, 2) := by decide +kernel
theorem dX9_toldOn_28 : decode cX9_toldOn 28 = .ok (.if_icmp .ge 41, 3) := by decide +kernel
theorem dX9_toldOn_31 : decode cX9_toldOn 31 = .ok (.aload 6, 2) := by decide +kernel
theorem dX9_toldOn_33 : decode cX9_toldOn 33 = .ok (.aload_n 2, 1) := by decide +kernel
theorem dX9_toldOn_34 : decode cX9_toldOn 34 = .ok (.getfield 162, 3) := by decide +kernel
theorem dX9_toldOn_37 : decode cX9_toldOn 37 = .ok (.iload_n 3, 1) := by decide +kernel
theorem dX9_toldOn_38 : decode cX9_toldOn 38 = .ok (.iload 8, 2) := by decide +kernel
theorem dX9_toldOn_40 : decode cX9_toldOn 40 = .ok (.iadd, 1) := by decide +kernel
theorem dX9_toldOn_41 : decode cX9_toldOn 41 = .ok (.iaload, 1) := by decide +kernel
theorem dX9_toldOn_42 : decode cX9_toldOn 42 = .ok (.invokevirtual 142, 3) := by decide +kernel
theorem dX9_toldOn_45 : decode cX9_toldOn 45 = .ok (.istore 9, 2) := by decide +kernel
theorem dX9_toldOn_47 : decode cX9_toldOn 47 = .ok (.iload 9, 2) := by decide +kernel
theorem dX9_toldOn_49 : decode cX9_toldOn 49 = .ok (.ifCond .ne 14, 3) := by decide +kernel
theorem dX9_toldOn_52 : decode cX9_toldOn 52 = .ok (.iload 7, 2) := by decide +kernel
theorem dX9_toldOn_54 : decode cX9_toldOn 54 = .ok (.bipush (-9), 2) := by decide +kernel
theorem dX9_toldOn_56 : decode cX9_toldOn 56 = .ok (.if_icmp .ne 7, 3) := by decide +kernel
theorem dX9_toldOn_59 : decode cX9_toldOn 59 = .ok (.iload 8, 2) := by decide +kernel
theorem dX9_toldOn_61 : decode cX9_toldOn 61 = .ok (.istore 7, 2) := by decide +kernel
theorem dX9_toldOn_63 : decode cX9_toldOn 63 = .ok (.iinc 8 1, 3) := by decide +kernel
theorem dX9_toldOn_66 : decode cX9_toldOn 66 = .ok (.goto (-42), 3) := by decide +kernel
theorem dX9_toldOn_69 : decode cX9_toldOn 69 = .ok (.iload 5, 2) := by decide +kernel
theorem dX9_toldOn_71 : decode cX9_toldOn 71 = .ok (.tableswitch 58 0 3 #[29, 40, 46, 52], 29) := by decide +kernel
theorem dX9_toldOn_100 : decode cX9_toldOn 100 = .ok (.aload 6, 2) := by decide +kernel
theorem dX9_toldOn_102 : decode cX9_toldOn 102 = .ok (.getfield 115, 3) := by decide +kernel
theorem dX9_toldOn_105 : decode cX9_toldOn 105 = .ok (.aload_n 1, 1) := by decide +kernel
theorem dX9_toldOn_106 : decode cX9_toldOn 106 = .ok (.getfield 115, 3) := by decide +kernel
theorem dX9_toldOn_109 : decode cX9_toldOn 109 = .ok (.isub, 1) := by decide +kernel
theorem dX9_toldOn_110 : decode cX9_toldOn 110 = .ok (.ireturn, 1) := by decide +kernel
theorem dX9_toldOn_111 : decode cX9_toldOn 111 = .ok (.aload 6, 2) := by decide +kernel
theorem dX9_toldOn_113 : decode cX9_toldOn 113 = .ok (.invokevirtual 112, 3) := by decide +kernel
theorem dX9_toldOn_116 : decode cX9_toldOn 116 = .ok (.ireturn, 1) := by decide +kernel
theorem dX9_toldOn_117 : decode cX9_toldOn 117 = .ok (.aload 6, 2) := by decide +kernel
theorem dX9_toldOn_119 : decode cX9_toldOn 119 = .ok (.invokevirtual 118, 3) := by decide +kernel
theorem dX9_toldOn_122 : decode cX9_toldOn 122 = .ok (.ireturn, 1) := by decide +kernel
theorem dX9_toldOn_123 : decode cX9_toldOn 123 = .ok (.aload 6, 2) := by decide +kernel
theorem dX9_toldOn_125 : decode cX9_toldOn 125 = .ok (.getfield 121, 3) := by decide +kernel
theorem dX9_toldOn_128 : decode cX9_toldOn 128 = .ok (.ireturn, 1) := by decide +kernel
theorem dX9_toldOn_129 : decode cX9_toldOn 129 = .ok (.iload 7, 2) := by decide +kernel
theorem dX9_toldOn_131 : decode cX9_toldOn 131 = .ok (.ireturn, 1) := by decide +kernel
theorem dX9_missesBy_0 : decode cX9_missesBy 0 = .ok (.aload_n 0, 1) := by decide +kernel
theorem dX9_missesBy_1 : decode cX9_missesBy 1 = .ok (.getfield 36, 3) := by decide +kernel
theorem dX9_missesBy_4 : decode cX9_missesBy 4 = .ok (.getfield 149, 3) := by decide +kernel
theorem dX9_missesBy_7 : decode cX9_missesBy 7 = .ok (.aload_n 0, 1) := by decide +kernel
theorem dX9_missesBy_8 : decode cX9_missesBy 8 = .ok (.aload_n 0, 1) := by decide +kernel
theorem dX9_missesBy_9 : decode cX9_missesBy 9 = .ok (.getfield 26, 3) := by decide +kernel
theorem dX9_missesBy_12 : decode cX9_missesBy 12 = .ok (.iload_n 1, 1) := by decide +kernel
theorem dX9_missesBy_13 : decode cX9_missesBy 13 = .ok (.aaload, 1) := by decide +kernel
theorem dX9_missesBy_14 : decode cX9_missesBy 14 = .ok (.invokevirtual 105, 3) := by decide +kernel
theorem dX9_missesBy_17 : decode cX9_missesBy 17 = .ok (.iload_n 2, 1) := by decide +kernel
theorem dX9_missesBy_18 : decode cX9_missesBy 18 = .ok (.invokevirtual 203, 3) := by decide +kernel
theorem dX9_missesBy_21 : decode cX9_missesBy 21 = .ok (.invokestatic 187, 3) := by decide +kernel
theorem dX9_missesBy_24 : decode cX9_missesBy 24 = .ok (.isub, 1) := by decide +kernel
theorem dX9_missesBy_25 : decode cX9_missesBy 25 = .ok (.ireturn, 1) := by decide +kernel
theorem dX9_hitsOf_0 : decode cX9_hitsOf 0 = .ok (.aload_n 0, 1) := by decide +kernel
theorem dX9_hitsOf_1 : decode cX9_hitsOf 1 = .ok (.getfield 30, 3) := by decide +kernel
theorem dX9_hitsOf_4 : decode cX9_hitsOf 4 = .ok (.iload_n 1, 1) := by decide +kernel
theorem dX9_hitsOf_5 : decode cX9_hitsOf 5 = .ok (.aaload, 1) := by decide +kernel
theorem dX9_hitsOf_6 : decode cX9_hitsOf 6 = .ok (.astore_n 3, 1) := by decide +kernel
theorem dX9_hitsOf_7 : decode cX9_hitsOf 7 = .ok (.aload_n 3, 1) := by decide +kernel
theorem dX9_hitsOf_8 : decode cX9_hitsOf 8 = .ok (.iload_n 2, 1) := by decide +kernel
theorem dX9_hitsOf_9 : decode cX9_hitsOf 9 = .ok (.invokevirtual 135, 3) := by decide +kernel
theorem dX9_hitsOf_12 : decode cX9_hitsOf 12 = .ok (.iconst 0, 1) := by decide +kernel
theorem dX9_hitsOf_13 : decode cX9_hitsOf 13 = .ok (.istore 4, 2) := by decide +kernel
theorem dX9_hitsOf_15 : decode cX9_hitsOf 15 = .ok (.iconst 0, 1) := by decide +kernel
theorem dX9_hitsOf_16 : decode cX9_hitsOf 16 = .ok (.istore 5, 2) := by decide +kernel
theorem dX9_hitsOf_18 : decode cX9_hitsOf 18 = .ok (.iload 5, 2) := by decide +kernel
theorem dX9_hitsOf_20 : decode cX9_hitsOf 20 = .ok (.aload_n 0, 1) := by decide +kernel
theorem dX9_hitsOf_21 : decode cX9_hitsOf 21 = .ok (.getfield 36, 3) := by decide +kernel
theorem dX9_hitsOf_24 : decode cX9_hitsOf 24 = .ok (.getfield 149, 3) := by decide +kernel
theorem dX9_hitsOf_27 : decode cX9_hitsOf 27 = .ok (.if_icmp .ge 39, 3) := by decide +kernel
theorem dX9_hitsOf_30 : decode cX9_hitsOf 30 = .ok (.iload 4, 2) := by decide +kernel
theorem dX9_hitsOf_32 : decode cX9_hitsOf 32 = .ok (.aload_n 3, 1) := by decide +kernel
theorem dX9_hitsOf_33 : decode cX9_hitsOf 33 = .ok (.aload_n 0, 1) := by decide +kernel
theorem dX9_hitsOf_34 : decode cX9_hitsOf 34 = .ok (.getfield 36, 3) := by decide +kernel
theorem dX9_hitsOf_37 : decode cX9_hitsOf 37 = .ok (.getfield 133, 3) := by decide +kernel
theorem dX9_hitsOf_40 : decode cX9_hitsOf 40 = .ok (.iload 5, 2) := by decide +kernel
theorem dX9_hitsOf_42 : decode cX9_hitsOf 42 = .ok (.iaload, 1) := by decide +kernel
theorem dX9_hitsOf_43 : decode cX9_hitsOf 43 = .ok (.invokevirtual 142, 3) := by decide +kernel
theorem dX9_hitsOf_46 : decode cX9_hitsOf 46 = .ok (.ifCond .eq 10, 3) := by decide +kernel
theorem dX9_hitsOf_49 : decode cX9_hitsOf 49 = .ok (.iconst 1, 1) := by decide +kernel
theorem dX9_hitsOf_50 : decode cX9_hitsOf 50 = .ok (.iload 5, 2) := by decide +kernel
theorem dX9_hitsOf_52 : decode cX9_hitsOf 52 = .ok (.ishl, 1) := by decide +kernel
theorem dX9_hitsOf_53 : decode cX9_hitsOf 53 = .ok (.goto 4, 3) := by decide +kernel
theorem dX9_hitsOf_56 : decode cX9_hitsOf 56 = .ok (.iconst 0, 1) := by decide +kernel
theorem dX9_hitsOf_57 : decode cX9_hitsOf 57 = .ok (.ior, 1) := by decide +kernel
theorem dX9_hitsOf_58 : decode cX9_hitsOf 58 = .ok (.istore 4, 2) := by decide +kernel
theorem dX9_hitsOf_60 : decode cX9_hitsOf 60 = .ok (.iinc 5 1, 3) := by decide +kernel
theorem dX9_hitsOf_63 : decode cX9_hitsOf 63 = .ok (.goto (-45), 3) := by decide +kernel
theorem dX9_hitsOf_66 : decode cX9_hitsOf 66 = .ok (.iload 4, 2) := by decide +kernel
theorem dX9_hitsOf_68 : decode cX9_hitsOf 68 = .ok (.ireturn, 1) := by decide +kernel
theorem dX9_othersAgree_0 : decode cX9_othersAgree 0 = .ok (.iconst 1, 1) := by decide +kernel
theorem dX9_othersAgree_1 : decode cX9_othersAgree 1 = .ok (.istore_n 2, 1) := by decide +kernel
theorem dX9_othersAgree_2 : decode cX9_othersAgree 2 = .ok (.iconst 0, 1) := by decide +kernel
theorem dX9_othersAgree_3 : decode cX9_othersAgree 3 = .ok (.istore_n 3, 1) := by decide +kernel
theorem dX9_othersAgree_4 : decode cX9_othersAgree 4 = .ok (.iload_n 3, 1) := by decide +kernel
theorem dX9_othersAgree_5 : decode cX9_othersAgree 5 = .ok (.aload_n 0, 1) := by decide +kernel
theorem dX9_othersAgree_6 : decode cX9_othersAgree 6 = .ok (.getfield 99, 3) := by decide +kernel
theorem dX9_othersAgree_9 : decode cX9_othersAgree 9 = .ok (.if_icmp .ge 57, 3) := by decide +kernel
theorem dX9_othersAgree_12 : decode cX9_othersAgree 12 = .ok (.iload_n 2, 1) := by decide +kernel
theorem dX9_othersAgree_13 : decode cX9_othersAgree 13 = .ok (.ifCond .eq 53, 3) := by decide +kernel
theorem dX9_othersAgree_16 : decode cX9_othersAgree 16 = .ok (.aload_n 0, 1) := by decide +kernel
theorem dX9_othersAgree_17 : decode cX9_othersAgree 17 = .ok (.getfield 26, 3) := by decide +kernel
theorem dX9_othersAgree_20 : decode cX9_othersAgree 20 = .ok (.iload_n 3, 1) := by decide +kernel
theorem dX9_othersAgree_21 : decode cX9_othersAgree 21 = .ok (.aaload, 1) := by decide +kernel
theorem dX9_othersAgree_22 : decode cX9_othersAgree 22 = .ok (.astore 4, 2) := by decide +kernel
theorem dX9_othersAgree_24 : decode cX9_othersAgree 24 = .ok (.iload_n 3, 1) := by decide +kernel
theorem dX9_othersAgree_25 : decode cX9_othersAgree 25 = .ok (.iload_n 1, 1) := by decide +kernel
theorem dX9_othersAgree_26 : decode cX9_othersAgree 26 = .ok (.if_icmp .eq 28, 3) := by decide +kernel
theorem dX9_othersAgree_29 : decode cX9_othersAgree 29 = .ok (.aload_n 0, 1) := by decide +kernel
theorem dX9_othersAgree_30 : decode cX9_othersAgree 30 = .ok (.getfield 50, 3) := by decide +kernel
theorem dX9_othersAgree_33 : decode cX9_othersAgree 33 = .ok (.iload_n 3, 1) := by decide +kernel
theorem dX9_othersAgree_34 : decode cX9_othersAgree 34 = .ok (.aload_n 0, 1) := by decide +kernel
theorem dX9_othersAgree_35 : decode cX9_othersAgree 35 = .ok (.aload 4, 2) := by decide +kernel
theorem dX9_othersAgree_37 : decode cX9_othersAgree 37 = .ok (.invokevirtual 105, 3) := by decide +kernel
theorem dX9_othersAgree_40 : decode cX9_othersAgree 40 = .ok (.aload 4, 2) := by decide +kernel
theorem dX9_othersAgree_42 : decode cX9_othersAgree 42 = .ok (.getfield 109, 3) := by decide +kernel
theorem dX9_othersAgree_45 : decode cX9_othersAgree 45 = .ok (.invokevirtual 203, 3) := by decide +kernel
theorem dX9_othersAgree_48 : decode cX9_othersAgree 48 = .ok (.invokevirtual 206, 3) := by decide +kernel
theorem dX9_othersAgree_51 : decode cX9_othersAgree 51 = .ok (.ifCond .eq 7, 3) := by decide +kernel
theorem dX9_othersAgree_54 : decode cX9_othersAgree 54 = .ok (.iconst 1, 1) := by decide +kernel
theorem dX9_othersAgree_55 : decode cX9_othersAgree 55 = .ok (.goto 4, 3) := by decide +kernel
theorem dX9_othersAgree_58 : decode cX9_othersAgree 58 = .ok (.iconst 0, 1) := by decide +kernel
theorem dX9_othersAgree_59 : decode cX9_othersAgree 59 = .ok (.istore_n 2, 1) := by decide +kernel
theorem dX9_othersAgree_60 : decode cX9_othersAgree 60 = .ok (.iinc 3 1, 3) := by decide +kernel
theorem dX9_othersAgree_63 : decode cX9_othersAgree 63 = .ok (.goto (-59), 3) := by decide +kernel
theorem dX9_othersAgree_66 : decode cX9_othersAgree 66 = .ok (.iload_n 2, 1) := by decide +kernel
theorem dX9_othersAgree_67 : decode cX9_othersAgree 67 = .ok (.ireturn, 1) := by decide +kernel
theorem dX9_commonMeasure_0 : decode cX9_commonMeasure 0 = .ok (.lload_n 0, 1) := by decide +kernel
theorem dX9_commonMeasure_1 : decode cX9_commonMeasure 1 = .ok (.lstore 4, 2) := by decide +kernel
theorem dX9_commonMeasure_3 : decode cX9_commonMeasure 3 = .ok (.lload_n 2, 1) := by decide +kernel
theorem dX9_commonMeasure_4 : decode cX9_commonMeasure 4 = .ok (.lstore 6, 2) := by decide +kernel
theorem dX9_commonMeasure_6 : decode cX9_commonMeasure 6 = .ok (.iconst 0, 1) := by decide +kernel
theorem dX9_commonMeasure_7 : decode cX9_commonMeasure 7 = .ok (.istore 8, 2) := by decide +kernel
theorem dX9_commonMeasure_9 : decode cX9_commonMeasure 9 = .ok (.iload 8, 2) := by decide +kernel
theorem dX9_commonMeasure_11 : decode cX9_commonMeasure 11 = .ok (.bipush 64, 2) := by decide +kernel
theorem dX9_commonMeasure_13 : decode cX9_commonMeasure 13 = .ok (.if_icmp .ge 31, 3) := by decide +kernel
theorem dX9_commonMeasure_16 : decode cX9_commonMeasure 16 = .ok (.lload 4, 2) := by decide +kernel
theorem dX9_commonMeasure_18 : decode cX9_commonMeasure 18 = .ok (.lconst 0, 1) := by decide +kernel
theorem dX9_commonMeasure_19 : decode cX9_commonMeasure 19 = .ok (.lcmp, 1) := by decide +kernel
theorem dX9_commonMeasure_20 : decode cX9_commonMeasure 20 = .ok (.ifCond .le 24, 3) := by decide +kernel
theorem dX9_commonMeasure_23 : decode cX9_commonMeasure 23 = .ok (.lload 6, 2) := by decide +kernel
theorem dX9_commonMeasure_25 : decode cX9_commonMeasure 25 = .ok (.lload 4, 2) := by decide +kernel
theorem dX9_commonMeasure_27 : decode cX9_commonMeasure 27 = .ok (.lrem, 1) := by decide +kernel
theorem dX9_commonMeasure_28 : decode cX9_commonMeasure 28 = .ok (.lstore 9, 2) := by decide +kernel
theorem dX9_commonMeasure_30 : decode cX9_commonMeasure 30 = .ok (.lload 4, 2) := by decide +kernel
theorem dX9_commonMeasure_32 : decode cX9_commonMeasure 32 = .ok (.lstore 6, 2) := by decide +kernel
theorem dX9_commonMeasure_34 : decode cX9_commonMeasure 34 = .ok (.lload 9, 2) := by decide +kernel
theorem dX9_commonMeasure_36 : decode cX9_commonMeasure 36 = .ok (.lstore 4, 2) := by decide +kernel
theorem dX9_commonMeasure_38 : decode cX9_commonMeasure 38 = .ok (.iinc 8 1, 3) := by decide +kernel
theorem dX9_commonMeasure_41 : decode cX9_commonMeasure 41 = .ok (.goto (-32), 3) := by decide +kernel
theorem dX9_commonMeasure_44 : decode cX9_commonMeasure 44 = .ok (.lconst 1, 1) := by decide +kernel
theorem dX9_commonMeasure_45 : decode cX9_commonMeasure 45 = .ok (.lload 6, 2) := by decide +kernel
theorem dX9_commonMeasure_47 : decode cX9_commonMeasure 47 = .ok (.invokestatic 274, 3) := by decide +kernel
theorem dX9_commonMeasure_50 : decode cX9_commonMeasure 50 = .ok (.lreturn, 1) := by decide +kernel
theorem dX10_init_0 : decode cX10_init 0 = .ok (.aload_n 0, 1) := by decide +kernel
theorem dX10_init_1 : decode cX10_init 1 = .ok (.invokespecial 1, 3) := by decide +kernel
theorem dX10_init_4 : decode cX10_init 4 = .ok (.aload_n 0, 1) := by decide +kernel
theorem dX10_init_5 : decode cX10_init 5 = .ok (.iconst 4, 1) := by decide +kernel
theorem dX10_init_6 : decode cX10_init 6 = .ok (.newarray .int, 2) := by decide +kernel
theorem dX10_init_8 : decode cX10_init 8 = .ok (.putfield 7, 3) := by decide +kernel
theorem dX10_init_11 : decode cX10_init 11 = .ok (.aload_n 0, 1) := by decide +kernel
theorem dX10_init_12 : decode cX10_init 12 = .ok (.iconst 4, 1) := by decide +kernel
theorem dX10_init_13 : decode cX10_init 13 = .ok (.newarray .int, 2) := by decide +kernel
theorem dX10_init_15 : decode cX10_init 15 = .ok (.putfield 13, 3) := by decide +kernel
theorem dX10_init_18 : decode cX10_init 18 = .ok (.aload_n 0, 1) := by decide +kernel
theorem dX10_init_19 : decode cX10_init 19 = .ok (.bipush 24, 2) := by decide +kernel
theorem dX10_init_21 : decode cX10_init 21 = .ok (.newarray .int, 2) := by decide +kernel
