theorem dX10_misses_9 : decode cX10_misses 9 = .ok (.ireturn, 1) := by decide +kernel
theorem dX10_misses_10 : decode cX10_misses 10 = .ok (.iload_n 2, 1) := by decide +kernel
theorem dX10_misses_11 : decode cX10_misses 11 = .ok (.i2l, 1) := by decide +kernel
theorem dX10_misses_12 : decode cX10_misses 12 = .ok (.lconst 1, 1) := by decide +kernel
theorem dX10_misses_13 : decode cX10_misses 13 = .ok (.ldc2_w 202, 3) := by decide +kernel
theorem dX10_misses_16 : decode cX10_misses 16 = .ok (.invokestatic 71, 3) := by decide +kernel
theorem dX10_misses_19 : decode cX10_misses 19 = .ok (.ifCond .eq 12, 3) := by decide +kernel
theorem dX10_misses_22 : decode cX10_misses 22 = .ok (.aload_n 0, 1) := by decide +kernel
theorem dX10_misses_23 : decode cX10_misses 23 = .ok (.iload_n 1, 1) := by decide +kernel
theorem dX10_misses_24 : decode cX10_misses 24 = .ok (.iload_n 2, 1) := by decide +kernel
theorem dX10_misses_25 : decode cX10_misses 25 = .ok (.invokevirtual 204, 3) := by decide +kernel
theorem dX10_misses_28 : decode cX10_misses 28 = .ok (.goto 5, 3) := by decide +kernel
theorem dX10_misses_31 : decode cX10_misses 31 = .ok (.bipush (-2), 2) := by decide +kernel
theorem dX10_misses_33 : decode cX10_misses 33 = .ok (.ireturn, 1) := by decide +kernel
theorem dX10_odd_0 : decode cX10_odd 0 = .ok (.aload_n 0, 1) := by decide +kernel
theorem dX10_odd_1 : decode cX10_odd 1 = .ok (.iload_n 1, 1) := by decide +kernel
theorem dX10_odd_2 : decode cX10_odd 2 = .ok (.invokevirtual 177, 3) := by decide +kernel
theorem dX10_odd_5 : decode cX10_odd 5 = .ok (.ifCond .eq 5, 3) := by decide +kernel
theorem dX10_odd_8 : decode cX10_odd 8 = .ok (.iconst (-1), 1) := by decide +kernel
theorem dX10_odd_9 : decode cX10_odd 9 = .ok (.ireturn, 1) := by decide +kernel
theorem dX10_odd_10 : decode cX10_odd 10 = .ok (.bipush (-9), 2) := by decide +kernel
theorem dX10_odd_12 : decode cX10_odd 12 = .ok (.istore_n 2, 1) := by decide +kernel
theorem dX10_odd_13 : decode cX10_odd 13 = .ok (.bipush 7, 2) := by decide +kernel
theorem dX10_odd_15 : decode cX10_odd 15 = .ok (.istore_n 3, 1) := by decide +kernel
theorem dX10_odd_16 : decode cX10_odd 16 = .ok (.iload_n 3, 1) := by decide +kernel
theorem dX10_odd_17 : decode cX10_odd 17 = .ok (.ifCond .le 32, 3) := by decide +kernel
theorem dX10_odd_20 : decode cX10_odd 20 = .ok (.aload_n 0, 1) := by decide +kernel
theorem dX10_odd_21 : decode cX10_odd 21 = .ok (.iload_n 1, 1) := by decide +kernel
theorem dX10_odd_22 : decode cX10_odd 22 = .ok (.iload_n 3, 1) := by decide +kernel
theorem dX10_odd_23 : decode cX10_odd 23 = .ok (.invokevirtual 204, 3) := by decide +kernel
theorem dX10_odd_26 : decode cX10_odd 26 = .ok (.aload_n 0, 1) := by decide +kernel
theorem dX10_odd_27 : decode cX10_odd 27 = .ok (.iload_n 1, 1) := by decide +kernel
theorem dX10_odd_28 : decode cX10_odd 28 = .ok (.iload_n 3, 1) := by decide +kernel
theorem dX10_odd_29 : decode cX10_odd 29 = .ok (.iconst 1, 1) := by decide +kernel
theorem dX10_odd_30 : decode cX10_odd 30 = .ok (.iadd, 1) := by decide +kernel
theorem dX10_odd_31 : decode cX10_odd 31 = .ok (.invokevirtual 204, 3) := by decide +kernel
theorem dX10_odd_34 : decode cX10_odd 34 = .ok (.if_icmp .ge 7, 3) := by decide +kernel
theorem dX10_odd_37 : decode cX10_odd 37 = .ok (.iload_n 3, 1) := by decide +kernel
theorem dX10_odd_38 : decode cX10_odd 38 = .ok (.goto 4, 3) := by decide +kernel
theorem dX10_odd_41 : decode cX10_odd 41 = .ok (.iload_n 2, 1) := by decide +kernel
theorem dX10_odd_42 : decode cX10_odd 42 = .ok (.istore_n 2, 1) := by decide +kernel
theorem dX10_odd_43 : decode cX10_odd 43 = .ok (.iinc 3 (-1), 3) := by decide +kernel
theorem dX10_odd_46 : decode cX10_odd 46 = .ok (.goto (-30), 3) := by decide +kernel
theorem dX10_odd_49 : decode cX10_odd 49 = .ok (.iload_n 2, 1) := by decide +kernel
theorem dX10_odd_50 : decode cX10_odd 50 = .ok (.ireturn, 1) := by decide +kernel
theorem dX10_need_0 : decode cX10_need 0 = .ok (.aload_n 0, 1) := by decide +kernel
theorem dX10_need_1 : decode cX10_need 1 = .ok (.iload_n 1, 1) := by decide +kernel
theorem dX10_need_2 : decode cX10_need 2 = .ok (.invokevirtual 177, 3) := by decide +kernel
theorem dX10_need_5 : decode cX10_need 5 = .ok (.ifCond .eq 5, 3) := by decide +kernel
theorem dX10_need_8 : decode cX10_need 8 = .ok (.iconst (-1), 1) := by decide +kernel
theorem dX10_need_9 : decode cX10_need 9 = .ok (.ireturn, 1) := by decide +kernel
theorem dX10_need_10 : decode cX10_need 10 = .ok (.iload_n 2, 1) := by decide +kernel
theorem dX10_need_11 : decode cX10_need 11 = .ok (.i2l, 1) := by decide +kernel
theorem dX10_need_12 : decode cX10_need 12 = .ok (.lconst 0, 1) := by decide +kernel
theorem dX10_need_13 : decode cX10_need 13 = .ok (.ldc2_w 195, 3) := by decide +kernel
theorem dX10_need_16 : decode cX10_need 16 = .ok (.invokestatic 71, 3) := by decide +kernel
theorem dX10_need_19 : decode cX10_need 19 = .ok (.ifCond .ne 6, 3) := by decide +kernel
theorem dX10_need_22 : decode cX10_need 22 = .ok (.bipush (-2), 2) := by decide +kernel
theorem dX10_need_24 : decode cX10_need 24 = .ok (.ireturn, 1) := by decide +kernel
theorem dX10_need_25 : decode cX10_need 25 = .ok (.bipush (-9), 2) := by decide +kernel
theorem dX10_need_27 : decode cX10_need 27 = .ok (.istore_n 3, 1) := by decide +kernel
theorem dX10_need_28 : decode cX10_need 28 = .ok (.bipush 8, 2) := by decide +kernel
theorem dX10_need_30 : decode cX10_need 30 = .ok (.istore 4, 2) := by decide +kernel
theorem dX10_need_32 : decode cX10_need 32 = .ok (.iload 4, 2) := by decide +kernel
theorem dX10_need_34 : decode cX10_need 34 = .ok (.ifCond .le 27, 3) := by decide +kernel
theorem dX10_need_37 : decode cX10_need 37 = .ok (.aload_n 0, 1) := by decide +kernel
theorem dX10_need_38 : decode cX10_need 38 = .ok (.iload_n 1, 1) := by decide +kernel
theorem dX10_need_39 : decode cX10_need 39 = .ok (.iload 4, 2) := by decide +kernel
theorem dX10_need_41 : decode cX10_need 41 = .ok (.invokevirtual 204, 3) := by decide +kernel
theorem dX10_need_44 : decode cX10_need 44 = .ok (.iload_n 2, 1) := by decide +kernel
theorem dX10_need_45 : decode cX10_need 45 = .ok (.if_icmp .gt 8, 3) := by decide +kernel
theorem dX10_need_48 : decode cX10_need 48 = .ok (.iload 4, 2) := by decide +kernel
theorem dX10_need_50 : decode cX10_need 50 = .ok (.goto 4, 3) := by decide +kernel
theorem dX10_need_53 : decode cX10_need 53 = .ok (.iload_n 3, 1) := by decide +kernel
theorem dX10_need_54 : decode cX10_need 54 = .ok (.istore_n 3, 1) := by decide +kernel
theorem dX10_need_55 : decode cX10_need 55 = .ok (.iinc 4 (-1), 3) := by decide +kernel
theorem dX10_need_58 : decode cX10_need 58 = .ok (.goto (-26), 3) := by decide +kernel
theorem dX10_need_61 : decode cX10_need 61 = .ok (.iload_n 3, 1) := by decide +kernel
theorem dX10_need_62 : decode cX10_need 62 = .ok (.ireturn, 1) := by decide +kernel
theorem dX10_lets_0 : decode cX10_lets 0 = .ok (.aload_n 0, 1) := by decide +kernel
theorem dX10_lets_1 : decode cX10_lets 1 = .ok (.getfield 34, 3) := by decide +kernel
theorem dX10_lets_4 : decode cX10_lets 4 = .ok (.iload_n 1, 1) := by decide +kernel
theorem dX10_lets_5 : decode cX10_lets 5 = .ok (.iload_n 2, 1) := by decide +kernel
theorem dX10_lets_6 : decode cX10_lets 6 = .ok (.aload_n 0, 1) := by decide +kernel
theorem dX10_lets_7 : decode cX10_lets 7 = .ok (.getfield 34, 3) := by decide +kernel
theorem dX10_lets_10 : decode cX10_lets 10 = .ok (.iload_n 1, 1) := by decide +kernel
theorem dX10_lets_11 : decode cX10_lets 11 = .ok (.iaload, 1) := by decide +kernel
theorem dX10_lets_12 : decode cX10_lets 12 = .ok (.if_icmp .ge 7, 3) := by decide +kernel
theorem dX10_lets_15 : decode cX10_lets 15 = .ok (.iload_n 2, 1) := by decide +kernel
theorem dX10_lets_16 : decode cX10_lets 16 = .ok (.goto 9, 3) := by decide +kernel
theorem dX10_lets_19 : decode cX10_lets 19 = .ok (.aload_n 0, 1) := by decide +kernel
theorem dX10_lets_20 : decode cX10_lets 20 = .ok (.getfield 34, 3) := by decide +kernel
theorem dX10_lets_23 : decode cX10_lets 23 = .ok (.iload_n 1, 1) := by decide +kernel
theorem dX10_lets_24 : decode cX10_lets 24 = .ok (.iaload, 1) := by decide +kernel
theorem dX10_lets_25 : decode cX10_lets 25 = .ok (.iastore, 1) := by decide +kernel
theorem dX10_lets_26 : decode cX10_lets 26 = .ok (.return_, 1) := by decide +kernel
theorem dX10_asksOne_0 : decode cX10_asksOne 0 = .ok (.aload_n 0, 1) := by decide +kernel
theorem dX10_asksOne_1 : decode cX10_asksOne 1 = .ok (.getfield 31, 3) := by decide +kernel
theorem dX10_asksOne_4 : decode cX10_asksOne 4 = .ok (.iload_n 1, 1) := by decide +kernel
theorem dX10_asksOne_5 : decode cX10_asksOne 5 = .ok (.iaload, 1) := by decide +kernel
theorem dX10_asksOne_6 : decode cX10_asksOne 6 = .ok (.istore 4, 2) := by decide +kernel
theorem dX10_asksOne_8 : decode cX10_asksOne 8 = .ok (.iload_n 1, 1) := by decide +kernel
theorem dX10_asksOne_9 : decode cX10_asksOne 9 = .ok (.iload_n 2, 1) := by decide +kernel
theorem dX10_asksOne_10 : decode cX10_asksOne 10 = .ok (.invokestatic 150, 3) := by decide +kernel
theorem dX10_asksOne_13 : decode cX10_asksOne 13 = .ok (.ifCond .eq 13, 3) := by decide +kernel
theorem dX10_asksOne_16 : decode cX10_asksOne 16 = .ok (.aload_n 0, 1) := by decide +kernel
theorem dX10_asksOne_17 : decode cX10_asksOne 17 = .ok (.iload_n 1, 1) := by decide +kernel
theorem dX10_asksOne_18 : decode cX10_asksOne 18 = .ok (.iload 4, 2) := by decide +kernel
theorem dX10_asksOne_20 : decode cX10_asksOne 20 = .ok (.invokevirtual 207, 3) := by decide +kernel
theorem dX10_asksOne_23 : decode cX10_asksOne 23 = .ok (.goto 90, 3) := by decide +kernel
theorem dX10_asksOne_26 : decode cX10_asksOne 26 = .ok (.iload_n 1, 1) := by decide +kernel
theorem dX10_asksOne_27 : decode cX10_asksOne 27 = .ok (.invokestatic 210, 3) := by decide +kernel
theorem dX10_asksOne_30 : decode cX10_asksOne 30 = .ok (.iload_n 3, 1) := by decide +kernel
theorem dX10_asksOne_31 : decode cX10_asksOne 31 = .ok (.if_icmp .ge 19, 3) := by decide +kernel
theorem dX10_asksOne_34 : decode cX10_asksOne 34 = .ok (.aload_n 0, 1) := by decide +kernel
theorem dX10_asksOne_35 : decode cX10_asksOne 35 = .ok (.iload_n 1, 1) := by decide +kernel
theorem dX10_asksOne_36 : decode cX10_asksOne 36 = .ok (.iconst 1, 1) := by decide +kernel
theorem dX10_asksOne_37 : decode cX10_asksOne 37 = .ok (.iload_n 2, 1) := by decide +kernel
theorem dX10_asksOne_38 : decode cX10_asksOne 38 = .ok (.ishl, 1) := by decide +kernel
theorem dX10_asksOne_39 : decode cX10_asksOne 39 = .ok (.ior, 1) := by decide +kernel
theorem dX10_asksOne_40 : decode cX10_asksOne 40 = .ok (.iload 4, 2) := by decide +kernel
theorem dX10_asksOne_42 : decode cX10_asksOne 42 = .ok (.iconst 1, 1) := by decide +kernel
theorem dX10_asksOne_43 : decode cX10_asksOne 43 = .ok (.iadd, 1) := by decide +kernel
theorem dX10_asksOne_44 : decode cX10_asksOne 44 = .ok (.invokevirtual 207, 3) := by decide +kernel
theorem dX10_asksOne_47 : decode cX10_asksOne 47 = .ok (.goto 66, 3) := by decide +kernel
theorem dX10_asksOne_50 : decode cX10_asksOne 50 = .ok (.iconst 0, 1) := by decide +kernel
theorem dX10_asksOne_51 : decode cX10_asksOne 51 = .ok (.istore 5, 2) := by decide +kernel
theorem dX10_asksOne_53 : decode cX10_asksOne 53 = .ok (.iload 5, 2) := by decide +kernel
theorem dX10_asksOne_55 : decode cX10_asksOne 55 = .ok (.bipush 8, 2) := by decide +kernel
theorem dX10_asksOne_57 : decode cX10_asksOne 57 = .ok (.if_icmp .ge 56, 3) := by decide +kernel
theorem dX10_asksOne_60 : decode cX10_asksOne 60 = .ok (.aload_n 0, 1) := by decide +kernel
theorem dX10_asksOne_61 : decode cX10_asksOne 61 = .ok (.iload_n 1, 1) := by decide +kernel
theorem dX10_asksOne_62 : decode cX10_asksOne 62 = .ok (.iload 5, 2) := by decide +kernel
theorem dX10_asksOne_64 : decode cX10_asksOne 64 = .ok (.invokestatic 150, 3) := by decide +kernel
theorem dX10_asksOne_67 : decode cX10_asksOne 67 = .ok (.ifCond .eq 18, 3) := by decide +kernel
theorem dX10_asksOne_70 : decode cX10_asksOne 70 = .ok (.iload_n 1, 1) := by decide +kernel
theorem dX10_asksOne_71 : decode cX10_asksOne 71 = .ok (.iconst 1, 1) := by decide +kernel
theorem dX10_asksOne_72 : decode cX10_asksOne 72 = .ok (.iload 5, 2) := by decide +kernel
theorem dX10_asksOne_74 : decode cX10_asksOne 74 = .ok (.ishl, 1) := by decide +kernel
theorem dX10_asksOne_75 : decode cX10_asksOne 75 = .ok (.iconst (-1), 1) := by decide +kernel
theorem dX10_asksOne_76 : decode cX10_asksOne 76 = .ok (.ixor, 1) := by decide +kernel
theorem dX10_asksOne_77 : decode cX10_asksOne 77 = .ok (.iand, 1) := by decide +kernel
theorem dX10_asksOne_78 : decode cX10_asksOne 78 = .ok (.iconst 1, 1) := by decide +kernel
theorem dX10_asksOne_79 : decode cX10_asksOne 79 = .ok (.iload_n 2, 1) := by decide +kernel
theorem dX10_asksOne_80 : decode cX10_asksOne 80 = .ok (.ishl, 1) := by decide +kernel
theorem dX10_asksOne_81 : decode cX10_asksOne 81 = .ok (.ior, 1) := by decide +kernel
theorem dX10_asksOne_82 : decode cX10_asksOne 82 = .ok (.goto 4, 3) := by decide +kernel
theorem dX10_asksOne_85 : decode cX10_asksOne 85 = .ok (.iconst 0, 1) := by decide +kernel
theorem dX10_asksOne_86 : decode cX10_asksOne 86 = .ok (.iload_n 1, 1) := by decide +kernel
theorem dX10_asksOne_87 : decode cX10_asksOne 87 = .ok (.iload 5, 2) := by decide +kernel
theorem dX10_asksOne_89 : decode cX10_asksOne 89 = .ok (.invokestatic 150, 3) := by decide +kernel
theorem dX10_asksOne_92 : decode cX10_asksOne 92 = .ok (.ifCond .eq 10, 3) := by decide +kernel
theorem dX10_asksOne_95 : decode cX10_asksOne 95 = .ok (.iload 4, 2) := by decide +kernel
theorem dX10_asksOne_97 : decode cX10_asksOne 97 = .ok (.iconst 1, 1) := by decide +kernel
theorem dX10_asksOne_98 : decode cX10_asksOne 98 = .ok (.iadd, 1) := by decide +kernel
theorem dX10_asksOne_99 : decode cX10_asksOne 99 = .ok (.goto 5, 3) := by decide +kernel
theorem dX10_asksOne_102 : decode cX10_asksOne 102 = .ok (.bipush 99, 2) := by decide +kernel
theorem dX10_asksOne_104 : decode cX10_asksOne 104 = .ok (.invokevirtual 207, 3) := by decide +kernel
theorem dX10_asksOne_107 : decode cX10_asksOne 107 = .ok (.iinc 5 1, 3) := by decide +kernel
theorem dX10_asksOne_110 : decode cX10_asksOne 110 = .ok (.goto (-57), 3) := by decide +kernel
theorem dX10_asksOne_113 : decode cX10_asksOne 113 = .ok (.return_, 1) := by decide +kernel
theorem dX10_fewest_0 : decode cX10_fewest 0 = .ok (.aload_n 0, 1) := by decide +kernel
theorem dX10_fewest_1 : decode cX10_fewest 1 = .ok (.getfield 68, 3) := by decide +kernel
theorem dX10_fewest_4 : decode cX10_fewest 4 = .ok (.ifCond .ne 6, 3) := by decide +kernel
theorem dX10_fewest_7 : decode cX10_fewest 7 = .ok (.bipush (-3), 2) := by decide +kernel
theorem dX10_fewest_9 : decode cX10_fewest 9 = .ok (.ireturn, 1) := by decide +kernel
theorem dX10_fewest_10 : decode cX10_fewest 10 = .ok (.iload_n 1, 1) := by decide +kernel
theorem dX10_fewest_11 : decode cX10_fewest 11 = .ok (.i2l, 1) := by decide +kernel
theorem dX10_fewest_12 : decode cX10_fewest 12 = .ok (.lconst 1, 1) := by decide +kernel
theorem dX10_fewest_13 : decode cX10_fewest 13 = .ok (.ldc2_w 202, 3) := by decide +kernel
theorem dX10_fewest_16 : decode cX10_fewest 16 = .ok (.invokestatic 71, 3) := by decide +kernel
theorem dX10_fewest_19 : decode cX10_fewest 19 = .ok (.ifCond .ne 6, 3) := by decide +kernel
theorem dX10_fewest_22 : decode cX10_fewest 22 = .ok (.bipush (-2), 2) := by decide +kernel
theorem dX10_fewest_24 : decode cX10_fewest 24 = .ok (.ireturn, 1) := by decide +kernel
theorem dX10_fewest_25 : decode cX10_fewest 25 = .ok (.iconst 0, 1) := by decide +kernel
theorem dX10_fewest_26 : decode cX10_fewest 26 = .ok (.istore_n 2, 1) := by decide +kernel
theorem dX10_fewest_27 : decode cX10_fewest 27 = .ok (.iload_n 2, 1) := by decide +kernel
theorem dX10_fewest_28 : decode cX10_fewest 28 = .ok (.sipush 256, 3) := by decide +kernel
theorem dX10_fewest_31 : decode cX10_fewest 31 = .ok (.if_icmp .ge 25, 3) := by decide +kernel
theorem dX10_fewest_34 : decode cX10_fewest 34 = .ok (.aload_n 0, 1) := by decide +kernel
theorem dX10_fewest_35 : decode cX10_fewest 35 = .ok (.getfield 31, 3) := by decide +kernel
theorem dX10_fewest_38 : decode cX10_fewest 38 = .ok (.iload_n 2, 1) := by decide +kernel
theorem dX10_fewest_39 : decode cX10_fewest 39 = .ok (.iload_n 2, 1) := by decide +kernel
theorem dX10_fewest_40 : decode cX10_fewest 40 = .ok (.ifCond .ne 7, 3) := by decide +kernel
theorem dX10_fewest_43 : decode cX10_fewest 43 = .ok (.iconst 0, 1) := by decide +kernel
theorem dX10_fewest_44 : decode cX10_fewest 44 = .ok (.goto 5, 3) := by decide +kernel
theorem dX10_fewest_47 : decode cX10_fewest 47 = .ok (.bipush 99, 2) := by decide +kernel
theorem dX10_fewest_49 : decode cX10_fewest 49 = .ok (.iastore, 1) := by decide +kernel
theorem dX10_fewest_50 : decode cX10_fewest 50 = .ok (.iinc 2 1, 3) := by decide +kernel
theorem dX10_fewest_53 : decode cX10_fewest 53 = .ok (.goto (-26), 3) := by decide +kernel
theorem dX10_fewest_56 : decode cX10_fewest 56 = .ok (.iconst 0, 1) := by decide +kernel
theorem dX10_fewest_57 : decode cX10_fewest 57 = .ok (.istore_n 2, 1) := by decide +kernel
theorem dX10_fewest_58 : decode cX10_fewest 58 = .ok (.iload_n 2, 1) := by decide +kernel
theorem dX10_fewest_59 : decode cX10_fewest 59 = .ok (.aload_n 0, 1) := by decide +kernel
theorem dX10_fewest_60 : decode cX10_fewest 60 = .ok (.getfield 75, 3) := by decide +kernel
theorem dX10_fewest_63 : decode cX10_fewest 63 = .ok (.if_icmp .ge 97, 3) := by decide +kernel
theorem dX10_fewest_66 : decode cX10_fewest 66 = .ok (.iconst 0, 1) := by decide +kernel
theorem dX10_fewest_67 : decode cX10_fewest 67 = .ok (.istore_n 3, 1) := by decide +kernel
theorem dX10_fewest_68 : decode cX10_fewest 68 = .ok (.iload_n 3, 1) := by decide +kernel
theorem dX10_fewest_69 : decode cX10_fewest 69 = .ok (.sipush 256, 3) := by decide +kernel
theorem dX10_fewest_72 : decode cX10_fewest 72 = .ok (.if_icmp .ge 17, 3) := by decide +kernel
theorem dX10_fewest_75 : decode cX10_fewest 75 = .ok (.aload_n 0, 1) := by decide +kernel
theorem dX10_fewest_76 : decode cX10_fewest 76 = .ok (.getfield 34, 3) := by decide +kernel
theorem dX10_fewest_79 : decode cX10_fewest 79 = .ok (.iload_n 3, 1) := by decide +kernel
theorem dX10_fewest_80 : decode cX10_fewest 80 = .ok (.bipush 99, 2) := by decide +kernel
theorem dX10_fewest_82 : decode cX10_fewest 82 = .ok (.iastore, 1) := by decide +kernel
theorem dX10_fewest_83 : decode cX10_fewest 83 = .ok (.iinc 3 1, 3) := by decide +kernel
theorem dX10_fewest_86 : decode cX10_fewest 86 = .ok (.goto (-18), 3) := by decide +kernel
theorem dX10_fewest_89 : decode cX10_fewest 89 = .ok (.iconst 0, 1) := by decide +kernel
theorem dX10_fewest_90 : decode cX10_fewest 90 = .ok (.istore_n 3, 1) := by decide +kernel
theorem dX10_fewest_91 : decode cX10_fewest 91 = .ok (.iload_n 3, 1) := by decide +kernel
theorem dX10_fewest_92 : decode cX10_fewest 92 = .ok (.sipush 256, 3) := by decide +kernel
theorem dX10_fewest_95 : decode cX10_fewest 95 = .ok (.if_icmp .ge 32, 3) := by decide +kernel
theorem dX10_fewest_98 : decode cX10_fewest 98 = .ok (.aload_n 0, 1) := by decide +kernel
theorem dX10_fewest_99 : decode cX10_fewest 99 = .ok (.getfield 31, 3) := by decide +kernel
theorem dX10_fewest_102 : decode cX10_fewest 102 = .ok (.iload_n 3, 1) := by decide +kernel
theorem dX10_fewest_103 : decode cX10_fewest 103 = .ok (.iaload, 1) := by decide +kernel
theorem dX10_fewest_104 : decode cX10_fewest 104 = .ok (.bipush 99, 2) := by decide +kernel
theorem dX10_fewest_106 : decode cX10_fewest 106 = .ok (.if_icmp .ge 15, 3) := by decide +kernel
theorem dX10_fewest_109 : decode cX10_fewest 109 = .ok (.aload_n 0, 1) := by decide +kernel
theorem dX10_fewest_110 : decode cX10_fewest 110 = .ok (.iload_n 3, 1) := by decide +kernel
theorem dX10_fewest_111 : decode cX10_fewest 111 = .ok (.aload_n 0, 1) := by decide +kernel
theorem dX10_fewest_112 : decode cX10_fewest 112 = .ok (.getfield 16, 3) := by decide +kernel
theorem dX10_fewest_115 : decode cX10_fewest 115 = .ok (.iload_n 2, 1) := by decide +kernel
theorem dX10_fewest_116 : decode cX10_fewest 116 = .ok (.iaload, 1) := by decide +kernel
theorem dX10_fewest_117 : decode cX10_fewest 117 = .ok (.iload_n 1, 1) := by decide +kernel
theorem dX10_fewest_118 : decode cX10_fewest 118 = .ok (.invokevirtual 213, 3) := by decide +kernel
theorem dX10_fewest_121 : decode cX10_fewest 121 = .ok (.iinc 3 1, 3) := by decide +kernel
theorem dX10_fewest_124 : decode cX10_fewest 124 = .ok (.goto (-33), 3) := by decide +kernel
theorem dX10_fewest_127 : decode cX10_fewest 127 = .ok (.iconst 0, 1) := by decide +kernel
theorem dX10_fewest_128 : decode cX10_fewest 128 = .ok (.istore_n 3, 1) := by decide +kernel
theorem dX10_fewest_129 : decode cX10_fewest 129 = .ok (.iload_n 3, 1) := by decide +kernel
theorem dX10_fewest_130 : decode cX10_fewest 130 = .ok (.sipush 256, 3) := by decide +kernel
theorem dX10_fewest_133 : decode cX10_fewest 133 = .ok (.if_icmp .ge 21, 3) := by decide +kernel
theorem dX10_fewest_136 : decode cX10_fewest 136 = .ok (.aload_n 0, 1) := by decide +kernel
theorem dX10_fewest_137 : decode cX10_fewest 137 = .ok (.getfield 31, 3) := by decide +kernel
theorem dX10_fewest_140 : decode cX10_fewest 140 = .ok (.iload_n 3, 1) := by decide +kernel
theorem dX10_fewest_141 : decode cX10_fewest 141 = .ok (.aload_n 0, 1) := by decide +kernel
theorem dX10_fewest_142 : decode cX10_fewest 142 = .ok (.getfield 34, 3) := by decide +kernel
theorem dX10_fewest_145 : decode cX10_fewest 145 = .ok (.iload_n 3, 1) := by decide +kernel
theorem dX10_fewest_146 : decode cX10_fewest 146 = .ok (.iaload, 1) := by decide +kernel
theorem dX10_fewest_147 : decode cX10_fewest 147 = .ok (.iastore, 1) := by decide +kernel
theorem dX10_fewest_148 : decode cX10_fewest 148 = .ok (.iinc 3 1, 3) := by decide +kernel
theorem dX10_fewest_151 : decode cX10_fewest 151 = .ok (.goto (-22), 3) := by decide +kernel
theorem dX10_fewest_154 : decode cX10_fewest 154 = .ok (.iinc 2 1, 3) := by decide +kernel
theorem dX10_fewest_157 : decode cX10_fewest 157 = .ok (.goto (-99), 3) := by decide +kernel
theorem dX10_fewest_160 : decode cX10_fewest 160 = .ok (.bipush 99, 2) := by decide +kernel
theorem dX10_fewest_162 : decode cX10_fewest 162 = .ok (.istore_n 2, 1) := by decide +kernel
theorem dX10_fewest_163 : decode cX10_fewest 163 = .ok (.iconst 0, 1) := by decide +kernel
theorem dX10_fewest_164 : decode cX10_fewest 164 = .ok (.istore_n 3, 1) := by decide +kernel
theorem dX10_fewest_165 : decode cX10_fewest 165 = .ok (.iload_n 3, 1) := by decide +kernel
theorem dX10_fewest_166 : decode cX10_fewest 166 = .ok (.sipush 256, 3) := by decide +kernel
theorem dX10_fewest_169 : decode cX10_fewest 169 = .ok (.if_icmp .ge 30, 3) := by decide +kernel
theorem dX10_fewest_172 : decode cX10_fewest 172 = .ok (.aload_n 0, 1) := by decide +kernel
theorem dX10_fewest_173 : decode cX10_fewest 173 = .ok (.getfield 31, 3) := by decide +kernel
theorem dX10_fewest_176 : decode cX10_fewest 176 = .ok (.iload_n 3, 1) := by decide +kernel
theorem dX10_fewest_177 : decode cX10_fewest 177 = .ok (.iaload, 1) := by decide +kernel
theorem dX10_fewest_178 : decode cX10_fewest 178 = .ok (.iload_n 2, 1) := by decide +kernel
theorem dX10_fewest_179 : decode cX10_fewest 179 = .ok (.if_icmp .ge 12, 3) := by decide +kernel
theorem dX10_fewest_182 : decode cX10_fewest 182 = .ok (.aload_n 0, 1) := by decide +kernel
theorem dX10_fewest_183 : decode cX10_fewest 183 = .ok (.getfield 31, 3) := by decide +kernel
theorem dX10_fewest_186 : decode cX10_fewest 186 = .ok (.iload_n 3, 1) := by decide +kernel
theorem dX10_fewest_187 : decode cX10_fewest 187 = .ok (.iaload, 1) := by decide +kernel
theorem dX10_fewest_188 : decode cX10_fewest 188 = .ok (.goto 4, 3) := by decide +kernel
theorem dX10_fewest_191 : decode cX10_fewest 191 = .ok (.iload_n 2, 1) := by decide +kernel
theorem dX10_fewest_192 : decode cX10_fewest 192 = .ok (.istore_n 2, 1) := by decide +kernel
theorem dX10_fewest_193 : decode cX10_fewest 193 = .ok (.iinc 3 1, 3) := by decide +kernel
theorem dX10_fewest_196 : decode cX10_fewest 196 = .ok (.goto (-31), 3) := by decide +kernel
theorem dX10_fewest_199 : decode cX10_fewest 199 = .ok (.iload_n 2, 1) := by decide +kernel
theorem dX10_fewest_200 : decode cX10_fewest 200 = .ok (.ireturn, 1) := by decide +kernel
theorem dX10_nextOf_0 : decode cX10_nextOf 0 = .ok (.bipush 99, 2) := by decide +kernel
theorem dX10_nextOf_2 : decode cX10_nextOf 2 = .ok (.istore_n 3, 1) := by decide +kernel
theorem dX10_nextOf_3 : decode cX10_nextOf 3 = .ok (.aload_n 0, 1) := by decide +kernel
theorem dX10_nextOf_4 : decode cX10_nextOf 4 = .ok (.getfield 75, 3) := by decide +kernel
theorem dX10_nextOf_7 : decode cX10_nextOf 7 = .ok (.iconst 1, 1) := by decide +kernel
theorem dX10_nextOf_8 : decode cX10_nextOf 8 = .ok (.isub, 1) := by decide +kernel
theorem dX10_nextOf_9 : decode cX10_nextOf 9 = .ok (.istore 4, 2) := by decide +kernel
theorem dX10_nextOf_11 : decode cX10_nextOf 11 = .ok (.iload 4, 2) := by decide +kernel
theorem dX10_nextOf_13 : decode cX10_nextOf 13 = .ok (.iload_n 2, 1) := by decide +kernel
theorem dX10_nextOf_14 : decode cX10_nextOf 14 = .ok (.if_icmp .le 27, 3) := by decide +kernel
theorem dX10_nextOf_17 : decode cX10_nextOf 17 = .ok (.aload_n 0, 1) := by decide +kernel
theorem dX10_nextOf_18 : decode cX10_nextOf 18 = .ok (.getfield 16, 3) := by decide +kernel
theorem dX10_nextOf_21 : decode cX10_nextOf 21 = .ok (.iload 4, 2) := by decide +kernel
theorem dX10_nextOf_23 : decode cX10_nextOf 23 = .ok (.iaload, 1) := by decide +kernel
theorem dX10_nextOf_24 : decode cX10_nextOf 24 = .ok (.iload_n 1, 1) := by decide +kernel
theorem dX10_nextOf_25 : decode cX10_nextOf 25 = .ok (.if_icmp .ne 8, 3) := by decide +kernel
theorem dX10_nextOf_28 : decode cX10_nextOf 28 = .ok (.iload 4, 2) := by decide +kernel
theorem dX10_nextOf_30 : decode cX10_nextOf 30 = .ok (.goto 4, 3) := by decide +kernel
theorem dX10_nextOf_33 : decode cX10_nextOf 33 = .ok (.iload_n 3, 1) := by decide +kernel
theorem dX10_nextOf_34 : decode cX10_nextOf 34 = .ok (.istore_n 3, 1) := by decide +kernel
theorem dX10_nextOf_35 : decode cX10_nextOf 35 = .ok (.iinc 4 (-1), 3) := by decide +kernel
theorem dX10_nextOf_38 : decode cX10_nextOf 38 = .ok (.goto (-27), 3) := by decide +kernel
theorem dX10_nextOf_41 : decode cX10_nextOf 41 = .ok (.iload_n 3, 1) := by decide +kernel
theorem dX10_nextOf_42 : decode cX10_nextOf 42 = .ok (.ireturn, 1) := by decide +kernel
theorem dX10_goesLatest_0 : decode cX10_goesLatest 0 = .ok (.bipush (-9), 2) := by decide +kernel
theorem dX10_goesLatest_2 : decode cX10_goesLatest 2 = .ok (.istore_n 3, 1) := by decide +kernel
theorem dX10_goesLatest_3 : decode cX10_goesLatest 3 = .ok (.iconst (-1), 1) := by decide +kernel
theorem dX10_goesLatest_4 : decode cX10_goesLatest 4 = .ok (.istore 4, 2) := by decide +kernel
theorem dX10_goesLatest_6 : decode cX10_goesLatest 6 = .ok (.iconst 0, 1) := by decide +kernel
theorem dX10_goesLatest_7 : decode cX10_goesLatest 7 = .ok (.istore 5, 2) := by decide +kernel
theorem dX10_goesLatest_9 : decode cX10_goesLatest 9 = .ok (.iload 5, 2) := by decide +kernel
theorem dX10_goesLatest_11 : decode cX10_goesLatest 11 = .ok (.bipush 8, 2) := by decide +kernel
theorem dX10_goesLatest_13 : decode cX10_goesLatest 13 = .ok (.if_icmp .ge 61, 3) := by decide +kernel
theorem dX10_goesLatest_16 : decode cX10_goesLatest 16 = .ok (.iload_n 1, 1) := by decide +kernel
theorem dX10_goesLatest_17 : decode cX10_goesLatest 17 = .ok (.iload 5, 2) := by decide +kernel
theorem dX10_goesLatest_19 : decode cX10_goesLatest 19 = .ok (.invokestatic 150, 3) := by decide +kernel
theorem dX10_goesLatest_22 : decode cX10_goesLatest 22 = .ok (.ifCond .eq 13, 3) := by decide +kernel
theorem dX10_goesLatest_25 : decode cX10_goesLatest 25 = .ok (.aload_n 0, 1) := by decide +kernel
theorem dX10_goesLatest_26 : decode cX10_goesLatest 26 = .ok (.iload 5, 2) := by decide +kernel
theorem dX10_goesLatest_28 : decode cX10_goesLatest 28 = .ok (.iload_n 2, 1) := by decide +kernel
theorem dX10_goesLatest_29 : decode cX10_goesLatest 29 = .ok (.invokevirtual 216, 3) := by decide +kernel
theorem dX10_goesLatest_32 : decode cX10_goesLatest 32 = .ok (.goto 4, 3) := by decide +kernel
theorem dX10_goesLatest_35 : decode cX10_goesLatest 35 = .ok (.iconst (-1), 1) := by decide +kernel
theorem dX10_goesLatest_36 : decode cX10_goesLatest 36 = .ok (.istore 6, 2) := by decide +kernel
theorem dX10_goesLatest_38 : decode cX10_goesLatest 38 = .ok (.iload 6, 2) := by decide +kernel
theorem dX10_goesLatest_40 : decode cX10_goesLatest 40 = .ok (.iload 4, 2) := by decide +kernel
theorem dX10_goesLatest_42 : decode cX10_goesLatest 42 = .ok (.if_icmp .le 8, 3) := by decide +kernel
theorem dX10_goesLatest_45 : decode cX10_goesLatest 45 = .ok (.iload 5, 2) := by decide +kernel
theorem dX10_goesLatest_47 : decode cX10_goesLatest 47 = .ok (.goto 4, 3) := by decide +kernel
theorem dX10_goesLatest_50 : decode cX10_goesLatest 50 = .ok (.iload_n 3, 1) := by decide +kernel
theorem dX10_goesLatest_51 : decode cX10_goesLatest 51 = .ok (.istore_n 3, 1) := by decide +kernel
theorem dX10_goesLatest_52 : decode cX10_goesLatest 52 = .ok (.iload 6, 2) := by decide +kernel
theorem dX10_goesLatest_54 : decode cX10_goesLatest 54 = .ok (.iload 4, 2) := by decide +kernel
theorem dX10_goesLatest_56 : decode cX10_goesLatest 56 = .ok (.if_icmp .le 8, 3) := by decide +kernel
theorem dX10_goesLatest_59 : decode cX10_goesLatest 59 = .ok (.iload 6, 2) := by decide +kernel
theorem dX10_goesLatest_61 : decode cX10_goesLatest 61 = .ok (.goto 5, 3) := by decide +kernel
theorem dX10_goesLatest_64 : decode cX10_goesLatest 64 = .ok (.iload 4, 2) := by decide +kernel
theorem dX10_goesLatest_66 : decode cX10_goesLatest 66 = .ok (.istore 4, 2) := by decide +kernel
theorem dX10_goesLatest_68 : decode cX10_goesLatest 68 = .ok (.iinc 5 1, 3) := by decide +kernel
theorem dX10_goesLatest_71 : decode cX10_goesLatest 71 = .ok (.goto (-62), 3) := by decide +kernel
theorem dX10_goesLatest_74 : decode cX10_goesLatest 74 = .ok (.iload_n 3, 1) := by decide +kernel
theorem dX10_goesLatest_75 : decode cX10_goesLatest 75 = .ok (.ireturn, 1) := by decide +kernel
theorem dX10_latest_0 : decode cX10_latest 0 = .ok (.aload_n 0, 1) := by decide +kernel
theorem dX10_latest_1 : decode cX10_latest 1 = .ok (.iload_n 2, 1) := by decide +kernel
theorem dX10_latest_2 : decode cX10_latest 2 = .ok (.invokevirtual 192, 3) := by decide +kernel
theorem dX10_latest_5 : decode cX10_latest 5 = .ok (.ifCond .eq 5, 3) := by decide +kernel
theorem dX10_latest_8 : decode cX10_latest 8 = .ok (.iconst (-1), 1) := by decide +kernel
theorem dX10_latest_9 : decode cX10_latest 9 = .ok (.ireturn, 1) := by decide +kernel
theorem dX10_latest_10 : decode cX10_latest 10 = .ok (.iload_n 1, 1) := by decide +kernel
theorem dX10_latest_11 : decode cX10_latest 11 = .ok (.i2l, 1) := by decide +kernel
theorem dX10_latest_12 : decode cX10_latest 12 = .ok (.lconst 1, 1) := by decide +kernel
theorem dX10_latest_13 : decode cX10_latest 13 = .ok (.ldc2_w 202, 3) := by decide +kernel
theorem dX10_latest_16 : decode cX10_latest 16 = .ok (.invokestatic 71, 3) := by decide +kernel
theorem dX10_latest_19 : decode cX10_latest 19 = .ok (.ifCond .ne 6, 3) := by decide +kernel
theorem dX10_latest_22 : decode cX10_latest 22 = .ok (.bipush (-2), 2) := by decide +kernel
theorem dX10_latest_24 : decode cX10_latest 24 = .ok (.ireturn, 1) := by decide +kernel
theorem dX10_latest_25 : decode cX10_latest 25 = .ok (.iconst 0, 1) := by decide +kernel
theorem dX10_latest_26 : decode cX10_latest 26 = .ok (.istore_n 3, 1) := by decide +kernel
theorem dX10_latest_27 : decode cX10_latest 27 = .ok (.bipush (-9), 2) := by decide +kernel
theorem dX10_latest_29 : decode cX10_latest 29 = .ok (.istore 4, 2) := by decide +kernel
theorem dX10_latest_31 : decode cX10_latest 31 = .ok (.iconst 0, 1) := by decide +kernel
theorem dX10_latest_32 : decode cX10_latest 32 = .ok (.istore 5, 2) := by decide +kernel
theorem dX10_latest_34 : decode cX10_latest 34 = .ok (.iload 5, 2) := by decide +kernel
theorem dX10_latest_36 : decode cX10_latest 36 = .ok (.iload_n 2, 1) := by decide +kernel
theorem dX10_latest_37 : decode cX10_latest 37 = .ok (.if_icmp .gt 85, 3) := by decide +kernel
theorem dX10_latest_40 : decode cX10_latest 40 = .ok (.iload_n 3, 1) := by decide +kernel
theorem dX10_latest_41 : decode cX10_latest 41 = .ok (.aload_n 0, 1) := by decide +kernel
theorem dX10_latest_42 : decode cX10_latest 42 = .ok (.getfield 16, 3) := by decide +kernel
theorem dX10_latest_45 : decode cX10_latest 45 = .ok (.iload 5, 2) := by decide +kernel
theorem dX10_latest_47 : decode cX10_latest 47 = .ok (.iaload, 1) := by decide +kernel
theorem dX10_latest_48 : decode cX10_latest 48 = .ok (.invokestatic 150, 3) := by decide +kernel
theorem dX10_latest_51 : decode cX10_latest 51 = .ok (.ifCond .ne 15, 3) := by decide +kernel
theorem dX10_latest_54 : decode cX10_latest 54 = .ok (.iload_n 3, 1) := by decide +kernel
theorem dX10_latest_55 : decode cX10_latest 55 = .ok (.invokestatic 210, 3) := by decide +kernel
theorem dX10_latest_58 : decode cX10_latest 58 = .ok (.iload_n 1, 1) := by decide +kernel
theorem dX10_latest_59 : decode cX10_latest 59 = .ok (.if_icmp .ne 7, 3) := by decide +kernel
theorem dX10_latest_62 : decode cX10_latest 62 = .ok (.iconst 1, 1) := by decide +kernel
theorem dX10_latest_63 : decode cX10_latest 63 = .ok (.goto 4, 3) := by decide +kernel
theorem dX10_latest_66 : decode cX10_latest 66 = .ok (.iconst 0, 1) := by decide +kernel
theorem dX10_latest_67 : decode cX10_latest 67 = .ok (.istore 6, 2) := by decide +kernel
theorem dX10_latest_69 : decode cX10_latest 69 = .ok (.iload 6, 2) := by decide +kernel
theorem dX10_latest_71 : decode cX10_latest 71 = .ok (.ifCond .eq 13, 3) := by decide +kernel
theorem dX10_latest_74 : decode cX10_latest 74 = .ok (.aload_n 0, 1) := by decide +kernel
theorem dX10_latest_75 : decode cX10_latest 75 = .ok (.iload_n 3, 1) := by decide +kernel
theorem dX10_latest_76 : decode cX10_latest 76 = .ok (.iload 5, 2) := by decide +kernel
theorem dX10_latest_78 : decode cX10_latest 78 = .ok (.invokevirtual 219, 3) := by decide +kernel
theorem dX10_latest_81 : decode cX10_latest 81 = .ok (.goto 5, 3) := by decide +kernel
theorem dX10_latest_84 : decode cX10_latest 84 = .ok (.bipush (-9), 2) := by decide +kernel
theorem dX10_latest_86 : decode cX10_latest 86 = .ok (.istore 4, 2) := by decide +kernel
theorem dX10_latest_88 : decode cX10_latest 88 = .ok (.iload 6, 2) := by decide +kernel
theorem dX10_latest_90 : decode cX10_latest 90 = .ok (.ifCond .eq 14, 3) := by decide +kernel
theorem dX10_latest_93 : decode cX10_latest 93 = .ok (.iload_n 3, 1) := by decide +kernel
theorem dX10_latest_94 : decode cX10_latest 94 = .ok (.iconst 1, 1) := by decide +kernel
theorem dX10_latest_95 : decode cX10_latest 95 = .ok (.iload 4, 2) := by decide +kernel
theorem dX10_latest_97 : decode cX10_latest 97 = .ok (.ishl, 1) := by decide +kernel
theorem dX10_latest_98 : decode cX10_latest 98 = .ok (.iconst (-1), 1) := by decide +kernel
theorem dX10_latest_99 : decode cX10_latest 99 = .ok (.ixor, 1) := by decide +kernel
theorem dX10_latest_100 : decode cX10_latest 100 = .ok (.iand, 1) := by decide +kernel
theorem dX10_latest_101 : decode cX10_latest 101 = .ok (.goto 4, 3) := by decide +kernel
theorem dX10_latest_104 : decode cX10_latest 104 = .ok (.iload_n 3, 1) := by decide +kernel
theorem dX10_latest_105 : decode cX10_latest 105 = .ok (.iconst 1, 1) := by decide +kernel
theorem dX10_latest_106 : decode cX10_latest 106 = .ok (.aload_n 0, 1) := by decide +kernel
theorem dX10_latest_107 : decode cX10_latest 107 = .ok (.getfield 16, 3) := by decide +kernel
theorem dX10_latest_110 : decode cX10_latest 110 = .ok (.iload 5, 2) := by decide +kernel
theorem dX10_latest_112 : decode cX10_latest 112 = .ok (.iaload, 1) := by decide +kernel
theorem dX10_latest_113 : decode cX10_latest 113 = .ok (.ishl, 1) := by decide +kernel
theorem dX10_latest_114 : decode cX10_latest 114 = .ok (.ior, 1) := by decide +kernel
theorem dX10_latest_115 : decode cX10_latest 115 = .ok (.istore_n 3, 1) := by decide +kernel
theorem dX10_latest_116 : decode cX10_latest 116 = .ok (.iinc 5 1, 3) := by decide +kernel
theorem dX10_latest_119 : decode cX10_latest 119 = .ok (.goto (-85), 3) := by decide +kernel
theorem dX10_latest_122 : decode cX10_latest 122 = .ok (.iload 4, 2) := by decide +kernel
theorem dX10_latest_124 : decode cX10_latest 124 = .ok (.ireturn, 1) := by decide +kernel
theorem dX10_pagesFrom_0 : decode cX10_pagesFrom 0 = .ok (.iconst 0, 1) := by decide +kernel
theorem dX10_pagesFrom_1 : decode cX10_pagesFrom 1 = .ok (.istore_n 3, 1) := by decide +kernel
theorem dX10_pagesFrom_2 : decode cX10_pagesFrom 2 = .ok (.iload_n 1, 1) := by decide +kernel
theorem dX10_pagesFrom_3 : decode cX10_pagesFrom 3 = .ok (.istore 4, 2) := by decide +kernel
theorem dX10_pagesFrom_5 : decode cX10_pagesFrom 5 = .ok (.iload 4, 2) := by decide +kernel
theorem dX10_pagesFrom_7 : decode cX10_pagesFrom 7 = .ok (.iload_n 2, 1) := by decide +kernel
theorem dX10_pagesFrom_8 : decode cX10_pagesFrom 8 = .ok (.if_icmp .gt 21, 3) := by decide +kernel
theorem dX10_pagesFrom_11 : decode cX10_pagesFrom 11 = .ok (.iload_n 3, 1) := by decide +kernel
theorem dX10_pagesFrom_12 : decode cX10_pagesFrom 12 = .ok (.iconst 1, 1) := by decide +kernel
theorem dX10_pagesFrom_13 : decode cX10_pagesFrom 13 = .ok (.aload_n 0, 1) := by decide +kernel
theorem dX10_pagesFrom_14 : decode cX10_pagesFrom 14 = .ok (.getfield 16, 3) := by decide +kernel
theorem dX10_pagesFrom_17 : decode cX10_pagesFrom 17 = .ok (.iload 4, 2) := by decide +kernel
theorem dX10_pagesFrom_19 : decode cX10_pagesFrom 19 = .ok (.iaload, 1) := by decide +kernel
theorem dX10_pagesFrom_20 : decode cX10_pagesFrom 20 = .ok (.ishl, 1) := by decide +kernel
theorem dX10_pagesFrom_21 : decode cX10_pagesFrom 21 = .ok (.ior, 1) := by decide +kernel
theorem dX10_pagesFrom_22 : decode cX10_pagesFrom 22 = .ok (.istore_n 3, 1) := by decide +kernel
theorem dX10_pagesFrom_23 : decode cX10_pagesFrom 23 = .ok (.iinc 4 1, 3) := by decide +kernel
theorem dX10_pagesFrom_26 : decode cX10_pagesFrom 26 = .ok (.goto (-21), 3) := by decide +kernel
theorem dX10_pagesFrom_29 : decode cX10_pagesFrom 29 = .ok (.iload_n 3, 1) := by decide +kernel
theorem dX10_pagesFrom_30 : decode cX10_pagesFrom 30 = .ok (.ireturn, 1) := by decide +kernel
theorem dX10_depth_0 : decode cX10_depth 0 = .ok (.aload_n 0, 1) := by decide +kernel
theorem dX10_depth_1 : decode cX10_depth 1 = .ok (.iload_n 1, 1) := by decide +kernel
theorem dX10_depth_2 : decode cX10_depth 2 = .ok (.invokevirtual 192, 3) := by decide +kernel
theorem dX10_depth_5 : decode cX10_depth 5 = .ok (.ifCond .eq 5, 3) := by decide +kernel
theorem dX10_depth_8 : decode cX10_depth 8 = .ok (.iconst (-1), 1) := by decide +kernel
theorem dX10_depth_9 : decode cX10_depth 9 = .ok (.ireturn, 1) := by decide +kernel
theorem dX10_depth_10 : decode cX10_depth 10 = .ok (.bipush (-9), 2) := by decide +kernel
theorem dX10_depth_12 : decode cX10_depth 12 = .ok (.istore_n 2, 1) := by decide +kernel
theorem dX10_depth_13 : decode cX10_depth 13 = .ok (.iconst 0, 1) := by decide +kernel
theorem dX10_depth_14 : decode cX10_depth 14 = .ok (.istore_n 3, 1) := by decide +kernel
theorem dX10_depth_15 : decode cX10_depth 15 = .ok (.iload_n 3, 1) := by decide +kernel
theorem dX10_depth_16 : decode cX10_depth 16 = .ok (.iload_n 1, 1) := by decide +kernel
theorem dX10_depth_17 : decode cX10_depth 17 = .ok (.if_icmp .ge 30, 3) := by decide +kernel
theorem dX10_depth_20 : decode cX10_depth 20 = .ok (.aload_n 0, 1) := by decide +kernel
theorem dX10_depth_21 : decode cX10_depth 21 = .ok (.getfield 16, 3) := by decide +kernel
theorem dX10_depth_24 : decode cX10_depth 24 = .ok (.iload_n 3, 1) := by decide +kernel
theorem dX10_depth_25 : decode cX10_depth 25 = .ok (.iaload, 1) := by decide +kernel
theorem dX10_depth_26 : decode cX10_depth 26 = .ok (.aload_n 0, 1) := by decide +kernel
theorem dX10_depth_27 : decode cX10_depth 27 = .ok (.getfield 16, 3) := by decide +kernel
theorem dX10_depth_30 : decode cX10_depth 30 = .ok (.iload_n 1, 1) := by decide +kernel
theorem dX10_depth_31 : decode cX10_depth 31 = .ok (.iaload, 1) := by decide +kernel
theorem dX10_depth_32 : decode cX10_depth 32 = .ok (.if_icmp .ne 7, 3) := by decide +kernel
theorem dX10_depth_35 : decode cX10_depth 35 = .ok (.iload_n 3, 1) := by decide +kernel
theorem dX10_depth_36 : decode cX10_depth 36 = .ok (.goto 4, 3) := by decide +kernel
theorem dX10_depth_39 : decode cX10_depth 39 = .ok (.iload_n 2, 1) := by decide +kernel
theorem dX10_depth_40 : decode cX10_depth 40 = .ok (.istore_n 2, 1) := by decide +kernel
theorem dX10_depth_41 : decode cX10_depth 41 = .ok (.iinc 3 1, 3) := by decide +kernel
theorem dX10_depth_44 : decode cX10_depth 44 = .ok (.goto (-29), 3) := by decide +kernel
theorem dX10_depth_47 : decode cX10_depth 47 = .ok (.iload_n 2, 1) := by decide +kernel
theorem dX10_depth_48 : decode cX10_depth 48 = .ok (.ifCond .ge 8, 3) := by decide +kernel
theorem dX10_depth_51 : decode cX10_depth 51 = .ok (.bipush (-9), 2) := by decide +kernel
theorem dX10_depth_53 : decode cX10_depth 53 = .ok (.goto 12, 3) := by decide +kernel
theorem dX10_depth_56 : decode cX10_depth 56 = .ok (.aload_n 0, 1) := by decide +kernel
theorem dX10_depth_57 : decode cX10_depth 57 = .ok (.iload_n 2, 1) := by decide +kernel
theorem dX10_depth_58 : decode cX10_depth 58 = .ok (.iload_n 1, 1) := by decide +kernel
theorem dX10_depth_59 : decode cX10_depth 59 = .ok (.invokevirtual 222, 3) := by decide +kernel
theorem dX10_depth_62 : decode cX10_depth 62 = .ok (.invokestatic 210, 3) := by decide +kernel
theorem dX10_depth_65 : decode cX10_depth 65 = .ok (.ireturn, 1) := by decide +kernel
theorem dX10_work_0 : decode cX10_work 0 = .ok (.aload_n 0, 1) := by decide +kernel
theorem dX10_work_1 : decode cX10_work 1 = .ok (.iload_n 1, 1) := by decide +kernel
theorem dX10_work_2 : decode cX10_work 2 = .ok (.invokevirtual 192, 3) := by decide +kernel
theorem dX10_work_5 : decode cX10_work 5 = .ok (.ifCond .eq 5, 3) := by decide +kernel
theorem dX10_work_8 : decode cX10_work 8 = .ok (.iconst (-1), 1) := by decide +kernel
theorem dX10_work_9 : decode cX10_work 9 = .ok (.ireturn, 1) := by decide +kernel
theorem dX10_work_10 : decode cX10_work 10 = .ok (.iload_n 2, 1) := by decide +kernel
theorem dX10_work_11 : decode cX10_work 11 = .ok (.i2l, 1) := by decide +kernel
theorem dX10_work_12 : decode cX10_work 12 = .ok (.lconst 1, 1) := by decide +kernel
theorem dX10_work_13 : decode cX10_work 13 = .ok (.ldc2_w 195, 3) := by decide +kernel
theorem dX10_work_16 : decode cX10_work 16 = .ok (.invokestatic 71, 3) := by decide +kernel
theorem dX10_work_19 : decode cX10_work 19 = .ok (.ifCond .ne 6, 3) := by decide +kernel
theorem dX10_work_22 : decode cX10_work 22 = .ok (.bipush (-2), 2) := by decide +kernel
theorem dX10_work_24 : decode cX10_work 24 = .ok (.ireturn, 1) := by decide +kernel
theorem dX10_work_25 : decode cX10_work 25 = .ok (.aload_n 0, 1) := by decide +kernel
theorem dX10_work_26 : decode cX10_work 26 = .ok (.iload_n 1, 1) := by decide +kernel
theorem dX10_work_27 : decode cX10_work 27 = .ok (.iload_n 2, 1) := by decide +kernel
theorem dX10_work_28 : decode cX10_work 28 = .ok (.isub, 1) := by decide +kernel
theorem dX10_work_29 : decode cX10_work 29 = .ok (.iconst 1, 1) := by decide +kernel
theorem dX10_work_30 : decode cX10_work 30 = .ok (.iadd, 1) := by decide +kernel
theorem dX10_work_31 : decode cX10_work 31 = .ok (.ifCond .ge 7, 3) := by decide +kernel
theorem dX10_work_34 : decode cX10_work 34 = .ok (.iconst 0, 1) := by decide +kernel
theorem dX10_work_35 : decode cX10_work 35 = .ok (.goto 8, 3) := by decide +kernel
theorem dX10_work_38 : decode cX10_work 38 = .ok (.iload_n 1, 1) := by decide +kernel
theorem dX10_work_39 : decode cX10_work 39 = .ok (.iload_n 2, 1) := by decide +kernel
theorem dX10_work_40 : decode cX10_work 40 = .ok (.isub, 1) := by decide +kernel
theorem dX10_work_41 : decode cX10_work 41 = .ok (.iconst 1, 1) := by decide +kernel
theorem dX10_work_42 : decode cX10_work 42 = .ok (.iadd, 1) := by decide +kernel
theorem dX10_work_43 : decode cX10_work 43 = .ok (.iload_n 1, 1) := by decide +kernel
theorem dX10_work_44 : decode cX10_work 44 = .ok (.invokevirtual 222, 3) := by decide +kernel
theorem dX10_work_47 : decode cX10_work 47 = .ok (.ireturn, 1) := by decide +kernel
theorem dX10_reading_0 : decode cX10_reading 0 = .ok (.aload_n 0, 1) := by decide +kernel
theorem dX10_reading_1 : decode cX10_reading 1 = .ok (.iload_n 1, 1) := by decide +kernel
theorem dX10_reading_2 : decode cX10_reading 2 = .ok (.invokevirtual 177, 3) := by decide +kernel
theorem dX10_reading_5 : decode cX10_reading 5 = .ok (.ifCond .ne 11, 3) := by decide +kernel
theorem dX10_reading_8 : decode cX10_reading 8 = .ok (.aload_n 0, 1) := by decide +kernel
theorem dX10_reading_9 : decode cX10_reading 9 = .ok (.iload_n 2, 1) := by decide +kernel
theorem dX10_reading_10 : decode cX10_reading 10 = .ok (.invokevirtual 192, 3) := by decide +kernel
theorem dX10_reading_13 : decode cX10_reading 13 = .ok (.ifCond .eq 5, 3) := by decide +kernel
theorem dX10_reading_16 : decode cX10_reading 16 = .ok (.iconst (-1), 1) := by decide +kernel
theorem dX10_reading_17 : decode cX10_reading 17 = .ok (.ireturn, 1) := by decide +kernel
theorem dX10_reading_18 : decode cX10_reading 18 = .ok (.iload_n 3, 1) := by decide +kernel
theorem dX10_reading_19 : decode cX10_reading 19 = .ok (.i2l, 1) := by decide +kernel
theorem dX10_reading_20 : decode cX10_reading 20 = .ok (.lconst 0, 1) := by decide +kernel
theorem dX10_reading_21 : decode cX10_reading 21 = .ok (.lconst 1, 1) := by decide +kernel
theorem dX10_reading_22 : decode cX10_reading 22 = .ok (.invokestatic 71, 3) := by decide +kernel
theorem dX10_reading_25 : decode cX10_reading 25 = .ok (.ifCond .ne 6, 3) := by decide +kernel
theorem dX10_reading_28 : decode cX10_reading 28 = .ok (.bipush (-2), 2) := by decide +kernel
theorem dX10_reading_30 : decode cX10_reading 30 = .ok (.ireturn, 1) := by decide +kernel
theorem dX10_reading_31 : decode cX10_reading 31 = .ok (.aload_n 0, 1) := by decide +kernel
theorem dX10_reading_32 : decode cX10_reading 32 = .ok (.getfield 132, 3) := by decide +kernel
theorem dX10_reading_35 : decode cX10_reading 35 = .ok (.bipush 8, 2) := by decide +kernel
theorem dX10_reading_37 : decode cX10_reading 37 = .ok (.if_icmp .ne 6, 3) := by decide +kernel
theorem dX10_reading_40 : decode cX10_reading 40 = .ok (.bipush (-4), 2) := by decide +kernel
theorem dX10_reading_42 : decode cX10_reading 42 = .ok (.ireturn, 1) := by decide +kernel
theorem dX10_reading_43 : decode cX10_reading 43 = .ok (.aload_n 0, 1) := by decide +kernel
theorem dX10_reading_44 : decode cX10_reading 44 = .ok (.getfield 37, 3) := by decide +kernel
theorem dX10_reading_47 : decode cX10_reading 47 = .ok (.aload_n 0, 1) := by decide +kernel
theorem dX10_reading_48 : decode cX10_reading 48 = .ok (.getfield 132, 3) := by decide +kernel
theorem dX10_reading_51 : decode cX10_reading 51 = .ok (.iload_n 1, 1) := by decide +kernel
theorem dX10_reading_52 : decode cX10_reading 52 = .ok (.iastore, 1) := by decide +kernel
theorem dX10_reading_53 : decode cX10_reading 53 = .ok (.aload_n 0, 1) := by decide +kernel
theorem dX10_reading_54 : decode cX10_reading 54 = .ok (.getfield 40, 3) := by decide +kernel
theorem dX10_reading_57 : decode cX10_reading 57 = .ok (.aload_n 0, 1) := by decide +kernel
theorem dX10_reading_58 : decode cX10_reading 58 = .ok (.getfield 132, 3) := by decide +kernel
theorem dX10_reading_61 : decode cX10_reading 61 = .ok (.iload_n 2, 1) := by decide +kernel
theorem dX10_reading_62 : decode cX10_reading 62 = .ok (.iastore, 1) := by decide +kernel
theorem dX10_reading_63 : decode cX10_reading 63 = .ok (.aload_n 0, 1) := by decide +kernel
theorem dX10_reading_64 : decode cX10_reading 64 = .ok (.getfield 43, 3) := by decide +kernel
theorem dX10_reading_67 : decode cX10_reading 67 = .ok (.aload_n 0, 1) := by decide +kernel
theorem dX10_reading_68 : decode cX10_reading 68 = .ok (.getfield 132, 3) := by decide +kernel
theorem dX10_reading_71 : decode cX10_reading 71 = .ok (.iload_n 3, 1) := by decide +kernel
theorem dX10_reading_72 : decode cX10_reading 72 = .ok (.iastore, 1) := by decide +kernel
theorem dX10_reading_73 : decode cX10_reading 73 = .ok (.aload_n 0, 1) := by decide +kernel
theorem dX10_reading_74 : decode cX10_reading 74 = .ok (.dup, 1) := by decide +kernel
theorem dX10_reading_75 : decode cX10_reading 75 = .ok (.getfield 132, 3) := by decide +kernel
theorem dX10_reading_78 : decode cX10_reading 78 = .ok (.iconst 1, 1) := by decide +kernel
theorem dX10_reading_79 : decode cX10_reading 79 = .ok (.iadd, 1) := by decide +kernel
theorem dX10_reading_80 : decode cX10_reading 80 = .ok (.putfield 132, 3) := by decide +kernel
theorem dX10_reading_83 : decode cX10_reading 83 = .ok (.aload_n 0, 1) := by decide +kernel
theorem dX10_reading_84 : decode cX10_reading 84 = .ok (.getfield 132, 3) := by decide +kernel
theorem dX10_reading_87 : decode cX10_reading 87 = .ok (.iconst 1, 1) := by decide +kernel
theorem dX10_reading_88 : decode cX10_reading 88 = .ok (.isub, 1) := by decide +kernel
theorem dX10_reading_89 : decode cX10_reading 89 = .ok (.ireturn, 1) := by decide +kernel
theorem dX10_back_0 : decode cX10_back 0 = .ok (.iload_n 1, 1) := by decide +kernel
theorem dX10_back_1 : decode cX10_back 1 = .ok (.i2l, 1) := by decide +kernel
theorem dX10_back_2 : decode cX10_back 2 = .ok (.lconst 0, 1) := by decide +kernel
theorem dX10_back_3 : decode cX10_back 3 = .ok (.aload_n 0, 1) := by decide +kernel
theorem dX10_back_4 : decode cX10_back 4 = .ok (.getfield 132, 3) := by decide +kernel
theorem dX10_back_7 : decode cX10_back 7 = .ok (.i2l, 1) := by decide +kernel
theorem dX10_back_8 : decode cX10_back 8 = .ok (.invokestatic 71, 3) := by decide +kernel
theorem dX10_back_11 : decode cX10_back 11 = .ok (.ifCond .ne 6, 3) := by decide +kernel
theorem dX10_back_14 : decode cX10_back 14 = .ok (.bipush (-2), 2) := by decide +kernel
theorem dX10_back_16 : decode cX10_back 16 = .ok (.ireturn, 1) := by decide +kernel
theorem dX10_back_17 : decode cX10_back 17 = .ok (.aload_n 0, 1) := by decide +kernel
theorem dX10_back_18 : decode cX10_back 18 = .ok (.dup, 1) := by decide +kernel
theorem dX10_back_19 : decode cX10_back 19 = .ok (.getfield 132, 3) := by decide +kernel
theorem dX10_back_22 : decode cX10_back 22 = .ok (.iload_n 1, 1) := by decide +kernel
theorem dX10_back_23 : decode cX10_back 23 = .ok (.isub, 1) := by decide +kernel
theorem dX10_back_24 : decode cX10_back 24 = .ok (.putfield 132, 3) := by decide +kernel
theorem dX10_back_27 : decode cX10_back 27 = .ok (.aload_n 0, 1) := by decide +kernel
theorem dX10_back_28 : decode cX10_back 28 = .ok (.getfield 132, 3) := by decide +kernel
theorem dX10_back_31 : decode cX10_back 31 = .ok (.ireturn, 1) := by decide +kernel
theorem dX10_isHit_0 : decode cX10_isHit 0 = .ok (.aload_n 0, 1) := by decide +kernel
theorem dX10_isHit_1 : decode cX10_isHit 1 = .ok (.aload_n 0, 1) := by decide +kernel
theorem dX10_isHit_2 : decode cX10_isHit 2 = .ok (.getfield 7, 3) := by decide +kernel
theorem dX10_isHit_5 : decode cX10_isHit 5 = .ok (.iload_n 1, 1) := by decide +kernel
theorem dX10_isHit_6 : decode cX10_isHit 6 = .ok (.iaload, 1) := by decide +kernel
theorem dX10_isHit_7 : decode cX10_isHit 7 = .ok (.aload_n 0, 1) := by decide +kernel
theorem dX10_isHit_8 : decode cX10_isHit 8 = .ok (.getfield 13, 3) := by decide +kernel
theorem dX10_isHit_11 : decode cX10_isHit 11 = .ok (.iload_n 1, 1) := by decide +kernel
theorem dX10_isHit_12 : decode cX10_isHit 12 = .ok (.iaload, 1) := by decide +kernel
theorem dX10_isHit_13 : decode cX10_isHit 13 = .ok (.iload_n 2, 1) := by decide +kernel
theorem dX10_isHit_14 : decode cX10_isHit 14 = .ok (.invokevirtual 173, 3) := by decide +kernel
theorem dX10_isHit_17 : decode cX10_isHit 17 = .ok (.aload_n 0, 1) := by decide +kernel
theorem dX10_isHit_18 : decode cX10_isHit 18 = .ok (.aload_n 0, 1) := by decide +kernel
theorem dX10_isHit_19 : decode cX10_isHit 19 = .ok (.getfield 16, 3) := by decide +kernel
theorem dX10_isHit_22 : decode cX10_isHit 22 = .ok (.iload_n 2, 1) := by decide +kernel
theorem dX10_isHit_23 : decode cX10_isHit 23 = .ok (.iaload, 1) := by decide +kernel
theorem dX10_isHit_24 : decode cX10_isHit 24 = .ok (.invokevirtual 160, 3) := by decide +kernel
theorem dX10_isHit_27 : decode cX10_isHit 27 = .ok (.ifCond .lt 7, 3) := by decide +kernel
theorem dX10_isHit_30 : decode cX10_isHit 30 = .ok (.iconst 1, 1) := by decide +kernel
theorem dX10_isHit_31 : decode cX10_isHit 31 = .ok (.goto 4, 3) := by decide +kernel
theorem dX10_isHit_34 : decode cX10_isHit 34 = .ok (.iconst 0, 1) := by decide +kernel
theorem dX10_isHit_35 : decode cX10_isHit 35 = .ok (.ireturn, 1) := by decide +kernel
theorem dX10_areSo_0 : decode cX10_areSo 0 = .ok (.iconst 1, 1) := by decide +kernel
theorem dX10_areSo_1 : decode cX10_areSo 1 = .ok (.istore_n 1, 1) := by decide +kernel
theorem dX10_areSo_2 : decode cX10_areSo 2 = .ok (.iconst 0, 1) := by decide +kernel
theorem dX10_areSo_3 : decode cX10_areSo 3 = .ok (.istore_n 2, 1) := by decide +kernel
theorem dX10_areSo_4 : decode cX10_areSo 4 = .ok (.iload_n 2, 1) := by decide +kernel
theorem dX10_areSo_5 : decode cX10_areSo 5 = .ok (.aload_n 0, 1) := by decide +kernel
theorem dX10_areSo_6 : decode cX10_areSo 6 = .ok (.getfield 132, 3) := by decide +kernel
theorem dX10_areSo_9 : decode cX10_areSo 9 = .ok (.if_icmp .ge 53, 3) := by decide +kernel
theorem dX10_areSo_12 : decode cX10_areSo 12 = .ok (.iload_n 1, 1) := by decide +kernel
theorem dX10_areSo_13 : decode cX10_areSo 13 = .ok (.ifCond .eq 41, 3) := by decide +kernel
theorem dX10_areSo_16 : decode cX10_areSo 16 = .ok (.aload_n 0, 1) := by decide +kernel
theorem dX10_areSo_17 : decode cX10_areSo 17 = .ok (.aload_n 0, 1) := by decide +kernel
theorem dX10_areSo_18 : decode cX10_areSo 18 = .ok (.getfield 37, 3) := by decide +kernel
theorem dX10_areSo_21 : decode cX10_areSo 21 = .ok (.iload_n 2, 1) := by decide +kernel
theorem dX10_areSo_22 : decode cX10_areSo 22 = .ok (.iaload, 1) := by decide +kernel
theorem dX10_areSo_23 : decode cX10_areSo 23 = .ok (.aload_n 0, 1) := by decide +kernel
theorem dX10_areSo_24 : decode cX10_areSo 24 = .ok (.getfield 40, 3) := by decide +kernel
theorem dX10_areSo_27 : decode cX10_areSo 27 = .ok (.iload_n 2, 1) := by decide +kernel
theorem dX10_areSo_28 : decode cX10_areSo 28 = .ok (.iaload, 1) := by decide +kernel
theorem dX10_areSo_29 : decode cX10_areSo 29 = .ok (.invokevirtual 225, 3) := by decide +kernel
theorem dX10_areSo_32 : decode cX10_areSo 32 = .ok (.aload_n 0, 1) := by decide +kernel
theorem dX10_areSo_33 : decode cX10_areSo 33 = .ok (.getfield 43, 3) := by decide +kernel
theorem dX10_areSo_36 : decode cX10_areSo 36 = .ok (.iload_n 2, 1) := by decide +kernel
theorem dX10_areSo_37 : decode cX10_areSo 37 = .ok (.iaload, 1) := by decide +kernel
theorem dX10_areSo_38 : decode cX10_areSo 38 = .ok (.iconst 1, 1) := by decide +kernel
theorem dX10_areSo_39 : decode cX10_areSo 39 = .ok (.if_icmp .ne 7, 3) := by decide +kernel
theorem dX10_areSo_42 : decode cX10_areSo 42 = .ok (.iconst 1, 1) := by decide +kernel
theorem dX10_areSo_43 : decode cX10_areSo 43 = .ok (.goto 4, 3) := by decide +kernel
theorem dX10_areSo_46 : decode cX10_areSo 46 = .ok (.iconst 0, 1) := by decide +kernel
theorem dX10_areSo_47 : decode cX10_areSo 47 = .ok (.if_icmp .ne 7, 3) := by decide +kernel
theorem dX10_areSo_50 : decode cX10_areSo 50 = .ok (.iconst 1, 1) := by decide +kernel
theorem dX10_areSo_51 : decode cX10_areSo 51 = .ok (.goto 4, 3) := by decide +kernel
theorem dX10_areSo_54 : decode cX10_areSo 54 = .ok (.iconst 0, 1) := by decide +kernel
theorem dX10_areSo_55 : decode cX10_areSo 55 = .ok (.istore_n 1, 1) := by decide +kernel
theorem dX10_areSo_56 : decode cX10_areSo 56 = .ok (.iinc 2 1, 3) := by decide +kernel
theorem dX10_areSo_59 : decode cX10_areSo 59 = .ok (.goto (-55), 3) := by decide +kernel
theorem dX10_areSo_62 : decode cX10_areSo 62 = .ok (.iload_n 1, 1) := by decide +kernel
theorem dX10_areSo_63 : decode cX10_areSo 63 = .ok (.ireturn, 1) := by decide +kernel
theorem dX10_sizes_0 : decode cX10_sizes 0 = .ok (.aload_n 0, 1) := by decide +kernel
theorem dX10_sizes_1 : decode cX10_sizes 1 = .ok (.iload_n 1, 1) := by decide +kernel
theorem dX10_sizes_2 : decode cX10_sizes 2 = .ok (.invokevirtual 177, 3) := by decide +kernel
theorem dX10_sizes_5 : decode cX10_sizes 5 = .ok (.ifCond .eq 5, 3) := by decide +kernel
theorem dX10_sizes_8 : decode cX10_sizes 8 = .ok (.iconst (-1), 1) := by decide +kernel
theorem dX10_sizes_9 : decode cX10_sizes 9 = .ok (.ireturn, 1) := by decide +kernel
theorem dX10_sizes_10 : decode cX10_sizes 10 = .ok (.aload_n 0, 1) := by decide +kernel
theorem dX10_sizes_11 : decode cX10_sizes 11 = .ok (.getfield 13, 3) := by decide +kernel
theorem dX10_sizes_14 : decode cX10_sizes 14 = .ok (.iload_n 1, 1) := by decide +kernel
theorem dX10_sizes_15 : decode cX10_sizes 15 = .ok (.iaload, 1) := by decide +kernel
theorem dX10_sizes_16 : decode cX10_sizes 16 = .ok (.istore_n 2, 1) := by decide +kernel
theorem dX10_sizes_17 : decode cX10_sizes 17 = .ok (.iconst 0, 1) := by decide +kernel
theorem dX10_sizes_18 : decode cX10_sizes 18 = .ok (.istore_n 3, 1) := by decide +kernel
theorem dX10_sizes_19 : decode cX10_sizes 19 = .ok (.iconst 1, 1) := by decide +kernel
theorem dX10_sizes_20 : decode cX10_sizes 20 = .ok (.istore 4, 2) := by decide +kernel
theorem dX10_sizes_22 : decode cX10_sizes 22 = .ok (.iload 4, 2) := by decide +kernel
theorem dX10_sizes_24 : decode cX10_sizes 24 = .ok (.iconst 5, 1) := by decide +kernel
theorem dX10_sizes_25 : decode cX10_sizes 25 = .ok (.if_icmp .gt 35, 3) := by decide +kernel
theorem dX10_sizes_28 : decode cX10_sizes 28 = .ok (.aload_n 0, 1) := by decide +kernel
theorem dX10_sizes_29 : decode cX10_sizes 29 = .ok (.getfield 13, 3) := by decide +kernel
theorem dX10_sizes_32 : decode cX10_sizes 32 = .ok (.iload_n 1, 1) := by decide +kernel
theorem dX10_sizes_33 : decode cX10_sizes 33 = .ok (.iload 4, 2) := by decide +kernel
theorem dX10_sizes_35 : decode cX10_sizes 35 = .ok (.iastore, 1) := by decide +kernel
theorem dX10_sizes_36 : decode cX10_sizes 36 = .ok (.iload_n 3, 1) := by decide +kernel
theorem dX10_sizes_37 : decode cX10_sizes 37 = .ok (.aload_n 0, 1) := by decide +kernel
theorem dX10_sizes_38 : decode cX10_sizes 38 = .ok (.invokevirtual 228, 3) := by decide +kernel
theorem dX10_sizes_41 : decode cX10_sizes 41 = .ok (.ifCond .eq 10, 3) := by decide +kernel
theorem dX10_sizes_44 : decode cX10_sizes 44 = .ok (.iconst 1, 1) := by decide +kernel
theorem dX10_sizes_45 : decode cX10_sizes 45 = .ok (.iload 4, 2) := by decide +kernel
theorem dX10_sizes_47 : decode cX10_sizes 47 = .ok (.ishl, 1) := by decide +kernel
theorem dX10_sizes_48 : decode cX10_sizes 48 = .ok (.goto 4, 3) := by decide +kernel
theorem dX10_sizes_51 : decode cX10_sizes 51 = .ok (.iconst 0, 1) := by decide +kernel
theorem dX10_sizes_52 : decode cX10_sizes 52 = .ok (.ior, 1) := by decide +kernel
theorem dX10_sizes_53 : decode cX10_sizes 53 = .ok (.istore_n 3, 1) := by decide +kernel
theorem dX10_sizes_54 : decode cX10_sizes 54 = .ok (.iinc 4 1, 3) := by decide +kernel
theorem dX10_sizes_57 : decode cX10_sizes 57 = .ok (.goto (-35), 3) := by decide +kernel
theorem dX10_sizes_60 : decode cX10_sizes 60 = .ok (.aload_n 0, 1) := by decide +kernel
theorem dX10_sizes_61 : decode cX10_sizes 61 = .ok (.getfield 13, 3) := by decide +kernel
theorem dX10_sizes_64 : decode cX10_sizes 64 = .ok (.iload_n 1, 1) := by decide +kernel
theorem dX10_sizes_65 : decode cX10_sizes 65 = .ok (.iload_n 2, 1) := by decide +kernel
theorem dX10_sizes_66 : decode cX10_sizes 66 = .ok (.iastore, 1) := by decide +kernel
theorem dX10_sizes_67 : decode cX10_sizes 67 = .ok (.iload_n 3, 1) := by decide +kernel
theorem dX10_sizes_68 : decode cX10_sizes 68 = .ok (.ireturn, 1) := by decide +kernel
theorem dX10_kinds_0 : decode cX10_kinds 0 = .ok (.aload_n 0, 1) := by decide +kernel
theorem dX10_kinds_1 : decode cX10_kinds 1 = .ok (.iload_n 1, 1) := by decide +kernel
theorem dX10_kinds_2 : decode cX10_kinds 2 = .ok (.invokevirtual 177, 3) := by decide +kernel
theorem dX10_kinds_5 : decode cX10_kinds 5 = .ok (.ifCond .eq 5, 3) := by decide +kernel
theorem dX10_kinds_8 : decode cX10_kinds 8 = .ok (.iconst (-1), 1) := by decide +kernel
theorem dX10_kinds_9 : decode cX10_kinds 9 = .ok (.ireturn, 1) := by decide +kernel
theorem dX10_kinds_10 : decode cX10_kinds 10 = .ok (.aload_n 0, 1) := by decide +kernel
theorem dX10_kinds_11 : decode cX10_kinds 11 = .ok (.getfield 7, 3) := by decide +kernel
theorem dX10_kinds_14 : decode cX10_kinds 14 = .ok (.iload_n 1, 1) := by decide +kernel
theorem dX10_kinds_15 : decode cX10_kinds 15 = .ok (.iaload, 1) := by decide +kernel
theorem dX10_kinds_16 : decode cX10_kinds 16 = .ok (.istore_n 2, 1) := by decide +kernel
theorem dX10_kinds_17 : decode cX10_kinds 17 = .ok (.iconst 0, 1) := by decide +kernel
theorem dX10_kinds_18 : decode cX10_kinds 18 = .ok (.istore_n 3, 1) := by decide +kernel
theorem dX10_kinds_19 : decode cX10_kinds 19 = .ok (.iconst 0, 1) := by decide +kernel
theorem dX10_kinds_20 : decode cX10_kinds 20 = .ok (.istore 4, 2) := by decide +kernel
theorem dX10_kinds_22 : decode cX10_kinds 22 = .ok (.iload 4, 2) := by decide +kernel
theorem dX10_kinds_24 : decode cX10_kinds 24 = .ok (.iconst 3, 1) := by decide +kernel
theorem dX10_kinds_25 : decode cX10_kinds 25 = .ok (.if_icmp .ge 35, 3) := by decide +kernel
theorem dX10_kinds_28 : decode cX10_kinds 28 = .ok (.aload_n 0, 1) := by decide +kernel
theorem dX10_kinds_29 : decode cX10_kinds 29 = .ok (.getfield 7, 3) := by decide +kernel
theorem dX10_kinds_32 : decode cX10_kinds 32 = .ok (.iload_n 1, 1) := by decide +kernel
theorem dX10_kinds_33 : decode cX10_kinds 33 = .ok (.iload 4, 2) := by decide +kernel
theorem dX10_kinds_35 : decode cX10_kinds 35 = .ok (.iastore, 1) := by decide +kernel
theorem dX10_kinds_36 : decode cX10_kinds 36 = .ok (.iload_n 3, 1) := by decide +kernel
theorem dX10_kinds_37 : decode cX10_kinds 37 = .ok (.aload_n 0, 1) := by decide +kernel
theorem dX10_kinds_38 : decode cX10_kinds 38 = .ok (.invokevirtual 228, 3) := by decide +kernel
theorem dX10_kinds_41 : decode cX10_kinds 41 = .ok (.ifCond .eq 10, 3) := by decide +kernel
theorem dX10_kinds_44 : decode cX10_kinds 44 = .ok (.iconst 1, 1) := by decide +kernel
theorem dX10_kinds_45 : decode cX10_kinds 45 = .ok (.iload 4, 2) := by decide +kernel
theorem dX10_kinds_47 : decode cX10_kinds 47 = .ok (.ishl, 1) := by decide +kernel
theorem dX10_kinds_48 : decode cX10_kinds 48 = .ok (.goto 4, 3) := by decide +kernel
theorem dX10_kinds_51 : decode cX10_kinds 51 = .ok (.iconst 0, 1) := by decide +kernel
theorem dX10_kinds_52 : decode cX10_kinds 52 = .ok (.ior, 1) := by decide +kernel
theorem dX10_kinds_53 : decode cX10_kinds 53 = .ok (.istore_n 3, 1) := by decide +kernel
theorem dX10_kinds_54 : decode cX10_kinds 54 = .ok (.iinc 4 1, 3) := by decide +kernel
theorem dX10_kinds_57 : decode cX10_kinds 57 = .ok (.goto (-35), 3) := by decide +kernel
theorem dX10_kinds_60 : decode cX10_kinds 60 = .ok (.aload_n 0, 1) := by decide +kernel
theorem dX10_kinds_61 : decode cX10_kinds 61 = .ok (.getfield 7, 3) := by decide +kernel
theorem dX10_kinds_64 : decode cX10_kinds 64 = .ok (.iload_n 1, 1) := by decide +kernel
theorem dX10_kinds_65 : decode cX10_kinds 65 = .ok (.iload_n 2, 1) := by decide +kernel
theorem dX10_kinds_66 : decode cX10_kinds 66 = .ok (.iastore, 1) := by decide +kernel
theorem dX10_kinds_67 : decode cX10_kinds 67 = .ok (.iload_n 3, 1) := by decide +kernel
theorem dX10_kinds_68 : decode cX10_kinds 68 = .ok (.ireturn, 1) := by decide +kernel
theorem dX10_odds_0 : decode cX10_odds 0 = .ok (.aload_n 0, 1) := by decide +kernel
theorem dX10_odds_1 : decode cX10_odds 1 = .ok (.iload_n 1, 1) := by decide +kernel
theorem dX10_odds_2 : decode cX10_odds 2 = .ok (.invokevirtual 177, 3) := by decide +kernel
theorem dX10_odds_5 : decode cX10_odds 5 = .ok (.ifCond .ne 25, 3) := by decide +kernel
theorem dX10_odds_8 : decode cX10_odds 8 = .ok (.iload_n 2, 1) := by decide +kernel
theorem dX10_odds_9 : decode cX10_odds 9 = .ok (.i2l, 1) := by decide +kernel
theorem dX10_odds_10 : decode cX10_odds 10 = .ok (.lconst 0, 1) := by decide +kernel
theorem dX10_odds_11 : decode cX10_odds 11 = .ok (.ldc2_w 232, 3) := by decide +kernel
theorem dX10_odds_14 : decode cX10_odds 14 = .ok (.invokestatic 71, 3) := by decide +kernel
theorem dX10_odds_17 : decode cX10_odds 17 = .ok (.ifCond .eq 13, 3) := by decide +kernel
theorem dX10_odds_20 : decode cX10_odds 20 = .ok (.iload_n 3, 1) := by decide +kernel
theorem dX10_odds_21 : decode cX10_odds 21 = .ok (.i2l, 1) := by decide +kernel
theorem dX10_odds_22 : decode cX10_odds 22 = .ok (.lconst 0, 1) := by decide +kernel
theorem dX10_odds_23 : decode cX10_odds 23 = .ok (.lconst 1, 1) := by decide +kernel
theorem dX10_odds_24 : decode cX10_odds 24 = .ok (.invokestatic 71, 3) := by decide +kernel
theorem dX10_odds_27 : decode cX10_odds 27 = .ok (.ifCond .ne 7, 3) := by decide +kernel
theorem dX10_odds_30 : decode cX10_odds 30 = .ok (.invokestatic 64, 3) := by decide +kernel
theorem dX10_odds_33 : decode cX10_odds 33 = .ok (.lreturn, 1) := by decide +kernel
theorem dX10_odds_34 : decode cX10_odds 34 = .ok (.aload_n 0, 1) := by decide +kernel
theorem dX10_odds_35 : decode cX10_odds 35 = .ok (.iload_n 1, 1) := by decide +kernel
theorem dX10_odds_36 : decode cX10_odds 36 = .ok (.invokevirtual 180, 3) := by decide +kernel
theorem dX10_odds_39 : decode cX10_odds 39 = .ok (.lconst 1, 1) := by decide +kernel
theorem dX10_odds_40 : decode cX10_odds 40 = .ok (.lstore 4, 2) := by decide +kernel
theorem dX10_odds_42 : decode cX10_odds 42 = .ok (.lconst 1, 1) := by decide +kernel
theorem dX10_odds_43 : decode cX10_odds 43 = .ok (.lstore 6, 2) := by decide +kernel
theorem dX10_odds_45 : decode cX10_odds 45 = .ok (.iconst 0, 1) := by decide +kernel
theorem dX10_odds_46 : decode cX10_odds 46 = .ok (.istore 8, 2) := by decide +kernel
theorem dX10_odds_48 : decode cX10_odds 48 = .ok (.iload 8, 2) := by decide +kernel
theorem dX10_odds_50 : decode cX10_odds 50 = .ok (.iload_n 2, 1) := by decide +kernel
theorem dX10_odds_51 : decode cX10_odds 51 = .ok (.if_icmp .ge 27, 3) := by decide +kernel
theorem dX10_odds_54 : decode cX10_odds 54 = .ok (.lload 4, 2) := by decide +kernel
theorem dX10_odds_56 : decode cX10_odds 56 = .ok (.aload_n 0, 1) := by decide +kernel
theorem dX10_odds_57 : decode cX10_odds 57 = .ok (.getfield 141, 3) := by decide +kernel
theorem dX10_odds_60 : decode cX10_odds 60 = .ok (.i2l, 1) := by decide +kernel
theorem dX10_odds_61 : decode cX10_odds 61 = .ok (.lmul, 1) := by decide +kernel
theorem dX10_odds_62 : decode cX10_odds 62 = .ok (.lstore 4, 2) := by decide +kernel
theorem dX10_odds_64 : decode cX10_odds 64 = .ok (.lload 6, 2) := by decide +kernel
theorem dX10_odds_66 : decode cX10_odds 66 = .ok (.ldc2_w 202, 3) := by decide +kernel
theorem dX10_odds_69 : decode cX10_odds 69 = .ok (.lmul, 1) := by decide +kernel
theorem dX10_odds_70 : decode cX10_odds 70 = .ok (.lstore 6, 2) := by decide +kernel
theorem dX10_odds_72 : decode cX10_odds 72 = .ok (.iinc 8 1, 3) := by decide +kernel
theorem dX10_odds_75 : decode cX10_odds 75 = .ok (.goto (-27), 3) := by decide +kernel
theorem dX10_odds_78 : decode cX10_odds 78 = .ok (.lload 4, 2) := by decide +kernel
theorem dX10_odds_80 : decode cX10_odds 80 = .ok (.lload 6, 2) := by decide +kernel
theorem dX10_odds_82 : decode cX10_odds 82 = .ok (.iload_n 3, 1) := by decide +kernel
theorem dX10_odds_83 : decode cX10_odds 83 = .ok (.invokestatic 234, 3) := by decide +kernel
theorem dX10_odds_86 : decode cX10_odds 86 = .ok (.lreturn, 1) := by decide +kernel
theorem dX10_noSheet_0 : decode cX10_noSheet 0 = .ok (.iload_n 0, 1) := by decide +kernel
theorem dX10_noSheet_1 : decode cX10_noSheet 1 = .ok (.i2l, 1) := by decide +kernel
theorem dX10_noSheet_2 : decode cX10_noSheet 2 = .ok (.lconst 0, 1) := by decide +kernel
theorem dX10_noSheet_3 : decode cX10_noSheet 3 = .ok (.ldc2_w 232, 3) := by decide +kernel
theorem dX10_noSheet_6 : decode cX10_noSheet 6 = .ok (.invokestatic 71, 3) := by decide +kernel
theorem dX10_noSheet_9 : decode cX10_noSheet 9 = .ok (.ifCond .ne 7, 3) := by decide +kernel
theorem dX10_noSheet_12 : decode cX10_noSheet 12 = .ok (.iconst 1, 1) := by decide +kernel
theorem dX10_noSheet_13 : decode cX10_noSheet 13 = .ok (.goto 4, 3) := by decide +kernel
theorem dX10_noSheet_16 : decode cX10_noSheet 16 = .ok (.iconst 0, 1) := by decide +kernel
theorem dX10_noSheet_17 : decode cX10_noSheet 17 = .ok (.ireturn, 1) := by decide +kernel
theorem dX10_sheet_0 : decode cX10_sheet 0 = .ok (.iload_n 1, 1) := by decide +kernel
theorem dX10_sheet_1 : decode cX10_sheet 1 = .ok (.invokestatic 114, 3) := by decide +kernel
theorem dX10_sheet_4 : decode cX10_sheet 4 = .ok (.ifCond .eq 9, 3) := by decide +kernel
theorem dX10_sheet_7 : decode cX10_sheet 7 = .ok (.aload_n 0, 1) := by decide +kernel
theorem dX10_sheet_8 : decode cX10_sheet 8 = .ok (.iconst (-1), 1) := by decide +kernel
theorem dX10_sheet_9 : decode cX10_sheet 9 = .ok (.invokevirtual 117, 3) := by decide +kernel
theorem dX10_sheet_12 : decode cX10_sheet 12 = .ok (.ireturn, 1) := by decide +kernel
theorem dX10_sheet_13 : decode cX10_sheet 13 = .ok (.iload_n 2, 1) := by decide +kernel
theorem dX10_sheet_14 : decode cX10_sheet 14 = .ok (.i2l, 1) := by decide +kernel
theorem dX10_sheet_15 : decode cX10_sheet 15 = .ok (.lconst 0, 1) := by decide +kernel
theorem dX10_sheet_16 : decode cX10_sheet 16 = .ok (.ldc2_w 120, 3) := by decide +kernel
theorem dX10_sheet_19 : decode cX10_sheet 19 = .ok (.invokestatic 71, 3) := by decide +kernel
theorem dX10_sheet_22 : decode cX10_sheet 22 = .ok (.ifCond .eq 9, 3) := by decide +kernel
theorem dX10_sheet_25 : decode cX10_sheet 25 = .ok (.iload_n 3, 1) := by decide +kernel
theorem dX10_sheet_26 : decode cX10_sheet 26 = .ok (.bipush 60, 2) := by decide +kernel
theorem dX10_sheet_28 : decode cX10_sheet 28 = .ok (.if_icmp .le 10, 3) := by decide +kernel
theorem dX10_sheet_31 : decode cX10_sheet 31 = .ok (.aload_n 0, 1) := by decide +kernel
theorem dX10_sheet_32 : decode cX10_sheet 32 = .ok (.bipush (-2), 2) := by decide +kernel
theorem dX10_sheet_34 : decode cX10_sheet 34 = .ok (.invokevirtual 117, 3) := by decide +kernel
theorem dX10_sheet_37 : decode cX10_sheet 37 = .ok (.ireturn, 1) := by decide +kernel
theorem dX10_sheet_38 : decode cX10_sheet 38 = .ok (.iload_n 3, 1) := by decide +kernel
theorem dX10_sheet_39 : decode cX10_sheet 39 = .ok (.ifCond .ge 9, 3) := by decide +kernel
theorem dX10_sheet_42 : decode cX10_sheet 42 = .ok (.aload_n 0, 1) := by decide +kernel
theorem dX10_sheet_43 : decode cX10_sheet 43 = .ok (.iconst 4, 1) := by decide +kernel
theorem dX10_sheet_44 : decode cX10_sheet 44 = .ok (.invokevirtual 106, 3) := by decide +kernel
theorem dX10_sheet_47 : decode cX10_sheet 47 = .ok (.ireturn, 1) := by decide +kernel
theorem dX10_sheet_48 : decode cX10_sheet 48 = .ok (.aload_n 0, 1) := by decide +kernel
theorem dX10_sheet_49 : decode cX10_sheet 49 = .ok (.getfield 46, 3) := by decide +kernel
theorem dX10_sheet_52 : decode cX10_sheet 52 = .ok (.iload_n 1, 1) := by decide +kernel
theorem dX10_sheet_53 : decode cX10_sheet 53 = .ok (.iload_n 3, 1) := by decide +kernel
theorem dX10_sheet_54 : decode cX10_sheet 54 = .ok (.iastore, 1) := by decide +kernel
theorem dX10_sheet_55 : decode cX10_sheet 55 = .ok (.aload_n 0, 1) := by decide +kernel
theorem dX10_sheet_56 : decode cX10_sheet 56 = .ok (.getfield 49, 3) := by decide +kernel
theorem dX10_sheet_59 : decode cX10_sheet 59 = .ok (.iload_n 1, 1) := by decide +kernel
theorem dX10_sheet_60 : decode cX10_sheet 60 = .ok (.iload_n 2, 1) := by decide +kernel
theorem dX10_sheet_61 : decode cX10_sheet 61 = .ok (.iastore, 1) := by decide +kernel
theorem dX10_sheet_62 : decode cX10_sheet 62 = .ok (.iconst 0, 1) := by decide +kernel
theorem dX10_sheet_63 : decode cX10_sheet 63 = .ok (.istore 4, 2) := by decide +kernel
theorem dX10_sheet_65 : decode cX10_sheet 65 = .ok (.iload 4, 2) := by decide +kernel
theorem dX10_sheet_67 : decode cX10_sheet 67 = .ok (.iload_n 3, 1) := by decide +kernel
theorem dX10_sheet_68 : decode cX10_sheet 68 = .ok (.if_icmp .ge 22, 3) := by decide +kernel
theorem dX10_sheet_71 : decode cX10_sheet 71 = .ok (.aload_n 0, 1) := by decide +kernel
theorem dX10_sheet_72 : decode cX10_sheet 72 = .ok (.getfield 52, 3) := by decide +kernel
theorem dX10_sheet_75 : decode cX10_sheet 75 = .ok (.bipush 60, 2) := by decide +kernel
theorem dX10_sheet_77 : decode cX10_sheet 77 = .ok (.iload_n 1, 1) := by decide +kernel
theorem dX10_sheet_78 : decode cX10_sheet 78 = .ok (.imul, 1) := by decide +kernel
theorem dX10_sheet_79 : decode cX10_sheet 79 = .ok (.iload 4, 2) := by decide +kernel
theorem dX10_sheet_81 : decode cX10_sheet 81 = .ok (.iadd, 1) := by decide +kernel
theorem dX10_sheet_82 : decode cX10_sheet 82 = .ok (.iconst 0, 1) := by decide +kernel
theorem dX10_sheet_83 : decode cX10_sheet 83 = .ok (.iastore, 1) := by decide +kernel
theorem dX10_sheet_84 : decode cX10_sheet 84 = .ok (.iinc 4 1, 3) := by decide +kernel
theorem dX10_sheet_87 : decode cX10_sheet 87 = .ok (.goto (-22), 3) := by decide +kernel
theorem dX10_sheet_90 : decode cX10_sheet 90 = .ok (.aload_n 0, 1) := by decide +kernel
theorem dX10_sheet_91 : decode cX10_sheet 91 = .ok (.iconst 1, 1) := by decide +kernel
theorem dX10_sheet_92 : decode cX10_sheet 92 = .ok (.invokevirtual 117, 3) := by decide +kernel
theorem dX10_sheet_95 : decode cX10_sheet 95 = .ok (.ireturn, 1) := by decide +kernel
theorem dX10_lose_0 : decode cX10_lose 0 = .ok (.iload_n 1, 1) := by decide +kernel
theorem dX10_lose_1 : decode cX10_lose 1 = .ok (.invokestatic 114, 3) := by decide +kernel
theorem dX10_lose_4 : decode cX10_lose 4 = .ok (.ifCond .eq 5, 3) := by decide +kernel
theorem dX10_lose_7 : decode cX10_lose 7 = .ok (.iconst (-1), 1) := by decide +kernel
theorem dX10_lose_8 : decode cX10_lose 8 = .ok (.ireturn, 1) := by decide +kernel
theorem dX10_lose_9 : decode cX10_lose 9 = .ok (.aload_n 0, 1) := by decide +kernel
theorem dX10_lose_10 : decode cX10_lose 10 = .ok (.getfield 46, 3) := by decide +kernel
theorem dX10_lose_13 : decode cX10_lose 13 = .ok (.iload_n 1, 1) := by decide +kernel
theorem dX10_lose_14 : decode cX10_lose 14 = .ok (.iaload, 1) := by decide +kernel
theorem dX10_lose_15 : decode cX10_lose 15 = .ok (.ifCond .ge 7, 3) := by decide +kernel
theorem dX10_lose_18 : decode cX10_lose 18 = .ok (.iconst 0, 1) := by decide +kernel
theorem dX10_lose_19 : decode cX10_lose 19 = .ok (.goto 4, 3) := by decide +kernel
theorem dX10_lose_22 : decode cX10_lose 22 = .ok (.iconst 1, 1) := by decide +kernel
theorem dX10_lose_23 : decode cX10_lose 23 = .ok (.istore_n 2, 1) := by decide +kernel
theorem dX10_lose_24 : decode cX10_lose 24 = .ok (.aload_n 0, 1) := by decide +kernel
theorem dX10_lose_25 : decode cX10_lose 25 = .ok (.getfield 46, 3) := by decide +kernel
theorem dX10_lose_28 : decode cX10_lose 28 = .ok (.iload_n 1, 1) := by decide +kernel
theorem dX10_lose_29 : decode cX10_lose 29 = .ok (.iconst (-1), 1) := by decide +kernel
theorem dX10_lose_30 : decode cX10_lose 30 = .ok (.iastore, 1) := by decide +kernel
theorem dX10_lose_31 : decode cX10_lose 31 = .ok (.iload_n 2, 1) := by decide +kernel
theorem dX10_lose_32 : decode cX10_lose 32 = .ok (.ireturn, 1) := by decide +kernel
theorem dX10_noCell_0 : decode cX10_noCell 0 = .ok (.aload_n 0, 1) := by decide +kernel
theorem dX10_noCell_1 : decode cX10_noCell 1 = .ok (.getfield 46, 3) := by decide +kernel
theorem dX10_noCell_4 : decode cX10_noCell 4 = .ok (.iload_n 1, 1) := by decide +kernel
theorem dX10_noCell_5 : decode cX10_noCell 5 = .ok (.iaload, 1) := by decide +kernel
theorem dX10_noCell_6 : decode cX10_noCell 6 = .ok (.ifCond .ge 7, 3) := by decide +kernel
theorem dX10_noCell_9 : decode cX10_noCell 9 = .ok (.iconst 1, 1) := by decide +kernel
theorem dX10_noCell_10 : decode cX10_noCell 10 = .ok (.goto 26, 3) := by decide +kernel
theorem dX10_noCell_13 : decode cX10_noCell 13 = .ok (.iload_n 2, 1) := by decide +kernel
theorem dX10_noCell_14 : decode cX10_noCell 14 = .ok (.i2l, 1) := by decide +kernel
theorem dX10_noCell_15 : decode cX10_noCell 15 = .ok (.lconst 0, 1) := by decide +kernel
theorem dX10_noCell_16 : decode cX10_noCell 16 = .ok (.aload_n 0, 1) := by decide +kernel
theorem dX10_noCell_17 : decode cX10_noCell 17 = .ok (.getfield 46, 3) := by decide +kernel
theorem dX10_noCell_20 : decode cX10_noCell 20 = .ok (.iload_n 1, 1) := by decide +kernel
theorem dX10_noCell_21 : decode cX10_noCell 21 = .ok (.iaload, 1) := by decide +kernel
theorem dX10_noCell_22 : decode cX10_noCell 22 = .ok (.i2l, 1) := by decide +kernel
theorem dX10_noCell_23 : decode cX10_noCell 23 = .ok (.lconst 1, 1) := by decide +kernel
theorem dX10_noCell_24 : decode cX10_noCell 24 = .ok (.lsub, 1) := by decide +kernel
theorem dX10_noCell_25 : decode cX10_noCell 25 = .ok (.invokestatic 71, 3) := by decide +kernel
theorem dX10_noCell_28 : decode cX10_noCell 28 = .ok (.ifCond .eq 7, 3) := by decide +kernel
theorem dX10_noCell_31 : decode cX10_noCell 31 = .ok (.iconst 0, 1) := by decide +kernel
theorem dX10_noCell_32 : decode cX10_noCell 32 = .ok (.goto 4, 3) := by decide +kernel
theorem dX10_noCell_35 : decode cX10_noCell 35 = .ok (.iconst 3, 1) := by decide +kernel
theorem dX10_noCell_36 : decode cX10_noCell 36 = .ok (.ireturn, 1) := by decide +kernel
theorem dX10_put_0 : decode cX10_put 0 = .ok (.iload_n 1, 1) := by decide +kernel
theorem dX10_put_1 : decode cX10_put 1 = .ok (.invokestatic 114, 3) := by decide +kernel
theorem dX10_put_4 : decode cX10_put 4 = .ok (.ifCond .eq 9, 3) := by decide +kernel
theorem dX10_put_7 : decode cX10_put 7 = .ok (.aload_n 0, 1) := by decide +kernel
theorem dX10_put_8 : decode cX10_put 8 = .ok (.iconst (-1), 1) := by decide +kernel
theorem dX10_put_9 : decode cX10_put 9 = .ok (.invokevirtual 117, 3) := by decide +kernel
theorem dX10_put_12 : decode cX10_put 12 = .ok (.ireturn, 1) := by decide +kernel
theorem dX10_put_13 : decode cX10_put 13 = .ok (.aload_n 0, 1) := by decide +kernel
theorem dX10_put_14 : decode cX10_put 14 = .ok (.iload_n 1, 1) := by decide +kernel
theorem dX10_put_15 : decode cX10_put 15 = .ok (.iload_n 2, 1) := by decide +kernel
theorem dX10_put_16 : decode cX10_put 16 = .ok (.invokevirtual 238, 3) := by decide +kernel
theorem dX10_put_19 : decode cX10_put 19 = .ok (.ifCond .le 14, 3) := by decide +kernel
theorem dX10_put_22 : decode cX10_put 22 = .ok (.aload_n 0, 1) := by decide +kernel
theorem dX10_put_23 : decode cX10_put 23 = .ok (.aload_n 0, 1) := by decide +kernel
theorem dX10_put_24 : decode cX10_put 24 = .ok (.iload_n 1, 1) := by decide +kernel
theorem dX10_put_25 : decode cX10_put 25 = .ok (.iload_n 2, 1) := by decide +kernel
theorem dX10_put_26 : decode cX10_put 26 = .ok (.invokevirtual 238, 3) := by decide +kernel
theorem dX10_put_29 : decode cX10_put 29 = .ok (.invokevirtual 106, 3) := by decide +kernel
theorem dX10_put_32 : decode cX10_put 32 = .ok (.ireturn, 1) := by decide +kernel
theorem dX10_put_33 : decode cX10_put 33 = .ok (.aload_n 0, 1) := by decide +kernel
theorem dX10_put_34 : decode cX10_put 34 = .ok (.getfield 52, 3) := by decide +kernel
theorem dX10_put_37 : decode cX10_put 37 = .ok (.bipush 60, 2) := by decide +kernel
theorem dX10_put_39 : decode cX10_put 39 = .ok (.iload_n 1, 1) := by decide +kernel
theorem dX10_put_40 : decode cX10_put 40 = .ok (.imul, 1) := by decide +kernel
theorem dX10_put_41 : decode cX10_put 41 = .ok (.iload_n 2, 1) := by decide +kernel
theorem dX10_put_42 : decode cX10_put 42 = .ok (.iadd, 1) := by decide +kernel
theorem dX10_put_43 : decode cX10_put 43 = .ok (.aload_n 0, 1) := by decide +kernel
theorem dX10_put_44 : decode cX10_put 44 = .ok (.getfield 49, 3) := by decide +kernel
theorem dX10_put_47 : decode cX10_put 47 = .ok (.iload_n 1, 1) := by decide +kernel
theorem dX10_put_48 : decode cX10_put 48 = .ok (.iaload, 1) := by decide +kernel
theorem dX10_put_49 : decode cX10_put 49 = .ok (.ifCond .ne 8, 3) := by decide +kernel
theorem dX10_put_52 : decode cX10_put 52 = .ok (.iload_n 3, 1) := by decide +kernel
theorem dX10_put_53 : decode cX10_put 53 = .ok (.i2b, 1) := by decide +kernel
theorem dX10_put_54 : decode cX10_put 54 = .ok (.goto 19, 3) := by decide +kernel
theorem dX10_put_57 : decode cX10_put 57 = .ok (.aload_n 0, 1) := by decide +kernel
theorem dX10_put_58 : decode cX10_put 58 = .ok (.getfield 49, 3) := by decide +kernel
theorem dX10_put_61 : decode cX10_put 61 = .ok (.iload_n 1, 1) := by decide +kernel
theorem dX10_put_62 : decode cX10_put 62 = .ok (.iaload, 1) := by decide +kernel
theorem dX10_put_63 : decode cX10_put 63 = .ok (.iconst 1, 1) := by decide +kernel
theorem dX10_put_64 : decode cX10_put 64 = .ok (.if_icmp .ne 8, 3) := by decide +kernel
theorem dX10_put_67 : decode cX10_put 67 = .ok (.iload_n 3, 1) := by decide +kernel
theorem dX10_put_68 : decode cX10_put 68 = .ok (.i2s, 1) := by decide +kernel
theorem dX10_put_69 : decode cX10_put 69 = .ok (.goto 4, 3) := by decide +kernel
theorem dX10_put_72 : decode cX10_put 72 = .ok (.iload_n 3, 1) := by decide +kernel
theorem dX10_put_73 : decode cX10_put 73 = .ok (.iastore, 1) := by decide +kernel
theorem dX10_put_74 : decode cX10_put 74 = .ok (.aload_n 0, 1) := by decide +kernel
theorem dX10_put_75 : decode cX10_put 75 = .ok (.iconst 1, 1) := by decide +kernel
theorem dX10_put_76 : decode cX10_put 76 = .ok (.invokevirtual 117, 3) := by decide +kernel
theorem dX10_put_79 : decode cX10_put 79 = .ok (.ireturn, 1) := by decide +kernel
theorem dX10_cell_0 : decode cX10_cell 0 = .ok (.aload_n 0, 1) := by decide +kernel
theorem dX10_cell_1 : decode cX10_cell 1 = .ok (.iconst 0, 1) := by decide +kernel
theorem dX10_cell_2 : decode cX10_cell 2 = .ok (.putfield 60, 3) := by decide +kernel
theorem dX10_cell_5 : decode cX10_cell 5 = .ok (.iload_n 1, 1) := by decide +kernel
theorem dX10_cell_6 : decode cX10_cell 6 = .ok (.invokestatic 114, 3) := by decide +kernel
theorem dX10_cell_9 : decode cX10_cell 9 = .ok (.ifCond .ne 15, 3) := by decide +kernel
theorem dX10_cell_12 : decode cX10_cell 12 = .ok (.iload_n 3, 1) := by decide +kernel
theorem dX10_cell_13 : decode cX10_cell 13 = .ok (.i2l, 1) := by decide +kernel
theorem dX10_cell_14 : decode cX10_cell 14 = .ok (.lconst 0, 1) := by decide +kernel
theorem dX10_cell_15 : decode cX10_cell 15 = .ok (.ldc2_w 120, 3) := by decide +kernel
theorem dX10_cell_18 : decode cX10_cell 18 = .ok (.invokestatic 71, 3) := by decide +kernel
theorem dX10_cell_21 : decode cX10_cell 21 = .ok (.ifCond .ne 7, 3) := by decide +kernel
theorem dX10_cell_24 : decode cX10_cell 24 = .ok (.invokestatic 64, 3) := by decide +kernel
theorem dX10_cell_27 : decode cX10_cell 27 = .ok (.lreturn, 1) := by decide +kernel
theorem dX10_cell_28 : decode cX10_cell 28 = .ok (.aload_n 0, 1) := by decide +kernel
theorem dX10_cell_29 : decode cX10_cell 29 = .ok (.getfield 46, 3) := by decide +kernel
theorem dX10_cell_32 : decode cX10_cell 32 = .ok (.iload_n 1, 1) := by decide +kernel
theorem dX10_cell_33 : decode cX10_cell 33 = .ok (.iaload, 1) := by decide +kernel
theorem dX10_cell_34 : decode cX10_cell 34 = .ok (.ifCond .lt 19, 3) := by decide +kernel
theorem dX10_cell_37 : decode cX10_cell 37 = .ok (.aload_n 0, 1) := by decide +kernel
theorem dX10_cell_38 : decode cX10_cell 38 = .ok (.getfield 49, 3) := by decide +kernel
theorem dX10_cell_41 : decode cX10_cell 41 = .ok (.iload_n 1, 1) := by decide +kernel
theorem dX10_cell_42 : decode cX10_cell 42 = .ok (.iaload, 1) := by decide +kernel
theorem dX10_cell_43 : decode cX10_cell 43 = .ok (.iload_n 3, 1) := by decide +kernel
theorem dX10_cell_44 : decode cX10_cell 44 = .ok (.if_icmp .eq 9, 3) := by decide +kernel
theorem dX10_cell_47 : decode cX10_cell 47 = .ok (.aload_n 0, 1) := by decide +kernel
theorem dX10_cell_48 : decode cX10_cell 48 = .ok (.iconst 2, 1) := by decide +kernel
theorem dX10_cell_49 : decode cX10_cell 49 = .ok (.invokevirtual 241, 3) := by decide +kernel
theorem dX10_cell_52 : decode cX10_cell 52 = .ok (.lreturn, 1) := by decide +kernel
theorem dX10_cell_53 : decode cX10_cell 53 = .ok (.aload_n 0, 1) := by decide +kernel
theorem dX10_cell_54 : decode cX10_cell 54 = .ok (.iload_n 1, 1) := by decide +kernel
theorem dX10_cell_55 : decode cX10_cell 55 = .ok (.iload_n 2, 1) := by decide +kernel
theorem dX10_cell_56 : decode cX10_cell 56 = .ok (.invokevirtual 238, 3) := by decide +kernel
theorem dX10_cell_59 : decode cX10_cell 59 = .ok (.ifCond .le 16, 3) := by decide +kernel
theorem dX10_cell_62 : decode cX10_cell 62 = .ok (.aload_n 0, 1) := by decide +kernel
theorem dX10_cell_63 : decode cX10_cell 63 = .ok (.aload_n 0, 1) := by decide +kernel
theorem dX10_cell_64 : decode cX10_cell 64 = .ok (.iload_n 1, 1) := by decide +kernel
theorem dX10_cell_65 : decode cX10_cell 65 = .ok (.iload_n 2, 1) := by decide +kernel
theorem dX10_cell_66 : decode cX10_cell 66 = .ok (.invokevirtual 238, 3) := by decide +kernel
theorem dX10_cell_69 : decode cX10_cell 69 = .ok (.invokevirtual 241, 3) := by decide +kernel
theorem dX10_cell_72 : decode cX10_cell 72 = .ok (.goto 15, 3) := by decide +kernel
theorem dX10_cell_75 : decode cX10_cell 75 = .ok (.aload_n 0, 1) := by decide +kernel
theorem dX10_cell_76 : decode cX10_cell 76 = .ok (.getfield 52, 3) := by decide +kernel
theorem dX10_cell_79 : decode cX10_cell 79 = .ok (.bipush 60, 2) := by decide +kernel
theorem dX10_cell_81 : decode cX10_cell 81 = .ok (.iload_n 1, 1) := by decide +kernel
theorem dX10_cell_82 : decode cX10_cell 82 = .ok (.imul, 1) := by decide +kernel
theorem dX10_cell_83 : decode cX10_cell 83 = .ok (.iload_n 2, 1) := by decide +kernel
theorem dX10_cell_84 : decode cX10_cell 84 = .ok (.iadd, 1) := by decide +kernel
theorem dX10_cell_85 : decode cX10_cell 85 = .ok (.iaload, 1) := by decide +kernel
theorem dX10_cell_86 : decode cX10_cell 86 = .ok (.i2l, 1) := by decide +kernel
theorem dX10_cell_87 : decode cX10_cell 87 = .ok (.lreturn, 1) := by decide +kernel
theorem dX10_isBeyond_0 : decode cX10_isBeyond 0 = .ok (.iload_n 0, 1) := by decide +kernel
theorem dX10_isBeyond_1 : decode cX10_isBeyond 1 = .ok (.ifCond .lt 19, 3) := by decide +kernel
theorem dX10_isBeyond_4 : decode cX10_isBeyond 4 = .ok (.lload_n 1, 1) := by decide +kernel
theorem dX10_isBeyond_5 : decode cX10_isBeyond 5 = .ok (.lconst 0, 1) := by decide +kernel
theorem dX10_isBeyond_6 : decode cX10_isBeyond 6 = .ok (.lcmp, 1) := by decide +kernel
theorem dX10_isBeyond_7 : decode cX10_isBeyond 7 = .ok (.ifCond .lt 13, 3) := by decide +kernel
theorem dX10_isBeyond_10 : decode cX10_isBeyond 10 = .ok (.iload_n 0, 1) := by decide +kernel
theorem dX10_isBeyond_11 : decode cX10_isBeyond 11 = .ok (.i2l, 1) := by decide +kernel
theorem dX10_isBeyond_12 : decode cX10_isBeyond 12 = .ok (.lload_n 1, 1) := by decide +kernel
theorem dX10_isBeyond_13 : decode cX10_isBeyond 13 = .ok (.ladd, 1) := by decide +kernel
theorem dX10_isBeyond_14 : decode cX10_isBeyond 14 = .ok (.iload_n 3, 1) := by decide +kernel
theorem dX10_isBeyond_15 : decode cX10_isBeyond 15 = .ok (.i2l, 1) := by decide +kernel
theorem dX10_isBeyond_16 : decode cX10_isBeyond 16 = .ok (.lcmp, 1) := by decide +kernel
theorem dX10_isBeyond_17 : decode cX10_isBeyond 17 = .ok (.ifCond .le 7, 3) := by decide +kernel
theorem dX10_isBeyond_20 : decode cX10_isBeyond 20 = .ok (.iconst 1, 1) := by decide +kernel
theorem dX10_isBeyond_21 : decode cX10_isBeyond 21 = .ok (.goto 4, 3) := by decide +kernel
theorem dX10_isBeyond_24 : decode cX10_isBeyond 24 = .ok (.iconst 0, 1) := by decide +kernel
theorem dX10_isBeyond_25 : decode cX10_isBeyond 25 = .ok (.ireturn, 1) := by decide +kernel
theorem dX10_copy_0 : decode cX10_copy 0 = .ok (.iload_n 1, 1) := by decide +kernel
theorem dX10_copy_1 : decode cX10_copy 1 = .ok (.invokestatic 114, 3) := by decide +kernel
theorem dX10_copy_4 : decode cX10_copy 4 = .ok (.ifCond .ne 10, 3) := by decide +kernel
theorem dX10_copy_7 : decode cX10_copy 7 = .ok (.iload_n 3, 1) := by decide +kernel
theorem dX10_copy_8 : decode cX10_copy 8 = .ok (.invokestatic 114, 3) := by decide +kernel
theorem dX10_copy_11 : decode cX10_copy 11 = .ok (.ifCond .eq 9, 3) := by decide +kernel
theorem dX10_copy_14 : decode cX10_copy 14 = .ok (.aload_n 0, 1) := by decide +kernel
theorem dX10_copy_15 : decode cX10_copy 15 = .ok (.iconst (-1), 1) := by decide +kernel
theorem dX10_copy_16 : decode cX10_copy 16 = .ok (.invokevirtual 117, 3) := by decide +kernel
theorem dX10_copy_19 : decode cX10_copy 19 = .ok (.ireturn, 1) := by decide +kernel
theorem dX10_copy_20 : decode cX10_copy 20 = .ok (.aload_n 0, 1) := by decide +kernel
theorem dX10_copy_21 : decode cX10_copy 21 = .ok (.getfield 46, 3) := by decide +kernel
theorem dX10_copy_24 : decode cX10_copy 24 = .ok (.iload_n 1, 1) := by decide +kernel
theorem dX10_copy_25 : decode cX10_copy 25 = .ok (.iaload, 1) := by decide +kernel
theorem dX10_copy_26 : decode cX10_copy 26 = .ok (.ifCond .lt 12, 3) := by decide +kernel
theorem dX10_copy_29 : decode cX10_copy 29 = .ok (.aload_n 0, 1) := by decide +kernel
theorem dX10_copy_30 : decode cX10_copy 30 = .ok (.getfield 46, 3) := by decide +kernel
theorem dX10_copy_33 : decode cX10_copy 33 = .ok (.iload_n 3, 1) := by decide +kernel
theorem dX10_copy_34 : decode cX10_copy 34 = .ok (.iaload, 1) := by decide +kernel
theorem dX10_copy_35 : decode cX10_copy 35 = .ok (.ifCond .ge 9, 3) := by decide +kernel
theorem dX10_copy_38 : decode cX10_copy 38 = .ok (.aload_n 0, 1) := by decide +kernel
theorem dX10_copy_39 : decode cX10_copy 39 = .ok (.iconst 1, 1) := by decide +kernel
theorem dX10_copy_40 : decode cX10_copy 40 = .ok (.invokevirtual 106, 3) := by decide +kernel
theorem dX10_copy_43 : decode cX10_copy 43 = .ok (.ireturn, 1) := by decide +kernel
theorem dX10_copy_44 : decode cX10_copy 44 = .ok (.aload_n 0, 1) := by decide +kernel
theorem dX10_copy_45 : decode cX10_copy 45 = .ok (.getfield 49, 3) := by decide +kernel
theorem dX10_copy_48 : decode cX10_copy 48 = .ok (.iload_n 1, 1) := by decide +kernel
theorem dX10_copy_49 : decode cX10_copy 49 = .ok (.iaload, 1) := by decide +kernel
theorem dX10_copy_50 : decode cX10_copy 50 = .ok (.aload_n 0, 1) := by decide +kernel
theorem dX10_copy_51 : decode cX10_copy 51 = .ok (.getfield 49, 3) := by decide +kernel
theorem dX10_copy_54 : decode cX10_copy 54 = .ok (.iload_n 3, 1) := by decide +kernel
theorem dX10_copy_55 : decode cX10_copy 55 = .ok (.iaload, 1) := by decide +kernel
theorem dX10_copy_56 : decode cX10_copy 56 = .ok (.if_icmp .eq 9, 3) := by decide +kernel
theorem dX10_copy_59 : decode cX10_copy 59 = .ok (.aload_n 0, 1) := by decide +kernel
theorem dX10_copy_60 : decode cX10_copy 60 = .ok (.iconst 2, 1) := by decide +kernel
theorem dX10_copy_61 : decode cX10_copy 61 = .ok (.invokevirtual 106, 3) := by decide +kernel
theorem dX10_copy_64 : decode cX10_copy 64 = .ok (.ireturn, 1) := by decide +kernel
theorem dX10_copy_65 : decode cX10_copy 65 = .ok (.iload_n 2, 1) := by decide +kernel
theorem dX10_copy_66 : decode cX10_copy 66 = .ok (.iload 5, 2) := by decide +kernel
theorem dX10_copy_68 : decode cX10_copy 68 = .ok (.i2l, 1) := by decide +kernel
theorem dX10_copy_69 : decode cX10_copy 69 = .ok (.aload_n 0, 1) := by decide +kernel
theorem dX10_copy_70 : decode cX10_copy 70 = .ok (.getfield 46, 3) := by decide +kernel
theorem dX10_copy_73 : decode cX10_copy 73 = .ok (.iload_n 1, 1) := by decide +kernel
theorem dX10_copy_74 : decode cX10_copy 74 = .ok (.iaload, 1) := by decide +kernel
theorem dX10_copy_75 : decode cX10_copy 75 = .ok (.invokestatic 110, 3) := by decide +kernel
theorem dX10_copy_78 : decode cX10_copy 78 = .ok (.ifCond .ne 20, 3) := by decide +kernel
theorem dX10_copy_81 : decode cX10_copy 81 = .ok (.iload 4, 2) := by decide +kernel
theorem dX10_copy_83 : decode cX10_copy 83 = .ok (.iload 5, 2) := by decide +kernel
theorem dX10_copy_85 : decode cX10_copy 85 = .ok (.i2l, 1) := by decide +kernel
theorem dX10_copy_86 : decode cX10_copy 86 = .ok (.aload_n 0, 1) := by decide +kernel
theorem dX10_copy_87 : decode cX10_copy 87 = .ok (.getfield 46, 3) := by decide +kernel
theorem dX10_copy_90 : decode cX10_copy 90 = .ok (.iload_n 3, 1) := by decide +kernel
theorem dX10_copy_91 : decode cX10_copy 91 = .ok (.iaload, 1) := by decide +kernel
theorem dX10_copy_92 : decode cX10_copy 92 = .ok (.invokestatic 110, 3) := by decide +kernel
theorem dX10_copy_95 : decode cX10_copy 95 = .ok (.ifCond .eq 9, 3) := by decide +kernel
theorem dX10_copy_98 : decode cX10_copy 98 = .ok (.aload_n 0, 1) := by decide +kernel
theorem dX10_copy_99 : decode cX10_copy 99 = .ok (.iconst 3, 1) := by decide +kernel
theorem dX10_copy_100 : decode cX10_copy 100 = .ok (.invokevirtual 106, 3) := by decide +kernel
theorem dX10_copy_103 : decode cX10_copy 103 = .ok (.ireturn, 1) := by decide +kernel
theorem dX10_copy_104 : decode cX10_copy 104 = .ok (.iconst 0, 1) := by decide +kernel
theorem dX10_copy_105 : decode cX10_copy 105 = .ok (.istore 6, 2) := by decide +kernel
theorem dX10_copy_107 : decode cX10_copy 107 = .ok (.iload 6, 2) := by decide +kernel
theorem dX10_copy_109 : decode cX10_copy 109 = .ok (.iload 5, 2) := by decide +kernel
theorem dX10_copy_111 : decode cX10_copy 111 = .ok (.if_icmp .ge 30, 3) := by decide +kernel
theorem dX10_copy_114 : decode cX10_copy 114 = .ok (.aload_n 0, 1) := by decide +kernel
theorem dX10_copy_115 : decode cX10_copy 115 = .ok (.getfield 55, 3) := by decide +kernel
theorem dX10_copy_118 : decode cX10_copy 118 = .ok (.iload 6, 2) := by decide +kernel
theorem dX10_copy_120 : decode cX10_copy 120 = .ok (.aload_n 0, 1) := by decide +kernel
theorem dX10_copy_121 : decode cX10_copy 121 = .ok (.getfield 52, 3) := by decide +kernel
theorem dX10_copy_124 : decode cX10_copy 124 = .ok (.bipush 60, 2) := by decide +kernel
theorem dX10_copy_126 : decode cX10_copy 126 = .ok (.iload_n 1, 1) := by decide +kernel
theorem dX10_copy_127 : decode cX10_copy 127 = .ok (.imul, 1) := by decide +kernel
theorem dX10_copy_128 : decode cX10_copy 128 = .ok (.iload_n 2, 1) := by decide +kernel
theorem dX10_copy_129 : decode cX10_copy 129 = .ok (.iadd, 1) := by decide +kernel
theorem dX10_copy_130 : decode cX10_copy 130 = .ok (.iload 6, 2) := by decide +kernel
theorem dX10_copy_132 : decode cX10_copy 132 = .ok (.iadd, 1) := by decide +kernel
theorem dX10_copy_133 : decode cX10_copy 133 = .ok (.iaload, 1) := by decide +kernel
theorem dX10_copy_134 : decode cX10_copy 134 = .ok (.iastore, 1) := by decide +kernel
theorem dX10_copy_135 : decode cX10_copy 135 = .ok (.iinc 6 1, 3) := by decide +kernel
theorem dX10_copy_138 : decode cX10_copy 138 = .ok (.goto (-31), 3) := by decide +kernel
theorem dX10_copy_141 : decode cX10_copy 141 = .ok (.iconst 0, 1) := by decide +kernel
theorem dX10_copy_142 : decode cX10_copy 142 = .ok (.istore 6, 2) := by decide +kernel
theorem dX10_copy_144 : decode cX10_copy 144 = .ok (.iload 6, 2) := by decide +kernel
theorem dX10_copy_146 : decode cX10_copy 146 = .ok (.iload 5, 2) := by decide +kernel
theorem dX10_copy_148 : decode cX10_copy 148 = .ok (.if_icmp .ge 31, 3) := by decide +kernel
theorem dX10_copy_151 : decode cX10_copy 151 = .ok (.aload_n 0, 1) := by decide +kernel
theorem dX10_copy_152 : decode cX10_copy 152 = .ok (.getfield 52, 3) := by decide +kernel
theorem dX10_copy_155 : decode cX10_copy 155 = .ok (.bipush 60, 2) := by decide +kernel
theorem dX10_copy_157 : decode cX10_copy 157 = .ok (.iload_n 3, 1) := by decide +kernel
theorem dX10_copy_158 : decode cX10_copy 158 = .ok (.imul, 1) := by decide +kernel
theorem dX10_copy_159 : decode cX10_copy 159 = .ok (.iload 4, 2) := by decide +kernel
theorem dX10_copy_161 : decode cX10_copy 161 = .ok (.iadd, 1) := by decide +kernel
theorem dX10_copy_162 : decode cX10_copy 162 = .ok (.iload 6, 2) := by decide +kernel
theorem dX10_copy_164 : decode cX10_copy 164 = .ok (.iadd, 1) := by decide +kernel
theorem dX10_copy_165 : decode cX10_copy 165 = .ok (.aload_n 0, 1) := by decide +kernel
theorem dX10_copy_166 : decode cX10_copy 166 = .ok (.getfield 55, 3) := by decide +kernel
theorem dX10_copy_169 : decode cX10_copy 169 = .ok (.iload 6, 2) := by decide +kernel
theorem dX10_copy_171 : decode cX10_copy 171 = .ok (.iaload, 1) := by decide +kernel
theorem dX10_copy_172 : decode cX10_copy 172 = .ok (.iastore, 1) := by decide +kernel
theorem dX10_copy_173 : decode cX10_copy 173 = .ok (.iinc 6 1, 3) := by decide +kernel
theorem dX10_copy_176 : decode cX10_copy 176 = .ok (.goto (-32), 3) := by decide +kernel
theorem dX10_copy_179 : decode cX10_copy 179 = .ok (.aload_n 0, 1) := by decide +kernel
theorem dX10_copy_180 : decode cX10_copy 180 = .ok (.iload 5, 2) := by decide +kernel
theorem dX10_copy_182 : decode cX10_copy 182 = .ok (.invokevirtual 117, 3) := by decide +kernel
theorem dX10_copy_185 : decode cX10_copy 185 = .ok (.ireturn, 1) := by decide +kernel
theorem dX10_traced_0 : decode cX10_traced 0 = .ok (.aload_n 0, 1) := by decide +kernel
theorem dX10_traced_1 : decode cX10_traced 1 = .ok (.bipush 31, 2) := by decide +kernel
theorem dX10_traced_3 : decode cX10_traced 3 = .ok (.aload_n 0, 1) := by decide +kernel
theorem dX10_traced_4 : decode cX10_traced 4 = .ok (.getfield 245, 3) := by decide +kernel
theorem dX10_traced_7 : decode cX10_traced 7 = .ok (.imul, 1) := by decide +kernel
theorem dX10_traced_8 : decode cX10_traced 8 = .ok (.iload_n 1, 1) := by decide +kernel
theorem dX10_traced_9 : decode cX10_traced 9 = .ok (.iadd, 1) := by decide +kernel
theorem dX10_traced_10 : decode cX10_traced 10 = .ok (.putfield 245, 3) := by decide +kernel
theorem dX10_traced_13 : decode cX10_traced 13 = .ok (.return_, 1) := by decide +kernel
theorem dX10_tell_0 : decode cX10_tell 0 = .ok (.aload_n 0, 1) := by decide +kernel
theorem dX10_tell_1 : decode cX10_tell 1 = .ok (.iload_n 1, 1) := by decide +kernel
theorem dX10_tell_2 : decode cX10_tell 2 = .ok (.invokevirtual 177, 3) := by decide +kernel
theorem dX10_tell_5 : decode cX10_tell 5 = .ok (.ifCond .eq 5, 3) := by decide +kernel
theorem dX10_tell_8 : decode cX10_tell 8 = .ok (.iconst (-1), 1) := by decide +kernel
theorem dX10_tell_9 : decode cX10_tell 9 = .ok (.ireturn, 1) := by decide +kernel
theorem dX10_tell_10 : decode cX10_tell 10 = .ok (.aload_n 0, 1) := by decide +kernel
theorem dX10_tell_11 : decode cX10_tell 11 = .ok (.getfield 7, 3) := by decide +kernel
theorem dX10_tell_14 : decode cX10_tell 14 = .ok (.iload_n 1, 1) := by decide +kernel
theorem dX10_tell_15 : decode cX10_tell 15 = .ok (.iaload, 1) := by decide +kernel
theorem dX10_tell_16 : decode cX10_tell 16 = .ok (.istore_n 2, 1) := by decide +kernel
theorem dX10_tell_17 : decode cX10_tell 17 = .ok (.iload_n 2, 1) := by decide +kernel
theorem dX10_tell_18 : decode cX10_tell 18 = .ok (.iconst 2, 1) := by decide +kernel
theorem dX10_tell_19 : decode cX10_tell 19 = .ok (.if_icmp .ne 8, 3) := by decide +kernel
theorem dX10_tell_22 : decode cX10_tell 22 = .ok (.aload_n 0, 1) := by decide +kernel
theorem dX10_tell_23 : decode cX10_tell 23 = .ok (.iconst 3, 1) := by decide +kernel
theorem dX10_tell_24 : decode cX10_tell 24 = .ok (.invokevirtual 248, 3) := by decide +kernel
theorem dX10_tell_27 : decode cX10_tell 27 = .ok (.iload_n 2, 1) := by decide +kernel
theorem dX10_tell_28 : decode cX10_tell 28 = .ok (.ifCond .le 8, 3) := by decide +kernel
theorem dX10_tell_31 : decode cX10_tell 31 = .ok (.aload_n 0, 1) := by decide +kernel
theorem dX10_tell_32 : decode cX10_tell 32 = .ok (.iconst 2, 1) := by decide +kernel
theorem dX10_tell_33 : decode cX10_tell 33 = .ok (.invokevirtual 248, 3) := by decide +kernel
theorem dX10_tell_36 : decode cX10_tell 36 = .ok (.aload_n 0, 1) := by decide +kernel
theorem dX10_tell_37 : decode cX10_tell 37 = .ok (.iconst 1, 1) := by decide +kernel
theorem dX10_tell_38 : decode cX10_tell 38 = .ok (.invokevirtual 248, 3) := by decide +kernel
theorem dX10_tell_41 : decode cX10_tell 41 = .ok (.iload_n 2, 1) := by decide +kernel
theorem dX10_tell_42 : decode cX10_tell 42 = .ok (.iconst 2, 1) := by decide +kernel
theorem dX10_tell_43 : decode cX10_tell 43 = .ok (.if_icmp .ne 8, 3) := by decide +kernel
theorem dX10_tell_46 : decode cX10_tell 46 = .ok (.aload_n 0, 1) := by decide +kernel
theorem dX10_tell_47 : decode cX10_tell 47 = .ok (.iconst 1, 1) := by decide +kernel
theorem dX10_tell_48 : decode cX10_tell 48 = .ok (.invokevirtual 248, 3) := by decide +kernel
theorem dX10_tell_51 : decode cX10_tell 51 = .ok (.aload_n 0, 1) := by decide +kernel
theorem dX10_tell_52 : decode cX10_tell 52 = .ok (.getfield 13, 3) := by decide +kernel
theorem dX10_tell_55 : decode cX10_tell 55 = .ok (.iload_n 1, 1) := by decide +kernel
theorem dX10_tell_56 : decode cX10_tell 56 = .ok (.iaload, 1) := by decide +kernel
theorem dX10_tell_57 : decode cX10_tell 57 = .ok (.istore_n 3, 1) := by decide +kernel
theorem dX10_tell_58 : decode cX10_tell 58 = .ok (.iload_n 2, 1) := by decide +kernel
theorem dX10_tell_59 : decode cX10_tell 59 = .ok (.ifCond .ne 7, 3) := by decide +kernel
theorem dX10_tell_62 : decode cX10_tell 62 = .ok (.iload_n 3, 1) := by decide +kernel
theorem dX10_tell_63 : decode cX10_tell 63 = .ok (.goto 21, 3) := by decide +kernel
theorem dX10_tell_66 : decode cX10_tell 66 = .ok (.iload_n 2, 1) := by decide +kernel
theorem dX10_tell_67 : decode cX10_tell 67 = .ok (.iconst 1, 1) := by decide +kernel
theorem dX10_tell_68 : decode cX10_tell 68 = .ok (.if_icmp .ne 10, 3) := by decide +kernel
theorem dX10_tell_71 : decode cX10_tell 71 = .ok (.iload_n 3, 1) := by decide +kernel
theorem dX10_tell_72 : decode cX10_tell 72 = .ok (.bipush 100, 2) := by decide +kernel
theorem dX10_tell_74 : decode cX10_tell 74 = .ok (.iadd, 1) := by decide +kernel
theorem dX10_tell_75 : decode cX10_tell 75 = .ok (.goto 9, 3) := by decide +kernel
theorem dX10_tell_78 : decode cX10_tell 78 = .ok (.iconst 2, 1) := by decide +kernel
theorem dX10_tell_79 : decode cX10_tell 79 = .ok (.iload_n 3, 1) := by decide +kernel
theorem dX10_tell_80 : decode cX10_tell 80 = .ok (.imul, 1) := by decide +kernel
theorem dX10_tell_81 : decode cX10_tell 81 = .ok (.bipush 100, 2) := by decide +kernel
theorem dX10_tell_83 : decode cX10_tell 83 = .ok (.iadd, 1) := by decide +kernel
theorem dX10_tell_84 : decode cX10_tell 84 = .ok (.ireturn, 1) := by decide +kernel
theorem dX10_tally_0 : decode cX10_tally 0 = .ok (.aload_n 0, 1) := by decide +kernel
theorem dX10_tally_1 : decode cX10_tally 1 = .ok (.iload_n 1, 1) := by decide +kernel
theorem dX10_tally_2 : decode cX10_tally 2 = .ok (.invokevirtual 177, 3) := by decide +kernel
theorem dX10_tally_5 : decode cX10_tally 5 = .ok (.ifCond .eq 5, 3) := by decide +kernel
theorem dX10_tally_8 : decode cX10_tally 8 = .ok (.iconst (-1), 1) := by decide +kernel
theorem dX10_tally_9 : decode cX10_tally 9 = .ok (.ireturn, 1) := by decide +kernel
theorem dX10_tally_10 : decode cX10_tally 10 = .ok (.aload_n 0, 1) := by decide +kernel
theorem dX10_tally_11 : decode cX10_tally 11 = .ok (.aload_n 0, 1) := by decide +kernel
theorem dX10_tally_12 : decode cX10_tally 12 = .ok (.getfield 7, 3) := by decide +kernel
theorem dX10_tally_15 : decode cX10_tally 15 = .ok (.iload_n 1, 1) := by decide +kernel
theorem dX10_tally_16 : decode cX10_tally 16 = .ok (.iaload, 1) := by decide +kernel
theorem dX10_tally_17 : decode cX10_tally 17 = .ok (.iconst 2, 1) := by decide +kernel
theorem dX10_tally_18 : decode cX10_tally 18 = .ok (.if_icmp .ne 7, 3) := by decide +kernel
theorem dX10_tally_21 : decode cX10_tally 21 = .ok (.iconst 5, 1) := by decide +kernel
theorem dX10_tally_22 : decode cX10_tally 22 = .ok (.goto 4, 3) := by decide +kernel
theorem dX10_tally_25 : decode cX10_tally 25 = .ok (.iconst 4, 1) := by decide +kernel
theorem dX10_tally_26 : decode cX10_tally 26 = .ok (.invokevirtual 248, 3) := by decide +kernel
theorem dX10_tally_29 : decode cX10_tally 29 = .ok (.aload_n 0, 1) := by decide +kernel
theorem dX10_tally_30 : decode cX10_tally 30 = .ok (.iload_n 1, 1) := by decide +kernel
theorem dX10_tally_31 : decode cX10_tally 31 = .ok (.invokevirtual 180, 3) := by decide +kernel
theorem dX10_tally_34 : decode cX10_tally 34 = .ok (.aload_n 0, 1) := by decide +kernel
theorem dX10_tally_35 : decode cX10_tally 35 = .ok (.getfield 7, 3) := by decide +kernel
theorem dX10_tally_38 : decode cX10_tally 38 = .ok (.iload_n 1, 1) := by decide +kernel
theorem dX10_tally_39 : decode cX10_tally 39 = .ok (.iaload, 1) := by decide +kernel
theorem dX10_tally_40 : decode cX10_tally 40 = .ok (.iconst 2, 1) := by decide +kernel
theorem dX10_tally_41 : decode cX10_tally 41 = .ok (.if_icmp .ne 8, 3) := by decide +kernel
theorem dX10_tally_44 : decode cX10_tally 44 = .ok (.bipush 60, 2) := by decide +kernel
theorem dX10_tally_46 : decode cX10_tally 46 = .ok (.goto 7, 3) := by decide +kernel
theorem dX10_tally_49 : decode cX10_tally 49 = .ok (.aload_n 0, 1) := by decide +kernel
theorem dX10_tally_50 : decode cX10_tally 50 = .ok (.getfield 147, 3) := by decide +kernel
theorem dX10_tally_53 : decode cX10_tally 53 = .ok (.ireturn, 1) := by decide +kernel
theorem dX10_as_0 : decode cX10_as 0 = .ok (.aload_n 0, 1) := by decide +kernel
theorem dX10_as_1 : decode cX10_as 1 = .ok (.iload_n 1, 1) := by decide +kernel
theorem dX10_as_2 : decode cX10_as 2 = .ok (.invokevirtual 177, 3) := by decide +kernel
theorem dX10_as_5 : decode cX10_as 5 = .ok (.ifCond .eq 9, 3) := by decide +kernel
theorem dX10_as_8 : decode cX10_as 8 = .ok (.aload_n 0, 1) := by decide +kernel
theorem dX10_as_9 : decode cX10_as 9 = .ok (.iconst (-1), 1) := by decide +kernel
theorem dX10_as_10 : decode cX10_as 10 = .ok (.invokevirtual 117, 3) := by decide +kernel
theorem dX10_as_13 : decode cX10_as 13 = .ok (.ireturn, 1) := by decide +kernel
theorem dX10_as_14 : decode cX10_as 14 = .ok (.iload_n 2, 1) := by decide +kernel
theorem dX10_as_15 : decode cX10_as 15 = .ok (.i2l, 1) := by decide +kernel
theorem dX10_as_16 : decode cX10_as 16 = .ok (.lconst 0, 1) := by decide +kernel
theorem dX10_as_17 : decode cX10_as 17 = .ok (.ldc2_w 120, 3) := by decide +kernel
theorem dX10_as_20 : decode cX10_as 20 = .ok (.invokestatic 71, 3) := by decide +kernel
theorem dX10_as_23 : decode cX10_as 23 = .ok (.ifCond .ne 10, 3) := by decide +kernel
theorem dX10_as_26 : decode cX10_as 26 = .ok (.aload_n 0, 1) := by decide +kernel
theorem dX10_as_27 : decode cX10_as 27 = .ok (.bipush (-2), 2) := by decide +kernel
theorem dX10_as_29 : decode cX10_as 29 = .ok (.invokevirtual 117, 3) := by decide +kernel
theorem dX10_as_32 : decode cX10_as 32 = .ok (.ireturn, 1) := by decide +kernel
