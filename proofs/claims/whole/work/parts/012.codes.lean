theorem dX10_init_23 : decode cX10_init 23 = .ok (.putfield 16, 3) := by decide +kernel
theorem dX10_init_26 : decode cX10_init 26 = .ok (.aload_n 0, 1) := by decide +kernel
theorem dX10_init_27 : decode cX10_init 27 = .ok (.iconst 4, 1) := by decide +kernel
theorem dX10_init_28 : decode cX10_init 28 = .ok (.newarray .int, 2) := by decide +kernel
theorem dX10_init_30 : decode cX10_init 30 = .ok (.putfield 19, 3) := by decide +kernel
theorem dX10_init_33 : decode cX10_init 33 = .ok (.aload_n 0, 1) := by decide +kernel
theorem dX10_init_34 : decode cX10_init 34 = .ok (.iconst 4, 1) := by decide +kernel
theorem dX10_init_35 : decode cX10_init 35 = .ok (.newarray .int, 2) := by decide +kernel
theorem dX10_init_37 : decode cX10_init 37 = .ok (.putfield 22, 3) := by decide +kernel
theorem dX10_init_40 : decode cX10_init 40 = .ok (.aload_n 0, 1) := by decide +kernel
theorem dX10_init_41 : decode cX10_init 41 = .ok (.bipush 24, 2) := by decide +kernel
theorem dX10_init_43 : decode cX10_init 43 = .ok (.newarray .int, 2) := by decide +kernel
theorem dX10_init_45 : decode cX10_init 45 = .ok (.putfield 25, 3) := by decide +kernel
theorem dX10_init_48 : decode cX10_init 48 = .ok (.aload_n 0, 1) := by decide +kernel
theorem dX10_init_49 : decode cX10_init 49 = .ok (.bipush 8, 2) := by decide +kernel
theorem dX10_init_51 : decode cX10_init 51 = .ok (.newarray .int, 2) := by decide +kernel
theorem dX10_init_53 : decode cX10_init 53 = .ok (.putfield 28, 3) := by decide +kernel
theorem dX10_init_56 : decode cX10_init 56 = .ok (.aload_n 0, 1) := by decide +kernel
theorem dX10_init_57 : decode cX10_init 57 = .ok (.sipush 256, 3) := by decide +kernel
theorem dX10_init_60 : decode cX10_init 60 = .ok (.newarray .int, 2) := by decide +kernel
theorem dX10_init_62 : decode cX10_init 62 = .ok (.putfield 31, 3) := by decide +kernel
theorem dX10_init_65 : decode cX10_init 65 = .ok (.aload_n 0, 1) := by decide +kernel
theorem dX10_init_66 : decode cX10_init 66 = .ok (.sipush 256, 3) := by decide +kernel
theorem dX10_init_69 : decode cX10_init 69 = .ok (.newarray .int, 2) := by decide +kernel
theorem dX10_init_71 : decode cX10_init 71 = .ok (.putfield 34, 3) := by decide +kernel
theorem dX10_init_74 : decode cX10_init 74 = .ok (.aload_n 0, 1) := by decide +kernel
theorem dX10_init_75 : decode cX10_init 75 = .ok (.bipush 8, 2) := by decide +kernel
theorem dX10_init_77 : decode cX10_init 77 = .ok (.newarray .int, 2) := by decide +kernel
theorem dX10_init_79 : decode cX10_init 79 = .ok (.putfield 37, 3) := by decide +kernel
theorem dX10_init_82 : decode cX10_init 82 = .ok (.aload_n 0, 1) := by decide +kernel
theorem dX10_init_83 : decode cX10_init 83 = .ok (.bipush 8, 2) := by decide +kernel
theorem dX10_init_85 : decode cX10_init 85 = .ok (.newarray .int, 2) := by decide +kernel
theorem dX10_init_87 : decode cX10_init 87 = .ok (.putfield 40, 3) := by decide +kernel
theorem dX10_init_90 : decode cX10_init 90 = .ok (.aload_n 0, 1) := by decide +kernel
theorem dX10_init_91 : decode cX10_init 91 = .ok (.bipush 8, 2) := by decide +kernel
theorem dX10_init_93 : decode cX10_init 93 = .ok (.newarray .int, 2) := by decide +kernel
theorem dX10_init_95 : decode cX10_init 95 = .ok (.putfield 43, 3) := by decide +kernel
theorem dX10_init_98 : decode cX10_init 98 = .ok (.aload_n 0, 1) := by decide +kernel
theorem dX10_init_99 : decode cX10_init 99 = .ok (.iconst 4, 1) := by decide +kernel
theorem dX10_init_100 : decode cX10_init 100 = .ok (.newarray .int, 2) := by decide +kernel
theorem dX10_init_102 : decode cX10_init 102 = .ok (.putfield 46, 3) := by decide +kernel
theorem dX10_init_105 : decode cX10_init 105 = .ok (.aload_n 0, 1) := by decide +kernel
theorem dX10_init_106 : decode cX10_init 106 = .ok (.iconst 4, 1) := by decide +kernel
theorem dX10_init_107 : decode cX10_init 107 = .ok (.newarray .int, 2) := by decide +kernel
theorem dX10_init_109 : decode cX10_init 109 = .ok (.putfield 49, 3) := by decide +kernel
theorem dX10_init_112 : decode cX10_init 112 = .ok (.aload_n 0, 1) := by decide +kernel
theorem dX10_init_113 : decode cX10_init 113 = .ok (.sipush 240, 3) := by decide +kernel
theorem dX10_init_116 : decode cX10_init 116 = .ok (.newarray .int, 2) := by decide +kernel
theorem dX10_init_118 : decode cX10_init 118 = .ok (.putfield 52, 3) := by decide +kernel
theorem dX10_init_121 : decode cX10_init 121 = .ok (.aload_n 0, 1) := by decide +kernel
theorem dX10_init_122 : decode cX10_init 122 = .ok (.bipush 60, 2) := by decide +kernel
theorem dX10_init_124 : decode cX10_init 124 = .ok (.newarray .int, 2) := by decide +kernel
theorem dX10_init_126 : decode cX10_init 126 = .ok (.putfield 55, 3) := by decide +kernel
theorem dX10_init_129 : decode cX10_init 129 = .ok (.iconst 0, 1) := by decide +kernel
theorem dX10_init_130 : decode cX10_init 130 = .ok (.istore_n 1, 1) := by decide +kernel
theorem dX10_init_131 : decode cX10_init 131 = .ok (.iload_n 1, 1) := by decide +kernel
theorem dX10_init_132 : decode cX10_init 132 = .ok (.iconst 4, 1) := by decide +kernel
theorem dX10_init_133 : decode cX10_init 133 = .ok (.if_icmp .ge 16, 3) := by decide +kernel
theorem dX10_init_136 : decode cX10_init 136 = .ok (.aload_n 0, 1) := by decide +kernel
theorem dX10_init_137 : decode cX10_init 137 = .ok (.getfield 46, 3) := by decide +kernel
theorem dX10_init_140 : decode cX10_init 140 = .ok (.iload_n 1, 1) := by decide +kernel
theorem dX10_init_141 : decode cX10_init 141 = .ok (.iconst (-1), 1) := by decide +kernel
theorem dX10_init_142 : decode cX10_init 142 = .ok (.iastore, 1) := by decide +kernel
theorem dX10_init_143 : decode cX10_init 143 = .ok (.iinc 1 1, 3) := by decide +kernel
theorem dX10_init_146 : decode cX10_init 146 = .ok (.goto (-15), 3) := by decide +kernel
theorem dX10_init_149 : decode cX10_init 149 = .ok (.return_, 1) := by decide +kernel
theorem dX10_in_0 : decode cX10_in 0 = .ok (.lload_n 0, 1) := by decide +kernel
theorem dX10_in_1 : decode cX10_in 1 = .ok (.lload_n 2, 1) := by decide +kernel
theorem dX10_in_2 : decode cX10_in 2 = .ok (.lcmp, 1) := by decide +kernel
theorem dX10_in_3 : decode cX10_in 3 = .ok (.ifCond .lt 14, 3) := by decide +kernel
theorem dX10_in_6 : decode cX10_in 6 = .ok (.lload_n 0, 1) := by decide +kernel
theorem dX10_in_7 : decode cX10_in 7 = .ok (.lload 4, 2) := by decide +kernel
theorem dX10_in_9 : decode cX10_in 9 = .ok (.lcmp, 1) := by decide +kernel
theorem dX10_in_10 : decode cX10_in 10 = .ok (.ifCond .gt 7, 3) := by decide +kernel
theorem dX10_in_13 : decode cX10_in 13 = .ok (.iconst 1, 1) := by decide +kernel
theorem dX10_in_14 : decode cX10_in 14 = .ok (.goto 4, 3) := by decide +kernel
theorem dX10_in_17 : decode cX10_in 17 = .ok (.iconst 0, 1) := by decide +kernel
theorem dX10_in_18 : decode cX10_in 18 = .ok (.ireturn, 1) := by decide +kernel
theorem dX10_lost_0 : decode cX10_lost 0 = .ok (.ldc2_w 58, 3) := by decide +kernel
theorem dX10_lost_3 : decode cX10_lost 3 = .ok (.lreturn, 1) := by decide +kernel
theorem dX10_isIn_0 : decode cX10_isIn 0 = .ok (.iload_n 0, 1) := by decide +kernel
theorem dX10_isIn_1 : decode cX10_isIn 1 = .ok (.iload_n 1, 1) := by decide +kernel
theorem dX10_isIn_2 : decode cX10_isIn 2 = .ok (.ishr, 1) := by decide +kernel
theorem dX10_isIn_3 : decode cX10_isIn 3 = .ok (.iconst 1, 1) := by decide +kernel
theorem dX10_isIn_4 : decode cX10_isIn 4 = .ok (.iand, 1) := by decide +kernel
theorem dX10_isIn_5 : decode cX10_isIn 5 = .ok (.iconst 1, 1) := by decide +kernel
theorem dX10_isIn_6 : decode cX10_isIn 6 = .ok (.if_icmp .ne 7, 3) := by decide +kernel
theorem dX10_isIn_9 : decode cX10_isIn 9 = .ok (.iconst 1, 1) := by decide +kernel
theorem dX10_isIn_10 : decode cX10_isIn 10 = .ok (.goto 4, 3) := by decide +kernel
theorem dX10_isIn_13 : decode cX10_isIn 13 = .ok (.iconst 0, 1) := by decide +kernel
theorem dX10_isIn_14 : decode cX10_isIn 14 = .ok (.ireturn, 1) := by decide +kernel
theorem dX10_bits_0 : decode cX10_bits 0 = .ok (.iconst 0, 1) := by decide +kernel
theorem dX10_bits_1 : decode cX10_bits 1 = .ok (.istore_n 1, 1) := by decide +kernel
theorem dX10_bits_2 : decode cX10_bits 2 = .ok (.iload_n 0, 1) := by decide +kernel
theorem dX10_bits_3 : decode cX10_bits 3 = .ok (.istore_n 2, 1) := by decide +kernel
theorem dX10_bits_4 : decode cX10_bits 4 = .ok (.iload_n 2, 1) := by decide +kernel
theorem dX10_bits_5 : decode cX10_bits 5 = .ok (.ifCond .le 16, 3) := by decide +kernel
theorem dX10_bits_8 : decode cX10_bits 8 = .ok (.iload_n 1, 1) := by decide +kernel
theorem dX10_bits_9 : decode cX10_bits 9 = .ok (.iload_n 2, 1) := by decide +kernel
theorem dX10_bits_10 : decode cX10_bits 10 = .ok (.iconst 1, 1) := by decide +kernel
theorem dX10_bits_11 : decode cX10_bits 11 = .ok (.iand, 1) := by decide +kernel
theorem dX10_bits_12 : decode cX10_bits 12 = .ok (.iadd, 1) := by decide +kernel
theorem dX10_bits_13 : decode cX10_bits 13 = .ok (.istore_n 1, 1) := by decide +kernel
theorem dX10_bits_14 : decode cX10_bits 14 = .ok (.iload_n 2, 1) := by decide +kernel
theorem dX10_bits_15 : decode cX10_bits 15 = .ok (.iconst 1, 1) := by decide +kernel
theorem dX10_bits_16 : decode cX10_bits 16 = .ok (.ishr, 1) := by decide +kernel
theorem dX10_bits_17 : decode cX10_bits 17 = .ok (.istore_n 2, 1) := by decide +kernel
theorem dX10_bits_18 : decode cX10_bits 18 = .ok (.goto (-14), 3) := by decide +kernel
theorem dX10_bits_21 : decode cX10_bits 21 = .ok (.iload_n 1, 1) := by decide +kernel
theorem dX10_bits_22 : decode cX10_bits 22 = .ok (.ireturn, 1) := by decide +kernel
theorem dX10_share_0 : decode cX10_share 0 = .ok (.lload_n 0, 1) := by decide +kernel
theorem dX10_share_1 : decode cX10_share 1 = .ok (.lstore 5, 2) := by decide +kernel
theorem dX10_share_3 : decode cX10_share 3 = .ok (.lload_n 2, 1) := by decide +kernel
theorem dX10_share_4 : decode cX10_share 4 = .ok (.lstore 7, 2) := by decide +kernel
theorem dX10_share_6 : decode cX10_share 6 = .ok (.lload 7, 2) := by decide +kernel
theorem dX10_share_8 : decode cX10_share 8 = .ok (.lconst 0, 1) := by decide +kernel
theorem dX10_share_9 : decode cX10_share 9 = .ok (.lcmp, 1) := by decide +kernel
theorem dX10_share_10 : decode cX10_share 10 = .ok (.ifCond .eq 21, 3) := by decide +kernel
theorem dX10_share_13 : decode cX10_share 13 = .ok (.lload 5, 2) := by decide +kernel
theorem dX10_share_15 : decode cX10_share 15 = .ok (.lload 7, 2) := by decide +kernel
theorem dX10_share_17 : decode cX10_share 17 = .ok (.lrem, 1) := by decide +kernel
theorem dX10_share_18 : decode cX10_share 18 = .ok (.lstore 9, 2) := by decide +kernel
theorem dX10_share_20 : decode cX10_share 20 = .ok (.lload 7, 2) := by decide +kernel
theorem dX10_share_22 : decode cX10_share 22 = .ok (.lstore 5, 2) := by decide +kernel
theorem dX10_share_24 : decode cX10_share 24 = .ok (.lload 9, 2) := by decide +kernel
theorem dX10_share_26 : decode cX10_share 26 = .ok (.lstore 7, 2) := by decide +kernel
theorem dX10_share_28 : decode cX10_share 28 = .ok (.goto (-22), 3) := by decide +kernel
theorem dX10_share_31 : decode cX10_share 31 = .ok (.iload 4, 2) := by decide +kernel
theorem dX10_share_33 : decode cX10_share 33 = .ok (.ifCond .ne 7, 3) := by decide +kernel
theorem dX10_share_36 : decode cX10_share 36 = .ok (.lload_n 0, 1) := by decide +kernel
theorem dX10_share_37 : decode cX10_share 37 = .ok (.goto 4, 3) := by decide +kernel
theorem dX10_share_40 : decode cX10_share 40 = .ok (.lload_n 2, 1) := by decide +kernel
theorem dX10_share_41 : decode cX10_share 41 = .ok (.lload 5, 2) := by decide +kernel
theorem dX10_share_43 : decode cX10_share 43 = .ok (.ldiv, 1) := by decide +kernel
theorem dX10_share_44 : decode cX10_share 44 = .ok (.lreturn, 1) := by decide +kernel
theorem dX10_refused_0 : decode cX10_refused 0 = .ok (.aload_n 0, 1) := by decide +kernel
theorem dX10_refused_1 : decode cX10_refused 1 = .ok (.iconst 0, 1) := by decide +kernel
theorem dX10_refused_2 : decode cX10_refused 2 = .ok (.putfield 60, 3) := by decide +kernel
theorem dX10_refused_5 : decode cX10_refused 5 = .ok (.iload_n 1, 1) := by decide +kernel
theorem dX10_refused_6 : decode cX10_refused 6 = .ok (.ireturn, 1) := by decide +kernel
theorem dX10_failed_0 : decode cX10_failed 0 = .ok (.aload_n 0, 1) := by decide +kernel
theorem dX10_failed_1 : decode cX10_failed 1 = .ok (.iload_n 1, 1) := by decide +kernel
theorem dX10_failed_2 : decode cX10_failed 2 = .ok (.putfield 60, 3) := by decide +kernel
theorem dX10_failed_5 : decode cX10_failed 5 = .ok (.bipush (-10), 2) := by decide +kernel
theorem dX10_failed_7 : decode cX10_failed 7 = .ok (.iload_n 1, 1) := by decide +kernel
theorem dX10_failed_8 : decode cX10_failed 8 = .ok (.isub, 1) := by decide +kernel
theorem dX10_failed_9 : decode cX10_failed 9 = .ok (.ireturn, 1) := by decide +kernel
theorem dX10_failedLong_0 : decode cX10_failedLong 0 = .ok (.aload_n 0, 1) := by decide +kernel
theorem dX10_failedLong_1 : decode cX10_failedLong 1 = .ok (.iload_n 1, 1) := by decide +kernel
theorem dX10_failedLong_2 : decode cX10_failedLong 2 = .ok (.putfield 60, 3) := by decide +kernel
theorem dX10_failedLong_5 : decode cX10_failedLong 5 = .ok (.invokestatic 64, 3) := by decide +kernel
theorem dX10_failedLong_8 : decode cX10_failedLong 8 = .ok (.lreturn, 1) := by decide +kernel
theorem dX10_noDesk_0 : decode cX10_noDesk 0 = .ok (.iload_n 1, 1) := by decide +kernel
theorem dX10_noDesk_1 : decode cX10_noDesk 1 = .ok (.i2l, 1) := by decide +kernel
theorem dX10_noDesk_2 : decode cX10_noDesk 2 = .ok (.lconst 0, 1) := by decide +kernel
theorem dX10_noDesk_3 : decode cX10_noDesk 3 = .ok (.aload_n 0, 1) := by decide +kernel
theorem dX10_noDesk_4 : decode cX10_noDesk 4 = .ok (.getfield 68, 3) := by decide +kernel
theorem dX10_noDesk_7 : decode cX10_noDesk 7 = .ok (.i2l, 1) := by decide +kernel
theorem dX10_noDesk_8 : decode cX10_noDesk 8 = .ok (.lconst 1, 1) := by decide +kernel
theorem dX10_noDesk_9 : decode cX10_noDesk 9 = .ok (.lsub, 1) := by decide +kernel
theorem dX10_noDesk_10 : decode cX10_noDesk 10 = .ok (.invokestatic 71, 3) := by decide +kernel
theorem dX10_noDesk_13 : decode cX10_noDesk 13 = .ok (.ifCond .ne 7, 3) := by decide +kernel
theorem dX10_noDesk_16 : decode cX10_noDesk 16 = .ok (.iconst 1, 1) := by decide +kernel
theorem dX10_noDesk_17 : decode cX10_noDesk 17 = .ok (.goto 4, 3) := by decide +kernel
theorem dX10_noDesk_20 : decode cX10_noDesk 20 = .ok (.iconst 0, 1) := by decide +kernel
theorem dX10_noDesk_21 : decode cX10_noDesk 21 = .ok (.ireturn, 1) := by decide +kernel
theorem dX10_noAsk_0 : decode cX10_noAsk 0 = .ok (.iload_n 1, 1) := by decide +kernel
theorem dX10_noAsk_1 : decode cX10_noAsk 1 = .ok (.i2l, 1) := by decide +kernel
theorem dX10_noAsk_2 : decode cX10_noAsk 2 = .ok (.lconst 0, 1) := by decide +kernel
theorem dX10_noAsk_3 : decode cX10_noAsk 3 = .ok (.aload_n 0, 1) := by decide +kernel
theorem dX10_noAsk_4 : decode cX10_noAsk 4 = .ok (.getfield 75, 3) := by decide +kernel
theorem dX10_noAsk_7 : decode cX10_noAsk 7 = .ok (.i2l, 1) := by decide +kernel
theorem dX10_noAsk_8 : decode cX10_noAsk 8 = .ok (.lconst 1, 1) := by decide +kernel
theorem dX10_noAsk_9 : decode cX10_noAsk 9 = .ok (.lsub, 1) := by decide +kernel
theorem dX10_noAsk_10 : decode cX10_noAsk 10 = .ok (.invokestatic 71, 3) := by decide +kernel
theorem dX10_noAsk_13 : decode cX10_noAsk 13 = .ok (.ifCond .ne 7, 3) := by decide +kernel
theorem dX10_noAsk_16 : decode cX10_noAsk 16 = .ok (.iconst 1, 1) := by decide +kernel
theorem dX10_noAsk_17 : decode cX10_noAsk 17 = .ok (.goto 4, 3) := by decide +kernel
theorem dX10_noAsk_20 : decode cX10_noAsk 20 = .ok (.iconst 0, 1) := by decide +kernel
theorem dX10_noAsk_21 : decode cX10_noAsk 21 = .ok (.ireturn, 1) := by decide +kernel
theorem dX10_isPage_0 : decode cX10_isPage 0 = .ok (.iload_n 0, 1) := by decide +kernel
theorem dX10_isPage_1 : decode cX10_isPage 1 = .ok (.i2l, 1) := by decide +kernel
theorem dX10_isPage_2 : decode cX10_isPage 2 = .ok (.lconst 0, 1) := by decide +kernel
theorem dX10_isPage_3 : decode cX10_isPage 3 = .ok (.ldc2_w 78, 3) := by decide +kernel
theorem dX10_isPage_6 : decode cX10_isPage 6 = .ok (.invokestatic 71, 3) := by decide +kernel
theorem dX10_isPage_9 : decode cX10_isPage 9 = .ok (.ireturn, 1) := by decide +kernel
theorem dX10_codeAt_0 : decode cX10_codeAt 0 = .ok (.aload_n 0, 1) := by decide +kernel
theorem dX10_codeAt_1 : decode cX10_codeAt 1 = .ok (.getfield 80, 3) := by decide +kernel
theorem dX10_codeAt_4 : decode cX10_codeAt 4 = .ok (.iload_n 2, 1) := by decide +kernel
theorem dX10_codeAt_5 : decode cX10_codeAt 5 = .ok (.if_icmp .ge 17, 3) := by decide +kernel
theorem dX10_codeAt_8 : decode cX10_codeAt 8 = .ok (.aload_n 0, 1) := by decide +kernel
theorem dX10_codeAt_9 : decode cX10_codeAt 9 = .ok (.getfield 52, 3) := by decide +kernel
theorem dX10_codeAt_12 : decode cX10_codeAt 12 = .ok (.iload_n 1, 1) := by decide +kernel
theorem dX10_codeAt_13 : decode cX10_codeAt 13 = .ok (.aload_n 0, 1) := by decide +kernel
theorem dX10_codeAt_14 : decode cX10_codeAt 14 = .ok (.getfield 80, 3) := by decide +kernel
theorem dX10_codeAt_17 : decode cX10_codeAt 17 = .ok (.iadd, 1) := by decide +kernel
theorem dX10_codeAt_18 : decode cX10_codeAt 18 = .ok (.iaload, 1) := by decide +kernel
theorem dX10_codeAt_19 : decode cX10_codeAt 19 = .ok (.goto 5, 3) := by decide +kernel
theorem dX10_codeAt_22 : decode cX10_codeAt 22 = .ok (.bipush (-9), 2) := by decide +kernel
theorem dX10_codeAt_24 : decode cX10_codeAt 24 = .ok (.ireturn, 1) := by decide +kernel
theorem dX10_readsDesk_0 : decode cX10_readsDesk 0 = .ok (.aload_n 0, 1) := by decide +kernel
theorem dX10_readsDesk_1 : decode cX10_readsDesk 1 = .ok (.getfield 83, 3) := by decide +kernel
theorem dX10_readsDesk_4 : decode cX10_readsDesk 4 = .ok (.iconst 4, 1) := by decide +kernel
theorem dX10_readsDesk_5 : decode cX10_readsDesk 5 = .ok (.if_icmp .eq 14, 3) := by decide +kernel
theorem dX10_readsDesk_8 : decode cX10_readsDesk 8 = .ok (.aload_n 0, 1) := by decide +kernel
theorem dX10_readsDesk_9 : decode cX10_readsDesk 9 = .ok (.iload_n 1, 1) := by decide +kernel
theorem dX10_readsDesk_10 : decode cX10_readsDesk 10 = .ok (.iload_n 2, 1) := by decide +kernel
theorem dX10_readsDesk_11 : decode cX10_readsDesk 11 = .ok (.invokevirtual 86, 3) := by decide +kernel
theorem dX10_readsDesk_14 : decode cX10_readsDesk 14 = .ok (.bipush 59, 2) := by decide +kernel
theorem dX10_readsDesk_16 : decode cX10_readsDesk 16 = .ok (.if_icmp .eq 5, 3) := by decide +kernel
theorem dX10_readsDesk_19 : decode cX10_readsDesk 19 = .ok (.iconst 0, 1) := by decide +kernel
theorem dX10_readsDesk_20 : decode cX10_readsDesk 20 = .ok (.ireturn, 1) := by decide +kernel
theorem dX10_readsDesk_21 : decode cX10_readsDesk 21 = .ok (.aload_n 0, 1) := by decide +kernel
theorem dX10_readsDesk_22 : decode cX10_readsDesk 22 = .ok (.dup, 1) := by decide +kernel
theorem dX10_readsDesk_23 : decode cX10_readsDesk 23 = .ok (.getfield 80, 3) := by decide +kernel
theorem dX10_readsDesk_26 : decode cX10_readsDesk 26 = .ok (.iconst 1, 1) := by decide +kernel
theorem dX10_readsDesk_27 : decode cX10_readsDesk 27 = .ok (.iadd, 1) := by decide +kernel
theorem dX10_readsDesk_28 : decode cX10_readsDesk 28 = .ok (.putfield 80, 3) := by decide +kernel
theorem dX10_readsDesk_31 : decode cX10_readsDesk 31 = .ok (.aload_n 0, 1) := by decide +kernel
theorem dX10_readsDesk_32 : decode cX10_readsDesk 32 = .ok (.iload_n 1, 1) := by decide +kernel
theorem dX10_readsDesk_33 : decode cX10_readsDesk 33 = .ok (.iload_n 2, 1) := by decide +kernel
theorem dX10_readsDesk_34 : decode cX10_readsDesk 34 = .ok (.invokevirtual 86, 3) := by decide +kernel
theorem dX10_readsDesk_37 : decode cX10_readsDesk 37 = .ok (.istore_n 3, 1) := by decide +kernel
theorem dX10_readsDesk_38 : decode cX10_readsDesk 38 = .ok (.iload_n 3, 1) := by decide +kernel
theorem dX10_readsDesk_39 : decode cX10_readsDesk 39 = .ok (.bipush 113, 2) := by decide +kernel
theorem dX10_readsDesk_41 : decode cX10_readsDesk 41 = .ok (.if_icmp .eq 17, 3) := by decide +kernel
theorem dX10_readsDesk_44 : decode cX10_readsDesk 44 = .ok (.iload_n 3, 1) := by decide +kernel
theorem dX10_readsDesk_45 : decode cX10_readsDesk 45 = .ok (.bipush 99, 2) := by decide +kernel
theorem dX10_readsDesk_47 : decode cX10_readsDesk 47 = .ok (.if_icmp .eq 11, 3) := by decide +kernel
theorem dX10_readsDesk_50 : decode cX10_readsDesk 50 = .ok (.iload_n 3, 1) := by decide +kernel
theorem dX10_readsDesk_51 : decode cX10_readsDesk 51 = .ok (.bipush 114, 2) := by decide +kernel
theorem dX10_readsDesk_53 : decode cX10_readsDesk 53 = .ok (.if_icmp .eq 5, 3) := by decide +kernel
theorem dX10_readsDesk_56 : decode cX10_readsDesk 56 = .ok (.iconst 0, 1) := by decide +kernel
theorem dX10_readsDesk_57 : decode cX10_readsDesk 57 = .ok (.ireturn, 1) := by decide +kernel
theorem dX10_readsDesk_58 : decode cX10_readsDesk 58 = .ok (.aload_n 0, 1) := by decide +kernel
theorem dX10_readsDesk_59 : decode cX10_readsDesk 59 = .ok (.dup, 1) := by decide +kernel
theorem dX10_readsDesk_60 : decode cX10_readsDesk 60 = .ok (.getfield 80, 3) := by decide +kernel
theorem dX10_readsDesk_63 : decode cX10_readsDesk 63 = .ok (.iconst 1, 1) := by decide +kernel
theorem dX10_readsDesk_64 : decode cX10_readsDesk 64 = .ok (.iadd, 1) := by decide +kernel
theorem dX10_readsDesk_65 : decode cX10_readsDesk 65 = .ok (.putfield 80, 3) := by decide +kernel
theorem dX10_readsDesk_68 : decode cX10_readsDesk 68 = .ok (.aload_n 0, 1) := by decide +kernel
theorem dX10_readsDesk_69 : decode cX10_readsDesk 69 = .ok (.iload_n 1, 1) := by decide +kernel
theorem dX10_readsDesk_70 : decode cX10_readsDesk 70 = .ok (.iload_n 2, 1) := by decide +kernel
theorem dX10_readsDesk_71 : decode cX10_readsDesk 71 = .ok (.invokevirtual 86, 3) := by decide +kernel
theorem dX10_readsDesk_74 : decode cX10_readsDesk 74 = .ok (.bipush 48, 2) := by decide +kernel
theorem dX10_readsDesk_76 : decode cX10_readsDesk 76 = .ok (.isub, 1) := by decide +kernel
theorem dX10_readsDesk_77 : decode cX10_readsDesk 77 = .ok (.istore 4, 2) := by decide +kernel
theorem dX10_readsDesk_79 : decode cX10_readsDesk 79 = .ok (.iload 4, 2) := by decide +kernel
theorem dX10_readsDesk_81 : decode cX10_readsDesk 81 = .ok (.i2l, 1) := by decide +kernel
theorem dX10_readsDesk_82 : decode cX10_readsDesk 82 = .ok (.lconst 1, 1) := by decide +kernel
theorem dX10_readsDesk_83 : decode cX10_readsDesk 83 = .ok (.ldc2_w 90, 3) := by decide +kernel
theorem dX10_readsDesk_86 : decode cX10_readsDesk 86 = .ok (.invokestatic 71, 3) := by decide +kernel
theorem dX10_readsDesk_89 : decode cX10_readsDesk 89 = .ok (.ifCond .ne 5, 3) := by decide +kernel
theorem dX10_readsDesk_92 : decode cX10_readsDesk 92 = .ok (.iconst 0, 1) := by decide +kernel
theorem dX10_readsDesk_93 : decode cX10_readsDesk 93 = .ok (.ireturn, 1) := by decide +kernel
theorem dX10_readsDesk_94 : decode cX10_readsDesk 94 = .ok (.aload_n 0, 1) := by decide +kernel
theorem dX10_readsDesk_95 : decode cX10_readsDesk 95 = .ok (.dup, 1) := by decide +kernel
theorem dX10_readsDesk_96 : decode cX10_readsDesk 96 = .ok (.getfield 80, 3) := by decide +kernel
theorem dX10_readsDesk_99 : decode cX10_readsDesk 99 = .ok (.iconst 1, 1) := by decide +kernel
theorem dX10_readsDesk_100 : decode cX10_readsDesk 100 = .ok (.iadd, 1) := by decide +kernel
theorem dX10_readsDesk_101 : decode cX10_readsDesk 101 = .ok (.putfield 80, 3) := by decide +kernel
theorem dX10_readsDesk_104 : decode cX10_readsDesk 104 = .ok (.aload_n 0, 1) := by decide +kernel
theorem dX10_readsDesk_105 : decode cX10_readsDesk 105 = .ok (.getfield 19, 3) := by decide +kernel
theorem dX10_readsDesk_108 : decode cX10_readsDesk 108 = .ok (.aload_n 0, 1) := by decide +kernel
theorem dX10_readsDesk_109 : decode cX10_readsDesk 109 = .ok (.getfield 83, 3) := by decide +kernel
theorem dX10_readsDesk_112 : decode cX10_readsDesk 112 = .ok (.iload_n 3, 1) := by decide +kernel
theorem dX10_readsDesk_113 : decode cX10_readsDesk 113 = .ok (.bipush 113, 2) := by decide +kernel
theorem dX10_readsDesk_115 : decode cX10_readsDesk 115 = .ok (.if_icmp .ne 7, 3) := by decide +kernel
theorem dX10_readsDesk_118 : decode cX10_readsDesk 118 = .ok (.iconst 0, 1) := by decide +kernel
theorem dX10_readsDesk_119 : decode cX10_readsDesk 119 = .ok (.goto 14, 3) := by decide +kernel
theorem dX10_readsDesk_122 : decode cX10_readsDesk 122 = .ok (.iload_n 3, 1) := by decide +kernel
theorem dX10_readsDesk_123 : decode cX10_readsDesk 123 = .ok (.bipush 99, 2) := by decide +kernel
theorem dX10_readsDesk_125 : decode cX10_readsDesk 125 = .ok (.if_icmp .ne 7, 3) := by decide +kernel
theorem dX10_readsDesk_128 : decode cX10_readsDesk 128 = .ok (.iconst 1, 1) := by decide +kernel
theorem dX10_readsDesk_129 : decode cX10_readsDesk 129 = .ok (.goto 4, 3) := by decide +kernel
theorem dX10_readsDesk_132 : decode cX10_readsDesk 132 = .ok (.iconst 2, 1) := by decide +kernel
theorem dX10_readsDesk_133 : decode cX10_readsDesk 133 = .ok (.iastore, 1) := by decide +kernel
theorem dX10_readsDesk_134 : decode cX10_readsDesk 134 = .ok (.aload_n 0, 1) := by decide +kernel
theorem dX10_readsDesk_135 : decode cX10_readsDesk 135 = .ok (.getfield 22, 3) := by decide +kernel
theorem dX10_readsDesk_138 : decode cX10_readsDesk 138 = .ok (.aload_n 0, 1) := by decide +kernel
theorem dX10_readsDesk_139 : decode cX10_readsDesk 139 = .ok (.getfield 83, 3) := by decide +kernel
theorem dX10_readsDesk_142 : decode cX10_readsDesk 142 = .ok (.iload 4, 2) := by decide +kernel
theorem dX10_readsDesk_144 : decode cX10_readsDesk 144 = .ok (.iastore, 1) := by decide +kernel
theorem dX10_readsDesk_145 : decode cX10_readsDesk 145 = .ok (.aload_n 0, 1) := by decide +kernel
theorem dX10_readsDesk_146 : decode cX10_readsDesk 146 = .ok (.dup, 1) := by decide +kernel
theorem dX10_readsDesk_147 : decode cX10_readsDesk 147 = .ok (.getfield 83, 3) := by decide +kernel
theorem dX10_readsDesk_150 : decode cX10_readsDesk 150 = .ok (.iconst 1, 1) := by decide +kernel
theorem dX10_readsDesk_151 : decode cX10_readsDesk 151 = .ok (.iadd, 1) := by decide +kernel
theorem dX10_readsDesk_152 : decode cX10_readsDesk 152 = .ok (.putfield 83, 3) := by decide +kernel
theorem dX10_readsDesk_155 : decode cX10_readsDesk 155 = .ok (.iconst 1, 1) := by decide +kernel
theorem dX10_readsDesk_156 : decode cX10_readsDesk 156 = .ok (.ireturn, 1) := by decide +kernel
theorem dX10_readsAsk_0 : decode cX10_readsAsk 0 = .ok (.aload_n 0, 1) := by decide +kernel
theorem dX10_readsAsk_1 : decode cX10_readsAsk 1 = .ok (.iload_n 1, 1) := by decide +kernel
theorem dX10_readsAsk_2 : decode cX10_readsAsk 2 = .ok (.iload_n 2, 1) := by decide +kernel
theorem dX10_readsAsk_3 : decode cX10_readsAsk 3 = .ok (.invokevirtual 86, 3) := by decide +kernel
theorem dX10_readsAsk_6 : decode cX10_readsAsk 6 = .ok (.bipush 97, 2) := by decide +kernel
theorem dX10_readsAsk_8 : decode cX10_readsAsk 8 = .ok (.isub, 1) := by decide +kernel
theorem dX10_readsAsk_9 : decode cX10_readsAsk 9 = .ok (.istore_n 3, 1) := by decide +kernel
theorem dX10_readsAsk_10 : decode cX10_readsAsk 10 = .ok (.aload_n 0, 1) := by decide +kernel
theorem dX10_readsAsk_11 : decode cX10_readsAsk 11 = .ok (.getfield 92, 3) := by decide +kernel
theorem dX10_readsAsk_14 : decode cX10_readsAsk 14 = .ok (.bipush 24, 2) := by decide +kernel
theorem dX10_readsAsk_16 : decode cX10_readsAsk 16 = .ok (.if_icmp .eq 10, 3) := by decide +kernel
theorem dX10_readsAsk_19 : decode cX10_readsAsk 19 = .ok (.iload_n 3, 1) := by decide +kernel
theorem dX10_readsAsk_20 : decode cX10_readsAsk 20 = .ok (.invokestatic 95, 3) := by decide +kernel
theorem dX10_readsAsk_23 : decode cX10_readsAsk 23 = .ok (.ifCond .ne 5, 3) := by decide +kernel
theorem dX10_readsAsk_26 : decode cX10_readsAsk 26 = .ok (.iconst 0, 1) := by decide +kernel
theorem dX10_readsAsk_27 : decode cX10_readsAsk 27 = .ok (.ireturn, 1) := by decide +kernel
theorem dX10_readsAsk_28 : decode cX10_readsAsk 28 = .ok (.aload_n 0, 1) := by decide +kernel
theorem dX10_readsAsk_29 : decode cX10_readsAsk 29 = .ok (.getfield 25, 3) := by decide +kernel
theorem dX10_readsAsk_32 : decode cX10_readsAsk 32 = .ok (.aload_n 0, 1) := by decide +kernel
theorem dX10_readsAsk_33 : decode cX10_readsAsk 33 = .ok (.getfield 92, 3) := by decide +kernel
theorem dX10_readsAsk_36 : decode cX10_readsAsk 36 = .ok (.iload_n 3, 1) := by decide +kernel
theorem dX10_readsAsk_37 : decode cX10_readsAsk 37 = .ok (.iastore, 1) := by decide +kernel
theorem dX10_readsAsk_38 : decode cX10_readsAsk 38 = .ok (.aload_n 0, 1) := by decide +kernel
theorem dX10_readsAsk_39 : decode cX10_readsAsk 39 = .ok (.dup, 1) := by decide +kernel
theorem dX10_readsAsk_40 : decode cX10_readsAsk 40 = .ok (.getfield 92, 3) := by decide +kernel
theorem dX10_readsAsk_43 : decode cX10_readsAsk 43 = .ok (.iconst 1, 1) := by decide +kernel
theorem dX10_readsAsk_44 : decode cX10_readsAsk 44 = .ok (.iadd, 1) := by decide +kernel
theorem dX10_readsAsk_45 : decode cX10_readsAsk 45 = .ok (.putfield 92, 3) := by decide +kernel
theorem dX10_readsAsk_48 : decode cX10_readsAsk 48 = .ok (.aload_n 0, 1) := by decide +kernel
theorem dX10_readsAsk_49 : decode cX10_readsAsk 49 = .ok (.dup, 1) := by decide +kernel
theorem dX10_readsAsk_50 : decode cX10_readsAsk 50 = .ok (.getfield 80, 3) := by decide +kernel
theorem dX10_readsAsk_53 : decode cX10_readsAsk 53 = .ok (.iconst 1, 1) := by decide +kernel
theorem dX10_readsAsk_54 : decode cX10_readsAsk 54 = .ok (.iadd, 1) := by decide +kernel
theorem dX10_readsAsk_55 : decode cX10_readsAsk 55 = .ok (.putfield 80, 3) := by decide +kernel
theorem dX10_readsAsk_58 : decode cX10_readsAsk 58 = .ok (.iconst 1, 1) := by decide +kernel
theorem dX10_readsAsk_59 : decode cX10_readsAsk 59 = .ok (.ireturn, 1) := by decide +kernel
theorem dX10_readsRoom_0 : decode cX10_readsRoom 0 = .ok (.aload_n 0, 1) := by decide +kernel
theorem dX10_readsRoom_1 : decode cX10_readsRoom 1 = .ok (.iconst 0, 1) := by decide +kernel
theorem dX10_readsRoom_2 : decode cX10_readsRoom 2 = .ok (.putfield 80, 3) := by decide +kernel
theorem dX10_readsRoom_5 : decode cX10_readsRoom 5 = .ok (.aload_n 0, 1) := by decide +kernel
theorem dX10_readsRoom_6 : decode cX10_readsRoom 6 = .ok (.iconst 0, 1) := by decide +kernel
theorem dX10_readsRoom_7 : decode cX10_readsRoom 7 = .ok (.putfield 83, 3) := by decide +kernel
theorem dX10_readsRoom_10 : decode cX10_readsRoom 10 = .ok (.aload_n 0, 1) := by decide +kernel
theorem dX10_readsRoom_11 : decode cX10_readsRoom 11 = .ok (.iconst 0, 1) := by decide +kernel
theorem dX10_readsRoom_12 : decode cX10_readsRoom 12 = .ok (.putfield 92, 3) := by decide +kernel
theorem dX10_readsRoom_15 : decode cX10_readsRoom 15 = .ok (.aload_n 0, 1) := by decide +kernel
theorem dX10_readsRoom_16 : decode cX10_readsRoom 16 = .ok (.iload_n 1, 1) := by decide +kernel
theorem dX10_readsRoom_17 : decode cX10_readsRoom 17 = .ok (.iload_n 2, 1) := by decide +kernel
theorem dX10_readsRoom_18 : decode cX10_readsRoom 18 = .ok (.invokevirtual 86, 3) := by decide +kernel
theorem dX10_readsRoom_21 : decode cX10_readsRoom 21 = .ok (.bipush 100, 2) := by decide +kernel
theorem dX10_readsRoom_23 : decode cX10_readsRoom 23 = .ok (.if_icmp .eq 5, 3) := by decide +kernel
theorem dX10_readsRoom_26 : decode cX10_readsRoom 26 = .ok (.iconst 0, 1) := by decide +kernel
theorem dX10_readsRoom_27 : decode cX10_readsRoom 27 = .ok (.ireturn, 1) := by decide +kernel
theorem dX10_readsRoom_28 : decode cX10_readsRoom 28 = .ok (.aload_n 0, 1) := by decide +kernel
theorem dX10_readsRoom_29 : decode cX10_readsRoom 29 = .ok (.dup, 1) := by decide +kernel
theorem dX10_readsRoom_30 : decode cX10_readsRoom 30 = .ok (.getfield 80, 3) := by decide +kernel
theorem dX10_readsRoom_33 : decode cX10_readsRoom 33 = .ok (.iconst 1, 1) := by decide +kernel
theorem dX10_readsRoom_34 : decode cX10_readsRoom 34 = .ok (.iadd, 1) := by decide +kernel
theorem dX10_readsRoom_35 : decode cX10_readsRoom 35 = .ok (.putfield 80, 3) := by decide +kernel
theorem dX10_readsRoom_38 : decode cX10_readsRoom 38 = .ok (.iconst 1, 1) := by decide +kernel
theorem dX10_readsRoom_39 : decode cX10_readsRoom 39 = .ok (.istore_n 3, 1) := by decide +kernel
theorem dX10_readsRoom_40 : decode cX10_readsRoom 40 = .ok (.iload_n 3, 1) := by decide +kernel
theorem dX10_readsRoom_41 : decode cX10_readsRoom 41 = .ok (.ifCond .eq 32, 3) := by decide +kernel
theorem dX10_readsRoom_44 : decode cX10_readsRoom 44 = .ok (.aload_n 0, 1) := by decide +kernel
theorem dX10_readsRoom_45 : decode cX10_readsRoom 45 = .ok (.getfield 83, 3) := by decide +kernel
theorem dX10_readsRoom_48 : decode cX10_readsRoom 48 = .ok (.iconst 1, 1) := by decide +kernel
theorem dX10_readsRoom_49 : decode cX10_readsRoom 49 = .ok (.if_icmp .lt 14, 3) := by decide +kernel
theorem dX10_readsRoom_52 : decode cX10_readsRoom 52 = .ok (.aload_n 0, 1) := by decide +kernel
theorem dX10_readsRoom_53 : decode cX10_readsRoom 53 = .ok (.iload_n 1, 1) := by decide +kernel
theorem dX10_readsRoom_54 : decode cX10_readsRoom 54 = .ok (.iload_n 2, 1) := by decide +kernel
theorem dX10_readsRoom_55 : decode cX10_readsRoom 55 = .ok (.invokevirtual 86, 3) := by decide +kernel
theorem dX10_readsRoom_58 : decode cX10_readsRoom 58 = .ok (.bipush 44, 2) := by decide +kernel
theorem dX10_readsRoom_60 : decode cX10_readsRoom 60 = .ok (.if_icmp .eq 13, 3) := by decide +kernel
theorem dX10_readsRoom_63 : decode cX10_readsRoom 63 = .ok (.aload_n 0, 1) := by decide +kernel
theorem dX10_readsRoom_64 : decode cX10_readsRoom 64 = .ok (.iload_n 1, 1) := by decide +kernel
theorem dX10_readsRoom_65 : decode cX10_readsRoom 65 = .ok (.iload_n 2, 1) := by decide +kernel
theorem dX10_readsRoom_66 : decode cX10_readsRoom 66 = .ok (.invokevirtual 99, 3) := by decide +kernel
theorem dX10_readsRoom_69 : decode cX10_readsRoom 69 = .ok (.istore_n 3, 1) := by decide +kernel
theorem dX10_readsRoom_70 : decode cX10_readsRoom 70 = .ok (.goto (-30), 3) := by decide +kernel
theorem dX10_readsRoom_73 : decode cX10_readsRoom 73 = .ok (.aload_n 0, 1) := by decide +kernel
theorem dX10_readsRoom_74 : decode cX10_readsRoom 74 = .ok (.dup, 1) := by decide +kernel
theorem dX10_readsRoom_75 : decode cX10_readsRoom 75 = .ok (.getfield 80, 3) := by decide +kernel
theorem dX10_readsRoom_78 : decode cX10_readsRoom 78 = .ok (.iload_n 3, 1) := by decide +kernel
theorem dX10_readsRoom_79 : decode cX10_readsRoom 79 = .ok (.ifCond .eq 7, 3) := by decide +kernel
theorem dX10_readsRoom_82 : decode cX10_readsRoom 82 = .ok (.iconst 1, 1) := by decide +kernel
theorem dX10_readsRoom_83 : decode cX10_readsRoom 83 = .ok (.goto 4, 3) := by decide +kernel
theorem dX10_readsRoom_86 : decode cX10_readsRoom 86 = .ok (.iconst 0, 1) := by decide +kernel
theorem dX10_readsRoom_87 : decode cX10_readsRoom 87 = .ok (.iadd, 1) := by decide +kernel
theorem dX10_readsRoom_88 : decode cX10_readsRoom 88 = .ok (.putfield 80, 3) := by decide +kernel
theorem dX10_readsRoom_91 : decode cX10_readsRoom 91 = .ok (.iload_n 3, 1) := by decide +kernel
theorem dX10_readsRoom_92 : decode cX10_readsRoom 92 = .ok (.ifCond .eq 29, 3) := by decide +kernel
theorem dX10_readsRoom_95 : decode cX10_readsRoom 95 = .ok (.aload_n 0, 1) := by decide +kernel
theorem dX10_readsRoom_96 : decode cX10_readsRoom 96 = .ok (.getfield 92, 3) := by decide +kernel
theorem dX10_readsRoom_99 : decode cX10_readsRoom 99 = .ok (.iconst 1, 1) := by decide +kernel
theorem dX10_readsRoom_100 : decode cX10_readsRoom 100 = .ok (.if_icmp .lt 11, 3) := by decide +kernel
theorem dX10_readsRoom_103 : decode cX10_readsRoom 103 = .ok (.aload_n 0, 1) := by decide +kernel
theorem dX10_readsRoom_104 : decode cX10_readsRoom 104 = .ok (.getfield 80, 3) := by decide +kernel
theorem dX10_readsRoom_107 : decode cX10_readsRoom 107 = .ok (.iload_n 2, 1) := by decide +kernel
theorem dX10_readsRoom_108 : decode cX10_readsRoom 108 = .ok (.if_icmp .ge 13, 3) := by decide +kernel
theorem dX10_readsRoom_111 : decode cX10_readsRoom 111 = .ok (.aload_n 0, 1) := by decide +kernel
theorem dX10_readsRoom_112 : decode cX10_readsRoom 112 = .ok (.iload_n 1, 1) := by decide +kernel
theorem dX10_readsRoom_113 : decode cX10_readsRoom 113 = .ok (.iload_n 2, 1) := by decide +kernel
theorem dX10_readsRoom_114 : decode cX10_readsRoom 114 = .ok (.invokevirtual 103, 3) := by decide +kernel
theorem dX10_readsRoom_117 : decode cX10_readsRoom 117 = .ok (.istore_n 3, 1) := by decide +kernel
theorem dX10_readsRoom_118 : decode cX10_readsRoom 118 = .ok (.goto (-27), 3) := by decide +kernel
theorem dX10_readsRoom_121 : decode cX10_readsRoom 121 = .ok (.iload_n 3, 1) := by decide +kernel
theorem dX10_readsRoom_122 : decode cX10_readsRoom 122 = .ok (.ireturn, 1) := by decide +kernel
theorem dX10_cellsBarred_0 : decode cX10_cellsBarred 0 = .ok (.aload_n 0, 1) := by decide +kernel
theorem dX10_cellsBarred_1 : decode cX10_cellsBarred 1 = .ok (.getfield 46, 3) := by decide +kernel
theorem dX10_cellsBarred_4 : decode cX10_cellsBarred 4 = .ok (.iload_n 1, 1) := by decide +kernel
theorem dX10_cellsBarred_5 : decode cX10_cellsBarred 5 = .ok (.iaload, 1) := by decide +kernel
theorem dX10_cellsBarred_6 : decode cX10_cellsBarred 6 = .ok (.ifCond .lt 19, 3) := by decide +kernel
theorem dX10_cellsBarred_9 : decode cX10_cellsBarred 9 = .ok (.aload_n 0, 1) := by decide +kernel
theorem dX10_cellsBarred_10 : decode cX10_cellsBarred 10 = .ok (.getfield 49, 3) := by decide +kernel
theorem dX10_cellsBarred_13 : decode cX10_cellsBarred 13 = .ok (.iload_n 1, 1) := by decide +kernel
theorem dX10_cellsBarred_14 : decode cX10_cellsBarred 14 = .ok (.iaload, 1) := by decide +kernel
theorem dX10_cellsBarred_15 : decode cX10_cellsBarred 15 = .ok (.iload_n 2, 1) := by decide +kernel
theorem dX10_cellsBarred_16 : decode cX10_cellsBarred 16 = .ok (.if_icmp .eq 9, 3) := by decide +kernel
theorem dX10_cellsBarred_19 : decode cX10_cellsBarred 19 = .ok (.aload_n 0, 1) := by decide +kernel
theorem dX10_cellsBarred_20 : decode cX10_cellsBarred 20 = .ok (.iconst 2, 1) := by decide +kernel
theorem dX10_cellsBarred_21 : decode cX10_cellsBarred 21 = .ok (.invokevirtual 106, 3) := by decide +kernel
theorem dX10_cellsBarred_24 : decode cX10_cellsBarred 24 = .ok (.ireturn, 1) := by decide +kernel
theorem dX10_cellsBarred_25 : decode cX10_cellsBarred 25 = .ok (.aload_n 0, 1) := by decide +kernel
theorem dX10_cellsBarred_26 : decode cX10_cellsBarred 26 = .ok (.getfield 46, 3) := by decide +kernel
theorem dX10_cellsBarred_29 : decode cX10_cellsBarred 29 = .ok (.iload_n 1, 1) := by decide +kernel
theorem dX10_cellsBarred_30 : decode cX10_cellsBarred 30 = .ok (.iaload, 1) := by decide +kernel
theorem dX10_cellsBarred_31 : decode cX10_cellsBarred 31 = .ok (.ifCond .ge 9, 3) := by decide +kernel
theorem dX10_cellsBarred_34 : decode cX10_cellsBarred 34 = .ok (.aload_n 0, 1) := by decide +kernel
theorem dX10_cellsBarred_35 : decode cX10_cellsBarred 35 = .ok (.iconst 1, 1) := by decide +kernel
theorem dX10_cellsBarred_36 : decode cX10_cellsBarred 36 = .ok (.invokevirtual 106, 3) := by decide +kernel
theorem dX10_cellsBarred_39 : decode cX10_cellsBarred 39 = .ok (.ireturn, 1) := by decide +kernel
theorem dX10_cellsBarred_40 : decode cX10_cellsBarred 40 = .ok (.lload 4, 2) := by decide +kernel
theorem dX10_cellsBarred_42 : decode cX10_cellsBarred 42 = .ok (.lconst 0, 1) := by decide +kernel
theorem dX10_cellsBarred_43 : decode cX10_cellsBarred 43 = .ok (.lcmp, 1) := by decide +kernel
theorem dX10_cellsBarred_44 : decode cX10_cellsBarred 44 = .ok (.ifCond .ge 9, 3) := by decide +kernel
theorem dX10_cellsBarred_47 : decode cX10_cellsBarred 47 = .ok (.aload_n 0, 1) := by decide +kernel
theorem dX10_cellsBarred_48 : decode cX10_cellsBarred 48 = .ok (.iconst 4, 1) := by decide +kernel
theorem dX10_cellsBarred_49 : decode cX10_cellsBarred 49 = .ok (.invokevirtual 106, 3) := by decide +kernel
theorem dX10_cellsBarred_52 : decode cX10_cellsBarred 52 = .ok (.ireturn, 1) := by decide +kernel
theorem dX10_cellsBarred_53 : decode cX10_cellsBarred 53 = .ok (.iload_n 3, 1) := by decide +kernel
theorem dX10_cellsBarred_54 : decode cX10_cellsBarred 54 = .ok (.lload 4, 2) := by decide +kernel
theorem dX10_cellsBarred_56 : decode cX10_cellsBarred 56 = .ok (.aload_n 0, 1) := by decide +kernel
theorem dX10_cellsBarred_57 : decode cX10_cellsBarred 57 = .ok (.getfield 46, 3) := by decide +kernel
theorem dX10_cellsBarred_60 : decode cX10_cellsBarred 60 = .ok (.iload_n 1, 1) := by decide +kernel
theorem dX10_cellsBarred_61 : decode cX10_cellsBarred 61 = .ok (.iaload, 1) := by decide +kernel
theorem dX10_cellsBarred_62 : decode cX10_cellsBarred 62 = .ok (.invokestatic 110, 3) := by decide +kernel
theorem dX10_cellsBarred_65 : decode cX10_cellsBarred 65 = .ok (.ifCond .eq 11, 3) := by decide +kernel
theorem dX10_cellsBarred_68 : decode cX10_cellsBarred 68 = .ok (.aload_n 0, 1) := by decide +kernel
theorem dX10_cellsBarred_69 : decode cX10_cellsBarred 69 = .ok (.iconst 3, 1) := by decide +kernel
theorem dX10_cellsBarred_70 : decode cX10_cellsBarred 70 = .ok (.invokevirtual 106, 3) := by decide +kernel
theorem dX10_cellsBarred_73 : decode cX10_cellsBarred 73 = .ok (.goto 4, 3) := by decide +kernel
theorem dX10_cellsBarred_76 : decode cX10_cellsBarred 76 = .ok (.iconst 0, 1) := by decide +kernel
theorem dX10_cellsBarred_77 : decode cX10_cellsBarred 77 = .ok (.ireturn, 1) := by decide +kernel
theorem dX10_room_0 : decode cX10_room 0 = .ok (.iload_n 1, 1) := by decide +kernel
theorem dX10_room_1 : decode cX10_room 1 = .ok (.invokestatic 114, 3) := by decide +kernel
theorem dX10_room_4 : decode cX10_room 4 = .ok (.ifCond .eq 9, 3) := by decide +kernel
theorem dX10_room_7 : decode cX10_room 7 = .ok (.aload_n 0, 1) := by decide +kernel
theorem dX10_room_8 : decode cX10_room 8 = .ok (.iconst (-1), 1) := by decide +kernel
theorem dX10_room_9 : decode cX10_room 9 = .ok (.invokevirtual 117, 3) := by decide +kernel
theorem dX10_room_12 : decode cX10_room 12 = .ok (.ireturn, 1) := by decide +kernel
theorem dX10_room_13 : decode cX10_room 13 = .ok (.iload_n 2, 1) := by decide +kernel
theorem dX10_room_14 : decode cX10_room 14 = .ok (.i2l, 1) := by decide +kernel
theorem dX10_room_15 : decode cX10_room 15 = .ok (.lconst 0, 1) := by decide +kernel
theorem dX10_room_16 : decode cX10_room 16 = .ok (.ldc2_w 120, 3) := by decide +kernel
theorem dX10_room_19 : decode cX10_room 19 = .ok (.invokestatic 71, 3) := by decide +kernel
theorem dX10_room_22 : decode cX10_room 22 = .ok (.ifCond .ne 10, 3) := by decide +kernel
theorem dX10_room_25 : decode cX10_room 25 = .ok (.aload_n 0, 1) := by decide +kernel
theorem dX10_room_26 : decode cX10_room 26 = .ok (.bipush (-2), 2) := by decide +kernel
theorem dX10_room_28 : decode cX10_room 28 = .ok (.invokevirtual 117, 3) := by decide +kernel
theorem dX10_room_31 : decode cX10_room 31 = .ok (.ireturn, 1) := by decide +kernel
theorem dX10_room_32 : decode cX10_room 32 = .ok (.aload_n 0, 1) := by decide +kernel
theorem dX10_room_33 : decode cX10_room 33 = .ok (.iload_n 1, 1) := by decide +kernel
theorem dX10_room_34 : decode cX10_room 34 = .ok (.iload_n 2, 1) := by decide +kernel
theorem dX10_room_35 : decode cX10_room 35 = .ok (.iload_n 3, 1) := by decide +kernel
theorem dX10_room_36 : decode cX10_room 36 = .ok (.iload 4, 2) := by decide +kernel
theorem dX10_room_38 : decode cX10_room 38 = .ok (.i2l, 1) := by decide +kernel
theorem dX10_room_39 : decode cX10_room 39 = .ok (.invokevirtual 122, 3) := by decide +kernel
theorem dX10_room_42 : decode cX10_room 42 = .ok (.istore 5, 2) := by decide +kernel
theorem dX10_room_44 : decode cX10_room 44 = .ok (.iload 5, 2) := by decide +kernel
theorem dX10_room_46 : decode cX10_room 46 = .ok (.ifCond .ge 6, 3) := by decide +kernel
theorem dX10_room_49 : decode cX10_room 49 = .ok (.iload 5, 2) := by decide +kernel
theorem dX10_room_51 : decode cX10_room 51 = .ok (.ireturn, 1) := by decide +kernel
theorem dX10_room_52 : decode cX10_room 52 = .ok (.aload_n 0, 1) := by decide +kernel
theorem dX10_room_53 : decode cX10_room 53 = .ok (.bipush 60, 2) := by decide +kernel
theorem dX10_room_55 : decode cX10_room 55 = .ok (.iload_n 1, 1) := by decide +kernel
theorem dX10_room_56 : decode cX10_room 56 = .ok (.imul, 1) := by decide +kernel
theorem dX10_room_57 : decode cX10_room 57 = .ok (.iload_n 3, 1) := by decide +kernel
theorem dX10_room_58 : decode cX10_room 58 = .ok (.iadd, 1) := by decide +kernel
theorem dX10_room_59 : decode cX10_room 59 = .ok (.iload 4, 2) := by decide +kernel
theorem dX10_room_61 : decode cX10_room 61 = .ok (.invokevirtual 126, 3) := by decide +kernel
theorem dX10_room_64 : decode cX10_room 64 = .ok (.ifCond .ne 15, 3) := by decide +kernel
theorem dX10_room_67 : decode cX10_room 67 = .ok (.aload_n 0, 1) := by decide +kernel
theorem dX10_room_68 : decode cX10_room 68 = .ok (.bipush (-100), 2) := by decide +kernel
theorem dX10_room_70 : decode cX10_room 70 = .ok (.aload_n 0, 1) := by decide +kernel
theorem dX10_room_71 : decode cX10_room 71 = .ok (.getfield 80, 3) := by decide +kernel
theorem dX10_room_74 : decode cX10_room 74 = .ok (.isub, 1) := by decide +kernel
theorem dX10_room_75 : decode cX10_room 75 = .ok (.invokevirtual 117, 3) := by decide +kernel
theorem dX10_room_78 : decode cX10_room 78 = .ok (.ireturn, 1) := by decide +kernel
theorem dX10_room_79 : decode cX10_room 79 = .ok (.aload_n 0, 1) := by decide +kernel
theorem dX10_room_80 : decode cX10_room 80 = .ok (.aload_n 0, 1) := by decide +kernel
theorem dX10_room_81 : decode cX10_room 81 = .ok (.getfield 83, 3) := by decide +kernel
theorem dX10_room_84 : decode cX10_room 84 = .ok (.putfield 68, 3) := by decide +kernel
theorem dX10_room_87 : decode cX10_room 87 = .ok (.aload_n 0, 1) := by decide +kernel
theorem dX10_room_88 : decode cX10_room 88 = .ok (.aload_n 0, 1) := by decide +kernel
theorem dX10_room_89 : decode cX10_room 89 = .ok (.getfield 92, 3) := by decide +kernel
theorem dX10_room_92 : decode cX10_room 92 = .ok (.putfield 75, 3) := by decide +kernel
theorem dX10_room_95 : decode cX10_room 95 = .ok (.aload_n 0, 1) := by decide +kernel
theorem dX10_room_96 : decode cX10_room 96 = .ok (.iconst 0, 1) := by decide +kernel
theorem dX10_room_97 : decode cX10_room 97 = .ok (.putfield 129, 3) := by decide +kernel
theorem dX10_room_100 : decode cX10_room 100 = .ok (.iconst 0, 1) := by decide +kernel
theorem dX10_room_101 : decode cX10_room 101 = .ok (.istore 6, 2) := by decide +kernel
theorem dX10_room_103 : decode cX10_room 103 = .ok (.iload 6, 2) := by decide +kernel
theorem dX10_room_105 : decode cX10_room 105 = .ok (.aload_n 0, 1) := by decide +kernel
theorem dX10_room_106 : decode cX10_room 106 = .ok (.getfield 68, 3) := by decide +kernel
theorem dX10_room_109 : decode cX10_room 109 = .ok (.if_icmp .ge 37, 3) := by decide +kernel
theorem dX10_room_112 : decode cX10_room 112 = .ok (.aload_n 0, 1) := by decide +kernel
theorem dX10_room_113 : decode cX10_room 113 = .ok (.getfield 7, 3) := by decide +kernel
theorem dX10_room_116 : decode cX10_room 116 = .ok (.iload 6, 2) := by decide +kernel
theorem dX10_room_118 : decode cX10_room 118 = .ok (.aload_n 0, 1) := by decide +kernel
theorem dX10_room_119 : decode cX10_room 119 = .ok (.getfield 19, 3) := by decide +kernel
theorem dX10_room_122 : decode cX10_room 122 = .ok (.iload 6, 2) := by decide +kernel
theorem dX10_room_124 : decode cX10_room 124 = .ok (.iaload, 1) := by decide +kernel
theorem dX10_room_125 : decode cX10_room 125 = .ok (.iastore, 1) := by decide +kernel
theorem dX10_room_126 : decode cX10_room 126 = .ok (.aload_n 0, 1) := by decide +kernel
theorem dX10_room_127 : decode cX10_room 127 = .ok (.getfield 13, 3) := by decide +kernel
theorem dX10_room_130 : decode cX10_room 130 = .ok (.iload 6, 2) := by decide +kernel
theorem dX10_room_132 : decode cX10_room 132 = .ok (.aload_n 0, 1) := by decide +kernel
theorem dX10_room_133 : decode cX10_room 133 = .ok (.getfield 22, 3) := by decide +kernel
theorem dX10_room_136 : decode cX10_room 136 = .ok (.iload 6, 2) := by decide +kernel
theorem dX10_room_138 : decode cX10_room 138 = .ok (.iaload, 1) := by decide +kernel
theorem dX10_room_139 : decode cX10_room 139 = .ok (.iastore, 1) := by decide +kernel
theorem dX10_room_140 : decode cX10_room 140 = .ok (.iinc 6 1, 3) := by decide +kernel
theorem dX10_room_143 : decode cX10_room 143 = .ok (.goto (-40), 3) := by decide +kernel
theorem dX10_room_146 : decode cX10_room 146 = .ok (.iconst 0, 1) := by decide +kernel
theorem dX10_room_147 : decode cX10_room 147 = .ok (.istore 6, 2) := by decide +kernel
theorem dX10_room_149 : decode cX10_room 149 = .ok (.iload 6, 2) := by decide +kernel
theorem dX10_room_151 : decode cX10_room 151 = .ok (.aload_n 0, 1) := by decide +kernel
theorem dX10_room_152 : decode cX10_room 152 = .ok (.getfield 75, 3) := by decide +kernel
theorem dX10_room_155 : decode cX10_room 155 = .ok (.if_icmp .ge 23, 3) := by decide +kernel
theorem dX10_room_158 : decode cX10_room 158 = .ok (.aload_n 0, 1) := by decide +kernel
theorem dX10_room_159 : decode cX10_room 159 = .ok (.getfield 16, 3) := by decide +kernel
theorem dX10_room_162 : decode cX10_room 162 = .ok (.iload 6, 2) := by decide +kernel
theorem dX10_room_164 : decode cX10_room 164 = .ok (.aload_n 0, 1) := by decide +kernel
theorem dX10_room_165 : decode cX10_room 165 = .ok (.getfield 25, 3) := by decide +kernel
theorem dX10_room_168 : decode cX10_room 168 = .ok (.iload 6, 2) := by decide +kernel
theorem dX10_room_170 : decode cX10_room 170 = .ok (.iaload, 1) := by decide +kernel
theorem dX10_room_171 : decode cX10_room 171 = .ok (.iastore, 1) := by decide +kernel
theorem dX10_room_172 : decode cX10_room 172 = .ok (.iinc 6 1, 3) := by decide +kernel
theorem dX10_room_175 : decode cX10_room 175 = .ok (.goto (-26), 3) := by decide +kernel
theorem dX10_room_178 : decode cX10_room 178 = .ok (.aload_n 0, 1) := by decide +kernel
theorem dX10_room_179 : decode cX10_room 179 = .ok (.iconst 0, 1) := by decide +kernel
theorem dX10_room_180 : decode cX10_room 180 = .ok (.putfield 132, 3) := by decide +kernel
theorem dX10_room_183 : decode cX10_room 183 = .ok (.aload_n 0, 1) := by decide +kernel
theorem dX10_room_184 : decode cX10_room 184 = .ok (.aload_n 0, 1) := by decide +kernel
theorem dX10_room_185 : decode cX10_room 185 = .ok (.getfield 68, 3) := by decide +kernel
theorem dX10_room_188 : decode cX10_room 188 = .ok (.invokevirtual 117, 3) := by decide +kernel
theorem dX10_room_191 : decode cX10_room 191 = .ok (.ireturn, 1) := by decide +kernel
theorem dX10_clears_0 : decode cX10_clears 0 = .ok (.aload_n 0, 1) := by decide +kernel
theorem dX10_clears_1 : decode cX10_clears 1 = .ok (.iload_n 1, 1) := by decide +kernel
theorem dX10_clears_2 : decode cX10_clears 2 = .ok (.putfield 135, 3) := by decide +kernel
theorem dX10_clears_5 : decode cX10_clears 5 = .ok (.aload_n 0, 1) := by decide +kernel
theorem dX10_clears_6 : decode cX10_clears 6 = .ok (.iload_n 2, 1) := by decide +kernel
theorem dX10_clears_7 : decode cX10_clears 7 = .ok (.putfield 138, 3) := by decide +kernel
theorem dX10_clears_10 : decode cX10_clears 10 = .ok (.aload_n 0, 1) := by decide +kernel
theorem dX10_clears_11 : decode cX10_clears 11 = .ok (.iconst 0, 1) := by decide +kernel
theorem dX10_clears_12 : decode cX10_clears 12 = .ok (.putfield 141, 3) := by decide +kernel
theorem dX10_clears_15 : decode cX10_clears 15 = .ok (.aload_n 0, 1) := by decide +kernel
theorem dX10_clears_16 : decode cX10_clears 16 = .ok (.iconst 0, 1) := by decide +kernel
theorem dX10_clears_17 : decode cX10_clears 17 = .ok (.putfield 144, 3) := by decide +kernel
theorem dX10_clears_20 : decode cX10_clears 20 = .ok (.aload_n 0, 1) := by decide +kernel
theorem dX10_clears_21 : decode cX10_clears 21 = .ok (.iconst 0, 1) := by decide +kernel
theorem dX10_clears_22 : decode cX10_clears 22 = .ok (.putfield 147, 3) := by decide +kernel
theorem dX10_clears_25 : decode cX10_clears 25 = .ok (.return_, 1) := by decide +kernel
theorem dX10_whereLies_0 : decode cX10_whereLies 0 = .ok (.bipush (-9), 2) := by decide +kernel
theorem dX10_whereLies_2 : decode cX10_whereLies 2 = .ok (.istore_n 2, 1) := by decide +kernel
theorem dX10_whereLies_3 : decode cX10_whereLies 3 = .ok (.iconst 0, 1) := by decide +kernel
theorem dX10_whereLies_4 : decode cX10_whereLies 4 = .ok (.istore_n 3, 1) := by decide +kernel
theorem dX10_whereLies_5 : decode cX10_whereLies 5 = .ok (.iload_n 3, 1) := by decide +kernel
theorem dX10_whereLies_6 : decode cX10_whereLies 6 = .ok (.aload_n 0, 1) := by decide +kernel
theorem dX10_whereLies_7 : decode cX10_whereLies 7 = .ok (.getfield 141, 3) := by decide +kernel
theorem dX10_whereLies_10 : decode cX10_whereLies 10 = .ok (.if_icmp .ge 25, 3) := by decide +kernel
theorem dX10_whereLies_13 : decode cX10_whereLies 13 = .ok (.aload_n 0, 1) := by decide +kernel
theorem dX10_whereLies_14 : decode cX10_whereLies 14 = .ok (.getfield 28, 3) := by decide +kernel
theorem dX10_whereLies_17 : decode cX10_whereLies 17 = .ok (.iload_n 3, 1) := by decide +kernel
theorem dX10_whereLies_18 : decode cX10_whereLies 18 = .ok (.iaload, 1) := by decide +kernel
theorem dX10_whereLies_19 : decode cX10_whereLies 19 = .ok (.iload_n 1, 1) := by decide +kernel
theorem dX10_whereLies_20 : decode cX10_whereLies 20 = .ok (.if_icmp .ne 7, 3) := by decide +kernel
theorem dX10_whereLies_23 : decode cX10_whereLies 23 = .ok (.iload_n 3, 1) := by decide +kernel
theorem dX10_whereLies_24 : decode cX10_whereLies 24 = .ok (.goto 4, 3) := by decide +kernel
theorem dX10_whereLies_27 : decode cX10_whereLies 27 = .ok (.iload_n 2, 1) := by decide +kernel
theorem dX10_whereLies_28 : decode cX10_whereLies 28 = .ok (.istore_n 2, 1) := by decide +kernel
theorem dX10_whereLies_29 : decode cX10_whereLies 29 = .ok (.iinc 3 1, 3) := by decide +kernel
theorem dX10_whereLies_32 : decode cX10_whereLies 32 = .ok (.goto (-27), 3) := by decide +kernel
theorem dX10_whereLies_35 : decode cX10_whereLies 35 = .ok (.iload_n 2, 1) := by decide +kernel
theorem dX10_whereLies_36 : decode cX10_whereLies 36 = .ok (.ireturn, 1) := by decide +kernel
theorem dX10_takesOut_0 : decode cX10_takesOut 0 = .ok (.aload_n 0, 1) := by decide +kernel
theorem dX10_takesOut_1 : decode cX10_takesOut 1 = .ok (.dup, 1) := by decide +kernel
theorem dX10_takesOut_2 : decode cX10_takesOut 2 = .ok (.getfield 141, 3) := by decide +kernel
theorem dX10_takesOut_5 : decode cX10_takesOut 5 = .ok (.iconst 1, 1) := by decide +kernel
theorem dX10_takesOut_6 : decode cX10_takesOut 6 = .ok (.isub, 1) := by decide +kernel
theorem dX10_takesOut_7 : decode cX10_takesOut 7 = .ok (.putfield 141, 3) := by decide +kernel
theorem dX10_takesOut_10 : decode cX10_takesOut 10 = .ok (.iload_n 1, 1) := by decide +kernel
theorem dX10_takesOut_11 : decode cX10_takesOut 11 = .ok (.istore_n 2, 1) := by decide +kernel
theorem dX10_takesOut_12 : decode cX10_takesOut 12 = .ok (.iload_n 2, 1) := by decide +kernel
theorem dX10_takesOut_13 : decode cX10_takesOut 13 = .ok (.aload_n 0, 1) := by decide +kernel
theorem dX10_takesOut_14 : decode cX10_takesOut 14 = .ok (.getfield 141, 3) := by decide +kernel
theorem dX10_takesOut_17 : decode cX10_takesOut 17 = .ok (.if_icmp .ge 23, 3) := by decide +kernel
theorem dX10_takesOut_20 : decode cX10_takesOut 20 = .ok (.aload_n 0, 1) := by decide +kernel
theorem dX10_takesOut_21 : decode cX10_takesOut 21 = .ok (.getfield 28, 3) := by decide +kernel
theorem dX10_takesOut_24 : decode cX10_takesOut 24 = .ok (.iload_n 2, 1) := by decide +kernel
theorem dX10_takesOut_25 : decode cX10_takesOut 25 = .ok (.aload_n 0, 1) := by decide +kernel
theorem dX10_takesOut_26 : decode cX10_takesOut 26 = .ok (.getfield 28, 3) := by decide +kernel
theorem dX10_takesOut_29 : decode cX10_takesOut 29 = .ok (.iload_n 2, 1) := by decide +kernel
theorem dX10_takesOut_30 : decode cX10_takesOut 30 = .ok (.iconst 1, 1) := by decide +kernel
theorem dX10_takesOut_31 : decode cX10_takesOut 31 = .ok (.iadd, 1) := by decide +kernel
theorem dX10_takesOut_32 : decode cX10_takesOut 32 = .ok (.iaload, 1) := by decide +kernel
theorem dX10_takesOut_33 : decode cX10_takesOut 33 = .ok (.iastore, 1) := by decide +kernel
theorem dX10_takesOut_34 : decode cX10_takesOut 34 = .ok (.iinc 2 1, 3) := by decide +kernel
theorem dX10_takesOut_37 : decode cX10_takesOut 37 = .ok (.goto (-25), 3) := by decide +kernel
theorem dX10_takesOut_40 : decode cX10_takesOut 40 = .ok (.return_, 1) := by decide +kernel
theorem dX10_putsBehind_0 : decode cX10_putsBehind 0 = .ok (.aload_n 0, 1) := by decide +kernel
theorem dX10_putsBehind_1 : decode cX10_putsBehind 1 = .ok (.getfield 28, 3) := by decide +kernel
theorem dX10_putsBehind_4 : decode cX10_putsBehind 4 = .ok (.aload_n 0, 1) := by decide +kernel
theorem dX10_putsBehind_5 : decode cX10_putsBehind 5 = .ok (.getfield 141, 3) := by decide +kernel
theorem dX10_putsBehind_8 : decode cX10_putsBehind 8 = .ok (.iload_n 1, 1) := by decide +kernel
theorem dX10_putsBehind_9 : decode cX10_putsBehind 9 = .ok (.iastore, 1) := by decide +kernel
theorem dX10_putsBehind_10 : decode cX10_putsBehind 10 = .ok (.aload_n 0, 1) := by decide +kernel
theorem dX10_putsBehind_11 : decode cX10_putsBehind 11 = .ok (.dup, 1) := by decide +kernel
theorem dX10_putsBehind_12 : decode cX10_putsBehind 12 = .ok (.getfield 141, 3) := by decide +kernel
theorem dX10_putsBehind_15 : decode cX10_putsBehind 15 = .ok (.iconst 1, 1) := by decide +kernel
theorem dX10_putsBehind_16 : decode cX10_putsBehind 16 = .ok (.iadd, 1) := by decide +kernel
theorem dX10_putsBehind_17 : decode cX10_putsBehind 17 = .ok (.putfield 141, 3) := by decide +kernel
theorem dX10_putsBehind_20 : decode cX10_putsBehind 20 = .ok (.return_, 1) := by decide +kernel
theorem dX10_makesRoom_0 : decode cX10_makesRoom 0 = .ok (.iconst 0, 1) := by decide +kernel
theorem dX10_makesRoom_1 : decode cX10_makesRoom 1 = .ok (.istore_n 1, 1) := by decide +kernel
theorem dX10_makesRoom_2 : decode cX10_makesRoom 2 = .ok (.iload_n 1, 1) := by decide +kernel
theorem dX10_makesRoom_3 : decode cX10_makesRoom 3 = .ok (.bipush 8, 2) := by decide +kernel
theorem dX10_makesRoom_5 : decode cX10_makesRoom 5 = .ok (.if_icmp .ge 64, 3) := by decide +kernel
theorem dX10_makesRoom_8 : decode cX10_makesRoom 8 = .ok (.aload_n 0, 1) := by decide +kernel
theorem dX10_makesRoom_9 : decode cX10_makesRoom 9 = .ok (.getfield 135, 3) := by decide +kernel
theorem dX10_makesRoom_12 : decode cX10_makesRoom 12 = .ok (.iconst 1, 1) := by decide +kernel
theorem dX10_makesRoom_13 : decode cX10_makesRoom 13 = .ok (.if_icmp .ne 56, 3) := by decide +kernel
theorem dX10_makesRoom_16 : decode cX10_makesRoom 16 = .ok (.aload_n 0, 1) := by decide +kernel
theorem dX10_makesRoom_17 : decode cX10_makesRoom 17 = .ok (.getfield 144, 3) := by decide +kernel
theorem dX10_makesRoom_20 : decode cX10_makesRoom 20 = .ok (.aload_n 0, 1) := by decide +kernel
theorem dX10_makesRoom_21 : decode cX10_makesRoom 21 = .ok (.getfield 28, 3) := by decide +kernel
theorem dX10_makesRoom_24 : decode cX10_makesRoom 24 = .ok (.iconst 0, 1) := by decide +kernel
theorem dX10_makesRoom_25 : decode cX10_makesRoom 25 = .ok (.iaload, 1) := by decide +kernel
theorem dX10_makesRoom_26 : decode cX10_makesRoom 26 = .ok (.invokestatic 150, 3) := by decide +kernel
theorem dX10_makesRoom_29 : decode cX10_makesRoom 29 = .ok (.ifCond .eq 40, 3) := by decide +kernel
theorem dX10_makesRoom_32 : decode cX10_makesRoom 32 = .ok (.aload_n 0, 1) := by decide +kernel
theorem dX10_makesRoom_33 : decode cX10_makesRoom 33 = .ok (.getfield 28, 3) := by decide +kernel
theorem dX10_makesRoom_36 : decode cX10_makesRoom 36 = .ok (.iconst 0, 1) := by decide +kernel
theorem dX10_makesRoom_37 : decode cX10_makesRoom 37 = .ok (.iaload, 1) := by decide +kernel
theorem dX10_makesRoom_38 : decode cX10_makesRoom 38 = .ok (.istore_n 2, 1) := by decide +kernel
theorem dX10_makesRoom_39 : decode cX10_makesRoom 39 = .ok (.aload_n 0, 1) := by decide +kernel
theorem dX10_makesRoom_40 : decode cX10_makesRoom 40 = .ok (.dup, 1) := by decide +kernel
theorem dX10_makesRoom_41 : decode cX10_makesRoom 41 = .ok (.getfield 144, 3) := by decide +kernel
theorem dX10_makesRoom_44 : decode cX10_makesRoom 44 = .ok (.iconst 1, 1) := by decide +kernel
theorem dX10_makesRoom_45 : decode cX10_makesRoom 45 = .ok (.iload_n 2, 1) := by decide +kernel
theorem dX10_makesRoom_46 : decode cX10_makesRoom 46 = .ok (.ishl, 1) := by decide +kernel
theorem dX10_makesRoom_47 : decode cX10_makesRoom 47 = .ok (.iconst (-1), 1) := by decide +kernel
theorem dX10_makesRoom_48 : decode cX10_makesRoom 48 = .ok (.ixor, 1) := by decide +kernel
theorem dX10_makesRoom_49 : decode cX10_makesRoom 49 = .ok (.iand, 1) := by decide +kernel
theorem dX10_makesRoom_50 : decode cX10_makesRoom 50 = .ok (.putfield 144, 3) := by decide +kernel
theorem dX10_makesRoom_53 : decode cX10_makesRoom 53 = .ok (.aload_n 0, 1) := by decide +kernel
theorem dX10_makesRoom_54 : decode cX10_makesRoom 54 = .ok (.iconst 0, 1) := by decide +kernel
theorem dX10_makesRoom_55 : decode cX10_makesRoom 55 = .ok (.invokevirtual 153, 3) := by decide +kernel
theorem dX10_makesRoom_58 : decode cX10_makesRoom 58 = .ok (.aload_n 0, 1) := by decide +kernel
theorem dX10_makesRoom_59 : decode cX10_makesRoom 59 = .ok (.iload_n 2, 1) := by decide +kernel
theorem dX10_makesRoom_60 : decode cX10_makesRoom 60 = .ok (.invokevirtual 157, 3) := by decide +kernel
theorem dX10_makesRoom_63 : decode cX10_makesRoom 63 = .ok (.iinc 1 1, 3) := by decide +kernel
theorem dX10_makesRoom_66 : decode cX10_makesRoom 66 = .ok (.goto (-64), 3) := by decide +kernel
theorem dX10_makesRoom_69 : decode cX10_makesRoom 69 = .ok (.aload_n 0, 1) := by decide +kernel
theorem dX10_makesRoom_70 : decode cX10_makesRoom 70 = .ok (.dup, 1) := by decide +kernel
theorem dX10_makesRoom_71 : decode cX10_makesRoom 71 = .ok (.getfield 144, 3) := by decide +kernel
theorem dX10_makesRoom_74 : decode cX10_makesRoom 74 = .ok (.iconst 1, 1) := by decide +kernel
theorem dX10_makesRoom_75 : decode cX10_makesRoom 75 = .ok (.aload_n 0, 1) := by decide +kernel
theorem dX10_makesRoom_76 : decode cX10_makesRoom 76 = .ok (.getfield 28, 3) := by decide +kernel
theorem dX10_makesRoom_79 : decode cX10_makesRoom 79 = .ok (.iconst 0, 1) := by decide +kernel
theorem dX10_makesRoom_80 : decode cX10_makesRoom 80 = .ok (.iaload, 1) := by decide +kernel
theorem dX10_makesRoom_81 : decode cX10_makesRoom 81 = .ok (.ishl, 1) := by decide +kernel
theorem dX10_makesRoom_82 : decode cX10_makesRoom 82 = .ok (.iconst (-1), 1) := by decide +kernel
theorem dX10_makesRoom_83 : decode cX10_makesRoom 83 = .ok (.ixor, 1) := by decide +kernel
theorem dX10_makesRoom_84 : decode cX10_makesRoom 84 = .ok (.iand, 1) := by decide +kernel
theorem dX10_makesRoom_85 : decode cX10_makesRoom 85 = .ok (.putfield 144, 3) := by decide +kernel
theorem dX10_makesRoom_88 : decode cX10_makesRoom 88 = .ok (.aload_n 0, 1) := by decide +kernel
theorem dX10_makesRoom_89 : decode cX10_makesRoom 89 = .ok (.iconst 0, 1) := by decide +kernel
theorem dX10_makesRoom_90 : decode cX10_makesRoom 90 = .ok (.invokevirtual 153, 3) := by decide +kernel
theorem dX10_makesRoom_93 : decode cX10_makesRoom 93 = .ok (.return_, 1) := by decide +kernel
theorem dX10_plays_0 : decode cX10_plays 0 = .ok (.aload_n 0, 1) := by decide +kernel
theorem dX10_plays_1 : decode cX10_plays 1 = .ok (.iload_n 1, 1) := by decide +kernel
theorem dX10_plays_2 : decode cX10_plays 2 = .ok (.invokevirtual 160, 3) := by decide +kernel
theorem dX10_plays_5 : decode cX10_plays 5 = .ok (.istore_n 2, 1) := by decide +kernel
theorem dX10_plays_6 : decode cX10_plays 6 = .ok (.iload_n 2, 1) := by decide +kernel
theorem dX10_plays_7 : decode cX10_plays 7 = .ok (.ifCond .lt 46, 3) := by decide +kernel
theorem dX10_plays_10 : decode cX10_plays 10 = .ok (.aload_n 0, 1) := by decide +kernel
theorem dX10_plays_11 : decode cX10_plays 11 = .ok (.dup, 1) := by decide +kernel
theorem dX10_plays_12 : decode cX10_plays 12 = .ok (.getfield 144, 3) := by decide +kernel
theorem dX10_plays_15 : decode cX10_plays 15 = .ok (.aload_n 0, 1) := by decide +kernel
theorem dX10_plays_16 : decode cX10_plays 16 = .ok (.getfield 135, 3) := by decide +kernel
theorem dX10_plays_19 : decode cX10_plays 19 = .ok (.ifCond .le 9, 3) := by decide +kernel
theorem dX10_plays_22 : decode cX10_plays 22 = .ok (.iconst 1, 1) := by decide +kernel
theorem dX10_plays_23 : decode cX10_plays 23 = .ok (.iload_n 1, 1) := by decide +kernel
theorem dX10_plays_24 : decode cX10_plays 24 = .ok (.ishl, 1) := by decide +kernel
theorem dX10_plays_25 : decode cX10_plays 25 = .ok (.goto 4, 3) := by decide +kernel
theorem dX10_plays_28 : decode cX10_plays 28 = .ok (.iconst 0, 1) := by decide +kernel
theorem dX10_plays_29 : decode cX10_plays 29 = .ok (.ior, 1) := by decide +kernel
theorem dX10_plays_30 : decode cX10_plays 30 = .ok (.putfield 144, 3) := by decide +kernel
theorem dX10_plays_33 : decode cX10_plays 33 = .ok (.aload_n 0, 1) := by decide +kernel
theorem dX10_plays_34 : decode cX10_plays 34 = .ok (.getfield 135, 3) := by decide +kernel
theorem dX10_plays_37 : decode cX10_plays 37 = .ok (.iconst 2, 1) := by decide +kernel
theorem dX10_plays_38 : decode cX10_plays 38 = .ok (.if_icmp .ne 13, 3) := by decide +kernel
theorem dX10_plays_41 : decode cX10_plays 41 = .ok (.aload_n 0, 1) := by decide +kernel
theorem dX10_plays_42 : decode cX10_plays 42 = .ok (.iload_n 2, 1) := by decide +kernel
theorem dX10_plays_43 : decode cX10_plays 43 = .ok (.invokevirtual 153, 3) := by decide +kernel
theorem dX10_plays_46 : decode cX10_plays 46 = .ok (.aload_n 0, 1) := by decide +kernel
theorem dX10_plays_47 : decode cX10_plays 47 = .ok (.iload_n 1, 1) := by decide +kernel
theorem dX10_plays_48 : decode cX10_plays 48 = .ok (.invokevirtual 157, 3) := by decide +kernel
theorem dX10_plays_51 : decode cX10_plays 51 = .ok (.iconst 0, 1) := by decide +kernel
theorem dX10_plays_52 : decode cX10_plays 52 = .ok (.ireturn, 1) := by decide +kernel
theorem dX10_plays_53 : decode cX10_plays 53 = .ok (.aload_n 0, 1) := by decide +kernel
theorem dX10_plays_54 : decode cX10_plays 54 = .ok (.getfield 141, 3) := by decide +kernel
theorem dX10_plays_57 : decode cX10_plays 57 = .ok (.aload_n 0, 1) := by decide +kernel
theorem dX10_plays_58 : decode cX10_plays 58 = .ok (.getfield 138, 3) := by decide +kernel
theorem dX10_plays_61 : decode cX10_plays 61 = .ok (.if_icmp .ne 7, 3) := by decide +kernel
theorem dX10_plays_64 : decode cX10_plays 64 = .ok (.aload_n 0, 1) := by decide +kernel
theorem dX10_plays_65 : decode cX10_plays 65 = .ok (.invokevirtual 163, 3) := by decide +kernel
theorem dX10_plays_68 : decode cX10_plays 68 = .ok (.aload_n 0, 1) := by decide +kernel
theorem dX10_plays_69 : decode cX10_plays 69 = .ok (.iload_n 1, 1) := by decide +kernel
theorem dX10_plays_70 : decode cX10_plays 70 = .ok (.invokevirtual 157, 3) := by decide +kernel
theorem dX10_plays_73 : decode cX10_plays 73 = .ok (.aload_n 0, 1) := by decide +kernel
theorem dX10_plays_74 : decode cX10_plays 74 = .ok (.dup, 1) := by decide +kernel
theorem dX10_plays_75 : decode cX10_plays 75 = .ok (.getfield 147, 3) := by decide +kernel
theorem dX10_plays_78 : decode cX10_plays 78 = .ok (.iconst 1, 1) := by decide +kernel
theorem dX10_plays_79 : decode cX10_plays 79 = .ok (.iadd, 1) := by decide +kernel
theorem dX10_plays_80 : decode cX10_plays 80 = .ok (.putfield 147, 3) := by decide +kernel
theorem dX10_plays_83 : decode cX10_plays 83 = .ok (.iconst 1, 1) := by decide +kernel
theorem dX10_plays_84 : decode cX10_plays 84 = .ok (.ireturn, 1) := by decide +kernel
theorem dX10_playsLine_0 : decode cX10_playsLine 0 = .ok (.aload_n 0, 1) := by decide +kernel
theorem dX10_playsLine_1 : decode cX10_playsLine 1 = .ok (.iload_n 1, 1) := by decide +kernel
theorem dX10_playsLine_2 : decode cX10_playsLine 2 = .ok (.iload_n 2, 1) := by decide +kernel
theorem dX10_playsLine_3 : decode cX10_playsLine 3 = .ok (.invokevirtual 166, 3) := by decide +kernel
theorem dX10_playsLine_6 : decode cX10_playsLine 6 = .ok (.iconst 0, 1) := by decide +kernel
theorem dX10_playsLine_7 : decode cX10_playsLine 7 = .ok (.istore 4, 2) := by decide +kernel
theorem dX10_playsLine_9 : decode cX10_playsLine 9 = .ok (.iload 4, 2) := by decide +kernel
theorem dX10_playsLine_11 : decode cX10_playsLine 11 = .ok (.iload_n 3, 1) := by decide +kernel
theorem dX10_playsLine_12 : decode cX10_playsLine 12 = .ok (.if_icmp .ge 21, 3) := by decide +kernel
theorem dX10_playsLine_15 : decode cX10_playsLine 15 = .ok (.aload_n 0, 1) := by decide +kernel
theorem dX10_playsLine_16 : decode cX10_playsLine 16 = .ok (.aload_n 0, 1) := by decide +kernel
theorem dX10_playsLine_17 : decode cX10_playsLine 17 = .ok (.getfield 16, 3) := by decide +kernel
theorem dX10_playsLine_20 : decode cX10_playsLine 20 = .ok (.iload 4, 2) := by decide +kernel
theorem dX10_playsLine_22 : decode cX10_playsLine 22 = .ok (.iaload, 1) := by decide +kernel
theorem dX10_playsLine_23 : decode cX10_playsLine 23 = .ok (.invokevirtual 170, 3) := by decide +kernel
theorem dX10_playsLine_26 : decode cX10_playsLine 26 = .ok (.pop, 1) := by decide +kernel
theorem dX10_playsLine_27 : decode cX10_playsLine 27 = .ok (.iinc 4 1, 3) := by decide +kernel
theorem dX10_playsLine_30 : decode cX10_playsLine 30 = .ok (.goto (-21), 3) := by decide +kernel
theorem dX10_playsLine_33 : decode cX10_playsLine 33 = .ok (.return_, 1) := by decide +kernel
theorem dX10_playsNow_0 : decode cX10_playsNow 0 = .ok (.aload_n 0, 1) := by decide +kernel
theorem dX10_playsNow_1 : decode cX10_playsNow 1 = .ok (.aload_n 0, 1) := by decide +kernel
theorem dX10_playsNow_2 : decode cX10_playsNow 2 = .ok (.getfield 7, 3) := by decide +kernel
theorem dX10_playsNow_5 : decode cX10_playsNow 5 = .ok (.iload_n 1, 1) := by decide +kernel
theorem dX10_playsNow_6 : decode cX10_playsNow 6 = .ok (.iaload, 1) := by decide +kernel
theorem dX10_playsNow_7 : decode cX10_playsNow 7 = .ok (.aload_n 0, 1) := by decide +kernel
theorem dX10_playsNow_8 : decode cX10_playsNow 8 = .ok (.getfield 13, 3) := by decide +kernel
theorem dX10_playsNow_11 : decode cX10_playsNow 11 = .ok (.iload_n 1, 1) := by decide +kernel
theorem dX10_playsNow_12 : decode cX10_playsNow 12 = .ok (.iaload, 1) := by decide +kernel
theorem dX10_playsNow_13 : decode cX10_playsNow 13 = .ok (.aload_n 0, 1) := by decide +kernel
theorem dX10_playsNow_14 : decode cX10_playsNow 14 = .ok (.getfield 129, 3) := by decide +kernel
theorem dX10_playsNow_17 : decode cX10_playsNow 17 = .ok (.invokevirtual 173, 3) := by decide +kernel
theorem dX10_playsNow_20 : decode cX10_playsNow 20 = .ok (.return_, 1) := by decide +kernel
theorem dX10_playSet_0 : decode cX10_playSet 0 = .ok (.iconst 0, 1) := by decide +kernel
theorem dX10_playSet_1 : decode cX10_playSet 1 = .ok (.istore_n 1, 1) := by decide +kernel
theorem dX10_playSet_2 : decode cX10_playSet 2 = .ok (.iconst 0, 1) := by decide +kernel
theorem dX10_playSet_3 : decode cX10_playSet 3 = .ok (.istore_n 2, 1) := by decide +kernel
theorem dX10_playSet_4 : decode cX10_playSet 4 = .ok (.iload_n 2, 1) := by decide +kernel
theorem dX10_playSet_5 : decode cX10_playSet 5 = .ok (.aload_n 0, 1) := by decide +kernel
theorem dX10_playSet_6 : decode cX10_playSet 6 = .ok (.getfield 141, 3) := by decide +kernel
theorem dX10_playSet_9 : decode cX10_playSet 9 = .ok (.if_icmp .ge 20, 3) := by decide +kernel
theorem dX10_playSet_12 : decode cX10_playSet 12 = .ok (.iload_n 1, 1) := by decide +kernel
theorem dX10_playSet_13 : decode cX10_playSet 13 = .ok (.iconst 1, 1) := by decide +kernel
theorem dX10_playSet_14 : decode cX10_playSet 14 = .ok (.aload_n 0, 1) := by decide +kernel
theorem dX10_playSet_15 : decode cX10_playSet 15 = .ok (.getfield 28, 3) := by decide +kernel
theorem dX10_playSet_18 : decode cX10_playSet 18 = .ok (.iload_n 2, 1) := by decide +kernel
theorem dX10_playSet_19 : decode cX10_playSet 19 = .ok (.iaload, 1) := by decide +kernel
theorem dX10_playSet_20 : decode cX10_playSet 20 = .ok (.ishl, 1) := by decide +kernel
theorem dX10_playSet_21 : decode cX10_playSet 21 = .ok (.ior, 1) := by decide +kernel
theorem dX10_playSet_22 : decode cX10_playSet 22 = .ok (.istore_n 1, 1) := by decide +kernel
theorem dX10_playSet_23 : decode cX10_playSet 23 = .ok (.iinc 2 1, 3) := by decide +kernel
theorem dX10_playSet_26 : decode cX10_playSet 26 = .ok (.goto (-22), 3) := by decide +kernel
theorem dX10_playSet_29 : decode cX10_playSet 29 = .ok (.iload_n 1, 1) := by decide +kernel
theorem dX10_playSet_30 : decode cX10_playSet 30 = .ok (.ireturn, 1) := by decide +kernel
theorem dX10_wouldGo_0 : decode cX10_wouldGo 0 = .ok (.aload_n 0, 1) := by decide +kernel
theorem dX10_wouldGo_1 : decode cX10_wouldGo 1 = .ok (.getfield 141, 3) := by decide +kernel
theorem dX10_wouldGo_4 : decode cX10_wouldGo 4 = .ok (.aload_n 0, 1) := by decide +kernel
theorem dX10_wouldGo_5 : decode cX10_wouldGo 5 = .ok (.getfield 138, 3) := by decide +kernel
theorem dX10_wouldGo_8 : decode cX10_wouldGo 8 = .ok (.if_icmp .ge 6, 3) := by decide +kernel
theorem dX10_wouldGo_11 : decode cX10_wouldGo 11 = .ok (.bipush (-9), 2) := by decide +kernel
theorem dX10_wouldGo_13 : decode cX10_wouldGo 13 = .ok (.ireturn, 1) := by decide +kernel
theorem dX10_wouldGo_14 : decode cX10_wouldGo 14 = .ok (.aload_n 0, 1) := by decide +kernel
theorem dX10_wouldGo_15 : decode cX10_wouldGo 15 = .ok (.getfield 28, 3) := by decide +kernel
theorem dX10_wouldGo_18 : decode cX10_wouldGo 18 = .ok (.iconst 0, 1) := by decide +kernel
theorem dX10_wouldGo_19 : decode cX10_wouldGo 19 = .ok (.iaload, 1) := by decide +kernel
theorem dX10_wouldGo_20 : decode cX10_wouldGo 20 = .ok (.istore_n 1, 1) := by decide +kernel
theorem dX10_wouldGo_21 : decode cX10_wouldGo 21 = .ok (.aload_n 0, 1) := by decide +kernel
theorem dX10_wouldGo_22 : decode cX10_wouldGo 22 = .ok (.getfield 141, 3) := by decide +kernel
theorem dX10_wouldGo_25 : decode cX10_wouldGo 25 = .ok (.iconst 1, 1) := by decide +kernel
theorem dX10_wouldGo_26 : decode cX10_wouldGo 26 = .ok (.isub, 1) := by decide +kernel
theorem dX10_wouldGo_27 : decode cX10_wouldGo 27 = .ok (.istore_n 2, 1) := by decide +kernel
theorem dX10_wouldGo_28 : decode cX10_wouldGo 28 = .ok (.iload_n 2, 1) := by decide +kernel
theorem dX10_wouldGo_29 : decode cX10_wouldGo 29 = .ok (.ifCond .lt 44, 3) := by decide +kernel
theorem dX10_wouldGo_32 : decode cX10_wouldGo 32 = .ok (.aload_n 0, 1) := by decide +kernel
theorem dX10_wouldGo_33 : decode cX10_wouldGo 33 = .ok (.getfield 135, 3) := by decide +kernel
theorem dX10_wouldGo_36 : decode cX10_wouldGo 36 = .ok (.iconst 1, 1) := by decide +kernel
theorem dX10_wouldGo_37 : decode cX10_wouldGo 37 = .ok (.if_icmp .ne 28, 3) := by decide +kernel
theorem dX10_wouldGo_40 : decode cX10_wouldGo 40 = .ok (.aload_n 0, 1) := by decide +kernel
theorem dX10_wouldGo_41 : decode cX10_wouldGo 41 = .ok (.getfield 144, 3) := by decide +kernel
theorem dX10_wouldGo_44 : decode cX10_wouldGo 44 = .ok (.aload_n 0, 1) := by decide +kernel
theorem dX10_wouldGo_45 : decode cX10_wouldGo 45 = .ok (.getfield 28, 3) := by decide +kernel
theorem dX10_wouldGo_48 : decode cX10_wouldGo 48 = .ok (.iload_n 2, 1) := by decide +kernel
theorem dX10_wouldGo_49 : decode cX10_wouldGo 49 = .ok (.iaload, 1) := by decide +kernel
theorem dX10_wouldGo_50 : decode cX10_wouldGo 50 = .ok (.invokestatic 150, 3) := by decide +kernel
theorem dX10_wouldGo_53 : decode cX10_wouldGo 53 = .ok (.ifCond .ne 12, 3) := by decide +kernel
theorem dX10_wouldGo_56 : decode cX10_wouldGo 56 = .ok (.aload_n 0, 1) := by decide +kernel
theorem dX10_wouldGo_57 : decode cX10_wouldGo 57 = .ok (.getfield 28, 3) := by decide +kernel
theorem dX10_wouldGo_60 : decode cX10_wouldGo 60 = .ok (.iload_n 2, 1) := by decide +kernel
theorem dX10_wouldGo_61 : decode cX10_wouldGo 61 = .ok (.iaload, 1) := by decide +kernel
theorem dX10_wouldGo_62 : decode cX10_wouldGo 62 = .ok (.goto 4, 3) := by decide +kernel
theorem dX10_wouldGo_65 : decode cX10_wouldGo 65 = .ok (.iload_n 1, 1) := by decide +kernel
theorem dX10_wouldGo_66 : decode cX10_wouldGo 66 = .ok (.istore_n 1, 1) := by decide +kernel
theorem dX10_wouldGo_67 : decode cX10_wouldGo 67 = .ok (.iinc 2 (-1), 3) := by decide +kernel
theorem dX10_wouldGo_70 : decode cX10_wouldGo 70 = .ok (.goto (-42), 3) := by decide +kernel
theorem dX10_wouldGo_73 : decode cX10_wouldGo 73 = .ok (.iload_n 1, 1) := by decide +kernel
theorem dX10_wouldGo_74 : decode cX10_wouldGo 74 = .ok (.ireturn, 1) := by decide +kernel
theorem dX10_ofDesk_0 : decode cX10_ofDesk 0 = .ok (.aload_n 0, 1) := by decide +kernel
theorem dX10_ofDesk_1 : decode cX10_ofDesk 1 = .ok (.iload_n 1, 1) := by decide +kernel
theorem dX10_ofDesk_2 : decode cX10_ofDesk 2 = .ok (.invokevirtual 177, 3) := by decide +kernel
theorem dX10_ofDesk_5 : decode cX10_ofDesk 5 = .ok (.ifCond .eq 5, 3) := by decide +kernel
theorem dX10_ofDesk_8 : decode cX10_ofDesk 8 = .ok (.iconst (-1), 1) := by decide +kernel
theorem dX10_ofDesk_9 : decode cX10_ofDesk 9 = .ok (.ireturn, 1) := by decide +kernel
theorem dX10_ofDesk_10 : decode cX10_ofDesk 10 = .ok (.aload_n 0, 1) := by decide +kernel
theorem dX10_ofDesk_11 : decode cX10_ofDesk 11 = .ok (.iload_n 1, 1) := by decide +kernel
theorem dX10_ofDesk_12 : decode cX10_ofDesk 12 = .ok (.invokevirtual 180, 3) := by decide +kernel
theorem dX10_ofDesk_15 : decode cX10_ofDesk 15 = .ok (.iload_n 2, 1) := by decide +kernel
theorem dX10_ofDesk_16 : decode cX10_ofDesk 16 = .ok (.tableswitch 74 0 5 #[40, 47, 54, 59, 64, 69], 40) := by decide +kernel
theorem dX10_ofDesk_56 : decode cX10_ofDesk 56 = .ok (.aload_n 0, 1) := by decide +kernel
theorem dX10_ofDesk_57 : decode cX10_ofDesk 57 = .ok (.getfield 7, 3) := by decide +kernel
theorem dX10_ofDesk_60 : decode cX10_ofDesk 60 = .ok (.iload_n 1, 1) := by decide +kernel
theorem dX10_ofDesk_61 : decode cX10_ofDesk 61 = .ok (.iaload, 1) := by decide +kernel
theorem dX10_ofDesk_62 : decode cX10_ofDesk 62 = .ok (.ireturn, 1) := by decide +kernel
theorem dX10_ofDesk_63 : decode cX10_ofDesk 63 = .ok (.aload_n 0, 1) := by decide +kernel
theorem dX10_ofDesk_64 : decode cX10_ofDesk 64 = .ok (.getfield 13, 3) := by decide +kernel
theorem dX10_ofDesk_67 : decode cX10_ofDesk 67 = .ok (.iload_n 1, 1) := by decide +kernel
theorem dX10_ofDesk_68 : decode cX10_ofDesk 68 = .ok (.iaload, 1) := by decide +kernel
theorem dX10_ofDesk_69 : decode cX10_ofDesk 69 = .ok (.ireturn, 1) := by decide +kernel
theorem dX10_ofDesk_70 : decode cX10_ofDesk 70 = .ok (.aload_n 0, 1) := by decide +kernel
theorem dX10_ofDesk_71 : decode cX10_ofDesk 71 = .ok (.invokevirtual 183, 3) := by decide +kernel
theorem dX10_ofDesk_74 : decode cX10_ofDesk 74 = .ok (.ireturn, 1) := by decide +kernel
theorem dX10_ofDesk_75 : decode cX10_ofDesk 75 = .ok (.aload_n 0, 1) := by decide +kernel
theorem dX10_ofDesk_76 : decode cX10_ofDesk 76 = .ok (.getfield 147, 3) := by decide +kernel
theorem dX10_ofDesk_79 : decode cX10_ofDesk 79 = .ok (.ireturn, 1) := by decide +kernel
theorem dX10_ofDesk_80 : decode cX10_ofDesk 80 = .ok (.aload_n 0, 1) := by decide +kernel
theorem dX10_ofDesk_81 : decode cX10_ofDesk 81 = .ok (.invokevirtual 187, 3) := by decide +kernel
theorem dX10_ofDesk_84 : decode cX10_ofDesk 84 = .ok (.ireturn, 1) := by decide +kernel
theorem dX10_ofDesk_85 : decode cX10_ofDesk 85 = .ok (.aload_n 0, 1) := by decide +kernel
theorem dX10_ofDesk_86 : decode cX10_ofDesk 86 = .ok (.getfield 144, 3) := by decide +kernel
theorem dX10_ofDesk_89 : decode cX10_ofDesk 89 = .ok (.ireturn, 1) := by decide +kernel
theorem dX10_ofDesk_90 : decode cX10_ofDesk 90 = .ok (.bipush (-2), 2) := by decide +kernel
theorem dX10_ofDesk_92 : decode cX10_ofDesk 92 = .ok (.ireturn, 1) := by decide +kernel
theorem dX10_lies_0 : decode cX10_lies 0 = .ok (.aload_n 0, 1) := by decide +kernel
theorem dX10_lies_1 : decode cX10_lies 1 = .ok (.iload_n 1, 1) := by decide +kernel
theorem dX10_lies_2 : decode cX10_lies 2 = .ok (.invokevirtual 177, 3) := by decide +kernel
theorem dX10_lies_5 : decode cX10_lies 5 = .ok (.ifCond .eq 5, 3) := by decide +kernel
theorem dX10_lies_8 : decode cX10_lies 8 = .ok (.iconst (-1), 1) := by decide +kernel
theorem dX10_lies_9 : decode cX10_lies 9 = .ok (.ireturn, 1) := by decide +kernel
theorem dX10_lies_10 : decode cX10_lies 10 = .ok (.iload_n 2, 1) := by decide +kernel
theorem dX10_lies_11 : decode cX10_lies 11 = .ok (.i2l, 1) := by decide +kernel
theorem dX10_lies_12 : decode cX10_lies 12 = .ok (.lconst 0, 1) := by decide +kernel
theorem dX10_lies_13 : decode cX10_lies 13 = .ok (.ldc2_w 190, 3) := by decide +kernel
theorem dX10_lies_16 : decode cX10_lies 16 = .ok (.invokestatic 71, 3) := by decide +kernel
theorem dX10_lies_19 : decode cX10_lies 19 = .ok (.ifCond .ne 6, 3) := by decide +kernel
theorem dX10_lies_22 : decode cX10_lies 22 = .ok (.bipush (-2), 2) := by decide +kernel
theorem dX10_lies_24 : decode cX10_lies 24 = .ok (.ireturn, 1) := by decide +kernel
theorem dX10_lies_25 : decode cX10_lies 25 = .ok (.aload_n 0, 1) := by decide +kernel
theorem dX10_lies_26 : decode cX10_lies 26 = .ok (.iload_n 1, 1) := by decide +kernel
theorem dX10_lies_27 : decode cX10_lies 27 = .ok (.invokevirtual 180, 3) := by decide +kernel
theorem dX10_lies_30 : decode cX10_lies 30 = .ok (.iload_n 2, 1) := by decide +kernel
theorem dX10_lies_31 : decode cX10_lies 31 = .ok (.aload_n 0, 1) := by decide +kernel
theorem dX10_lies_32 : decode cX10_lies 32 = .ok (.getfield 141, 3) := by decide +kernel
theorem dX10_lies_35 : decode cX10_lies 35 = .ok (.if_icmp .ge 12, 3) := by decide +kernel
theorem dX10_lies_38 : decode cX10_lies 38 = .ok (.aload_n 0, 1) := by decide +kernel
theorem dX10_lies_39 : decode cX10_lies 39 = .ok (.getfield 28, 3) := by decide +kernel
theorem dX10_lies_42 : decode cX10_lies 42 = .ok (.iload_n 2, 1) := by decide +kernel
theorem dX10_lies_43 : decode cX10_lies 43 = .ok (.iaload, 1) := by decide +kernel
theorem dX10_lies_44 : decode cX10_lies 44 = .ok (.goto 5, 3) := by decide +kernel
theorem dX10_lies_47 : decode cX10_lies 47 = .ok (.bipush (-9), 2) := by decide +kernel
theorem dX10_lies_49 : decode cX10_lies 49 = .ok (.ireturn, 1) := by decide +kernel
theorem dX10_line_0 : decode cX10_line 0 = .ok (.aload_n 0, 1) := by decide +kernel
theorem dX10_line_1 : decode cX10_line 1 = .ok (.iload_n 1, 1) := by decide +kernel
theorem dX10_line_2 : decode cX10_line 2 = .ok (.invokevirtual 192, 3) := by decide +kernel
theorem dX10_line_5 : decode cX10_line 5 = .ok (.ifCond .eq 7, 3) := by decide +kernel
theorem dX10_line_8 : decode cX10_line 8 = .ok (.iconst (-1), 1) := by decide +kernel
theorem dX10_line_9 : decode cX10_line 9 = .ok (.goto 9, 3) := by decide +kernel
theorem dX10_line_12 : decode cX10_line 12 = .ok (.aload_n 0, 1) := by decide +kernel
theorem dX10_line_13 : decode cX10_line 13 = .ok (.getfield 16, 3) := by decide +kernel
theorem dX10_line_16 : decode cX10_line 16 = .ok (.iload_n 1, 1) := by decide +kernel
theorem dX10_line_17 : decode cX10_line 17 = .ok (.iaload, 1) := by decide +kernel
theorem dX10_line_18 : decode cX10_line 18 = .ok (.ireturn, 1) := by decide +kernel
theorem dX10_build_0 : decode cX10_build 0 = .ok (.aload_n 0, 1) := by decide +kernel
theorem dX10_build_1 : decode cX10_build 1 = .ok (.iload_n 1, 1) := by decide +kernel
theorem dX10_build_2 : decode cX10_build 2 = .ok (.invokevirtual 177, 3) := by decide +kernel
theorem dX10_build_5 : decode cX10_build 5 = .ok (.ifCond .eq 5, 3) := by decide +kernel
theorem dX10_build_8 : decode cX10_build 8 = .ok (.iconst (-1), 1) := by decide +kernel
theorem dX10_build_9 : decode cX10_build 9 = .ok (.ireturn, 1) := by decide +kernel
theorem dX10_build_10 : decode cX10_build 10 = .ok (.iload_n 2, 1) := by decide +kernel
theorem dX10_build_11 : decode cX10_build 11 = .ok (.i2l, 1) := by decide +kernel
theorem dX10_build_12 : decode cX10_build 12 = .ok (.lconst 1, 1) := by decide +kernel
theorem dX10_build_13 : decode cX10_build 13 = .ok (.ldc2_w 90, 3) := by decide +kernel
theorem dX10_build_16 : decode cX10_build 16 = .ok (.invokestatic 71, 3) := by decide +kernel
theorem dX10_build_19 : decode cX10_build 19 = .ok (.ifCond .ne 6, 3) := by decide +kernel
theorem dX10_build_22 : decode cX10_build 22 = .ok (.bipush (-2), 2) := by decide +kernel
theorem dX10_build_24 : decode cX10_build 24 = .ok (.ireturn, 1) := by decide +kernel
theorem dX10_build_25 : decode cX10_build 25 = .ok (.aload_n 0, 1) := by decide +kernel
theorem dX10_build_26 : decode cX10_build 26 = .ok (.getfield 13, 3) := by decide +kernel
theorem dX10_build_29 : decode cX10_build 29 = .ok (.iload_n 1, 1) := by decide +kernel
theorem dX10_build_30 : decode cX10_build 30 = .ok (.iaload, 1) := by decide +kernel
theorem dX10_build_31 : decode cX10_build 31 = .ok (.istore_n 3, 1) := by decide +kernel
theorem dX10_build_32 : decode cX10_build 32 = .ok (.aload_n 0, 1) := by decide +kernel
theorem dX10_build_33 : decode cX10_build 33 = .ok (.getfield 13, 3) := by decide +kernel
theorem dX10_build_36 : decode cX10_build 36 = .ok (.iload_n 1, 1) := by decide +kernel
theorem dX10_build_37 : decode cX10_build 37 = .ok (.iload_n 2, 1) := by decide +kernel
theorem dX10_build_38 : decode cX10_build 38 = .ok (.iastore, 1) := by decide +kernel
theorem dX10_build_39 : decode cX10_build 39 = .ok (.iload_n 3, 1) := by decide +kernel
theorem dX10_build_40 : decode cX10_build 40 = .ok (.ireturn, 1) := by decide +kernel
theorem dX10_missesSoFar_0 : decode cX10_missesSoFar 0 = .ok (.iconst 0, 1) := by decide +kernel
theorem dX10_missesSoFar_1 : decode cX10_missesSoFar 1 = .ok (.istore_n 1, 1) := by decide +kernel
theorem dX10_missesSoFar_2 : decode cX10_missesSoFar 2 = .ok (.iconst 0, 1) := by decide +kernel
theorem dX10_missesSoFar_3 : decode cX10_missesSoFar 3 = .ok (.istore_n 2, 1) := by decide +kernel
theorem dX10_missesSoFar_4 : decode cX10_missesSoFar 4 = .ok (.iload_n 2, 1) := by decide +kernel
theorem dX10_missesSoFar_5 : decode cX10_missesSoFar 5 = .ok (.aload_n 0, 1) := by decide +kernel
theorem dX10_missesSoFar_6 : decode cX10_missesSoFar 6 = .ok (.getfield 68, 3) := by decide +kernel
theorem dX10_missesSoFar_9 : decode cX10_missesSoFar 9 = .ok (.if_icmp .ge 21, 3) := by decide +kernel
theorem dX10_missesSoFar_12 : decode cX10_missesSoFar 12 = .ok (.aload_n 0, 1) := by decide +kernel
theorem dX10_missesSoFar_13 : decode cX10_missesSoFar 13 = .ok (.iload_n 2, 1) := by decide +kernel
theorem dX10_missesSoFar_14 : decode cX10_missesSoFar 14 = .ok (.invokevirtual 180, 3) := by decide +kernel
theorem dX10_missesSoFar_17 : decode cX10_missesSoFar 17 = .ok (.iload_n 1, 1) := by decide +kernel
theorem dX10_missesSoFar_18 : decode cX10_missesSoFar 18 = .ok (.aload_n 0, 1) := by decide +kernel
theorem dX10_missesSoFar_19 : decode cX10_missesSoFar 19 = .ok (.getfield 147, 3) := by decide +kernel
theorem dX10_missesSoFar_22 : decode cX10_missesSoFar 22 = .ok (.iadd, 1) := by decide +kernel
theorem dX10_missesSoFar_23 : decode cX10_missesSoFar 23 = .ok (.istore_n 1, 1) := by decide +kernel
theorem dX10_missesSoFar_24 : decode cX10_missesSoFar 24 = .ok (.iinc 2 1, 3) := by decide +kernel
theorem dX10_missesSoFar_27 : decode cX10_missesSoFar 27 = .ok (.goto (-23), 3) := by decide +kernel
theorem dX10_missesSoFar_30 : decode cX10_missesSoFar 30 = .ok (.iload_n 1, 1) := by decide +kernel
theorem dX10_missesSoFar_31 : decode cX10_missesSoFar 31 = .ok (.ireturn, 1) := by decide +kernel
theorem dX10_come_0 : decode cX10_come 0 = .ok (.iload_n 1, 1) := by decide +kernel
theorem dX10_come_1 : decode cX10_come 1 = .ok (.i2l, 1) := by decide +kernel
theorem dX10_come_2 : decode cX10_come 2 = .ok (.lconst 1, 1) := by decide +kernel
theorem dX10_come_3 : decode cX10_come 3 = .ok (.ldc2_w 195, 3) := by decide +kernel
theorem dX10_come_6 : decode cX10_come 6 = .ok (.invokestatic 71, 3) := by decide +kernel
theorem dX10_come_9 : decode cX10_come 9 = .ok (.ifCond .ne 6, 3) := by decide +kernel
theorem dX10_come_12 : decode cX10_come 12 = .ok (.bipush (-2), 2) := by decide +kernel
theorem dX10_come_14 : decode cX10_come 14 = .ok (.ireturn, 1) := by decide +kernel
theorem dX10_come_15 : decode cX10_come 15 = .ok (.aload_n 0, 1) := by decide +kernel
theorem dX10_come_16 : decode cX10_come 16 = .ok (.getfield 68, 3) := by decide +kernel
theorem dX10_come_19 : decode cX10_come 19 = .ok (.ifCond .eq 16, 3) := by decide +kernel
theorem dX10_come_22 : decode cX10_come 22 = .ok (.aload_n 0, 1) := by decide +kernel
theorem dX10_come_23 : decode cX10_come 23 = .ok (.getfield 129, 3) := by decide +kernel
theorem dX10_come_26 : decode cX10_come 26 = .ok (.iload_n 1, 1) := by decide +kernel
theorem dX10_come_27 : decode cX10_come 27 = .ok (.iadd, 1) := by decide +kernel
theorem dX10_come_28 : decode cX10_come 28 = .ok (.aload_n 0, 1) := by decide +kernel
theorem dX10_come_29 : decode cX10_come 29 = .ok (.getfield 75, 3) := by decide +kernel
theorem dX10_come_32 : decode cX10_come 32 = .ok (.if_icmp .le 6, 3) := by decide +kernel
theorem dX10_come_35 : decode cX10_come 35 = .ok (.bipush (-3), 2) := by decide +kernel
theorem dX10_come_37 : decode cX10_come 37 = .ok (.ireturn, 1) := by decide +kernel
theorem dX10_come_38 : decode cX10_come 38 = .ok (.aload_n 0, 1) := by decide +kernel
theorem dX10_come_39 : decode cX10_come 39 = .ok (.invokevirtual 197, 3) := by decide +kernel
theorem dX10_come_42 : decode cX10_come 42 = .ok (.istore_n 2, 1) := by decide +kernel
theorem dX10_come_43 : decode cX10_come 43 = .ok (.aload_n 0, 1) := by decide +kernel
theorem dX10_come_44 : decode cX10_come 44 = .ok (.dup, 1) := by decide +kernel
theorem dX10_come_45 : decode cX10_come 45 = .ok (.getfield 129, 3) := by decide +kernel
theorem dX10_come_48 : decode cX10_come 48 = .ok (.iload_n 1, 1) := by decide +kernel
theorem dX10_come_49 : decode cX10_come 49 = .ok (.iadd, 1) := by decide +kernel
theorem dX10_come_50 : decode cX10_come 50 = .ok (.putfield 129, 3) := by decide +kernel
theorem dX10_come_53 : decode cX10_come 53 = .ok (.aload_n 0, 1) := by decide +kernel
theorem dX10_come_54 : decode cX10_come 54 = .ok (.invokevirtual 197, 3) := by decide +kernel
theorem dX10_come_57 : decode cX10_come 57 = .ok (.iload_n 2, 1) := by decide +kernel
theorem dX10_come_58 : decode cX10_come 58 = .ok (.isub, 1) := by decide +kernel
theorem dX10_come_59 : decode cX10_come 59 = .ok (.ireturn, 1) := by decide +kernel
theorem dX10_anew_0 : decode cX10_anew 0 = .ok (.aload_n 0, 1) := by decide +kernel
theorem dX10_anew_1 : decode cX10_anew 1 = .ok (.getfield 68, 3) := by decide +kernel
theorem dX10_anew_4 : decode cX10_anew 4 = .ok (.ifCond .ne 6, 3) := by decide +kernel
theorem dX10_anew_7 : decode cX10_anew 7 = .ok (.bipush (-3), 2) := by decide +kernel
theorem dX10_anew_9 : decode cX10_anew 9 = .ok (.ireturn, 1) := by decide +kernel
theorem dX10_anew_10 : decode cX10_anew 10 = .ok (.aload_n 0, 1) := by decide +kernel
theorem dX10_anew_11 : decode cX10_anew 11 = .ok (.getfield 129, 3) := by decide +kernel
theorem dX10_anew_14 : decode cX10_anew 14 = .ok (.istore_n 1, 1) := by decide +kernel
theorem dX10_anew_15 : decode cX10_anew 15 = .ok (.aload_n 0, 1) := by decide +kernel
theorem dX10_anew_16 : decode cX10_anew 16 = .ok (.iconst 0, 1) := by decide +kernel
theorem dX10_anew_17 : decode cX10_anew 17 = .ok (.putfield 129, 3) := by decide +kernel
theorem dX10_anew_20 : decode cX10_anew 20 = .ok (.iload_n 1, 1) := by decide +kernel
theorem dX10_anew_21 : decode cX10_anew 21 = .ok (.ireturn, 1) := by decide +kernel
theorem dX10_ask_0 : decode cX10_ask 0 = .ok (.aload_n 0, 1) := by decide +kernel
theorem dX10_ask_1 : decode cX10_ask 1 = .ok (.getfield 68, 3) := by decide +kernel
theorem dX10_ask_4 : decode cX10_ask 4 = .ok (.ifCond .ne 6, 3) := by decide +kernel
theorem dX10_ask_7 : decode cX10_ask 7 = .ok (.bipush (-3), 2) := by decide +kernel
theorem dX10_ask_9 : decode cX10_ask 9 = .ok (.ireturn, 1) := by decide +kernel
theorem dX10_ask_10 : decode cX10_ask 10 = .ok (.iload_n 1, 1) := by decide +kernel
theorem dX10_ask_11 : decode cX10_ask 11 = .ok (.invokestatic 95, 3) := by decide +kernel
theorem dX10_ask_14 : decode cX10_ask 14 = .ok (.ifCond .ne 6, 3) := by decide +kernel
theorem dX10_ask_17 : decode cX10_ask 17 = .ok (.bipush (-2), 2) := by decide +kernel
theorem dX10_ask_19 : decode cX10_ask 19 = .ok (.ireturn, 1) := by decide +kernel
theorem dX10_ask_20 : decode cX10_ask 20 = .ok (.aload_n 0, 1) := by decide +kernel
theorem dX10_ask_21 : decode cX10_ask 21 = .ok (.getfield 75, 3) := by decide +kernel
theorem dX10_ask_24 : decode cX10_ask 24 = .ok (.bipush 24, 2) := by decide +kernel
theorem dX10_ask_26 : decode cX10_ask 26 = .ok (.if_icmp .ne 6, 3) := by decide +kernel
theorem dX10_ask_29 : decode cX10_ask 29 = .ok (.bipush (-4), 2) := by decide +kernel
theorem dX10_ask_31 : decode cX10_ask 31 = .ok (.ireturn, 1) := by decide +kernel
theorem dX10_ask_32 : decode cX10_ask 32 = .ok (.aload_n 0, 1) := by decide +kernel
theorem dX10_ask_33 : decode cX10_ask 33 = .ok (.getfield 16, 3) := by decide +kernel
theorem dX10_ask_36 : decode cX10_ask 36 = .ok (.aload_n 0, 1) := by decide +kernel
theorem dX10_ask_37 : decode cX10_ask 37 = .ok (.getfield 75, 3) := by decide +kernel
theorem dX10_ask_40 : decode cX10_ask 40 = .ok (.iload_n 1, 1) := by decide +kernel
theorem dX10_ask_41 : decode cX10_ask 41 = .ok (.iastore, 1) := by decide +kernel
theorem dX10_ask_42 : decode cX10_ask 42 = .ok (.aload_n 0, 1) := by decide +kernel
theorem dX10_ask_43 : decode cX10_ask 43 = .ok (.dup, 1) := by decide +kernel
theorem dX10_ask_44 : decode cX10_ask 44 = .ok (.getfield 75, 3) := by decide +kernel
theorem dX10_ask_47 : decode cX10_ask 47 = .ok (.iconst 1, 1) := by decide +kernel
theorem dX10_ask_48 : decode cX10_ask 48 = .ok (.iadd, 1) := by decide +kernel
theorem dX10_ask_49 : decode cX10_ask 49 = .ok (.putfield 75, 3) := by decide +kernel
theorem dX10_ask_52 : decode cX10_ask 52 = .ok (.aload_n 0, 1) := by decide +kernel
theorem dX10_ask_53 : decode cX10_ask 53 = .ok (.getfield 75, 3) := by decide +kernel
theorem dX10_ask_56 : decode cX10_ask 56 = .ok (.ireturn, 1) := by decide +kernel
theorem dX10_drop_0 : decode cX10_drop 0 = .ok (.aload_n 0, 1) := by decide +kernel
theorem dX10_drop_1 : decode cX10_drop 1 = .ok (.getfield 68, 3) := by decide +kernel
theorem dX10_drop_4 : decode cX10_drop 4 = .ok (.ifCond .eq 22, 3) := by decide +kernel
theorem dX10_drop_7 : decode cX10_drop 7 = .ok (.aload_n 0, 1) := by decide +kernel
theorem dX10_drop_8 : decode cX10_drop 8 = .ok (.getfield 129, 3) := by decide +kernel
theorem dX10_drop_11 : decode cX10_drop 11 = .ok (.aload_n 0, 1) := by decide +kernel
theorem dX10_drop_12 : decode cX10_drop 12 = .ok (.getfield 75, 3) := by decide +kernel
theorem dX10_drop_15 : decode cX10_drop 15 = .ok (.if_icmp .eq 11, 3) := by decide +kernel
theorem dX10_drop_18 : decode cX10_drop 18 = .ok (.aload_n 0, 1) := by decide +kernel
theorem dX10_drop_19 : decode cX10_drop 19 = .ok (.getfield 75, 3) := by decide +kernel
theorem dX10_drop_22 : decode cX10_drop 22 = .ok (.iconst 1, 1) := by decide +kernel
theorem dX10_drop_23 : decode cX10_drop 23 = .ok (.if_icmp .ne 6, 3) := by decide +kernel
theorem dX10_drop_26 : decode cX10_drop 26 = .ok (.bipush (-3), 2) := by decide +kernel
theorem dX10_drop_28 : decode cX10_drop 28 = .ok (.ireturn, 1) := by decide +kernel
theorem dX10_drop_29 : decode cX10_drop 29 = .ok (.aload_n 0, 1) := by decide +kernel
theorem dX10_drop_30 : decode cX10_drop 30 = .ok (.dup, 1) := by decide +kernel
theorem dX10_drop_31 : decode cX10_drop 31 = .ok (.getfield 75, 3) := by decide +kernel
theorem dX10_drop_34 : decode cX10_drop 34 = .ok (.iconst 1, 1) := by decide +kernel
theorem dX10_drop_35 : decode cX10_drop 35 = .ok (.isub, 1) := by decide +kernel
theorem dX10_drop_36 : decode cX10_drop 36 = .ok (.putfield 75, 3) := by decide +kernel
theorem dX10_drop_39 : decode cX10_drop 39 = .ok (.aload_n 0, 1) := by decide +kernel
theorem dX10_drop_40 : decode cX10_drop 40 = .ok (.iconst 0, 1) := by decide +kernel
theorem dX10_drop_41 : decode cX10_drop 41 = .ok (.putfield 132, 3) := by decide +kernel
theorem dX10_drop_44 : decode cX10_drop 44 = .ok (.aload_n 0, 1) := by decide +kernel
theorem dX10_drop_45 : decode cX10_drop 45 = .ok (.getfield 16, 3) := by decide +kernel
theorem dX10_drop_48 : decode cX10_drop 48 = .ok (.aload_n 0, 1) := by decide +kernel
theorem dX10_drop_49 : decode cX10_drop 49 = .ok (.getfield 75, 3) := by decide +kernel
theorem dX10_drop_52 : decode cX10_drop 52 = .ok (.iaload, 1) := by decide +kernel
theorem dX10_drop_53 : decode cX10_drop 53 = .ok (.ireturn, 1) := by decide +kernel
theorem dX10_tale_0 : decode cX10_tale 0 = .ok (.iload_n 1, 1) := by decide +kernel
theorem dX10_tale_1 : decode cX10_tale 1 = .ok (.invokestatic 114, 3) := by decide +kernel
theorem dX10_tale_4 : decode cX10_tale 4 = .ok (.ifCond .ne 12, 3) := by decide +kernel
theorem dX10_tale_7 : decode cX10_tale 7 = .ok (.aload_n 0, 1) := by decide +kernel
theorem dX10_tale_8 : decode cX10_tale 8 = .ok (.iload 5, 2) := by decide +kernel
theorem dX10_tale_10 : decode cX10_tale 10 = .ok (.invokevirtual 177, 3) := by decide +kernel
theorem dX10_tale_13 : decode cX10_tale 13 = .ok (.ifCond .eq 9, 3) := by decide +kernel
theorem dX10_tale_16 : decode cX10_tale 16 = .ok (.aload_n 0, 1) := by decide +kernel
theorem dX10_tale_17 : decode cX10_tale 17 = .ok (.iconst (-1), 1) := by decide +kernel
theorem dX10_tale_18 : decode cX10_tale 18 = .ok (.invokevirtual 117, 3) := by decide +kernel
theorem dX10_tale_21 : decode cX10_tale 21 = .ok (.ireturn, 1) := by decide +kernel
theorem dX10_tale_22 : decode cX10_tale 22 = .ok (.iload_n 2, 1) := by decide +kernel
theorem dX10_tale_23 : decode cX10_tale 23 = .ok (.i2l, 1) := by decide +kernel
theorem dX10_tale_24 : decode cX10_tale 24 = .ok (.lconst 0, 1) := by decide +kernel
theorem dX10_tale_25 : decode cX10_tale 25 = .ok (.ldc2_w 120, 3) := by decide +kernel
theorem dX10_tale_28 : decode cX10_tale 28 = .ok (.invokestatic 71, 3) := by decide +kernel
theorem dX10_tale_31 : decode cX10_tale 31 = .ok (.ifCond .eq 29, 3) := by decide +kernel
theorem dX10_tale_34 : decode cX10_tale 34 = .ok (.iload 4, 2) := by decide +kernel
theorem dX10_tale_36 : decode cX10_tale 36 = .ok (.i2l, 1) := by decide +kernel
theorem dX10_tale_37 : decode cX10_tale 37 = .ok (.lconst 0, 1) := by decide +kernel
theorem dX10_tale_38 : decode cX10_tale 38 = .ok (.ldc2_w 200, 3) := by decide +kernel
theorem dX10_tale_41 : decode cX10_tale 41 = .ok (.invokestatic 71, 3) := by decide +kernel
theorem dX10_tale_44 : decode cX10_tale 44 = .ok (.ifCond .eq 16, 3) := by decide +kernel
theorem dX10_tale_47 : decode cX10_tale 47 = .ok (.iload 6, 2) := by decide +kernel
theorem dX10_tale_49 : decode cX10_tale 49 = .ok (.i2l, 1) := by decide +kernel
theorem dX10_tale_50 : decode cX10_tale 50 = .ok (.lconst 0, 1) := by decide +kernel
theorem dX10_tale_51 : decode cX10_tale 51 = .ok (.ldc2_w 190, 3) := by decide +kernel
theorem dX10_tale_54 : decode cX10_tale 54 = .ok (.invokestatic 71, 3) := by decide +kernel
theorem dX10_tale_57 : decode cX10_tale 57 = .ok (.ifCond .ne 10, 3) := by decide +kernel
theorem dX10_tale_60 : decode cX10_tale 60 = .ok (.aload_n 0, 1) := by decide +kernel
theorem dX10_tale_61 : decode cX10_tale 61 = .ok (.bipush (-2), 2) := by decide +kernel
theorem dX10_tale_63 : decode cX10_tale 63 = .ok (.invokevirtual 117, 3) := by decide +kernel
theorem dX10_tale_66 : decode cX10_tale 66 = .ok (.ireturn, 1) := by decide +kernel
theorem dX10_tale_67 : decode cX10_tale 67 = .ok (.aload_n 0, 1) := by decide +kernel
theorem dX10_tale_68 : decode cX10_tale 68 = .ok (.iload_n 1, 1) := by decide +kernel
theorem dX10_tale_69 : decode cX10_tale 69 = .ok (.iload_n 2, 1) := by decide +kernel
theorem dX10_tale_70 : decode cX10_tale 70 = .ok (.iload_n 3, 1) := by decide +kernel
theorem dX10_tale_71 : decode cX10_tale 71 = .ok (.iload 4, 2) := by decide +kernel
theorem dX10_tale_73 : decode cX10_tale 73 = .ok (.i2l, 1) := by decide +kernel
theorem dX10_tale_74 : decode cX10_tale 74 = .ok (.invokevirtual 122, 3) := by decide +kernel
theorem dX10_tale_77 : decode cX10_tale 77 = .ok (.istore 7, 2) := by decide +kernel
theorem dX10_tale_79 : decode cX10_tale 79 = .ok (.iload 7, 2) := by decide +kernel
theorem dX10_tale_81 : decode cX10_tale 81 = .ok (.ifCond .ge 6, 3) := by decide +kernel
theorem dX10_tale_84 : decode cX10_tale 84 = .ok (.iload 7, 2) := by decide +kernel
theorem dX10_tale_86 : decode cX10_tale 86 = .ok (.ireturn, 1) := by decide +kernel
theorem dX10_tale_87 : decode cX10_tale 87 = .ok (.bipush 60, 2) := by decide +kernel
theorem dX10_tale_89 : decode cX10_tale 89 = .ok (.iload_n 1, 1) := by decide +kernel
theorem dX10_tale_90 : decode cX10_tale 90 = .ok (.imul, 1) := by decide +kernel
theorem dX10_tale_91 : decode cX10_tale 91 = .ok (.iload_n 3, 1) := by decide +kernel
theorem dX10_tale_92 : decode cX10_tale 92 = .ok (.iadd, 1) := by decide +kernel
theorem dX10_tale_93 : decode cX10_tale 93 = .ok (.istore 8, 2) := by decide +kernel
theorem dX10_tale_95 : decode cX10_tale 95 = .ok (.iconst 0, 1) := by decide +kernel
theorem dX10_tale_96 : decode cX10_tale 96 = .ok (.istore 9, 2) := by decide +kernel
theorem dX10_tale_98 : decode cX10_tale 98 = .ok (.iload 9, 2) := by decide +kernel
theorem dX10_tale_100 : decode cX10_tale 100 = .ok (.iload 4, 2) := by decide +kernel
theorem dX10_tale_102 : decode cX10_tale 102 = .ok (.if_icmp .ge 32, 3) := by decide +kernel
theorem dX10_tale_105 : decode cX10_tale 105 = .ok (.aload_n 0, 1) := by decide +kernel
theorem dX10_tale_106 : decode cX10_tale 106 = .ok (.getfield 52, 3) := by decide +kernel
theorem dX10_tale_109 : decode cX10_tale 109 = .ok (.iload 8, 2) := by decide +kernel
theorem dX10_tale_111 : decode cX10_tale 111 = .ok (.iload 9, 2) := by decide +kernel
theorem dX10_tale_113 : decode cX10_tale 113 = .ok (.iadd, 1) := by decide +kernel
theorem dX10_tale_114 : decode cX10_tale 114 = .ok (.iaload, 1) := by decide +kernel
theorem dX10_tale_115 : decode cX10_tale 115 = .ok (.invokestatic 95, 3) := by decide +kernel
theorem dX10_tale_118 : decode cX10_tale 118 = .ok (.ifCond .ne 10, 3) := by decide +kernel
theorem dX10_tale_121 : decode cX10_tale 121 = .ok (.aload_n 0, 1) := by decide +kernel
theorem dX10_tale_122 : decode cX10_tale 122 = .ok (.bipush (-2), 2) := by decide +kernel
theorem dX10_tale_124 : decode cX10_tale 124 = .ok (.invokevirtual 117, 3) := by decide +kernel
theorem dX10_tale_127 : decode cX10_tale 127 = .ok (.ireturn, 1) := by decide +kernel
theorem dX10_tale_128 : decode cX10_tale 128 = .ok (.iinc 9 1, 3) := by decide +kernel
theorem dX10_tale_131 : decode cX10_tale 131 = .ok (.goto (-33), 3) := by decide +kernel
theorem dX10_tale_134 : decode cX10_tale 134 = .ok (.aload_n 0, 1) := by decide +kernel
theorem dX10_tale_135 : decode cX10_tale 135 = .ok (.iload 5, 2) := by decide +kernel
theorem dX10_tale_137 : decode cX10_tale 137 = .ok (.invokevirtual 180, 3) := by decide +kernel
theorem dX10_tale_140 : decode cX10_tale 140 = .ok (.aload_n 0, 1) := by decide +kernel
theorem dX10_tale_141 : decode cX10_tale 141 = .ok (.getfield 147, 3) := by decide +kernel
theorem dX10_tale_144 : decode cX10_tale 144 = .ok (.istore 9, 2) := by decide +kernel
theorem dX10_tale_146 : decode cX10_tale 146 = .ok (.bipush (-9), 2) := by decide +kernel
theorem dX10_tale_148 : decode cX10_tale 148 = .ok (.istore 10, 2) := by decide +kernel
theorem dX10_tale_150 : decode cX10_tale 150 = .ok (.iconst 0, 1) := by decide +kernel
theorem dX10_tale_151 : decode cX10_tale 151 = .ok (.istore 11, 2) := by decide +kernel
theorem dX10_tale_153 : decode cX10_tale 153 = .ok (.iload 11, 2) := by decide +kernel
theorem dX10_tale_155 : decode cX10_tale 155 = .ok (.iload 4, 2) := by decide +kernel
theorem dX10_tale_157 : decode cX10_tale 157 = .ok (.if_icmp .ge 44, 3) := by decide +kernel
theorem dX10_tale_160 : decode cX10_tale 160 = .ok (.aload_n 0, 1) := by decide +kernel
theorem dX10_tale_161 : decode cX10_tale 161 = .ok (.aload_n 0, 1) := by decide +kernel
theorem dX10_tale_162 : decode cX10_tale 162 = .ok (.getfield 52, 3) := by decide +kernel
theorem dX10_tale_165 : decode cX10_tale 165 = .ok (.iload 8, 2) := by decide +kernel
theorem dX10_tale_167 : decode cX10_tale 167 = .ok (.iload 11, 2) := by decide +kernel
theorem dX10_tale_169 : decode cX10_tale 169 = .ok (.iadd, 1) := by decide +kernel
theorem dX10_tale_170 : decode cX10_tale 170 = .ok (.iaload, 1) := by decide +kernel
theorem dX10_tale_171 : decode cX10_tale 171 = .ok (.invokevirtual 170, 3) := by decide +kernel
theorem dX10_tale_174 : decode cX10_tale 174 = .ok (.istore 12, 2) := by decide +kernel
theorem dX10_tale_176 : decode cX10_tale 176 = .ok (.iload 12, 2) := by decide +kernel
theorem dX10_tale_178 : decode cX10_tale 178 = .ok (.ifCond .eq 13, 3) := by decide +kernel
theorem dX10_tale_181 : decode cX10_tale 181 = .ok (.iload 10, 2) := by decide +kernel
theorem dX10_tale_183 : decode cX10_tale 183 = .ok (.ifCond .ge 8, 3) := by decide +kernel
theorem dX10_tale_186 : decode cX10_tale 186 = .ok (.iload 11, 2) := by decide +kernel
theorem dX10_tale_188 : decode cX10_tale 188 = .ok (.goto 5, 3) := by decide +kernel
theorem dX10_tale_191 : decode cX10_tale 191 = .ok (.iload 10, 2) := by decide +kernel
theorem dX10_tale_193 : decode cX10_tale 193 = .ok (.istore 10, 2) := by decide +kernel
theorem dX10_tale_195 : decode cX10_tale 195 = .ok (.iinc 11 1, 3) := by decide +kernel
theorem dX10_tale_198 : decode cX10_tale 198 = .ok (.goto (-45), 3) := by decide +kernel
theorem dX10_tale_201 : decode cX10_tale 201 = .ok (.aload_n 0, 1) := by decide +kernel
theorem dX10_tale_202 : decode cX10_tale 202 = .ok (.iload 6, 2) := by decide +kernel
theorem dX10_tale_204 : decode cX10_tale 204 = .ok (.ifCond .ne 13, 3) := by decide +kernel
theorem dX10_tale_207 : decode cX10_tale 207 = .ok (.aload_n 0, 1) := by decide +kernel
theorem dX10_tale_208 : decode cX10_tale 208 = .ok (.getfield 147, 3) := by decide +kernel
theorem dX10_tale_211 : decode cX10_tale 211 = .ok (.iload 9, 2) := by decide +kernel
theorem dX10_tale_213 : decode cX10_tale 213 = .ok (.isub, 1) := by decide +kernel
theorem dX10_tale_214 : decode cX10_tale 214 = .ok (.goto 44, 3) := by decide +kernel
theorem dX10_tale_217 : decode cX10_tale 217 = .ok (.iload 6, 2) := by decide +kernel
theorem dX10_tale_219 : decode cX10_tale 219 = .ok (.iconst 1, 1) := by decide +kernel
theorem dX10_tale_220 : decode cX10_tale 220 = .ok (.if_icmp .ne 10, 3) := by decide +kernel
theorem dX10_tale_223 : decode cX10_tale 223 = .ok (.aload_n 0, 1) := by decide +kernel
theorem dX10_tale_224 : decode cX10_tale 224 = .ok (.invokevirtual 183, 3) := by decide +kernel
theorem dX10_tale_227 : decode cX10_tale 227 = .ok (.goto 31, 3) := by decide +kernel
theorem dX10_tale_230 : decode cX10_tale 230 = .ok (.iload 6, 2) := by decide +kernel
theorem dX10_tale_232 : decode cX10_tale 232 = .ok (.iconst 2, 1) := by decide +kernel
theorem dX10_tale_233 : decode cX10_tale 233 = .ok (.if_icmp .ne 10, 3) := by decide +kernel
theorem dX10_tale_236 : decode cX10_tale 236 = .ok (.aload_n 0, 1) := by decide +kernel
theorem dX10_tale_237 : decode cX10_tale 237 = .ok (.invokevirtual 187, 3) := by decide +kernel
theorem dX10_tale_240 : decode cX10_tale 240 = .ok (.goto 18, 3) := by decide +kernel
theorem dX10_tale_243 : decode cX10_tale 243 = .ok (.iload 6, 2) := by decide +kernel
theorem dX10_tale_245 : decode cX10_tale 245 = .ok (.iconst 3, 1) := by decide +kernel
theorem dX10_tale_246 : decode cX10_tale 246 = .ok (.if_icmp .ne 10, 3) := by decide +kernel
theorem dX10_tale_249 : decode cX10_tale 249 = .ok (.aload_n 0, 1) := by decide +kernel
theorem dX10_tale_250 : decode cX10_tale 250 = .ok (.getfield 144, 3) := by decide +kernel
theorem dX10_tale_253 : decode cX10_tale 253 = .ok (.goto 5, 3) := by decide +kernel
theorem dX10_tale_256 : decode cX10_tale 256 = .ok (.iload 10, 2) := by decide +kernel
theorem dX10_tale_258 : decode cX10_tale 258 = .ok (.invokevirtual 117, 3) := by decide +kernel
theorem dX10_tale_261 : decode cX10_tale 261 = .ok (.ireturn, 1) := by decide +kernel
theorem dX10_missesBy_0 : decode cX10_missesBy 0 = .ok (.aload_n 0, 1) := by decide +kernel
theorem dX10_missesBy_1 : decode cX10_missesBy 1 = .ok (.aload_n 0, 1) := by decide +kernel
theorem dX10_missesBy_2 : decode cX10_missesBy 2 = .ok (.getfield 7, 3) := by decide +kernel
theorem dX10_missesBy_5 : decode cX10_missesBy 5 = .ok (.iload_n 1, 1) := by decide +kernel
theorem dX10_missesBy_6 : decode cX10_missesBy 6 = .ok (.iaload, 1) := by decide +kernel
theorem dX10_missesBy_7 : decode cX10_missesBy 7 = .ok (.iload_n 2, 1) := by decide +kernel
theorem dX10_missesBy_8 : decode cX10_missesBy 8 = .ok (.aload_n 0, 1) := by decide +kernel
theorem dX10_missesBy_9 : decode cX10_missesBy 9 = .ok (.getfield 75, 3) := by decide +kernel
theorem dX10_missesBy_12 : decode cX10_missesBy 12 = .ok (.invokevirtual 173, 3) := by decide +kernel
theorem dX10_missesBy_15 : decode cX10_missesBy 15 = .ok (.aload_n 0, 1) := by decide +kernel
theorem dX10_missesBy_16 : decode cX10_missesBy 16 = .ok (.getfield 147, 3) := by decide +kernel
theorem dX10_missesBy_19 : decode cX10_missesBy 19 = .ok (.ireturn, 1) := by decide +kernel
theorem dX10_misses_0 : decode cX10_misses 0 = .ok (.aload_n 0, 1) := by decide +kernel
theorem dX10_misses_1 : decode cX10_misses 1 = .ok (.iload_n 1, 1) := by decide +kernel
theorem dX10_misses_2 : decode cX10_misses 2 = .ok (.invokevirtual 177, 3) := by decide +kernel
theorem dX10_misses_5 : decode cX10_misses 5 = .ok (.ifCond .eq 5, 3) := by decide +kernel
theorem dX10_misses_8 : decode cX10_misses 8 = .ok (.iconst (-1), 1) := by decide +kernel
