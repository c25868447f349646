theorem dX0_init_0 : decode cX0_init 0 = .ok (.aload_n 0, 1) := by decide +kernel
theorem dX0_init_1 : decode cX0_init 1 = .ok (.invokespecial 3, 3) := by decide +kernel
theorem dX0_init_4 : decode cX0_init 4 = .ok (.return_, 1) := by decide +kernel
theorem dX0_kind_0 : decode cX0_kind 0 = .ok (.iconst 1, 1) := by decide +kernel
theorem dX0_kind_1 : decode cX0_kind 1 = .ok (.ireturn, 1) := by decide +kernel
theorem dX0_use_0 : decode cX0_use 0 = .ok (.aload_n 0, 1) := by decide +kernel
theorem dX0_use_1 : decode cX0_use 1 = .ok (.dup, 1) := by decide +kernel
theorem dX0_use_2 : decode cX0_use 2 = .ok (.getfield 9, 3) := by decide +kernel
theorem dX0_use_5 : decode cX0_use 5 = .ok (.iconst 1, 1) := by decide +kernel
theorem dX0_use_6 : decode cX0_use 6 = .ok (.aload_n 0, 1) := by decide +kernel
theorem dX0_use_7 : decode cX0_use 7 = .ok (.getfield 15, 3) := by decide +kernel
theorem dX0_use_10 : decode cX0_use 10 = .ok (.iload_n 1, 1) := by decide +kernel
theorem dX0_use_11 : decode cX0_use 11 = .ok (.iaload, 1) := by decide +kernel
theorem dX0_use_12 : decode cX0_use 12 = .ok (.ishl, 1) := by decide +kernel
theorem dX0_use_13 : decode cX0_use 13 = .ok (.ior, 1) := by decide +kernel
theorem dX0_use_14 : decode cX0_use 14 = .ok (.putfield 9, 3) := by decide +kernel
theorem dX0_use_17 : decode cX0_use 17 = .ok (.return_, 1) := by decide +kernel
theorem dX0_spareUsed_0 : decode cX0_spareUsed 0 = .ok (.iconst 0, 1) := by decide +kernel
theorem dX0_spareUsed_1 : decode cX0_spareUsed 1 = .ok (.istore_n 1, 1) := by decide +kernel
theorem dX0_spareUsed_2 : decode cX0_spareUsed 2 = .ok (.iload_n 1, 1) := by decide +kernel
theorem dX0_spareUsed_3 : decode cX0_spareUsed 3 = .ok (.aload_n 0, 1) := by decide +kernel
theorem dX0_spareUsed_4 : decode cX0_spareUsed 4 = .ok (.getfield 19, 3) := by decide +kernel
theorem dX0_spareUsed_7 : decode cX0_spareUsed 7 = .ok (.if_icmp .ge 41, 3) := by decide +kernel
theorem dX0_spareUsed_10 : decode cX0_spareUsed 10 = .ok (.aload_n 0, 1) := by decide +kernel
theorem dX0_spareUsed_11 : decode cX0_spareUsed 11 = .ok (.iconst 0, 1) := by decide +kernel
theorem dX0_spareUsed_12 : decode cX0_spareUsed 12 = .ok (.invokevirtual 22, 3) := by decide +kernel
theorem dX0_spareUsed_15 : decode cX0_spareUsed 15 = .ok (.ifCond .eq 33, 3) := by decide +kernel
theorem dX0_spareUsed_18 : decode cX0_spareUsed 18 = .ok (.aload_n 0, 1) := by decide +kernel
theorem dX0_spareUsed_19 : decode cX0_spareUsed 19 = .ok (.dup, 1) := by decide +kernel
theorem dX0_spareUsed_20 : decode cX0_spareUsed 20 = .ok (.getfield 9, 3) := by decide +kernel
theorem dX0_spareUsed_23 : decode cX0_spareUsed 23 = .ok (.iconst 1, 1) := by decide +kernel
theorem dX0_spareUsed_24 : decode cX0_spareUsed 24 = .ok (.aload_n 0, 1) := by decide +kernel
theorem dX0_spareUsed_25 : decode cX0_spareUsed 25 = .ok (.getfield 15, 3) := by decide +kernel
theorem dX0_spareUsed_28 : decode cX0_spareUsed 28 = .ok (.iconst 0, 1) := by decide +kernel
theorem dX0_spareUsed_29 : decode cX0_spareUsed 29 = .ok (.iaload, 1) := by decide +kernel
theorem dX0_spareUsed_30 : decode cX0_spareUsed 30 = .ok (.ishl, 1) := by decide +kernel
theorem dX0_spareUsed_31 : decode cX0_spareUsed 31 = .ok (.iconst (-1), 1) := by decide +kernel
theorem dX0_spareUsed_32 : decode cX0_spareUsed 32 = .ok (.ixor, 1) := by decide +kernel
theorem dX0_spareUsed_33 : decode cX0_spareUsed 33 = .ok (.iand, 1) := by decide +kernel
theorem dX0_spareUsed_34 : decode cX0_spareUsed 34 = .ok (.putfield 9, 3) := by decide +kernel
theorem dX0_spareUsed_37 : decode cX0_spareUsed 37 = .ok (.aload_n 0, 1) := by decide +kernel
theorem dX0_spareUsed_38 : decode cX0_spareUsed 38 = .ok (.iconst 0, 1) := by decide +kernel
theorem dX0_spareUsed_39 : decode cX0_spareUsed 39 = .ok (.invokevirtual 26, 3) := by decide +kernel
theorem dX0_spareUsed_42 : decode cX0_spareUsed 42 = .ok (.iinc 1 1, 3) := by decide +kernel
theorem dX0_spareUsed_45 : decode cX0_spareUsed 45 = .ok (.goto (-43), 3) := by decide +kernel
theorem dX0_spareUsed_48 : decode cX0_spareUsed 48 = .ok (.return_, 1) := by decide +kernel
theorem dX0_placeToGo_0 : decode cX0_placeToGo 0 = .ok (.iconst 0, 1) := by decide +kernel
theorem dX0_placeToGo_1 : decode cX0_placeToGo 1 = .ok (.istore_n 1, 1) := by decide +kernel
theorem dX0_placeToGo_2 : decode cX0_placeToGo 2 = .ok (.iload_n 1, 1) := by decide +kernel
theorem dX0_placeToGo_3 : decode cX0_placeToGo 3 = .ok (.aload_n 0, 1) := by decide +kernel
theorem dX0_placeToGo_4 : decode cX0_placeToGo 4 = .ok (.getfield 19, 3) := by decide +kernel
theorem dX0_placeToGo_7 : decode cX0_placeToGo 7 = .ok (.if_icmp .ge 19, 3) := by decide +kernel
theorem dX0_placeToGo_10 : decode cX0_placeToGo 10 = .ok (.aload_n 0, 1) := by decide +kernel
theorem dX0_placeToGo_11 : decode cX0_placeToGo 11 = .ok (.iload_n 1, 1) := by decide +kernel
theorem dX0_placeToGo_12 : decode cX0_placeToGo 12 = .ok (.invokevirtual 22, 3) := by decide +kernel
theorem dX0_placeToGo_15 : decode cX0_placeToGo 15 = .ok (.ifCond .ne 5, 3) := by decide +kernel
theorem dX0_placeToGo_18 : decode cX0_placeToGo 18 = .ok (.iload_n 1, 1) := by decide +kernel
theorem dX0_placeToGo_19 : decode cX0_placeToGo 19 = .ok (.ireturn, 1) := by decide +kernel
theorem dX0_placeToGo_20 : decode cX0_placeToGo 20 = .ok (.iinc 1 1, 3) := by decide +kernel
theorem dX0_placeToGo_23 : decode cX0_placeToGo 23 = .ok (.goto (-21), 3) := by decide +kernel
theorem dX0_placeToGo_26 : decode cX0_placeToGo 26 = .ok (.iconst 0, 1) := by decide +kernel
theorem dX0_placeToGo_27 : decode cX0_placeToGo 27 = .ok (.ireturn, 1) := by decide +kernel
theorem dX0_telling_0 : decode cX0_telling 0 = .ok (.aload_n 1, 1) := by decide +kernel
theorem dX0_telling_1 : decode cX0_telling 1 = .ok (.iconst 2, 1) := by decide +kernel
theorem dX0_telling_2 : decode cX0_telling 2 = .ok (.invokevirtual 30, 3) := by decide +kernel
theorem dX0_telling_5 : decode cX0_telling 5 = .ok (.aload_n 0, 1) := by decide +kernel
theorem dX0_telling_6 : decode cX0_telling 6 = .ok (.aload_n 1, 1) := by decide +kernel
theorem dX0_telling_7 : decode cX0_telling 7 = .ok (.invokevirtual 35, 3) := by decide +kernel
theorem dX0_telling_10 : decode cX0_telling 10 = .ok (.bipush 100, 2) := by decide +kernel
theorem dX0_telling_12 : decode cX0_telling 12 = .ok (.iadd, 1) := by decide +kernel
theorem dX0_telling_13 : decode cX0_telling 13 = .ok (.ireturn, 1) := by decide +kernel
theorem dX1_init_0 : decode cX1_init 0 = .ok (.aload_n 0, 1) := by decide +kernel
theorem dX1_init_1 : decode cX1_init 1 = .ok (.invokespecial 3, 3) := by decide +kernel
theorem dX1_init_4 : decode cX1_init 4 = .ok (.aload_n 0, 1) := by decide +kernel
theorem dX1_init_5 : decode cX1_init 5 = .ok (.bipush 24, 2) := by decide +kernel
theorem dX1_init_7 : decode cX1_init 7 = .ok (.newarray .int, 2) := by decide +kernel
theorem dX1_init_9 : decode cX1_init 9 = .ok (.putfield 9, 3) := by decide +kernel
theorem dX1_init_12 : decode cX1_init 12 = .ok (.return_, 1) := by decide +kernel
theorem dX1_follow_0 : decode cX1_follow 0 = .ok (.iconst 0, 1) := by decide +kernel
theorem dX1_follow_1 : decode cX1_follow 1 = .ok (.istore_n 3, 1) := by decide +kernel
theorem dX1_follow_2 : decode cX1_follow 2 = .ok (.aload_n 0, 1) := by decide +kernel
theorem dX1_follow_3 : decode cX1_follow 3 = .ok (.iconst 0, 1) := by decide +kernel
theorem dX1_follow_4 : decode cX1_follow 4 = .ok (.putfield 15, 3) := by decide +kernel
theorem dX1_follow_7 : decode cX1_follow 7 = .ok (.iconst 0, 1) := by decide +kernel
theorem dX1_follow_8 : decode cX1_follow 8 = .ok (.istore 4, 2) := by decide +kernel
theorem dX1_follow_10 : decode cX1_follow 10 = .ok (.iload 4, 2) := by decide +kernel
theorem dX1_follow_12 : decode cX1_follow 12 = .ok (.aload_n 1, 1) := by decide +kernel
theorem dX1_follow_13 : decode cX1_follow 13 = .ok (.getfield 19, 3) := by decide +kernel
theorem dX1_follow_16 : decode cX1_follow 16 = .ok (.if_icmp .ge 87, 3) := by decide +kernel
theorem dX1_follow_19 : decode cX1_follow 19 = .ok (.iconst 1, 1) := by decide +kernel
theorem dX1_follow_20 : decode cX1_follow 20 = .ok (.aload_n 1, 1) := by decide +kernel
theorem dX1_follow_21 : decode cX1_follow 21 = .ok (.getfield 24, 3) := by decide +kernel
theorem dX1_follow_24 : decode cX1_follow 24 = .ok (.iload 4, 2) := by decide +kernel
theorem dX1_follow_26 : decode cX1_follow 26 = .ok (.iaload, 1) := by decide +kernel
theorem dX1_follow_27 : decode cX1_follow 27 = .ok (.ishl, 1) := by decide +kernel
theorem dX1_follow_28 : decode cX1_follow 28 = .ok (.istore 5, 2) := by decide +kernel
theorem dX1_follow_30 : decode cX1_follow 30 = .ok (.aload_n 0, 1) := by decide +kernel
theorem dX1_follow_31 : decode cX1_follow 31 = .ok (.getfield 9, 3) := by decide +kernel
theorem dX1_follow_34 : decode cX1_follow 34 = .ok (.iload 4, 2) := by decide +kernel
theorem dX1_follow_36 : decode cX1_follow 36 = .ok (.bipush (-9), 2) := by decide +kernel
theorem dX1_follow_38 : decode cX1_follow 38 = .ok (.iastore, 1) := by decide +kernel
theorem dX1_follow_39 : decode cX1_follow 39 = .ok (.iload_n 3, 1) := by decide +kernel
theorem dX1_follow_40 : decode cX1_follow 40 = .ok (.iload 5, 2) := by decide +kernel
theorem dX1_follow_42 : decode cX1_follow 42 = .ok (.iand, 1) := by decide +kernel
theorem dX1_follow_43 : decode cX1_follow 43 = .ok (.ifCond .ne 54, 3) := by decide +kernel
theorem dX1_follow_46 : decode cX1_follow 46 = .ok (.aload_n 0, 1) := by decide +kernel
theorem dX1_follow_47 : decode cX1_follow 47 = .ok (.dup, 1) := by decide +kernel
theorem dX1_follow_48 : decode cX1_follow 48 = .ok (.getfield 15, 3) := by decide +kernel
theorem dX1_follow_51 : decode cX1_follow 51 = .ok (.iconst 1, 1) := by decide +kernel
theorem dX1_follow_52 : decode cX1_follow 52 = .ok (.iadd, 1) := by decide +kernel
theorem dX1_follow_53 : decode cX1_follow 53 = .ok (.putfield 15, 3) := by decide +kernel
theorem dX1_follow_56 : decode cX1_follow 56 = .ok (.iload_n 3, 1) := by decide +kernel
theorem dX1_follow_57 : decode cX1_follow 57 = .ok (.invokestatic 27, 3) := by decide +kernel
theorem dX1_follow_60 : decode cX1_follow 60 = .ok (.iload_n 2, 1) := by decide +kernel
theorem dX1_follow_61 : decode cX1_follow 61 = .ok (.if_icmp .ne 31, 3) := by decide +kernel
theorem dX1_follow_64 : decode cX1_follow 64 = .ok (.aload_n 0, 1) := by decide +kernel
theorem dX1_follow_65 : decode cX1_follow 65 = .ok (.getfield 9, 3) := by decide +kernel
theorem dX1_follow_68 : decode cX1_follow 68 = .ok (.iload 4, 2) := by decide +kernel
theorem dX1_follow_70 : decode cX1_follow 70 = .ok (.aload_n 1, 1) := by decide +kernel
theorem dX1_follow_71 : decode cX1_follow 71 = .ok (.iload_n 3, 1) := by decide +kernel
theorem dX1_follow_72 : decode cX1_follow 72 = .ok (.iload 4, 2) := by decide +kernel
theorem dX1_follow_74 : decode cX1_follow 74 = .ok (.invokestatic 33, 3) := by decide +kernel
theorem dX1_follow_77 : decode cX1_follow 77 = .ok (.iastore, 1) := by decide +kernel
theorem dX1_follow_78 : decode cX1_follow 78 = .ok (.iload_n 3, 1) := by decide +kernel
theorem dX1_follow_79 : decode cX1_follow 79 = .ok (.iconst 1, 1) := by decide +kernel
theorem dX1_follow_80 : decode cX1_follow 80 = .ok (.aload_n 0, 1) := by decide +kernel
theorem dX1_follow_81 : decode cX1_follow 81 = .ok (.getfield 9, 3) := by decide +kernel
theorem dX1_follow_84 : decode cX1_follow 84 = .ok (.iload 4, 2) := by decide +kernel
theorem dX1_follow_86 : decode cX1_follow 86 = .ok (.iaload, 1) := by decide +kernel
theorem dX1_follow_87 : decode cX1_follow 87 = .ok (.ishl, 1) := by decide +kernel
theorem dX1_follow_88 : decode cX1_follow 88 = .ok (.iconst (-1), 1) := by decide +kernel
theorem dX1_follow_89 : decode cX1_follow 89 = .ok (.ixor, 1) := by decide +kernel
theorem dX1_follow_90 : decode cX1_follow 90 = .ok (.iand, 1) := by decide +kernel
theorem dX1_follow_91 : decode cX1_follow 91 = .ok (.istore_n 3, 1) := by decide +kernel
theorem dX1_follow_92 : decode cX1_follow 92 = .ok (.iload_n 3, 1) := by decide +kernel
theorem dX1_follow_93 : decode cX1_follow 93 = .ok (.iload 5, 2) := by decide +kernel
theorem dX1_follow_95 : decode cX1_follow 95 = .ok (.ior, 1) := by decide +kernel
theorem dX1_follow_96 : decode cX1_follow 96 = .ok (.istore_n 3, 1) := by decide +kernel
theorem dX1_follow_97 : decode cX1_follow 97 = .ok (.iinc 4 1, 3) := by decide +kernel
theorem dX1_follow_100 : decode cX1_follow 100 = .ok (.goto (-90), 3) := by decide +kernel
theorem dX1_follow_103 : decode cX1_follow 103 = .ok (.return_, 1) := by decide +kernel
theorem dX1_latestOf_0 : decode cX1_latestOf 0 = .ok (.iconst 0, 1) := by decide +kernel
theorem dX1_latestOf_1 : decode cX1_latestOf 1 = .ok (.istore_n 3, 1) := by decide +kernel
theorem dX1_latestOf_2 : decode cX1_latestOf 2 = .ok (.iconst (-1), 1) := by decide +kernel
theorem dX1_latestOf_3 : decode cX1_latestOf 3 = .ok (.istore 4, 2) := by decide +kernel
theorem dX1_latestOf_5 : decode cX1_latestOf 5 = .ok (.iconst 0, 1) := by decide +kernel
theorem dX1_latestOf_6 : decode cX1_latestOf 6 = .ok (.istore 5, 2) := by decide +kernel
theorem dX1_latestOf_8 : decode cX1_latestOf 8 = .ok (.iload 5, 2) := by decide +kernel
theorem dX1_latestOf_10 : decode cX1_latestOf 10 = .ok (.bipush 8, 2) := by decide +kernel
theorem dX1_latestOf_12 : decode cX1_latestOf 12 = .ok (.if_icmp .ge 41, 3) := by decide +kernel
theorem dX1_latestOf_15 : decode cX1_latestOf 15 = .ok (.aload_n 0, 1) := by decide +kernel
theorem dX1_latestOf_16 : decode cX1_latestOf 16 = .ok (.iload 5, 2) := by decide +kernel
theorem dX1_latestOf_18 : decode cX1_latestOf 18 = .ok (.iload_n 2, 1) := by decide +kernel
theorem dX1_latestOf_19 : decode cX1_latestOf 19 = .ok (.invokevirtual 37, 3) := by decide +kernel
theorem dX1_latestOf_22 : decode cX1_latestOf 22 = .ok (.istore 6, 2) := by decide +kernel
theorem dX1_latestOf_24 : decode cX1_latestOf 24 = .ok (.iload_n 1, 1) := by decide +kernel
theorem dX1_latestOf_25 : decode cX1_latestOf 25 = .ok (.iconst 1, 1) := by decide +kernel
theorem dX1_latestOf_26 : decode cX1_latestOf 26 = .ok (.iload 5, 2) := by decide +kernel
theorem dX1_latestOf_28 : decode cX1_latestOf 28 = .ok (.ishl, 1) := by decide +kernel
theorem dX1_latestOf_29 : decode cX1_latestOf 29 = .ok (.iand, 1) := by decide +kernel
theorem dX1_latestOf_30 : decode cX1_latestOf 30 = .ok (.ifCond .eq 17, 3) := by decide +kernel
theorem dX1_latestOf_33 : decode cX1_latestOf 33 = .ok (.iload 6, 2) := by decide +kernel
theorem dX1_latestOf_35 : decode cX1_latestOf 35 = .ok (.iload 4, 2) := by decide +kernel
theorem dX1_latestOf_37 : decode cX1_latestOf 37 = .ok (.if_icmp .le 10, 3) := by decide +kernel
theorem dX1_latestOf_40 : decode cX1_latestOf 40 = .ok (.iload 5, 2) := by decide +kernel
theorem dX1_latestOf_42 : decode cX1_latestOf 42 = .ok (.istore_n 3, 1) := by decide +kernel
theorem dX1_latestOf_43 : decode cX1_latestOf 43 = .ok (.iload 6, 2) := by decide +kernel
theorem dX1_latestOf_45 : decode cX1_latestOf 45 = .ok (.istore 4, 2) := by decide +kernel
theorem dX1_latestOf_47 : decode cX1_latestOf 47 = .ok (.iinc 5 1, 3) := by decide +kernel
theorem dX1_latestOf_50 : decode cX1_latestOf 50 = .ok (.goto (-42), 3) := by decide +kernel
theorem dX1_latestOf_53 : decode cX1_latestOf 53 = .ok (.iload_n 3, 1) := by decide +kernel
theorem dX1_latestOf_54 : decode cX1_latestOf 54 = .ok (.ireturn, 1) := by decide +kernel
theorem dX2_init_0 : decode cX2_init 0 = .ok (.aload_n 0, 1) := by decide +kernel
theorem dX2_init_1 : decode cX2_init 1 = .ok (.invokespecial 3, 3) := by decide +kernel
theorem dX2_init_4 : decode cX2_init 4 = .ok (.aload_n 0, 1) := by decide +kernel
theorem dX2_init_5 : decode cX2_init 5 = .ok (.bipush 24, 2) := by decide +kernel
theorem dX2_init_7 : decode cX2_init 7 = .ok (.newarray .int, 2) := by decide +kernel
theorem dX2_init_9 : decode cX2_init 9 = .ok (.putfield 9, 3) := by decide +kernel
theorem dX2_init_12 : decode cX2_init 12 = .ok (.return_, 1) := by decide +kernel
theorem dX2_become_0 : decode cX2_become 0 = .ok (.aload_n 1, 1) := by decide +kernel
theorem dX2_become_1 : decode cX2_become 1 = .ok (.iconst 0, 1) := by decide +kernel
theorem dX2_become_2 : decode cX2_become 2 = .ok (.aload_n 0, 1) := by decide +kernel
theorem dX2_become_3 : decode cX2_become 3 = .ok (.getfield 9, 3) := by decide +kernel
theorem dX2_become_6 : decode cX2_become 6 = .ok (.iconst 0, 1) := by decide +kernel
theorem dX2_become_7 : decode cX2_become 7 = .ok (.iload_n 2, 1) := by decide +kernel
theorem dX2_become_8 : decode cX2_become 8 = .ok (.invokestatic 15, 3) := by decide +kernel
theorem dX2_become_11 : decode cX2_become 11 = .ok (.aload_n 0, 1) := by decide +kernel
theorem dX2_become_12 : decode cX2_become 12 = .ok (.iload_n 2, 1) := by decide +kernel
theorem dX2_become_13 : decode cX2_become 13 = .ok (.putfield 21, 3) := by decide +kernel
theorem dX2_become_16 : decode cX2_become 16 = .ok (.return_, 1) := by decide +kernel
theorem dX2_append_0 : decode cX2_append 0 = .ok (.aload_n 0, 1) := by decide +kernel
theorem dX2_append_1 : decode cX2_append 1 = .ok (.getfield 9, 3) := by decide +kernel
theorem dX2_append_4 : decode cX2_append 4 = .ok (.aload_n 0, 1) := by decide +kernel
theorem dX2_append_5 : decode cX2_append 5 = .ok (.getfield 21, 3) := by decide +kernel
theorem dX2_append_8 : decode cX2_append 8 = .ok (.iload_n 1, 1) := by decide +kernel
theorem dX2_append_9 : decode cX2_append 9 = .ok (.iastore, 1) := by decide +kernel
theorem dX2_append_10 : decode cX2_append 10 = .ok (.aload_n 0, 1) := by decide +kernel
theorem dX2_append_11 : decode cX2_append 11 = .ok (.dup, 1) := by decide +kernel
theorem dX2_append_12 : decode cX2_append 12 = .ok (.getfield 21, 3) := by decide +kernel
theorem dX2_append_15 : decode cX2_append 15 = .ok (.iconst 1, 1) := by decide +kernel
theorem dX2_append_16 : decode cX2_append 16 = .ok (.iadd, 1) := by decide +kernel
theorem dX2_append_17 : decode cX2_append 17 = .ok (.putfield 21, 3) := by decide +kernel
theorem dX2_append_20 : decode cX2_append 20 = .ok (.return_, 1) := by decide +kernel
theorem dX2_has_0 : decode cX2_has 0 = .ok (.iload_n 1, 1) := by decide +kernel
theorem dX2_has_1 : decode cX2_has 1 = .ok (.iconst 0, 1) := by decide +kernel
theorem dX2_has_2 : decode cX2_has 2 = .ok (.aload_n 0, 1) := by decide +kernel
theorem dX2_has_3 : decode cX2_has 3 = .ok (.getfield 21, 3) := by decide +kernel
theorem dX2_has_6 : decode cX2_has 6 = .ok (.iconst 1, 1) := by decide +kernel
theorem dX2_has_7 : decode cX2_has 7 = .ok (.isub, 1) := by decide +kernel
theorem dX2_has_8 : decode cX2_has 8 = .ok (.invokestatic 25, 3) := by decide +kernel
theorem dX2_has_11 : decode cX2_has 11 = .ok (.ireturn, 1) := by decide +kernel
theorem dX2_pagesOf_0 : decode cX2_pagesOf 0 = .ok (.iconst 0, 1) := by decide +kernel
theorem dX2_pagesOf_1 : decode cX2_pagesOf 1 = .ok (.istore_n 3, 1) := by decide +kernel
theorem dX2_pagesOf_2 : decode cX2_pagesOf 2 = .ok (.iload_n 1, 1) := by decide +kernel
theorem dX2_pagesOf_3 : decode cX2_pagesOf 3 = .ok (.istore 4, 2) := by decide +kernel
theorem dX2_pagesOf_5 : decode cX2_pagesOf 5 = .ok (.iload 4, 2) := by decide +kernel
theorem dX2_pagesOf_7 : decode cX2_pagesOf 7 = .ok (.iload_n 2, 1) := by decide +kernel
theorem dX2_pagesOf_8 : decode cX2_pagesOf 8 = .ok (.if_icmp .gt 21, 3) := by decide +kernel
theorem dX2_pagesOf_11 : decode cX2_pagesOf 11 = .ok (.iload_n 3, 1) := by decide +kernel
theorem dX2_pagesOf_12 : decode cX2_pagesOf 12 = .ok (.iconst 1, 1) := by decide +kernel
theorem dX2_pagesOf_13 : decode cX2_pagesOf 13 = .ok (.aload_n 0, 1) := by decide +kernel
theorem dX2_pagesOf_14 : decode cX2_pagesOf 14 = .ok (.getfield 9, 3) := by decide +kernel
theorem dX2_pagesOf_17 : decode cX2_pagesOf 17 = .ok (.iload 4, 2) := by decide +kernel
theorem dX2_pagesOf_19 : decode cX2_pagesOf 19 = .ok (.iaload, 1) := by decide +kernel
theorem dX2_pagesOf_20 : decode cX2_pagesOf 20 = .ok (.ishl, 1) := by decide +kernel
theorem dX2_pagesOf_21 : decode cX2_pagesOf 21 = .ok (.ior, 1) := by decide +kernel
theorem dX2_pagesOf_22 : decode cX2_pagesOf 22 = .ok (.istore_n 3, 1) := by decide +kernel
theorem dX2_pagesOf_23 : decode cX2_pagesOf 23 = .ok (.iinc 4 1, 3) := by decide +kernel
theorem dX2_pagesOf_26 : decode cX2_pagesOf 26 = .ok (.goto (-21), 3) := by decide +kernel
theorem dX2_pagesOf_29 : decode cX2_pagesOf 29 = .ok (.iload_n 3, 1) := by decide +kernel
theorem dX2_pagesOf_30 : decode cX2_pagesOf 30 = .ok (.ireturn, 1) := by decide +kernel
theorem dX2_sameAhead_0 : decode cX2_sameAhead 0 = .ok (.iload_n 1, 1) := by decide +kernel
theorem dX2_sameAhead_1 : decode cX2_sameAhead 1 = .ok (.iconst 1, 1) := by decide +kernel
theorem dX2_sameAhead_2 : decode cX2_sameAhead 2 = .ok (.isub, 1) := by decide +kernel
theorem dX2_sameAhead_3 : decode cX2_sameAhead 3 = .ok (.istore_n 2, 1) := by decide +kernel
theorem dX2_sameAhead_4 : decode cX2_sameAhead 4 = .ok (.iload_n 2, 1) := by decide +kernel
theorem dX2_sameAhead_5 : decode cX2_sameAhead 5 = .ok (.ifCond .lt 26, 3) := by decide +kernel
theorem dX2_sameAhead_8 : decode cX2_sameAhead 8 = .ok (.aload_n 0, 1) := by decide +kernel
theorem dX2_sameAhead_9 : decode cX2_sameAhead 9 = .ok (.getfield 9, 3) := by decide +kernel
theorem dX2_sameAhead_12 : decode cX2_sameAhead 12 = .ok (.iload_n 2, 1) := by decide +kernel
theorem dX2_sameAhead_13 : decode cX2_sameAhead 13 = .ok (.iaload, 1) := by decide +kernel
theorem dX2_sameAhead_14 : decode cX2_sameAhead 14 = .ok (.aload_n 0, 1) := by decide +kernel
theorem dX2_sameAhead_15 : decode cX2_sameAhead 15 = .ok (.getfield 9, 3) := by decide +kernel
theorem dX2_sameAhead_18 : decode cX2_sameAhead 18 = .ok (.iload_n 1, 1) := by decide +kernel
theorem dX2_sameAhead_19 : decode cX2_sameAhead 19 = .ok (.iaload, 1) := by decide +kernel
theorem dX2_sameAhead_20 : decode cX2_sameAhead 20 = .ok (.if_icmp .ne 5, 3) := by decide +kernel
theorem dX2_sameAhead_23 : decode cX2_sameAhead 23 = .ok (.iload_n 2, 1) := by decide +kernel
theorem dX2_sameAhead_24 : decode cX2_sameAhead 24 = .ok (.ireturn, 1) := by decide +kernel
theorem dX2_sameAhead_25 : decode cX2_sameAhead 25 = .ok (.iinc 2 (-1), 3) := by decide +kernel
theorem dX2_sameAhead_28 : decode cX2_sameAhead 28 = .ok (.goto (-24), 3) := by decide +kernel
theorem dX2_sameAhead_31 : decode cX2_sameAhead 31 = .ok (.bipush (-9), 2) := by decide +kernel
theorem dX2_sameAhead_33 : decode cX2_sameAhead 33 = .ok (.ireturn, 1) := by decide +kernel
theorem dX2_nextOf_0 : decode cX2_nextOf 0 = .ok (.iload_n 2, 1) := by decide +kernel
theorem dX2_nextOf_1 : decode cX2_nextOf 1 = .ok (.iconst 1, 1) := by decide +kernel
theorem dX2_nextOf_2 : decode cX2_nextOf 2 = .ok (.iadd, 1) := by decide +kernel
theorem dX2_nextOf_3 : decode cX2_nextOf 3 = .ok (.istore_n 3, 1) := by decide +kernel
theorem dX2_nextOf_4 : decode cX2_nextOf 4 = .ok (.iload_n 3, 1) := by decide +kernel
theorem dX2_nextOf_5 : decode cX2_nextOf 5 = .ok (.aload_n 0, 1) := by decide +kernel
theorem dX2_nextOf_6 : decode cX2_nextOf 6 = .ok (.getfield 21, 3) := by decide +kernel
theorem dX2_nextOf_9 : decode cX2_nextOf 9 = .ok (.if_icmp .ge 19, 3) := by decide +kernel
theorem dX2_nextOf_12 : decode cX2_nextOf 12 = .ok (.aload_n 0, 1) := by decide +kernel
theorem dX2_nextOf_13 : decode cX2_nextOf 13 = .ok (.getfield 9, 3) := by decide +kernel
theorem dX2_nextOf_16 : decode cX2_nextOf 16 = .ok (.iload_n 3, 1) := by decide +kernel
theorem dX2_nextOf_17 : decode cX2_nextOf 17 = .ok (.iaload, 1) := by decide +kernel
theorem dX2_nextOf_18 : decode cX2_nextOf 18 = .ok (.iload_n 1, 1) := by decide +kernel
theorem dX2_nextOf_19 : decode cX2_nextOf 19 = .ok (.if_icmp .eq 9, 3) := by decide +kernel
theorem dX2_nextOf_22 : decode cX2_nextOf 22 = .ok (.iinc 3 1, 3) := by decide +kernel
theorem dX2_nextOf_25 : decode cX2_nextOf 25 = .ok (.goto (-21), 3) := by decide +kernel
theorem dX2_nextOf_28 : decode cX2_nextOf 28 = .ok (.iload_n 3, 1) := by decide +kernel
theorem dX2_nextOf_29 : decode cX2_nextOf 29 = .ok (.ireturn, 1) := by decide +kernel
theorem dX3_init_0 : decode cX3_init 0 = .ok (.aload_n 0, 1) := by decide +kernel
theorem dX3_init_1 : decode cX3_init 1 = .ok (.invokespecial 3, 3) := by decide +kernel
theorem dX3_init_4 : decode cX3_init 4 = .ok (.aload_n 0, 1) := by decide +kernel
theorem dX3_init_5 : decode cX3_init 5 = .ok (.bipush 8, 2) := by decide +kernel
theorem dX3_init_7 : decode cX3_init 7 = .ok (.newarray .int, 2) := by decide +kernel
theorem dX3_init_9 : decode cX3_init 9 = .ok (.putfield 9, 3) := by decide +kernel
theorem dX3_init_12 : decode cX3_init 12 = .ok (.aload_n 0, 1) := by decide +kernel
theorem dX3_init_13 : decode cX3_init 13 = .ok (.iconst 1, 1) := by decide +kernel
theorem dX3_init_14 : decode cX3_init 14 = .ok (.putfield 15, 3) := by decide +kernel
theorem dX3_init_17 : decode cX3_init 17 = .ok (.return_, 1) := by decide +kernel
theorem dX3_kind_0 : decode cX3_kind 0 = .ok (.iconst 0, 1) := by decide +kernel
theorem dX3_kind_1 : decode cX3_kind 1 = .ok (.ireturn, 1) := by decide +kernel
theorem dX3_clear_0 : decode cX3_clear 0 = .ok (.aload_n 0, 1) := by decide +kernel
theorem dX3_clear_1 : decode cX3_clear 1 = .ok (.iload_n 1, 1) := by decide +kernel
theorem dX3_clear_2 : decode cX3_clear 2 = .ok (.putfield 15, 3) := by decide +kernel
theorem dX3_clear_5 : decode cX3_clear 5 = .ok (.aload_n 0, 1) := by decide +kernel
theorem dX3_clear_6 : decode cX3_clear 6 = .ok (.iconst 0, 1) := by decide +kernel
theorem dX3_clear_7 : decode cX3_clear 7 = .ok (.putfield 19, 3) := by decide +kernel
theorem dX3_clear_10 : decode cX3_clear 10 = .ok (.aload_n 0, 1) := by decide +kernel
theorem dX3_clear_11 : decode cX3_clear 11 = .ok (.iconst 0, 1) := by decide +kernel
theorem dX3_clear_12 : decode cX3_clear 12 = .ok (.putfield 22, 3) := by decide +kernel
theorem dX3_clear_15 : decode cX3_clear 15 = .ok (.aload_n 0, 1) := by decide +kernel
theorem dX3_clear_16 : decode cX3_clear 16 = .ok (.iconst 0, 1) := by decide +kernel
theorem dX3_clear_17 : decode cX3_clear 17 = .ok (.putfield 25, 3) := by decide +kernel
theorem dX3_clear_20 : decode cX3_clear 20 = .ok (.return_, 1) := by decide +kernel
theorem dX3_become_0 : decode cX3_become 0 = .ok (.aload_n 1, 1) := by decide +kernel
theorem dX3_become_1 : decode cX3_become 1 = .ok (.getfield 9, 3) := by decide +kernel
theorem dX3_become_4 : decode cX3_become 4 = .ok (.iconst 0, 1) := by decide +kernel
theorem dX3_become_5 : decode cX3_become 5 = .ok (.aload_n 0, 1) := by decide +kernel
theorem dX3_become_6 : decode cX3_become 6 = .ok (.getfield 9, 3) := by decide +kernel
theorem dX3_become_9 : decode cX3_become 9 = .ok (.iconst 0, 1) := by decide +kernel
theorem dX3_become_10 : decode cX3_become 10 = .ok (.bipush 8, 2) := by decide +kernel
theorem dX3_become_12 : decode cX3_become 12 = .ok (.invokestatic 28, 3) := by decide +kernel
theorem dX3_become_15 : decode cX3_become 15 = .ok (.aload_n 0, 1) := by decide +kernel
theorem dX3_become_16 : decode cX3_become 16 = .ok (.aload_n 1, 1) := by decide +kernel
theorem dX3_become_17 : decode cX3_become 17 = .ok (.getfield 15, 3) := by decide +kernel
theorem dX3_become_20 : decode cX3_become 20 = .ok (.putfield 15, 3) := by decide +kernel
theorem dX3_become_23 : decode cX3_become 23 = .ok (.aload_n 0, 1) := by decide +kernel
theorem dX3_become_24 : decode cX3_become 24 = .ok (.aload_n 1, 1) := by decide +kernel
theorem dX3_become_25 : decode cX3_become 25 = .ok (.getfield 19, 3) := by decide +kernel
theorem dX3_become_28 : decode cX3_become 28 = .ok (.putfield 19, 3) := by decide +kernel
theorem dX3_become_31 : decode cX3_become 31 = .ok (.aload_n 0, 1) := by decide +kernel
theorem dX3_become_32 : decode cX3_become 32 = .ok (.aload_n 1, 1) := by decide +kernel
theorem dX3_become_33 : decode cX3_become 33 = .ok (.getfield 22, 3) := by decide +kernel
theorem dX3_become_36 : decode cX3_become 36 = .ok (.putfield 22, 3) := by decide +kernel
theorem dX3_become_39 : decode cX3_become 39 = .ok (.aload_n 0, 1) := by decide +kernel
theorem dX3_become_40 : decode cX3_become 40 = .ok (.aload_n 1, 1) := by decide +kernel
theorem dX3_become_41 : decode cX3_become 41 = .ok (.getfield 25, 3) := by decide +kernel
theorem dX3_become_44 : decode cX3_become 44 = .ok (.putfield 25, 3) := by decide +kernel
theorem dX3_become_47 : decode cX3_become 47 = .ok (.return_, 1) := by decide +kernel
theorem dX3_serve_0 : decode cX3_serve 0 = .ok (.aload_n 0, 1) := by decide +kernel
theorem dX3_serve_1 : decode cX3_serve 1 = .ok (.iload_n 1, 1) := by decide +kernel
theorem dX3_serve_2 : decode cX3_serve 2 = .ok (.invokevirtual 34, 3) := by decide +kernel
theorem dX3_serve_5 : decode cX3_serve 5 = .ok (.istore_n 2, 1) := by decide +kernel
theorem dX3_serve_6 : decode cX3_serve 6 = .ok (.iload_n 2, 1) := by decide +kernel
theorem dX3_serve_7 : decode cX3_serve 7 = .ok (.bipush (-9), 2) := by decide +kernel
theorem dX3_serve_9 : decode cX3_serve 9 = .ok (.if_icmp .eq 10, 3) := by decide +kernel
theorem dX3_serve_12 : decode cX3_serve 12 = .ok (.aload_n 0, 1) := by decide +kernel
theorem dX3_serve_13 : decode cX3_serve 13 = .ok (.iload_n 2, 1) := by decide +kernel
theorem dX3_serve_14 : decode cX3_serve 14 = .ok (.invokevirtual 38, 3) := by decide +kernel
theorem dX3_serve_17 : decode cX3_serve 17 = .ok (.iconst 1, 1) := by decide +kernel
theorem dX3_serve_18 : decode cX3_serve 18 = .ok (.ireturn, 1) := by decide +kernel
theorem dX3_serve_19 : decode cX3_serve 19 = .ok (.aload_n 0, 1) := by decide +kernel
theorem dX3_serve_20 : decode cX3_serve 20 = .ok (.dup, 1) := by decide +kernel
theorem dX3_serve_21 : decode cX3_serve 21 = .ok (.getfield 25, 3) := by decide +kernel
theorem dX3_serve_24 : decode cX3_serve 24 = .ok (.iconst 1, 1) := by decide +kernel
theorem dX3_serve_25 : decode cX3_serve 25 = .ok (.iadd, 1) := by decide +kernel
theorem dX3_serve_26 : decode cX3_serve 26 = .ok (.putfield 25, 3) := by decide +kernel
theorem dX3_serve_29 : decode cX3_serve 29 = .ok (.aload_n 0, 1) := by decide +kernel
theorem dX3_serve_30 : decode cX3_serve 30 = .ok (.getfield 19, 3) := by decide +kernel
theorem dX3_serve_33 : decode cX3_serve 33 = .ok (.aload_n 0, 1) := by decide +kernel
theorem dX3_serve_34 : decode cX3_serve 34 = .ok (.getfield 15, 3) := by decide +kernel
theorem dX3_serve_37 : decode cX3_serve 37 = .ok (.if_icmp .lt 11, 3) := by decide +kernel
theorem dX3_serve_40 : decode cX3_serve 40 = .ok (.aload_n 0, 1) := by decide +kernel
theorem dX3_serve_41 : decode cX3_serve 41 = .ok (.invokevirtual 42, 3) := by decide +kernel
theorem dX3_serve_44 : decode cX3_serve 44 = .ok (.aload_n 0, 1) := by decide +kernel
theorem dX3_serve_45 : decode cX3_serve 45 = .ok (.invokevirtual 45, 3) := by decide +kernel
theorem dX3_serve_48 : decode cX3_serve 48 = .ok (.aload_n 0, 1) := by decide +kernel
theorem dX3_serve_49 : decode cX3_serve 49 = .ok (.getfield 9, 3) := by decide +kernel
theorem dX3_serve_52 : decode cX3_serve 52 = .ok (.aload_n 0, 1) := by decide +kernel
theorem dX3_serve_53 : decode cX3_serve 53 = .ok (.getfield 19, 3) := by decide +kernel
theorem dX3_serve_56 : decode cX3_serve 56 = .ok (.iload_n 1, 1) := by decide +kernel
theorem dX3_serve_57 : decode cX3_serve 57 = .ok (.iastore, 1) := by decide +kernel
theorem dX3_serve_58 : decode cX3_serve 58 = .ok (.aload_n 0, 1) := by decide +kernel
theorem dX3_serve_59 : decode cX3_serve 59 = .ok (.dup, 1) := by decide +kernel
theorem dX3_serve_60 : decode cX3_serve 60 = .ok (.getfield 19, 3) := by decide +kernel
theorem dX3_serve_63 : decode cX3_serve 63 = .ok (.iconst 1, 1) := by decide +kernel
theorem dX3_serve_64 : decode cX3_serve 64 = .ok (.iadd, 1) := by decide +kernel
theorem dX3_serve_65 : decode cX3_serve 65 = .ok (.putfield 19, 3) := by decide +kernel
theorem dX3_serve_68 : decode cX3_serve 68 = .ok (.iconst 0, 1) := by decide +kernel
theorem dX3_serve_69 : decode cX3_serve 69 = .ok (.ireturn, 1) := by decide +kernel
theorem dX3_use_0 : decode cX3_use 0 = .ok (.return_, 1) := by decide +kernel
theorem dX3_spareUsed_0 : decode cX3_spareUsed 0 = .ok (.return_, 1) := by decide +kernel
theorem dX3_placeToGo_0 : decode cX3_placeToGo 0 = .ok (.iconst 0, 1) := by decide +kernel
theorem dX3_placeToGo_1 : decode cX3_placeToGo 1 = .ok (.ireturn, 1) := by decide +kernel
theorem dX3_nextToGo_0 : decode cX3_nextToGo 0 = .ok (.aload_n 0, 1) := by decide +kernel
theorem dX3_nextToGo_1 : decode cX3_nextToGo 1 = .ok (.getfield 19, 3) := by decide +kernel
theorem dX3_nextToGo_4 : decode cX3_nextToGo 4 = .ok (.aload_n 0, 1) := by decide +kernel
theorem dX3_nextToGo_5 : decode cX3_nextToGo 5 = .ok (.getfield 15, 3) := by decide +kernel
theorem dX3_nextToGo_8 : decode cX3_nextToGo 8 = .ok (.if_icmp .ge 8, 3) := by decide +kernel
theorem dX3_nextToGo_11 : decode cX3_nextToGo 11 = .ok (.bipush (-9), 2) := by decide +kernel
theorem dX3_nextToGo_13 : decode cX3_nextToGo 13 = .ok (.goto 12, 3) := by decide +kernel
theorem dX3_nextToGo_16 : decode cX3_nextToGo 16 = .ok (.aload_n 0, 1) := by decide +kernel
theorem dX3_nextToGo_17 : decode cX3_nextToGo 17 = .ok (.getfield 9, 3) := by decide +kernel
theorem dX3_nextToGo_20 : decode cX3_nextToGo 20 = .ok (.aload_n 0, 1) := by decide +kernel
theorem dX3_nextToGo_21 : decode cX3_nextToGo 21 = .ok (.invokevirtual 48, 3) := by decide +kernel
theorem dX3_nextToGo_24 : decode cX3_nextToGo 24 = .ok (.iaload, 1) := by decide +kernel
theorem dX3_nextToGo_25 : decode cX3_nextToGo 25 = .ok (.ireturn, 1) := by decide +kernel
theorem dX3_pages_0 : decode cX3_pages 0 = .ok (.iconst 0, 1) := by decide +kernel
theorem dX3_pages_1 : decode cX3_pages 1 = .ok (.istore_n 1, 1) := by decide +kernel
theorem dX3_pages_2 : decode cX3_pages 2 = .ok (.iconst 0, 1) := by decide +kernel
theorem dX3_pages_3 : decode cX3_pages 3 = .ok (.istore_n 2, 1) := by decide +kernel
theorem dX3_pages_4 : decode cX3_pages 4 = .ok (.iload_n 2, 1) := by decide +kernel
theorem dX3_pages_5 : decode cX3_pages 5 = .ok (.aload_n 0, 1) := by decide +kernel
theorem dX3_pages_6 : decode cX3_pages 6 = .ok (.getfield 19, 3) := by decide +kernel
theorem dX3_pages_9 : decode cX3_pages 9 = .ok (.if_icmp .ge 20, 3) := by decide +kernel
theorem dX3_pages_12 : decode cX3_pages 12 = .ok (.iload_n 1, 1) := by decide +kernel
theorem dX3_pages_13 : decode cX3_pages 13 = .ok (.iconst 1, 1) := by decide +kernel
theorem dX3_pages_14 : decode cX3_pages 14 = .ok (.aload_n 0, 1) := by decide +kernel
theorem dX3_pages_15 : decode cX3_pages 15 = .ok (.getfield 9, 3) := by decide +kernel
theorem dX3_pages_18 : decode cX3_pages 18 = .ok (.iload_n 2, 1) := by decide +kernel
theorem dX3_pages_19 : decode cX3_pages 19 = .ok (.iaload, 1) := by decide +kernel
theorem dX3_pages_20 : decode cX3_pages 20 = .ok (.ishl, 1) := by decide +kernel
theorem dX3_pages_21 : decode cX3_pages 21 = .ok (.ior, 1) := by decide +kernel
theorem dX3_pages_22 : decode cX3_pages 22 = .ok (.istore_n 1, 1) := by decide +kernel
theorem dX3_pages_23 : decode cX3_pages 23 = .ok (.iinc 2 1, 3) := by decide +kernel
theorem dX3_pages_26 : decode cX3_pages 26 = .ok (.goto (-22), 3) := by decide +kernel
theorem dX3_pages_29 : decode cX3_pages 29 = .ok (.iload_n 1, 1) := by decide +kernel
theorem dX3_pages_30 : decode cX3_pages 30 = .ok (.ireturn, 1) := by decide +kernel
theorem dX3_telling_0 : decode cX3_telling 0 = .ok (.aload_n 0, 1) := by decide +kernel
theorem dX3_telling_1 : decode cX3_telling 1 = .ok (.aload_n 1, 1) := by decide +kernel
theorem dX3_telling_2 : decode cX3_telling 2 = .ok (.invokevirtual 52, 3) := by decide +kernel
theorem dX3_telling_5 : decode cX3_telling 5 = .ok (.ireturn, 1) := by decide +kernel
theorem dX3_counted_0 : decode cX3_counted 0 = .ok (.aload_n 1, 1) := by decide +kernel
theorem dX3_counted_1 : decode cX3_counted 1 = .ok (.iconst 4, 1) := by decide +kernel
theorem dX3_counted_2 : decode cX3_counted 2 = .ok (.invokevirtual 56, 3) := by decide +kernel
theorem dX3_counted_5 : decode cX3_counted 5 = .ok (.aload_n 0, 1) := by decide +kernel
theorem dX3_counted_6 : decode cX3_counted 6 = .ok (.getfield 25, 3) := by decide +kernel
theorem dX3_counted_9 : decode cX3_counted 9 = .ok (.ireturn, 1) := by decide +kernel
theorem dX3_queueTelling_0 : decode cX3_queueTelling 0 = .ok (.aload_n 1, 1) := by decide +kernel
theorem dX3_queueTelling_1 : decode cX3_queueTelling 1 = .ok (.iconst 1, 1) := by decide +kernel
theorem dX3_queueTelling_2 : decode cX3_queueTelling 2 = .ok (.invokevirtual 56, 3) := by decide +kernel
theorem dX3_queueTelling_5 : decode cX3_queueTelling 5 = .ok (.aload_n 0, 1) := by decide +kernel
theorem dX3_queueTelling_6 : decode cX3_queueTelling 6 = .ok (.getfield 15, 3) := by decide +kernel
theorem dX3_queueTelling_9 : decode cX3_queueTelling 9 = .ok (.ireturn, 1) := by decide +kernel
theorem dX3_placeOf_0 : decode cX3_placeOf 0 = .ok (.iconst 0, 1) := by decide +kernel
theorem dX3_placeOf_1 : decode cX3_placeOf 1 = .ok (.istore_n 2, 1) := by decide +kernel
theorem dX3_placeOf_2 : decode cX3_placeOf 2 = .ok (.iload_n 2, 1) := by decide +kernel
theorem dX3_placeOf_3 : decode cX3_placeOf 3 = .ok (.aload_n 0, 1) := by decide +kernel
theorem dX3_placeOf_4 : decode cX3_placeOf 4 = .ok (.getfield 19, 3) := by decide +kernel
theorem dX3_placeOf_7 : decode cX3_placeOf 7 = .ok (.if_icmp .ge 21, 3) := by decide +kernel
theorem dX3_placeOf_10 : decode cX3_placeOf 10 = .ok (.aload_n 0, 1) := by decide +kernel
theorem dX3_placeOf_11 : decode cX3_placeOf 11 = .ok (.getfield 9, 3) := by decide +kernel
theorem dX3_placeOf_14 : decode cX3_placeOf 14 = .ok (.iload_n 2, 1) := by decide +kernel
theorem dX3_placeOf_15 : decode cX3_placeOf 15 = .ok (.iaload, 1) := by decide +kernel
theorem dX3_placeOf_16 : decode cX3_placeOf 16 = .ok (.iload_n 1, 1) := by decide +kernel
theorem dX3_placeOf_17 : decode cX3_placeOf 17 = .ok (.if_icmp .ne 5, 3) := by decide +kernel
theorem dX3_placeOf_20 : decode cX3_placeOf 20 = .ok (.iload_n 2, 1) := by decide +kernel
theorem dX3_placeOf_21 : decode cX3_placeOf 21 = .ok (.ireturn, 1) := by decide +kernel
theorem dX3_placeOf_22 : decode cX3_placeOf 22 = .ok (.iinc 2 1, 3) := by decide +kernel
theorem dX3_placeOf_25 : decode cX3_placeOf 25 = .ok (.goto (-23), 3) := by decide +kernel
theorem dX3_placeOf_28 : decode cX3_placeOf 28 = .ok (.bipush (-9), 2) := by decide +kernel
theorem dX3_placeOf_30 : decode cX3_placeOf 30 = .ok (.ireturn, 1) := by decide +kernel
theorem dX3_isUsed_0 : decode cX3_isUsed 0 = .ok (.aload_n 0, 1) := by decide +kernel
theorem dX3_isUsed_1 : decode cX3_isUsed 1 = .ok (.getfield 22, 3) := by decide +kernel
theorem dX3_isUsed_4 : decode cX3_isUsed 4 = .ok (.aload_n 0, 1) := by decide +kernel
theorem dX3_isUsed_5 : decode cX3_isUsed 5 = .ok (.getfield 9, 3) := by decide +kernel
theorem dX3_isUsed_8 : decode cX3_isUsed 8 = .ok (.iload_n 1, 1) := by decide +kernel
theorem dX3_isUsed_9 : decode cX3_isUsed 9 = .ok (.iaload, 1) := by decide +kernel
theorem dX3_isUsed_10 : decode cX3_isUsed 10 = .ok (.ishr, 1) := by decide +kernel
theorem dX3_isUsed_11 : decode cX3_isUsed 11 = .ok (.iconst 1, 1) := by decide +kernel
theorem dX3_isUsed_12 : decode cX3_isUsed 12 = .ok (.iand, 1) := by decide +kernel
theorem dX3_isUsed_13 : decode cX3_isUsed 13 = .ok (.iconst 1, 1) := by decide +kernel
theorem dX3_isUsed_14 : decode cX3_isUsed 14 = .ok (.if_icmp .ne 7, 3) := by decide +kernel
theorem dX3_isUsed_17 : decode cX3_isUsed 17 = .ok (.iconst 1, 1) := by decide +kernel
theorem dX3_isUsed_18 : decode cX3_isUsed 18 = .ok (.goto 4, 3) := by decide +kernel
theorem dX3_isUsed_21 : decode cX3_isUsed 21 = .ok (.iconst 0, 1) := by decide +kernel
theorem dX3_isUsed_22 : decode cX3_isUsed 22 = .ok (.ireturn, 1) := by decide +kernel
theorem dX3_lieBehindAll_0 : decode cX3_lieBehindAll 0 = .ok (.aload_n 0, 1) := by decide +kernel
theorem dX3_lieBehindAll_1 : decode cX3_lieBehindAll 1 = .ok (.getfield 9, 3) := by decide +kernel
theorem dX3_lieBehindAll_4 : decode cX3_lieBehindAll 4 = .ok (.iload_n 1, 1) := by decide +kernel
theorem dX3_lieBehindAll_5 : decode cX3_lieBehindAll 5 = .ok (.iaload, 1) := by decide +kernel
theorem dX3_lieBehindAll_6 : decode cX3_lieBehindAll 6 = .ok (.istore_n 2, 1) := by decide +kernel
theorem dX3_lieBehindAll_7 : decode cX3_lieBehindAll 7 = .ok (.iload_n 1, 1) := by decide +kernel
theorem dX3_lieBehindAll_8 : decode cX3_lieBehindAll 8 = .ok (.istore_n 3, 1) := by decide +kernel
theorem dX3_lieBehindAll_9 : decode cX3_lieBehindAll 9 = .ok (.iload_n 3, 1) := by decide +kernel
theorem dX3_lieBehindAll_10 : decode cX3_lieBehindAll 10 = .ok (.aload_n 0, 1) := by decide +kernel
theorem dX3_lieBehindAll_11 : decode cX3_lieBehindAll 11 = .ok (.getfield 19, 3) := by decide +kernel
theorem dX3_lieBehindAll_14 : decode cX3_lieBehindAll 14 = .ok (.iconst 1, 1) := by decide +kernel
theorem dX3_lieBehindAll_15 : decode cX3_lieBehindAll 15 = .ok (.isub, 1) := by decide +kernel
theorem dX3_lieBehindAll_16 : decode cX3_lieBehindAll 16 = .ok (.if_icmp .ge 23, 3) := by decide +kernel
theorem dX3_lieBehindAll_19 : decode cX3_lieBehindAll 19 = .ok (.aload_n 0, 1) := by decide +kernel
theorem dX3_lieBehindAll_20 : decode cX3_lieBehindAll 20 = .ok (.getfield 9, 3) := by decide +kernel
theorem dX3_lieBehindAll_23 : decode cX3_lieBehindAll 23 = .ok (.iload_n 3, 1) := by decide +kernel
theorem dX3_lieBehindAll_24 : decode cX3_lieBehindAll 24 = .ok (.aload_n 0, 1) := by decide +kernel
theorem dX3_lieBehindAll_25 : decode cX3_lieBehindAll 25 = .ok (.getfield 9, 3) := by decide +kernel
theorem dX3_lieBehindAll_28 : decode cX3_lieBehindAll 28 = .ok (.iload_n 3, 1) := by decide +kernel
theorem dX3_lieBehindAll_29 : decode cX3_lieBehindAll 29 = .ok (.iconst 1, 1) := by decide +kernel
theorem dX3_lieBehindAll_30 : decode cX3_lieBehindAll 30 = .ok (.iadd, 1) := by decide +kernel
theorem dX3_lieBehindAll_31 : decode cX3_lieBehindAll 31 = .ok (.iaload, 1) := by decide +kernel
theorem dX3_lieBehindAll_32 : decode cX3_lieBehindAll 32 = .ok (.iastore, 1) := by decide +kernel
theorem dX3_lieBehindAll_33 : decode cX3_lieBehindAll 33 = .ok (.iinc 3 1, 3) := by decide +kernel
theorem dX3_lieBehindAll_36 : decode cX3_lieBehindAll 36 = .ok (.goto (-27), 3) := by decide +kernel
theorem dX3_lieBehindAll_39 : decode cX3_lieBehindAll 39 = .ok (.aload_n 0, 1) := by decide +kernel
theorem dX3_lieBehindAll_40 : decode cX3_lieBehindAll 40 = .ok (.getfield 9, 3) := by decide +kernel
theorem dX3_lieBehindAll_43 : decode cX3_lieBehindAll 43 = .ok (.aload_n 0, 1) := by decide +kernel
theorem dX3_lieBehindAll_44 : decode cX3_lieBehindAll 44 = .ok (.getfield 19, 3) := by decide +kernel
theorem dX3_lieBehindAll_47 : decode cX3_lieBehindAll 47 = .ok (.iconst 1, 1) := by decide +kernel
theorem dX3_lieBehindAll_48 : decode cX3_lieBehindAll 48 = .ok (.isub, 1) := by decide +kernel
theorem dX3_lieBehindAll_49 : decode cX3_lieBehindAll 49 = .ok (.iload_n 2, 1) := by decide +kernel
theorem dX3_lieBehindAll_50 : decode cX3_lieBehindAll 50 = .ok (.iastore, 1) := by decide +kernel
theorem dX3_lieBehindAll_51 : decode cX3_lieBehindAll 51 = .ok (.return_, 1) := by decide +kernel
theorem dX3_letFirstGo_0 : decode cX3_letFirstGo 0 = .ok (.aload_n 0, 1) := by decide +kernel
theorem dX3_letFirstGo_1 : decode cX3_letFirstGo 1 = .ok (.dup, 1) := by decide +kernel
theorem dX3_letFirstGo_2 : decode cX3_letFirstGo 2 = .ok (.getfield 22, 3) := by decide +kernel
theorem dX3_letFirstGo_5 : decode cX3_letFirstGo 5 = .ok (.iconst 1, 1) := by decide +kernel
theorem dX3_letFirstGo_6 : decode cX3_letFirstGo 6 = .ok (.aload_n 0, 1) := by decide +kernel
theorem dX3_letFirstGo_7 : decode cX3_letFirstGo 7 = .ok (.getfield 9, 3) := by decide +kernel
theorem dX3_letFirstGo_10 : decode cX3_letFirstGo 10 = .ok (.iconst 0, 1) := by decide +kernel
theorem dX3_letFirstGo_11 : decode cX3_letFirstGo 11 = .ok (.iaload, 1) := by decide +kernel
theorem dX3_letFirstGo_12 : decode cX3_letFirstGo 12 = .ok (.ishl, 1) := by decide +kernel
theorem dX3_letFirstGo_13 : decode cX3_letFirstGo 13 = .ok (.iconst (-1), 1) := by decide +kernel
theorem dX3_letFirstGo_14 : decode cX3_letFirstGo 14 = .ok (.ixor, 1) := by decide +kernel
theorem dX3_letFirstGo_15 : decode cX3_letFirstGo 15 = .ok (.iand, 1) := by decide +kernel
theorem dX3_letFirstGo_16 : decode cX3_letFirstGo 16 = .ok (.putfield 22, 3) := by decide +kernel
theorem dX3_letFirstGo_19 : decode cX3_letFirstGo 19 = .ok (.aload_n 0, 1) := by decide +kernel
theorem dX3_letFirstGo_20 : decode cX3_letFirstGo 20 = .ok (.iconst 0, 1) := by decide +kernel
theorem dX3_letFirstGo_21 : decode cX3_letFirstGo 21 = .ok (.invokevirtual 61, 3) := by decide +kernel
theorem dX3_letFirstGo_24 : decode cX3_letFirstGo 24 = .ok (.aload_n 0, 1) := by decide +kernel
theorem dX3_letFirstGo_25 : decode cX3_letFirstGo 25 = .ok (.dup, 1) := by decide +kernel
theorem dX3_letFirstGo_26 : decode cX3_letFirstGo 26 = .ok (.getfield 19, 3) := by decide +kernel
theorem dX3_letFirstGo_29 : decode cX3_letFirstGo 29 = .ok (.iconst 1, 1) := by decide +kernel
theorem dX3_letFirstGo_30 : decode cX3_letFirstGo 30 = .ok (.isub, 1) := by decide +kernel
theorem dX3_letFirstGo_31 : decode cX3_letFirstGo 31 = .ok (.putfield 19, 3) := by decide +kernel
theorem dX3_letFirstGo_34 : decode cX3_letFirstGo 34 = .ok (.return_, 1) := by decide +kernel
theorem dX4_init_0 : decode cX4_init 0 = .ok (.aload_n 0, 1) := by decide +kernel
theorem dX4_init_1 : decode cX4_init 1 = .ok (.invokespecial 3, 3) := by decide +kernel
theorem dX4_init_4 : decode cX4_init 4 = .ok (.aload_n 0, 1) := by decide +kernel
theorem dX4_init_5 : decode cX4_init 5 = .ok (.bipush 8, 2) := by decide +kernel
theorem dX4_init_7 : decode cX4_init 7 = .ok (.newarray .int, 2) := by decide +kernel
theorem dX4_init_9 : decode cX4_init 9 = .ok (.putfield 9, 3) := by decide +kernel
theorem dX4_init_12 : decode cX4_init 12 = .ok (.aload_n 0, 1) := by decide +kernel
theorem dX4_init_13 : decode cX4_init 13 = .ok (.bipush 8, 2) := by decide +kernel
theorem dX4_init_15 : decode cX4_init 15 = .ok (.newarray .int, 2) := by decide +kernel
theorem dX4_init_17 : decode cX4_init 17 = .ok (.putfield 15, 3) := by decide +kernel
theorem dX4_init_20 : decode cX4_init 20 = .ok (.aload_n 0, 1) := by decide +kernel
theorem dX4_init_21 : decode cX4_init 21 = .ok (.bipush 8, 2) := by decide +kernel
theorem dX4_init_23 : decode cX4_init 23 = .ok (.newarray .int, 2) := by decide +kernel
theorem dX4_init_25 : decode cX4_init 25 = .ok (.putfield 18, 3) := by decide +kernel
theorem dX4_init_28 : decode cX4_init 28 = .ok (.return_, 1) := by decide +kernel
theorem dX4_append_0 : decode cX4_append 0 = .ok (.aload_n 0, 1) := by decide +kernel
theorem dX4_append_1 : decode cX4_append 1 = .ok (.getfield 9, 3) := by decide +kernel
theorem dX4_append_4 : decode cX4_append 4 = .ok (.aload_n 0, 1) := by decide +kernel
theorem dX4_append_5 : decode cX4_append 5 = .ok (.getfield 21, 3) := by decide +kernel
theorem dX4_append_8 : decode cX4_append 8 = .ok (.iload_n 1, 1) := by decide +kernel
theorem dX4_append_9 : decode cX4_append 9 = .ok (.iastore, 1) := by decide +kernel
theorem dX4_append_10 : decode cX4_append 10 = .ok (.aload_n 0, 1) := by decide +kernel
theorem dX4_append_11 : decode cX4_append 11 = .ok (.getfield 15, 3) := by decide +kernel
theorem dX4_append_14 : decode cX4_append 14 = .ok (.aload_n 0, 1) := by decide +kernel
theorem dX4_append_15 : decode cX4_append 15 = .ok (.getfield 21, 3) := by decide +kernel
theorem dX4_append_18 : decode cX4_append 18 = .ok (.iload_n 2, 1) := by decide +kernel
theorem dX4_append_19 : decode cX4_append 19 = .ok (.iastore, 1) := by decide +kernel
theorem dX4_append_20 : decode cX4_append 20 = .ok (.aload_n 0, 1) := by decide +kernel
theorem dX4_append_21 : decode cX4_append 21 = .ok (.getfield 18, 3) := by decide +kernel
theorem dX4_append_24 : decode cX4_append 24 = .ok (.aload_n 0, 1) := by decide +kernel
theorem dX4_append_25 : decode cX4_append 25 = .ok (.getfield 21, 3) := by decide +kernel
theorem dX4_append_28 : decode cX4_append 28 = .ok (.iload_n 3, 1) := by decide +kernel
theorem dX4_append_29 : decode cX4_append 29 = .ok (.iastore, 1) := by decide +kernel
theorem dX4_append_30 : decode cX4_append 30 = .ok (.aload_n 0, 1) := by decide +kernel
theorem dX4_append_31 : decode cX4_append 31 = .ok (.dup, 1) := by decide +kernel
theorem dX4_append_32 : decode cX4_append 32 = .ok (.getfield 21, 3) := by decide +kernel
theorem dX4_append_35 : decode cX4_append 35 = .ok (.iconst 1, 1) := by decide +kernel
theorem dX4_append_36 : decode cX4_append 36 = .ok (.iadd, 1) := by decide +kernel
theorem dX4_append_37 : decode cX4_append 37 = .ok (.putfield 21, 3) := by decide +kernel
theorem dX4_append_40 : decode cX4_append 40 = .ok (.return_, 1) := by decide +kernel
theorem dX4_agree_0 : decode cX4_agree 0 = .ok (.iconst 0, 1) := by decide +kernel
theorem dX4_agree_1 : decode cX4_agree 1 = .ok (.istore_n 3, 1) := by decide +kernel
theorem dX4_agree_2 : decode cX4_agree 2 = .ok (.iload_n 3, 1) := by decide +kernel
theorem dX4_agree_3 : decode cX4_agree 3 = .ok (.aload_n 0, 1) := by decide +kernel
theorem dX4_agree_4 : decode cX4_agree 4 = .ok (.getfield 21, 3) := by decide +kernel
theorem dX4_agree_7 : decode cX4_agree 7 = .ok (.if_icmp .ge 40, 3) := by decide +kernel
theorem dX4_agree_10 : decode cX4_agree 10 = .ok (.aload_n 0, 1) := by decide +kernel
theorem dX4_agree_11 : decode cX4_agree 11 = .ok (.getfield 9, 3) := by decide +kernel
theorem dX4_agree_14 : decode cX4_agree 14 = .ok (.iload_n 3, 1) := by decide +kernel
theorem dX4_agree_15 : decode cX4_agree 15 = .ok (.iaload, 1) := by decide +kernel
theorem dX4_agree_16 : decode cX4_agree 16 = .ok (.iload_n 1, 1) := by decide +kernel
theorem dX4_agree_17 : decode cX4_agree 17 = .ok (.if_icmp .ne 24, 3) := by decide +kernel
theorem dX4_agree_20 : decode cX4_agree 20 = .ok (.iload_n 2, 1) := by decide +kernel
theorem dX4_agree_21 : decode cX4_agree 21 = .ok (.aload_n 0, 1) := by decide +kernel
theorem dX4_agree_22 : decode cX4_agree 22 = .ok (.getfield 15, 3) := by decide +kernel
theorem dX4_agree_25 : decode cX4_agree 25 = .ok (.iload_n 3, 1) := by decide +kernel
theorem dX4_agree_26 : decode cX4_agree 26 = .ok (.iaload, 1) := by decide +kernel
theorem dX4_agree_27 : decode cX4_agree 27 = .ok (.ishr, 1) := by decide +kernel
theorem dX4_agree_28 : decode cX4_agree 28 = .ok (.iconst 1, 1) := by decide +kernel
theorem dX4_agree_29 : decode cX4_agree 29 = .ok (.iand, 1) := by decide +kernel
theorem dX4_agree_30 : decode cX4_agree 30 = .ok (.aload_n 0, 1) := by decide +kernel
theorem dX4_agree_31 : decode cX4_agree 31 = .ok (.getfield 18, 3) := by decide +kernel
theorem dX4_agree_34 : decode cX4_agree 34 = .ok (.iload_n 3, 1) := by decide +kernel
theorem dX4_agree_35 : decode cX4_agree 35 = .ok (.iaload, 1) := by decide +kernel
theorem dX4_agree_36 : decode cX4_agree 36 = .ok (.if_icmp .eq 5, 3) := by decide +kernel
theorem dX4_agree_39 : decode cX4_agree 39 = .ok (.iconst 0, 1) := by decide +kernel
theorem dX4_agree_40 : decode cX4_agree 40 = .ok (.ireturn, 1) := by decide +kernel
theorem dX4_agree_41 : decode cX4_agree 41 = .ok (.iinc 3 1, 3) := by decide +kernel
theorem dX4_agree_44 : decode cX4_agree 44 = .ok (.goto (-42), 3) := by decide +kernel
theorem dX4_agree_47 : decode cX4_agree 47 = .ok (.iconst 1, 1) := by decide +kernel
theorem dX4_agree_48 : decode cX4_agree 48 = .ok (.ireturn, 1) := by decide +kernel
theorem dX5_init_0 : decode cX5_init 0 = .ok (.aload_n 0, 1) := by decide +kernel
theorem dX5_init_1 : decode cX5_init 1 = .ok (.invokespecial 3, 3) := by decide +kernel
theorem dX5_init_4 : decode cX5_init 4 = .ok (.return_, 1) := by decide +kernel
theorem dX5_kind_0 : decode cX5_kind 0 = .ok (.iconst 2, 1) := by decide +kernel
theorem dX5_kind_1 : decode cX5_kind 1 = .ok (.ireturn, 1) := by decide +kernel
theorem dX5_use_0 : decode cX5_use 0 = .ok (.aload_n 0, 1) := by decide +kernel
theorem dX5_use_1 : decode cX5_use 1 = .ok (.iload_n 1, 1) := by decide +kernel
theorem dX5_use_2 : decode cX5_use 2 = .ok (.invokespecial 9, 3) := by decide +kernel
theorem dX5_use_5 : decode cX5_use 5 = .ok (.aload_n 0, 1) := by decide +kernel
theorem dX5_use_6 : decode cX5_use 6 = .ok (.iload_n 1, 1) := by decide +kernel
theorem dX5_use_7 : decode cX5_use 7 = .ok (.invokevirtual 13, 3) := by decide +kernel
theorem dX5_use_10 : decode cX5_use 10 = .ok (.return_, 1) := by decide +kernel
theorem dX5_spareUsed_0 : decode cX5_spareUsed 0 = .ok (.return_, 1) := by decide +kernel
theorem dX5_placeToGo_0 : decode cX5_placeToGo 0 = .ok (.iconst 0, 1) := by decide +kernel
theorem dX5_placeToGo_1 : decode cX5_placeToGo 1 = .ok (.ireturn, 1) := by decide +kernel
theorem dX5_telling_0 : decode cX5_telling 0 = .ok (.aload_n 1, 1) := by decide +kernel
theorem dX5_telling_1 : decode cX5_telling 1 = .ok (.iconst 3, 1) := by decide +kernel
theorem dX5_telling_2 : decode cX5_telling 2 = .ok (.invokevirtual 18, 3) := by decide +kernel
theorem dX5_telling_5 : decode cX5_telling 5 = .ok (.aload_n 0, 1) := by decide +kernel
theorem dX5_telling_6 : decode cX5_telling 6 = .ok (.aload_n 1, 1) := by decide +kernel
theorem dX5_telling_7 : decode cX5_telling 7 = .ok (.invokespecial 23, 3) := by decide +kernel
theorem dX5_telling_10 : decode cX5_telling 10 = .ok (.aload_n 0, 1) := by decide +kernel
theorem dX5_telling_11 : decode cX5_telling 11 = .ok (.aload_n 1, 1) := by decide +kernel
theorem dX5_telling_12 : decode cX5_telling 12 = .ok (.invokevirtual 27, 3) := by decide +kernel
theorem dX5_telling_15 : decode cX5_telling 15 = .ok (.iadd, 1) := by decide +kernel
theorem dX5_telling_16 : decode cX5_telling 16 = .ok (.ireturn, 1) := by decide +kernel
theorem dX5_counted_0 : decode cX5_counted 0 = .ok (.aload_n 1, 1) := by decide +kernel
theorem dX5_counted_1 : decode cX5_counted 1 = .ok (.iconst 5, 1) := by decide +kernel
theorem dX5_counted_2 : decode cX5_counted 2 = .ok (.invokevirtual 18, 3) := by decide +kernel
theorem dX5_counted_5 : decode cX5_counted 5 = .ok (.bipush 60, 2) := by decide +kernel
theorem dX5_counted_7 : decode cX5_counted 7 = .ok (.ireturn, 1) := by decide +kernel
theorem dX6_init_0 : decode cX6_init 0 = .ok (.aload_n 0, 1) := by decide +kernel
theorem dX6_init_1 : decode cX6_init 1 = .ok (.invokespecial 3, 3) := by decide +kernel
theorem dX6_init_4 : decode cX6_init 4 = .ok (.aload_n 0, 1) := by decide +kernel
theorem dX6_init_5 : decode cX6_init 5 = .ok (.bipush 60, 2) := by decide +kernel
theorem dX6_init_7 : decode cX6_init 7 = .ok (.newarray .int, 2) := by decide +kernel
theorem dX6_init_9 : decode cX6_init 9 = .ok (.putfield 9, 3) := by decide +kernel
theorem dX6_init_12 : decode cX6_init 12 = .ok (.aload_n 0, 1) := by decide +kernel
theorem dX6_init_13 : decode cX6_init 13 = .ok (.iconst (-1), 1) := by decide +kernel
theorem dX6_init_14 : decode cX6_init 14 = .ok (.putfield 15, 3) := by decide +kernel
theorem dX6_init_17 : decode cX6_init 17 = .ok (.return_, 1) := by decide +kernel
theorem dX6_isNothing_0 : decode cX6_isNothing 0 = .ok (.aload_n 0, 1) := by decide +kernel
theorem dX6_isNothing_1 : decode cX6_isNothing 1 = .ok (.getfield 15, 3) := by decide +kernel
theorem dX6_isNothing_4 : decode cX6_isNothing 4 = .ok (.iconst (-1), 1) := by decide +kernel
theorem dX6_isNothing_5 : decode cX6_isNothing 5 = .ok (.if_icmp .ne 7, 3) := by decide +kernel
theorem dX6_isNothing_8 : decode cX6_isNothing 8 = .ok (.iconst 1, 1) := by decide +kernel
theorem dX6_isNothing_9 : decode cX6_isNothing 9 = .ok (.goto 4, 3) := by decide +kernel
theorem dX6_isNothing_12 : decode cX6_isNothing 12 = .ok (.iconst 0, 1) := by decide +kernel
theorem dX6_isNothing_13 : decode cX6_isNothing 13 = .ok (.ireturn, 1) := by decide +kernel
theorem dX6_renew_0 : decode cX6_renew 0 = .ok (.aload_n 0, 1) := by decide +kernel
theorem dX6_renew_1 : decode cX6_renew 1 = .ok (.iload_n 1, 1) := by decide +kernel
theorem dX6_renew_2 : decode cX6_renew 2 = .ok (.putfield 15, 3) := by decide +kernel
theorem dX6_renew_5 : decode cX6_renew 5 = .ok (.aload_n 0, 1) := by decide +kernel
theorem dX6_renew_6 : decode cX6_renew 6 = .ok (.iload_n 2, 1) := by decide +kernel
theorem dX6_renew_7 : decode cX6_renew 7 = .ok (.putfield 19, 3) := by decide +kernel
theorem dX6_renew_10 : decode cX6_renew 10 = .ok (.iconst 0, 1) := by decide +kernel
theorem dX6_renew_11 : decode cX6_renew 11 = .ok (.istore_n 3, 1) := by decide +kernel
theorem dX6_renew_12 : decode cX6_renew 12 = .ok (.iload_n 3, 1) := by decide +kernel
theorem dX6_renew_13 : decode cX6_renew 13 = .ok (.bipush 60, 2) := by decide +kernel
theorem dX6_renew_15 : decode cX6_renew 15 = .ok (.if_icmp .ge 16, 3) := by decide +kernel
theorem dX6_renew_18 : decode cX6_renew 18 = .ok (.aload_n 0, 1) := by decide +kernel
theorem dX6_renew_19 : decode cX6_renew 19 = .ok (.getfield 9, 3) := by decide +kernel
theorem dX6_renew_22 : decode cX6_renew 22 = .ok (.iload_n 3, 1) := by decide +kernel
theorem dX6_renew_23 : decode cX6_renew 23 = .ok (.iconst 0, 1) := by decide +kernel
theorem dX6_renew_24 : decode cX6_renew 24 = .ok (.iastore, 1) := by decide +kernel
theorem dX6_renew_25 : decode cX6_renew 25 = .ok (.iinc 3 1, 3) := by decide +kernel
theorem dX6_renew_28 : decode cX6_renew 28 = .ok (.goto (-16), 3) := by decide +kernel
theorem dX6_renew_31 : decode cX6_renew 31 = .ok (.return_, 1) := by decide +kernel
theorem dX6_cut_0 : decode cX6_cut 0 = .ok (.aload_n 0, 1) := by decide +kernel
theorem dX6_cut_1 : decode cX6_cut 1 = .ok (.getfield 15, 3) := by decide +kernel
theorem dX6_cut_4 : decode cX6_cut 4 = .ok (.lookupswitch 34 #[(0, 28), (1, 31)], 28) := by decide +kernel
theorem dX6_cut_32 : decode cX6_cut 32 = .ok (.iload_n 1, 1) := by decide +kernel
theorem dX6_cut_33 : decode cX6_cut 33 = .ok (.i2b, 1) := by decide +kernel
theorem dX6_cut_34 : decode cX6_cut 34 = .ok (.ireturn, 1) := by decide +kernel
theorem dX6_cut_35 : decode cX6_cut 35 = .ok (.iload_n 1, 1) := by decide +kernel
theorem dX6_cut_36 : decode cX6_cut 36 = .ok (.i2s, 1) := by decide +kernel
theorem dX6_cut_37 : decode cX6_cut 37 = .ok (.ireturn, 1) := by decide +kernel
theorem dX6_cut_38 : decode cX6_cut 38 = .ok (.iload_n 1, 1) := by decide +kernel
theorem dX6_cut_39 : decode cX6_cut 39 = .ok (.ireturn, 1) := by decide +kernel
theorem dX6_faultAs_0 : decode cX6_faultAs 0 = .ok (.aload_n 0, 1) := by decide +kernel
theorem dX6_faultAs_1 : decode cX6_faultAs 1 = .ok (.invokevirtual 22, 3) := by decide +kernel
theorem dX6_faultAs_4 : decode cX6_faultAs 4 = .ok (.ifCond .eq 5, 3) := by decide +kernel
theorem dX6_faultAs_7 : decode cX6_faultAs 7 = .ok (.iconst 1, 1) := by decide +kernel
theorem dX6_faultAs_8 : decode cX6_faultAs 8 = .ok (.ireturn, 1) := by decide +kernel
theorem dX6_faultAs_9 : decode cX6_faultAs 9 = .ok (.aload_n 0, 1) := by decide +kernel
theorem dX6_faultAs_10 : decode cX6_faultAs 10 = .ok (.getfield 15, 3) := by decide +kernel
theorem dX6_faultAs_13 : decode cX6_faultAs 13 = .ok (.iload_n 1, 1) := by decide +kernel
theorem dX6_faultAs_14 : decode cX6_faultAs 14 = .ok (.if_icmp .ne 7, 3) := by decide +kernel
theorem dX6_faultAs_17 : decode cX6_faultAs 17 = .ok (.iconst 0, 1) := by decide +kernel
theorem dX6_faultAs_18 : decode cX6_faultAs 18 = .ok (.goto 4, 3) := by decide +kernel
theorem dX6_faultAs_21 : decode cX6_faultAs 21 = .ok (.iconst 2, 1) := by decide +kernel
theorem dX6_faultAs_22 : decode cX6_faultAs 22 = .ok (.ireturn, 1) := by decide +kernel
theorem dX6_has_0 : decode cX6_has 0 = .ok (.iload_n 1, 1) := by decide +kernel
theorem dX6_has_1 : decode cX6_has 1 = .ok (.iconst 0, 1) := by decide +kernel
theorem dX6_has_2 : decode cX6_has 2 = .ok (.aload_n 0, 1) := by decide +kernel
theorem dX6_has_3 : decode cX6_has 3 = .ok (.getfield 19, 3) := by decide +kernel
theorem dX6_has_6 : decode cX6_has 6 = .ok (.invokestatic 26, 3) := by decide +kernel
theorem dX6_has_9 : decode cX6_has 9 = .ok (.ifCond .eq 21, 3) := by decide +kernel
theorem dX6_has_12 : decode cX6_has 12 = .ok (.iload_n 2, 1) := by decide +kernel
theorem dX6_has_13 : decode cX6_has 13 = .ok (.iconst 0, 1) := by decide +kernel
theorem dX6_has_14 : decode cX6_has 14 = .ok (.aload_n 0, 1) := by decide +kernel
theorem dX6_has_15 : decode cX6_has 15 = .ok (.getfield 19, 3) := by decide +kernel
theorem dX6_has_18 : decode cX6_has 18 = .ok (.iload_n 1, 1) := by decide +kernel
theorem dX6_has_19 : decode cX6_has 19 = .ok (.isub, 1) := by decide +kernel
theorem dX6_has_20 : decode cX6_has 20 = .ok (.invokestatic 26, 3) := by decide +kernel
theorem dX6_has_23 : decode cX6_has 23 = .ok (.ifCond .eq 7, 3) := by decide +kernel
theorem dX6_has_26 : decode cX6_has 26 = .ok (.iconst 1, 1) := by decide +kernel
theorem dX6_has_27 : decode cX6_has 27 = .ok (.goto 4, 3) := by decide +kernel
theorem dX6_has_30 : decode cX6_has 30 = .ok (.iconst 0, 1) := by decide +kernel
theorem dX6_has_31 : decode cX6_has 31 = .ok (.ireturn, 1) := by decide +kernel
theorem dX7_init_0 : decode cX7_init 0 = .ok (.aload_n 0, 1) := by decide +kernel
theorem dX7_init_1 : decode cX7_init 1 = .ok (.invokespecial 3, 3) := by decide +kernel
theorem dX7_init_4 : decode cX7_init 4 = .ok (.aload_n 0, 1) := by decide +kernel
theorem dX7_init_5 : decode cX7_init 5 = .ok (.iconst 4, 1) := by decide +kernel
theorem dX7_init_6 : decode cX7_init 6 = .ok (.newarray .int, 2) := by decide +kernel
theorem dX7_init_8 : decode cX7_init 8 = .ok (.putfield 9, 3) := by decide +kernel
theorem dX7_init_11 : decode cX7_init 11 = .ok (.aload_n 0, 1) := by decide +kernel
theorem dX7_init_12 : decode cX7_init 12 = .ok (.iconst 4, 1) := by decide +kernel
theorem dX7_init_13 : decode cX7_init 13 = .ok (.newarray .int, 2) := by decide +kernel
theorem dX7_init_15 : decode cX7_init 15 = .ok (.putfield 15, 3) := by decide +kernel
theorem dX7_init_18 : decode cX7_init 18 = .ok (.aload_n 0, 1) := by decide +kernel
theorem dX7_init_19 : decode cX7_init 19 = .ok (.bipush 24, 2) := by decide +kernel
theorem dX7_init_21 : decode cX7_init 21 = .ok (.newarray .int, 2) := by decide +kernel
theorem dX7_init_23 : decode cX7_init 23 = .ok (.putfield 18, 3) := by decide +kernel
theorem dX7_init_26 : decode cX7_init 26 = .ok (.return_, 1) := by decide +kernel
theorem dX7_firstFault_0 : decode cX7_firstFault 0 = .ok (.aload_n 0, 1) := by decide +kernel
theorem dX7_firstFault_1 : decode cX7_firstFault 1 = .ok (.iconst 0, 1) := by decide +kernel
theorem dX7_firstFault_2 : decode cX7_firstFault 2 = .ok (.putfield 21, 3) := by decide +kernel
theorem dX7_firstFault_5 : decode cX7_firstFault 5 = .ok (.aload_n 0, 1) := by decide +kernel
theorem dX7_firstFault_6 : decode cX7_firstFault 6 = .ok (.iconst 0, 1) := by decide +kernel
theorem dX7_firstFault_7 : decode cX7_firstFault 7 = .ok (.putfield 25, 3) := by decide +kernel
theorem dX7_firstFault_10 : decode cX7_firstFault 10 = .ok (.aload_n 0, 1) := by decide +kernel
theorem dX7_firstFault_11 : decode cX7_firstFault 11 = .ok (.iconst 0, 1) := by decide +kernel
theorem dX7_firstFault_12 : decode cX7_firstFault 12 = .ok (.putfield 28, 3) := by decide +kernel
theorem dX7_firstFault_15 : decode cX7_firstFault 15 = .ok (.iconst 0, 1) := by decide +kernel
theorem dX7_firstFault_16 : decode cX7_firstFault 16 = .ok (.istore 4, 2) := by decide +kernel
theorem dX7_firstFault_18 : decode cX7_firstFault 18 = .ok (.iload 4, 2) := by decide +kernel
theorem dX7_firstFault_20 : decode cX7_firstFault 20 = .ok (.iload_n 3, 1) := by decide +kernel
theorem dX7_firstFault_21 : decode cX7_firstFault 21 = .ok (.if_icmp .ge 28, 3) := by decide +kernel
theorem dX7_firstFault_24 : decode cX7_firstFault 24 = .ok (.aload_n 0, 1) := by decide +kernel
theorem dX7_firstFault_25 : decode cX7_firstFault 25 = .ok (.aload_n 1, 1) := by decide +kernel
theorem dX7_firstFault_26 : decode cX7_firstFault 26 = .ok (.getfield 31, 3) := by decide +kernel
theorem dX7_firstFault_29 : decode cX7_firstFault 29 = .ok (.iload_n 2, 1) := by decide +kernel
theorem dX7_firstFault_30 : decode cX7_firstFault 30 = .ok (.iload 4, 2) := by decide +kernel
theorem dX7_firstFault_32 : decode cX7_firstFault 32 = .ok (.iadd, 1) := by decide +kernel
theorem dX7_firstFault_33 : decode cX7_firstFault 33 = .ok (.iaload, 1) := by decide +kernel
theorem dX7_firstFault_34 : decode cX7_firstFault 34 = .ok (.invokevirtual 36, 3) := by decide +kernel
theorem dX7_firstFault_37 : decode cX7_firstFault 37 = .ok (.ifCond .ne 6, 3) := by decide +kernel
theorem dX7_firstFault_40 : decode cX7_firstFault 40 = .ok (.iload 4, 2) := by decide +kernel
theorem dX7_firstFault_42 : decode cX7_firstFault 42 = .ok (.ireturn, 1) := by decide +kernel
theorem dX7_firstFault_43 : decode cX7_firstFault 43 = .ok (.iinc 4 1, 3) := by decide +kernel
theorem dX7_firstFault_46 : decode cX7_firstFault 46 = .ok (.goto (-28), 3) := by decide +kernel
theorem dX7_firstFault_49 : decode cX7_firstFault 49 = .ok (.aload_n 0, 1) := by decide +kernel
theorem dX7_firstFault_50 : decode cX7_firstFault 50 = .ok (.getfield 28, 3) := by decide +kernel
theorem dX7_firstFault_53 : decode cX7_firstFault 53 = .ok (.iconst 5, 1) := by decide +kernel
theorem dX7_firstFault_54 : decode cX7_firstFault 54 = .ok (.if_icmp .ne 14, 3) := by decide +kernel
theorem dX7_firstFault_57 : decode cX7_firstFault 57 = .ok (.aload_n 0, 1) := by decide +kernel
theorem dX7_firstFault_58 : decode cX7_firstFault 58 = .ok (.getfield 25, 3) := by decide +kernel
theorem dX7_firstFault_61 : decode cX7_firstFault 61 = .ok (.ifCond .le 7, 3) := by decide +kernel
theorem dX7_firstFault_64 : decode cX7_firstFault 64 = .ok (.iconst (-1), 1) := by decide +kernel
theorem dX7_firstFault_65 : decode cX7_firstFault 65 = .ok (.goto 4, 3) := by decide +kernel
theorem dX7_firstFault_68 : decode cX7_firstFault 68 = .ok (.iload_n 3, 1) := by decide +kernel
theorem dX7_firstFault_69 : decode cX7_firstFault 69 = .ok (.ireturn, 1) := by decide +kernel
theorem dX7_goesOn_0 : decode cX7_goesOn 0 = .ok (.aload_n 0, 1) := by decide +kernel
theorem dX7_goesOn_1 : decode cX7_goesOn 1 = .ok (.getfield 28, 3) := by decide +kernel
theorem dX7_goesOn_4 : decode cX7_goesOn 4 = .ok (.tableswitch 88 0 4 #[36, 53, 70, 76, 82], 36) := by decide +kernel
theorem dX7_goesOn_40 : decode cX7_goesOn 40 = .ok (.aload_n 0, 1) := by decide +kernel
theorem dX7_goesOn_41 : decode cX7_goesOn 41 = .ok (.iconst 1, 1) := by decide +kernel
theorem dX7_goesOn_42 : decode cX7_goesOn 42 = .ok (.iload_n 1, 1) := by decide +kernel
theorem dX7_goesOn_43 : decode cX7_goesOn 43 = .ok (.bipush 100, 2) := by decide +kernel
theorem dX7_goesOn_45 : decode cX7_goesOn 45 = .ok (.if_icmp .ne 7, 3) := by decide +kernel
theorem dX7_goesOn_48 : decode cX7_goesOn 48 = .ok (.iconst 1, 1) := by decide +kernel
theorem dX7_goesOn_49 : decode cX7_goesOn 49 = .ok (.goto 4, 3) := by decide +kernel
theorem dX7_goesOn_52 : decode cX7_goesOn 52 = .ok (.iconst 0, 1) := by decide +kernel
theorem dX7_goesOn_53 : decode cX7_goesOn 53 = .ok (.invokevirtual 40, 3) := by decide +kernel
theorem dX7_goesOn_56 : decode cX7_goesOn 56 = .ok (.ireturn, 1) := by decide +kernel
theorem dX7_goesOn_57 : decode cX7_goesOn 57 = .ok (.aload_n 0, 1) := by decide +kernel
theorem dX7_goesOn_58 : decode cX7_goesOn 58 = .ok (.iconst 2, 1) := by decide +kernel
theorem dX7_goesOn_59 : decode cX7_goesOn 59 = .ok (.iload_n 1, 1) := by decide +kernel
theorem dX7_goesOn_60 : decode cX7_goesOn 60 = .ok (.bipush 59, 2) := by decide +kernel
theorem dX7_goesOn_62 : decode cX7_goesOn 62 = .ok (.if_icmp .ne 7, 3) := by decide +kernel
theorem dX7_goesOn_65 : decode cX7_goesOn 65 = .ok (.iconst 1, 1) := by decide +kernel
theorem dX7_goesOn_66 : decode cX7_goesOn 66 = .ok (.goto 4, 3) := by decide +kernel
theorem dX7_goesOn_69 : decode cX7_goesOn 69 = .ok (.iconst 0, 1) := by decide +kernel
theorem dX7_goesOn_70 : decode cX7_goesOn 70 = .ok (.invokevirtual 40, 3) := by decide +kernel
theorem dX7_goesOn_73 : decode cX7_goesOn 73 = .ok (.ireturn, 1) := by decide +kernel
theorem dX7_goesOn_74 : decode cX7_goesOn 74 = .ok (.aload_n 0, 1) := by decide +kernel
theorem dX7_goesOn_75 : decode cX7_goesOn 75 = .ok (.iload_n 1, 1) := by decide +kernel
theorem dX7_goesOn_76 : decode cX7_goesOn 76 = .ok (.invokevirtual 44, 3) := by decide +kernel
theorem dX7_goesOn_79 : decode cX7_goesOn 79 = .ok (.ireturn, 1) := by decide +kernel
theorem dX7_goesOn_80 : decode cX7_goesOn 80 = .ok (.aload_n 0, 1) := by decide +kernel
theorem dX7_goesOn_81 : decode cX7_goesOn 81 = .ok (.iload_n 1, 1) := by decide +kernel
theorem dX7_goesOn_82 : decode cX7_goesOn 82 = .ok (.invokevirtual 47, 3) := by decide +kernel
theorem dX7_goesOn_85 : decode cX7_goesOn 85 = .ok (.ireturn, 1) := by decide +kernel
theorem dX7_goesOn_86 : decode cX7_goesOn 86 = .ok (.aload_n 0, 1) := by decide +kernel
theorem dX7_goesOn_87 : decode cX7_goesOn 87 = .ok (.iload_n 1, 1) := by decide +kernel
theorem dX7_goesOn_88 : decode cX7_goesOn 88 = .ok (.invokevirtual 50, 3) := by decide +kernel
theorem dX7_goesOn_91 : decode cX7_goesOn 91 = .ok (.ireturn, 1) := by decide +kernel
theorem dX7_goesOn_92 : decode cX7_goesOn 92 = .ok (.aload_n 0, 1) := by decide +kernel
theorem dX7_goesOn_93 : decode cX7_goesOn 93 = .ok (.iload_n 1, 1) := by decide +kernel
theorem dX7_goesOn_94 : decode cX7_goesOn 94 = .ok (.invokevirtual 53, 3) := by decide +kernel
theorem dX7_goesOn_97 : decode cX7_goesOn 97 = .ok (.ireturn, 1) := by decide +kernel
theorem dX7_goesTo_0 : decode cX7_goesTo 0 = .ok (.aload_n 0, 1) := by decide +kernel
theorem dX7_goesTo_1 : decode cX7_goesTo 1 = .ok (.iload_n 1, 1) := by decide +kernel
theorem dX7_goesTo_2 : decode cX7_goesTo 2 = .ok (.putfield 28, 3) := by decide +kernel
theorem dX7_goesTo_5 : decode cX7_goesTo 5 = .ok (.iload_n 2, 1) := by decide +kernel
theorem dX7_goesTo_6 : decode cX7_goesTo 6 = .ok (.ireturn, 1) := by decide +kernel
theorem dX7_takesKind_0 : decode cX7_takesKind 0 = .ok (.iload_n 1, 1) := by decide +kernel
theorem dX7_takesKind_1 : decode cX7_takesKind 1 = .ok (.bipush 113, 2) := by decide +kernel
theorem dX7_takesKind_3 : decode cX7_takesKind 3 = .ok (.if_icmp .ne 7, 3) := by decide +kernel
theorem dX7_takesKind_6 : decode cX7_takesKind 6 = .ok (.iconst 0, 1) := by decide +kernel
theorem dX7_takesKind_7 : decode cX7_takesKind 7 = .ok (.goto 25, 3) := by decide +kernel
theorem dX7_takesKind_10 : decode cX7_takesKind 10 = .ok (.iload_n 1, 1) := by decide +kernel
theorem dX7_takesKind_11 : decode cX7_takesKind 11 = .ok (.bipush 99, 2) := by decide +kernel
theorem dX7_takesKind_13 : decode cX7_takesKind 13 = .ok (.if_icmp .ne 7, 3) := by decide +kernel
theorem dX7_takesKind_16 : decode cX7_takesKind 16 = .ok (.iconst 1, 1) := by decide +kernel
theorem dX7_takesKind_17 : decode cX7_takesKind 17 = .ok (.goto 15, 3) := by decide +kernel
theorem dX7_takesKind_20 : decode cX7_takesKind 20 = .ok (.iload_n 1, 1) := by decide +kernel
theorem dX7_takesKind_21 : decode cX7_takesKind 21 = .ok (.bipush 114, 2) := by decide +kernel
theorem dX7_takesKind_23 : decode cX7_takesKind 23 = .ok (.if_icmp .ne 7, 3) := by decide +kernel
theorem dX7_takesKind_26 : decode cX7_takesKind 26 = .ok (.iconst 2, 1) := by decide +kernel
theorem dX7_takesKind_27 : decode cX7_takesKind 27 = .ok (.goto 5, 3) := by decide +kernel
theorem dX7_takesKind_30 : decode cX7_takesKind 30 = .ok (.bipush (-9), 2) := by decide +kernel
theorem dX7_takesKind_32 : decode cX7_takesKind 32 = .ok (.istore_n 2, 1) := by decide +kernel
theorem dX7_takesKind_33 : decode cX7_takesKind 33 = .ok (.aload_n 0, 1) := by decide +kernel
theorem dX7_takesKind_34 : decode cX7_takesKind 34 = .ok (.getfield 9, 3) := by decide +kernel
theorem dX7_takesKind_37 : decode cX7_takesKind 37 = .ok (.aload_n 0, 1) := by decide +kernel
theorem dX7_takesKind_38 : decode cX7_takesKind 38 = .ok (.getfield 21, 3) := by decide +kernel
theorem dX7_takesKind_41 : decode cX7_takesKind 41 = .ok (.iload_n 2, 1) := by decide +kernel
theorem dX7_takesKind_42 : decode cX7_takesKind 42 = .ok (.iastore, 1) := by decide +kernel
theorem dX7_takesKind_43 : decode cX7_takesKind 43 = .ok (.aload_n 0, 1) := by decide +kernel
theorem dX7_takesKind_44 : decode cX7_takesKind 44 = .ok (.iconst 3, 1) := by decide +kernel
theorem dX7_takesKind_45 : decode cX7_takesKind 45 = .ok (.iload_n 2, 1) := by decide +kernel
theorem dX7_takesKind_46 : decode cX7_takesKind 46 = .ok (.bipush (-9), 2) := by decide +kernel
theorem dX7_takesKind_48 : decode cX7_takesKind 48 = .ok (.if_icmp .eq 7, 3) := by decide +kernel
theorem dX7_takesKind_51 : decode cX7_takesKind 51 = .ok (.iconst 1, 1) := by decide +kernel
theorem dX7_takesKind_52 : decode cX7_takesKind 52 = .ok (.goto 4, 3) := by decide +kernel
theorem dX7_takesKind_55 : decode cX7_takesKind 55 = .ok (.iconst 0, 1) := by decide +kernel
theorem dX7_takesKind_56 : decode cX7_takesKind 56 = .ok (.invokevirtual 40, 3) := by decide +kernel
theorem dX7_takesKind_59 : decode cX7_takesKind 59 = .ok (.ireturn, 1) := by decide +kernel
theorem dX7_takesFrames_0 : decode cX7_takesFrames 0 = .ok (.aload_n 0, 1) := by decide +kernel
theorem dX7_takesFrames_1 : decode cX7_takesFrames 1 = .ok (.getfield 15, 3) := by decide +kernel
theorem dX7_takesFrames_4 : decode cX7_takesFrames 4 = .ok (.aload_n 0, 1) := by decide +kernel
theorem dX7_takesFrames_5 : decode cX7_takesFrames 5 = .ok (.getfield 21, 3) := by decide +kernel
theorem dX7_takesFrames_8 : decode cX7_takesFrames 8 = .ok (.iload_n 1, 1) := by decide +kernel
theorem dX7_takesFrames_9 : decode cX7_takesFrames 9 = .ok (.bipush 48, 2) := by decide +kernel
theorem dX7_takesFrames_11 : decode cX7_takesFrames 11 = .ok (.isub, 1) := by decide +kernel
theorem dX7_takesFrames_12 : decode cX7_takesFrames 12 = .ok (.iastore, 1) := by decide +kernel
theorem dX7_takesFrames_13 : decode cX7_takesFrames 13 = .ok (.aload_n 0, 1) := by decide +kernel
theorem dX7_takesFrames_14 : decode cX7_takesFrames 14 = .ok (.dup, 1) := by decide +kernel
theorem dX7_takesFrames_15 : decode cX7_takesFrames 15 = .ok (.getfield 21, 3) := by decide +kernel
theorem dX7_takesFrames_18 : decode cX7_takesFrames 18 = .ok (.iconst 1, 1) := by decide +kernel
theorem dX7_takesFrames_19 : decode cX7_takesFrames 19 = .ok (.iadd, 1) := by decide +kernel
theorem dX7_takesFrames_20 : decode cX7_takesFrames 20 = .ok (.putfield 21, 3) := by decide +kernel
theorem dX7_takesFrames_23 : decode cX7_takesFrames 23 = .ok (.aload_n 0, 1) := by decide +kernel
theorem dX7_takesFrames_24 : decode cX7_takesFrames 24 = .ok (.iconst 4, 1) := by decide +kernel
theorem dX7_takesFrames_25 : decode cX7_takesFrames 25 = .ok (.iload_n 1, 1) := by decide +kernel
theorem dX7_takesFrames_26 : decode cX7_takesFrames 26 = .ok (.bipush 49, 2) := by decide +kernel
theorem dX7_takesFrames_28 : decode cX7_takesFrames 28 = .ok (.bipush 53, 2) := by decide +kernel
theorem dX7_takesFrames_30 : decode cX7_takesFrames 30 = .ok (.invokestatic 56, 3) := by decide +kernel
theorem dX7_takesFrames_33 : decode cX7_takesFrames 33 = .ok (.invokevirtual 40, 3) := by decide +kernel
theorem dX7_takesFrames_36 : decode cX7_takesFrames 36 = .ok (.ireturn, 1) := by decide +kernel
theorem dX7_goesBehindDesk_0 : decode cX7_goesBehindDesk 0 = .ok (.iload_n 1, 1) := by decide +kernel
theorem dX7_goesBehindDesk_1 : decode cX7_goesBehindDesk 1 = .ok (.bipush 59, 2) := by decide +kernel
theorem dX7_goesBehindDesk_3 : decode cX7_goesBehindDesk 3 = .ok (.if_icmp .ne 22, 3) := by decide +kernel
theorem dX7_goesBehindDesk_6 : decode cX7_goesBehindDesk 6 = .ok (.aload_n 0, 1) := by decide +kernel
theorem dX7_goesBehindDesk_7 : decode cX7_goesBehindDesk 7 = .ok (.iconst 2, 1) := by decide +kernel
theorem dX7_goesBehindDesk_8 : decode cX7_goesBehindDesk 8 = .ok (.aload_n 0, 1) := by decide +kernel
theorem dX7_goesBehindDesk_9 : decode cX7_goesBehindDesk 9 = .ok (.getfield 21, 3) := by decide +kernel
theorem dX7_goesBehindDesk_12 : decode cX7_goesBehindDesk 12 = .ok (.iconst 4, 1) := by decide +kernel
theorem dX7_goesBehindDesk_13 : decode cX7_goesBehindDesk 13 = .ok (.if_icmp .ge 7, 3) := by decide +kernel
theorem dX7_goesBehindDesk_16 : decode cX7_goesBehindDesk 16 = .ok (.iconst 1, 1) := by decide +kernel
theorem dX7_goesBehindDesk_17 : decode cX7_goesBehindDesk 17 = .ok (.goto 4, 3) := by decide +kernel
theorem dX7_goesBehindDesk_20 : decode cX7_goesBehindDesk 20 = .ok (.iconst 0, 1) := by decide +kernel
theorem dX7_goesBehindDesk_21 : decode cX7_goesBehindDesk 21 = .ok (.invokevirtual 40, 3) := by decide +kernel
theorem dX7_goesBehindDesk_24 : decode cX7_goesBehindDesk 24 = .ok (.ireturn, 1) := by decide +kernel
theorem dX7_goesBehindDesk_25 : decode cX7_goesBehindDesk 25 = .ok (.aload_n 0, 1) := by decide +kernel
theorem dX7_goesBehindDesk_26 : decode cX7_goesBehindDesk 26 = .ok (.iconst 5, 1) := by decide +kernel
theorem dX7_goesBehindDesk_27 : decode cX7_goesBehindDesk 27 = .ok (.iload_n 1, 1) := by decide +kernel
theorem dX7_goesBehindDesk_28 : decode cX7_goesBehindDesk 28 = .ok (.bipush 44, 2) := by decide +kernel
theorem dX7_goesBehindDesk_30 : decode cX7_goesBehindDesk 30 = .ok (.if_icmp .ne 7, 3) := by decide +kernel
theorem dX7_goesBehindDesk_33 : decode cX7_goesBehindDesk 33 = .ok (.iconst 1, 1) := by decide +kernel
theorem dX7_goesBehindDesk_34 : decode cX7_goesBehindDesk 34 = .ok (.goto 4, 3) := by decide +kernel
theorem dX7_goesBehindDesk_37 : decode cX7_goesBehindDesk 37 = .ok (.iconst 0, 1) := by decide +kernel
theorem dX7_goesBehindDesk_38 : decode cX7_goesBehindDesk 38 = .ok (.invokevirtual 40, 3) := by decide +kernel
theorem dX7_goesBehindDesk_41 : decode cX7_goesBehindDesk 41 = .ok (.ireturn, 1) := by decide +kernel
theorem dX7_takesAsk_0 : decode cX7_takesAsk 0 = .ok (.aload_n 0, 1) := by decide +kernel
theorem dX7_takesAsk_1 : decode cX7_takesAsk 1 = .ok (.getfield 25, 3) := by decide +kernel
theorem dX7_takesAsk_4 : decode cX7_takesAsk 4 = .ok (.bipush 24, 2) := by decide +kernel
theorem dX7_takesAsk_6 : decode cX7_takesAsk 6 = .ok (.if_icmp .ge 13, 3) := by decide +kernel
theorem dX7_takesAsk_9 : decode cX7_takesAsk 9 = .ok (.iload_n 1, 1) := by decide +kernel
theorem dX7_takesAsk_10 : decode cX7_takesAsk 10 = .ok (.bipush 97, 2) := by decide +kernel
theorem dX7_takesAsk_12 : decode cX7_takesAsk 12 = .ok (.isub, 1) := by decide +kernel
theorem dX7_takesAsk_13 : decode cX7_takesAsk 13 = .ok (.invokestatic 60, 3) := by decide +kernel
theorem dX7_takesAsk_16 : decode cX7_takesAsk 16 = .ok (.ifCond .ne 5, 3) := by decide +kernel
theorem dX7_takesAsk_19 : decode cX7_takesAsk 19 = .ok (.iconst 0, 1) := by decide +kernel
theorem dX7_takesAsk_20 : decode cX7_takesAsk 20 = .ok (.ireturn, 1) := by decide +kernel
theorem dX7_takesAsk_21 : decode cX7_takesAsk 21 = .ok (.aload_n 0, 1) := by decide +kernel
theorem dX7_takesAsk_22 : decode cX7_takesAsk 22 = .ok (.getfield 18, 3) := by decide +kernel
theorem dX7_takesAsk_25 : decode cX7_takesAsk 25 = .ok (.aload_n 0, 1) := by decide +kernel
theorem dX7_takesAsk_26 : decode cX7_takesAsk 26 = .ok (.getfield 25, 3) := by decide +kernel
theorem dX7_takesAsk_29 : decode cX7_takesAsk 29 = .ok (.iload_n 1, 1) := by decide +kernel
theorem dX7_takesAsk_30 : decode cX7_takesAsk 30 = .ok (.bipush 97, 2) := by decide +kernel
theorem dX7_takesAsk_32 : decode cX7_takesAsk 32 = .ok (.isub, 1) := by decide +kernel
theorem dX7_takesAsk_33 : decode cX7_takesAsk 33 = .ok (.iastore, 1) := by decide +kernel
theorem dX7_takesAsk_34 : decode cX7_takesAsk 34 = .ok (.aload_n 0, 1) := by decide +kernel
theorem dX7_takesAsk_35 : decode cX7_takesAsk 35 = .ok (.dup, 1) := by decide +kernel
theorem dX7_takesAsk_36 : decode cX7_takesAsk 36 = .ok (.getfield 25, 3) := by decide +kernel
theorem dX7_takesAsk_39 : decode cX7_takesAsk 39 = .ok (.iconst 1, 1) := by decide +kernel
theorem dX7_takesAsk_40 : decode cX7_takesAsk 40 = .ok (.iadd, 1) := by decide +kernel
theorem dX7_takesAsk_41 : decode cX7_takesAsk 41 = .ok (.putfield 25, 3) := by decide +kernel
theorem dX7_takesAsk_44 : decode cX7_takesAsk 44 = .ok (.iconst 1, 1) := by decide +kernel
theorem dX7_takesAsk_45 : decode cX7_takesAsk 45 = .ok (.ireturn, 1) := by decide +kernel
theorem dX8_init_0 : decode cX8_init 0 = .ok (.aload_n 0, 1) := by decide +kernel
theorem dX8_init_1 : decode cX8_init 1 = .ok (.invokespecial 1, 3) := by decide +kernel
theorem dX8_init_4 : decode cX8_init 4 = .ok (.return_, 1) := by decide +kernel
theorem dX8_leave_0 : decode cX8_leave 0 = .ok (.aload_n 0, 1) := by decide +kernel
theorem dX8_leave_1 : decode cX8_leave 1 = .ok (.bipush 31, 2) := by decide +kernel
theorem dX8_leave_3 : decode cX8_leave 3 = .ok (.aload_n 0, 1) := by decide +kernel
theorem dX8_leave_4 : decode cX8_leave 4 = .ok (.getfield 7, 3) := by decide +kernel
theorem dX8_leave_7 : decode cX8_leave 7 = .ok (.imul, 1) := by decide +kernel
theorem dX8_leave_8 : decode cX8_leave 8 = .ok (.iload_n 1, 1) := by decide +kernel
theorem dX8_leave_9 : decode cX8_leave 9 = .ok (.iadd, 1) := by decide +kernel
theorem dX8_leave_10 : decode cX8_leave 10 = .ok (.putfield 7, 3) := by decide +kernel
theorem dX8_leave_13 : decode cX8_leave 13 = .ok (.return_, 1) := by decide +kernel
theorem dX9_init_0 : decode cX9_init 0 = .ok (.aload_n 0, 1) := by decide +kernel
theorem dX9_init_1 : decode cX9_init 1 = .ok (.invokespecial 3, 3) := by decide +kernel
theorem dX9_init_4 : decode cX9_init 4 = .ok (.aload_n 0, 1) := by decide +kernel
theorem dX9_init_5 : decode cX9_init 5 = .ok (.iconst 4, 1) := by decide +kernel
theorem dX9_init_6 : decode cX9_init 6 = .ok (.anewarray 11, 3) := by decide +kernel
theorem dX9_init_9 : decode cX9_init 9 = .ok (.putfield 13, 3) := by decide +kernel
theorem dX9_init_12 : decode cX9_init 12 = .ok (.aload_n 0, 1) := by decide +kernel
theorem dX9_init_13 : decode cX9_init 13 = .ok (.new 17, 3) := by decide +kernel
theorem dX9_init_16 : decode cX9_init 16 = .ok (.dup, 1) := by decide +kernel
theorem dX9_init_17 : decode cX9_init 17 = .ok (.invokespecial 19, 3) := by decide +kernel
theorem dX9_init_20 : decode cX9_init 20 = .ok (.putfield 20, 3) := by decide +kernel
theorem dX9_init_23 : decode cX9_init 23 = .ok (.aload_n 0, 1) := by decide +kernel
theorem dX9_init_24 : decode cX9_init 24 = .ok (.iconst 4, 1) := by decide +kernel
theorem dX9_init_25 : decode cX9_init 25 = .ok (.anewarray 24, 3) := by decide +kernel
theorem dX9_init_28 : decode cX9_init 28 = .ok (.putfield 26, 3) := by decide +kernel
theorem dX9_init_31 : decode cX9_init 31 = .ok (.aload_n 0, 1) := by decide +kernel
theorem dX9_init_32 : decode cX9_init 32 = .ok (.iconst 3, 1) := by decide +kernel
theorem dX9_init_33 : decode cX9_init 33 = .ok (.anewarray 24, 3) := by decide +kernel
theorem dX9_init_36 : decode cX9_init 36 = .ok (.putfield 30, 3) := by decide +kernel
theorem dX9_init_39 : decode cX9_init 39 = .ok (.aload_n 0, 1) := by decide +kernel
theorem dX9_init_40 : decode cX9_init 40 = .ok (.new 33, 3) := by decide +kernel
theorem dX9_init_43 : decode cX9_init 43 = .ok (.dup, 1) := by decide +kernel
theorem dX9_init_44 : decode cX9_init 44 = .ok (.invokespecial 35, 3) := by decide +kernel
theorem dX9_init_47 : decode cX9_init 47 = .ok (.putfield 36, 3) := by decide +kernel
theorem dX9_init_50 : decode cX9_init 50 = .ok (.aload_n 0, 1) := by decide +kernel
theorem dX9_init_51 : decode cX9_init 51 = .ok (.new 40, 3) := by decide +kernel
theorem dX9_init_54 : decode cX9_init 54 = .ok (.dup, 1) := by decide +kernel
theorem dX9_init_55 : decode cX9_init 55 = .ok (.invokespecial 42, 3) := by decide +kernel
theorem dX9_init_58 : decode cX9_init 58 = .ok (.putfield 43, 3) := by decide +kernel
theorem dX9_init_61 : decode cX9_init 61 = .ok (.aload_n 0, 1) := by decide +kernel
theorem dX9_init_62 : decode cX9_init 62 = .ok (.new 47, 3) := by decide +kernel
theorem dX9_init_65 : decode cX9_init 65 = .ok (.dup, 1) := by decide +kernel
theorem dX9_init_66 : decode cX9_init 66 = .ok (.invokespecial 49, 3) := by decide +kernel
theorem dX9_init_69 : decode cX9_init 69 = .ok (.putfield 50, 3) := by decide +kernel
theorem dX9_init_72 : decode cX9_init 72 = .ok (.aload_n 0, 1) := by decide +kernel
theorem dX9_init_73 : decode cX9_init 73 = .ok (.new 54, 3) := by decide +kernel
theorem dX9_init_76 : decode cX9_init 76 = .ok (.dup, 1) := by decide +kernel
theorem dX9_init_77 : decode cX9_init 77 = .ok (.invokespecial 56, 3) := by decide +kernel
theorem dX9_init_80 : decode cX9_init 80 = .ok (.putfield 57, 3) := by decide +kernel
theorem dX9_init_83 : decode cX9_init 83 = .ok (.iconst 0, 1) := by decide +kernel
theorem dX9_init_84 : decode cX9_init 84 = .ok (.istore_n 1, 1) := by decide +kernel
theorem dX9_init_85 : decode cX9_init 85 = .ok (.iload_n 1, 1) := by decide +kernel
theorem dX9_init_86 : decode cX9_init 86 = .ok (.iconst 4, 1) := by decide +kernel
theorem dX9_init_87 : decode cX9_init 87 = .ok (.if_icmp .ge 22, 3) := by decide +kernel
theorem dX9_init_90 : decode cX9_init 90 = .ok (.aload_n 0, 1) := by decide +kernel
theorem dX9_init_91 : decode cX9_init 91 = .ok (.getfield 13, 3) := by decide +kernel
theorem dX9_init_94 : decode cX9_init 94 = .ok (.iload_n 1, 1) := by decide +kernel
theorem dX9_init_95 : decode cX9_init 95 = .ok (.new 11, 3) := by decide +kernel
theorem dX9_init_98 : decode cX9_init 98 = .ok (.dup, 1) := by decide +kernel
theorem dX9_init_99 : decode cX9_init 99 = .ok (.invokespecial 61, 3) := by decide +kernel
theorem dX9_init_102 : decode cX9_init 102 = .ok (.aastore, 1) := by decide +kernel
theorem dX9_init_103 : decode cX9_init 103 = .ok (.iinc 1 1, 3) := by decide +kernel
theorem dX9_init_106 : decode cX9_init 106 = .ok (.goto (-21), 3) := by decide +kernel
theorem dX9_init_109 : decode cX9_init 109 = .ok (.iconst 0, 1) := by decide +kernel
theorem dX9_init_110 : decode cX9_init 110 = .ok (.istore_n 1, 1) := by decide +kernel
theorem dX9_init_111 : decode cX9_init 111 = .ok (.iload_n 1, 1) := by decide +kernel
theorem dX9_init_112 : decode cX9_init 112 = .ok (.iconst 3, 1) := by decide +kernel
theorem dX9_init_113 : decode cX9_init 113 = .ok (.if_icmp .ge 19, 3) := by decide +kernel
theorem dX9_init_116 : decode cX9_init 116 = .ok (.aload_n 0, 1) := by decide +kernel
theorem dX9_init_117 : decode cX9_init 117 = .ok (.getfield 30, 3) := by decide +kernel
theorem dX9_init_120 : decode cX9_init 120 = .ok (.iload_n 1, 1) := by decide +kernel
theorem dX9_init_121 : decode cX9_init 121 = .ok (.iload_n 1, 1) := by decide +kernel
theorem dX9_init_122 : decode cX9_init 122 = .ok (.invokestatic 62, 3) := by decide +kernel
theorem dX9_init_125 : decode cX9_init 125 = .ok (.aastore, 1) := by decide +kernel
theorem dX9_init_126 : decode cX9_init 126 = .ok (.iinc 1 1, 3) := by decide +kernel
theorem dX9_init_129 : decode cX9_init 129 = .ok (.goto (-18), 3) := by decide +kernel
theorem dX9_init_132 : decode cX9_init 132 = .ok (.return_, 1) := by decide +kernel
theorem dX9_room_0 : decode cX9_room 0 = .ok (.iload_n 1, 1) := by decide +kernel
theorem dX9_room_1 : decode cX9_room 1 = .ok (.invokestatic 66, 3) := by decide +kernel
theorem dX9_room_4 : decode cX9_room 4 = .ok (.ifCond .ne 9, 3) := by decide +kernel
theorem dX9_room_7 : decode cX9_room 7 = .ok (.aload_n 0, 1) := by decide +kernel
theorem dX9_room_8 : decode cX9_room 8 = .ok (.iconst (-1), 1) := by decide +kernel
theorem dX9_room_9 : decode cX9_room 9 = .ok (.invokevirtual 70, 3) := by decide +kernel
theorem dX9_room_12 : decode cX9_room 12 = .ok (.ireturn, 1) := by decide +kernel
theorem dX9_room_13 : decode cX9_room 13 = .ok (.iload_n 2, 1) := by decide +kernel
theorem dX9_room_14 : decode cX9_room 14 = .ok (.iconst 0, 1) := by decide +kernel
theorem dX9_room_15 : decode cX9_room 15 = .ok (.iconst 2, 1) := by decide +kernel
theorem dX9_room_16 : decode cX9_room 16 = .ok (.invokestatic 74, 3) := by decide +kernel
theorem dX9_room_19 : decode cX9_room 19 = .ok (.ifCond .ne 10, 3) := by decide +kernel
theorem dX9_room_22 : decode cX9_room 22 = .ok (.aload_n 0, 1) := by decide +kernel
theorem dX9_room_23 : decode cX9_room 23 = .ok (.bipush (-2), 2) := by decide +kernel
theorem dX9_room_25 : decode cX9_room 25 = .ok (.invokevirtual 70, 3) := by decide +kernel
theorem dX9_room_28 : decode cX9_room 28 = .ok (.ireturn, 1) := by decide +kernel
theorem dX9_room_29 : decode cX9_room 29 = .ok (.aload_n 0, 1) := by decide +kernel
theorem dX9_room_30 : decode cX9_room 30 = .ok (.getfield 13, 3) := by decide +kernel
theorem dX9_room_33 : decode cX9_room 33 = .ok (.iload_n 1, 1) := by decide +kernel
theorem dX9_room_34 : decode cX9_room 34 = .ok (.aaload, 1) := by decide +kernel
theorem dX9_room_35 : decode cX9_room 35 = .ok (.astore 5, 2) := by decide +kernel
theorem dX9_room_37 : decode cX9_room 37 = .ok (.aload 5, 2) := by decide +kernel
theorem dX9_room_39 : decode cX9_room 39 = .ok (.iload_n 2, 1) := by decide +kernel
theorem dX9_room_40 : decode cX9_room 40 = .ok (.invokevirtual 78, 3) := by decide +kernel
theorem dX9_room_43 : decode cX9_room 43 = .ok (.istore 6, 2) := by decide +kernel
theorem dX9_room_45 : decode cX9_room 45 = .ok (.iload 6, 2) := by decide +kernel
theorem dX9_room_47 : decode cX9_room 47 = .ok (.ifCond .ne 11, 3) := by decide +kernel
theorem dX9_room_50 : decode cX9_room 50 = .ok (.iload 4, 2) := by decide +kernel
theorem dX9_room_52 : decode cX9_room 52 = .ok (.ifCond .ge 6, 3) := by decide +kernel
theorem dX9_room_55 : decode cX9_room 55 = .ok (.iconst 4, 1) := by decide +kernel
theorem dX9_room_56 : decode cX9_room 56 = .ok (.istore 6, 2) := by decide +kernel
theorem dX9_room_58 : decode cX9_room 58 = .ok (.iload 6, 2) := by decide +kernel
theorem dX9_room_60 : decode cX9_room 60 = .ok (.ifCond .ne 17, 3) := by decide +kernel
theorem dX9_room_63 : decode cX9_room 63 = .ok (.aload 5, 2) := by decide +kernel
theorem dX9_room_65 : decode cX9_room 65 = .ok (.iload_n 3, 1) := by decide +kernel
theorem dX9_room_66 : decode cX9_room 66 = .ok (.iload 4, 2) := by decide +kernel
theorem dX9_room_68 : decode cX9_room 68 = .ok (.invokevirtual 81, 3) := by decide +kernel
theorem dX9_room_71 : decode cX9_room 71 = .ok (.ifCond .ne 6, 3) := by decide +kernel
theorem dX9_room_74 : decode cX9_room 74 = .ok (.iconst 3, 1) := by decide +kernel
theorem dX9_room_75 : decode cX9_room 75 = .ok (.istore 6, 2) := by decide +kernel
theorem dX9_room_77 : decode cX9_room 77 = .ok (.iload 6, 2) := by decide +kernel
theorem dX9_room_79 : decode cX9_room 79 = .ok (.ifCond .eq 10, 3) := by decide +kernel
theorem dX9_room_82 : decode cX9_room 82 = .ok (.aload_n 0, 1) := by decide +kernel
theorem dX9_room_83 : decode cX9_room 83 = .ok (.iload 6, 2) := by decide +kernel
theorem dX9_room_85 : decode cX9_room 85 = .ok (.invokevirtual 85, 3) := by decide +kernel
theorem dX9_room_88 : decode cX9_room 88 = .ok (.ireturn, 1) := by decide +kernel
theorem dX9_room_89 : decode cX9_room 89 = .ok (.aload_n 0, 1) := by decide +kernel
theorem dX9_room_90 : decode cX9_room 90 = .ok (.iconst 0, 1) := by decide +kernel
theorem dX9_room_91 : decode cX9_room 91 = .ok (.putfield 88, 3) := by decide +kernel
theorem dX9_room_94 : decode cX9_room 94 = .ok (.aload_n 0, 1) := by decide +kernel
theorem dX9_room_95 : decode cX9_room 95 = .ok (.getfield 20, 3) := by decide +kernel
theorem dX9_room_98 : decode cX9_room 98 = .ok (.aload 5, 2) := by decide +kernel
theorem dX9_room_100 : decode cX9_room 100 = .ok (.iload_n 3, 1) := by decide +kernel
theorem dX9_room_101 : decode cX9_room 101 = .ok (.iload 4, 2) := by decide +kernel
theorem dX9_room_103 : decode cX9_room 103 = .ok (.invokevirtual 92, 3) := by decide +kernel
theorem dX9_room_106 : decode cX9_room 106 = .ok (.istore 7, 2) := by decide +kernel
theorem dX9_room_108 : decode cX9_room 108 = .ok (.iload 7, 2) := by decide +kernel
theorem dX9_room_110 : decode cX9_room 110 = .ok (.iconst (-1), 1) := by decide +kernel
theorem dX9_room_111 : decode cX9_room 111 = .ok (.if_icmp .eq 9, 3) := by decide +kernel
theorem dX9_room_114 : decode cX9_room 114 = .ok (.bipush (-100), 2) := by decide +kernel
theorem dX9_room_116 : decode cX9_room 116 = .ok (.iload 7, 2) := by decide +kernel
theorem dX9_room_118 : decode cX9_room 118 = .ok (.isub, 1) := by decide +kernel
theorem dX9_room_119 : decode cX9_room 119 = .ok (.ireturn, 1) := by decide +kernel
theorem dX9_room_120 : decode cX9_room 120 = .ok (.aload_n 0, 1) := by decide +kernel
theorem dX9_room_121 : decode cX9_room 121 = .ok (.invokevirtual 96, 3) := by decide +kernel
theorem dX9_room_124 : decode cX9_room 124 = .ok (.aload_n 0, 1) := by decide +kernel
theorem dX9_room_125 : decode cX9_room 125 = .ok (.getfield 99, 3) := by decide +kernel
theorem dX9_room_128 : decode cX9_room 128 = .ok (.ireturn, 1) := by decide +kernel
theorem dX9_ofDesk_0 : decode cX9_ofDesk 0 = .ok (.aload_n 0, 1) := by decide +kernel
theorem dX9_ofDesk_1 : decode cX9_ofDesk 1 = .ok (.iload_n 1, 1) := by decide +kernel
theorem dX9_ofDesk_2 : decode cX9_ofDesk 2 = .ok (.invokevirtual 102, 3) := by decide +kernel
theorem dX9_ofDesk_5 : decode cX9_ofDesk 5 = .ok (.ifCond .ne 5, 3) := by decide +kernel
theorem dX9_ofDesk_8 : decode cX9_ofDesk 8 = .ok (.iconst (-1), 1) := by decide +kernel
theorem dX9_ofDesk_9 : decode cX9_ofDesk 9 = .ok (.ireturn, 1) := by decide +kernel
theorem dX9_ofDesk_10 : decode cX9_ofDesk 10 = .ok (.aload_n 0, 1) := by decide +kernel
theorem dX9_ofDesk_11 : decode cX9_ofDesk 11 = .ok (.getfield 26, 3) := by decide +kernel
theorem dX9_ofDesk_14 : decode cX9_ofDesk 14 = .ok (.iload_n 1, 1) := by decide +kernel
theorem dX9_ofDesk_15 : decode cX9_ofDesk 15 = .ok (.aaload, 1) := by decide +kernel
theorem dX9_ofDesk_16 : decode cX9_ofDesk 16 = .ok (.astore_n 3, 1) := by decide +kernel
theorem dX9_ofDesk_17 : decode cX9_ofDesk 17 = .ok (.iload_n 2, 1) := by decide +kernel
theorem dX9_ofDesk_18 : decode cX9_ofDesk 18 = .ok (.tableswitch 68 0 5 #[38, 43, 48, 53, 58, 63], 38) := by decide +kernel
theorem dX9_ofDesk_56 : decode cX9_ofDesk 56 = .ok (.aload_n 3, 1) := by decide +kernel
theorem dX9_ofDesk_57 : decode cX9_ofDesk 57 = .ok (.invokevirtual 105, 3) := by decide +kernel
theorem dX9_ofDesk_60 : decode cX9_ofDesk 60 = .ok (.ireturn, 1) := by decide +kernel
theorem dX9_ofDesk_61 : decode cX9_ofDesk 61 = .ok (.aload_n 3, 1) := by decide +kernel
theorem dX9_ofDesk_62 : decode cX9_ofDesk 62 = .ok (.getfield 109, 3) := by decide +kernel
theorem dX9_ofDesk_65 : decode cX9_ofDesk 65 = .ok (.ireturn, 1) := by decide +kernel
theorem dX9_ofDesk_66 : decode cX9_ofDesk 66 = .ok (.aload_n 3, 1) := by decide +kernel
theorem dX9_ofDesk_67 : decode cX9_ofDesk 67 = .ok (.invokevirtual 112, 3) := by decide +kernel
theorem dX9_ofDesk_70 : decode cX9_ofDesk 70 = .ok (.ireturn, 1) := by decide +kernel
theorem dX9_ofDesk_71 : decode cX9_ofDesk 71 = .ok (.aload_n 3, 1) := by decide +kernel
theorem dX9_ofDesk_72 : decode cX9_ofDesk 72 = .ok (.getfield 115, 3) := by decide +kernel
theorem dX9_ofDesk_75 : decode cX9_ofDesk 75 = .ok (.ireturn, 1) := by decide +kernel
theorem dX9_ofDesk_76 : decode cX9_ofDesk 76 = .ok (.aload_n 3, 1) := by decide +kernel
theorem dX9_ofDesk_77 : decode cX9_ofDesk 77 = .ok (.invokevirtual 118, 3) := by decide +kernel
theorem dX9_ofDesk_80 : decode cX9_ofDesk 80 = .ok (.ireturn, 1) := by decide +kernel
theorem dX9_ofDesk_81 : decode cX9_ofDesk 81 = .ok (.aload_n 3, 1) := by decide +kernel
theorem dX9_ofDesk_82 : decode cX9_ofDesk 82 = .ok (.getfield 121, 3) := by decide +kernel
theorem dX9_ofDesk_85 : decode cX9_ofDesk 85 = .ok (.ireturn, 1) := by decide +kernel
theorem dX9_ofDesk_86 : decode cX9_ofDesk 86 = .ok (.bipush (-2), 2) := by decide +kernel
theorem dX9_ofDesk_88 : decode cX9_ofDesk 88 = .ok (.ireturn, 1) := by decide +kernel
theorem dX9_lies_0 : decode cX9_lies 0 = .ok (.aload_n 0, 1) := by decide +kernel
theorem dX9_lies_1 : decode cX9_lies 1 = .ok (.iload_n 1, 1) := by decide +kernel
theorem dX9_lies_2 : decode cX9_lies 2 = .ok (.invokevirtual 102, 3) := by decide +kernel
theorem dX9_lies_5 : decode cX9_lies 5 = .ok (.ifCond .ne 5, 3) := by decide +kernel
theorem dX9_lies_8 : decode cX9_lies 8 = .ok (.iconst (-1), 1) := by decide +kernel
theorem dX9_lies_9 : decode cX9_lies 9 = .ok (.ireturn, 1) := by decide +kernel
theorem dX9_lies_10 : decode cX9_lies 10 = .ok (.iload_n 2, 1) := by decide +kernel
theorem dX9_lies_11 : decode cX9_lies 11 = .ok (.iconst 0, 1) := by decide +kernel
theorem dX9_lies_12 : decode cX9_lies 12 = .ok (.iconst 4, 1) := by decide +kernel
theorem dX9_lies_13 : decode cX9_lies 13 = .ok (.invokestatic 74, 3) := by decide +kernel
theorem dX9_lies_16 : decode cX9_lies 16 = .ok (.ifCond .ne 6, 3) := by decide +kernel
theorem dX9_lies_19 : decode cX9_lies 19 = .ok (.bipush (-2), 2) := by decide +kernel
theorem dX9_lies_21 : decode cX9_lies 21 = .ok (.ireturn, 1) := by decide +kernel
theorem dX9_lies_22 : decode cX9_lies 22 = .ok (.iload_n 2, 1) := by decide +kernel
theorem dX9_lies_23 : decode cX9_lies 23 = .ok (.aload_n 0, 1) := by decide +kernel
theorem dX9_lies_24 : decode cX9_lies 24 = .ok (.getfield 26, 3) := by decide +kernel
theorem dX9_lies_27 : decode cX9_lies 27 = .ok (.iload_n 1, 1) := by decide +kernel
theorem dX9_lies_28 : decode cX9_lies 28 = .ok (.aaload, 1) := by decide +kernel
theorem dX9_lies_29 : decode cX9_lies 29 = .ok (.getfield 124, 3) := by decide +kernel
theorem dX9_lies_32 : decode cX9_lies 32 = .ok (.if_icmp .ge 17, 3) := by decide +kernel
theorem dX9_lies_35 : decode cX9_lies 35 = .ok (.aload_n 0, 1) := by decide +kernel
theorem dX9_lies_36 : decode cX9_lies 36 = .ok (.getfield 26, 3) := by decide +kernel
theorem dX9_lies_39 : decode cX9_lies 39 = .ok (.iload_n 1, 1) := by decide +kernel
theorem dX9_lies_40 : decode cX9_lies 40 = .ok (.aaload, 1) := by decide +kernel
theorem dX9_lies_41 : decode cX9_lies 41 = .ok (.getfield 127, 3) := by decide +kernel
theorem dX9_lies_44 : decode cX9_lies 44 = .ok (.iload_n 2, 1) := by decide +kernel
theorem dX9_lies_45 : decode cX9_lies 45 = .ok (.iaload, 1) := by decide +kernel
theorem dX9_lies_46 : decode cX9_lies 46 = .ok (.goto 5, 3) := by decide +kernel
theorem dX9_lies_49 : decode cX9_lies 49 = .ok (.bipush (-9), 2) := by decide +kernel
theorem dX9_lies_51 : decode cX9_lies 51 = .ok (.ireturn, 1) := by decide +kernel
theorem dX9_line_0 : decode cX9_line 0 = .ok (.aload_n 0, 1) := by decide +kernel
theorem dX9_line_1 : decode cX9_line 1 = .ok (.getfield 36, 3) := by decide +kernel
theorem dX9_line_4 : decode cX9_line 4 = .ok (.iload_n 1, 1) := by decide +kernel
theorem dX9_line_5 : decode cX9_line 5 = .ok (.invokevirtual 131, 3) := by decide +kernel
theorem dX9_line_8 : decode cX9_line 8 = .ok (.ifCond .eq 15, 3) := by decide +kernel
theorem dX9_line_11 : decode cX9_line 11 = .ok (.aload_n 0, 1) := by decide +kernel
theorem dX9_line_12 : decode cX9_line 12 = .ok (.getfield 36, 3) := by decide +kernel
theorem dX9_line_15 : decode cX9_line 15 = .ok (.getfield 133, 3) := by decide +kernel
theorem dX9_line_18 : decode cX9_line 18 = .ok (.iload_n 1, 1) := by decide +kernel
theorem dX9_line_19 : decode cX9_line 19 = .ok (.iaload, 1) := by decide +kernel
theorem dX9_line_20 : decode cX9_line 20 = .ok (.goto 4, 3) := by decide +kernel
theorem dX9_line_23 : decode cX9_line 23 = .ok (.iconst (-1), 1) := by decide +kernel
theorem dX9_line_24 : decode cX9_line 24 = .ok (.ireturn, 1) := by decide +kernel
theorem dX9_build_0 : decode cX9_build 0 = .ok (.aload_n 0, 1) := by decide +kernel
theorem dX9_build_1 : decode cX9_build 1 = .ok (.iload_n 1, 1) := by decide +kernel
theorem dX9_build_2 : decode cX9_build 2 = .ok (.invokevirtual 102, 3) := by decide +kernel
theorem dX9_build_5 : decode cX9_build 5 = .ok (.ifCond .ne 5, 3) := by decide +kernel
theorem dX9_build_8 : decode cX9_build 8 = .ok (.iconst (-1), 1) := by decide +kernel
theorem dX9_build_9 : decode cX9_build 9 = .ok (.ireturn, 1) := by decide +kernel
theorem dX9_build_10 : decode cX9_build 10 = .ok (.iload_n 2, 1) := by decide +kernel
theorem dX9_build_11 : decode cX9_build 11 = .ok (.iconst 1, 1) := by decide +kernel
theorem dX9_build_12 : decode cX9_build 12 = .ok (.iconst 5, 1) := by decide +kernel
theorem dX9_build_13 : decode cX9_build 13 = .ok (.invokestatic 74, 3) := by decide +kernel
theorem dX9_build_16 : decode cX9_build 16 = .ok (.ifCond .ne 6, 3) := by decide +kernel
theorem dX9_build_19 : decode cX9_build 19 = .ok (.bipush (-2), 2) := by decide +kernel
theorem dX9_build_21 : decode cX9_build 21 = .ok (.ireturn, 1) := by decide +kernel
theorem dX9_build_22 : decode cX9_build 22 = .ok (.aload_n 0, 1) := by decide +kernel
theorem dX9_build_23 : decode cX9_build 23 = .ok (.getfield 26, 3) := by decide +kernel
theorem dX9_build_26 : decode cX9_build 26 = .ok (.iload_n 1, 1) := by decide +kernel
theorem dX9_build_27 : decode cX9_build 27 = .ok (.aaload, 1) := by decide +kernel
theorem dX9_build_28 : decode cX9_build 28 = .ok (.astore_n 3, 1) := by decide +kernel
theorem dX9_build_29 : decode cX9_build 29 = .ok (.aload_n 3, 1) := by decide +kernel
theorem dX9_build_30 : decode cX9_build 30 = .ok (.getfield 109, 3) := by decide +kernel
theorem dX9_build_33 : decode cX9_build 33 = .ok (.istore 4, 2) := by decide +kernel
theorem dX9_build_35 : decode cX9_build 35 = .ok (.aload_n 3, 1) := by decide +kernel
theorem dX9_build_36 : decode cX9_build 36 = .ok (.iload_n 2, 1) := by decide +kernel
theorem dX9_build_37 : decode cX9_build 37 = .ok (.invokevirtual 135, 3) := by decide +kernel
theorem dX9_build_40 : decode cX9_build 40 = .ok (.iconst 0, 1) := by decide +kernel
theorem dX9_build_41 : decode cX9_build 41 = .ok (.istore 5, 2) := by decide +kernel
theorem dX9_build_43 : decode cX9_build 43 = .ok (.iload 5, 2) := by decide +kernel
theorem dX9_build_45 : decode cX9_build 45 = .ok (.aload_n 0, 1) := by decide +kernel
theorem dX9_build_46 : decode cX9_build 46 = .ok (.getfield 139, 3) := by decide +kernel
theorem dX9_build_49 : decode cX9_build 49 = .ok (.if_icmp .ge 24, 3) := by decide +kernel
theorem dX9_build_52 : decode cX9_build 52 = .ok (.aload_n 3, 1) := by decide +kernel
theorem dX9_build_53 : decode cX9_build 53 = .ok (.aload_n 0, 1) := by decide +kernel
theorem dX9_build_54 : decode cX9_build 54 = .ok (.getfield 36, 3) := by decide +kernel
theorem dX9_build_57 : decode cX9_build 57 = .ok (.getfield 133, 3) := by decide +kernel
theorem dX9_build_60 : decode cX9_build 60 = .ok (.iload 5, 2) := by decide +kernel
theorem dX9_build_62 : decode cX9_build 62 = .ok (.iaload, 1) := by decide +kernel
theorem dX9_build_63 : decode cX9_build 63 = .ok (.invokevirtual 142, 3) := by decide +kernel
theorem dX9_build_66 : decode cX9_build 66 = .ok (.pop, 1) := by decide +kernel
theorem dX9_build_67 : decode cX9_build 67 = .ok (.iinc 5 1, 3) := by decide +kernel
theorem dX9_build_70 : decode cX9_build 70 = .ok (.goto (-27), 3) := by decide +kernel
theorem dX9_build_73 : decode cX9_build 73 = .ok (.iload 4, 2) := by decide +kernel
theorem dX9_build_75 : decode cX9_build 75 = .ok (.ireturn, 1) := by decide +kernel
theorem dX9_come_0 : decode cX9_come 0 = .ok (.iload_n 1, 1) := by decide +kernel
theorem dX9_come_1 : decode cX9_come 1 = .ok (.iconst 1, 1) := by decide +kernel
theorem dX9_come_2 : decode cX9_come 2 = .ok (.bipush 24, 2) := by decide +kernel
theorem dX9_come_4 : decode cX9_come 4 = .ok (.invokestatic 74, 3) := by decide +kernel
theorem dX9_come_7 : decode cX9_come 7 = .ok (.ifCond .ne 6, 3) := by decide +kernel
theorem dX9_come_10 : decode cX9_come 10 = .ok (.bipush (-2), 2) := by decide +kernel
theorem dX9_come_12 : decode cX9_come 12 = .ok (.ireturn, 1) := by decide +kernel
theorem dX9_come_13 : decode cX9_come 13 = .ok (.aload_n 0, 1) := by decide +kernel
theorem dX9_come_14 : decode cX9_come 14 = .ok (.invokevirtual 145, 3) := by decide +kernel
theorem dX9_come_17 : decode cX9_come 17 = .ok (.ifCond .eq 19, 3) := by decide +kernel
theorem dX9_come_20 : decode cX9_come 20 = .ok (.iload_n 1, 1) := by decide +kernel
theorem dX9_come_21 : decode cX9_come 21 = .ok (.aload_n 0, 1) := by decide +kernel
theorem dX9_come_22 : decode cX9_come 22 = .ok (.getfield 36, 3) := by decide +kernel
theorem dX9_come_25 : decode cX9_come 25 = .ok (.getfield 149, 3) := by decide +kernel
theorem dX9_come_28 : decode cX9_come 28 = .ok (.aload_n 0, 1) := by decide +kernel
theorem dX9_come_29 : decode cX9_come 29 = .ok (.getfield 139, 3) := by decide +kernel
theorem dX9_come_32 : decode cX9_come 32 = .ok (.isub, 1) := by decide +kernel
theorem dX9_come_33 : decode cX9_come 33 = .ok (.if_icmp .le 6, 3) := by decide +kernel
theorem dX9_come_36 : decode cX9_come 36 = .ok (.bipush (-3), 2) := by decide +kernel
theorem dX9_come_38 : decode cX9_come 38 = .ok (.ireturn, 1) := by decide +kernel
theorem dX9_come_39 : decode cX9_come 39 = .ok (.iconst 0, 1) := by decide +kernel
theorem dX9_come_40 : decode cX9_come 40 = .ok (.istore_n 2, 1) := by decide +kernel
theorem dX9_come_41 : decode cX9_come 41 = .ok (.aload_n 0, 1) := by decide +kernel
theorem dX9_come_42 : decode cX9_come 42 = .ok (.getfield 139, 3) := by decide +kernel
theorem dX9_come_45 : decode cX9_come 45 = .ok (.istore_n 3, 1) := by decide +kernel
theorem dX9_come_46 : decode cX9_come 46 = .ok (.iload_n 3, 1) := by decide +kernel
theorem dX9_come_47 : decode cX9_come 47 = .ok (.aload_n 0, 1) := by decide +kernel
theorem dX9_come_48 : decode cX9_come 48 = .ok (.getfield 139, 3) := by decide +kernel
theorem dX9_come_51 : decode cX9_come 51 = .ok (.iload_n 1, 1) := by decide +kernel
theorem dX9_come_52 : decode cX9_come 52 = .ok (.iadd, 1) := by decide +kernel
theorem dX9_come_53 : decode cX9_come 53 = .ok (.if_icmp .ge 25, 3) := by decide +kernel
theorem dX9_come_56 : decode cX9_come 56 = .ok (.iload_n 2, 1) := by decide +kernel
theorem dX9_come_57 : decode cX9_come 57 = .ok (.aload_n 0, 1) := by decide +kernel
theorem dX9_come_58 : decode cX9_come 58 = .ok (.aload_n 0, 1) := by decide +kernel
theorem dX9_come_59 : decode cX9_come 59 = .ok (.getfield 36, 3) := by decide +kernel
theorem dX9_come_62 : decode cX9_come 62 = .ok (.getfield 133, 3) := by decide +kernel
theorem dX9_come_65 : decode cX9_come 65 = .ok (.iload_n 3, 1) := by decide +kernel
theorem dX9_come_66 : decode cX9_come 66 = .ok (.iaload, 1) := by decide +kernel
theorem dX9_come_67 : decode cX9_come 67 = .ok (.invokevirtual 152, 3) := by decide +kernel
theorem dX9_come_70 : decode cX9_come 70 = .ok (.iadd, 1) := by decide +kernel
theorem dX9_come_71 : decode cX9_come 71 = .ok (.istore_n 2, 1) := by decide +kernel
theorem dX9_come_72 : decode cX9_come 72 = .ok (.iinc 3 1, 3) := by decide +kernel
theorem dX9_come_75 : decode cX9_come 75 = .ok (.goto (-29), 3) := by decide +kernel
theorem dX9_come_78 : decode cX9_come 78 = .ok (.aload_n 0, 1) := by decide +kernel
theorem dX9_come_79 : decode cX9_come 79 = .ok (.dup, 1) := by decide +kernel
theorem dX9_come_80 : decode cX9_come 80 = .ok (.getfield 139, 3) := by decide +kernel
