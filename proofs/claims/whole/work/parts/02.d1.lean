theorem dX3_pair_14 : decode cX3_pair 14 = .ok (.iconst 1, 1) := by decide +kernel
theorem dX3_pair_15 : decode cX3_pair 15 = .ok (.iadd, 1) := by decide +kernel
theorem dX3_pair_16 : decode cX3_pair 16 = .ok (.invokevirtual 23, 3) := by decide +kernel
theorem dX3_pair_19 : decode cX3_pair 19 = .ok (.sipush 255, 3) := by decide +kernel
theorem dX3_pair_22 : decode cX3_pair 22 = .ok (.iand, 1) := by decide +kernel
theorem dX3_pair_23 : decode cX3_pair 23 = .ok (.ior, 1) := by decide +kernel
theorem dX3_pair_24 : decode cX3_pair 24 = .ok (.ireturn, 1) := by decide +kernel
theorem dX3_sum_0 : decode cX3_sum 0 = .ok (.iconst 0, 1) := by decide +kernel
theorem dX3_sum_1 : decode cX3_sum 1 = .ok (.istore_n 3, 1) := by decide +kernel
theorem dX3_sum_2 : decode cX3_sum 2 = .ok (.iload_n 1, 1) := by decide +kernel
theorem dX3_sum_3 : decode cX3_sum 3 = .ok (.istore 4, 2) := by decide +kernel
theorem dX3_sum_5 : decode cX3_sum 5 = .ok (.iload 4, 2) := by decide +kernel
theorem dX3_sum_7 : decode cX3_sum 7 = .ok (.iload_n 2, 1) := by decide +kernel
theorem dX3_sum_8 : decode cX3_sum 8 = .ok (.if_icmp .ge 42, 3) := by decide +kernel
theorem dX3_sum_11 : decode cX3_sum 11 = .ok (.iload_n 3, 1) := by decide +kernel
theorem dX3_sum_12 : decode cX3_sum 12 = .ok (.aload_n 0, 1) := by decide +kernel
theorem dX3_sum_13 : decode cX3_sum 13 = .ok (.iload 4, 2) := by decide +kernel
theorem dX3_sum_15 : decode cX3_sum 15 = .ok (.invokevirtual 23, 3) := by decide +kernel
theorem dX3_sum_18 : decode cX3_sum 18 = .ok (.bipush 8, 2) := by decide +kernel
theorem dX3_sum_20 : decode cX3_sum 20 = .ok (.ishl, 1) := by decide +kernel
theorem dX3_sum_21 : decode cX3_sum 21 = .ok (.iload 4, 2) := by decide +kernel
theorem dX3_sum_23 : decode cX3_sum 23 = .ok (.iconst 1, 1) := by decide +kernel
theorem dX3_sum_24 : decode cX3_sum 24 = .ok (.iadd, 1) := by decide +kernel
theorem dX3_sum_25 : decode cX3_sum 25 = .ok (.iload_n 2, 1) := by decide +kernel
theorem dX3_sum_26 : decode cX3_sum 26 = .ok (.if_icmp .ge 14, 3) := by decide +kernel
theorem dX3_sum_29 : decode cX3_sum 29 = .ok (.aload_n 0, 1) := by decide +kernel
theorem dX3_sum_30 : decode cX3_sum 30 = .ok (.iload 4, 2) := by decide +kernel
theorem dX3_sum_32 : decode cX3_sum 32 = .ok (.iconst 1, 1) := by decide +kernel
theorem dX3_sum_33 : decode cX3_sum 33 = .ok (.iadd, 1) := by decide +kernel
theorem dX3_sum_34 : decode cX3_sum 34 = .ok (.invokevirtual 23, 3) := by decide +kernel
theorem dX3_sum_37 : decode cX3_sum 37 = .ok (.goto 4, 3) := by decide +kernel
theorem dX3_sum_40 : decode cX3_sum 40 = .ok (.iconst 0, 1) := by decide +kernel
theorem dX3_sum_41 : decode cX3_sum 41 = .ok (.ior, 1) := by decide +kernel
theorem dX3_sum_42 : decode cX3_sum 42 = .ok (.iadd, 1) := by decide +kernel
theorem dX3_sum_43 : decode cX3_sum 43 = .ok (.istore_n 3, 1) := by decide +kernel
theorem dX3_sum_44 : decode cX3_sum 44 = .ok (.iinc 4 2, 3) := by decide +kernel
theorem dX3_sum_47 : decode cX3_sum 47 = .ok (.goto (-42), 3) := by decide +kernel
theorem dX3_sum_50 : decode cX3_sum 50 = .ok (.iconst 0, 1) := by decide +kernel
theorem dX3_sum_51 : decode cX3_sum 51 = .ok (.istore 4, 2) := by decide +kernel
theorem dX3_sum_53 : decode cX3_sum 53 = .ok (.iload 4, 2) := by decide +kernel
theorem dX3_sum_55 : decode cX3_sum 55 = .ok (.iconst 2, 1) := by decide +kernel
theorem dX3_sum_56 : decode cX3_sum 56 = .ok (.if_icmp .ge 19, 3) := by decide +kernel
theorem dX3_sum_59 : decode cX3_sum 59 = .ok (.iload_n 3, 1) := by decide +kernel
theorem dX3_sum_60 : decode cX3_sum 60 = .ok (.ldc 27, 2) := by decide +kernel
theorem dX3_sum_62 : decode cX3_sum 62 = .ok (.iand, 1) := by decide +kernel
theorem dX3_sum_63 : decode cX3_sum 63 = .ok (.iload_n 3, 1) := by decide +kernel
theorem dX3_sum_64 : decode cX3_sum 64 = .ok (.bipush 16, 2) := by decide +kernel
theorem dX3_sum_66 : decode cX3_sum 66 = .ok (.iushr, 1) := by decide +kernel
theorem dX3_sum_67 : decode cX3_sum 67 = .ok (.iadd, 1) := by decide +kernel
theorem dX3_sum_68 : decode cX3_sum 68 = .ok (.istore_n 3, 1) := by decide +kernel
theorem dX3_sum_69 : decode cX3_sum 69 = .ok (.iinc 4 1, 3) := by decide +kernel
theorem dX3_sum_72 : decode cX3_sum 72 = .ok (.goto (-19), 3) := by decide +kernel
theorem dX3_sum_75 : decode cX3_sum 75 = .ok (.iload_n 3, 1) := by decide +kernel
theorem dX3_sum_76 : decode cX3_sum 76 = .ok (.iconst (-1), 1) := by decide +kernel
theorem dX3_sum_77 : decode cX3_sum 77 = .ok (.ixor, 1) := by decide +kernel
theorem dX3_sum_78 : decode cX3_sum 78 = .ok (.ldc 27, 2) := by decide +kernel
theorem dX3_sum_80 : decode cX3_sum 80 = .ok (.iand, 1) := by decide +kernel
theorem dX3_sum_81 : decode cX3_sum 81 = .ok (.ireturn, 1) := by decide +kernel
theorem dX4_init_0 : decode cX4_init 0 = .ok (.aload_n 0, 1) := by decide +kernel
theorem dX4_init_1 : decode cX4_init 1 = .ok (.invokespecial 1, 3) := by decide +kernel
theorem dX4_init_4 : decode cX4_init 4 = .ok (.aload_n 0, 1) := by decide +kernel
theorem dX4_init_5 : decode cX4_init 5 = .ok (.bipush 6, 2) := by decide +kernel
theorem dX4_init_7 : decode cX4_init 7 = .ok (.anewarray 9, 3) := by decide +kernel
theorem dX4_init_10 : decode cX4_init 10 = .ok (.putfield 11, 3) := by decide +kernel
theorem dX4_init_13 : decode cX4_init 13 = .ok (.aload_n 0, 1) := by decide +kernel
theorem dX4_init_14 : decode cX4_init 14 = .ok (.iload_n 1, 1) := by decide +kernel
theorem dX4_init_15 : decode cX4_init 15 = .ok (.putfield 15, 3) := by decide +kernel
theorem dX4_init_18 : decode cX4_init 18 = .ok (.aload_n 0, 1) := by decide +kernel
theorem dX4_init_19 : decode cX4_init 19 = .ok (.iload_n 2, 1) := by decide +kernel
theorem dX4_init_20 : decode cX4_init 20 = .ok (.putfield 19, 3) := by decide +kernel
theorem dX4_init_23 : decode cX4_init 23 = .ok (.aload_n 0, 1) := by decide +kernel
theorem dX4_init_24 : decode cX4_init 24 = .ok (.ldc2_w 22, 3) := by decide +kernel
theorem dX4_init_27 : decode cX4_init 27 = .ok (.iload_n 3, 1) := by decide +kernel
theorem dX4_init_28 : decode cX4_init 28 = .ok (.i2l, 1) := by decide +kernel
theorem dX4_init_29 : decode cX4_init 29 = .ok (.ldc2_w 24, 3) := by decide +kernel
theorem dX4_init_32 : decode cX4_init 32 = .ok (.land, 1) := by decide +kernel
theorem dX4_init_33 : decode cX4_init 33 = .ok (.lor, 1) := by decide +kernel
theorem dX4_init_34 : decode cX4_init 34 = .ok (.putfield 26, 3) := by decide +kernel
theorem dX4_init_37 : decode cX4_init 37 = .ok (.return_, 1) := by decide +kernel
theorem dX4_isThere_0 : decode cX4_isThere 0 = .ok (.aload_n 0, 1) := by decide +kernel
theorem dX4_isThere_1 : decode cX4_isThere 1 = .ok (.getfield 15, 3) := by decide +kernel
theorem dX4_isThere_4 : decode cX4_isThere 4 = .ok (.iload_n 1, 1) := by decide +kernel
theorem dX4_isThere_5 : decode cX4_isThere 5 = .ok (.if_icmp .ne 15, 3) := by decide +kernel
theorem dX4_isThere_8 : decode cX4_isThere 8 = .ok (.aload_n 0, 1) := by decide +kernel
theorem dX4_isThere_9 : decode cX4_isThere 9 = .ok (.getfield 19, 3) := by decide +kernel
theorem dX4_isThere_12 : decode cX4_isThere 12 = .ok (.iload_n 2, 1) := by decide +kernel
theorem dX4_isThere_13 : decode cX4_isThere 13 = .ok (.if_icmp .ne 7, 3) := by decide +kernel
theorem dX4_isThere_16 : decode cX4_isThere 16 = .ok (.iconst 1, 1) := by decide +kernel
theorem dX4_isThere_17 : decode cX4_isThere 17 = .ok (.goto 4, 3) := by decide +kernel
theorem dX4_isThere_20 : decode cX4_isThere 20 = .ok (.iconst 0, 1) := by decide +kernel
theorem dX4_isThere_21 : decode cX4_isThere 21 = .ok (.ireturn, 1) := by decide +kernel
theorem dX4_take_0 : decode cX4_take 0 = .ok (.iconst 5, 1) := by decide +kernel
theorem dX4_take_1 : decode cX4_take 1 = .ok (.istore_n 2, 1) := by decide +kernel
theorem dX4_take_2 : decode cX4_take 2 = .ok (.iload_n 2, 1) := by decide +kernel
theorem dX4_take_3 : decode cX4_take 3 = .ok (.ifCond .le 23, 3) := by decide +kernel
theorem dX4_take_6 : decode cX4_take 6 = .ok (.aload_n 0, 1) := by decide +kernel
theorem dX4_take_7 : decode cX4_take 7 = .ok (.getfield 11, 3) := by decide +kernel
theorem dX4_take_10 : decode cX4_take 10 = .ok (.iload_n 2, 1) := by decide +kernel
theorem dX4_take_11 : decode cX4_take 11 = .ok (.aload_n 0, 1) := by decide +kernel
theorem dX4_take_12 : decode cX4_take 12 = .ok (.getfield 11, 3) := by decide +kernel
theorem dX4_take_15 : decode cX4_take 15 = .ok (.iload_n 2, 1) := by decide +kernel
theorem dX4_take_16 : decode cX4_take 16 = .ok (.iconst 1, 1) := by decide +kernel
theorem dX4_take_17 : decode cX4_take 17 = .ok (.isub, 1) := by decide +kernel
theorem dX4_take_18 : decode cX4_take 18 = .ok (.aaload, 1) := by decide +kernel
theorem dX4_take_19 : decode cX4_take 19 = .ok (.aastore, 1) := by decide +kernel
theorem dX4_take_20 : decode cX4_take 20 = .ok (.iinc 2 (-1), 3) := by decide +kernel
theorem dX4_take_23 : decode cX4_take 23 = .ok (.goto (-21), 3) := by decide +kernel
theorem dX4_take_26 : decode cX4_take 26 = .ok (.aload_n 0, 1) := by decide +kernel
theorem dX4_take_27 : decode cX4_take 27 = .ok (.getfield 11, 3) := by decide +kernel
theorem dX4_take_30 : decode cX4_take 30 = .ok (.iconst 0, 1) := by decide +kernel
theorem dX4_take_31 : decode cX4_take 31 = .ok (.aload_n 1, 1) := by decide +kernel
theorem dX4_take_32 : decode cX4_take 32 = .ok (.aastore, 1) := by decide +kernel
theorem dX4_take_33 : decode cX4_take 33 = .ok (.aload_n 0, 1) := by decide +kernel
theorem dX4_take_34 : decode cX4_take 34 = .ok (.dup, 1) := by decide +kernel
theorem dX4_take_35 : decode cX4_take 35 = .ok (.getfield 30, 3) := by decide +kernel
theorem dX4_take_38 : decode cX4_take 38 = .ok (.iconst 1, 1) := by decide +kernel
theorem dX4_take_39 : decode cX4_take 39 = .ok (.iadd, 1) := by decide +kernel
theorem dX4_take_40 : decode cX4_take 40 = .ok (.putfield 30, 3) := by decide +kernel
theorem dX4_take_43 : decode cX4_take 43 = .ok (.return_, 1) := by decide +kernel
theorem dX4_latestFrame_0 : decode cX4_latestFrame 0 = .ok (.iload_n 1, 1) := by decide +kernel
theorem dX4_latestFrame_1 : decode cX4_latestFrame 1 = .ok (.ifCond .lt 9, 3) := by decide +kernel
theorem dX4_latestFrame_4 : decode cX4_latestFrame 4 = .ok (.iload_n 1, 1) := by decide +kernel
theorem dX4_latestFrame_5 : decode cX4_latestFrame 5 = .ok (.bipush 6, 2) := by decide +kernel
theorem dX4_latestFrame_7 : decode cX4_latestFrame 7 = .ok (.if_icmp .lt 7, 3) := by decide +kernel
theorem dX4_latestFrame_10 : decode cX4_latestFrame 10 = .ok (.aconst_null, 1) := by decide +kernel
theorem dX4_latestFrame_11 : decode cX4_latestFrame 11 = .ok (.goto 9, 3) := by decide +kernel
theorem dX4_latestFrame_14 : decode cX4_latestFrame 14 = .ok (.aload_n 0, 1) := by decide +kernel
theorem dX4_latestFrame_15 : decode cX4_latestFrame 15 = .ok (.getfield 11, 3) := by decide +kernel
theorem dX4_latestFrame_18 : decode cX4_latestFrame 18 = .ok (.iload_n 1, 1) := by decide +kernel
theorem dX4_latestFrame_19 : decode cX4_latestFrame 19 = .ok (.aaload, 1) := by decide +kernel
theorem dX4_latestFrame_20 : decode cX4_latestFrame 20 = .ok (.areturn, 1) := by decide +kernel
theorem dX5_frameOf_0 : decode cX5_frameOf 0 = .ok (.new 11, 3) := by decide +kernel
theorem dX5_frameOf_3 : decode cX5_frameOf 3 = .ok (.dup, 1) := by decide +kernel
theorem dX5_frameOf_4 : decode cX5_frameOf 4 = .ok (.bipush 14, 2) := by decide +kernel
theorem dX5_frameOf_6 : decode cX5_frameOf 6 = .ok (.aload 5, 2) := by decide +kernel
theorem dX5_frameOf_8 : decode cX5_frameOf 8 = .ok (.getfield 13, 3) := by decide +kernel
theorem dX5_frameOf_11 : decode cX5_frameOf 11 = .ok (.iadd, 1) := by decide +kernel
theorem dX5_frameOf_12 : decode cX5_frameOf 12 = .ok (.invokespecial 17, 3) := by decide +kernel
theorem dX5_frameOf_15 : decode cX5_frameOf 15 = .ok (.astore 6, 2) := by decide +kernel
theorem dX5_frameOf_17 : decode cX5_frameOf 17 = .ok (.aload 6, 2) := by decide +kernel
theorem dX5_frameOf_19 : decode cX5_frameOf 19 = .ok (.lload_n 0, 1) := by decide +kernel
theorem dX5_frameOf_20 : decode cX5_frameOf 20 = .ok (.bipush 6, 2) := by decide +kernel
theorem dX5_frameOf_22 : decode cX5_frameOf 22 = .ok (.invokevirtual 20, 3) := by decide +kernel
theorem dX5_frameOf_25 : decode cX5_frameOf 25 = .ok (.aload 6, 2) := by decide +kernel
theorem dX5_frameOf_27 : decode cX5_frameOf 27 = .ok (.lload_n 2, 1) := by decide +kernel
theorem dX5_frameOf_28 : decode cX5_frameOf 28 = .ok (.bipush 6, 2) := by decide +kernel
theorem dX5_frameOf_30 : decode cX5_frameOf 30 = .ok (.invokevirtual 20, 3) := by decide +kernel
theorem dX5_frameOf_33 : decode cX5_frameOf 33 = .ok (.aload 6, 2) := by decide +kernel
theorem dX5_frameOf_35 : decode cX5_frameOf 35 = .ok (.iload 4, 2) := by decide +kernel
theorem dX5_frameOf_37 : decode cX5_frameOf 37 = .ok (.i2l, 1) := by decide +kernel
theorem dX5_frameOf_38 : decode cX5_frameOf 38 = .ok (.iconst 2, 1) := by decide +kernel
theorem dX5_frameOf_39 : decode cX5_frameOf 39 = .ok (.invokevirtual 20, 3) := by decide +kernel
theorem dX5_frameOf_42 : decode cX5_frameOf 42 = .ok (.aload 6, 2) := by decide +kernel
theorem dX5_frameOf_44 : decode cX5_frameOf 44 = .ok (.aload 5, 2) := by decide +kernel
theorem dX5_frameOf_46 : decode cX5_frameOf 46 = .ok (.iconst 0, 1) := by decide +kernel
theorem dX5_frameOf_47 : decode cX5_frameOf 47 = .ok (.invokevirtual 24, 3) := by decide +kernel
theorem dX5_frameOf_50 : decode cX5_frameOf 50 = .ok (.aload 6, 2) := by decide +kernel
theorem dX5_frameOf_52 : decode cX5_frameOf 52 = .ok (.areturn, 1) := by decide +kernel
theorem dX5_wrap_0 : decode cX5_wrap 0 = .ok (.iload_n 2, 1) := by decide +kernel
theorem dX5_wrap_1 : decode cX5_wrap 1 = .ok (.ifCond .ne 8, 3) := by decide +kernel
theorem dX5_wrap_4 : decode cX5_wrap 4 = .ok (.bipush 16, 2) := by decide +kernel
theorem dX5_wrap_6 : decode cX5_wrap 6 = .ok (.goto 15, 3) := by decide +kernel
theorem dX5_wrap_9 : decode cX5_wrap 9 = .ok (.iload_n 2, 1) := by decide +kernel
theorem dX5_wrap_10 : decode cX5_wrap 10 = .ok (.iconst 2, 1) := by decide +kernel
theorem dX5_wrap_11 : decode cX5_wrap 11 = .ok (.if_icmp .ne 8, 3) := by decide +kernel
theorem dX5_wrap_14 : decode cX5_wrap 14 = .ok (.bipush 12, 2) := by decide +kernel
theorem dX5_wrap_16 : decode cX5_wrap 16 = .ok (.goto 5, 3) := by decide +kernel
theorem dX5_wrap_19 : decode cX5_wrap 19 = .ok (.bipush 8, 2) := by decide +kernel
theorem dX5_wrap_21 : decode cX5_wrap 21 = .ok (.istore 6, 2) := by decide +kernel
theorem dX5_wrap_23 : decode cX5_wrap 23 = .ok (.bipush 20, 2) := by decide +kernel
theorem dX5_wrap_25 : decode cX5_wrap 25 = .ok (.iload 6, 2) := by decide +kernel
theorem dX5_wrap_27 : decode cX5_wrap 27 = .ok (.iadd, 1) := by decide +kernel
theorem dX5_wrap_28 : decode cX5_wrap 28 = .ok (.aload_n 0, 1) := by decide +kernel
theorem dX5_wrap_29 : decode cX5_wrap 29 = .ok (.getfield 13, 3) := by decide +kernel
theorem dX5_wrap_32 : decode cX5_wrap 32 = .ok (.iadd, 1) := by decide +kernel
theorem dX5_wrap_33 : decode cX5_wrap 33 = .ok (.istore 7, 2) := by decide +kernel
theorem dX5_wrap_35 : decode cX5_wrap 35 = .ok (.new 11, 3) := by decide +kernel
theorem dX5_wrap_38 : decode cX5_wrap 38 = .ok (.dup, 1) := by decide +kernel
theorem dX5_wrap_39 : decode cX5_wrap 39 = .ok (.iload 7, 2) := by decide +kernel
theorem dX5_wrap_41 : decode cX5_wrap 41 = .ok (.invokespecial 17, 3) := by decide +kernel
theorem dX5_wrap_44 : decode cX5_wrap 44 = .ok (.astore 8, 2) := by decide +kernel
theorem dX5_wrap_46 : decode cX5_wrap 46 = .ok (.aload 8, 2) := by decide +kernel
theorem dX5_wrap_48 : decode cX5_wrap 48 = .ok (.iload 7, 2) := by decide +kernel
theorem dX5_wrap_50 : decode cX5_wrap 50 = .ok (.iload_n 3, 1) := by decide +kernel
theorem dX5_wrap_51 : decode cX5_wrap 51 = .ok (.iload_n 2, 1) := by decide +kernel
theorem dX5_wrap_52 : decode cX5_wrap 52 = .ok (.ifCond .ne 8, 3) := by decide +kernel
theorem dX5_wrap_55 : decode cX5_wrap 55 = .ok (.bipush 17, 2) := by decide +kernel
theorem dX5_wrap_57 : decode cX5_wrap 57 = .ok (.goto 5, 3) := by decide +kernel
theorem dX5_wrap_60 : decode cX5_wrap 60 = .ok (.bipush 47, 2) := by decide +kernel
theorem dX5_wrap_62 : decode cX5_wrap 62 = .ok (.iload 4, 2) := by decide +kernel
theorem dX5_wrap_64 : decode cX5_wrap 64 = .ok (.iload 5, 2) := by decide +kernel
theorem dX5_wrap_66 : decode cX5_wrap 66 = .ok (.invokestatic 28, 3) := by decide +kernel
theorem dX5_wrap_69 : decode cX5_wrap 69 = .ok (.iload_n 2, 1) := by decide +kernel
theorem dX5_wrap_70 : decode cX5_wrap 70 = .ok (.ifCond .ne 21, 3) := by decide +kernel
theorem dX5_wrap_73 : decode cX5_wrap 73 = .ok (.aload 8, 2) := by decide +kernel
theorem dX5_wrap_75 : decode cX5_wrap 75 = .ok (.iload 7, 2) := by decide +kernel
theorem dX5_wrap_77 : decode cX5_wrap 77 = .ok (.bipush 20, 2) := by decide +kernel
theorem dX5_wrap_79 : decode cX5_wrap 79 = .ok (.isub, 1) := by decide +kernel
theorem dX5_wrap_80 : decode cX5_wrap 80 = .ok (.iload_n 1, 1) := by decide +kernel
theorem dX5_wrap_81 : decode cX5_wrap 81 = .ok (.aload_n 0, 1) := by decide +kernel
theorem dX5_wrap_82 : decode cX5_wrap 82 = .ok (.invokestatic 32, 3) := by decide +kernel
theorem dX5_wrap_85 : decode cX5_wrap 85 = .ok (.invokestatic 36, 3) := by decide +kernel
theorem dX5_wrap_88 : decode cX5_wrap 88 = .ok (.goto 23, 3) := by decide +kernel
theorem dX5_wrap_91 : decode cX5_wrap 91 = .ok (.aload 8, 2) := by decide +kernel
theorem dX5_wrap_93 : decode cX5_wrap 93 = .ok (.iload_n 2, 1) := by decide +kernel
theorem dX5_wrap_94 : decode cX5_wrap 94 = .ok (.iconst 2, 1) := by decide +kernel
theorem dX5_wrap_95 : decode cX5_wrap 95 = .ok (.if_icmp .ne 7, 3) := by decide +kernel
theorem dX5_wrap_98 : decode cX5_wrap 98 = .ok (.iconst 1, 1) := by decide +kernel
theorem dX5_wrap_99 : decode cX5_wrap 99 = .ok (.goto 4, 3) := by decide +kernel
theorem dX5_wrap_102 : decode cX5_wrap 102 = .ok (.iconst 0, 1) := by decide +kernel
theorem dX5_wrap_103 : decode cX5_wrap 103 = .ok (.iload_n 1, 1) := by decide +kernel
theorem dX5_wrap_104 : decode cX5_wrap 104 = .ok (.aload_n 0, 1) := by decide +kernel
theorem dX5_wrap_105 : decode cX5_wrap 105 = .ok (.invokestatic 32, 3) := by decide +kernel
theorem dX5_wrap_108 : decode cX5_wrap 108 = .ok (.invokestatic 40, 3) := by decide +kernel
theorem dX5_wrap_111 : decode cX5_wrap 111 = .ok (.aload 8, 2) := by decide +kernel
theorem dX5_wrap_113 : decode cX5_wrap 113 = .ok (.aload_n 0, 1) := by decide +kernel
theorem dX5_wrap_114 : decode cX5_wrap 114 = .ok (.iconst 0, 1) := by decide +kernel
theorem dX5_wrap_115 : decode cX5_wrap 115 = .ok (.invokevirtual 24, 3) := by decide +kernel
theorem dX5_wrap_118 : decode cX5_wrap 118 = .ok (.iload_n 2, 1) := by decide +kernel
theorem dX5_wrap_119 : decode cX5_wrap 119 = .ok (.iconst 2, 1) := by decide +kernel
theorem dX5_wrap_120 : decode cX5_wrap 120 = .ok (.if_icmp .ne 22, 3) := by decide +kernel
theorem dX5_wrap_123 : decode cX5_wrap 123 = .ok (.aload 8, 2) := by decide +kernel
theorem dX5_wrap_125 : decode cX5_wrap 125 = .ok (.bipush 24, 2) := by decide +kernel
theorem dX5_wrap_127 : decode cX5_wrap 127 = .ok (.aload 8, 2) := by decide +kernel
theorem dX5_wrap_129 : decode cX5_wrap 129 = .ok (.bipush 20, 2) := by decide +kernel
theorem dX5_wrap_131 : decode cX5_wrap 131 = .ok (.aload 8, 2) := by decide +kernel
theorem dX5_wrap_133 : decode cX5_wrap 133 = .ok (.getfield 13, 3) := by decide +kernel
theorem dX5_wrap_136 : decode cX5_wrap 136 = .ok (.invokevirtual 44, 3) := by decide +kernel
theorem dX5_wrap_139 : decode cX5_wrap 139 = .ok (.invokevirtual 48, 3) := by decide +kernel
theorem dX5_wrap_142 : decode cX5_wrap 142 = .ok (.aload 8, 2) := by decide +kernel
theorem dX5_wrap_144 : decode cX5_wrap 144 = .ok (.areturn, 1) := by decide +kernel
theorem dX5_appendIp_0 : decode cX5_appendIp 0 = .ok (.aload_n 0, 1) := by decide +kernel
theorem dX5_appendIp_1 : decode cX5_appendIp 1 = .ok (.bipush 69, 2) := by decide +kernel
theorem dX5_appendIp_3 : decode cX5_appendIp 3 = .ok (.invokevirtual 52, 3) := by decide +kernel
theorem dX5_appendIp_6 : decode cX5_appendIp 6 = .ok (.aload_n 0, 1) := by decide +kernel
theorem dX5_appendIp_7 : decode cX5_appendIp 7 = .ok (.iconst 0, 1) := by decide +kernel
theorem dX5_appendIp_8 : decode cX5_appendIp 8 = .ok (.invokevirtual 52, 3) := by decide +kernel
theorem dX5_appendIp_11 : decode cX5_appendIp 11 = .ok (.aload_n 0, 1) := by decide +kernel
theorem dX5_appendIp_12 : decode cX5_appendIp 12 = .ok (.iload_n 1, 1) := by decide +kernel
theorem dX5_appendIp_13 : decode cX5_appendIp 13 = .ok (.i2l, 1) := by decide +kernel
theorem dX5_appendIp_14 : decode cX5_appendIp 14 = .ok (.iconst 2, 1) := by decide +kernel
theorem dX5_appendIp_15 : decode cX5_appendIp 15 = .ok (.invokevirtual 20, 3) := by decide +kernel
theorem dX5_appendIp_18 : decode cX5_appendIp 18 = .ok (.aload_n 0, 1) := by decide +kernel
theorem dX5_appendIp_19 : decode cX5_appendIp 19 = .ok (.iload_n 2, 1) := by decide +kernel
theorem dX5_appendIp_20 : decode cX5_appendIp 20 = .ok (.i2l, 1) := by decide +kernel
theorem dX5_appendIp_21 : decode cX5_appendIp 21 = .ok (.iconst 2, 1) := by decide +kernel
theorem dX5_appendIp_22 : decode cX5_appendIp 22 = .ok (.invokevirtual 20, 3) := by decide +kernel
theorem dX5_appendIp_25 : decode cX5_appendIp 25 = .ok (.aload_n 0, 1) := by decide +kernel
theorem dX5_appendIp_26 : decode cX5_appendIp 26 = .ok (.ldc2_w 55, 3) := by decide +kernel
theorem dX5_appendIp_29 : decode cX5_appendIp 29 = .ok (.iconst 2, 1) := by decide +kernel
theorem dX5_appendIp_30 : decode cX5_appendIp 30 = .ok (.invokevirtual 20, 3) := by decide +kernel
theorem dX5_appendIp_33 : decode cX5_appendIp 33 = .ok (.aload_n 0, 1) := by decide +kernel
theorem dX5_appendIp_34 : decode cX5_appendIp 34 = .ok (.bipush 64, 2) := by decide +kernel
theorem dX5_appendIp_36 : decode cX5_appendIp 36 = .ok (.invokevirtual 52, 3) := by decide +kernel
theorem dX5_appendIp_39 : decode cX5_appendIp 39 = .ok (.aload_n 0, 1) := by decide +kernel
theorem dX5_appendIp_40 : decode cX5_appendIp 40 = .ok (.iload_n 3, 1) := by decide +kernel
theorem dX5_appendIp_41 : decode cX5_appendIp 41 = .ok (.invokevirtual 52, 3) := by decide +kernel
theorem dX5_appendIp_44 : decode cX5_appendIp 44 = .ok (.aload_n 0, 1) := by decide +kernel
theorem dX5_appendIp_45 : decode cX5_appendIp 45 = .ok (.lconst 0, 1) := by decide +kernel
theorem dX5_appendIp_46 : decode cX5_appendIp 46 = .ok (.iconst 2, 1) := by decide +kernel
theorem dX5_appendIp_47 : decode cX5_appendIp 47 = .ok (.invokevirtual 20, 3) := by decide +kernel
theorem dX5_appendIp_50 : decode cX5_appendIp 50 = .ok (.aload_n 0, 1) := by decide +kernel
theorem dX5_appendIp_51 : decode cX5_appendIp 51 = .ok (.ldc 57, 2) := by decide +kernel
theorem dX5_appendIp_53 : decode cX5_appendIp 53 = .ok (.iload 4, 2) := by decide +kernel
theorem dX5_appendIp_55 : decode cX5_appendIp 55 = .ok (.iadd, 1) := by decide +kernel
theorem dX5_appendIp_56 : decode cX5_appendIp 56 = .ok (.i2l, 1) := by decide +kernel
theorem dX5_appendIp_57 : decode cX5_appendIp 57 = .ok (.iconst 4, 1) := by decide +kernel
theorem dX5_appendIp_58 : decode cX5_appendIp 58 = .ok (.invokevirtual 20, 3) := by decide +kernel
theorem dX5_appendIp_61 : decode cX5_appendIp 61 = .ok (.aload_n 0, 1) := by decide +kernel
theorem dX5_appendIp_62 : decode cX5_appendIp 62 = .ok (.ldc 57, 2) := by decide +kernel
theorem dX5_appendIp_64 : decode cX5_appendIp 64 = .ok (.iload 5, 2) := by decide +kernel
theorem dX5_appendIp_66 : decode cX5_appendIp 66 = .ok (.iadd, 1) := by decide +kernel
theorem dX5_appendIp_67 : decode cX5_appendIp 67 = .ok (.i2l, 1) := by decide +kernel
theorem dX5_appendIp_68 : decode cX5_appendIp 68 = .ok (.iconst 4, 1) := by decide +kernel
theorem dX5_appendIp_69 : decode cX5_appendIp 69 = .ok (.invokevirtual 20, 3) := by decide +kernel
theorem dX5_appendIp_72 : decode cX5_appendIp 72 = .ok (.aload_n 0, 1) := by decide +kernel
theorem dX5_appendIp_73 : decode cX5_appendIp 73 = .ok (.bipush 10, 2) := by decide +kernel
theorem dX5_appendIp_75 : decode cX5_appendIp 75 = .ok (.aload_n 0, 1) := by decide +kernel
theorem dX5_appendIp_76 : decode cX5_appendIp 76 = .ok (.iconst 0, 1) := by decide +kernel
theorem dX5_appendIp_77 : decode cX5_appendIp 77 = .ok (.bipush 20, 2) := by decide +kernel
theorem dX5_appendIp_79 : decode cX5_appendIp 79 = .ok (.invokevirtual 44, 3) := by decide +kernel
theorem dX5_appendIp_82 : decode cX5_appendIp 82 = .ok (.invokevirtual 48, 3) := by decide +kernel
theorem dX5_appendIp_85 : decode cX5_appendIp 85 = .ok (.return_, 1) := by decide +kernel
theorem dX5_appendUdp_0 : decode cX5_appendUdp 0 = .ok (.aload_n 0, 1) := by decide +kernel
theorem dX5_appendUdp_1 : decode cX5_appendUdp 1 = .ok (.ldc 58, 2) := by decide +kernel
theorem dX5_appendUdp_3 : decode cX5_appendUdp 3 = .ok (.iload_n 3, 1) := by decide +kernel
theorem dX5_appendUdp_4 : decode cX5_appendUdp 4 = .ok (.sipush 16383, 3) := by decide +kernel
theorem dX5_appendUdp_7 : decode cX5_appendUdp 7 = .ok (.iand, 1) := by decide +kernel
theorem dX5_appendUdp_8 : decode cX5_appendUdp 8 = .ok (.iadd, 1) := by decide +kernel
theorem dX5_appendUdp_9 : decode cX5_appendUdp 9 = .ok (.i2l, 1) := by decide +kernel
theorem dX5_appendUdp_10 : decode cX5_appendUdp 10 = .ok (.iconst 2, 1) := by decide +kernel
theorem dX5_appendUdp_11 : decode cX5_appendUdp 11 = .ok (.invokevirtual 20, 3) := by decide +kernel
theorem dX5_appendUdp_14 : decode cX5_appendUdp 14 = .ok (.aload_n 0, 1) := by decide +kernel
theorem dX5_appendUdp_15 : decode cX5_appendUdp 15 = .ok (.ldc2_w 59, 3) := by decide +kernel
theorem dX5_appendUdp_18 : decode cX5_appendUdp 18 = .ok (.iconst 2, 1) := by decide +kernel
theorem dX5_appendUdp_19 : decode cX5_appendUdp 19 = .ok (.invokevirtual 20, 3) := by decide +kernel
theorem dX5_appendUdp_22 : decode cX5_appendUdp 22 = .ok (.aload_n 0, 1) := by decide +kernel
theorem dX5_appendUdp_23 : decode cX5_appendUdp 23 = .ok (.iload_n 1, 1) := by decide +kernel
theorem dX5_appendUdp_24 : decode cX5_appendUdp 24 = .ok (.i2l, 1) := by decide +kernel
theorem dX5_appendUdp_25 : decode cX5_appendUdp 25 = .ok (.iconst 2, 1) := by decide +kernel
theorem dX5_appendUdp_26 : decode cX5_appendUdp 26 = .ok (.invokevirtual 20, 3) := by decide +kernel
theorem dX5_appendUdp_29 : decode cX5_appendUdp 29 = .ok (.aload_n 0, 1) := by decide +kernel
theorem dX5_appendUdp_30 : decode cX5_appendUdp 30 = .ok (.lconst 0, 1) := by decide +kernel
theorem dX5_appendUdp_31 : decode cX5_appendUdp 31 = .ok (.iconst 2, 1) := by decide +kernel
theorem dX5_appendUdp_32 : decode cX5_appendUdp 32 = .ok (.invokevirtual 20, 3) := by decide +kernel
theorem dX5_appendUdp_35 : decode cX5_appendUdp 35 = .ok (.aload_n 0, 1) := by decide +kernel
theorem dX5_appendUdp_36 : decode cX5_appendUdp 36 = .ok (.bipush 8, 2) := by decide +kernel
theorem dX5_appendUdp_38 : decode cX5_appendUdp 38 = .ok (.invokevirtual 52, 3) := by decide +kernel
theorem dX5_appendUdp_41 : decode cX5_appendUdp 41 = .ok (.aload_n 0, 1) := by decide +kernel
theorem dX5_appendUdp_42 : decode cX5_appendUdp 42 = .ok (.lconst 0, 1) := by decide +kernel
theorem dX5_appendUdp_43 : decode cX5_appendUdp 43 = .ok (.iconst 3, 1) := by decide +kernel
theorem dX5_appendUdp_44 : decode cX5_appendUdp 44 = .ok (.invokevirtual 20, 3) := by decide +kernel
theorem dX5_appendUdp_47 : decode cX5_appendUdp 47 = .ok (.aload_n 0, 1) := by decide +kernel
theorem dX5_appendUdp_48 : decode cX5_appendUdp 48 = .ok (.iload_n 2, 1) := by decide +kernel
theorem dX5_appendUdp_49 : decode cX5_appendUdp 49 = .ok (.i2l, 1) := by decide +kernel
theorem dX5_appendUdp_50 : decode cX5_appendUdp 50 = .ok (.iconst 3, 1) := by decide +kernel
theorem dX5_appendUdp_51 : decode cX5_appendUdp 51 = .ok (.invokevirtual 20, 3) := by decide +kernel
theorem dX5_appendUdp_54 : decode cX5_appendUdp 54 = .ok (.aload_n 0, 1) := by decide +kernel
theorem dX5_appendUdp_55 : decode cX5_appendUdp 55 = .ok (.iconst 0, 1) := by decide +kernel
theorem dX5_appendUdp_56 : decode cX5_appendUdp 56 = .ok (.invokevirtual 52, 3) := by decide +kernel
theorem dX5_appendUdp_59 : decode cX5_appendUdp 59 = .ok (.return_, 1) := by decide +kernel
theorem dX5_appendGre_0 : decode cX5_appendGre 0 = .ok (.aload_n 0, 1) := by decide +kernel
theorem dX5_appendGre_1 : decode cX5_appendGre 1 = .ok (.iload_n 1, 1) := by decide +kernel
theorem dX5_appendGre_2 : decode cX5_appendGre 2 = .ok (.ifCond .eq 9, 3) := by decide +kernel
theorem dX5_appendGre_5 : decode cX5_appendGre 5 = .ok (.ldc2_w 61, 3) := by decide +kernel
theorem dX5_appendGre_8 : decode cX5_appendGre 8 = .ok (.goto 6, 3) := by decide +kernel
theorem dX5_appendGre_11 : decode cX5_appendGre 11 = .ok (.ldc2_w 63, 3) := by decide +kernel
theorem dX5_appendGre_14 : decode cX5_appendGre 14 = .ok (.iconst 2, 1) := by decide +kernel
theorem dX5_appendGre_15 : decode cX5_appendGre 15 = .ok (.invokevirtual 20, 3) := by decide +kernel
theorem dX5_appendGre_18 : decode cX5_appendGre 18 = .ok (.aload_n 0, 1) := by decide +kernel
theorem dX5_appendGre_19 : decode cX5_appendGre 19 = .ok (.ldc2_w 65, 3) := by decide +kernel
theorem dX5_appendGre_22 : decode cX5_appendGre 22 = .ok (.iconst 2, 1) := by decide +kernel
theorem dX5_appendGre_23 : decode cX5_appendGre 23 = .ok (.invokevirtual 20, 3) := by decide +kernel
theorem dX5_appendGre_26 : decode cX5_appendGre 26 = .ok (.iload_n 1, 1) := by decide +kernel
theorem dX5_appendGre_27 : decode cX5_appendGre 27 = .ok (.ifCond .eq 9, 3) := by decide +kernel
theorem dX5_appendGre_30 : decode cX5_appendGre 30 = .ok (.aload_n 0, 1) := by decide +kernel
theorem dX5_appendGre_31 : decode cX5_appendGre 31 = .ok (.lconst 0, 1) := by decide +kernel
theorem dX5_appendGre_32 : decode cX5_appendGre 32 = .ok (.iconst 4, 1) := by decide +kernel
theorem dX5_appendGre_33 : decode cX5_appendGre 33 = .ok (.invokevirtual 20, 3) := by decide +kernel
theorem dX5_appendGre_36 : decode cX5_appendGre 36 = .ok (.aload_n 0, 1) := by decide +kernel
theorem dX5_appendGre_37 : decode cX5_appendGre 37 = .ok (.iload_n 2, 1) := by decide +kernel
theorem dX5_appendGre_38 : decode cX5_appendGre 38 = .ok (.i2l, 1) := by decide +kernel
theorem dX5_appendGre_39 : decode cX5_appendGre 39 = .ok (.iconst 3, 1) := by decide +kernel
theorem dX5_appendGre_40 : decode cX5_appendGre 40 = .ok (.invokevirtual 20, 3) := by decide +kernel
theorem dX5_appendGre_43 : decode cX5_appendGre 43 = .ok (.aload_n 0, 1) := by decide +kernel
theorem dX5_appendGre_44 : decode cX5_appendGre 44 = .ok (.iload_n 3, 1) := by decide +kernel
theorem dX5_appendGre_45 : decode cX5_appendGre 45 = .ok (.invokevirtual 52, 3) := by decide +kernel
theorem dX5_appendGre_48 : decode cX5_appendGre 48 = .ok (.return_, 1) := by decide +kernel
theorem dX5_mixOf_0 : decode cX5_mixOf 0 = .ok (.iconst 0, 1) := by decide +kernel
theorem dX5_mixOf_1 : decode cX5_mixOf 1 = .ok (.istore_n 1, 1) := by decide +kernel
theorem dX5_mixOf_2 : decode cX5_mixOf 2 = .ok (.iconst 0, 1) := by decide +kernel
theorem dX5_mixOf_3 : decode cX5_mixOf 3 = .ok (.istore_n 2, 1) := by decide +kernel
theorem dX5_mixOf_4 : decode cX5_mixOf 4 = .ok (.iload_n 2, 1) := by decide +kernel
theorem dX5_mixOf_5 : decode cX5_mixOf 5 = .ok (.bipush 12, 2) := by decide +kernel
theorem dX5_mixOf_7 : decode cX5_mixOf 7 = .ok (.if_icmp .ge 20, 3) := by decide +kernel
theorem dX5_mixOf_10 : decode cX5_mixOf 10 = .ok (.bipush 31, 2) := by decide +kernel
theorem dX5_mixOf_12 : decode cX5_mixOf 12 = .ok (.iload_n 1, 1) := by decide +kernel
theorem dX5_mixOf_13 : decode cX5_mixOf 13 = .ok (.imul, 1) := by decide +kernel
theorem dX5_mixOf_14 : decode cX5_mixOf 14 = .ok (.aload_n 0, 1) := by decide +kernel
theorem dX5_mixOf_15 : decode cX5_mixOf 15 = .ok (.iload_n 2, 1) := by decide +kernel
theorem dX5_mixOf_16 : decode cX5_mixOf 16 = .ok (.invokevirtual 67, 3) := by decide +kernel
theorem dX5_mixOf_19 : decode cX5_mixOf 19 = .ok (.iadd, 1) := by decide +kernel
theorem dX5_mixOf_20 : decode cX5_mixOf 20 = .ok (.istore_n 1, 1) := by decide +kernel
theorem dX5_mixOf_21 : decode cX5_mixOf 21 = .ok (.iinc 2 1, 3) := by decide +kernel
theorem dX5_mixOf_24 : decode cX5_mixOf 24 = .ok (.goto (-20), 3) := by decide +kernel
theorem dX5_mixOf_27 : decode cX5_mixOf 27 = .ok (.iload_n 1, 1) := by decide +kernel
theorem dX5_mixOf_28 : decode cX5_mixOf 28 = .ok (.ireturn, 1) := by decide +kernel
theorem dX5_faultOf_0 : decode cX5_faultOf 0 = .ok (.aload_n 0, 1) := by decide +kernel
theorem dX5_faultOf_1 : decode cX5_faultOf 1 = .ok (.getfield 13, 3) := by decide +kernel
theorem dX5_faultOf_4 : decode cX5_faultOf 4 = .ok (.bipush 20, 2) := by decide +kernel
theorem dX5_faultOf_6 : decode cX5_faultOf 6 = .ok (.if_icmp .lt 25, 3) := by decide +kernel
theorem dX5_faultOf_9 : decode cX5_faultOf 9 = .ok (.aload_n 0, 1) := by decide +kernel
theorem dX5_faultOf_10 : decode cX5_faultOf 10 = .ok (.iconst 0, 1) := by decide +kernel
theorem dX5_faultOf_11 : decode cX5_faultOf 11 = .ok (.invokevirtual 67, 3) := by decide +kernel
theorem dX5_faultOf_14 : decode cX5_faultOf 14 = .ok (.bipush 69, 2) := by decide +kernel
theorem dX5_faultOf_16 : decode cX5_faultOf 16 = .ok (.if_icmp .ne 15, 3) := by decide +kernel
theorem dX5_faultOf_19 : decode cX5_faultOf 19 = .ok (.aload_n 0, 1) := by decide +kernel
theorem dX5_faultOf_20 : decode cX5_faultOf 20 = .ok (.iconst 2, 1) := by decide +kernel
theorem dX5_faultOf_21 : decode cX5_faultOf 21 = .ok (.invokevirtual 71, 3) := by decide +kernel
theorem dX5_faultOf_24 : decode cX5_faultOf 24 = .ok (.aload_n 0, 1) := by decide +kernel
theorem dX5_faultOf_25 : decode cX5_faultOf 25 = .ok (.getfield 13, 3) := by decide +kernel
theorem dX5_faultOf_28 : decode cX5_faultOf 28 = .ok (.if_icmp .eq 5, 3) := by decide +kernel
theorem dX5_faultOf_31 : decode cX5_faultOf 31 = .ok (.iconst 1, 1) := by decide +kernel
theorem dX5_faultOf_32 : decode cX5_faultOf 32 = .ok (.ireturn, 1) := by decide +kernel
theorem dX5_faultOf_33 : decode cX5_faultOf 33 = .ok (.aload_n 0, 1) := by decide +kernel
theorem dX5_faultOf_34 : decode cX5_faultOf 34 = .ok (.iconst 0, 1) := by decide +kernel
theorem dX5_faultOf_35 : decode cX5_faultOf 35 = .ok (.bipush 20, 2) := by decide +kernel
theorem dX5_faultOf_37 : decode cX5_faultOf 37 = .ok (.invokevirtual 44, 3) := by decide +kernel
theorem dX5_faultOf_40 : decode cX5_faultOf 40 = .ok (.ifCond .eq 5, 3) := by decide +kernel
theorem dX5_faultOf_43 : decode cX5_faultOf 43 = .ok (.iconst 2, 1) := by decide +kernel
theorem dX5_faultOf_44 : decode cX5_faultOf 44 = .ok (.ireturn, 1) := by decide +kernel
theorem dX5_faultOf_45 : decode cX5_faultOf 45 = .ok (.aload_n 0, 1) := by decide +kernel
theorem dX5_faultOf_46 : decode cX5_faultOf 46 = .ok (.bipush 16, 2) := by decide +kernel
theorem dX5_faultOf_48 : decode cX5_faultOf 48 = .ok (.iconst 4, 1) := by decide +kernel
theorem dX5_faultOf_49 : decode cX5_faultOf 49 = .ok (.invokevirtual 74, 3) := by decide +kernel
theorem dX5_faultOf_52 : decode cX5_faultOf 52 = .ok (.ldc 57, 2) := by decide +kernel
theorem dX5_faultOf_54 : decode cX5_faultOf 54 = .ok (.iload_n 1, 1) := by decide +kernel
theorem dX5_faultOf_55 : decode cX5_faultOf 55 = .ok (.iadd, 1) := by decide +kernel
theorem dX5_faultOf_56 : decode cX5_faultOf 56 = .ok (.i2l, 1) := by decide +kernel
theorem dX5_faultOf_57 : decode cX5_faultOf 57 = .ok (.lcmp, 1) := by decide +kernel
theorem dX5_faultOf_58 : decode cX5_faultOf 58 = .ok (.ifCond .eq 5, 3) := by decide +kernel
theorem dX5_faultOf_61 : decode cX5_faultOf 61 = .ok (.iconst 3, 1) := by decide +kernel
theorem dX5_faultOf_62 : decode cX5_faultOf 62 = .ok (.ireturn, 1) := by decide +kernel
theorem dX5_faultOf_63 : decode cX5_faultOf 63 = .ok (.aload_n 0, 1) := by decide +kernel
theorem dX5_faultOf_64 : decode cX5_faultOf 64 = .ok (.bipush 6, 2) := by decide +kernel
theorem dX5_faultOf_66 : decode cX5_faultOf 66 = .ok (.invokevirtual 71, 3) := by decide +kernel
theorem dX5_faultOf_69 : decode cX5_faultOf 69 = .ok (.istore_n 2, 1) := by decide +kernel
theorem dX5_faultOf_70 : decode cX5_faultOf 70 = .ok (.iload_n 2, 1) := by decide +kernel
theorem dX5_faultOf_71 : decode cX5_faultOf 71 = .ok (.sipush 16384, 3) := by decide +kernel
theorem dX5_faultOf_74 : decode cX5_faultOf 74 = .ok (.if_icmp .eq 9, 3) := by decide +kernel
theorem dX5_faultOf_77 : decode cX5_faultOf 77 = .ok (.iload_n 2, 1) := by decide +kernel
theorem dX5_faultOf_78 : decode cX5_faultOf 78 = .ok (.ifCond .eq 5, 3) := by decide +kernel
theorem dX5_faultOf_81 : decode cX5_faultOf 81 = .ok (.iconst 4, 1) := by decide +kernel
theorem dX5_faultOf_82 : decode cX5_faultOf 82 = .ok (.ireturn, 1) := by decide +kernel
theorem dX5_faultOf_83 : decode cX5_faultOf 83 = .ok (.aload_n 0, 1) := by decide +kernel
theorem dX5_faultOf_84 : decode cX5_faultOf 84 = .ok (.invokestatic 78, 3) := by decide +kernel
theorem dX5_faultOf_87 : decode cX5_faultOf 87 = .ok (.ifCond .eq 7, 3) := by decide +kernel
theorem dX5_faultOf_90 : decode cX5_faultOf 90 = .ok (.iconst 0, 1) := by decide +kernel
theorem dX5_faultOf_91 : decode cX5_faultOf 91 = .ok (.goto 4, 3) := by decide +kernel
theorem dX5_faultOf_94 : decode cX5_faultOf 94 = .ok (.iconst 5, 1) := by decide +kernel
theorem dX5_faultOf_95 : decode cX5_faultOf 95 = .ok (.ireturn, 1) := by decide +kernel
theorem dX5_carriesFrame_0 : decode cX5_carriesFrame 0 = .ok (.aload_n 0, 1) := by decide +kernel
theorem dX5_carriesFrame_1 : decode cX5_carriesFrame 1 = .ok (.getfield 13, 3) := by decide +kernel
theorem dX5_carriesFrame_4 : decode cX5_carriesFrame 4 = .ok (.aload_n 0, 1) := by decide +kernel
theorem dX5_carriesFrame_5 : decode cX5_carriesFrame 5 = .ok (.invokestatic 82, 3) := by decide +kernel
theorem dX5_carriesFrame_8 : decode cX5_carriesFrame 8 = .ok (.bipush 14, 2) := by decide +kernel
theorem dX5_carriesFrame_10 : decode cX5_carriesFrame 10 = .ok (.iadd, 1) := by decide +kernel
theorem dX5_carriesFrame_11 : decode cX5_carriesFrame 11 = .ok (.if_icmp .ge 5, 3) := by decide +kernel
theorem dX5_carriesFrame_14 : decode cX5_carriesFrame 14 = .ok (.iconst 0, 1) := by decide +kernel
theorem dX5_carriesFrame_15 : decode cX5_carriesFrame 15 = .ok (.ireturn, 1) := by decide +kernel
theorem dX5_carriesFrame_16 : decode cX5_carriesFrame 16 = .ok (.aload_n 0, 1) := by decide +kernel
theorem dX5_carriesFrame_17 : decode cX5_carriesFrame 17 = .ok (.bipush 9, 2) := by decide +kernel
theorem dX5_carriesFrame_19 : decode cX5_carriesFrame 19 = .ok (.invokevirtual 67, 3) := by decide +kernel
theorem dX5_carriesFrame_22 : decode cX5_carriesFrame 22 = .ok (.istore_n 1, 1) := by decide +kernel
theorem dX5_carriesFrame_23 : decode cX5_carriesFrame 23 = .ok (.iload_n 1, 1) := by decide +kernel
theorem dX5_carriesFrame_24 : decode cX5_carriesFrame 24 = .ok (.bipush 17, 2) := by decide +kernel
theorem dX5_carriesFrame_26 : decode cX5_carriesFrame 26 = .ok (.if_icmp .ne 8, 3) := by decide +kernel
theorem dX5_carriesFrame_29 : decode cX5_carriesFrame 29 = .ok (.aload_n 0, 1) := by decide +kernel
theorem dX5_carriesFrame_30 : decode cX5_carriesFrame 30 = .ok (.invokestatic 85, 3) := by decide +kernel
theorem dX5_carriesFrame_33 : decode cX5_carriesFrame 33 = .ok (.ireturn, 1) := by decide +kernel
theorem dX5_carriesFrame_34 : decode cX5_carriesFrame 34 = .ok (.iload_n 1, 1) := by decide +kernel
theorem dX5_carriesFrame_35 : decode cX5_carriesFrame 35 = .ok (.bipush 47, 2) := by decide +kernel
theorem dX5_carriesFrame_37 : decode cX5_carriesFrame 37 = .ok (.if_icmp .ne 14, 3) := by decide +kernel
theorem dX5_carriesFrame_40 : decode cX5_carriesFrame 40 = .ok (.aload_n 0, 1) := by decide +kernel
theorem dX5_carriesFrame_41 : decode cX5_carriesFrame 41 = .ok (.invokestatic 88, 3) := by decide +kernel
theorem dX5_carriesFrame_44 : decode cX5_carriesFrame 44 = .ok (.ifCond .eq 7, 3) := by decide +kernel
theorem dX5_carriesFrame_47 : decode cX5_carriesFrame 47 = .ok (.iconst 1, 1) := by decide +kernel
theorem dX5_carriesFrame_48 : decode cX5_carriesFrame 48 = .ok (.goto 4, 3) := by decide +kernel
theorem dX5_carriesFrame_51 : decode cX5_carriesFrame 51 = .ok (.iconst 0, 1) := by decide +kernel
theorem dX5_carriesFrame_52 : decode cX5_carriesFrame 52 = .ok (.ireturn, 1) := by decide +kernel
theorem dX5_isGoodUdp_0 : decode cX5_isGoodUdp 0 = .ok (.aload_n 0, 1) := by decide +kernel
theorem dX5_isGoodUdp_1 : decode cX5_isGoodUdp 1 = .ok (.bipush 24, 2) := by decide +kernel
theorem dX5_isGoodUdp_3 : decode cX5_isGoodUdp 3 = .ok (.invokevirtual 71, 3) := by decide +kernel
theorem dX5_isGoodUdp_6 : decode cX5_isGoodUdp 6 = .ok (.aload_n 0, 1) := by decide +kernel
theorem dX5_isGoodUdp_7 : decode cX5_isGoodUdp 7 = .ok (.getfield 13, 3) := by decide +kernel
theorem dX5_isGoodUdp_10 : decode cX5_isGoodUdp 10 = .ok (.bipush 20, 2) := by decide +kernel
theorem dX5_isGoodUdp_12 : decode cX5_isGoodUdp 12 = .ok (.isub, 1) := by decide +kernel
theorem dX5_isGoodUdp_13 : decode cX5_isGoodUdp 13 = .ok (.if_icmp .ne 40, 3) := by decide +kernel
theorem dX5_isGoodUdp_16 : decode cX5_isGoodUdp 16 = .ok (.aload_n 0, 1) := by decide +kernel
theorem dX5_isGoodUdp_17 : decode cX5_isGoodUdp 17 = .ok (.bipush 22, 2) := by decide +kernel
theorem dX5_isGoodUdp_19 : decode cX5_isGoodUdp 19 = .ok (.invokevirtual 71, 3) := by decide +kernel
theorem dX5_isGoodUdp_22 : decode cX5_isGoodUdp 22 = .ok (.sipush 4789, 3) := by decide +kernel
theorem dX5_isGoodUdp_25 : decode cX5_isGoodUdp 25 = .ok (.if_icmp .ne 28, 3) := by decide +kernel
theorem dX5_isGoodUdp_28 : decode cX5_isGoodUdp 28 = .ok (.aload_n 0, 1) := by decide +kernel
theorem dX5_isGoodUdp_29 : decode cX5_isGoodUdp 29 = .ok (.bipush 26, 2) := by decide +kernel
theorem dX5_isGoodUdp_31 : decode cX5_isGoodUdp 31 = .ok (.invokevirtual 71, 3) := by decide +kernel
theorem dX5_isGoodUdp_34 : decode cX5_isGoodUdp 34 = .ok (.ifCond .ne 19, 3) := by decide +kernel
theorem dX5_isGoodUdp_37 : decode cX5_isGoodUdp 37 = .ok (.aload_n 0, 1) := by decide +kernel
theorem dX5_isGoodUdp_38 : decode cX5_isGoodUdp 38 = .ok (.bipush 28, 2) := by decide +kernel
theorem dX5_isGoodUdp_40 : decode cX5_isGoodUdp 40 = .ok (.invokevirtual 67, 3) := by decide +kernel
theorem dX5_isGoodUdp_43 : decode cX5_isGoodUdp 43 = .ok (.bipush 8, 2) := by decide +kernel
theorem dX5_isGoodUdp_45 : decode cX5_isGoodUdp 45 = .ok (.iand, 1) := by decide +kernel
theorem dX5_isGoodUdp_46 : decode cX5_isGoodUdp 46 = .ok (.ifCond .eq 7, 3) := by decide +kernel
theorem dX5_isGoodUdp_49 : decode cX5_isGoodUdp 49 = .ok (.iconst 1, 1) := by decide +kernel
theorem dX5_isGoodUdp_50 : decode cX5_isGoodUdp 50 = .ok (.goto 4, 3) := by decide +kernel
theorem dX5_isGoodUdp_53 : decode cX5_isGoodUdp 53 = .ok (.iconst 0, 1) := by decide +kernel
theorem dX5_isGoodUdp_54 : decode cX5_isGoodUdp 54 = .ok (.ireturn, 1) := by decide +kernel
theorem dX5_isGoodGre_0 : decode cX5_isGoodGre 0 = .ok (.aload_n 0, 1) := by decide +kernel
theorem dX5_isGoodGre_1 : decode cX5_isGoodGre 1 = .ok (.bipush 22, 2) := by decide +kernel
theorem dX5_isGoodGre_3 : decode cX5_isGoodGre 3 = .ok (.invokevirtual 71, 3) := by decide +kernel
theorem dX5_isGoodGre_6 : decode cX5_isGoodGre 6 = .ok (.sipush 25944, 3) := by decide +kernel
theorem dX5_isGoodGre_9 : decode cX5_isGoodGre 9 = .ok (.if_icmp .eq 5, 3) := by decide +kernel
theorem dX5_isGoodGre_12 : decode cX5_isGoodGre 12 = .ok (.iconst 0, 1) := by decide +kernel
theorem dX5_isGoodGre_13 : decode cX5_isGoodGre 13 = .ok (.ireturn, 1) := by decide +kernel
theorem dX5_isGoodGre_14 : decode cX5_isGoodGre 14 = .ok (.aload_n 0, 1) := by decide +kernel
theorem dX5_isGoodGre_15 : decode cX5_isGoodGre 15 = .ok (.bipush 20, 2) := by decide +kernel
theorem dX5_isGoodGre_17 : decode cX5_isGoodGre 17 = .ok (.invokevirtual 71, 3) := by decide +kernel
theorem dX5_isGoodGre_20 : decode cX5_isGoodGre 20 = .ok (.istore_n 1, 1) := by decide +kernel
theorem dX5_isGoodGre_21 : decode cX5_isGoodGre 21 = .ok (.iload_n 1, 1) := by decide +kernel
theorem dX5_isGoodGre_22 : decode cX5_isGoodGre 22 = .ok (.sipush 8192, 3) := by decide +kernel
theorem dX5_isGoodGre_25 : decode cX5_isGoodGre 25 = .ok (.if_icmp .eq 22, 3) := by decide +kernel
theorem dX5_isGoodGre_28 : decode cX5_isGoodGre 28 = .ok (.iload_n 1, 1) := by decide +kernel
theorem dX5_isGoodGre_29 : decode cX5_isGoodGre 29 = .ok (.ldc 91, 2) := by decide +kernel
theorem dX5_isGoodGre_31 : decode cX5_isGoodGre 31 = .ok (.if_icmp .ne 20, 3) := by decide +kernel
theorem dX5_isGoodGre_34 : decode cX5_isGoodGre 34 = .ok (.aload_n 0, 1) := by decide +kernel
theorem dX5_isGoodGre_35 : decode cX5_isGoodGre 35 = .ok (.bipush 20, 2) := by decide +kernel
theorem dX5_isGoodGre_37 : decode cX5_isGoodGre 37 = .ok (.aload_n 0, 1) := by decide +kernel
theorem dX5_isGoodGre_38 : decode cX5_isGoodGre 38 = .ok (.getfield 13, 3) := by decide +kernel
theorem dX5_isGoodGre_41 : decode cX5_isGoodGre 41 = .ok (.invokevirtual 44, 3) := by decide +kernel
theorem dX5_isGoodGre_44 : decode cX5_isGoodGre 44 = .ok (.ifCond .ne 7, 3) := by decide +kernel
theorem dX5_isGoodGre_47 : decode cX5_isGoodGre 47 = .ok (.iconst 1, 1) := by decide +kernel
theorem dX5_isGoodGre_48 : decode cX5_isGoodGre 48 = .ok (.goto 4, 3) := by decide +kernel
theorem dX5_isGoodGre_51 : decode cX5_isGoodGre 51 = .ok (.iconst 0, 1) := by decide +kernel
theorem dX5_isGoodGre_52 : decode cX5_isGoodGre 52 = .ok (.ireturn, 1) := by decide +kernel
theorem dX5_frameStart_0 : decode cX5_frameStart 0 = .ok (.aload_n 0, 1) := by decide +kernel
theorem dX5_frameStart_1 : decode cX5_frameStart 1 = .ok (.bipush 9, 2) := by decide +kernel
theorem dX5_frameStart_3 : decode cX5_frameStart 3 = .ok (.invokevirtual 67, 3) := by decide +kernel
theorem dX5_frameStart_6 : decode cX5_frameStart 6 = .ok (.bipush 17, 2) := by decide +kernel
theorem dX5_frameStart_8 : decode cX5_frameStart 8 = .ok (.if_icmp .ne 6, 3) := by decide +kernel
theorem dX5_frameStart_11 : decode cX5_frameStart 11 = .ok (.bipush 36, 2) := by decide +kernel
theorem dX5_frameStart_13 : decode cX5_frameStart 13 = .ok (.ireturn, 1) := by decide +kernel
theorem dX5_frameStart_14 : decode cX5_frameStart 14 = .ok (.bipush 20, 2) := by decide +kernel
theorem dX5_frameStart_16 : decode cX5_frameStart 16 = .ok (.aload_n 0, 1) := by decide +kernel
theorem dX5_frameStart_17 : decode cX5_frameStart 17 = .ok (.bipush 20, 2) := by decide +kernel
theorem dX5_frameStart_19 : decode cX5_frameStart 19 = .ok (.invokevirtual 71, 3) := by decide +kernel
theorem dX5_frameStart_22 : decode cX5_frameStart 22 = .ok (.ldc 91, 2) := by decide +kernel
theorem dX5_frameStart_24 : decode cX5_frameStart 24 = .ok (.if_icmp .ne 8, 3) := by decide +kernel
theorem dX5_frameStart_27 : decode cX5_frameStart 27 = .ok (.bipush 12, 2) := by decide +kernel
theorem dX5_frameStart_29 : decode cX5_frameStart 29 = .ok (.goto 5, 3) := by decide +kernel
theorem dX5_frameStart_32 : decode cX5_frameStart 32 = .ok (.bipush 8, 2) := by decide +kernel
theorem dX5_frameStart_34 : decode cX5_frameStart 34 = .ok (.iadd, 1) := by decide +kernel
theorem dX5_frameStart_35 : decode cX5_frameStart 35 = .ok (.ireturn, 1) := by decide +kernel
theorem dX5_netOf_0 : decode cX5_netOf 0 = .ok (.aload_n 0, 1) := by decide +kernel
theorem dX5_netOf_1 : decode cX5_netOf 1 = .ok (.aload_n 0, 1) := by decide +kernel
theorem dX5_netOf_2 : decode cX5_netOf 2 = .ok (.invokestatic 82, 3) := by decide +kernel
theorem dX5_netOf_5 : decode cX5_netOf 5 = .ok (.iconst 4, 1) := by decide +kernel
theorem dX5_netOf_6 : decode cX5_netOf 6 = .ok (.isub, 1) := by decide +kernel
theorem dX5_netOf_7 : decode cX5_netOf 7 = .ok (.iconst 3, 1) := by decide +kernel
theorem dX5_netOf_8 : decode cX5_netOf 8 = .ok (.invokevirtual 74, 3) := by decide +kernel
theorem dX5_netOf_11 : decode cX5_netOf 11 = .ok (.l2i, 1) := by decide +kernel
theorem dX5_netOf_12 : decode cX5_netOf 12 = .ok (.ireturn, 1) := by decide +kernel
theorem dX5_senderOf_0 : decode cX5_senderOf 0 = .ok (.aload_n 0, 1) := by decide +kernel
theorem dX5_senderOf_1 : decode cX5_senderOf 1 = .ok (.bipush 12, 2) := by decide +kernel
theorem dX5_senderOf_3 : decode cX5_senderOf 3 = .ok (.iconst 4, 1) := by decide +kernel
theorem dX5_senderOf_4 : decode cX5_senderOf 4 = .ok (.invokevirtual 74, 3) := by decide +kernel
theorem dX5_senderOf_7 : decode cX5_senderOf 7 = .ok (.l2i, 1) := by decide +kernel
theorem dX5_senderOf_8 : decode cX5_senderOf 8 = .ok (.ldc 57, 2) := by decide +kernel
theorem dX5_senderOf_10 : decode cX5_senderOf 10 = .ok (.isub, 1) := by decide +kernel
theorem dX5_senderOf_11 : decode cX5_senderOf 11 = .ok (.ireturn, 1) := by decide +kernel
theorem dX5_macTo_0 : decode cX5_macTo 0 = .ok (.aload_n 0, 1) := by decide +kernel
theorem dX5_macTo_1 : decode cX5_macTo 1 = .ok (.aload_n 0, 1) := by decide +kernel
theorem dX5_macTo_2 : decode cX5_macTo 2 = .ok (.invokestatic 82, 3) := by decide +kernel
theorem dX5_macTo_5 : decode cX5_macTo 5 = .ok (.bipush 6, 2) := by decide +kernel
theorem dX5_macTo_7 : decode cX5_macTo 7 = .ok (.invokevirtual 74, 3) := by decide +kernel
theorem dX5_macTo_10 : decode cX5_macTo 10 = .ok (.lreturn, 1) := by decide +kernel
theorem dX5_macFrom_0 : decode cX5_macFrom 0 = .ok (.aload_n 0, 1) := by decide +kernel
theorem dX5_macFrom_1 : decode cX5_macFrom 1 = .ok (.aload_n 0, 1) := by decide +kernel
theorem dX5_macFrom_2 : decode cX5_macFrom 2 = .ok (.invokestatic 82, 3) := by decide +kernel
theorem dX5_macFrom_5 : decode cX5_macFrom 5 = .ok (.bipush 6, 2) := by decide +kernel
theorem dX5_macFrom_7 : decode cX5_macFrom 7 = .ok (.iadd, 1) := by decide +kernel
theorem dX5_macFrom_8 : decode cX5_macFrom 8 = .ok (.bipush 6, 2) := by decide +kernel
theorem dX5_macFrom_10 : decode cX5_macFrom 10 = .ok (.invokevirtual 74, 3) := by decide +kernel
theorem dX5_macFrom_13 : decode cX5_macFrom 13 = .ok (.lreturn, 1) := by decide +kernel
theorem dX5_isGroup_0 : decode cX5_isGroup 0 = .ok (.lload_n 0, 1) := by decide +kernel
theorem dX5_isGroup_1 : decode cX5_isGroup 1 = .ok (.bipush 40, 2) := by decide +kernel
theorem dX5_isGroup_3 : decode cX5_isGroup 3 = .ok (.lushr, 1) := by decide +kernel
theorem dX5_isGroup_4 : decode cX5_isGroup 4 = .ok (.lconst 1, 1) := by decide +kernel
theorem dX5_isGroup_5 : decode cX5_isGroup 5 = .ok (.land, 1) := by decide +kernel
theorem dX5_isGroup_6 : decode cX5_isGroup 6 = .ok (.lconst 0, 1) := by decide +kernel
theorem dX5_isGroup_7 : decode cX5_isGroup 7 = .ok (.lcmp, 1) := by decide +kernel
theorem dX5_isGroup_8 : decode cX5_isGroup 8 = .ok (.ifCond .eq 7, 3) := by decide +kernel
theorem dX5_isGroup_11 : decode cX5_isGroup 11 = .ok (.iconst 1, 1) := by decide +kernel
theorem dX5_isGroup_12 : decode cX5_isGroup 12 = .ok (.goto 4, 3) := by decide +kernel
theorem dX5_isGroup_15 : decode cX5_isGroup 15 = .ok (.iconst 0, 1) := by decide +kernel
theorem dX5_isGroup_16 : decode cX5_isGroup 16 = .ok (.ireturn, 1) := by decide +kernel
theorem dX5_unwrap_0 : decode cX5_unwrap 0 = .ok (.aload_n 0, 1) := by decide +kernel
theorem dX5_unwrap_1 : decode cX5_unwrap 1 = .ok (.invokestatic 82, 3) := by decide +kernel
theorem dX5_unwrap_4 : decode cX5_unwrap 4 = .ok (.istore_n 1, 1) := by decide +kernel
theorem dX5_unwrap_5 : decode cX5_unwrap 5 = .ok (.new 11, 3) := by decide +kernel
theorem dX5_unwrap_8 : decode cX5_unwrap 8 = .ok (.dup, 1) := by decide +kernel
theorem dX5_unwrap_9 : decode cX5_unwrap 9 = .ok (.aload_n 0, 1) := by decide +kernel
theorem dX5_unwrap_10 : decode cX5_unwrap 10 = .ok (.getfield 13, 3) := by decide +kernel
theorem dX5_unwrap_13 : decode cX5_unwrap 13 = .ok (.iload_n 1, 1) := by decide +kernel
theorem dX5_unwrap_14 : decode cX5_unwrap 14 = .ok (.isub, 1) := by decide +kernel
theorem dX5_unwrap_15 : decode cX5_unwrap 15 = .ok (.invokespecial 17, 3) := by decide +kernel
theorem dX5_unwrap_18 : decode cX5_unwrap 18 = .ok (.astore_n 2, 1) := by decide +kernel
theorem dX5_unwrap_19 : decode cX5_unwrap 19 = .ok (.aload_n 2, 1) := by decide +kernel
theorem dX5_unwrap_20 : decode cX5_unwrap 20 = .ok (.aload_n 0, 1) := by decide +kernel
theorem dX5_unwrap_21 : decode cX5_unwrap 21 = .ok (.iload_n 1, 1) := by decide +kernel
theorem dX5_unwrap_22 : decode cX5_unwrap 22 = .ok (.invokevirtual 24, 3) := by decide +kernel
theorem dX5_unwrap_25 : decode cX5_unwrap 25 = .ok (.aload_n 2, 1) := by decide +kernel
theorem dX5_unwrap_26 : decode cX5_unwrap 26 = .ok (.areturn, 1) := by decide +kernel
theorem dX6_init_0 : decode cX6_init 0 = .ok (.aload_n 0, 1) := by decide +kernel
theorem dX6_init_1 : decode cX6_init 1 = .ok (.invokespecial 1, 3) := by decide +kernel
theorem dX6_init_4 : decode cX6_init 4 = .ok (.aload_n 0, 1) := by decide +kernel
theorem dX6_init_5 : decode cX6_init 5 = .ok (.bipush 8, 2) := by decide +kernel
theorem dX6_init_7 : decode cX6_init 7 = .ok (.anewarray 9, 3) := by decide +kernel
theorem dX6_init_10 : decode cX6_init 10 = .ok (.putfield 11, 3) := by decide +kernel
theorem dX6_init_13 : decode cX6_init 13 = .ok (.aload_n 0, 1) := by decide +kernel
theorem dX6_init_14 : decode cX6_init 14 = .ok (.new 15, 3) := by decide +kernel
theorem dX6_init_17 : decode cX6_init 17 = .ok (.dup, 1) := by decide +kernel
theorem dX6_init_18 : decode cX6_init 18 = .ok (.invokespecial 17, 3) := by decide +kernel
theorem dX6_init_21 : decode cX6_init 21 = .ok (.putfield 18, 3) := by decide +kernel
theorem dX6_init_24 : decode cX6_init 24 = .ok (.aload_n 0, 1) := by decide +kernel
theorem dX6_init_25 : decode cX6_init 25 = .ok (.new 15, 3) := by decide +kernel
theorem dX6_init_28 : decode cX6_init 28 = .ok (.dup, 1) := by decide +kernel
theorem dX6_init_29 : decode cX6_init 29 = .ok (.invokespecial 17, 3) := by decide +kernel
theorem dX6_init_32 : decode cX6_init 32 = .ok (.putfield 22, 3) := by decide +kernel
theorem dX6_init_35 : decode cX6_init 35 = .ok (.aload_n 0, 1) := by decide +kernel
theorem dX6_init_36 : decode cX6_init 36 = .ok (.new 25, 3) := by decide +kernel
theorem dX6_init_39 : decode cX6_init 39 = .ok (.dup, 1) := by decide +kernel
theorem dX6_init_40 : decode cX6_init 40 = .ok (.bipush 120, 2) := by decide +kernel
theorem dX6_init_42 : decode cX6_init 42 = .ok (.invokespecial 27, 3) := by decide +kernel
theorem dX6_init_45 : decode cX6_init 45 = .ok (.putfield 30, 3) := by decide +kernel
theorem dX6_init_48 : decode cX6_init 48 = .ok (.aload_n 0, 1) := by decide +kernel
theorem dX6_init_49 : decode cX6_init 49 = .ok (.bipush 13, 2) := by decide +kernel
theorem dX6_init_51 : decode cX6_init 51 = .ok (.newarray .int, 2) := by decide +kernel
theorem dX6_init_53 : decode cX6_init 53 = .ok (.putfield 34, 3) := by decide +kernel
theorem dX6_init_56 : decode cX6_init 56 = .ok (.aload_n 0, 1) := by decide +kernel
theorem dX6_init_57 : decode cX6_init 57 = .ok (.iconst 4, 1) := by decide +kernel
theorem dX6_init_58 : decode cX6_init 58 = .ok (.putfield 38, 3) := by decide +kernel
theorem dX6_init_61 : decode cX6_init 61 = .ok (.iconst 0, 1) := by decide +kernel
theorem dX6_init_62 : decode cX6_init 62 = .ok (.istore_n 1, 1) := by decide +kernel
theorem dX6_init_63 : decode cX6_init 63 = .ok (.iload_n 1, 1) := by decide +kernel
theorem dX6_init_64 : decode cX6_init 64 = .ok (.bipush 8, 2) := by decide +kernel
theorem dX6_init_66 : decode cX6_init 66 = .ok (.if_icmp .ge 23, 3) := by decide +kernel
theorem dX6_init_69 : decode cX6_init 69 = .ok (.aload_n 0, 1) := by decide +kernel
theorem dX6_init_70 : decode cX6_init 70 = .ok (.getfield 11, 3) := by decide +kernel
theorem dX6_init_73 : decode cX6_init 73 = .ok (.iload_n 1, 1) := by decide +kernel
theorem dX6_init_74 : decode cX6_init 74 = .ok (.new 9, 3) := by decide +kernel
theorem dX6_init_77 : decode cX6_init 77 = .ok (.dup, 1) := by decide +kernel
theorem dX6_init_78 : decode cX6_init 78 = .ok (.iload_n 1, 1) := by decide +kernel
theorem dX6_init_79 : decode cX6_init 79 = .ok (.invokespecial 42, 3) := by decide +kernel
theorem dX6_init_82 : decode cX6_init 82 = .ok (.aastore, 1) := by decide +kernel
theorem dX6_init_83 : decode cX6_init 83 = .ok (.iinc 1 1, 3) := by decide +kernel
theorem dX6_init_86 : decode cX6_init 86 = .ok (.goto (-23), 3) := by decide +kernel
theorem dX6_init_89 : decode cX6_init 89 = .ok (.return_, 1) := by decide +kernel
theorem dX6_begin_0 : decode cX6_begin 0 = .ok (.iload_n 1, 1) := by decide +kernel
theorem dX6_begin_1 : decode cX6_begin 1 = .ok (.iconst 2, 1) := by decide +kernel
theorem dX6_begin_2 : decode cX6_begin 2 = .ok (.if_icmp .lt 9, 3) := by decide +kernel
theorem dX6_begin_5 : decode cX6_begin 5 = .ok (.iload_n 1, 1) := by decide +kernel
theorem dX6_begin_6 : decode cX6_begin 6 = .ok (.bipush 8, 2) := by decide +kernel
theorem dX6_begin_8 : decode cX6_begin 8 = .ok (.if_icmp .le 5, 3) := by decide +kernel
theorem dX6_begin_11 : decode cX6_begin 11 = .ok (.iconst 0, 1) := by decide +kernel
theorem dX6_begin_12 : decode cX6_begin 12 = .ok (.ireturn, 1) := by decide +kernel
theorem dX6_begin_13 : decode cX6_begin 13 = .ok (.aload_n 0, 1) := by decide +kernel
theorem dX6_begin_14 : decode cX6_begin 14 = .ok (.iload_n 1, 1) := by decide +kernel
theorem dX6_begin_15 : decode cX6_begin 15 = .ok (.putfield 38, 3) := by decide +kernel
theorem dX6_begin_18 : decode cX6_begin 18 = .ok (.iconst 0, 1) := by decide +kernel
theorem dX6_begin_19 : decode cX6_begin 19 = .ok (.istore_n 2, 1) := by decide +kernel
theorem dX6_begin_20 : decode cX6_begin 20 = .ok (.iload_n 2, 1) := by decide +kernel
theorem dX6_begin_21 : decode cX6_begin 21 = .ok (.bipush 8, 2) := by decide +kernel
theorem dX6_begin_23 : decode cX6_begin 23 = .ok (.if_icmp .ge 24, 3) := by decide +kernel
theorem dX6_begin_26 : decode cX6_begin 26 = .ok (.aload_n 0, 1) := by decide +kernel
theorem dX6_begin_27 : decode cX6_begin 27 = .ok (.getfield 11, 3) := by decide +kernel
theorem dX6_begin_30 : decode cX6_begin 30 = .ok (.iload_n 2, 1) := by decide +kernel
theorem dX6_begin_31 : decode cX6_begin 31 = .ok (.aaload, 1) := by decide +kernel
theorem dX6_begin_32 : decode cX6_begin 32 = .ok (.astore_n 3, 1) := by decide +kernel
theorem dX6_begin_33 : decode cX6_begin 33 = .ok (.aload_n 3, 1) := by decide +kernel
theorem dX6_begin_34 : decode cX6_begin 34 = .ok (.ifnull 7, 3) := by decide +kernel
theorem dX6_begin_37 : decode cX6_begin 37 = .ok (.aload_n 3, 1) := by decide +kernel
theorem dX6_begin_38 : decode cX6_begin 38 = .ok (.invokevirtual 43, 3) := by decide +kernel
theorem dX6_begin_41 : decode cX6_begin 41 = .ok (.iinc 2 1, 3) := by decide +kernel
theorem dX6_begin_44 : decode cX6_begin 44 = .ok (.goto (-24), 3) := by decide +kernel
theorem dX6_begin_47 : decode cX6_begin 47 = .ok (.aload_n 0, 1) := by decide +kernel
theorem dX6_begin_48 : decode cX6_begin 48 = .ok (.getfield 18, 3) := by decide +kernel
theorem dX6_begin_51 : decode cX6_begin 51 = .ok (.invokevirtual 46, 3) := by decide +kernel
theorem dX6_begin_54 : decode cX6_begin 54 = .ok (.aload_n 0, 1) := by decide +kernel
theorem dX6_begin_55 : decode cX6_begin 55 = .ok (.getfield 22, 3) := by decide +kernel
theorem dX6_begin_58 : decode cX6_begin 58 = .ok (.invokevirtual 46, 3) := by decide +kernel
theorem dX6_begin_61 : decode cX6_begin 61 = .ok (.iconst 0, 1) := by decide +kernel
theorem dX6_begin_62 : decode cX6_begin 62 = .ok (.istore_n 2, 1) := by decide +kernel
theorem dX6_begin_63 : decode cX6_begin 63 = .ok (.iload_n 2, 1) := by decide +kernel
theorem dX6_begin_64 : decode cX6_begin 64 = .ok (.bipush 13, 2) := by decide +kernel
theorem dX6_begin_66 : decode cX6_begin 66 = .ok (.if_icmp .ge 16, 3) := by decide +kernel
theorem dX6_begin_69 : decode cX6_begin 69 = .ok (.aload_n 0, 1) := by decide +kernel
theorem dX6_begin_70 : decode cX6_begin 70 = .ok (.getfield 34, 3) := by decide +kernel
theorem dX6_begin_73 : decode cX6_begin 73 = .ok (.iload_n 2, 1) := by decide +kernel
theorem dX6_begin_74 : decode cX6_begin 74 = .ok (.iconst 0, 1) := by decide +kernel
theorem dX6_begin_75 : decode cX6_begin 75 = .ok (.iastore, 1) := by decide +kernel
theorem dX6_begin_76 : decode cX6_begin 76 = .ok (.iinc 2 1, 3) := by decide +kernel
theorem dX6_begin_79 : decode cX6_begin 79 = .ok (.goto (-16), 3) := by decide +kernel
theorem dX6_begin_82 : decode cX6_begin 82 = .ok (.iconst 1, 1) := by decide +kernel
theorem dX6_begin_83 : decode cX6_begin 83 = .ok (.ireturn, 1) := by decide +kernel
theorem dX6_station_0 : decode cX6_station 0 = .ok (.aload_n 0, 1) := by decide +kernel
theorem dX6_station_1 : decode cX6_station 1 = .ok (.iload_n 1, 1) := by decide +kernel
theorem dX6_station_2 : decode cX6_station 2 = .ok (.invokevirtual 49, 3) := by decide +kernel
theorem dX6_station_5 : decode cX6_station 5 = .ok (.ifnull 25, 3) := by decide +kernel
theorem dX6_station_8 : decode cX6_station 8 = .ok (.iload_n 2, 1) := by decide +kernel
theorem dX6_station_9 : decode cX6_station 9 = .ok (.ifCond .lt 21, 3) := by decide +kernel
theorem dX6_station_12 : decode cX6_station 12 = .ok (.iload_n 2, 1) := by decide +kernel
theorem dX6_station_13 : decode cX6_station 13 = .ok (.ldc 53, 2) := by decide +kernel
theorem dX6_station_15 : decode cX6_station 15 = .ok (.if_icmp .gt 15, 3) := by decide +kernel
theorem dX6_station_18 : decode cX6_station 18 = .ok (.aload_n 0, 1) := by decide +kernel
theorem dX6_station_19 : decode cX6_station 19 = .ok (.getfield 18, 3) := by decide +kernel
theorem dX6_station_22 : decode cX6_station 22 = .ok (.invokevirtual 54, 3) := by decide +kernel
theorem dX6_station_25 : decode cX6_station 25 = .ok (.bipush 32, 2) := by decide +kernel
theorem dX6_station_27 : decode cX6_station 27 = .ok (.if_icmp .lt 5, 3) := by decide +kernel
theorem dX6_station_30 : decode cX6_station 30 = .ok (.iconst (-1), 1) := by decide +kernel
theorem dX6_station_31 : decode cX6_station 31 = .ok (.ireturn, 1) := by decide +kernel
theorem dX6_station_32 : decode cX6_station 32 = .ok (.aload_n 0, 1) := by decide +kernel
theorem dX6_station_33 : decode cX6_station 33 = .ok (.getfield 18, 3) := by decide +kernel
theorem dX6_station_36 : decode cX6_station 36 = .ok (.new 58, 3) := by decide +kernel
theorem dX6_station_39 : decode cX6_station 39 = .ok (.dup, 1) := by decide +kernel
theorem dX6_station_40 : decode cX6_station 40 = .ok (.iload_n 1, 1) := by decide +kernel
theorem dX6_station_41 : decode cX6_station 41 = .ok (.iload_n 2, 1) := by decide +kernel
theorem dX6_station_42 : decode cX6_station 42 = .ok (.iload_n 3, 1) := by decide +kernel
theorem dX6_station_43 : decode cX6_station 43 = .ok (.invokespecial 60, 3) := by decide +kernel
theorem dX6_station_46 : decode cX6_station 46 = .ok (.invokevirtual 63, 3) := by decide +kernel
theorem dX6_station_49 : decode cX6_station 49 = .ok (.pop, 1) := by decide +kernel
theorem dX6_station_50 : decode cX6_station 50 = .ok (.aload_n 0, 1) := by decide +kernel
theorem dX6_station_51 : decode cX6_station 51 = .ok (.getfield 18, 3) := by decide +kernel
theorem dX6_station_54 : decode cX6_station 54 = .ok (.invokevirtual 54, 3) := by decide +kernel
theorem dX6_station_57 : decode cX6_station 57 = .ok (.iconst 1, 1) := by decide +kernel
theorem dX6_station_58 : decode cX6_station 58 = .ok (.isub, 1) := by decide +kernel
theorem dX6_station_59 : decode cX6_station 59 = .ok (.ireturn, 1) := by decide +kernel
theorem dX6_move_0 : decode cX6_move 0 = .ok (.aload_n 0, 1) := by decide +kernel
theorem dX6_move_1 : decode cX6_move 1 = .ok (.iload_n 1, 1) := by decide +kernel
theorem dX6_move_2 : decode cX6_move 2 = .ok (.invokevirtual 67, 3) := by decide +kernel
theorem dX6_move_5 : decode cX6_move 5 = .ok (.astore_n 3, 1) := by decide +kernel
theorem dX6_move_6 : decode cX6_move 6 = .ok (.aload_n 3, 1) := by decide +kernel
theorem dX6_move_7 : decode cX6_move 7 = .ok (.ifnull 11, 3) := by decide +kernel
theorem dX6_move_10 : decode cX6_move 10 = .ok (.aload_n 0, 1) := by decide +kernel
theorem dX6_move_11 : decode cX6_move 11 = .ok (.iload_n 2, 1) := by decide +kernel
theorem dX6_move_12 : decode cX6_move 12 = .ok (.invokevirtual 49, 3) := by decide +kernel
theorem dX6_move_15 : decode cX6_move 15 = .ok (.ifnonnull 5, 3) := by decide +kernel
theorem dX6_move_18 : decode cX6_move 18 = .ok (.iconst 0, 1) := by decide +kernel
theorem dX6_move_19 : decode cX6_move 19 = .ok (.ireturn, 1) := by decide +kernel
theorem dX6_move_20 : decode cX6_move 20 = .ok (.aload_n 3, 1) := by decide +kernel
theorem dX6_move_21 : decode cX6_move 21 = .ok (.iload_n 2, 1) := by decide +kernel
theorem dX6_move_22 : decode cX6_move 22 = .ok (.putfield 71, 3) := by decide +kernel
theorem dX6_move_25 : decode cX6_move 25 = .ok (.iconst 1, 1) := by decide +kernel
theorem dX6_move_26 : decode cX6_move 26 = .ok (.ireturn, 1) := by decide +kernel
theorem dX6_way_0 : decode cX6_way 0 = .ok (.aload_n 0, 1) := by decide +kernel
theorem dX6_way_1 : decode cX6_way 1 = .ok (.iload_n 1, 1) := by decide +kernel
theorem dX6_way_2 : decode cX6_way 2 = .ok (.invokevirtual 49, 3) := by decide +kernel
theorem dX6_way_5 : decode cX6_way 5 = .ok (.astore 4, 2) := by decide +kernel
theorem dX6_way_7 : decode cX6_way 7 = .ok (.aload 4, 2) := by decide +kernel
theorem dX6_way_9 : decode cX6_way 9 = .ok (.ifnull 16, 3) := by decide +kernel
theorem dX6_way_12 : decode cX6_way 12 = .ok (.aload_n 0, 1) := by decide +kernel
theorem dX6_way_13 : decode cX6_way 13 = .ok (.iload_n 2, 1) := by decide +kernel
theorem dX6_way_14 : decode cX6_way 14 = .ok (.invokevirtual 49, 3) := by decide +kernel
theorem dX6_way_17 : decode cX6_way 17 = .ok (.ifnull 8, 3) := by decide +kernel
theorem dX6_way_20 : decode cX6_way 20 = .ok (.iload_n 1, 1) := by decide +kernel
theorem dX6_way_21 : decode cX6_way 21 = .ok (.iload_n 2, 1) := by decide +kernel
theorem dX6_way_22 : decode cX6_way 22 = .ok (.if_icmp .ne 5, 3) := by decide +kernel
theorem dX6_way_25 : decode cX6_way 25 = .ok (.iconst 0, 1) := by decide +kernel
theorem dX6_way_26 : decode cX6_way 26 = .ok (.ireturn, 1) := by decide +kernel
theorem dX6_way_27 : decode cX6_way 27 = .ok (.iload_n 3, 1) := by decide +kernel
theorem dX6_way_28 : decode cX6_way 28 = .ok (.ifCond .lt 8, 3) := by decide +kernel
theorem dX6_way_31 : decode cX6_way 31 = .ok (.iload_n 3, 1) := by decide +kernel
theorem dX6_way_32 : decode cX6_way 32 = .ok (.iconst 2, 1) := by decide +kernel
theorem dX6_way_33 : decode cX6_way 33 = .ok (.if_icmp .le 5, 3) := by decide +kernel
theorem dX6_way_36 : decode cX6_way 36 = .ok (.iconst 0, 1) := by decide +kernel
theorem dX6_way_37 : decode cX6_way 37 = .ok (.ireturn, 1) := by decide +kernel
theorem dX6_way_38 : decode cX6_way 38 = .ok (.aload 4, 2) := by decide +kernel
theorem dX6_way_40 : decode cX6_way 40 = .ok (.iload_n 2, 1) := by decide +kernel
theorem dX6_way_41 : decode cX6_way 41 = .ok (.iload_n 3, 1) := by decide +kernel
theorem dX6_way_42 : decode cX6_way 42 = .ok (.invokevirtual 76, 3) := by decide +kernel
theorem dX6_way_45 : decode cX6_way 45 = .ok (.iconst 1, 1) := by decide +kernel
theorem dX6_way_46 : decode cX6_way 46 = .ok (.ireturn, 1) := by decide +kernel
theorem dX6_feed_0 : decode cX6_feed 0 = .ok (.iload_n 1, 1) := by decide +kernel
theorem dX6_feed_1 : decode cX6_feed 1 = .ok (.ifCond .lt 22, 3) := by decide +kernel
theorem dX6_feed_4 : decode cX6_feed 4 = .ok (.iload_n 1, 1) := by decide +kernel
theorem dX6_feed_5 : decode cX6_feed 5 = .ok (.sipush 255, 3) := by decide +kernel
theorem dX6_feed_8 : decode cX6_feed 8 = .ok (.if_icmp .gt 15, 3) := by decide +kernel
theorem dX6_feed_11 : decode cX6_feed 11 = .ok (.aload_n 0, 1) := by decide +kernel
theorem dX6_feed_12 : decode cX6_feed 12 = .ok (.getfield 30, 3) := by decide +kernel
theorem dX6_feed_15 : decode cX6_feed 15 = .ok (.getfield 80, 3) := by decide +kernel
theorem dX6_feed_18 : decode cX6_feed 18 = .ok (.bipush 120, 2) := by decide +kernel
theorem dX6_feed_20 : decode cX6_feed 20 = .ok (.if_icmp .lt 5, 3) := by decide +kernel
theorem dX6_feed_23 : decode cX6_feed 23 = .ok (.iconst 0, 1) := by decide +kernel
theorem dX6_feed_24 : decode cX6_feed 24 = .ok (.ireturn, 1) := by decide +kernel
theorem dX6_feed_25 : decode cX6_feed 25 = .ok (.aload_n 0, 1) := by decide +kernel
theorem dX6_feed_26 : decode cX6_feed 26 = .ok (.getfield 30, 3) := by decide +kernel
theorem dX6_feed_29 : decode cX6_feed 29 = .ok (.iload_n 1, 1) := by decide +kernel
theorem dX6_feed_30 : decode cX6_feed 30 = .ok (.invokevirtual 83, 3) := by decide +kernel
theorem dX6_feed_33 : decode cX6_feed 33 = .ok (.iconst 1, 1) := by decide +kernel
theorem dX6_feed_34 : decode cX6_feed 34 = .ok (.ireturn, 1) := by decide +kernel
theorem dX6_send_0 : decode cX6_send 0 = .ok (.aload_n 0, 1) := by decide +kernel
theorem dX6_send_1 : decode cX6_send 1 = .ok (.iload_n 1, 1) := by decide +kernel
theorem dX6_send_2 : decode cX6_send 2 = .ok (.invokevirtual 67, 3) := by decide +kernel
theorem dX6_send_5 : decode cX6_send 5 = .ok (.astore 5, 2) := by decide +kernel
theorem dX6_send_7 : decode cX6_send 7 = .ok (.aload 5, 2) := by decide +kernel
theorem dX6_send_9 : decode cX6_send 9 = .ok (.ifnull 29, 3) := by decide +kernel
theorem dX6_send_12 : decode cX6_send 12 = .ok (.lload_n 2, 1) := by decide +kernel
theorem dX6_send_13 : decode cX6_send 13 = .ok (.lconst 0, 1) := by decide +kernel
theorem dX6_send_14 : decode cX6_send 14 = .ok (.lcmp, 1) := by decide +kernel
theorem dX6_send_15 : decode cX6_send 15 = .ok (.ifCond .lt 23, 3) := by decide +kernel
theorem dX6_send_18 : decode cX6_send 18 = .ok (.lload_n 2, 1) := by decide +kernel
theorem dX6_send_19 : decode cX6_send 19 = .ok (.ldc2_w 86, 3) := by decide +kernel
theorem dX6_send_22 : decode cX6_send 22 = .ok (.lcmp, 1) := by decide +kernel
theorem dX6_send_23 : decode cX6_send 23 = .ok (.ifCond .gt 15, 3) := by decide +kernel
theorem dX6_send_26 : decode cX6_send 26 = .ok (.iload 4, 2) := by decide +kernel
theorem dX6_send_28 : decode cX6_send 28 = .ok (.ifCond .lt 10, 3) := by decide +kernel
theorem dX6_send_31 : decode cX6_send 31 = .ok (.iload 4, 2) := by decide +kernel
theorem dX6_send_33 : decode cX6_send 33 = .ok (.ldc 88, 2) := by decide +kernel
theorem dX6_send_35 : decode cX6_send 35 = .ok (.if_icmp .le 5, 3) := by decide +kernel
theorem dX6_send_38 : decode cX6_send 38 = .ok (.iconst (-1), 1) := by decide +kernel
theorem dX6_send_39 : decode cX6_send 39 = .ok (.ireturn, 1) := by decide +kernel
theorem dX6_send_40 : decode cX6_send 40 = .ok (.aload_n 0, 1) := by decide +kernel
theorem dX6_send_41 : decode cX6_send 41 = .ok (.aload 5, 2) := by decide +kernel
theorem dX6_send_43 : decode cX6_send 43 = .ok (.getfield 71, 3) := by decide +kernel
theorem dX6_send_46 : decode cX6_send 46 = .ok (.invokevirtual 49, 3) := by decide +kernel
theorem dX6_send_49 : decode cX6_send 49 = .ok (.astore 6, 2) := by decide +kernel
theorem dX6_send_51 : decode cX6_send 51 = .ok (.aload 6, 2) := by decide +kernel
theorem dX6_send_53 : decode cX6_send 53 = .ok (.ifnull 15, 3) := by decide +kernel
theorem dX6_send_56 : decode cX6_send 56 = .ok (.aload_n 0, 1) := by decide +kernel
theorem dX6_send_57 : decode cX6_send 57 = .ok (.getfield 30, 3) := by decide +kernel
theorem dX6_send_60 : decode cX6_send 60 = .ok (.getfield 80, 3) := by decide +kernel
theorem dX6_send_63 : decode cX6_send 63 = .ok (.bipush 40, 2) := by decide +kernel
theorem dX6_send_65 : decode cX6_send 65 = .ok (.if_icmp .le 5, 3) := by decide +kernel
theorem dX6_send_68 : decode cX6_send 68 = .ok (.iconst (-1), 1) := by decide +kernel
theorem dX6_send_69 : decode cX6_send 69 = .ok (.ireturn, 1) := by decide +kernel
theorem dX6_send_70 : decode cX6_send 70 = .ok (.lload_n 2, 1) := by decide +kernel
theorem dX6_send_71 : decode cX6_send 71 = .ok (.aload 5, 2) := by decide +kernel
theorem dX6_send_73 : decode cX6_send 73 = .ok (.getfield 89, 3) := by decide +kernel
theorem dX6_send_76 : decode cX6_send 76 = .ok (.iload 4, 2) := by decide +kernel
theorem dX6_send_78 : decode cX6_send 78 = .ok (.aload_n 0, 1) := by decide +kernel
theorem dX6_send_79 : decode cX6_send 79 = .ok (.getfield 30, 3) := by decide +kernel
theorem dX6_send_82 : decode cX6_send 82 = .ok (.invokestatic 93, 3) := by decide +kernel
theorem dX6_send_85 : decode cX6_send 85 = .ok (.astore 7, 2) := by decide +kernel
theorem dX6_send_87 : decode cX6_send 87 = .ok (.aload_n 0, 1) := by decide +kernel
theorem dX6_send_88 : decode cX6_send 88 = .ok (.getfield 30, 3) := by decide +kernel
theorem dX6_send_91 : decode cX6_send 91 = .ok (.invokevirtual 97, 3) := by decide +kernel
theorem dX6_send_94 : decode cX6_send 94 = .ok (.aload_n 0, 1) := by decide +kernel
theorem dX6_send_95 : decode cX6_send 95 = .ok (.aload 6, 2) := by decide +kernel
theorem dX6_send_97 : decode cX6_send 97 = .ok (.new 98, 3) := by decide +kernel
theorem dX6_send_100 : decode cX6_send 100 = .ok (.dup, 1) := by decide +kernel
theorem dX6_send_101 : decode cX6_send 101 = .ok (.aload 5, 2) := by decide +kernel
theorem dX6_send_103 : decode cX6_send 103 = .ok (.getfield 100, 3) := by decide +kernel
theorem dX6_send_106 : decode cX6_send 106 = .ok (.aload 5, 2) := by decide +kernel
theorem dX6_send_108 : decode cX6_send 108 = .ok (.getfield 89, 3) := by decide +kernel
theorem dX6_send_111 : decode cX6_send 111 = .ok (.iconst (-1), 1) := by decide +kernel
theorem dX6_send_112 : decode cX6_send 112 = .ok (.iload_n 1, 1) := by decide +kernel
theorem dX6_send_113 : decode cX6_send 113 = .ok (.invokespecial 103, 3) := by decide +kernel
theorem dX6_send_116 : decode cX6_send 116 = .ok (.invokevirtual 106, 3) := by decide +kernel
theorem dX6_send_119 : decode cX6_send 119 = .ok (.aload 6, 2) := by decide +kernel
theorem dX6_send_121 : decode cX6_send 121 = .ok (.aload 5, 2) := by decide +kernel
theorem dX6_send_123 : decode cX6_send 123 = .ok (.getfield 100, 3) := by decide +kernel
theorem dX6_send_126 : decode cX6_send 126 = .ok (.lload_n 2, 1) := by decide +kernel
theorem dX6_send_127 : decode cX6_send 127 = .ok (.invokevirtual 110, 3) := by decide +kernel
theorem dX6_send_130 : decode cX6_send 130 = .ok (.astore 8, 2) := by decide +kernel
theorem dX6_send_132 : decode cX6_send 132 = .ok (.aload 8, 2) := by decide +kernel
theorem dX6_send_134 : decode cX6_send 134 = .ok (.ifnonnull 34, 3) := by decide +kernel
theorem dX6_send_137 : decode cX6_send 137 = .ok (.aload_n 0, 1) := by decide +kernel
theorem dX6_send_138 : decode cX6_send 138 = .ok (.aload 7, 2) := by decide +kernel
theorem dX6_send_140 : decode cX6_send 140 = .ok (.aload 6, 2) := by decide +kernel
theorem dX6_send_142 : decode cX6_send 142 = .ok (.getfield 114, 3) := by decide +kernel
theorem dX6_send_145 : decode cX6_send 145 = .ok (.aload 5, 2) := by decide +kernel
theorem dX6_send_147 : decode cX6_send 147 = .ok (.getfield 100, 3) := by decide +kernel
theorem dX6_send_150 : decode cX6_send 150 = .ok (.iload_n 1, 1) := by decide +kernel
theorem dX6_send_151 : decode cX6_send 151 = .ok (.invokevirtual 117, 3) := by decide +kernel
theorem dX6_send_154 : decode cX6_send 154 = .ok (.aload_n 0, 1) := by decide +kernel
theorem dX6_send_155 : decode cX6_send 155 = .ok (.aload 7, 2) := by decide +kernel
theorem dX6_send_157 : decode cX6_send 157 = .ok (.aload 6, 2) := by decide +kernel
theorem dX6_send_159 : decode cX6_send 159 = .ok (.aload 5, 2) := by decide +kernel
theorem dX6_send_161 : decode cX6_send 161 = .ok (.getfield 100, 3) := by decide +kernel
theorem dX6_send_164 : decode cX6_send 164 = .ok (.invokevirtual 121, 3) := by decide +kernel
theorem dX6_send_167 : decode cX6_send 167 = .ok (.ireturn, 1) := by decide +kernel
theorem dX6_send_168 : decode cX6_send 168 = .ok (.aload 8, 2) := by decide +kernel
theorem dX6_send_170 : decode cX6_send 170 = .ok (.getfield 125, 3) := by decide +kernel
theorem dX6_send_173 : decode cX6_send 173 = .ok (.iconst (-1), 1) := by decide +kernel
theorem dX6_send_174 : decode cX6_send 174 = .ok (.if_icmp .ne 23, 3) := by decide +kernel
theorem dX6_send_177 : decode cX6_send 177 = .ok (.aload_n 0, 1) := by decide +kernel
theorem dX6_send_178 : decode cX6_send 178 = .ok (.aload 7, 2) := by decide +kernel
theorem dX6_send_180 : decode cX6_send 180 = .ok (.aload 5, 2) := by decide +kernel
theorem dX6_send_182 : decode cX6_send 182 = .ok (.getfield 100, 3) := by decide +kernel
theorem dX6_send_185 : decode cX6_send 185 = .ok (.aload 6, 2) := by decide +kernel
theorem dX6_send_187 : decode cX6_send 187 = .ok (.aload 8, 2) := by decide +kernel
theorem dX6_send_189 : decode cX6_send 189 = .ok (.getfield 128, 3) := by decide +kernel
theorem dX6_send_192 : decode cX6_send 192 = .ok (.invokevirtual 129, 3) := by decide +kernel
theorem dX6_send_195 : decode cX6_send 195 = .ok (.iconst 1, 1) := by decide +kernel
theorem dX6_send_196 : decode cX6_send 196 = .ok (.ireturn, 1) := by decide +kernel
theorem dX6_send_197 : decode cX6_send 197 = .ok (.aload 8, 2) := by decide +kernel
theorem dX6_send_199 : decode cX6_send 199 = .ok (.getfield 125, 3) := by decide +kernel
theorem dX6_send_202 : decode cX6_send 202 = .ok (.iload_n 1, 1) := by decide +kernel
theorem dX6_send_203 : decode cX6_send 203 = .ok (.if_icmp .eq 19, 3) := by decide +kernel
theorem dX6_send_206 : decode cX6_send 206 = .ok (.aload_n 0, 1) := by decide +kernel
theorem dX6_send_207 : decode cX6_send 207 = .ok (.aload 7, 2) := by decide +kernel
theorem dX6_send_209 : decode cX6_send 209 = .ok (.aload 6, 2) := by decide +kernel
theorem dX6_send_211 : decode cX6_send 211 = .ok (.getfield 114, 3) := by decide +kernel
theorem dX6_send_214 : decode cX6_send 214 = .ok (.aload 8, 2) := by decide +kernel
theorem dX6_send_216 : decode cX6_send 216 = .ok (.getfield 125, 3) := by decide +kernel
theorem dX6_send_219 : decode cX6_send 219 = .ok (.invokevirtual 133, 3) := by decide +kernel
theorem dX6_send_222 : decode cX6_send 222 = .ok (.iconst 0, 1) := by decide +kernel
theorem dX6_send_223 : decode cX6_send 223 = .ok (.ireturn, 1) := by decide +kernel
theorem dX6_deliver_0 : decode cX6_deliver 0 = .ok (.aload_n 0, 1) := by decide +kernel
theorem dX6_deliver_1 : decode cX6_deliver 1 = .ok (.iload_n 1, 1) := by decide +kernel
theorem dX6_deliver_2 : decode cX6_deliver 2 = .ok (.invokevirtual 137, 3) := by decide +kernel
theorem dX6_deliver_5 : decode cX6_deliver 5 = .ok (.astore_n 2, 1) := by decide +kernel
theorem dX6_deliver_6 : decode cX6_deliver 6 = .ok (.aload_n 2, 1) := by decide +kernel
theorem dX6_deliver_7 : decode cX6_deliver 7 = .ok (.ifnonnull 5, 3) := by decide +kernel
theorem dX6_deliver_10 : decode cX6_deliver 10 = .ok (.iconst (-1), 1) := by decide +kernel
theorem dX6_deliver_11 : decode cX6_deliver 11 = .ok (.ireturn, 1) := by decide +kernel
theorem dX6_deliver_12 : decode cX6_deliver 12 = .ok (.aload_n 0, 1) := by decide +kernel
theorem dX6_deliver_13 : decode cX6_deliver 13 = .ok (.getfield 22, 3) := by decide +kernel
theorem dX6_deliver_16 : decode cX6_deliver 16 = .ok (.iload_n 1, 1) := by decide +kernel
theorem dX6_deliver_17 : decode cX6_deliver 17 = .ok (.invokevirtual 141, 3) := by decide +kernel
theorem dX6_deliver_20 : decode cX6_deliver 20 = .ok (.pop, 1) := by decide +kernel
theorem dX6_deliver_21 : decode cX6_deliver 21 = .ok (.aload_n 0, 1) := by decide +kernel
theorem dX6_deliver_22 : decode cX6_deliver 22 = .ok (.aload_n 2, 1) := by decide +kernel
theorem dX6_deliver_23 : decode cX6_deliver 23 = .ok (.getfield 145, 3) := by decide +kernel
theorem dX6_deliver_26 : decode cX6_deliver 26 = .ok (.aload_n 0, 1) := by decide +kernel
theorem dX6_deliver_27 : decode cX6_deliver 27 = .ok (.aload_n 2, 1) := by decide +kernel
theorem dX6_deliver_28 : decode cX6_deliver 28 = .ok (.getfield 150, 3) := by decide +kernel
theorem dX6_deliver_31 : decode cX6_deliver 31 = .ok (.invokevirtual 49, 3) := by decide +kernel
theorem dX6_deliver_34 : decode cX6_deliver 34 = .ok (.invokevirtual 153, 3) := by decide +kernel
theorem dX6_deliver_37 : decode cX6_deliver 37 = .ok (.ireturn, 1) := by decide +kernel
theorem dX6_twice_0 : decode cX6_twice 0 = .ok (.aload_n 0, 1) := by decide +kernel
theorem dX6_twice_1 : decode cX6_twice 1 = .ok (.iload_n 1, 1) := by decide +kernel
theorem dX6_twice_2 : decode cX6_twice 2 = .ok (.invokevirtual 137, 3) := by decide +kernel
theorem dX6_twice_5 : decode cX6_twice 5 = .ok (.astore_n 2, 1) := by decide +kernel
theorem dX6_twice_6 : decode cX6_twice 6 = .ok (.aload_n 2, 1) := by decide +kernel
theorem dX6_twice_7 : decode cX6_twice 7 = .ok (.ifnonnull 5, 3) := by decide +kernel
theorem dX6_twice_10 : decode cX6_twice 10 = .ok (.iconst (-1), 1) := by decide +kernel
theorem dX6_twice_11 : decode cX6_twice 11 = .ok (.ireturn, 1) := by decide +kernel
theorem dX6_twice_12 : decode cX6_twice 12 = .ok (.aload_n 0, 1) := by decide +kernel
theorem dX6_twice_13 : decode cX6_twice 13 = .ok (.aload_n 2, 1) := by decide +kernel
theorem dX6_twice_14 : decode cX6_twice 14 = .ok (.getfield 145, 3) := by decide +kernel
theorem dX6_twice_17 : decode cX6_twice 17 = .ok (.aload_n 0, 1) := by decide +kernel
theorem dX6_twice_18 : decode cX6_twice 18 = .ok (.aload_n 2, 1) := by decide +kernel
theorem dX6_twice_19 : decode cX6_twice 19 = .ok (.getfield 150, 3) := by decide +kernel
theorem dX6_twice_22 : decode cX6_twice 22 = .ok (.invokevirtual 49, 3) := by decide +kernel
theorem dX6_twice_25 : decode cX6_twice 25 = .ok (.invokevirtual 153, 3) := by decide +kernel
theorem dX6_twice_28 : decode cX6_twice 28 = .ok (.ireturn, 1) := by decide +kernel
theorem dX6_lose_0 : decode cX6_lose 0 = .ok (.aload_n 0, 1) := by decide +kernel
theorem dX6_lose_1 : decode cX6_lose 1 = .ok (.iload_n 1, 1) := by decide +kernel
theorem dX6_lose_2 : decode cX6_lose 2 = .ok (.invokevirtual 137, 3) := by decide +kernel
theorem dX6_lose_5 : decode cX6_lose 5 = .ok (.ifnonnull 5, 3) := by decide +kernel
theorem dX6_lose_8 : decode cX6_lose 8 = .ok (.iconst 0, 1) := by decide +kernel
theorem dX6_lose_9 : decode cX6_lose 9 = .ok (.ireturn, 1) := by decide +kernel
theorem dX6_lose_10 : decode cX6_lose 10 = .ok (.aload_n 0, 1) := by decide +kernel
theorem dX6_lose_11 : decode cX6_lose 11 = .ok (.getfield 22, 3) := by decide +kernel
theorem dX6_lose_14 : decode cX6_lose 14 = .ok (.iload_n 1, 1) := by decide +kernel
theorem dX6_lose_15 : decode cX6_lose 15 = .ok (.invokevirtual 141, 3) := by decide +kernel
theorem dX6_lose_18 : decode cX6_lose 18 = .ok (.pop, 1) := by decide +kernel
theorem dX6_lose_19 : decode cX6_lose 19 = .ok (.iconst 1, 1) := by decide +kernel
theorem dX6_lose_20 : decode cX6_lose 20 = .ok (.ireturn, 1) := by decide +kernel
theorem dX6_inject_0 : decode cX6_inject 0 = .ok (.aload_n 0, 1) := by decide +kernel
theorem dX6_inject_1 : decode cX6_inject 1 = .ok (.iload_n 1, 1) := by decide +kernel
theorem dX6_inject_2 : decode cX6_inject 2 = .ok (.invokevirtual 49, 3) := by decide +kernel
theorem dX6_inject_5 : decode cX6_inject 5 = .ok (.astore_n 2, 1) := by decide +kernel
theorem dX6_inject_6 : decode cX6_inject 6 = .ok (.aload_n 2, 1) := by decide +kernel
theorem dX6_inject_7 : decode cX6_inject 7 = .ok (.ifnonnull 5, 3) := by decide +kernel
theorem dX6_inject_10 : decode cX6_inject 10 = .ok (.iconst (-1), 1) := by decide +kernel
theorem dX6_inject_11 : decode cX6_inject 11 = .ok (.ireturn, 1) := by decide +kernel
theorem dX6_inject_12 : decode cX6_inject 12 = .ok (.aload_n 0, 1) := by decide +kernel
theorem dX6_inject_13 : decode cX6_inject 13 = .ok (.aload_n 0, 1) := by decide +kernel
theorem dX6_inject_14 : decode cX6_inject 14 = .ok (.getfield 30, 3) := by decide +kernel
theorem dX6_inject_17 : decode cX6_inject 17 = .ok (.aload_n 2, 1) := by decide +kernel
theorem dX6_inject_18 : decode cX6_inject 18 = .ok (.invokevirtual 153, 3) := by decide +kernel
theorem dX6_inject_21 : decode cX6_inject 21 = .ok (.istore_n 3, 1) := by decide +kernel
theorem dX6_inject_22 : decode cX6_inject 22 = .ok (.aload_n 0, 1) := by decide +kernel
theorem dX6_inject_23 : decode cX6_inject 23 = .ok (.getfield 30, 3) := by decide +kernel
theorem dX6_inject_26 : decode cX6_inject 26 = .ok (.invokevirtual 97, 3) := by decide +kernel
theorem dX6_inject_29 : decode cX6_inject 29 = .ok (.iload_n 3, 1) := by decide +kernel
theorem dX6_inject_30 : decode cX6_inject 30 = .ok (.ireturn, 1) := by decide +kernel
theorem dX6_poke_0 : decode cX6_poke 0 = .ok (.aload_n 0, 1) := by decide +kernel
theorem dX6_poke_1 : decode cX6_poke 1 = .ok (.iload_n 1, 1) := by decide +kernel
theorem dX6_poke_2 : decode cX6_poke 2 = .ok (.invokevirtual 137, 3) := by decide +kernel
theorem dX6_poke_5 : decode cX6_poke 5 = .ok (.astore 4, 2) := by decide +kernel
theorem dX6_poke_7 : decode cX6_poke 7 = .ok (.aload 4, 2) := by decide +kernel
theorem dX6_poke_9 : decode cX6_poke 9 = .ok (.ifnull 27, 3) := by decide +kernel
theorem dX6_poke_12 : decode cX6_poke 12 = .ok (.aload 4, 2) := by decide +kernel
theorem dX6_poke_14 : decode cX6_poke 14 = .ok (.getfield 145, 3) := by decide +kernel
theorem dX6_poke_17 : decode cX6_poke 17 = .ok (.iload_n 2, 1) := by decide +kernel
theorem dX6_poke_18 : decode cX6_poke 18 = .ok (.invokevirtual 157, 3) := by decide +kernel
theorem dX6_poke_21 : decode cX6_poke 21 = .ok (.ifCond .eq 15, 3) := by decide +kernel
theorem dX6_poke_24 : decode cX6_poke 24 = .ok (.iload_n 3, 1) := by decide +kernel
theorem dX6_poke_25 : decode cX6_poke 25 = .ok (.iconst 1, 1) := by decide +kernel
theorem dX6_poke_26 : decode cX6_poke 26 = .ok (.if_icmp .lt 10, 3) := by decide +kernel
theorem dX6_poke_29 : decode cX6_poke 29 = .ok (.iload_n 3, 1) := by decide +kernel
theorem dX6_poke_30 : decode cX6_poke 30 = .ok (.sipush 255, 3) := by decide +kernel
theorem dX6_poke_33 : decode cX6_poke 33 = .ok (.if_icmp .le 5, 3) := by decide +kernel
theorem dX6_poke_36 : decode cX6_poke 36 = .ok (.iconst 0, 1) := by decide +kernel
theorem dX6_poke_37 : decode cX6_poke 37 = .ok (.ireturn, 1) := by decide +kernel
theorem dX6_poke_38 : decode cX6_poke 38 = .ok (.aload 4, 2) := by decide +kernel
theorem dX6_poke_40 : decode cX6_poke 40 = .ok (.getfield 145, 3) := by decide +kernel
theorem dX6_poke_43 : decode cX6_poke 43 = .ok (.iload_n 2, 1) := by decide +kernel
theorem dX6_poke_44 : decode cX6_poke 44 = .ok (.iload_n 3, 1) := by decide +kernel
theorem dX6_poke_45 : decode cX6_poke 45 = .ok (.invokevirtual 161, 3) := by decide +kernel
theorem dX6_poke_48 : decode cX6_poke 48 = .ok (.iconst 1, 1) := by decide +kernel
theorem dX6_poke_49 : decode cX6_poke 49 = .ok (.ireturn, 1) := by decide +kernel
theorem dX6_flying_0 : decode cX6_flying 0 = .ok (.aload_n 0, 1) := by decide +kernel
theorem dX6_flying_1 : decode cX6_flying 1 = .ok (.getfield 22, 3) := by decide +kernel
theorem dX6_flying_4 : decode cX6_flying 4 = .ok (.invokevirtual 54, 3) := by decide +kernel
theorem dX6_flying_7 : decode cX6_flying 7 = .ok (.ireturn, 1) := by decide +kernel
theorem dX6_packet_0 : decode cX6_packet 0 = .ok (.aload_n 0, 1) := by decide +kernel
theorem dX6_packet_1 : decode cX6_packet 1 = .ok (.iload_n 1, 1) := by decide +kernel
theorem dX6_packet_2 : decode cX6_packet 2 = .ok (.invokevirtual 137, 3) := by decide +kernel
theorem dX6_packet_5 : decode cX6_packet 5 = .ok (.astore_n 3, 1) := by decide +kernel
theorem dX6_packet_6 : decode cX6_packet 6 = .ok (.aload_n 3, 1) := by decide +kernel
theorem dX6_packet_7 : decode cX6_packet 7 = .ok (.ifnonnull 7, 3) := by decide +kernel
theorem dX6_packet_10 : decode cX6_packet 10 = .ok (.iconst (-1), 1) := by decide +kernel
theorem dX6_packet_11 : decode cX6_packet 11 = .ok (.goto 11, 3) := by decide +kernel
theorem dX6_packet_14 : decode cX6_packet 14 = .ok (.aload_n 3, 1) := by decide +kernel
theorem dX6_packet_15 : decode cX6_packet 15 = .ok (.getfield 145, 3) := by decide +kernel
theorem dX6_packet_18 : decode cX6_packet 18 = .ok (.iload_n 2, 1) := by decide +kernel
theorem dX6_packet_19 : decode cX6_packet 19 = .ok (.invokevirtual 164, 3) := by decide +kernel
theorem dX6_packet_22 : decode cX6_packet 22 = .ok (.ireturn, 1) := by decide +kernel
theorem dX6_size_0 : decode cX6_size 0 = .ok (.aload_n 0, 1) := by decide +kernel
theorem dX6_size_1 : decode cX6_size 1 = .ok (.iload_n 1, 1) := by decide +kernel
theorem dX6_size_2 : decode cX6_size 2 = .ok (.invokevirtual 137, 3) := by decide +kernel
theorem dX6_size_5 : decode cX6_size 5 = .ok (.astore_n 2, 1) := by decide +kernel
theorem dX6_size_6 : decode cX6_size 6 = .ok (.aload_n 2, 1) := by decide +kernel
theorem dX6_size_7 : decode cX6_size 7 = .ok (.ifnonnull 7, 3) := by decide +kernel
theorem dX6_size_10 : decode cX6_size 10 = .ok (.iconst (-1), 1) := by decide +kernel
theorem dX6_size_11 : decode cX6_size 11 = .ok (.goto 10, 3) := by decide +kernel
theorem dX6_size_14 : decode cX6_size 14 = .ok (.aload_n 2, 1) := by decide +kernel
theorem dX6_size_15 : decode cX6_size 15 = .ok (.getfield 145, 3) := by decide +kernel
theorem dX6_size_18 : decode cX6_size 18 = .ok (.getfield 80, 3) := by decide +kernel
theorem dX6_size_21 : decode cX6_size 21 = .ok (.ireturn, 1) := by decide +kernel
theorem dX6_tick_0 : decode cX6_tick 0 = .ok (.iload_n 1, 1) := by decide +kernel
theorem dX6_tick_1 : decode cX6_tick 1 = .ok (.iconst 1, 1) := by decide +kernel
theorem dX6_tick_2 : decode cX6_tick 2 = .ok (.if_icmp .lt 10, 3) := by decide +kernel
theorem dX6_tick_5 : decode cX6_tick 5 = .ok (.iload_n 1, 1) := by decide +kernel
theorem dX6_tick_6 : decode cX6_tick 6 = .ok (.sipush 1000, 3) := by decide +kernel
theorem dX6_tick_9 : decode cX6_tick 9 = .ok (.if_icmp .le 5, 3) := by decide +kernel
theorem dX6_tick_12 : decode cX6_tick 12 = .ok (.iconst (-1), 1) := by decide +kernel
theorem dX6_tick_13 : decode cX6_tick 13 = .ok (.ireturn, 1) := by decide +kernel
theorem dX6_tick_14 : decode cX6_tick 14 = .ok (.iconst 0, 1) := by decide +kernel
theorem dX6_tick_15 : decode cX6_tick 15 = .ok (.istore_n 2, 1) := by decide +kernel
theorem dX6_tick_16 : decode cX6_tick 16 = .ok (.iconst 0, 1) := by decide +kernel
theorem dX6_tick_17 : decode cX6_tick 17 = .ok (.istore_n 3, 1) := by decide +kernel
theorem dX6_tick_18 : decode cX6_tick 18 = .ok (.iload_n 3, 1) := by decide +kernel
theorem dX6_tick_19 : decode cX6_tick 19 = .ok (.aload_n 0, 1) := by decide +kernel
theorem dX6_tick_20 : decode cX6_tick 20 = .ok (.getfield 38, 3) := by decide +kernel
theorem dX6_tick_23 : decode cX6_tick 23 = .ok (.if_icmp .ge 34, 3) := by decide +kernel
theorem dX6_tick_26 : decode cX6_tick 26 = .ok (.aload_n 0, 1) := by decide +kernel
theorem dX6_tick_27 : decode cX6_tick 27 = .ok (.iload_n 3, 1) := by decide +kernel
theorem dX6_tick_28 : decode cX6_tick 28 = .ok (.invokevirtual 49, 3) := by decide +kernel
theorem dX6_tick_31 : decode cX6_tick 31 = .ok (.astore 4, 2) := by decide +kernel
theorem dX6_tick_33 : decode cX6_tick 33 = .ok (.iload_n 2, 1) := by decide +kernel
theorem dX6_tick_34 : decode cX6_tick 34 = .ok (.aload 4, 2) := by decide +kernel
theorem dX6_tick_36 : decode cX6_tick 36 = .ok (.ifnonnull 7, 3) := by decide +kernel
theorem dX6_tick_39 : decode cX6_tick 39 = .ok (.iconst 0, 1) := by decide +kernel
theorem dX6_tick_40 : decode cX6_tick 40 = .ok (.goto 9, 3) := by decide +kernel
theorem dX6_tick_43 : decode cX6_tick 43 = .ok (.aload 4, 2) := by decide +kernel
theorem dX6_tick_45 : decode cX6_tick 45 = .ok (.iload_n 1, 1) := by decide +kernel
theorem dX6_tick_46 : decode cX6_tick 46 = .ok (.invokevirtual 168, 3) := by decide +kernel
theorem dX6_tick_49 : decode cX6_tick 49 = .ok (.iadd, 1) := by decide +kernel
theorem dX6_tick_50 : decode cX6_tick 50 = .ok (.istore_n 2, 1) := by decide +kernel
theorem dX6_tick_51 : decode cX6_tick 51 = .ok (.iinc 3 1, 3) := by decide +kernel
theorem dX6_tick_54 : decode cX6_tick 54 = .ok (.goto (-36), 3) := by decide +kernel
theorem dX6_tick_57 : decode cX6_tick 57 = .ok (.iload_n 2, 1) := by decide +kernel
theorem dX6_tick_58 : decode cX6_tick 58 = .ok (.ireturn, 1) := by decide +kernel
theorem dX6_forget_0 : decode cX6_forget 0 = .ok (.aload_n 0, 1) := by decide +kernel
theorem dX6_forget_1 : decode cX6_forget 1 = .ok (.iload_n 1, 1) := by decide +kernel
theorem dX6_forget_2 : decode cX6_forget 2 = .ok (.invokevirtual 49, 3) := by decide +kernel
theorem dX6_forget_5 : decode cX6_forget 5 = .ok (.astore_n 2, 1) := by decide +kernel
theorem dX6_forget_6 : decode cX6_forget 6 = .ok (.aload_n 2, 1) := by decide +kernel
theorem dX6_forget_7 : decode cX6_forget 7 = .ok (.ifnonnull 7, 3) := by decide +kernel
theorem dX6_forget_10 : decode cX6_forget 10 = .ok (.iconst (-1), 1) := by decide +kernel
theorem dX6_forget_11 : decode cX6_forget 11 = .ok (.goto 7, 3) := by decide +kernel
theorem dX6_forget_14 : decode cX6_forget 14 = .ok (.aload_n 2, 1) := by decide +kernel
theorem dX6_forget_15 : decode cX6_forget 15 = .ok (.invokevirtual 171, 3) := by decide +kernel
theorem dX6_forget_18 : decode cX6_forget 18 = .ok (.ireturn, 1) := by decide +kernel
theorem dX6_known_0 : decode cX6_known 0 = .ok (.aload_n 0, 1) := by decide +kernel
theorem dX6_known_1 : decode cX6_known 1 = .ok (.iload_n 1, 1) := by decide +kernel
theorem dX6_known_2 : decode cX6_known 2 = .ok (.invokevirtual 49, 3) := by decide +kernel
theorem dX6_known_5 : decode cX6_known 5 = .ok (.astore_n 2, 1) := by decide +kernel
theorem dX6_known_6 : decode cX6_known 6 = .ok (.aload_n 2, 1) := by decide +kernel
theorem dX6_known_7 : decode cX6_known 7 = .ok (.ifnonnull 7, 3) := by decide +kernel
theorem dX6_known_10 : decode cX6_known 10 = .ok (.iconst (-1), 1) := by decide +kernel
theorem dX6_known_11 : decode cX6_known 11 = .ok (.goto 10, 3) := by decide +kernel
theorem dX6_known_14 : decode cX6_known 14 = .ok (.aload_n 2, 1) := by decide +kernel
theorem dX6_known_15 : decode cX6_known 15 = .ok (.getfield 174, 3) := by decide +kernel
theorem dX6_known_18 : decode cX6_known 18 = .ok (.invokevirtual 54, 3) := by decide +kernel
theorem dX6_known_21 : decode cX6_known 21 = .ok (.ireturn, 1) := by decide +kernel
theorem dX6_knows_0 : decode cX6_knows 0 = .ok (.aload_n 0, 1) := by decide +kernel
theorem dX6_knows_1 : decode cX6_knows 1 = .ok (.iload_n 1, 1) := by decide +kernel
theorem dX6_knows_2 : decode cX6_knows 2 = .ok (.invokevirtual 49, 3) := by decide +kernel
theorem dX6_knows_5 : decode cX6_knows 5 = .ok (.astore 4, 2) := by decide +kernel
theorem dX6_knows_7 : decode cX6_knows 7 = .ok (.aload 4, 2) := by decide +kernel
theorem dX6_knows_9 : decode cX6_knows 9 = .ok (.ifnonnull 7, 3) := by decide +kernel
theorem dX6_knows_12 : decode cX6_knows 12 = .ok (.aconst_null, 1) := by decide +kernel
theorem dX6_knows_13 : decode cX6_knows 13 = .ok (.goto 9, 3) := by decide +kernel
theorem dX6_knows_16 : decode cX6_knows 16 = .ok (.aload 4, 2) := by decide +kernel
theorem dX6_knows_18 : decode cX6_knows 18 = .ok (.iload_n 2, 1) := by decide +kernel
theorem dX6_knows_19 : decode cX6_knows 19 = .ok (.invokevirtual 177, 3) := by decide +kernel
theorem dX6_knows_22 : decode cX6_knows 22 = .ok (.astore 5, 2) := by decide +kernel
theorem dX6_knows_24 : decode cX6_knows 24 = .ok (.aload 5, 2) := by decide +kernel
theorem dX6_knows_26 : decode cX6_knows 26 = .ok (.ifnonnull 9, 3) := by decide +kernel
theorem dX6_knows_29 : decode cX6_knows 29 = .ok (.ldc2_w 181, 3) := by decide +kernel
theorem dX6_knows_32 : decode cX6_knows 32 = .ok (.goto 9, 3) := by decide +kernel
theorem dX6_knows_35 : decode cX6_knows 35 = .ok (.aload 5, 2) := by decide +kernel
theorem dX6_knows_37 : decode cX6_knows 37 = .ok (.iload_n 3, 1) := by decide +kernel
theorem dX6_knows_38 : decode cX6_knows 38 = .ok (.invokevirtual 183, 3) := by decide +kernel
theorem dX6_knows_41 : decode cX6_knows 41 = .ok (.lreturn, 1) := by decide +kernel
theorem dX6_got_0 : decode cX6_got 0 = .ok (.aload_n 0, 1) := by decide +kernel
theorem dX6_got_1 : decode cX6_got 1 = .ok (.iload_n 1, 1) := by decide +kernel
theorem dX6_got_2 : decode cX6_got 2 = .ok (.invokevirtual 67, 3) := by decide +kernel
theorem dX6_got_5 : decode cX6_got 5 = .ok (.astore_n 2, 1) := by decide +kernel
theorem dX6_got_6 : decode cX6_got 6 = .ok (.aload_n 2, 1) := by decide +kernel
theorem dX6_got_7 : decode cX6_got 7 = .ok (.ifnonnull 7, 3) := by decide +kernel
theorem dX6_got_10 : decode cX6_got 10 = .ok (.iconst (-1), 1) := by decide +kernel
theorem dX6_got_11 : decode cX6_got 11 = .ok (.goto 7, 3) := by decide +kernel
theorem dX6_got_14 : decode cX6_got 14 = .ok (.aload_n 2, 1) := by decide +kernel
theorem dX6_got_15 : decode cX6_got 15 = .ok (.getfield 187, 3) := by decide +kernel
theorem dX6_got_18 : decode cX6_got 18 = .ok (.ireturn, 1) := by decide +kernel
theorem dX6_frame_0 : decode cX6_frame 0 = .ok (.aload_n 0, 1) := by decide +kernel
theorem dX6_frame_1 : decode cX6_frame 1 = .ok (.iload_n 1, 1) := by decide +kernel
theorem dX6_frame_2 : decode cX6_frame 2 = .ok (.iload_n 2, 1) := by decide +kernel
theorem dX6_frame_3 : decode cX6_frame 3 = .ok (.invokevirtual 190, 3) := by decide +kernel
theorem dX6_frame_6 : decode cX6_frame 6 = .ok (.astore 4, 2) := by decide +kernel
theorem dX6_frame_8 : decode cX6_frame 8 = .ok (.aload 4, 2) := by decide +kernel
theorem dX6_frame_10 : decode cX6_frame 10 = .ok (.ifnonnull 7, 3) := by decide +kernel
theorem dX6_frame_13 : decode cX6_frame 13 = .ok (.iconst (-1), 1) := by decide +kernel
theorem dX6_frame_14 : decode cX6_frame 14 = .ok (.goto 9, 3) := by decide +kernel
theorem dX6_frame_17 : decode cX6_frame 17 = .ok (.aload 4, 2) := by decide +kernel
theorem dX6_frame_19 : decode cX6_frame 19 = .ok (.iload_n 3, 1) := by decide +kernel
theorem dX6_frame_20 : decode cX6_frame 20 = .ok (.invokevirtual 164, 3) := by decide +kernel
theorem dX6_frame_23 : decode cX6_frame 23 = .ok (.ireturn, 1) := by decide +kernel
theorem dX6_length_0 : decode cX6_length 0 = .ok (.aload_n 0, 1) := by decide +kernel
theorem dX6_length_1 : decode cX6_length 1 = .ok (.iload_n 1, 1) := by decide +kernel
theorem dX6_length_2 : decode cX6_length 2 = .ok (.iload_n 2, 1) := by decide +kernel
theorem dX6_length_3 : decode cX6_length 3 = .ok (.invokevirtual 190, 3) := by decide +kernel
theorem dX6_length_6 : decode cX6_length 6 = .ok (.astore_n 3, 1) := by decide +kernel
theorem dX6_length_7 : decode cX6_length 7 = .ok (.aload_n 3, 1) := by decide +kernel
theorem dX6_length_8 : decode cX6_length 8 = .ok (.ifnonnull 7, 3) := by decide +kernel
theorem dX6_length_11 : decode cX6_length 11 = .ok (.iconst (-1), 1) := by decide +kernel
theorem dX6_length_12 : decode cX6_length 12 = .ok (.goto 7, 3) := by decide +kernel
theorem dX6_length_15 : decode cX6_length 15 = .ok (.aload_n 3, 1) := by decide +kernel
theorem dX6_length_16 : decode cX6_length 16 = .ok (.getfield 80, 3) := by decide +kernel
theorem dX6_length_19 : decode cX6_length 19 = .ok (.ireturn, 1) := by decide +kernel
theorem dX6_count_0 : decode cX6_count 0 = .ok (.iload_n 1, 1) := by decide +kernel
theorem dX6_count_1 : decode cX6_count 1 = .ok (.ifCond .lt 9, 3) := by decide +kernel
theorem dX6_count_4 : decode cX6_count 4 = .ok (.iload_n 1, 1) := by decide +kernel
theorem dX6_count_5 : decode cX6_count 5 = .ok (.bipush 13, 2) := by decide +kernel
theorem dX6_count_7 : decode cX6_count 7 = .ok (.if_icmp .lt 7, 3) := by decide +kernel
theorem dX6_count_10 : decode cX6_count 10 = .ok (.iconst (-1), 1) := by decide +kernel
theorem dX6_count_11 : decode cX6_count 11 = .ok (.goto 9, 3) := by decide +kernel
theorem dX6_count_14 : decode cX6_count 14 = .ok (.aload_n 0, 1) := by decide +kernel
theorem dX6_count_15 : decode cX6_count 15 = .ok (.getfield 34, 3) := by decide +kernel
theorem dX6_count_18 : decode cX6_count 18 = .ok (.iload_n 1, 1) := by decide +kernel
theorem dX6_count_19 : decode cX6_count 19 = .ok (.iaload, 1) := by decide +kernel
theorem dX6_count_20 : decode cX6_count 20 = .ok (.ireturn, 1) := by decide +kernel
theorem dX6_endpointAt_0 : decode cX6_endpointAt 0 = .ok (.iload_n 1, 1) := by decide +kernel
theorem dX6_endpointAt_1 : decode cX6_endpointAt 1 = .ok (.ifCond .lt 11, 3) := by decide +kernel
theorem dX6_endpointAt_4 : decode cX6_endpointAt 4 = .ok (.iload_n 1, 1) := by decide +kernel
theorem dX6_endpointAt_5 : decode cX6_endpointAt 5 = .ok (.aload_n 0, 1) := by decide +kernel
theorem dX6_endpointAt_6 : decode cX6_endpointAt 6 = .ok (.getfield 38, 3) := by decide +kernel
theorem dX6_endpointAt_9 : decode cX6_endpointAt 9 = .ok (.if_icmp .lt 7, 3) := by decide +kernel
theorem dX6_endpointAt_12 : decode cX6_endpointAt 12 = .ok (.aconst_null, 1) := by decide +kernel
theorem dX6_endpointAt_13 : decode cX6_endpointAt 13 = .ok (.goto 9, 3) := by decide +kernel
theorem dX6_endpointAt_16 : decode cX6_endpointAt 16 = .ok (.aload_n 0, 1) := by decide +kernel
theorem dX6_endpointAt_17 : decode cX6_endpointAt 17 = .ok (.getfield 11, 3) := by decide +kernel
theorem dX6_endpointAt_20 : decode cX6_endpointAt 20 = .ok (.iload_n 1, 1) := by decide +kernel
theorem dX6_endpointAt_21 : decode cX6_endpointAt 21 = .ok (.aaload, 1) := by decide +kernel
theorem dX6_endpointAt_22 : decode cX6_endpointAt 22 = .ok (.areturn, 1) := by decide +kernel
theorem dX6_stationAt_0 : decode cX6_stationAt 0 = .ok (.iload_n 1, 1) := by decide +kernel
theorem dX6_stationAt_1 : decode cX6_stationAt 1 = .ok (.ifCond .lt 14, 3) := by decide +kernel
theorem dX6_stationAt_4 : decode cX6_stationAt 4 = .ok (.iload_n 1, 1) := by decide +kernel
theorem dX6_stationAt_5 : decode cX6_stationAt 5 = .ok (.aload_n 0, 1) := by decide +kernel
theorem dX6_stationAt_6 : decode cX6_stationAt 6 = .ok (.getfield 18, 3) := by decide +kernel
theorem dX6_stationAt_9 : decode cX6_stationAt 9 = .ok (.invokevirtual 54, 3) := by decide +kernel
theorem dX6_stationAt_12 : decode cX6_stationAt 12 = .ok (.if_icmp .lt 7, 3) := by decide +kernel
theorem dX6_stationAt_15 : decode cX6_stationAt 15 = .ok (.aconst_null, 1) := by decide +kernel
theorem dX6_stationAt_16 : decode cX6_stationAt 16 = .ok (.goto 14, 3) := by decide +kernel
theorem dX6_stationAt_19 : decode cX6_stationAt 19 = .ok (.aload_n 0, 1) := by decide +kernel
theorem dX6_stationAt_20 : decode cX6_stationAt 20 = .ok (.getfield 18, 3) := by decide +kernel
theorem dX6_stationAt_23 : decode cX6_stationAt 23 = .ok (.iload_n 1, 1) := by decide +kernel
theorem dX6_stationAt_24 : decode cX6_stationAt 24 = .ok (.invokevirtual 194, 3) := by decide +kernel
theorem dX6_stationAt_27 : decode cX6_stationAt 27 = .ok (.checkcast 58, 3) := by decide +kernel
theorem dX6_stationAt_30 : decode cX6_stationAt 30 = .ok (.areturn, 1) := by decide +kernel
theorem dX6_packetAt_0 : decode cX6_packetAt 0 = .ok (.iload_n 1, 1) := by decide +kernel
theorem dX6_packetAt_1 : decode cX6_packetAt 1 = .ok (.ifCond .lt 14, 3) := by decide +kernel
theorem dX6_packetAt_4 : decode cX6_packetAt 4 = .ok (.iload_n 1, 1) := by decide +kernel
theorem dX6_packetAt_5 : decode cX6_packetAt 5 = .ok (.aload_n 0, 1) := by decide +kernel
theorem dX6_packetAt_6 : decode cX6_packetAt 6 = .ok (.getfield 22, 3) := by decide +kernel
theorem dX6_packetAt_9 : decode cX6_packetAt 9 = .ok (.invokevirtual 54, 3) := by decide +kernel
theorem dX6_packetAt_12 : decode cX6_packetAt 12 = .ok (.if_icmp .lt 7, 3) := by decide +kernel
theorem dX6_packetAt_15 : decode cX6_packetAt 15 = .ok (.aconst_null, 1) := by decide +kernel
theorem dX6_packetAt_16 : decode cX6_packetAt 16 = .ok (.goto 14, 3) := by decide +kernel
theorem dX6_packetAt_19 : decode cX6_packetAt 19 = .ok (.aload_n 0, 1) := by decide +kernel
theorem dX6_packetAt_20 : decode cX6_packetAt 20 = .ok (.getfield 22, 3) := by decide +kernel
theorem dX6_packetAt_23 : decode cX6_packetAt 23 = .ok (.iload_n 1, 1) := by decide +kernel
theorem dX6_packetAt_24 : decode cX6_packetAt 24 = .ok (.invokevirtual 194, 3) := by decide +kernel
theorem dX6_packetAt_27 : decode cX6_packetAt 27 = .ok (.checkcast 146, 3) := by decide +kernel
theorem dX6_packetAt_30 : decode cX6_packetAt 30 = .ok (.areturn, 1) := by decide +kernel
theorem dX6_frameAt_0 : decode cX6_frameAt 0 = .ok (.aload_n 0, 1) := by decide +kernel
theorem dX6_frameAt_1 : decode cX6_frameAt 1 = .ok (.iload_n 1, 1) := by decide +kernel
theorem dX6_frameAt_2 : decode cX6_frameAt 2 = .ok (.invokevirtual 67, 3) := by decide +kernel
theorem dX6_frameAt_5 : decode cX6_frameAt 5 = .ok (.astore_n 3, 1) := by decide +kernel
theorem dX6_frameAt_6 : decode cX6_frameAt 6 = .ok (.aload_n 3, 1) := by decide +kernel
theorem dX6_frameAt_7 : decode cX6_frameAt 7 = .ok (.ifnonnull 7, 3) := by decide +kernel
theorem dX6_frameAt_10 : decode cX6_frameAt 10 = .ok (.aconst_null, 1) := by decide +kernel
theorem dX6_frameAt_11 : decode cX6_frameAt 11 = .ok (.goto 8, 3) := by decide +kernel
theorem dX6_frameAt_14 : decode cX6_frameAt 14 = .ok (.aload_n 3, 1) := by decide +kernel
theorem dX6_frameAt_15 : decode cX6_frameAt 15 = .ok (.iload_n 2, 1) := by decide +kernel
theorem dX6_frameAt_16 : decode cX6_frameAt 16 = .ok (.invokevirtual 197, 3) := by decide +kernel
theorem dX6_frameAt_19 : decode cX6_frameAt 19 = .ok (.areturn, 1) := by decide +kernel
theorem dX6_tally_0 : decode cX6_tally 0 = .ok (.iload_n 1, 1) := by decide +kernel
theorem dX6_tally_1 : decode cX6_tally 1 = .ok (.ifCond .lt 19, 3) := by decide +kernel
theorem dX6_tally_4 : decode cX6_tally 4 = .ok (.iload_n 1, 1) := by decide +kernel
theorem dX6_tally_5 : decode cX6_tally 5 = .ok (.bipush 13, 2) := by decide +kernel
theorem dX6_tally_7 : decode cX6_tally 7 = .ok (.if_icmp .ge 13, 3) := by decide +kernel
theorem dX6_tally_10 : decode cX6_tally 10 = .ok (.aload_n 0, 1) := by decide +kernel
theorem dX6_tally_11 : decode cX6_tally 11 = .ok (.getfield 34, 3) := by decide +kernel
theorem dX6_tally_14 : decode cX6_tally 14 = .ok (.iload_n 1, 1) := by decide +kernel
theorem dX6_tally_15 : decode cX6_tally 15 = .ok (.dup2, 1) := by decide +kernel
theorem dX6_tally_16 : decode cX6_tally 16 = .ok (.iaload, 1) := by decide +kernel
theorem dX6_tally_17 : decode cX6_tally 17 = .ok (.iconst 1, 1) := by decide +kernel
theorem dX6_tally_18 : decode cX6_tally 18 = .ok (.iadd, 1) := by decide +kernel
theorem dX6_tally_19 : decode cX6_tally 19 = .ok (.iastore, 1) := by decide +kernel
theorem dX6_tally_20 : decode cX6_tally 20 = .ok (.return_, 1) := by decide +kernel
theorem dX6_hasNet_0 : decode cX6_hasNet 0 = .ok (.iconst 0, 1) := by decide +kernel
theorem dX6_hasNet_1 : decode cX6_hasNet 1 = .ok (.istore_n 3, 1) := by decide +kernel
theorem dX6_hasNet_2 : decode cX6_hasNet 2 = .ok (.iload_n 3, 1) := by decide +kernel
theorem dX6_hasNet_3 : decode cX6_hasNet 3 = .ok (.aload_n 0, 1) := by decide +kernel
theorem dX6_hasNet_4 : decode cX6_hasNet 4 = .ok (.getfield 18, 3) := by decide +kernel
theorem dX6_hasNet_7 : decode cX6_hasNet 7 = .ok (.invokevirtual 54, 3) := by decide +kernel
theorem dX6_hasNet_10 : decode cX6_hasNet 10 = .ok (.if_icmp .ge 33, 3) := by decide +kernel
theorem dX6_hasNet_13 : decode cX6_hasNet 13 = .ok (.aload_n 0, 1) := by decide +kernel
theorem dX6_hasNet_14 : decode cX6_hasNet 14 = .ok (.iload_n 3, 1) := by decide +kernel
theorem dX6_hasNet_15 : decode cX6_hasNet 15 = .ok (.invokevirtual 67, 3) := by decide +kernel
theorem dX6_hasNet_18 : decode cX6_hasNet 18 = .ok (.astore 4, 2) := by decide +kernel
theorem dX6_hasNet_20 : decode cX6_hasNet 20 = .ok (.aload 4, 2) := by decide +kernel
theorem dX6_hasNet_22 : decode cX6_hasNet 22 = .ok (.ifnull 15, 3) := by decide +kernel
theorem dX6_hasNet_25 : decode cX6_hasNet 25 = .ok (.aload 4, 2) := by decide +kernel
theorem dX6_hasNet_27 : decode cX6_hasNet 27 = .ok (.iload_n 1, 1) := by decide +kernel
theorem dX6_hasNet_28 : decode cX6_hasNet 28 = .ok (.iload_n 2, 1) := by decide +kernel
theorem dX6_hasNet_29 : decode cX6_hasNet 29 = .ok (.invokevirtual 201, 3) := by decide +kernel
theorem dX6_hasNet_32 : decode cX6_hasNet 32 = .ok (.ifCond .eq 5, 3) := by decide +kernel
theorem dX6_hasNet_35 : decode cX6_hasNet 35 = .ok (.iconst 1, 1) := by decide +kernel
theorem dX6_hasNet_36 : decode cX6_hasNet 36 = .ok (.ireturn, 1) := by decide +kernel
theorem dX6_hasNet_37 : decode cX6_hasNet 37 = .ok (.iinc 3 1, 3) := by decide +kernel
theorem dX6_hasNet_40 : decode cX6_hasNet 40 = .ok (.goto (-38), 3) := by decide +kernel
theorem dX6_hasNet_43 : decode cX6_hasNet 43 = .ok (.iconst 0, 1) := by decide +kernel
theorem dX6_hasNet_44 : decode cX6_hasNet 44 = .ok (.ireturn, 1) := by decide +kernel
theorem dX6_learn_0 : decode cX6_learn 0 = .ok (.aload_n 1, 1) := by decide +kernel
theorem dX6_learn_1 : decode cX6_learn 1 = .ok (.aload_n 2, 1) := by decide +kernel
theorem dX6_learn_2 : decode cX6_learn 2 = .ok (.getfield 205, 3) := by decide +kernel
theorem dX6_learn_5 : decode cX6_learn 5 = .ok (.aload_n 2, 1) := by decide +kernel
theorem dX6_learn_6 : decode cX6_learn 6 = .ok (.getfield 206, 3) := by decide +kernel
theorem dX6_learn_9 : decode cX6_learn 9 = .ok (.invokevirtual 207, 3) := by decide +kernel
theorem dX6_learn_12 : decode cX6_learn 12 = .ok (.istore_n 3, 1) := by decide +kernel
theorem dX6_learn_13 : decode cX6_learn 13 = .ok (.aload_n 1, 1) := by decide +kernel
theorem dX6_learn_14 : decode cX6_learn 14 = .ok (.iload_n 3, 1) := by decide +kernel
theorem dX6_learn_15 : decode cX6_learn 15 = .ok (.invokevirtual 177, 3) := by decide +kernel
theorem dX6_learn_18 : decode cX6_learn 18 = .ok (.astore 4, 2) := by decide +kernel
theorem dX6_learn_20 : decode cX6_learn 20 = .ok (.aload 4, 2) := by decide +kernel
theorem dX6_learn_22 : decode cX6_learn 22 = .ok (.ifnull 19, 3) := by decide +kernel
theorem dX6_learn_25 : decode cX6_learn 25 = .ok (.aload 4, 2) := by decide +kernel
theorem dX6_learn_27 : decode cX6_learn 27 = .ok (.aload_n 2, 1) := by decide +kernel
theorem dX6_learn_28 : decode cX6_learn 28 = .ok (.invokevirtual 211, 3) := by decide +kernel
theorem dX6_learn_31 : decode cX6_learn 31 = .ok (.ifCond .eq 10, 3) := by decide +kernel
theorem dX6_learn_34 : decode cX6_learn 34 = .ok (.aload 4, 2) := by decide +kernel
theorem dX6_learn_36 : decode cX6_learn 36 = .ok (.iconst 0, 1) := by decide +kernel
theorem dX6_learn_37 : decode cX6_learn 37 = .ok (.putfield 215, 3) := by decide +kernel
theorem dX6_learn_40 : decode cX6_learn 40 = .ok (.return_, 1) := by decide +kernel
theorem dX6_learn_41 : decode cX6_learn 41 = .ok (.aload 4, 2) := by decide +kernel
theorem dX6_learn_43 : decode cX6_learn 43 = .ok (.ifnull 11, 3) := by decide +kernel
theorem dX6_learn_46 : decode cX6_learn 46 = .ok (.aload_n 1, 1) := by decide +kernel
theorem dX6_learn_47 : decode cX6_learn 47 = .ok (.iload_n 3, 1) := by decide +kernel
theorem dX6_learn_48 : decode cX6_learn 48 = .ok (.invokevirtual 218, 3) := by decide +kernel
theorem dX6_learn_51 : decode cX6_learn 51 = .ok (.goto 24, 3) := by decide +kernel
theorem dX6_learn_54 : decode cX6_learn 54 = .ok (.aload_n 1, 1) := by decide +kernel
theorem dX6_learn_55 : decode cX6_learn 55 = .ok (.invokevirtual 221, 3) := by decide +kernel
theorem dX6_learn_58 : decode cX6_learn 58 = .ok (.ifCond .eq 17, 3) := by decide +kernel
theorem dX6_learn_61 : decode cX6_learn 61 = .ok (.aload_n 1, 1) := by decide +kernel
theorem dX6_learn_62 : decode cX6_learn 62 = .ok (.aload_n 1, 1) := by decide +kernel
theorem dX6_learn_63 : decode cX6_learn 63 = .ok (.invokevirtual 225, 3) := by decide +kernel
theorem dX6_learn_66 : decode cX6_learn 66 = .ok (.invokevirtual 218, 3) := by decide +kernel
theorem dX6_learn_69 : decode cX6_learn 69 = .ok (.aload_n 0, 1) := by decide +kernel
theorem dX6_learn_70 : decode cX6_learn 70 = .ok (.bipush 12, 2) := by decide +kernel
theorem dX6_learn_72 : decode cX6_learn 72 = .ok (.invokevirtual 228, 3) := by decide +kernel
theorem dX6_learn_75 : decode cX6_learn 75 = .ok (.aload_n 1, 1) := by decide +kernel
theorem dX6_learn_76 : decode cX6_learn 76 = .ok (.getfield 174, 3) := by decide +kernel
theorem dX6_learn_79 : decode cX6_learn 79 = .ok (.aload_n 2, 1) := by decide +kernel
theorem dX6_learn_80 : decode cX6_learn 80 = .ok (.invokevirtual 63, 3) := by decide +kernel
theorem dX6_learn_83 : decode cX6_learn 83 = .ok (.pop, 1) := by decide +kernel
theorem dX6_learn_84 : decode cX6_learn 84 = .ok (.aload_n 0, 1) := by decide +kernel
theorem dX6_learn_85 : decode cX6_learn 85 = .ok (.bipush 11, 2) := by decide +kernel
theorem dX6_learn_87 : decode cX6_learn 87 = .ok (.invokevirtual 228, 3) := by decide +kernel
theorem dX6_learn_90 : decode cX6_learn 90 = .ok (.return_, 1) := by decide +kernel
theorem dX6_comeToAll_0 : decode cX6_comeToAll 0 = .ok (.iconst 0, 1) := by decide +kernel
theorem dX6_comeToAll_1 : decode cX6_comeToAll 1 = .ok (.istore 5, 2) := by decide +kernel
theorem dX6_comeToAll_3 : decode cX6_comeToAll 3 = .ok (.iload 5, 2) := by decide +kernel
theorem dX6_comeToAll_5 : decode cX6_comeToAll 5 = .ok (.aload_n 0, 1) := by decide +kernel
theorem dX6_comeToAll_6 : decode cX6_comeToAll 6 = .ok (.getfield 18, 3) := by decide +kernel
theorem dX6_comeToAll_9 : decode cX6_comeToAll 9 = .ok (.invokevirtual 54, 3) := by decide +kernel
theorem dX6_comeToAll_12 : decode cX6_comeToAll 12 = .ok (.if_icmp .ge 45, 3) := by decide +kernel
theorem dX6_comeToAll_15 : decode cX6_comeToAll 15 = .ok (.aload_n 0, 1) := by decide +kernel
theorem dX6_comeToAll_16 : decode cX6_comeToAll 16 = .ok (.iload 5, 2) := by decide +kernel
theorem dX6_comeToAll_18 : decode cX6_comeToAll 18 = .ok (.invokevirtual 67, 3) := by decide +kernel
theorem dX6_comeToAll_21 : decode cX6_comeToAll 21 = .ok (.astore 6, 2) := by decide +kernel
theorem dX6_comeToAll_23 : decode cX6_comeToAll 23 = .ok (.aload 6, 2) := by decide +kernel
theorem dX6_comeToAll_25 : decode cX6_comeToAll 25 = .ok (.ifnull 26, 3) := by decide +kernel
theorem dX6_comeToAll_28 : decode cX6_comeToAll 28 = .ok (.iload 5, 2) := by decide +kernel
theorem dX6_comeToAll_30 : decode cX6_comeToAll 30 = .ok (.iload 4, 2) := by decide +kernel
theorem dX6_comeToAll_32 : decode cX6_comeToAll 32 = .ok (.if_icmp .eq 19, 3) := by decide +kernel
theorem dX6_comeToAll_35 : decode cX6_comeToAll 35 = .ok (.aload 6, 2) := by decide +kernel
theorem dX6_comeToAll_37 : decode cX6_comeToAll 37 = .ok (.iload_n 2, 1) := by decide +kernel
theorem dX6_comeToAll_38 : decode cX6_comeToAll 38 = .ok (.iload_n 3, 1) := by decide +kernel
theorem dX6_comeToAll_39 : decode cX6_comeToAll 39 = .ok (.invokevirtual 201, 3) := by decide +kernel
theorem dX6_comeToAll_42 : decode cX6_comeToAll 42 = .ok (.ifCond .eq 9, 3) := by decide +kernel
theorem dX6_comeToAll_45 : decode cX6_comeToAll 45 = .ok (.aload 6, 2) := by decide +kernel
theorem dX6_comeToAll_47 : decode cX6_comeToAll 47 = .ok (.aload_n 1, 1) := by decide +kernel
theorem dX6_comeToAll_48 : decode cX6_comeToAll 48 = .ok (.invokevirtual 231, 3) := by decide +kernel
theorem dX6_comeToAll_51 : decode cX6_comeToAll 51 = .ok (.iinc 5 1, 3) := by decide +kernel
theorem dX6_comeToAll_54 : decode cX6_comeToAll 54 = .ok (.goto (-51), 3) := by decide +kernel
theorem dX6_comeToAll_57 : decode cX6_comeToAll 57 = .ok (.return_, 1) := by decide +kernel
theorem dX6_comeToOne_0 : decode cX6_comeToOne 0 = .ok (.aload_n 0, 1) := by decide +kernel
theorem dX6_comeToOne_1 : decode cX6_comeToOne 1 = .ok (.iload_n 3, 1) := by decide +kernel
theorem dX6_comeToOne_2 : decode cX6_comeToOne 2 = .ok (.invokevirtual 67, 3) := by decide +kernel
theorem dX6_comeToOne_5 : decode cX6_comeToOne 5 = .ok (.astore 4, 2) := by decide +kernel
theorem dX6_comeToOne_7 : decode cX6_comeToOne 7 = .ok (.aload 4, 2) := by decide +kernel
theorem dX6_comeToOne_9 : decode cX6_comeToOne 9 = .ok (.ifnull 18, 3) := by decide +kernel
