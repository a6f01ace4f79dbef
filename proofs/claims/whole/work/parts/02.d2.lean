theorem dX6_comeToOne_12 : decode cX6_comeToOne 12 = .ok (.aload 4, 2) := by decide +kernel
theorem dX6_comeToOne_14 : decode cX6_comeToOne 14 = .ok (.getfield 71, 3) := by decide +kernel
theorem dX6_comeToOne_17 : decode cX6_comeToOne 17 = .ok (.iload_n 2, 1) := by decide +kernel
theorem dX6_comeToOne_18 : decode cX6_comeToOne 18 = .ok (.if_icmp .ne 9, 3) := by decide +kernel
theorem dX6_comeToOne_21 : decode cX6_comeToOne 21 = .ok (.aload 4, 2) := by decide +kernel
theorem dX6_comeToOne_23 : decode cX6_comeToOne 23 = .ok (.aload_n 1, 1) := by decide +kernel
theorem dX6_comeToOne_24 : decode cX6_comeToOne 24 = .ok (.invokevirtual 231, 3) := by decide +kernel
theorem dX6_comeToOne_27 : decode cX6_comeToOne 27 = .ok (.return_, 1) := by decide +kernel
theorem dX6_launchToAll_0 : decode cX6_launchToAll 0 = .ok (.iconst 0, 1) := by decide +kernel
theorem dX6_launchToAll_1 : decode cX6_launchToAll 1 = .ok (.istore 4, 2) := by decide +kernel
theorem dX6_launchToAll_3 : decode cX6_launchToAll 3 = .ok (.iconst 0, 1) := by decide +kernel
theorem dX6_launchToAll_4 : decode cX6_launchToAll 4 = .ok (.istore 5, 2) := by decide +kernel
theorem dX6_launchToAll_6 : decode cX6_launchToAll 6 = .ok (.iload 5, 2) := by decide +kernel
theorem dX6_launchToAll_8 : decode cX6_launchToAll 8 = .ok (.aload_n 0, 1) := by decide +kernel
theorem dX6_launchToAll_9 : decode cX6_launchToAll 9 = .ok (.getfield 38, 3) := by decide +kernel
theorem dX6_launchToAll_12 : decode cX6_launchToAll 12 = .ok (.if_icmp .ge 40, 3) := by decide +kernel
theorem dX6_launchToAll_15 : decode cX6_launchToAll 15 = .ok (.iload 5, 2) := by decide +kernel
theorem dX6_launchToAll_17 : decode cX6_launchToAll 17 = .ok (.aload_n 2, 1) := by decide +kernel
theorem dX6_launchToAll_18 : decode cX6_launchToAll 18 = .ok (.getfield 114, 3) := by decide +kernel
theorem dX6_launchToAll_21 : decode cX6_launchToAll 21 = .ok (.if_icmp .eq 25, 3) := by decide +kernel
theorem dX6_launchToAll_24 : decode cX6_launchToAll 24 = .ok (.aload_n 0, 1) := by decide +kernel
theorem dX6_launchToAll_25 : decode cX6_launchToAll 25 = .ok (.iload 5, 2) := by decide +kernel
theorem dX6_launchToAll_27 : decode cX6_launchToAll 27 = .ok (.iload_n 3, 1) := by decide +kernel
theorem dX6_launchToAll_28 : decode cX6_launchToAll 28 = .ok (.invokevirtual 235, 3) := by decide +kernel
theorem dX6_launchToAll_31 : decode cX6_launchToAll 31 = .ok (.ifCond .eq 15, 3) := by decide +kernel
theorem dX6_launchToAll_34 : decode cX6_launchToAll 34 = .ok (.aload_n 0, 1) := by decide +kernel
theorem dX6_launchToAll_35 : decode cX6_launchToAll 35 = .ok (.aload_n 1, 1) := by decide +kernel
theorem dX6_launchToAll_36 : decode cX6_launchToAll 36 = .ok (.iload_n 3, 1) := by decide +kernel
theorem dX6_launchToAll_37 : decode cX6_launchToAll 37 = .ok (.aload_n 2, 1) := by decide +kernel
theorem dX6_launchToAll_38 : decode cX6_launchToAll 38 = .ok (.iload 5, 2) := by decide +kernel
theorem dX6_launchToAll_40 : decode cX6_launchToAll 40 = .ok (.invokevirtual 129, 3) := by decide +kernel
theorem dX6_launchToAll_43 : decode cX6_launchToAll 43 = .ok (.iinc 4 1, 3) := by decide +kernel
theorem dX6_launchToAll_46 : decode cX6_launchToAll 46 = .ok (.iinc 5 1, 3) := by decide +kernel
theorem dX6_launchToAll_49 : decode cX6_launchToAll 49 = .ok (.goto (-43), 3) := by decide +kernel
theorem dX6_launchToAll_52 : decode cX6_launchToAll 52 = .ok (.iload 4, 2) := by decide +kernel
theorem dX6_launchToAll_54 : decode cX6_launchToAll 54 = .ok (.ireturn, 1) := by decide +kernel
theorem dX6_launch_0 : decode cX6_launch 0 = .ok (.aload_n 1, 1) := by decide +kernel
theorem dX6_launch_1 : decode cX6_launch 1 = .ok (.iload_n 2, 1) := by decide +kernel
theorem dX6_launch_2 : decode cX6_launch 2 = .ok (.aload_n 3, 1) := by decide +kernel
theorem dX6_launch_3 : decode cX6_launch 3 = .ok (.iload 4, 2) := by decide +kernel
theorem dX6_launch_5 : decode cX6_launch 5 = .ok (.invokevirtual 238, 3) := by decide +kernel
theorem dX6_launch_8 : decode cX6_launch 8 = .ok (.aload_n 3, 1) := by decide +kernel
theorem dX6_launch_9 : decode cX6_launch 9 = .ok (.getfield 241, 3) := by decide +kernel
theorem dX6_launch_12 : decode cX6_launch 12 = .ok (.aload_n 3, 1) := by decide +kernel
theorem dX6_launch_13 : decode cX6_launch 13 = .ok (.getfield 114, 3) := by decide +kernel
theorem dX6_launch_16 : decode cX6_launch 16 = .ok (.iload 4, 2) := by decide +kernel
theorem dX6_launch_18 : decode cX6_launch 18 = .ok (.invokestatic 244, 3) := by decide +kernel
theorem dX6_launch_21 : decode cX6_launch 21 = .ok (.astore 5, 2) := by decide +kernel
theorem dX6_launch_23 : decode cX6_launch 23 = .ok (.aload_n 3, 1) := by decide +kernel
theorem dX6_launch_24 : decode cX6_launch 24 = .ok (.dup, 1) := by decide +kernel
theorem dX6_launch_25 : decode cX6_launch 25 = .ok (.getfield 241, 3) := by decide +kernel
theorem dX6_launch_28 : decode cX6_launch 28 = .ok (.iconst 1, 1) := by decide +kernel
theorem dX6_launch_29 : decode cX6_launch 29 = .ok (.iadd, 1) := by decide +kernel
theorem dX6_launch_30 : decode cX6_launch 30 = .ok (.putfield 241, 3) := by decide +kernel
theorem dX6_launch_33 : decode cX6_launch 33 = .ok (.aload_n 0, 1) := by decide +kernel
theorem dX6_launch_34 : decode cX6_launch 34 = .ok (.getfield 22, 3) := by decide +kernel
theorem dX6_launch_37 : decode cX6_launch 37 = .ok (.new 146, 3) := by decide +kernel
theorem dX6_launch_40 : decode cX6_launch 40 = .ok (.dup, 1) := by decide +kernel
theorem dX6_launch_41 : decode cX6_launch 41 = .ok (.aload 5, 2) := by decide +kernel
theorem dX6_launch_43 : decode cX6_launch 43 = .ok (.iload 4, 2) := by decide +kernel
theorem dX6_launch_45 : decode cX6_launch 45 = .ok (.invokespecial 248, 3) := by decide +kernel
theorem dX6_launch_48 : decode cX6_launch 48 = .ok (.invokevirtual 63, 3) := by decide +kernel
theorem dX6_launch_51 : decode cX6_launch 51 = .ok (.pop, 1) := by decide +kernel
theorem dX6_launch_52 : decode cX6_launch 52 = .ok (.aload_n 0, 1) := by decide +kernel
theorem dX6_launch_53 : decode cX6_launch 53 = .ok (.iconst 0, 1) := by decide +kernel
theorem dX6_launch_54 : decode cX6_launch 54 = .ok (.invokevirtual 228, 3) := by decide +kernel
theorem dX6_launch_57 : decode cX6_launch 57 = .ok (.aload_n 0, 1) := by decide +kernel
theorem dX6_launch_58 : decode cX6_launch 58 = .ok (.getfield 22, 3) := by decide +kernel
theorem dX6_launch_61 : decode cX6_launch 61 = .ok (.invokevirtual 54, 3) := by decide +kernel
theorem dX6_launch_64 : decode cX6_launch 64 = .ok (.bipush 50, 2) := by decide +kernel
theorem dX6_launch_66 : decode cX6_launch 66 = .ok (.if_icmp .le 18, 3) := by decide +kernel
theorem dX6_launch_69 : decode cX6_launch 69 = .ok (.aload_n 0, 1) := by decide +kernel
theorem dX6_launch_70 : decode cX6_launch 70 = .ok (.getfield 22, 3) := by decide +kernel
theorem dX6_launch_73 : decode cX6_launch 73 = .ok (.iconst 0, 1) := by decide +kernel
theorem dX6_launch_74 : decode cX6_launch 74 = .ok (.invokevirtual 141, 3) := by decide +kernel
theorem dX6_launch_77 : decode cX6_launch 77 = .ok (.pop, 1) := by decide +kernel
theorem dX6_launch_78 : decode cX6_launch 78 = .ok (.aload_n 0, 1) := by decide +kernel
theorem dX6_launch_79 : decode cX6_launch 79 = .ok (.bipush 10, 2) := by decide +kernel
theorem dX6_launch_81 : decode cX6_launch 81 = .ok (.invokevirtual 228, 3) := by decide +kernel
theorem dX6_launch_84 : decode cX6_launch 84 = .ok (.return_, 1) := by decide +kernel
theorem dX6_arrive_0 : decode cX6_arrive 0 = .ok (.aload_n 2, 1) := by decide +kernel
theorem dX6_arrive_1 : decode cX6_arrive 1 = .ok (.ifnonnull 5, 3) := by decide +kernel
theorem dX6_arrive_4 : decode cX6_arrive 4 = .ok (.iconst (-1), 1) := by decide +kernel
theorem dX6_arrive_5 : decode cX6_arrive 5 = .ok (.ireturn, 1) := by decide +kernel
theorem dX6_arrive_6 : decode cX6_arrive 6 = .ok (.aload_n 1, 1) := by decide +kernel
theorem dX6_arrive_7 : decode cX6_arrive 7 = .ok (.aload_n 2, 1) := by decide +kernel
theorem dX6_arrive_8 : decode cX6_arrive 8 = .ok (.getfield 114, 3) := by decide +kernel
theorem dX6_arrive_11 : decode cX6_arrive 11 = .ok (.invokestatic 251, 3) := by decide +kernel
theorem dX6_arrive_14 : decode cX6_arrive 14 = .ok (.istore_n 3, 1) := by decide +kernel
theorem dX6_arrive_15 : decode cX6_arrive 15 = .ok (.iload_n 3, 1) := by decide +kernel
theorem dX6_arrive_16 : decode cX6_arrive 16 = .ok (.ifCond .ne 13, 3) := by decide +kernel
theorem dX6_arrive_19 : decode cX6_arrive 19 = .ok (.aload_n 0, 1) := by decide +kernel
theorem dX6_arrive_20 : decode cX6_arrive 20 = .ok (.aload_n 1, 1) := by decide +kernel
theorem dX6_arrive_21 : decode cX6_arrive 21 = .ok (.aload_n 2, 1) := by decide +kernel
theorem dX6_arrive_22 : decode cX6_arrive 22 = .ok (.getfield 114, 3) := by decide +kernel
theorem dX6_arrive_25 : decode cX6_arrive 25 = .ok (.invokevirtual 255, 3) := by decide +kernel
theorem dX6_arrive_28 : decode cX6_arrive 28 = .ok (.istore_n 3, 1) := by decide +kernel
theorem dX6_arrive_29 : decode cX6_arrive 29 = .ok (.iload_n 3, 1) := by decide +kernel
theorem dX6_arrive_30 : decode cX6_arrive 30 = .ok (.ifCond .ne 10, 3) := by decide +kernel
theorem dX6_arrive_33 : decode cX6_arrive 33 = .ok (.aload_n 0, 1) := by decide +kernel
theorem dX6_arrive_34 : decode cX6_arrive 34 = .ok (.aload_n 1, 1) := by decide +kernel
theorem dX6_arrive_35 : decode cX6_arrive 35 = .ok (.aload_n 2, 1) := by decide +kernel
theorem dX6_arrive_36 : decode cX6_arrive 36 = .ok (.invokevirtual 258, 3) := by decide +kernel
theorem dX6_arrive_39 : decode cX6_arrive 39 = .ok (.istore_n 3, 1) := by decide +kernel
theorem dX6_arrive_40 : decode cX6_arrive 40 = .ok (.iload_n 3, 1) := by decide +kernel
theorem dX6_arrive_41 : decode cX6_arrive 41 = .ok (.ifCond .eq 8, 3) := by decide +kernel
theorem dX6_arrive_44 : decode cX6_arrive 44 = .ok (.aload_n 0, 1) := by decide +kernel
theorem dX6_arrive_45 : decode cX6_arrive 45 = .ok (.iload_n 3, 1) := by decide +kernel
theorem dX6_arrive_46 : decode cX6_arrive 46 = .ok (.invokevirtual 228, 3) := by decide +kernel
theorem dX6_arrive_49 : decode cX6_arrive 49 = .ok (.iload_n 3, 1) := by decide +kernel
theorem dX6_arrive_50 : decode cX6_arrive 50 = .ok (.ireturn, 1) := by decide +kernel
theorem dX6_misfitOf_0 : decode cX6_misfitOf 0 = .ok (.aload_n 1, 1) := by decide +kernel
theorem dX6_misfitOf_1 : decode cX6_misfitOf 1 = .ok (.invokestatic 261, 3) := by decide +kernel
theorem dX6_misfitOf_4 : decode cX6_misfitOf 4 = .ok (.istore_n 3, 1) := by decide +kernel
theorem dX6_misfitOf_5 : decode cX6_misfitOf 5 = .ok (.aload_n 0, 1) := by decide +kernel
theorem dX6_misfitOf_6 : decode cX6_misfitOf 6 = .ok (.iload_n 2, 1) := by decide +kernel
theorem dX6_misfitOf_7 : decode cX6_misfitOf 7 = .ok (.iload_n 3, 1) := by decide +kernel
theorem dX6_misfitOf_8 : decode cX6_misfitOf 8 = .ok (.invokevirtual 235, 3) := by decide +kernel
theorem dX6_misfitOf_11 : decode cX6_misfitOf 11 = .ok (.ifCond .ne 6, 3) := by decide +kernel
theorem dX6_misfitOf_14 : decode cX6_misfitOf 14 = .ok (.bipush 6, 2) := by decide +kernel
theorem dX6_misfitOf_16 : decode cX6_misfitOf 16 = .ok (.ireturn, 1) := by decide +kernel
theorem dX6_misfitOf_17 : decode cX6_misfitOf 17 = .ok (.aload_n 1, 1) := by decide +kernel
theorem dX6_misfitOf_18 : decode cX6_misfitOf 18 = .ok (.invokestatic 265, 3) := by decide +kernel
theorem dX6_misfitOf_21 : decode cX6_misfitOf 21 = .ok (.istore 4, 2) := by decide +kernel
theorem dX6_misfitOf_23 : decode cX6_misfitOf 23 = .ok (.aload_n 0, 1) := by decide +kernel
theorem dX6_misfitOf_24 : decode cX6_misfitOf 24 = .ok (.iload 4, 2) := by decide +kernel
theorem dX6_misfitOf_26 : decode cX6_misfitOf 26 = .ok (.invokevirtual 49, 3) := by decide +kernel
theorem dX6_misfitOf_29 : decode cX6_misfitOf 29 = .ok (.ifnull 19, 3) := by decide +kernel
theorem dX6_misfitOf_32 : decode cX6_misfitOf 32 = .ok (.iload 4, 2) := by decide +kernel
theorem dX6_misfitOf_34 : decode cX6_misfitOf 34 = .ok (.iload_n 2, 1) := by decide +kernel
theorem dX6_misfitOf_35 : decode cX6_misfitOf 35 = .ok (.if_icmp .eq 13, 3) := by decide +kernel
theorem dX6_misfitOf_38 : decode cX6_misfitOf 38 = .ok (.aload_n 0, 1) := by decide +kernel
theorem dX6_misfitOf_39 : decode cX6_misfitOf 39 = .ok (.iload 4, 2) := by decide +kernel
theorem dX6_misfitOf_41 : decode cX6_misfitOf 41 = .ok (.iload_n 3, 1) := by decide +kernel
theorem dX6_misfitOf_42 : decode cX6_misfitOf 42 = .ok (.invokevirtual 235, 3) := by decide +kernel
theorem dX6_misfitOf_45 : decode cX6_misfitOf 45 = .ok (.ifCond .ne 6, 3) := by decide +kernel
theorem dX6_misfitOf_48 : decode cX6_misfitOf 48 = .ok (.bipush 7, 2) := by decide +kernel
theorem dX6_misfitOf_50 : decode cX6_misfitOf 50 = .ok (.ireturn, 1) := by decide +kernel
theorem dX6_misfitOf_51 : decode cX6_misfitOf 51 = .ok (.aload_n 1, 1) := by decide +kernel
theorem dX6_misfitOf_52 : decode cX6_misfitOf 52 = .ok (.invokestatic 268, 3) := by decide +kernel
theorem dX6_misfitOf_55 : decode cX6_misfitOf 55 = .ok (.invokestatic 272, 3) := by decide +kernel
theorem dX6_misfitOf_58 : decode cX6_misfitOf 58 = .ok (.ifCond .eq 8, 3) := by decide +kernel
theorem dX6_misfitOf_61 : decode cX6_misfitOf 61 = .ok (.bipush 8, 2) := by decide +kernel
theorem dX6_misfitOf_63 : decode cX6_misfitOf 63 = .ok (.goto 4, 3) := by decide +kernel
theorem dX6_misfitOf_66 : decode cX6_misfitOf 66 = .ok (.iconst 0, 1) := by decide +kernel
theorem dX6_misfitOf_67 : decode cX6_misfitOf 67 = .ok (.ireturn, 1) := by decide +kernel
theorem dX6_letIn_0 : decode cX6_letIn 0 = .ok (.aload_n 1, 1) := by decide +kernel
theorem dX6_letIn_1 : decode cX6_letIn 1 = .ok (.invokestatic 261, 3) := by decide +kernel
theorem dX6_letIn_4 : decode cX6_letIn 4 = .ok (.istore_n 3, 1) := by decide +kernel
theorem dX6_letIn_5 : decode cX6_letIn 5 = .ok (.aload_n 0, 1) := by decide +kernel
theorem dX6_letIn_6 : decode cX6_letIn 6 = .ok (.aload_n 2, 1) := by decide +kernel
theorem dX6_letIn_7 : decode cX6_letIn 7 = .ok (.new 98, 3) := by decide +kernel
theorem dX6_letIn_10 : decode cX6_letIn 10 = .ok (.dup, 1) := by decide +kernel
theorem dX6_letIn_11 : decode cX6_letIn 11 = .ok (.iload_n 3, 1) := by decide +kernel
theorem dX6_letIn_12 : decode cX6_letIn 12 = .ok (.aload_n 1, 1) := by decide +kernel
theorem dX6_letIn_13 : decode cX6_letIn 13 = .ok (.invokestatic 268, 3) := by decide +kernel
theorem dX6_letIn_16 : decode cX6_letIn 16 = .ok (.aload_n 1, 1) := by decide +kernel
theorem dX6_letIn_17 : decode cX6_letIn 17 = .ok (.invokestatic 265, 3) := by decide +kernel
theorem dX6_letIn_20 : decode cX6_letIn 20 = .ok (.iconst (-1), 1) := by decide +kernel
theorem dX6_letIn_21 : decode cX6_letIn 21 = .ok (.invokespecial 103, 3) := by decide +kernel
theorem dX6_letIn_24 : decode cX6_letIn 24 = .ok (.invokevirtual 106, 3) := by decide +kernel
theorem dX6_letIn_27 : decode cX6_letIn 27 = .ok (.aload_n 2, 1) := by decide +kernel
theorem dX6_letIn_28 : decode cX6_letIn 28 = .ok (.iload_n 3, 1) := by decide +kernel
theorem dX6_letIn_29 : decode cX6_letIn 29 = .ok (.aload_n 1, 1) := by decide +kernel
theorem dX6_letIn_30 : decode cX6_letIn 30 = .ok (.invokestatic 276, 3) := by decide +kernel
theorem dX6_letIn_33 : decode cX6_letIn 33 = .ok (.invokevirtual 110, 3) := by decide +kernel
theorem dX6_letIn_36 : decode cX6_letIn 36 = .ok (.astore 4, 2) := by decide +kernel
theorem dX6_letIn_38 : decode cX6_letIn 38 = .ok (.aload 4, 2) := by decide +kernel
theorem dX6_letIn_40 : decode cX6_letIn 40 = .ok (.ifnull 15, 3) := by decide +kernel
theorem dX6_letIn_43 : decode cX6_letIn 43 = .ok (.aload 4, 2) := by decide +kernel
theorem dX6_letIn_45 : decode cX6_letIn 45 = .ok (.getfield 125, 3) := by decide +kernel
theorem dX6_letIn_48 : decode cX6_letIn 48 = .ok (.iconst (-1), 1) := by decide +kernel
theorem dX6_letIn_49 : decode cX6_letIn 49 = .ok (.if_icmp .ne 6, 3) := by decide +kernel
theorem dX6_letIn_52 : decode cX6_letIn 52 = .ok (.bipush 9, 2) := by decide +kernel
theorem dX6_letIn_54 : decode cX6_letIn 54 = .ok (.ireturn, 1) := by decide +kernel
theorem dX6_letIn_55 : decode cX6_letIn 55 = .ok (.aload_n 1, 1) := by decide +kernel
theorem dX6_letIn_56 : decode cX6_letIn 56 = .ok (.invokestatic 279, 3) := by decide +kernel
theorem dX6_letIn_59 : decode cX6_letIn 59 = .ok (.astore 5, 2) := by decide +kernel
theorem dX6_letIn_61 : decode cX6_letIn 61 = .ok (.aload 4, 2) := by decide +kernel
theorem dX6_letIn_63 : decode cX6_letIn 63 = .ok (.ifnonnull 18, 3) := by decide +kernel
theorem dX6_letIn_66 : decode cX6_letIn 66 = .ok (.aload_n 0, 1) := by decide +kernel
theorem dX6_letIn_67 : decode cX6_letIn 67 = .ok (.aload 5, 2) := by decide +kernel
theorem dX6_letIn_69 : decode cX6_letIn 69 = .ok (.aload_n 2, 1) := by decide +kernel
theorem dX6_letIn_70 : decode cX6_letIn 70 = .ok (.getfield 114, 3) := by decide +kernel
theorem dX6_letIn_73 : decode cX6_letIn 73 = .ok (.iload_n 3, 1) := by decide +kernel
theorem dX6_letIn_74 : decode cX6_letIn 74 = .ok (.iconst (-1), 1) := by decide +kernel
theorem dX6_letIn_75 : decode cX6_letIn 75 = .ok (.invokevirtual 117, 3) := by decide +kernel
theorem dX6_letIn_78 : decode cX6_letIn 78 = .ok (.goto 18, 3) := by decide +kernel
theorem dX6_letIn_81 : decode cX6_letIn 81 = .ok (.aload_n 0, 1) := by decide +kernel
theorem dX6_letIn_82 : decode cX6_letIn 82 = .ok (.aload 5, 2) := by decide +kernel
theorem dX6_letIn_84 : decode cX6_letIn 84 = .ok (.aload_n 2, 1) := by decide +kernel
theorem dX6_letIn_85 : decode cX6_letIn 85 = .ok (.getfield 114, 3) := by decide +kernel
theorem dX6_letIn_88 : decode cX6_letIn 88 = .ok (.aload 4, 2) := by decide +kernel
theorem dX6_letIn_90 : decode cX6_letIn 90 = .ok (.getfield 125, 3) := by decide +kernel
theorem dX6_letIn_93 : decode cX6_letIn 93 = .ok (.invokevirtual 133, 3) := by decide +kernel
theorem dX6_letIn_96 : decode cX6_letIn 96 = .ok (.iconst 0, 1) := by decide +kernel
theorem dX6_letIn_97 : decode cX6_letIn 97 = .ok (.ireturn, 1) := by decide +kernel
theorem dX7_init_0 : decode cX7_init 0 = .ok (.aload_n 0, 1) := by decide +kernel
theorem dX7_init_1 : decode cX7_init 1 = .ok (.invokespecial 1, 3) := by decide +kernel
theorem dX7_init_4 : decode cX7_init 4 = .ok (.aload_n 0, 1) := by decide +kernel
theorem dX7_init_5 : decode cX7_init 5 = .ok (.bipush 32, 2) := by decide +kernel
theorem dX7_init_7 : decode cX7_init 7 = .ok (.newarray .int, 2) := by decide +kernel
theorem dX7_init_9 : decode cX7_init 9 = .ok (.putfield 7, 3) := by decide +kernel
theorem dX7_init_12 : decode cX7_init 12 = .ok (.aload_n 0, 1) := by decide +kernel
theorem dX7_init_13 : decode cX7_init 13 = .ok (.bipush 32, 2) := by decide +kernel
theorem dX7_init_15 : decode cX7_init 15 = .ok (.newarray .int, 2) := by decide +kernel
theorem dX7_init_17 : decode cX7_init 17 = .ok (.putfield 13, 3) := by decide +kernel
theorem dX7_init_20 : decode cX7_init 20 = .ok (.aload_n 0, 1) := by decide +kernel
theorem dX7_init_21 : decode cX7_init 21 = .ok (.bipush 32, 2) := by decide +kernel
theorem dX7_init_23 : decode cX7_init 23 = .ok (.newarray .int, 2) := by decide +kernel
theorem dX7_init_25 : decode cX7_init 25 = .ok (.putfield 16, 3) := by decide +kernel
theorem dX7_init_28 : decode cX7_init 28 = .ok (.aload_n 0, 1) := by decide +kernel
theorem dX7_init_29 : decode cX7_init 29 = .ok (.bipush 32, 2) := by decide +kernel
theorem dX7_init_31 : decode cX7_init 31 = .ok (.newarray .int, 2) := by decide +kernel
theorem dX7_init_33 : decode cX7_init 33 = .ok (.putfield 19, 3) := by decide +kernel
theorem dX7_init_36 : decode cX7_init 36 = .ok (.aload_n 0, 1) := by decide +kernel
theorem dX7_init_37 : decode cX7_init 37 = .ok (.sipush 23040, 3) := by decide +kernel
theorem dX7_init_40 : decode cX7_init 40 = .ok (.newarray .byte, 2) := by decide +kernel
theorem dX7_init_42 : decode cX7_init 42 = .ok (.putfield 22, 3) := by decide +kernel
theorem dX7_init_45 : decode cX7_init 45 = .ok (.aload_n 0, 1) := by decide +kernel
theorem dX7_init_46 : decode cX7_init 46 = .ok (.sipush 192, 3) := by decide +kernel
theorem dX7_init_49 : decode cX7_init 49 = .ok (.newarray .int, 2) := by decide +kernel
theorem dX7_init_51 : decode cX7_init 51 = .ok (.putfield 26, 3) := by decide +kernel
theorem dX7_init_54 : decode cX7_init 54 = .ok (.aload_n 0, 1) := by decide +kernel
theorem dX7_init_55 : decode cX7_init 55 = .ok (.bipush 64, 2) := by decide +kernel
theorem dX7_init_57 : decode cX7_init 57 = .ok (.newarray .int, 2) := by decide +kernel
theorem dX7_init_59 : decode cX7_init 59 = .ok (.putfield 29, 3) := by decide +kernel
theorem dX7_init_62 : decode cX7_init 62 = .ok (.aload_n 0, 1) := by decide +kernel
theorem dX7_init_63 : decode cX7_init 63 = .ok (.bipush 8, 2) := by decide +kernel
theorem dX7_init_65 : decode cX7_init 65 = .ok (.newarray .int, 2) := by decide +kernel
theorem dX7_init_67 : decode cX7_init 67 = .ok (.putfield 32, 3) := by decide +kernel
theorem dX7_init_70 : decode cX7_init 70 = .ok (.aload_n 0, 1) := by decide +kernel
theorem dX7_init_71 : decode cX7_init 71 = .ok (.bipush 8, 2) := by decide +kernel
theorem dX7_init_73 : decode cX7_init 73 = .ok (.newarray .int, 2) := by decide +kernel
theorem dX7_init_75 : decode cX7_init 75 = .ok (.putfield 35, 3) := by decide +kernel
theorem dX7_init_78 : decode cX7_init 78 = .ok (.aload_n 0, 1) := by decide +kernel
theorem dX7_init_79 : decode cX7_init 79 = .ok (.sipush 192, 3) := by decide +kernel
theorem dX7_init_82 : decode cX7_init 82 = .ok (.newarray .int, 2) := by decide +kernel
theorem dX7_init_84 : decode cX7_init 84 = .ok (.putfield 38, 3) := by decide +kernel
theorem dX7_init_87 : decode cX7_init 87 = .ok (.aload_n 0, 1) := by decide +kernel
theorem dX7_init_88 : decode cX7_init 88 = .ok (.sipush 192, 3) := by decide +kernel
theorem dX7_init_91 : decode cX7_init 91 = .ok (.newarray .long, 2) := by decide +kernel
theorem dX7_init_93 : decode cX7_init 93 = .ok (.putfield 41, 3) := by decide +kernel
theorem dX7_init_96 : decode cX7_init 96 = .ok (.aload_n 0, 1) := by decide +kernel
theorem dX7_init_97 : decode cX7_init 97 = .ok (.sipush 192, 3) := by decide +kernel
theorem dX7_init_100 : decode cX7_init 100 = .ok (.newarray .int, 2) := by decide +kernel
theorem dX7_init_102 : decode cX7_init 102 = .ok (.putfield 45, 3) := by decide +kernel
theorem dX7_init_105 : decode cX7_init 105 = .ok (.aload_n 0, 1) := by decide +kernel
theorem dX7_init_106 : decode cX7_init 106 = .ok (.sipush 192, 3) := by decide +kernel
theorem dX7_init_109 : decode cX7_init 109 = .ok (.newarray .long, 2) := by decide +kernel
theorem dX7_init_111 : decode cX7_init 111 = .ok (.putfield 48, 3) := by decide +kernel
theorem dX7_init_114 : decode cX7_init 114 = .ok (.aload_n 0, 1) := by decide +kernel
theorem dX7_init_115 : decode cX7_init 115 = .ok (.bipush 120, 2) := by decide +kernel
theorem dX7_init_117 : decode cX7_init 117 = .ok (.newarray .byte, 2) := by decide +kernel
theorem dX7_init_119 : decode cX7_init 119 = .ok (.putfield 51, 3) := by decide +kernel
theorem dX7_init_122 : decode cX7_init 122 = .ok (.aload_n 0, 1) := by decide +kernel
theorem dX7_init_123 : decode cX7_init 123 = .ok (.sipush 6000, 3) := by decide +kernel
theorem dX7_init_126 : decode cX7_init 126 = .ok (.newarray .byte, 2) := by decide +kernel
theorem dX7_init_128 : decode cX7_init 128 = .ok (.putfield 54, 3) := by decide +kernel
theorem dX7_init_131 : decode cX7_init 131 = .ok (.aload_n 0, 1) := by decide +kernel
theorem dX7_init_132 : decode cX7_init 132 = .ok (.bipush 50, 2) := by decide +kernel
theorem dX7_init_134 : decode cX7_init 134 = .ok (.newarray .int, 2) := by decide +kernel
theorem dX7_init_136 : decode cX7_init 136 = .ok (.putfield 57, 3) := by decide +kernel
theorem dX7_init_139 : decode cX7_init 139 = .ok (.aload_n 0, 1) := by decide +kernel
theorem dX7_init_140 : decode cX7_init 140 = .ok (.bipush 50, 2) := by decide +kernel
theorem dX7_init_142 : decode cX7_init 142 = .ok (.newarray .int, 2) := by decide +kernel
theorem dX7_init_144 : decode cX7_init 144 = .ok (.putfield 60, 3) := by decide +kernel
theorem dX7_init_147 : decode cX7_init 147 = .ok (.aload_n 0, 1) := by decide +kernel
theorem dX7_init_148 : decode cX7_init 148 = .ok (.bipush 13, 2) := by decide +kernel
theorem dX7_init_150 : decode cX7_init 150 = .ok (.newarray .int, 2) := by decide +kernel
theorem dX7_init_152 : decode cX7_init 152 = .ok (.putfield 63, 3) := by decide +kernel
theorem dX7_init_155 : decode cX7_init 155 = .ok (.aload_n 0, 1) := by decide +kernel
theorem dX7_init_156 : decode cX7_init 156 = .ok (.bipush 120, 2) := by decide +kernel
theorem dX7_init_158 : decode cX7_init 158 = .ok (.newarray .byte, 2) := by decide +kernel
theorem dX7_init_160 : decode cX7_init 160 = .ok (.putfield 66, 3) := by decide +kernel
theorem dX7_init_163 : decode cX7_init 163 = .ok (.aload_n 0, 1) := by decide +kernel
theorem dX7_init_164 : decode cX7_init 164 = .ok (.bipush 120, 2) := by decide +kernel
theorem dX7_init_166 : decode cX7_init 166 = .ok (.newarray .byte, 2) := by decide +kernel
theorem dX7_init_168 : decode cX7_init 168 = .ok (.putfield 69, 3) := by decide +kernel
theorem dX7_init_171 : decode cX7_init 171 = .ok (.aload_n 0, 1) := by decide +kernel
theorem dX7_init_172 : decode cX7_init 172 = .ok (.iconst 4, 1) := by decide +kernel
theorem dX7_init_173 : decode cX7_init 173 = .ok (.invokevirtual 72, 3) := by decide +kernel
theorem dX7_init_176 : decode cX7_init 176 = .ok (.pop, 1) := by decide +kernel
theorem dX7_init_177 : decode cX7_init 177 = .ok (.return_, 1) := by decide +kernel
theorem dX7_begin_0 : decode cX7_begin 0 = .ok (.iload_n 1, 1) := by decide +kernel
theorem dX7_begin_1 : decode cX7_begin 1 = .ok (.iconst 2, 1) := by decide +kernel
theorem dX7_begin_2 : decode cX7_begin 2 = .ok (.if_icmp .lt 9, 3) := by decide +kernel
theorem dX7_begin_5 : decode cX7_begin 5 = .ok (.iload_n 1, 1) := by decide +kernel
theorem dX7_begin_6 : decode cX7_begin 6 = .ok (.bipush 8, 2) := by decide +kernel
theorem dX7_begin_8 : decode cX7_begin 8 = .ok (.if_icmp .le 5, 3) := by decide +kernel
theorem dX7_begin_11 : decode cX7_begin 11 = .ok (.iconst 0, 1) := by decide +kernel
theorem dX7_begin_12 : decode cX7_begin 12 = .ok (.ireturn, 1) := by decide +kernel
theorem dX7_begin_13 : decode cX7_begin 13 = .ok (.aload_n 0, 1) := by decide +kernel
theorem dX7_begin_14 : decode cX7_begin 14 = .ok (.iload_n 1, 1) := by decide +kernel
theorem dX7_begin_15 : decode cX7_begin 15 = .ok (.putfield 76, 3) := by decide +kernel
theorem dX7_begin_18 : decode cX7_begin 18 = .ok (.aload_n 0, 1) := by decide +kernel
theorem dX7_begin_19 : decode cX7_begin 19 = .ok (.iconst 0, 1) := by decide +kernel
theorem dX7_begin_20 : decode cX7_begin 20 = .ok (.putfield 80, 3) := by decide +kernel
theorem dX7_begin_23 : decode cX7_begin 23 = .ok (.aload_n 0, 1) := by decide +kernel
theorem dX7_begin_24 : decode cX7_begin 24 = .ok (.iconst 0, 1) := by decide +kernel
theorem dX7_begin_25 : decode cX7_begin 25 = .ok (.putfield 83, 3) := by decide +kernel
theorem dX7_begin_28 : decode cX7_begin 28 = .ok (.iconst 0, 1) := by decide +kernel
theorem dX7_begin_29 : decode cX7_begin 29 = .ok (.istore_n 2, 1) := by decide +kernel
theorem dX7_begin_30 : decode cX7_begin 30 = .ok (.iload_n 2, 1) := by decide +kernel
theorem dX7_begin_31 : decode cX7_begin 31 = .ok (.bipush 8, 2) := by decide +kernel
theorem dX7_begin_33 : decode cX7_begin 33 = .ok (.if_icmp .ge 23, 3) := by decide +kernel
theorem dX7_begin_36 : decode cX7_begin 36 = .ok (.aload_n 0, 1) := by decide +kernel
theorem dX7_begin_37 : decode cX7_begin 37 = .ok (.getfield 35, 3) := by decide +kernel
theorem dX7_begin_40 : decode cX7_begin 40 = .ok (.iload_n 2, 1) := by decide +kernel
theorem dX7_begin_41 : decode cX7_begin 41 = .ok (.iconst 0, 1) := by decide +kernel
theorem dX7_begin_42 : decode cX7_begin 42 = .ok (.iastore, 1) := by decide +kernel
theorem dX7_begin_43 : decode cX7_begin 43 = .ok (.aload_n 0, 1) := by decide +kernel
theorem dX7_begin_44 : decode cX7_begin 44 = .ok (.getfield 32, 3) := by decide +kernel
theorem dX7_begin_47 : decode cX7_begin 47 = .ok (.iload_n 2, 1) := by decide +kernel
theorem dX7_begin_48 : decode cX7_begin 48 = .ok (.iconst 0, 1) := by decide +kernel
theorem dX7_begin_49 : decode cX7_begin 49 = .ok (.iastore, 1) := by decide +kernel
theorem dX7_begin_50 : decode cX7_begin 50 = .ok (.iinc 2 1, 3) := by decide +kernel
theorem dX7_begin_53 : decode cX7_begin 53 = .ok (.goto (-23), 3) := by decide +kernel
theorem dX7_begin_56 : decode cX7_begin 56 = .ok (.iconst 0, 1) := by decide +kernel
theorem dX7_begin_57 : decode cX7_begin 57 = .ok (.istore_n 2, 1) := by decide +kernel
theorem dX7_begin_58 : decode cX7_begin 58 = .ok (.iload_n 2, 1) := by decide +kernel
theorem dX7_begin_59 : decode cX7_begin 59 = .ok (.bipush 64, 2) := by decide +kernel
theorem dX7_begin_61 : decode cX7_begin 61 = .ok (.if_icmp .ge 16, 3) := by decide +kernel
theorem dX7_begin_64 : decode cX7_begin 64 = .ok (.aload_n 0, 1) := by decide +kernel
theorem dX7_begin_65 : decode cX7_begin 65 = .ok (.getfield 29, 3) := by decide +kernel
theorem dX7_begin_68 : decode cX7_begin 68 = .ok (.iload_n 2, 1) := by decide +kernel
theorem dX7_begin_69 : decode cX7_begin 69 = .ok (.iconst 0, 1) := by decide +kernel
theorem dX7_begin_70 : decode cX7_begin 70 = .ok (.iastore, 1) := by decide +kernel
theorem dX7_begin_71 : decode cX7_begin 71 = .ok (.iinc 2 1, 3) := by decide +kernel
theorem dX7_begin_74 : decode cX7_begin 74 = .ok (.goto (-16), 3) := by decide +kernel
theorem dX7_begin_77 : decode cX7_begin 77 = .ok (.iconst 0, 1) := by decide +kernel
theorem dX7_begin_78 : decode cX7_begin 78 = .ok (.istore_n 2, 1) := by decide +kernel
theorem dX7_begin_79 : decode cX7_begin 79 = .ok (.iload_n 2, 1) := by decide +kernel
theorem dX7_begin_80 : decode cX7_begin 80 = .ok (.bipush 13, 2) := by decide +kernel
theorem dX7_begin_82 : decode cX7_begin 82 = .ok (.if_icmp .ge 16, 3) := by decide +kernel
theorem dX7_begin_85 : decode cX7_begin 85 = .ok (.aload_n 0, 1) := by decide +kernel
theorem dX7_begin_86 : decode cX7_begin 86 = .ok (.getfield 63, 3) := by decide +kernel
theorem dX7_begin_89 : decode cX7_begin 89 = .ok (.iload_n 2, 1) := by decide +kernel
theorem dX7_begin_90 : decode cX7_begin 90 = .ok (.iconst 0, 1) := by decide +kernel
theorem dX7_begin_91 : decode cX7_begin 91 = .ok (.iastore, 1) := by decide +kernel
theorem dX7_begin_92 : decode cX7_begin 92 = .ok (.iinc 2 1, 3) := by decide +kernel
theorem dX7_begin_95 : decode cX7_begin 95 = .ok (.goto (-16), 3) := by decide +kernel
theorem dX7_begin_98 : decode cX7_begin 98 = .ok (.iconst 1, 1) := by decide +kernel
theorem dX7_begin_99 : decode cX7_begin 99 = .ok (.ireturn, 1) := by decide +kernel
theorem dX7_isEndpoint_0 : decode cX7_isEndpoint 0 = .ok (.iload_n 1, 1) := by decide +kernel
theorem dX7_isEndpoint_1 : decode cX7_isEndpoint 1 = .ok (.ifCond .lt 15, 3) := by decide +kernel
theorem dX7_isEndpoint_4 : decode cX7_isEndpoint 4 = .ok (.iload_n 1, 1) := by decide +kernel
theorem dX7_isEndpoint_5 : decode cX7_isEndpoint 5 = .ok (.aload_n 0, 1) := by decide +kernel
theorem dX7_isEndpoint_6 : decode cX7_isEndpoint 6 = .ok (.getfield 76, 3) := by decide +kernel
theorem dX7_isEndpoint_9 : decode cX7_isEndpoint 9 = .ok (.if_icmp .ge 7, 3) := by decide +kernel
theorem dX7_isEndpoint_12 : decode cX7_isEndpoint 12 = .ok (.iconst 1, 1) := by decide +kernel
theorem dX7_isEndpoint_13 : decode cX7_isEndpoint 13 = .ok (.goto 4, 3) := by decide +kernel
theorem dX7_isEndpoint_16 : decode cX7_isEndpoint 16 = .ok (.iconst 0, 1) := by decide +kernel
theorem dX7_isEndpoint_17 : decode cX7_isEndpoint 17 = .ok (.ireturn, 1) := by decide +kernel
theorem dX7_isStation_0 : decode cX7_isStation 0 = .ok (.iload_n 1, 1) := by decide +kernel
theorem dX7_isStation_1 : decode cX7_isStation 1 = .ok (.ifCond .lt 15, 3) := by decide +kernel
theorem dX7_isStation_4 : decode cX7_isStation 4 = .ok (.iload_n 1, 1) := by decide +kernel
theorem dX7_isStation_5 : decode cX7_isStation 5 = .ok (.aload_n 0, 1) := by decide +kernel
theorem dX7_isStation_6 : decode cX7_isStation 6 = .ok (.getfield 80, 3) := by decide +kernel
theorem dX7_isStation_9 : decode cX7_isStation 9 = .ok (.if_icmp .ge 7, 3) := by decide +kernel
theorem dX7_isStation_12 : decode cX7_isStation 12 = .ok (.iconst 1, 1) := by decide +kernel
theorem dX7_isStation_13 : decode cX7_isStation 13 = .ok (.goto 4, 3) := by decide +kernel
theorem dX7_isStation_16 : decode cX7_isStation 16 = .ok (.iconst 0, 1) := by decide +kernel
theorem dX7_isStation_17 : decode cX7_isStation 17 = .ok (.ireturn, 1) := by decide +kernel
theorem dX7_station_0 : decode cX7_station 0 = .ok (.aload_n 0, 1) := by decide +kernel
theorem dX7_station_1 : decode cX7_station 1 = .ok (.iload_n 1, 1) := by decide +kernel
theorem dX7_station_2 : decode cX7_station 2 = .ok (.invokevirtual 86, 3) := by decide +kernel
theorem dX7_station_5 : decode cX7_station 5 = .ok (.ifCond .eq 22, 3) := by decide +kernel
theorem dX7_station_8 : decode cX7_station 8 = .ok (.iload_n 2, 1) := by decide +kernel
theorem dX7_station_9 : decode cX7_station 9 = .ok (.ifCond .lt 18, 3) := by decide +kernel
theorem dX7_station_12 : decode cX7_station 12 = .ok (.iload_n 2, 1) := by decide +kernel
theorem dX7_station_13 : decode cX7_station 13 = .ok (.ldc 89, 2) := by decide +kernel
theorem dX7_station_15 : decode cX7_station 15 = .ok (.if_icmp .gt 12, 3) := by decide +kernel
theorem dX7_station_18 : decode cX7_station 18 = .ok (.aload_n 0, 1) := by decide +kernel
theorem dX7_station_19 : decode cX7_station 19 = .ok (.getfield 80, 3) := by decide +kernel
theorem dX7_station_22 : decode cX7_station 22 = .ok (.bipush 32, 2) := by decide +kernel
theorem dX7_station_24 : decode cX7_station 24 = .ok (.if_icmp .ne 5, 3) := by decide +kernel
theorem dX7_station_27 : decode cX7_station 27 = .ok (.iconst (-1), 1) := by decide +kernel
theorem dX7_station_28 : decode cX7_station 28 = .ok (.ireturn, 1) := by decide +kernel
theorem dX7_station_29 : decode cX7_station 29 = .ok (.aload_n 0, 1) := by decide +kernel
theorem dX7_station_30 : decode cX7_station 30 = .ok (.getfield 80, 3) := by decide +kernel
theorem dX7_station_33 : decode cX7_station 33 = .ok (.istore 4, 2) := by decide +kernel
theorem dX7_station_35 : decode cX7_station 35 = .ok (.aload_n 0, 1) := by decide +kernel
theorem dX7_station_36 : decode cX7_station 36 = .ok (.dup, 1) := by decide +kernel
theorem dX7_station_37 : decode cX7_station 37 = .ok (.getfield 80, 3) := by decide +kernel
theorem dX7_station_40 : decode cX7_station 40 = .ok (.iconst 1, 1) := by decide +kernel
theorem dX7_station_41 : decode cX7_station 41 = .ok (.iadd, 1) := by decide +kernel
theorem dX7_station_42 : decode cX7_station 42 = .ok (.putfield 80, 3) := by decide +kernel
theorem dX7_station_45 : decode cX7_station 45 = .ok (.aload_n 0, 1) := by decide +kernel
theorem dX7_station_46 : decode cX7_station 46 = .ok (.getfield 7, 3) := by decide +kernel
theorem dX7_station_49 : decode cX7_station 49 = .ok (.iload 4, 2) := by decide +kernel
theorem dX7_station_51 : decode cX7_station 51 = .ok (.iload_n 1, 1) := by decide +kernel
theorem dX7_station_52 : decode cX7_station 52 = .ok (.iastore, 1) := by decide +kernel
theorem dX7_station_53 : decode cX7_station 53 = .ok (.aload_n 0, 1) := by decide +kernel
theorem dX7_station_54 : decode cX7_station 54 = .ok (.getfield 13, 3) := by decide +kernel
theorem dX7_station_57 : decode cX7_station 57 = .ok (.iload 4, 2) := by decide +kernel
theorem dX7_station_59 : decode cX7_station 59 = .ok (.iload_n 2, 1) := by decide +kernel
theorem dX7_station_60 : decode cX7_station 60 = .ok (.iastore, 1) := by decide +kernel
theorem dX7_station_61 : decode cX7_station 61 = .ok (.aload_n 0, 1) := by decide +kernel
theorem dX7_station_62 : decode cX7_station 62 = .ok (.getfield 16, 3) := by decide +kernel
theorem dX7_station_65 : decode cX7_station 65 = .ok (.iload 4, 2) := by decide +kernel
theorem dX7_station_67 : decode cX7_station 67 = .ok (.iload_n 3, 1) := by decide +kernel
theorem dX7_station_68 : decode cX7_station 68 = .ok (.iastore, 1) := by decide +kernel
theorem dX7_station_69 : decode cX7_station 69 = .ok (.aload_n 0, 1) := by decide +kernel
theorem dX7_station_70 : decode cX7_station 70 = .ok (.getfield 19, 3) := by decide +kernel
theorem dX7_station_73 : decode cX7_station 73 = .ok (.iload 4, 2) := by decide +kernel
theorem dX7_station_75 : decode cX7_station 75 = .ok (.iconst 0, 1) := by decide +kernel
theorem dX7_station_76 : decode cX7_station 76 = .ok (.iastore, 1) := by decide +kernel
theorem dX7_station_77 : decode cX7_station 77 = .ok (.iload 4, 2) := by decide +kernel
theorem dX7_station_79 : decode cX7_station 79 = .ok (.ireturn, 1) := by decide +kernel
theorem dX7_move_0 : decode cX7_move 0 = .ok (.aload_n 0, 1) := by decide +kernel
theorem dX7_move_1 : decode cX7_move 1 = .ok (.iload_n 1, 1) := by decide +kernel
theorem dX7_move_2 : decode cX7_move 2 = .ok (.invokevirtual 90, 3) := by decide +kernel
theorem dX7_move_5 : decode cX7_move 5 = .ok (.ifCond .eq 11, 3) := by decide +kernel
theorem dX7_move_8 : decode cX7_move 8 = .ok (.aload_n 0, 1) := by decide +kernel
theorem dX7_move_9 : decode cX7_move 9 = .ok (.iload_n 2, 1) := by decide +kernel
theorem dX7_move_10 : decode cX7_move 10 = .ok (.invokevirtual 86, 3) := by decide +kernel
theorem dX7_move_13 : decode cX7_move 13 = .ok (.ifCond .ne 5, 3) := by decide +kernel
theorem dX7_move_16 : decode cX7_move 16 = .ok (.iconst 0, 1) := by decide +kernel
theorem dX7_move_17 : decode cX7_move 17 = .ok (.ireturn, 1) := by decide +kernel
theorem dX7_move_18 : decode cX7_move 18 = .ok (.aload_n 0, 1) := by decide +kernel
theorem dX7_move_19 : decode cX7_move 19 = .ok (.getfield 7, 3) := by decide +kernel
theorem dX7_move_22 : decode cX7_move 22 = .ok (.iload_n 1, 1) := by decide +kernel
theorem dX7_move_23 : decode cX7_move 23 = .ok (.iload_n 2, 1) := by decide +kernel
theorem dX7_move_24 : decode cX7_move 24 = .ok (.iastore, 1) := by decide +kernel
theorem dX7_move_25 : decode cX7_move 25 = .ok (.iconst 1, 1) := by decide +kernel
theorem dX7_move_26 : decode cX7_move 26 = .ok (.ireturn, 1) := by decide +kernel
theorem dX7_way_0 : decode cX7_way 0 = .ok (.aload_n 0, 1) := by decide +kernel
theorem dX7_way_1 : decode cX7_way 1 = .ok (.iload_n 1, 1) := by decide +kernel
theorem dX7_way_2 : decode cX7_way 2 = .ok (.invokevirtual 86, 3) := by decide +kernel
theorem dX7_way_5 : decode cX7_way 5 = .ok (.ifCond .eq 25, 3) := by decide +kernel
theorem dX7_way_8 : decode cX7_way 8 = .ok (.aload_n 0, 1) := by decide +kernel
theorem dX7_way_9 : decode cX7_way 9 = .ok (.iload_n 2, 1) := by decide +kernel
theorem dX7_way_10 : decode cX7_way 10 = .ok (.invokevirtual 86, 3) := by decide +kernel
theorem dX7_way_13 : decode cX7_way 13 = .ok (.ifCond .eq 17, 3) := by decide +kernel
theorem dX7_way_16 : decode cX7_way 16 = .ok (.iload_n 1, 1) := by decide +kernel
theorem dX7_way_17 : decode cX7_way 17 = .ok (.iload_n 2, 1) := by decide +kernel
theorem dX7_way_18 : decode cX7_way 18 = .ok (.if_icmp .eq 12, 3) := by decide +kernel
theorem dX7_way_21 : decode cX7_way 21 = .ok (.iload_n 3, 1) := by decide +kernel
theorem dX7_way_22 : decode cX7_way 22 = .ok (.ifCond .lt 8, 3) := by decide +kernel
theorem dX7_way_25 : decode cX7_way 25 = .ok (.iload_n 3, 1) := by decide +kernel
theorem dX7_way_26 : decode cX7_way 26 = .ok (.iconst 2, 1) := by decide +kernel
theorem dX7_way_27 : decode cX7_way 27 = .ok (.if_icmp .le 5, 3) := by decide +kernel
theorem dX7_way_30 : decode cX7_way 30 = .ok (.iconst 0, 1) := by decide +kernel
theorem dX7_way_31 : decode cX7_way 31 = .ok (.ireturn, 1) := by decide +kernel
theorem dX7_way_32 : decode cX7_way 32 = .ok (.aload_n 0, 1) := by decide +kernel
theorem dX7_way_33 : decode cX7_way 33 = .ok (.getfield 29, 3) := by decide +kernel
theorem dX7_way_36 : decode cX7_way 36 = .ok (.bipush 8, 2) := by decide +kernel
theorem dX7_way_38 : decode cX7_way 38 = .ok (.iload_n 1, 1) := by decide +kernel
theorem dX7_way_39 : decode cX7_way 39 = .ok (.imul, 1) := by decide +kernel
theorem dX7_way_40 : decode cX7_way 40 = .ok (.iload_n 2, 1) := by decide +kernel
theorem dX7_way_41 : decode cX7_way 41 = .ok (.iadd, 1) := by decide +kernel
theorem dX7_way_42 : decode cX7_way 42 = .ok (.iload_n 3, 1) := by decide +kernel
theorem dX7_way_43 : decode cX7_way 43 = .ok (.iastore, 1) := by decide +kernel
theorem dX7_way_44 : decode cX7_way 44 = .ok (.iconst 1, 1) := by decide +kernel
theorem dX7_way_45 : decode cX7_way 45 = .ok (.ireturn, 1) := by decide +kernel
theorem dX7_feed_0 : decode cX7_feed 0 = .ok (.iload_n 1, 1) := by decide +kernel
theorem dX7_feed_1 : decode cX7_feed 1 = .ok (.ifCond .lt 19, 3) := by decide +kernel
theorem dX7_feed_4 : decode cX7_feed 4 = .ok (.iload_n 1, 1) := by decide +kernel
theorem dX7_feed_5 : decode cX7_feed 5 = .ok (.sipush 255, 3) := by decide +kernel
theorem dX7_feed_8 : decode cX7_feed 8 = .ok (.if_icmp .gt 12, 3) := by decide +kernel
theorem dX7_feed_11 : decode cX7_feed 11 = .ok (.aload_n 0, 1) := by decide +kernel
theorem dX7_feed_12 : decode cX7_feed 12 = .ok (.getfield 93, 3) := by decide +kernel
theorem dX7_feed_15 : decode cX7_feed 15 = .ok (.bipush 120, 2) := by decide +kernel
theorem dX7_feed_17 : decode cX7_feed 17 = .ok (.if_icmp .ne 5, 3) := by decide +kernel
theorem dX7_feed_20 : decode cX7_feed 20 = .ok (.iconst 0, 1) := by decide +kernel
theorem dX7_feed_21 : decode cX7_feed 21 = .ok (.ireturn, 1) := by decide +kernel
theorem dX7_feed_22 : decode cX7_feed 22 = .ok (.aload_n 0, 1) := by decide +kernel
theorem dX7_feed_23 : decode cX7_feed 23 = .ok (.getfield 51, 3) := by decide +kernel
theorem dX7_feed_26 : decode cX7_feed 26 = .ok (.aload_n 0, 1) := by decide +kernel
theorem dX7_feed_27 : decode cX7_feed 27 = .ok (.getfield 93, 3) := by decide +kernel
theorem dX7_feed_30 : decode cX7_feed 30 = .ok (.iload_n 1, 1) := by decide +kernel
theorem dX7_feed_31 : decode cX7_feed 31 = .ok (.i2b, 1) := by decide +kernel
theorem dX7_feed_32 : decode cX7_feed 32 = .ok (.bastore, 1) := by decide +kernel
theorem dX7_feed_33 : decode cX7_feed 33 = .ok (.aload_n 0, 1) := by decide +kernel
theorem dX7_feed_34 : decode cX7_feed 34 = .ok (.dup, 1) := by decide +kernel
theorem dX7_feed_35 : decode cX7_feed 35 = .ok (.getfield 93, 3) := by decide +kernel
theorem dX7_feed_38 : decode cX7_feed 38 = .ok (.iconst 1, 1) := by decide +kernel
theorem dX7_feed_39 : decode cX7_feed 39 = .ok (.iadd, 1) := by decide +kernel
theorem dX7_feed_40 : decode cX7_feed 40 = .ok (.putfield 93, 3) := by decide +kernel
theorem dX7_feed_43 : decode cX7_feed 43 = .ok (.iconst 1, 1) := by decide +kernel
theorem dX7_feed_44 : decode cX7_feed 44 = .ok (.ireturn, 1) := by decide +kernel
theorem dX7_has_0 : decode cX7_has 0 = .ok (.iconst 0, 1) := by decide +kernel
theorem dX7_has_1 : decode cX7_has 1 = .ok (.istore_n 3, 1) := by decide +kernel
theorem dX7_has_2 : decode cX7_has 2 = .ok (.iconst 0, 1) := by decide +kernel
theorem dX7_has_3 : decode cX7_has 3 = .ok (.istore 4, 2) := by decide +kernel
theorem dX7_has_5 : decode cX7_has 5 = .ok (.iload 4, 2) := by decide +kernel
theorem dX7_has_7 : decode cX7_has 7 = .ok (.aload_n 0, 1) := by decide +kernel
theorem dX7_has_8 : decode cX7_has 8 = .ok (.getfield 80, 3) := by decide +kernel
theorem dX7_has_11 : decode cX7_has 11 = .ok (.if_icmp .ge 39, 3) := by decide +kernel
theorem dX7_has_14 : decode cX7_has 14 = .ok (.iload_n 3, 1) := by decide +kernel
theorem dX7_has_15 : decode cX7_has 15 = .ok (.aload_n 0, 1) := by decide +kernel
theorem dX7_has_16 : decode cX7_has 16 = .ok (.getfield 7, 3) := by decide +kernel
theorem dX7_has_19 : decode cX7_has 19 = .ok (.iload 4, 2) := by decide +kernel
theorem dX7_has_21 : decode cX7_has 21 = .ok (.iaload, 1) := by decide +kernel
theorem dX7_has_22 : decode cX7_has 22 = .ok (.iload_n 1, 1) := by decide +kernel
theorem dX7_has_23 : decode cX7_has 23 = .ok (.if_icmp .ne 18, 3) := by decide +kernel
theorem dX7_has_26 : decode cX7_has 26 = .ok (.aload_n 0, 1) := by decide +kernel
theorem dX7_has_27 : decode cX7_has 27 = .ok (.getfield 13, 3) := by decide +kernel
theorem dX7_has_30 : decode cX7_has 30 = .ok (.iload 4, 2) := by decide +kernel
theorem dX7_has_32 : decode cX7_has 32 = .ok (.iaload, 1) := by decide +kernel
theorem dX7_has_33 : decode cX7_has 33 = .ok (.iload_n 2, 1) := by decide +kernel
theorem dX7_has_34 : decode cX7_has 34 = .ok (.if_icmp .ne 7, 3) := by decide +kernel
theorem dX7_has_37 : decode cX7_has 37 = .ok (.iconst 1, 1) := by decide +kernel
theorem dX7_has_38 : decode cX7_has 38 = .ok (.goto 4, 3) := by decide +kernel
theorem dX7_has_41 : decode cX7_has 41 = .ok (.iconst 0, 1) := by decide +kernel
theorem dX7_has_42 : decode cX7_has 42 = .ok (.ior, 1) := by decide +kernel
theorem dX7_has_43 : decode cX7_has 43 = .ok (.istore_n 3, 1) := by decide +kernel
theorem dX7_has_44 : decode cX7_has 44 = .ok (.iinc 4 1, 3) := by decide +kernel
theorem dX7_has_47 : decode cX7_has 47 = .ok (.goto (-42), 3) := by decide +kernel
theorem dX7_has_50 : decode cX7_has 50 = .ok (.iload_n 3, 1) := by decide +kernel
theorem dX7_has_51 : decode cX7_has 51 = .ok (.ireturn, 1) := by decide +kernel
theorem dX7_find_0 : decode cX7_find 0 = .ok (.bipush 24, 2) := by decide +kernel
theorem dX7_find_2 : decode cX7_find 2 = .ok (.iload_n 1, 1) := by decide +kernel
theorem dX7_find_3 : decode cX7_find 3 = .ok (.imul, 1) := by decide +kernel
theorem dX7_find_4 : decode cX7_find 4 = .ok (.istore 5, 2) := by decide +kernel
theorem dX7_find_6 : decode cX7_find 6 = .ok (.iload 5, 2) := by decide +kernel
theorem dX7_find_8 : decode cX7_find 8 = .ok (.bipush 24, 2) := by decide +kernel
theorem dX7_find_10 : decode cX7_find 10 = .ok (.iload_n 1, 1) := by decide +kernel
theorem dX7_find_11 : decode cX7_find 11 = .ok (.imul, 1) := by decide +kernel
theorem dX7_find_12 : decode cX7_find 12 = .ok (.aload_n 0, 1) := by decide +kernel
theorem dX7_find_13 : decode cX7_find 13 = .ok (.getfield 35, 3) := by decide +kernel
theorem dX7_find_16 : decode cX7_find 16 = .ok (.iload_n 1, 1) := by decide +kernel
theorem dX7_find_17 : decode cX7_find 17 = .ok (.iaload, 1) := by decide +kernel
theorem dX7_find_18 : decode cX7_find 18 = .ok (.iadd, 1) := by decide +kernel
theorem dX7_find_19 : decode cX7_find 19 = .ok (.if_icmp .ge 35, 3) := by decide +kernel
theorem dX7_find_22 : decode cX7_find 22 = .ok (.aload_n 0, 1) := by decide +kernel
theorem dX7_find_23 : decode cX7_find 23 = .ok (.getfield 38, 3) := by decide +kernel
theorem dX7_find_26 : decode cX7_find 26 = .ok (.iload 5, 2) := by decide +kernel
theorem dX7_find_28 : decode cX7_find 28 = .ok (.iaload, 1) := by decide +kernel
theorem dX7_find_29 : decode cX7_find 29 = .ok (.iload_n 2, 1) := by decide +kernel
theorem dX7_find_30 : decode cX7_find 30 = .ok (.if_icmp .ne 18, 3) := by decide +kernel
theorem dX7_find_33 : decode cX7_find 33 = .ok (.aload_n 0, 1) := by decide +kernel
theorem dX7_find_34 : decode cX7_find 34 = .ok (.getfield 41, 3) := by decide +kernel
theorem dX7_find_37 : decode cX7_find 37 = .ok (.iload 5, 2) := by decide +kernel
theorem dX7_find_39 : decode cX7_find 39 = .ok (.laload, 1) := by decide +kernel
theorem dX7_find_40 : decode cX7_find 40 = .ok (.lload_n 3, 1) := by decide +kernel
theorem dX7_find_41 : decode cX7_find 41 = .ok (.lcmp, 1) := by decide +kernel
theorem dX7_find_42 : decode cX7_find 42 = .ok (.ifCond .ne 6, 3) := by decide +kernel
theorem dX7_find_45 : decode cX7_find 45 = .ok (.iload 5, 2) := by decide +kernel
theorem dX7_find_47 : decode cX7_find 47 = .ok (.ireturn, 1) := by decide +kernel
theorem dX7_find_48 : decode cX7_find 48 = .ok (.iinc 5 1, 3) := by decide +kernel
theorem dX7_find_51 : decode cX7_find 51 = .ok (.goto (-45), 3) := by decide +kernel
theorem dX7_find_54 : decode cX7_find 54 = .ok (.iconst (-1), 1) := by decide +kernel
theorem dX7_find_55 : decode cX7_find 55 = .ok (.ireturn, 1) := by decide +kernel
theorem dX7_remove_0 : decode cX7_remove 0 = .ok (.aload_n 0, 1) := by decide +kernel
theorem dX7_remove_1 : decode cX7_remove 1 = .ok (.getfield 35, 3) := by decide +kernel
theorem dX7_remove_4 : decode cX7_remove 4 = .ok (.iload_n 1, 1) := by decide +kernel
theorem dX7_remove_5 : decode cX7_remove 5 = .ok (.dup2, 1) := by decide +kernel
theorem dX7_remove_6 : decode cX7_remove 6 = .ok (.iaload, 1) := by decide +kernel
theorem dX7_remove_7 : decode cX7_remove 7 = .ok (.iconst 1, 1) := by decide +kernel
theorem dX7_remove_8 : decode cX7_remove 8 = .ok (.isub, 1) := by decide +kernel
theorem dX7_remove_9 : decode cX7_remove 9 = .ok (.iastore, 1) := by decide +kernel
theorem dX7_remove_10 : decode cX7_remove 10 = .ok (.iload_n 2, 1) := by decide +kernel
theorem dX7_remove_11 : decode cX7_remove 11 = .ok (.istore_n 3, 1) := by decide +kernel
theorem dX7_remove_12 : decode cX7_remove 12 = .ok (.iload_n 3, 1) := by decide +kernel
theorem dX7_remove_13 : decode cX7_remove 13 = .ok (.bipush 24, 2) := by decide +kernel
theorem dX7_remove_15 : decode cX7_remove 15 = .ok (.iload_n 1, 1) := by decide +kernel
theorem dX7_remove_16 : decode cX7_remove 16 = .ok (.imul, 1) := by decide +kernel
theorem dX7_remove_17 : decode cX7_remove 17 = .ok (.aload_n 0, 1) := by decide +kernel
theorem dX7_remove_18 : decode cX7_remove 18 = .ok (.getfield 35, 3) := by decide +kernel
theorem dX7_remove_21 : decode cX7_remove 21 = .ok (.iload_n 1, 1) := by decide +kernel
theorem dX7_remove_22 : decode cX7_remove 22 = .ok (.iaload, 1) := by decide +kernel
theorem dX7_remove_23 : decode cX7_remove 23 = .ok (.iadd, 1) := by decide +kernel
theorem dX7_remove_24 : decode cX7_remove 24 = .ok (.if_icmp .ge 65, 3) := by decide +kernel
theorem dX7_remove_27 : decode cX7_remove 27 = .ok (.aload_n 0, 1) := by decide +kernel
theorem dX7_remove_28 : decode cX7_remove 28 = .ok (.getfield 38, 3) := by decide +kernel
theorem dX7_remove_31 : decode cX7_remove 31 = .ok (.iload_n 3, 1) := by decide +kernel
theorem dX7_remove_32 : decode cX7_remove 32 = .ok (.aload_n 0, 1) := by decide +kernel
theorem dX7_remove_33 : decode cX7_remove 33 = .ok (.getfield 38, 3) := by decide +kernel
theorem dX7_remove_36 : decode cX7_remove 36 = .ok (.iload_n 3, 1) := by decide +kernel
theorem dX7_remove_37 : decode cX7_remove 37 = .ok (.iconst 1, 1) := by decide +kernel
theorem dX7_remove_38 : decode cX7_remove 38 = .ok (.iadd, 1) := by decide +kernel
theorem dX7_remove_39 : decode cX7_remove 39 = .ok (.iaload, 1) := by decide +kernel
theorem dX7_remove_40 : decode cX7_remove 40 = .ok (.iastore, 1) := by decide +kernel
theorem dX7_remove_41 : decode cX7_remove 41 = .ok (.aload_n 0, 1) := by decide +kernel
theorem dX7_remove_42 : decode cX7_remove 42 = .ok (.getfield 41, 3) := by decide +kernel
theorem dX7_remove_45 : decode cX7_remove 45 = .ok (.iload_n 3, 1) := by decide +kernel
theorem dX7_remove_46 : decode cX7_remove 46 = .ok (.aload_n 0, 1) := by decide +kernel
theorem dX7_remove_47 : decode cX7_remove 47 = .ok (.getfield 41, 3) := by decide +kernel
theorem dX7_remove_50 : decode cX7_remove 50 = .ok (.iload_n 3, 1) := by decide +kernel
theorem dX7_remove_51 : decode cX7_remove 51 = .ok (.iconst 1, 1) := by decide +kernel
theorem dX7_remove_52 : decode cX7_remove 52 = .ok (.iadd, 1) := by decide +kernel
theorem dX7_remove_53 : decode cX7_remove 53 = .ok (.laload, 1) := by decide +kernel
theorem dX7_remove_54 : decode cX7_remove 54 = .ok (.lastore, 1) := by decide +kernel
theorem dX7_remove_55 : decode cX7_remove 55 = .ok (.aload_n 0, 1) := by decide +kernel
theorem dX7_remove_56 : decode cX7_remove 56 = .ok (.getfield 45, 3) := by decide +kernel
theorem dX7_remove_59 : decode cX7_remove 59 = .ok (.iload_n 3, 1) := by decide +kernel
theorem dX7_remove_60 : decode cX7_remove 60 = .ok (.aload_n 0, 1) := by decide +kernel
theorem dX7_remove_61 : decode cX7_remove 61 = .ok (.getfield 45, 3) := by decide +kernel
theorem dX7_remove_64 : decode cX7_remove 64 = .ok (.iload_n 3, 1) := by decide +kernel
theorem dX7_remove_65 : decode cX7_remove 65 = .ok (.iconst 1, 1) := by decide +kernel
theorem dX7_remove_66 : decode cX7_remove 66 = .ok (.iadd, 1) := by decide +kernel
theorem dX7_remove_67 : decode cX7_remove 67 = .ok (.iaload, 1) := by decide +kernel
theorem dX7_remove_68 : decode cX7_remove 68 = .ok (.iastore, 1) := by decide +kernel
theorem dX7_remove_69 : decode cX7_remove 69 = .ok (.aload_n 0, 1) := by decide +kernel
theorem dX7_remove_70 : decode cX7_remove 70 = .ok (.getfield 48, 3) := by decide +kernel
theorem dX7_remove_73 : decode cX7_remove 73 = .ok (.iload_n 3, 1) := by decide +kernel
theorem dX7_remove_74 : decode cX7_remove 74 = .ok (.aload_n 0, 1) := by decide +kernel
theorem dX7_remove_75 : decode cX7_remove 75 = .ok (.getfield 48, 3) := by decide +kernel
theorem dX7_remove_78 : decode cX7_remove 78 = .ok (.iload_n 3, 1) := by decide +kernel
theorem dX7_remove_79 : decode cX7_remove 79 = .ok (.iconst 1, 1) := by decide +kernel
theorem dX7_remove_80 : decode cX7_remove 80 = .ok (.iadd, 1) := by decide +kernel
theorem dX7_remove_81 : decode cX7_remove 81 = .ok (.laload, 1) := by decide +kernel
theorem dX7_remove_82 : decode cX7_remove 82 = .ok (.lastore, 1) := by decide +kernel
theorem dX7_remove_83 : decode cX7_remove 83 = .ok (.iinc 3 1, 3) := by decide +kernel
theorem dX7_remove_86 : decode cX7_remove 86 = .ok (.goto (-74), 3) := by decide +kernel
theorem dX7_remove_89 : decode cX7_remove 89 = .ok (.return_, 1) := by decide +kernel
theorem dX7_learn_0 : decode cX7_learn 0 = .ok (.aload_n 0, 1) := by decide +kernel
theorem dX7_learn_1 : decode cX7_learn 1 = .ok (.iload_n 1, 1) := by decide +kernel
theorem dX7_learn_2 : decode cX7_learn 2 = .ok (.iload_n 2, 1) := by decide +kernel
theorem dX7_learn_3 : decode cX7_learn 3 = .ok (.lload_n 3, 1) := by decide +kernel
theorem dX7_learn_4 : decode cX7_learn 4 = .ok (.invokevirtual 96, 3) := by decide +kernel
theorem dX7_learn_7 : decode cX7_learn 7 = .ok (.istore 6, 2) := by decide +kernel
theorem dX7_learn_9 : decode cX7_learn 9 = .ok (.iload 6, 2) := by decide +kernel
theorem dX7_learn_11 : decode cX7_learn 11 = .ok (.ifCond .lt 24, 3) := by decide +kernel
theorem dX7_learn_14 : decode cX7_learn 14 = .ok (.aload_n 0, 1) := by decide +kernel
theorem dX7_learn_15 : decode cX7_learn 15 = .ok (.getfield 45, 3) := by decide +kernel
theorem dX7_learn_18 : decode cX7_learn 18 = .ok (.iload 6, 2) := by decide +kernel
theorem dX7_learn_20 : decode cX7_learn 20 = .ok (.iaload, 1) := by decide +kernel
theorem dX7_learn_21 : decode cX7_learn 21 = .ok (.iload 5, 2) := by decide +kernel
theorem dX7_learn_23 : decode cX7_learn 23 = .ok (.if_icmp .ne 12, 3) := by decide +kernel
theorem dX7_learn_26 : decode cX7_learn 26 = .ok (.aload_n 0, 1) := by decide +kernel
theorem dX7_learn_27 : decode cX7_learn 27 = .ok (.getfield 48, 3) := by decide +kernel
theorem dX7_learn_30 : decode cX7_learn 30 = .ok (.iload 6, 2) := by decide +kernel
theorem dX7_learn_32 : decode cX7_learn 32 = .ok (.lconst 0, 1) := by decide +kernel
theorem dX7_learn_33 : decode cX7_learn 33 = .ok (.lastore, 1) := by decide +kernel
theorem dX7_learn_34 : decode cX7_learn 34 = .ok (.return_, 1) := by decide +kernel
theorem dX7_learn_35 : decode cX7_learn 35 = .ok (.iload 6, 2) := by decide +kernel
theorem dX7_learn_37 : decode cX7_learn 37 = .ok (.ifCond .lt 10, 3) := by decide +kernel
theorem dX7_learn_40 : decode cX7_learn 40 = .ok (.aload_n 0, 1) := by decide +kernel
theorem dX7_learn_41 : decode cX7_learn 41 = .ok (.iload_n 1, 1) := by decide +kernel
theorem dX7_learn_42 : decode cX7_learn 42 = .ok (.iload 6, 2) := by decide +kernel
theorem dX7_learn_44 : decode cX7_learn 44 = .ok (.invokevirtual 100, 3) := by decide +kernel
theorem dX7_learn_47 : decode cX7_learn 47 = .ok (.aload_n 0, 1) := by decide +kernel
theorem dX7_learn_48 : decode cX7_learn 48 = .ok (.getfield 35, 3) := by decide +kernel
theorem dX7_learn_51 : decode cX7_learn 51 = .ok (.iload_n 1, 1) := by decide +kernel
theorem dX7_learn_52 : decode cX7_learn 52 = .ok (.iaload, 1) := by decide +kernel
theorem dX7_learn_53 : decode cX7_learn 53 = .ok (.bipush 24, 2) := by decide +kernel
theorem dX7_learn_55 : decode cX7_learn 55 = .ok (.if_icmp .ne 78, 3) := by decide +kernel
theorem dX7_learn_58 : decode cX7_learn 58 = .ok (.bipush 24, 2) := by decide +kernel
theorem dX7_learn_60 : decode cX7_learn 60 = .ok (.iload_n 1, 1) := by decide +kernel
theorem dX7_learn_61 : decode cX7_learn 61 = .ok (.imul, 1) := by decide +kernel
theorem dX7_learn_62 : decode cX7_learn 62 = .ok (.istore 7, 2) := by decide +kernel
theorem dX7_learn_64 : decode cX7_learn 64 = .ok (.bipush 24, 2) := by decide +kernel
theorem dX7_learn_66 : decode cX7_learn 66 = .ok (.iload_n 1, 1) := by decide +kernel
theorem dX7_learn_67 : decode cX7_learn 67 = .ok (.imul, 1) := by decide +kernel
theorem dX7_learn_68 : decode cX7_learn 68 = .ok (.istore 8, 2) := by decide +kernel
theorem dX7_learn_70 : decode cX7_learn 70 = .ok (.iload 8, 2) := by decide +kernel
theorem dX7_learn_72 : decode cX7_learn 72 = .ok (.bipush 24, 2) := by decide +kernel
theorem dX7_learn_74 : decode cX7_learn 74 = .ok (.iload_n 1, 1) := by decide +kernel
theorem dX7_learn_75 : decode cX7_learn 75 = .ok (.imul, 1) := by decide +kernel
theorem dX7_learn_76 : decode cX7_learn 76 = .ok (.bipush 24, 2) := by decide +kernel
theorem dX7_learn_78 : decode cX7_learn 78 = .ok (.iadd, 1) := by decide +kernel
theorem dX7_learn_79 : decode cX7_learn 79 = .ok (.if_icmp .ge 36, 3) := by decide +kernel
theorem dX7_learn_82 : decode cX7_learn 82 = .ok (.aload_n 0, 1) := by decide +kernel
theorem dX7_learn_83 : decode cX7_learn 83 = .ok (.getfield 48, 3) := by decide +kernel
theorem dX7_learn_86 : decode cX7_learn 86 = .ok (.iload 8, 2) := by decide +kernel
theorem dX7_learn_88 : decode cX7_learn 88 = .ok (.laload, 1) := by decide +kernel
theorem dX7_learn_89 : decode cX7_learn 89 = .ok (.aload_n 0, 1) := by decide +kernel
theorem dX7_learn_90 : decode cX7_learn 90 = .ok (.getfield 48, 3) := by decide +kernel
theorem dX7_learn_93 : decode cX7_learn 93 = .ok (.iload 7, 2) := by decide +kernel
theorem dX7_learn_95 : decode cX7_learn 95 = .ok (.laload, 1) := by decide +kernel
theorem dX7_learn_96 : decode cX7_learn 96 = .ok (.lcmp, 1) := by decide +kernel
theorem dX7_learn_97 : decode cX7_learn 97 = .ok (.ifCond .le 8, 3) := by decide +kernel
theorem dX7_learn_100 : decode cX7_learn 100 = .ok (.iload 8, 2) := by decide +kernel
theorem dX7_learn_102 : decode cX7_learn 102 = .ok (.goto 5, 3) := by decide +kernel
theorem dX7_learn_105 : decode cX7_learn 105 = .ok (.iload 7, 2) := by decide +kernel
theorem dX7_learn_107 : decode cX7_learn 107 = .ok (.istore 7, 2) := by decide +kernel
theorem dX7_learn_109 : decode cX7_learn 109 = .ok (.iinc 8 1, 3) := by decide +kernel
theorem dX7_learn_112 : decode cX7_learn 112 = .ok (.goto (-42), 3) := by decide +kernel
theorem dX7_learn_115 : decode cX7_learn 115 = .ok (.aload_n 0, 1) := by decide +kernel
theorem dX7_learn_116 : decode cX7_learn 116 = .ok (.iload_n 1, 1) := by decide +kernel
theorem dX7_learn_117 : decode cX7_learn 117 = .ok (.iload 7, 2) := by decide +kernel
theorem dX7_learn_119 : decode cX7_learn 119 = .ok (.invokevirtual 100, 3) := by decide +kernel
theorem dX7_learn_122 : decode cX7_learn 122 = .ok (.aload_n 0, 1) := by decide +kernel
theorem dX7_learn_123 : decode cX7_learn 123 = .ok (.getfield 63, 3) := by decide +kernel
theorem dX7_learn_126 : decode cX7_learn 126 = .ok (.bipush 12, 2) := by decide +kernel
theorem dX7_learn_128 : decode cX7_learn 128 = .ok (.dup2, 1) := by decide +kernel
theorem dX7_learn_129 : decode cX7_learn 129 = .ok (.iaload, 1) := by decide +kernel
theorem dX7_learn_130 : decode cX7_learn 130 = .ok (.iconst 1, 1) := by decide +kernel
theorem dX7_learn_131 : decode cX7_learn 131 = .ok (.iadd, 1) := by decide +kernel
theorem dX7_learn_132 : decode cX7_learn 132 = .ok (.iastore, 1) := by decide +kernel
theorem dX7_learn_133 : decode cX7_learn 133 = .ok (.bipush 24, 2) := by decide +kernel
theorem dX7_learn_135 : decode cX7_learn 135 = .ok (.iload_n 1, 1) := by decide +kernel
theorem dX7_learn_136 : decode cX7_learn 136 = .ok (.imul, 1) := by decide +kernel
theorem dX7_learn_137 : decode cX7_learn 137 = .ok (.aload_n 0, 1) := by decide +kernel
theorem dX7_learn_138 : decode cX7_learn 138 = .ok (.getfield 35, 3) := by decide +kernel
theorem dX7_learn_141 : decode cX7_learn 141 = .ok (.iload_n 1, 1) := by decide +kernel
theorem dX7_learn_142 : decode cX7_learn 142 = .ok (.iaload, 1) := by decide +kernel
theorem dX7_learn_143 : decode cX7_learn 143 = .ok (.iadd, 1) := by decide +kernel
theorem dX7_learn_144 : decode cX7_learn 144 = .ok (.istore 6, 2) := by decide +kernel
theorem dX7_learn_146 : decode cX7_learn 146 = .ok (.aload_n 0, 1) := by decide +kernel
theorem dX7_learn_147 : decode cX7_learn 147 = .ok (.getfield 38, 3) := by decide +kernel
theorem dX7_learn_150 : decode cX7_learn 150 = .ok (.iload 6, 2) := by decide +kernel
theorem dX7_learn_152 : decode cX7_learn 152 = .ok (.iload_n 2, 1) := by decide +kernel
theorem dX7_learn_153 : decode cX7_learn 153 = .ok (.iastore, 1) := by decide +kernel
theorem dX7_learn_154 : decode cX7_learn 154 = .ok (.aload_n 0, 1) := by decide +kernel
theorem dX7_learn_155 : decode cX7_learn 155 = .ok (.getfield 41, 3) := by decide +kernel
theorem dX7_learn_158 : decode cX7_learn 158 = .ok (.iload 6, 2) := by decide +kernel
theorem dX7_learn_160 : decode cX7_learn 160 = .ok (.lload_n 3, 1) := by decide +kernel
theorem dX7_learn_161 : decode cX7_learn 161 = .ok (.lastore, 1) := by decide +kernel
theorem dX7_learn_162 : decode cX7_learn 162 = .ok (.aload_n 0, 1) := by decide +kernel
theorem dX7_learn_163 : decode cX7_learn 163 = .ok (.getfield 45, 3) := by decide +kernel
theorem dX7_learn_166 : decode cX7_learn 166 = .ok (.iload 6, 2) := by decide +kernel
theorem dX7_learn_168 : decode cX7_learn 168 = .ok (.iload 5, 2) := by decide +kernel
theorem dX7_learn_170 : decode cX7_learn 170 = .ok (.iastore, 1) := by decide +kernel
theorem dX7_learn_171 : decode cX7_learn 171 = .ok (.aload_n 0, 1) := by decide +kernel
theorem dX7_learn_172 : decode cX7_learn 172 = .ok (.getfield 48, 3) := by decide +kernel
theorem dX7_learn_175 : decode cX7_learn 175 = .ok (.iload 6, 2) := by decide +kernel
theorem dX7_learn_177 : decode cX7_learn 177 = .ok (.lconst 0, 1) := by decide +kernel
theorem dX7_learn_178 : decode cX7_learn 178 = .ok (.lastore, 1) := by decide +kernel
theorem dX7_learn_179 : decode cX7_learn 179 = .ok (.aload_n 0, 1) := by decide +kernel
theorem dX7_learn_180 : decode cX7_learn 180 = .ok (.getfield 35, 3) := by decide +kernel
theorem dX7_learn_183 : decode cX7_learn 183 = .ok (.iload_n 1, 1) := by decide +kernel
theorem dX7_learn_184 : decode cX7_learn 184 = .ok (.dup2, 1) := by decide +kernel
theorem dX7_learn_185 : decode cX7_learn 185 = .ok (.iaload, 1) := by decide +kernel
theorem dX7_learn_186 : decode cX7_learn 186 = .ok (.iconst 1, 1) := by decide +kernel
theorem dX7_learn_187 : decode cX7_learn 187 = .ok (.iadd, 1) := by decide +kernel
theorem dX7_learn_188 : decode cX7_learn 188 = .ok (.iastore, 1) := by decide +kernel
theorem dX7_learn_189 : decode cX7_learn 189 = .ok (.aload_n 0, 1) := by decide +kernel
theorem dX7_learn_190 : decode cX7_learn 190 = .ok (.getfield 63, 3) := by decide +kernel
theorem dX7_learn_193 : decode cX7_learn 193 = .ok (.bipush 11, 2) := by decide +kernel
theorem dX7_learn_195 : decode cX7_learn 195 = .ok (.dup2, 1) := by decide +kernel
theorem dX7_learn_196 : decode cX7_learn 196 = .ok (.iaload, 1) := by decide +kernel
theorem dX7_learn_197 : decode cX7_learn 197 = .ok (.iconst 1, 1) := by decide +kernel
theorem dX7_learn_198 : decode cX7_learn 198 = .ok (.iadd, 1) := by decide +kernel
theorem dX7_learn_199 : decode cX7_learn 199 = .ok (.iastore, 1) := by decide +kernel
theorem dX7_learn_200 : decode cX7_learn 200 = .ok (.return_, 1) := by decide +kernel
theorem dX7_macAt_0 : decode cX7_macAt 0 = .ok (.lconst 0, 1) := by decide +kernel
theorem dX7_macAt_1 : decode cX7_macAt 1 = .ok (.lstore_n 3, 1) := by decide +kernel
theorem dX7_macAt_2 : decode cX7_macAt 2 = .ok (.iload_n 2, 1) := by decide +kernel
theorem dX7_macAt_3 : decode cX7_macAt 3 = .ok (.istore 5, 2) := by decide +kernel
theorem dX7_macAt_5 : decode cX7_macAt 5 = .ok (.iload 5, 2) := by decide +kernel
theorem dX7_macAt_7 : decode cX7_macAt 7 = .ok (.iload_n 2, 1) := by decide +kernel
theorem dX7_macAt_8 : decode cX7_macAt 8 = .ok (.bipush 6, 2) := by decide +kernel
theorem dX7_macAt_10 : decode cX7_macAt 10 = .ok (.iadd, 1) := by decide +kernel
theorem dX7_macAt_11 : decode cX7_macAt 11 = .ok (.if_icmp .ge 24, 3) := by decide +kernel
theorem dX7_macAt_14 : decode cX7_macAt 14 = .ok (.lload_n 3, 1) := by decide +kernel
theorem dX7_macAt_15 : decode cX7_macAt 15 = .ok (.bipush 8, 2) := by decide +kernel
theorem dX7_macAt_17 : decode cX7_macAt 17 = .ok (.lshl, 1) := by decide +kernel
theorem dX7_macAt_18 : decode cX7_macAt 18 = .ok (.aload_n 1, 1) := by decide +kernel
theorem dX7_macAt_19 : decode cX7_macAt 19 = .ok (.iload 5, 2) := by decide +kernel
theorem dX7_macAt_21 : decode cX7_macAt 21 = .ok (.baload, 1) := by decide +kernel
theorem dX7_macAt_22 : decode cX7_macAt 22 = .ok (.sipush 255, 3) := by decide +kernel
theorem dX7_macAt_25 : decode cX7_macAt 25 = .ok (.iand, 1) := by decide +kernel
theorem dX7_macAt_26 : decode cX7_macAt 26 = .ok (.i2l, 1) := by decide +kernel
theorem dX7_macAt_27 : decode cX7_macAt 27 = .ok (.lor, 1) := by decide +kernel
theorem dX7_macAt_28 : decode cX7_macAt 28 = .ok (.lstore_n 3, 1) := by decide +kernel
theorem dX7_macAt_29 : decode cX7_macAt 29 = .ok (.iinc 5 1, 3) := by decide +kernel
theorem dX7_macAt_32 : decode cX7_macAt 32 = .ok (.goto (-27), 3) := by decide +kernel
theorem dX7_macAt_35 : decode cX7_macAt 35 = .ok (.lload_n 3, 1) := by decide +kernel
theorem dX7_macAt_36 : decode cX7_macAt 36 = .ok (.lreturn, 1) := by decide +kernel
theorem dX7_comesTo_0 : decode cX7_comesTo 0 = .ok (.aload_n 0, 1) := by decide +kernel
theorem dX7_comesTo_1 : decode cX7_comesTo 1 = .ok (.getfield 19, 3) := by decide +kernel
theorem dX7_comesTo_4 : decode cX7_comesTo 4 = .ok (.iload_n 1, 1) := by decide +kernel
theorem dX7_comesTo_5 : decode cX7_comesTo 5 = .ok (.dup2, 1) := by decide +kernel
theorem dX7_comesTo_6 : decode cX7_comesTo 6 = .ok (.iaload, 1) := by decide +kernel
theorem dX7_comesTo_7 : decode cX7_comesTo 7 = .ok (.iconst 1, 1) := by decide +kernel
theorem dX7_comesTo_8 : decode cX7_comesTo 8 = .ok (.iadd, 1) := by decide +kernel
theorem dX7_comesTo_9 : decode cX7_comesTo 9 = .ok (.iastore, 1) := by decide +kernel
theorem dX7_comesTo_10 : decode cX7_comesTo 10 = .ok (.iconst 5, 1) := by decide +kernel
theorem dX7_comesTo_11 : decode cX7_comesTo 11 = .ok (.istore_n 2, 1) := by decide +kernel
theorem dX7_comesTo_12 : decode cX7_comesTo 12 = .ok (.iload_n 2, 1) := by decide +kernel
theorem dX7_comesTo_13 : decode cX7_comesTo 13 = .ok (.ifCond .le 72, 3) := by decide +kernel
theorem dX7_comesTo_16 : decode cX7_comesTo 16 = .ok (.bipush 6, 2) := by decide +kernel
theorem dX7_comesTo_18 : decode cX7_comesTo 18 = .ok (.iload_n 1, 1) := by decide +kernel
theorem dX7_comesTo_19 : decode cX7_comesTo 19 = .ok (.imul, 1) := by decide +kernel
theorem dX7_comesTo_20 : decode cX7_comesTo 20 = .ok (.iload_n 2, 1) := by decide +kernel
theorem dX7_comesTo_21 : decode cX7_comesTo 21 = .ok (.iadd, 1) := by decide +kernel
theorem dX7_comesTo_22 : decode cX7_comesTo 22 = .ok (.istore_n 3, 1) := by decide +kernel
theorem dX7_comesTo_23 : decode cX7_comesTo 23 = .ok (.aload_n 0, 1) := by decide +kernel
theorem dX7_comesTo_24 : decode cX7_comesTo 24 = .ok (.getfield 26, 3) := by decide +kernel
theorem dX7_comesTo_27 : decode cX7_comesTo 27 = .ok (.iload_n 3, 1) := by decide +kernel
theorem dX7_comesTo_28 : decode cX7_comesTo 28 = .ok (.aload_n 0, 1) := by decide +kernel
theorem dX7_comesTo_29 : decode cX7_comesTo 29 = .ok (.getfield 26, 3) := by decide +kernel
theorem dX7_comesTo_32 : decode cX7_comesTo 32 = .ok (.iload_n 3, 1) := by decide +kernel
theorem dX7_comesTo_33 : decode cX7_comesTo 33 = .ok (.iconst 1, 1) := by decide +kernel
theorem dX7_comesTo_34 : decode cX7_comesTo 34 = .ok (.isub, 1) := by decide +kernel
theorem dX7_comesTo_35 : decode cX7_comesTo 35 = .ok (.iaload, 1) := by decide +kernel
theorem dX7_comesTo_36 : decode cX7_comesTo 36 = .ok (.iastore, 1) := by decide +kernel
theorem dX7_comesTo_37 : decode cX7_comesTo 37 = .ok (.iconst 0, 1) := by decide +kernel
theorem dX7_comesTo_38 : decode cX7_comesTo 38 = .ok (.istore 4, 2) := by decide +kernel
theorem dX7_comesTo_40 : decode cX7_comesTo 40 = .ok (.iload 4, 2) := by decide +kernel
theorem dX7_comesTo_42 : decode cX7_comesTo 42 = .ok (.bipush 120, 2) := by decide +kernel
theorem dX7_comesTo_44 : decode cX7_comesTo 44 = .ok (.if_icmp .ge 35, 3) := by decide +kernel
theorem dX7_comesTo_47 : decode cX7_comesTo 47 = .ok (.aload_n 0, 1) := by decide +kernel
theorem dX7_comesTo_48 : decode cX7_comesTo 48 = .ok (.getfield 22, 3) := by decide +kernel
theorem dX7_comesTo_51 : decode cX7_comesTo 51 = .ok (.bipush 120, 2) := by decide +kernel
theorem dX7_comesTo_53 : decode cX7_comesTo 53 = .ok (.iload_n 3, 1) := by decide +kernel
theorem dX7_comesTo_54 : decode cX7_comesTo 54 = .ok (.imul, 1) := by decide +kernel
theorem dX7_comesTo_55 : decode cX7_comesTo 55 = .ok (.iload 4, 2) := by decide +kernel
theorem dX7_comesTo_57 : decode cX7_comesTo 57 = .ok (.iadd, 1) := by decide +kernel
theorem dX7_comesTo_58 : decode cX7_comesTo 58 = .ok (.aload_n 0, 1) := by decide +kernel
theorem dX7_comesTo_59 : decode cX7_comesTo 59 = .ok (.getfield 22, 3) := by decide +kernel
theorem dX7_comesTo_62 : decode cX7_comesTo 62 = .ok (.bipush 120, 2) := by decide +kernel
theorem dX7_comesTo_64 : decode cX7_comesTo 64 = .ok (.iload_n 3, 1) := by decide +kernel
theorem dX7_comesTo_65 : decode cX7_comesTo 65 = .ok (.iconst 1, 1) := by decide +kernel
theorem dX7_comesTo_66 : decode cX7_comesTo 66 = .ok (.isub, 1) := by decide +kernel
theorem dX7_comesTo_67 : decode cX7_comesTo 67 = .ok (.imul, 1) := by decide +kernel
theorem dX7_comesTo_68 : decode cX7_comesTo 68 = .ok (.iload 4, 2) := by decide +kernel
theorem dX7_comesTo_70 : decode cX7_comesTo 70 = .ok (.iadd, 1) := by decide +kernel
theorem dX7_comesTo_71 : decode cX7_comesTo 71 = .ok (.baload, 1) := by decide +kernel
theorem dX7_comesTo_72 : decode cX7_comesTo 72 = .ok (.bastore, 1) := by decide +kernel
theorem dX7_comesTo_73 : decode cX7_comesTo 73 = .ok (.iinc 4 1, 3) := by decide +kernel
theorem dX7_comesTo_76 : decode cX7_comesTo 76 = .ok (.goto (-36), 3) := by decide +kernel
theorem dX7_comesTo_79 : decode cX7_comesTo 79 = .ok (.iinc 2 (-1), 3) := by decide +kernel
theorem dX7_comesTo_82 : decode cX7_comesTo 82 = .ok (.goto (-70), 3) := by decide +kernel
theorem dX7_comesTo_85 : decode cX7_comesTo 85 = .ok (.aload_n 0, 1) := by decide +kernel
theorem dX7_comesTo_86 : decode cX7_comesTo 86 = .ok (.getfield 26, 3) := by decide +kernel
theorem dX7_comesTo_89 : decode cX7_comesTo 89 = .ok (.bipush 6, 2) := by decide +kernel
theorem dX7_comesTo_91 : decode cX7_comesTo 91 = .ok (.iload_n 1, 1) := by decide +kernel
theorem dX7_comesTo_92 : decode cX7_comesTo 92 = .ok (.imul, 1) := by decide +kernel
theorem dX7_comesTo_93 : decode cX7_comesTo 93 = .ok (.aload_n 0, 1) := by decide +kernel
theorem dX7_comesTo_94 : decode cX7_comesTo 94 = .ok (.getfield 104, 3) := by decide +kernel
theorem dX7_comesTo_97 : decode cX7_comesTo 97 = .ok (.iastore, 1) := by decide +kernel
theorem dX7_comesTo_98 : decode cX7_comesTo 98 = .ok (.iconst 0, 1) := by decide +kernel
theorem dX7_comesTo_99 : decode cX7_comesTo 99 = .ok (.istore_n 2, 1) := by decide +kernel
theorem dX7_comesTo_100 : decode cX7_comesTo 100 = .ok (.iload_n 2, 1) := by decide +kernel
theorem dX7_comesTo_101 : decode cX7_comesTo 101 = .ok (.aload_n 0, 1) := by decide +kernel
theorem dX7_comesTo_102 : decode cX7_comesTo 102 = .ok (.getfield 104, 3) := by decide +kernel
theorem dX7_comesTo_105 : decode cX7_comesTo 105 = .ok (.if_icmp .ge 27, 3) := by decide +kernel
theorem dX7_comesTo_108 : decode cX7_comesTo 108 = .ok (.aload_n 0, 1) := by decide +kernel
theorem dX7_comesTo_109 : decode cX7_comesTo 109 = .ok (.getfield 22, 3) := by decide +kernel
theorem dX7_comesTo_112 : decode cX7_comesTo 112 = .ok (.sipush 720, 3) := by decide +kernel
theorem dX7_comesTo_115 : decode cX7_comesTo 115 = .ok (.iload_n 1, 1) := by decide +kernel
theorem dX7_comesTo_116 : decode cX7_comesTo 116 = .ok (.imul, 1) := by decide +kernel
theorem dX7_comesTo_117 : decode cX7_comesTo 117 = .ok (.iload_n 2, 1) := by decide +kernel
theorem dX7_comesTo_118 : decode cX7_comesTo 118 = .ok (.iadd, 1) := by decide +kernel
theorem dX7_comesTo_119 : decode cX7_comesTo 119 = .ok (.aload_n 0, 1) := by decide +kernel
theorem dX7_comesTo_120 : decode cX7_comesTo 120 = .ok (.getfield 69, 3) := by decide +kernel
theorem dX7_comesTo_123 : decode cX7_comesTo 123 = .ok (.iload_n 2, 1) := by decide +kernel
theorem dX7_comesTo_124 : decode cX7_comesTo 124 = .ok (.baload, 1) := by decide +kernel
theorem dX7_comesTo_125 : decode cX7_comesTo 125 = .ok (.bastore, 1) := by decide +kernel
theorem dX7_comesTo_126 : decode cX7_comesTo 126 = .ok (.iinc 2 1, 3) := by decide +kernel
theorem dX7_comesTo_129 : decode cX7_comesTo 129 = .ok (.goto (-29), 3) := by decide +kernel
theorem dX7_comesTo_132 : decode cX7_comesTo 132 = .ok (.return_, 1) := by decide +kernel
theorem dX7_comesToAll_0 : decode cX7_comesToAll 0 = .ok (.iconst 0, 1) := by decide +kernel
theorem dX7_comesToAll_1 : decode cX7_comesToAll 1 = .ok (.istore 4, 2) := by decide +kernel
theorem dX7_comesToAll_3 : decode cX7_comesToAll 3 = .ok (.iload 4, 2) := by decide +kernel
theorem dX7_comesToAll_5 : decode cX7_comesToAll 5 = .ok (.aload_n 0, 1) := by decide +kernel
theorem dX7_comesToAll_6 : decode cX7_comesToAll 6 = .ok (.getfield 80, 3) := by decide +kernel
theorem dX7_comesToAll_9 : decode cX7_comesToAll 9 = .ok (.if_icmp .ge 43, 3) := by decide +kernel
theorem dX7_comesToAll_12 : decode cX7_comesToAll 12 = .ok (.iload 4, 2) := by decide +kernel
theorem dX7_comesToAll_14 : decode cX7_comesToAll 14 = .ok (.iload_n 3, 1) := by decide +kernel
theorem dX7_comesToAll_15 : decode cX7_comesToAll 15 = .ok (.if_icmp .eq 31, 3) := by decide +kernel
theorem dX7_comesToAll_18 : decode cX7_comesToAll 18 = .ok (.aload_n 0, 1) := by decide +kernel
theorem dX7_comesToAll_19 : decode cX7_comesToAll 19 = .ok (.getfield 7, 3) := by decide +kernel
theorem dX7_comesToAll_22 : decode cX7_comesToAll 22 = .ok (.iload 4, 2) := by decide +kernel
theorem dX7_comesToAll_24 : decode cX7_comesToAll 24 = .ok (.iaload, 1) := by decide +kernel
theorem dX7_comesToAll_25 : decode cX7_comesToAll 25 = .ok (.iload_n 1, 1) := by decide +kernel
theorem dX7_comesToAll_26 : decode cX7_comesToAll 26 = .ok (.if_icmp .ne 20, 3) := by decide +kernel
theorem dX7_comesToAll_29 : decode cX7_comesToAll 29 = .ok (.aload_n 0, 1) := by decide +kernel
theorem dX7_comesToAll_30 : decode cX7_comesToAll 30 = .ok (.getfield 13, 3) := by decide +kernel
theorem dX7_comesToAll_33 : decode cX7_comesToAll 33 = .ok (.iload 4, 2) := by decide +kernel
theorem dX7_comesToAll_35 : decode cX7_comesToAll 35 = .ok (.iaload, 1) := by decide +kernel
theorem dX7_comesToAll_36 : decode cX7_comesToAll 36 = .ok (.iload_n 2, 1) := by decide +kernel
theorem dX7_comesToAll_37 : decode cX7_comesToAll 37 = .ok (.if_icmp .ne 9, 3) := by decide +kernel
theorem dX7_comesToAll_40 : decode cX7_comesToAll 40 = .ok (.aload_n 0, 1) := by decide +kernel
theorem dX7_comesToAll_41 : decode cX7_comesToAll 41 = .ok (.iload 4, 2) := by decide +kernel
theorem dX7_comesToAll_43 : decode cX7_comesToAll 43 = .ok (.invokevirtual 107, 3) := by decide +kernel
theorem dX7_comesToAll_46 : decode cX7_comesToAll 46 = .ok (.iinc 4 1, 3) := by decide +kernel
theorem dX7_comesToAll_49 : decode cX7_comesToAll 49 = .ok (.goto (-46), 3) := by decide +kernel
theorem dX7_comesToAll_52 : decode cX7_comesToAll 52 = .ok (.return_, 1) := by decide +kernel
theorem dX7_sum_0 : decode cX7_sum 0 = .ok (.iconst 0, 1) := by decide +kernel
theorem dX7_sum_1 : decode cX7_sum 1 = .ok (.istore_n 3, 1) := by decide +kernel
theorem dX7_sum_2 : decode cX7_sum 2 = .ok (.iload_n 1, 1) := by decide +kernel
theorem dX7_sum_3 : decode cX7_sum 3 = .ok (.istore 4, 2) := by decide +kernel
theorem dX7_sum_5 : decode cX7_sum 5 = .ok (.iload 4, 2) := by decide +kernel
theorem dX7_sum_7 : decode cX7_sum 7 = .ok (.iload_n 2, 1) := by decide +kernel
theorem dX7_sum_8 : decode cX7_sum 8 = .ok (.if_icmp .ge 46, 3) := by decide +kernel
theorem dX7_sum_11 : decode cX7_sum 11 = .ok (.iload_n 3, 1) := by decide +kernel
theorem dX7_sum_12 : decode cX7_sum 12 = .ok (.aload_n 0, 1) := by decide +kernel
theorem dX7_sum_13 : decode cX7_sum 13 = .ok (.iload 4, 2) := by decide +kernel
theorem dX7_sum_15 : decode cX7_sum 15 = .ok (.baload, 1) := by decide +kernel
theorem dX7_sum_16 : decode cX7_sum 16 = .ok (.sipush 255, 3) := by decide +kernel
theorem dX7_sum_19 : decode cX7_sum 19 = .ok (.iand, 1) := by decide +kernel
theorem dX7_sum_20 : decode cX7_sum 20 = .ok (.bipush 8, 2) := by decide +kernel
theorem dX7_sum_22 : decode cX7_sum 22 = .ok (.ishl, 1) := by decide +kernel
theorem dX7_sum_23 : decode cX7_sum 23 = .ok (.iload 4, 2) := by decide +kernel
theorem dX7_sum_25 : decode cX7_sum 25 = .ok (.iconst 1, 1) := by decide +kernel
theorem dX7_sum_26 : decode cX7_sum 26 = .ok (.iadd, 1) := by decide +kernel
theorem dX7_sum_27 : decode cX7_sum 27 = .ok (.iload_n 2, 1) := by decide +kernel
theorem dX7_sum_28 : decode cX7_sum 28 = .ok (.if_icmp .ge 16, 3) := by decide +kernel
theorem dX7_sum_31 : decode cX7_sum 31 = .ok (.aload_n 0, 1) := by decide +kernel
theorem dX7_sum_32 : decode cX7_sum 32 = .ok (.iload 4, 2) := by decide +kernel
theorem dX7_sum_34 : decode cX7_sum 34 = .ok (.iconst 1, 1) := by decide +kernel
theorem dX7_sum_35 : decode cX7_sum 35 = .ok (.iadd, 1) := by decide +kernel
theorem dX7_sum_36 : decode cX7_sum 36 = .ok (.baload, 1) := by decide +kernel
theorem dX7_sum_37 : decode cX7_sum 37 = .ok (.sipush 255, 3) := by decide +kernel
theorem dX7_sum_40 : decode cX7_sum 40 = .ok (.iand, 1) := by decide +kernel
theorem dX7_sum_41 : decode cX7_sum 41 = .ok (.goto 4, 3) := by decide +kernel
theorem dX7_sum_44 : decode cX7_sum 44 = .ok (.iconst 0, 1) := by decide +kernel
theorem dX7_sum_45 : decode cX7_sum 45 = .ok (.ior, 1) := by decide +kernel
theorem dX7_sum_46 : decode cX7_sum 46 = .ok (.iadd, 1) := by decide +kernel
theorem dX7_sum_47 : decode cX7_sum 47 = .ok (.istore_n 3, 1) := by decide +kernel
theorem dX7_sum_48 : decode cX7_sum 48 = .ok (.iinc 4 2, 3) := by decide +kernel
theorem dX7_sum_51 : decode cX7_sum 51 = .ok (.goto (-46), 3) := by decide +kernel
theorem dX7_sum_54 : decode cX7_sum 54 = .ok (.iload_n 3, 1) := by decide +kernel
theorem dX7_sum_55 : decode cX7_sum 55 = .ok (.ldc 111, 2) := by decide +kernel
theorem dX7_sum_57 : decode cX7_sum 57 = .ok (.if_icmp .le 16, 3) := by decide +kernel
theorem dX7_sum_60 : decode cX7_sum 60 = .ok (.iload_n 3, 1) := by decide +kernel
theorem dX7_sum_61 : decode cX7_sum 61 = .ok (.ldc 111, 2) := by decide +kernel
theorem dX7_sum_63 : decode cX7_sum 63 = .ok (.iand, 1) := by decide +kernel
theorem dX7_sum_64 : decode cX7_sum 64 = .ok (.iload_n 3, 1) := by decide +kernel
theorem dX7_sum_65 : decode cX7_sum 65 = .ok (.bipush 16, 2) := by decide +kernel
theorem dX7_sum_67 : decode cX7_sum 67 = .ok (.ishr, 1) := by decide +kernel
theorem dX7_sum_68 : decode cX7_sum 68 = .ok (.iadd, 1) := by decide +kernel
theorem dX7_sum_69 : decode cX7_sum 69 = .ok (.istore_n 3, 1) := by decide +kernel
theorem dX7_sum_70 : decode cX7_sum 70 = .ok (.goto (-16), 3) := by decide +kernel
theorem dX7_sum_73 : decode cX7_sum 73 = .ok (.iload_n 3, 1) := by decide +kernel
theorem dX7_sum_74 : decode cX7_sum 74 = .ok (.ldc 111, 2) := by decide +kernel
theorem dX7_sum_76 : decode cX7_sum 76 = .ok (.ixor, 1) := by decide +kernel
theorem dX7_sum_77 : decode cX7_sum 77 = .ok (.ireturn, 1) := by decide +kernel
theorem dX7_put_0 : decode cX7_put 0 = .ok (.bipush 8, 2) := by decide +kernel
theorem dX7_put_2 : decode cX7_put 2 = .ok (.iload_n 2, 1) := by decide +kernel
theorem dX7_put_3 : decode cX7_put 3 = .ok (.iconst 1, 1) := by decide +kernel
theorem dX7_put_4 : decode cX7_put 4 = .ok (.isub, 1) := by decide +kernel
theorem dX7_put_5 : decode cX7_put 5 = .ok (.imul, 1) := by decide +kernel
theorem dX7_put_6 : decode cX7_put 6 = .ok (.istore_n 3, 1) := by decide +kernel
theorem dX7_put_7 : decode cX7_put 7 = .ok (.iload_n 3, 1) := by decide +kernel
theorem dX7_put_8 : decode cX7_put 8 = .ok (.ifCond .lt 32, 3) := by decide +kernel
theorem dX7_put_11 : decode cX7_put 11 = .ok (.aload_n 0, 1) := by decide +kernel
theorem dX7_put_12 : decode cX7_put 12 = .ok (.getfield 66, 3) := by decide +kernel
theorem dX7_put_15 : decode cX7_put 15 = .ok (.aload_n 0, 1) := by decide +kernel
theorem dX7_put_16 : decode cX7_put 16 = .ok (.getfield 112, 3) := by decide +kernel
theorem dX7_put_19 : decode cX7_put 19 = .ok (.iload_n 1, 1) := by decide +kernel
theorem dX7_put_20 : decode cX7_put 20 = .ok (.iload_n 3, 1) := by decide +kernel
theorem dX7_put_21 : decode cX7_put 21 = .ok (.ishr, 1) := by decide +kernel
theorem dX7_put_22 : decode cX7_put 22 = .ok (.i2b, 1) := by decide +kernel
theorem dX7_put_23 : decode cX7_put 23 = .ok (.bastore, 1) := by decide +kernel
theorem dX7_put_24 : decode cX7_put 24 = .ok (.aload_n 0, 1) := by decide +kernel
theorem dX7_put_25 : decode cX7_put 25 = .ok (.dup, 1) := by decide +kernel
theorem dX7_put_26 : decode cX7_put 26 = .ok (.getfield 112, 3) := by decide +kernel
theorem dX7_put_29 : decode cX7_put 29 = .ok (.iconst 1, 1) := by decide +kernel
theorem dX7_put_30 : decode cX7_put 30 = .ok (.iadd, 1) := by decide +kernel
theorem dX7_put_31 : decode cX7_put 31 = .ok (.putfield 112, 3) := by decide +kernel
theorem dX7_put_34 : decode cX7_put 34 = .ok (.iinc 3 (-8), 3) := by decide +kernel
theorem dX7_put_37 : decode cX7_put 37 = .ok (.goto (-30), 3) := by decide +kernel
theorem dX7_put_40 : decode cX7_put 40 = .ok (.return_, 1) := by decide +kernel
theorem dX7_set_0 : decode cX7_set 0 = .ok (.aload_n 0, 1) := by decide +kernel
theorem dX7_set_1 : decode cX7_set 1 = .ok (.getfield 66, 3) := by decide +kernel
theorem dX7_set_4 : decode cX7_set 4 = .ok (.iload_n 1, 1) := by decide +kernel
theorem dX7_set_5 : decode cX7_set 5 = .ok (.iload_n 2, 1) := by decide +kernel
theorem dX7_set_6 : decode cX7_set 6 = .ok (.bipush 8, 2) := by decide +kernel
theorem dX7_set_8 : decode cX7_set 8 = .ok (.ishr, 1) := by decide +kernel
theorem dX7_set_9 : decode cX7_set 9 = .ok (.i2b, 1) := by decide +kernel
theorem dX7_set_10 : decode cX7_set 10 = .ok (.bastore, 1) := by decide +kernel
theorem dX7_set_11 : decode cX7_set 11 = .ok (.aload_n 0, 1) := by decide +kernel
theorem dX7_set_12 : decode cX7_set 12 = .ok (.getfield 66, 3) := by decide +kernel
theorem dX7_set_15 : decode cX7_set 15 = .ok (.iload_n 1, 1) := by decide +kernel
theorem dX7_set_16 : decode cX7_set 16 = .ok (.iconst 1, 1) := by decide +kernel
theorem dX7_set_17 : decode cX7_set 17 = .ok (.iadd, 1) := by decide +kernel
theorem dX7_set_18 : decode cX7_set 18 = .ok (.iload_n 2, 1) := by decide +kernel
theorem dX7_set_19 : decode cX7_set 19 = .ok (.i2b, 1) := by decide +kernel
theorem dX7_set_20 : decode cX7_set 20 = .ok (.bastore, 1) := by decide +kernel
theorem dX7_set_21 : decode cX7_set 21 = .ok (.return_, 1) := by decide +kernel
theorem dX7_goes_0 : decode cX7_goes 0 = .ok (.aload_n 0, 1) := by decide +kernel
theorem dX7_goes_1 : decode cX7_goes 1 = .ok (.getfield 29, 3) := by decide +kernel
theorem dX7_goes_4 : decode cX7_goes 4 = .ok (.bipush 8, 2) := by decide +kernel
theorem dX7_goes_6 : decode cX7_goes 6 = .ok (.iload_n 1, 1) := by decide +kernel
theorem dX7_goes_7 : decode cX7_goes 7 = .ok (.imul, 1) := by decide +kernel
theorem dX7_goes_8 : decode cX7_goes 8 = .ok (.iload_n 2, 1) := by decide +kernel
theorem dX7_goes_9 : decode cX7_goes 9 = .ok (.iadd, 1) := by decide +kernel
theorem dX7_goes_10 : decode cX7_goes 10 = .ok (.iaload, 1) := by decide +kernel
theorem dX7_goes_11 : decode cX7_goes 11 = .ok (.istore 4, 2) := by decide +kernel
theorem dX7_goes_13 : decode cX7_goes 13 = .ok (.iconst 0, 1) := by decide +kernel
theorem dX7_goes_14 : decode cX7_goes 14 = .ok (.istore 5, 2) := by decide +kernel
theorem dX7_goes_16 : decode cX7_goes 16 = .ok (.iconst 0, 1) := by decide +kernel
theorem dX7_goes_17 : decode cX7_goes 17 = .ok (.istore 6, 2) := by decide +kernel
theorem dX7_goes_19 : decode cX7_goes 19 = .ok (.iload 6, 2) := by decide +kernel
theorem dX7_goes_21 : decode cX7_goes 21 = .ok (.bipush 12, 2) := by decide +kernel
theorem dX7_goes_23 : decode cX7_goes 23 = .ok (.if_icmp .ge 28, 3) := by decide +kernel
theorem dX7_goes_26 : decode cX7_goes 26 = .ok (.bipush 31, 2) := by decide +kernel
theorem dX7_goes_28 : decode cX7_goes 28 = .ok (.iload 5, 2) := by decide +kernel
theorem dX7_goes_30 : decode cX7_goes 30 = .ok (.imul, 1) := by decide +kernel
theorem dX7_goes_31 : decode cX7_goes 31 = .ok (.aload_n 0, 1) := by decide +kernel
theorem dX7_goes_32 : decode cX7_goes 32 = .ok (.getfield 69, 3) := by decide +kernel
theorem dX7_goes_35 : decode cX7_goes 35 = .ok (.iload 6, 2) := by decide +kernel
theorem dX7_goes_37 : decode cX7_goes 37 = .ok (.baload, 1) := by decide +kernel
theorem dX7_goes_38 : decode cX7_goes 38 = .ok (.sipush 255, 3) := by decide +kernel
theorem dX7_goes_41 : decode cX7_goes 41 = .ok (.iand, 1) := by decide +kernel
theorem dX7_goes_42 : decode cX7_goes 42 = .ok (.iadd, 1) := by decide +kernel
theorem dX7_goes_43 : decode cX7_goes 43 = .ok (.istore 5, 2) := by decide +kernel
theorem dX7_goes_45 : decode cX7_goes 45 = .ok (.iinc 6 1, 3) := by decide +kernel
theorem dX7_goes_48 : decode cX7_goes 48 = .ok (.goto (-29), 3) := by decide +kernel
theorem dX7_goes_51 : decode cX7_goes 51 = .ok (.aload_n 0, 1) := by decide +kernel
theorem dX7_goes_52 : decode cX7_goes 52 = .ok (.iconst 0, 1) := by decide +kernel
theorem dX7_goes_53 : decode cX7_goes 53 = .ok (.putfield 112, 3) := by decide +kernel
theorem dX7_goes_56 : decode cX7_goes 56 = .ok (.aload_n 0, 1) := by decide +kernel
theorem dX7_goes_57 : decode cX7_goes 57 = .ok (.bipush 69, 2) := by decide +kernel
theorem dX7_goes_59 : decode cX7_goes 59 = .ok (.iconst 1, 1) := by decide +kernel
theorem dX7_goes_60 : decode cX7_goes 60 = .ok (.invokevirtual 115, 3) := by decide +kernel
theorem dX7_goes_63 : decode cX7_goes 63 = .ok (.aload_n 0, 1) := by decide +kernel
theorem dX7_goes_64 : decode cX7_goes 64 = .ok (.iconst 0, 1) := by decide +kernel
theorem dX7_goes_65 : decode cX7_goes 65 = .ok (.iconst 1, 1) := by decide +kernel
theorem dX7_goes_66 : decode cX7_goes 66 = .ok (.invokevirtual 115, 3) := by decide +kernel
theorem dX7_goes_69 : decode cX7_goes 69 = .ok (.aload_n 0, 1) := by decide +kernel
theorem dX7_goes_70 : decode cX7_goes 70 = .ok (.iconst 0, 1) := by decide +kernel
theorem dX7_goes_71 : decode cX7_goes 71 = .ok (.iconst 2, 1) := by decide +kernel
theorem dX7_goes_72 : decode cX7_goes 72 = .ok (.invokevirtual 115, 3) := by decide +kernel
theorem dX7_goes_75 : decode cX7_goes 75 = .ok (.aload_n 0, 1) := by decide +kernel
theorem dX7_goes_76 : decode cX7_goes 76 = .ok (.aload_n 0, 1) := by decide +kernel
theorem dX7_goes_77 : decode cX7_goes 77 = .ok (.getfield 32, 3) := by decide +kernel
theorem dX7_goes_80 : decode cX7_goes 80 = .ok (.iload_n 1, 1) := by decide +kernel
theorem dX7_goes_81 : decode cX7_goes 81 = .ok (.iaload, 1) := by decide +kernel
theorem dX7_goes_82 : decode cX7_goes 82 = .ok (.iconst 2, 1) := by decide +kernel
theorem dX7_goes_83 : decode cX7_goes 83 = .ok (.invokevirtual 115, 3) := by decide +kernel
theorem dX7_goes_86 : decode cX7_goes 86 = .ok (.aload_n 0, 1) := by decide +kernel
theorem dX7_goes_87 : decode cX7_goes 87 = .ok (.bipush 64, 2) := by decide +kernel
theorem dX7_goes_89 : decode cX7_goes 89 = .ok (.iconst 1, 1) := by decide +kernel
theorem dX7_goes_90 : decode cX7_goes 90 = .ok (.invokevirtual 115, 3) := by decide +kernel
theorem dX7_goes_93 : decode cX7_goes 93 = .ok (.aload_n 0, 1) := by decide +kernel
theorem dX7_goes_94 : decode cX7_goes 94 = .ok (.iconst 0, 1) := by decide +kernel
theorem dX7_goes_95 : decode cX7_goes 95 = .ok (.iconst 1, 1) := by decide +kernel
theorem dX7_goes_96 : decode cX7_goes 96 = .ok (.invokevirtual 115, 3) := by decide +kernel
theorem dX7_goes_99 : decode cX7_goes 99 = .ok (.aload_n 0, 1) := by decide +kernel
theorem dX7_goes_100 : decode cX7_goes 100 = .ok (.bipush 64, 2) := by decide +kernel
theorem dX7_goes_102 : decode cX7_goes 102 = .ok (.iconst 1, 1) := by decide +kernel
theorem dX7_goes_103 : decode cX7_goes 103 = .ok (.invokevirtual 115, 3) := by decide +kernel
theorem dX7_goes_106 : decode cX7_goes 106 = .ok (.aload_n 0, 1) := by decide +kernel
theorem dX7_goes_107 : decode cX7_goes 107 = .ok (.iload 4, 2) := by decide +kernel
theorem dX7_goes_109 : decode cX7_goes 109 = .ok (.ifCond .ne 8, 3) := by decide +kernel
theorem dX7_goes_112 : decode cX7_goes 112 = .ok (.bipush 17, 2) := by decide +kernel
theorem dX7_goes_114 : decode cX7_goes 114 = .ok (.goto 5, 3) := by decide +kernel
theorem dX7_goes_117 : decode cX7_goes 117 = .ok (.bipush 47, 2) := by decide +kernel
theorem dX7_goes_119 : decode cX7_goes 119 = .ok (.iconst 1, 1) := by decide +kernel
theorem dX7_goes_120 : decode cX7_goes 120 = .ok (.invokevirtual 115, 3) := by decide +kernel
theorem dX7_goes_123 : decode cX7_goes 123 = .ok (.aload_n 0, 1) := by decide +kernel
theorem dX7_goes_124 : decode cX7_goes 124 = .ok (.iconst 0, 1) := by decide +kernel
theorem dX7_goes_125 : decode cX7_goes 125 = .ok (.iconst 2, 1) := by decide +kernel
theorem dX7_goes_126 : decode cX7_goes 126 = .ok (.invokevirtual 115, 3) := by decide +kernel
theorem dX7_goes_129 : decode cX7_goes 129 = .ok (.aload_n 0, 1) := by decide +kernel
theorem dX7_goes_130 : decode cX7_goes 130 = .ok (.ldc 118, 2) := by decide +kernel
theorem dX7_goes_132 : decode cX7_goes 132 = .ok (.iload_n 1, 1) := by decide +kernel
theorem dX7_goes_133 : decode cX7_goes 133 = .ok (.iadd, 1) := by decide +kernel
theorem dX7_goes_134 : decode cX7_goes 134 = .ok (.iconst 4, 1) := by decide +kernel
theorem dX7_goes_135 : decode cX7_goes 135 = .ok (.invokevirtual 115, 3) := by decide +kernel
theorem dX7_goes_138 : decode cX7_goes 138 = .ok (.aload_n 0, 1) := by decide +kernel
theorem dX7_goes_139 : decode cX7_goes 139 = .ok (.ldc 118, 2) := by decide +kernel
theorem dX7_goes_141 : decode cX7_goes 141 = .ok (.iload_n 2, 1) := by decide +kernel
theorem dX7_goes_142 : decode cX7_goes 142 = .ok (.iadd, 1) := by decide +kernel
theorem dX7_goes_143 : decode cX7_goes 143 = .ok (.iconst 4, 1) := by decide +kernel
theorem dX7_goes_144 : decode cX7_goes 144 = .ok (.invokevirtual 115, 3) := by decide +kernel
theorem dX7_goes_147 : decode cX7_goes 147 = .ok (.iload 4, 2) := by decide +kernel
theorem dX7_goes_149 : decode cX7_goes 149 = .ok (.ifCond .ne 71, 3) := by decide +kernel
theorem dX7_goes_152 : decode cX7_goes 152 = .ok (.aload_n 0, 1) := by decide +kernel
theorem dX7_goes_153 : decode cX7_goes 153 = .ok (.ldc 119, 2) := by decide +kernel
theorem dX7_goes_155 : decode cX7_goes 155 = .ok (.iload 5, 2) := by decide +kernel
theorem dX7_goes_157 : decode cX7_goes 157 = .ok (.sipush 16383, 3) := by decide +kernel
theorem dX7_goes_160 : decode cX7_goes 160 = .ok (.iand, 1) := by decide +kernel
theorem dX7_goes_161 : decode cX7_goes 161 = .ok (.iadd, 1) := by decide +kernel
theorem dX7_goes_162 : decode cX7_goes 162 = .ok (.iconst 2, 1) := by decide +kernel
theorem dX7_goes_163 : decode cX7_goes 163 = .ok (.invokevirtual 115, 3) := by decide +kernel
theorem dX7_goes_166 : decode cX7_goes 166 = .ok (.aload_n 0, 1) := by decide +kernel
theorem dX7_goes_167 : decode cX7_goes 167 = .ok (.sipush 4789, 3) := by decide +kernel
theorem dX7_goes_170 : decode cX7_goes 170 = .ok (.iconst 2, 1) := by decide +kernel
theorem dX7_goes_171 : decode cX7_goes 171 = .ok (.invokevirtual 115, 3) := by decide +kernel
theorem dX7_goes_174 : decode cX7_goes 174 = .ok (.aload_n 0, 1) := by decide +kernel
theorem dX7_goes_175 : decode cX7_goes 175 = .ok (.bipush 16, 2) := by decide +kernel
theorem dX7_goes_177 : decode cX7_goes 177 = .ok (.aload_n 0, 1) := by decide +kernel
theorem dX7_goes_178 : decode cX7_goes 178 = .ok (.getfield 104, 3) := by decide +kernel
theorem dX7_goes_181 : decode cX7_goes 181 = .ok (.iadd, 1) := by decide +kernel
theorem dX7_goes_182 : decode cX7_goes 182 = .ok (.iconst 2, 1) := by decide +kernel
theorem dX7_goes_183 : decode cX7_goes 183 = .ok (.invokevirtual 115, 3) := by decide +kernel
theorem dX7_goes_186 : decode cX7_goes 186 = .ok (.aload_n 0, 1) := by decide +kernel
theorem dX7_goes_187 : decode cX7_goes 187 = .ok (.iconst 0, 1) := by decide +kernel
theorem dX7_goes_188 : decode cX7_goes 188 = .ok (.iconst 2, 1) := by decide +kernel
theorem dX7_goes_189 : decode cX7_goes 189 = .ok (.invokevirtual 115, 3) := by decide +kernel
theorem dX7_goes_192 : decode cX7_goes 192 = .ok (.aload_n 0, 1) := by decide +kernel
theorem dX7_goes_193 : decode cX7_goes 193 = .ok (.bipush 8, 2) := by decide +kernel
theorem dX7_goes_195 : decode cX7_goes 195 = .ok (.iconst 1, 1) := by decide +kernel
theorem dX7_goes_196 : decode cX7_goes 196 = .ok (.invokevirtual 115, 3) := by decide +kernel
theorem dX7_goes_199 : decode cX7_goes 199 = .ok (.aload_n 0, 1) := by decide +kernel
theorem dX7_goes_200 : decode cX7_goes 200 = .ok (.iconst 0, 1) := by decide +kernel
theorem dX7_goes_201 : decode cX7_goes 201 = .ok (.iconst 3, 1) := by decide +kernel
theorem dX7_goes_202 : decode cX7_goes 202 = .ok (.invokevirtual 115, 3) := by decide +kernel
theorem dX7_goes_205 : decode cX7_goes 205 = .ok (.aload_n 0, 1) := by decide +kernel
theorem dX7_goes_206 : decode cX7_goes 206 = .ok (.iload_n 3, 1) := by decide +kernel
theorem dX7_goes_207 : decode cX7_goes 207 = .ok (.iconst 3, 1) := by decide +kernel
theorem dX7_goes_208 : decode cX7_goes 208 = .ok (.invokevirtual 115, 3) := by decide +kernel
theorem dX7_goes_211 : decode cX7_goes 211 = .ok (.aload_n 0, 1) := by decide +kernel
theorem dX7_goes_212 : decode cX7_goes 212 = .ok (.iconst 0, 1) := by decide +kernel
theorem dX7_goes_213 : decode cX7_goes 213 = .ok (.iconst 1, 1) := by decide +kernel
theorem dX7_goes_214 : decode cX7_goes 214 = .ok (.invokevirtual 115, 3) := by decide +kernel
theorem dX7_goes_217 : decode cX7_goes 217 = .ok (.goto 55, 3) := by decide +kernel
theorem dX7_goes_220 : decode cX7_goes 220 = .ok (.aload_n 0, 1) := by decide +kernel
theorem dX7_goes_221 : decode cX7_goes 221 = .ok (.iload 4, 2) := by decide +kernel
theorem dX7_goes_223 : decode cX7_goes 223 = .ok (.iconst 1, 1) := by decide +kernel
theorem dX7_goes_224 : decode cX7_goes 224 = .ok (.if_icmp .ne 9, 3) := by decide +kernel
theorem dX7_goes_227 : decode cX7_goes 227 = .ok (.sipush 8192, 3) := by decide +kernel
theorem dX7_goes_230 : decode cX7_goes 230 = .ok (.goto 5, 3) := by decide +kernel
theorem dX7_goes_233 : decode cX7_goes 233 = .ok (.ldc 120, 2) := by decide +kernel
theorem dX7_goes_235 : decode cX7_goes 235 = .ok (.iconst 2, 1) := by decide +kernel
theorem dX7_goes_236 : decode cX7_goes 236 = .ok (.invokevirtual 115, 3) := by decide +kernel
theorem dX7_goes_239 : decode cX7_goes 239 = .ok (.aload_n 0, 1) := by decide +kernel
theorem dX7_goes_240 : decode cX7_goes 240 = .ok (.sipush 25944, 3) := by decide +kernel
theorem dX7_goes_243 : decode cX7_goes 243 = .ok (.iconst 2, 1) := by decide +kernel
theorem dX7_goes_244 : decode cX7_goes 244 = .ok (.invokevirtual 115, 3) := by decide +kernel
theorem dX7_goes_247 : decode cX7_goes 247 = .ok (.iload 4, 2) := by decide +kernel
theorem dX7_goes_249 : decode cX7_goes 249 = .ok (.iconst 2, 1) := by decide +kernel
theorem dX7_goes_250 : decode cX7_goes 250 = .ok (.if_icmp .ne 9, 3) := by decide +kernel
theorem dX7_goes_253 : decode cX7_goes 253 = .ok (.aload_n 0, 1) := by decide +kernel
theorem dX7_goes_254 : decode cX7_goes 254 = .ok (.iconst 0, 1) := by decide +kernel
theorem dX7_goes_255 : decode cX7_goes 255 = .ok (.iconst 4, 1) := by decide +kernel
theorem dX7_goes_256 : decode cX7_goes 256 = .ok (.invokevirtual 115, 3) := by decide +kernel
theorem dX7_goes_259 : decode cX7_goes 259 = .ok (.aload_n 0, 1) := by decide +kernel
theorem dX7_goes_260 : decode cX7_goes 260 = .ok (.iload_n 3, 1) := by decide +kernel
theorem dX7_goes_261 : decode cX7_goes 261 = .ok (.iconst 3, 1) := by decide +kernel
theorem dX7_goes_262 : decode cX7_goes 262 = .ok (.invokevirtual 115, 3) := by decide +kernel
theorem dX7_goes_265 : decode cX7_goes 265 = .ok (.aload_n 0, 1) := by decide +kernel
theorem dX7_goes_266 : decode cX7_goes 266 = .ok (.iload 5, 2) := by decide +kernel
theorem dX7_goes_268 : decode cX7_goes 268 = .ok (.iconst 1, 1) := by decide +kernel
theorem dX7_goes_269 : decode cX7_goes 269 = .ok (.invokevirtual 115, 3) := by decide +kernel
theorem dX7_goes_272 : decode cX7_goes 272 = .ok (.iconst 0, 1) := by decide +kernel
theorem dX7_goes_273 : decode cX7_goes 273 = .ok (.istore 6, 2) := by decide +kernel
theorem dX7_goes_275 : decode cX7_goes 275 = .ok (.iload 6, 2) := by decide +kernel
theorem dX7_goes_277 : decode cX7_goes 277 = .ok (.aload_n 0, 1) := by decide +kernel
theorem dX7_goes_278 : decode cX7_goes 278 = .ok (.getfield 104, 3) := by decide +kernel
theorem dX7_goes_281 : decode cX7_goes 281 = .ok (.if_icmp .ge 21, 3) := by decide +kernel
theorem dX7_goes_284 : decode cX7_goes 284 = .ok (.aload_n 0, 1) := by decide +kernel
theorem dX7_goes_285 : decode cX7_goes 285 = .ok (.aload_n 0, 1) := by decide +kernel
theorem dX7_goes_286 : decode cX7_goes 286 = .ok (.getfield 69, 3) := by decide +kernel
theorem dX7_goes_289 : decode cX7_goes 289 = .ok (.iload 6, 2) := by decide +kernel
theorem dX7_goes_291 : decode cX7_goes 291 = .ok (.baload, 1) := by decide +kernel
theorem dX7_goes_292 : decode cX7_goes 292 = .ok (.iconst 1, 1) := by decide +kernel
theorem dX7_goes_293 : decode cX7_goes 293 = .ok (.invokevirtual 115, 3) := by decide +kernel
theorem dX7_goes_296 : decode cX7_goes 296 = .ok (.iinc 6 1, 3) := by decide +kernel
theorem dX7_goes_299 : decode cX7_goes 299 = .ok (.goto (-24), 3) := by decide +kernel
theorem dX7_goes_302 : decode cX7_goes 302 = .ok (.aload_n 0, 1) := by decide +kernel
theorem dX7_goes_303 : decode cX7_goes 303 = .ok (.iconst 2, 1) := by decide +kernel
theorem dX7_goes_304 : decode cX7_goes 304 = .ok (.aload_n 0, 1) := by decide +kernel
theorem dX7_goes_305 : decode cX7_goes 305 = .ok (.getfield 112, 3) := by decide +kernel
theorem dX7_goes_308 : decode cX7_goes 308 = .ok (.invokevirtual 121, 3) := by decide +kernel
theorem dX7_goes_311 : decode cX7_goes 311 = .ok (.aload_n 0, 1) := by decide +kernel
theorem dX7_goes_312 : decode cX7_goes 312 = .ok (.bipush 10, 2) := by decide +kernel
theorem dX7_goes_314 : decode cX7_goes 314 = .ok (.aload_n 0, 1) := by decide +kernel
theorem dX7_goes_315 : decode cX7_goes 315 = .ok (.getfield 66, 3) := by decide +kernel
theorem dX7_goes_318 : decode cX7_goes 318 = .ok (.iconst 0, 1) := by decide +kernel
theorem dX7_goes_319 : decode cX7_goes 319 = .ok (.bipush 20, 2) := by decide +kernel
theorem dX7_goes_321 : decode cX7_goes 321 = .ok (.invokestatic 124, 3) := by decide +kernel
theorem dX7_goes_324 : decode cX7_goes 324 = .ok (.invokevirtual 121, 3) := by decide +kernel
theorem dX7_goes_327 : decode cX7_goes 327 = .ok (.iload 4, 2) := by decide +kernel
theorem dX7_goes_329 : decode cX7_goes 329 = .ok (.iconst 2, 1) := by decide +kernel
theorem dX7_goes_330 : decode cX7_goes 330 = .ok (.if_icmp .ne 22, 3) := by decide +kernel
theorem dX7_goes_333 : decode cX7_goes 333 = .ok (.aload_n 0, 1) := by decide +kernel
theorem dX7_goes_334 : decode cX7_goes 334 = .ok (.bipush 24, 2) := by decide +kernel
theorem dX7_goes_336 : decode cX7_goes 336 = .ok (.aload_n 0, 1) := by decide +kernel
theorem dX7_goes_337 : decode cX7_goes 337 = .ok (.getfield 66, 3) := by decide +kernel
theorem dX7_goes_340 : decode cX7_goes 340 = .ok (.bipush 20, 2) := by decide +kernel
theorem dX7_goes_342 : decode cX7_goes 342 = .ok (.aload_n 0, 1) := by decide +kernel
theorem dX7_goes_343 : decode cX7_goes 343 = .ok (.getfield 112, 3) := by decide +kernel
theorem dX7_goes_346 : decode cX7_goes 346 = .ok (.invokestatic 124, 3) := by decide +kernel
theorem dX7_goes_349 : decode cX7_goes 349 = .ok (.invokevirtual 121, 3) := by decide +kernel
theorem dX7_goes_352 : decode cX7_goes 352 = .ok (.aload_n 0, 1) := by decide +kernel
theorem dX7_goes_353 : decode cX7_goes 353 = .ok (.getfield 32, 3) := by decide +kernel
theorem dX7_goes_356 : decode cX7_goes 356 = .ok (.iload_n 1, 1) := by decide +kernel
theorem dX7_goes_357 : decode cX7_goes 357 = .ok (.dup2, 1) := by decide +kernel
theorem dX7_goes_358 : decode cX7_goes 358 = .ok (.iaload, 1) := by decide +kernel
theorem dX7_goes_359 : decode cX7_goes 359 = .ok (.iconst 1, 1) := by decide +kernel
theorem dX7_goes_360 : decode cX7_goes 360 = .ok (.iadd, 1) := by decide +kernel
theorem dX7_goes_361 : decode cX7_goes 361 = .ok (.iastore, 1) := by decide +kernel
theorem dX7_goes_362 : decode cX7_goes 362 = .ok (.aload_n 0, 1) := by decide +kernel
theorem dX7_goes_363 : decode cX7_goes 363 = .ok (.getfield 63, 3) := by decide +kernel
theorem dX7_goes_366 : decode cX7_goes 366 = .ok (.iconst 0, 1) := by decide +kernel
theorem dX7_goes_367 : decode cX7_goes 367 = .ok (.dup2, 1) := by decide +kernel
theorem dX7_goes_368 : decode cX7_goes 368 = .ok (.iaload, 1) := by decide +kernel
theorem dX7_goes_369 : decode cX7_goes 369 = .ok (.iconst 1, 1) := by decide +kernel
theorem dX7_goes_370 : decode cX7_goes 370 = .ok (.iadd, 1) := by decide +kernel
theorem dX7_goes_371 : decode cX7_goes 371 = .ok (.iastore, 1) := by decide +kernel
theorem dX7_goes_372 : decode cX7_goes 372 = .ok (.aload_n 0, 1) := by decide +kernel
theorem dX7_goes_373 : decode cX7_goes 373 = .ok (.getfield 83, 3) := by decide +kernel
theorem dX7_goes_376 : decode cX7_goes 376 = .ok (.bipush 50, 2) := by decide +kernel
theorem dX7_goes_378 : decode cX7_goes 378 = .ok (.if_icmp .ne 19, 3) := by decide +kernel
theorem dX7_goes_381 : decode cX7_goes 381 = .ok (.aload_n 0, 1) := by decide +kernel
theorem dX7_goes_382 : decode cX7_goes 382 = .ok (.iconst 0, 1) := by decide +kernel
theorem dX7_goes_383 : decode cX7_goes 383 = .ok (.invokevirtual 128, 3) := by decide +kernel
theorem dX7_goes_386 : decode cX7_goes 386 = .ok (.aload_n 0, 1) := by decide +kernel
theorem dX7_goes_387 : decode cX7_goes 387 = .ok (.getfield 63, 3) := by decide +kernel
theorem dX7_goes_390 : decode cX7_goes 390 = .ok (.bipush 10, 2) := by decide +kernel
theorem dX7_goes_392 : decode cX7_goes 392 = .ok (.dup2, 1) := by decide +kernel
theorem dX7_goes_393 : decode cX7_goes 393 = .ok (.iaload, 1) := by decide +kernel
theorem dX7_goes_394 : decode cX7_goes 394 = .ok (.iconst 1, 1) := by decide +kernel
theorem dX7_goes_395 : decode cX7_goes 395 = .ok (.iadd, 1) := by decide +kernel
theorem dX7_goes_396 : decode cX7_goes 396 = .ok (.iastore, 1) := by decide +kernel
theorem dX7_goes_397 : decode cX7_goes 397 = .ok (.aload_n 0, 1) := by decide +kernel
theorem dX7_goes_398 : decode cX7_goes 398 = .ok (.getfield 57, 3) := by decide +kernel
theorem dX7_goes_401 : decode cX7_goes 401 = .ok (.aload_n 0, 1) := by decide +kernel
theorem dX7_goes_402 : decode cX7_goes 402 = .ok (.getfield 83, 3) := by decide +kernel
theorem dX7_goes_405 : decode cX7_goes 405 = .ok (.aload_n 0, 1) := by decide +kernel
theorem dX7_goes_406 : decode cX7_goes 406 = .ok (.getfield 112, 3) := by decide +kernel
theorem dX7_goes_409 : decode cX7_goes 409 = .ok (.iastore, 1) := by decide +kernel
theorem dX7_goes_410 : decode cX7_goes 410 = .ok (.aload_n 0, 1) := by decide +kernel
theorem dX7_goes_411 : decode cX7_goes 411 = .ok (.getfield 60, 3) := by decide +kernel
theorem dX7_goes_414 : decode cX7_goes 414 = .ok (.aload_n 0, 1) := by decide +kernel
theorem dX7_goes_415 : decode cX7_goes 415 = .ok (.getfield 83, 3) := by decide +kernel
theorem dX7_goes_418 : decode cX7_goes 418 = .ok (.iload_n 2, 1) := by decide +kernel
theorem dX7_goes_419 : decode cX7_goes 419 = .ok (.iastore, 1) := by decide +kernel
theorem dX7_goes_420 : decode cX7_goes 420 = .ok (.iconst 0, 1) := by decide +kernel
theorem dX7_goes_421 : decode cX7_goes 421 = .ok (.istore 6, 2) := by decide +kernel
theorem dX7_goes_423 : decode cX7_goes 423 = .ok (.iload 6, 2) := by decide +kernel
theorem dX7_goes_425 : decode cX7_goes 425 = .ok (.aload_n 0, 1) := by decide +kernel
theorem dX7_goes_426 : decode cX7_goes 426 = .ok (.getfield 112, 3) := by decide +kernel
theorem dX7_goes_429 : decode cX7_goes 429 = .ok (.if_icmp .ge 31, 3) := by decide +kernel
theorem dX7_goes_432 : decode cX7_goes 432 = .ok (.aload_n 0, 1) := by decide +kernel
theorem dX7_goes_433 : decode cX7_goes 433 = .ok (.getfield 54, 3) := by decide +kernel
theorem dX7_goes_436 : decode cX7_goes 436 = .ok (.bipush 120, 2) := by decide +kernel
theorem dX7_goes_438 : decode cX7_goes 438 = .ok (.aload_n 0, 1) := by decide +kernel
theorem dX7_goes_439 : decode cX7_goes 439 = .ok (.getfield 83, 3) := by decide +kernel
theorem dX7_goes_442 : decode cX7_goes 442 = .ok (.imul, 1) := by decide +kernel
theorem dX7_goes_443 : decode cX7_goes 443 = .ok (.iload 6, 2) := by decide +kernel
theorem dX7_goes_445 : decode cX7_goes 445 = .ok (.iadd, 1) := by decide +kernel
theorem dX7_goes_446 : decode cX7_goes 446 = .ok (.aload_n 0, 1) := by decide +kernel
theorem dX7_goes_447 : decode cX7_goes 447 = .ok (.getfield 66, 3) := by decide +kernel
theorem dX7_goes_450 : decode cX7_goes 450 = .ok (.iload 6, 2) := by decide +kernel
theorem dX7_goes_452 : decode cX7_goes 452 = .ok (.baload, 1) := by decide +kernel
theorem dX7_goes_453 : decode cX7_goes 453 = .ok (.bastore, 1) := by decide +kernel
theorem dX7_goes_454 : decode cX7_goes 454 = .ok (.iinc 6 1, 3) := by decide +kernel
theorem dX7_goes_457 : decode cX7_goes 457 = .ok (.goto (-34), 3) := by decide +kernel
theorem dX7_goes_460 : decode cX7_goes 460 = .ok (.aload_n 0, 1) := by decide +kernel
theorem dX7_goes_461 : decode cX7_goes 461 = .ok (.dup, 1) := by decide +kernel
theorem dX7_goes_462 : decode cX7_goes 462 = .ok (.getfield 83, 3) := by decide +kernel
theorem dX7_goes_465 : decode cX7_goes 465 = .ok (.iconst 1, 1) := by decide +kernel
theorem dX7_goes_466 : decode cX7_goes 466 = .ok (.iadd, 1) := by decide +kernel
theorem dX7_goes_467 : decode cX7_goes 467 = .ok (.putfield 83, 3) := by decide +kernel
theorem dX7_goes_470 : decode cX7_goes 470 = .ok (.return_, 1) := by decide +kernel
theorem dX7_drop_0 : decode cX7_drop 0 = .ok (.aload_n 0, 1) := by decide +kernel
theorem dX7_drop_1 : decode cX7_drop 1 = .ok (.dup, 1) := by decide +kernel
theorem dX7_drop_2 : decode cX7_drop 2 = .ok (.getfield 83, 3) := by decide +kernel
theorem dX7_drop_5 : decode cX7_drop 5 = .ok (.iconst 1, 1) := by decide +kernel
theorem dX7_drop_6 : decode cX7_drop 6 = .ok (.isub, 1) := by decide +kernel
theorem dX7_drop_7 : decode cX7_drop 7 = .ok (.putfield 83, 3) := by decide +kernel
theorem dX7_drop_10 : decode cX7_drop 10 = .ok (.iload_n 1, 1) := by decide +kernel
theorem dX7_drop_11 : decode cX7_drop 11 = .ok (.istore_n 2, 1) := by decide +kernel
theorem dX7_drop_12 : decode cX7_drop 12 = .ok (.iload_n 2, 1) := by decide +kernel
theorem dX7_drop_13 : decode cX7_drop 13 = .ok (.aload_n 0, 1) := by decide +kernel
theorem dX7_drop_14 : decode cX7_drop 14 = .ok (.getfield 83, 3) := by decide +kernel
theorem dX7_drop_17 : decode cX7_drop 17 = .ok (.if_icmp .ge 75, 3) := by decide +kernel
theorem dX7_drop_20 : decode cX7_drop 20 = .ok (.aload_n 0, 1) := by decide +kernel
theorem dX7_drop_21 : decode cX7_drop 21 = .ok (.getfield 57, 3) := by decide +kernel
theorem dX7_drop_24 : decode cX7_drop 24 = .ok (.iload_n 2, 1) := by decide +kernel
theorem dX7_drop_25 : decode cX7_drop 25 = .ok (.aload_n 0, 1) := by decide +kernel
theorem dX7_drop_26 : decode cX7_drop 26 = .ok (.getfield 57, 3) := by decide +kernel
theorem dX7_drop_29 : decode cX7_drop 29 = .ok (.iload_n 2, 1) := by decide +kernel
theorem dX7_drop_30 : decode cX7_drop 30 = .ok (.iconst 1, 1) := by decide +kernel
theorem dX7_drop_31 : decode cX7_drop 31 = .ok (.iadd, 1) := by decide +kernel
theorem dX7_drop_32 : decode cX7_drop 32 = .ok (.iaload, 1) := by decide +kernel
theorem dX7_drop_33 : decode cX7_drop 33 = .ok (.iastore, 1) := by decide +kernel
theorem dX7_drop_34 : decode cX7_drop 34 = .ok (.aload_n 0, 1) := by decide +kernel
theorem dX7_drop_35 : decode cX7_drop 35 = .ok (.getfield 60, 3) := by decide +kernel
theorem dX7_drop_38 : decode cX7_drop 38 = .ok (.iload_n 2, 1) := by decide +kernel
theorem dX7_drop_39 : decode cX7_drop 39 = .ok (.aload_n 0, 1) := by decide +kernel
theorem dX7_drop_40 : decode cX7_drop 40 = .ok (.getfield 60, 3) := by decide +kernel
theorem dX7_drop_43 : decode cX7_drop 43 = .ok (.iload_n 2, 1) := by decide +kernel
theorem dX7_drop_44 : decode cX7_drop 44 = .ok (.iconst 1, 1) := by decide +kernel
theorem dX7_drop_45 : decode cX7_drop 45 = .ok (.iadd, 1) := by decide +kernel
theorem dX7_drop_46 : decode cX7_drop 46 = .ok (.iaload, 1) := by decide +kernel
theorem dX7_drop_47 : decode cX7_drop 47 = .ok (.iastore, 1) := by decide +kernel
theorem dX7_drop_48 : decode cX7_drop 48 = .ok (.iconst 0, 1) := by decide +kernel
theorem dX7_drop_49 : decode cX7_drop 49 = .ok (.istore_n 3, 1) := by decide +kernel
theorem dX7_drop_50 : decode cX7_drop 50 = .ok (.iload_n 3, 1) := by decide +kernel
theorem dX7_drop_51 : decode cX7_drop 51 = .ok (.bipush 120, 2) := by decide +kernel
theorem dX7_drop_53 : decode cX7_drop 53 = .ok (.if_icmp .ge 33, 3) := by decide +kernel
theorem dX7_drop_56 : decode cX7_drop 56 = .ok (.aload_n 0, 1) := by decide +kernel
theorem dX7_drop_57 : decode cX7_drop 57 = .ok (.getfield 54, 3) := by decide +kernel
theorem dX7_drop_60 : decode cX7_drop 60 = .ok (.bipush 120, 2) := by decide +kernel
theorem dX7_drop_62 : decode cX7_drop 62 = .ok (.iload_n 2, 1) := by decide +kernel
theorem dX7_drop_63 : decode cX7_drop 63 = .ok (.imul, 1) := by decide +kernel
theorem dX7_drop_64 : decode cX7_drop 64 = .ok (.iload_n 3, 1) := by decide +kernel
theorem dX7_drop_65 : decode cX7_drop 65 = .ok (.iadd, 1) := by decide +kernel
theorem dX7_drop_66 : decode cX7_drop 66 = .ok (.aload_n 0, 1) := by decide +kernel
theorem dX7_drop_67 : decode cX7_drop 67 = .ok (.getfield 54, 3) := by decide +kernel
theorem dX7_drop_70 : decode cX7_drop 70 = .ok (.bipush 120, 2) := by decide +kernel
theorem dX7_drop_72 : decode cX7_drop 72 = .ok (.iload_n 2, 1) := by decide +kernel
theorem dX7_drop_73 : decode cX7_drop 73 = .ok (.iconst 1, 1) := by decide +kernel
theorem dX7_drop_74 : decode cX7_drop 74 = .ok (.iadd, 1) := by decide +kernel
theorem dX7_drop_75 : decode cX7_drop 75 = .ok (.imul, 1) := by decide +kernel
theorem dX7_drop_76 : decode cX7_drop 76 = .ok (.iload_n 3, 1) := by decide +kernel
theorem dX7_drop_77 : decode cX7_drop 77 = .ok (.iadd, 1) := by decide +kernel
theorem dX7_drop_78 : decode cX7_drop 78 = .ok (.baload, 1) := by decide +kernel
theorem dX7_drop_79 : decode cX7_drop 79 = .ok (.bastore, 1) := by decide +kernel
theorem dX7_drop_80 : decode cX7_drop 80 = .ok (.iinc 3 1, 3) := by decide +kernel
theorem dX7_drop_83 : decode cX7_drop 83 = .ok (.goto (-33), 3) := by decide +kernel
theorem dX7_drop_86 : decode cX7_drop 86 = .ok (.iinc 2 1, 3) := by decide +kernel
theorem dX7_drop_89 : decode cX7_drop 89 = .ok (.goto (-77), 3) := by decide +kernel
theorem dX7_drop_92 : decode cX7_drop 92 = .ok (.return_, 1) := by decide +kernel
theorem dX7_send_0 : decode cX7_send 0 = .ok (.aload_n 0, 1) := by decide +kernel
theorem dX7_send_1 : decode cX7_send 1 = .ok (.iload_n 1, 1) := by decide +kernel
theorem dX7_send_2 : decode cX7_send 2 = .ok (.invokevirtual 90, 3) := by decide +kernel
theorem dX7_send_5 : decode cX7_send 5 = .ok (.ifCond .eq 38, 3) := by decide +kernel
theorem dX7_send_8 : decode cX7_send 8 = .ok (.lload_n 2, 1) := by decide +kernel
theorem dX7_send_9 : decode cX7_send 9 = .ok (.lconst 0, 1) := by decide +kernel
theorem dX7_send_10 : decode cX7_send 10 = .ok (.lcmp, 1) := by decide +kernel
theorem dX7_send_11 : decode cX7_send 11 = .ok (.ifCond .lt 32, 3) := by decide +kernel
theorem dX7_send_14 : decode cX7_send 14 = .ok (.lload_n 2, 1) := by decide +kernel
theorem dX7_send_15 : decode cX7_send 15 = .ok (.ldc2_w 131, 3) := by decide +kernel
theorem dX7_send_18 : decode cX7_send 18 = .ok (.lcmp, 1) := by decide +kernel
theorem dX7_send_19 : decode cX7_send 19 = .ok (.ifCond .ge 24, 3) := by decide +kernel
theorem dX7_send_22 : decode cX7_send 22 = .ok (.iload 4, 2) := by decide +kernel
theorem dX7_send_24 : decode cX7_send 24 = .ok (.ifCond .lt 19, 3) := by decide +kernel
