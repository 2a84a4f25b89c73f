theorem d_T_join_8 : decode prog_7_method_15_code 8 = .ok (.isub, 1) := by decide +kernel
theorem d_T_join_9 : decode prog_7_method_15_code 9 = .ok (.istore 4, 2) := by decide +kernel
theorem d_T_join_11 : decode prog_7_method_15_code 11 = .ok (.aload_n 0, 1) := by decide +kernel
theorem d_T_join_12 : decode prog_7_method_15_code 12 = .ok (.ifnull 34, 3) := by decide +kernel
theorem d_T_join_15 : decode prog_7_method_15_code 15 = .ok (.iload 4, 2) := by decide +kernel
theorem d_T_join_17 : decode prog_7_method_15_code 17 = .ok (.iconst 1, 1) := by decide +kernel
theorem d_T_join_18 : decode prog_7_method_15_code 18 = .ok (.if_icmp .le 28, 3) := by decide +kernel
theorem d_T_join_21 : decode prog_7_method_15_code 21 = .ok (.iload_n 3, 1) := by decide +kernel
theorem d_T_join_22 : decode prog_7_method_15_code 22 = .ok (.ifCond .le 24, 3) := by decide +kernel
theorem d_T_join_25 : decode prog_7_method_15_code 25 = .ok (.aload_n 0, 1) := by decide +kernel
theorem d_T_join_26 : decode prog_7_method_15_code 26 = .ok (.aload_n 0, 1) := by decide +kernel
theorem d_T_join_27 : decode prog_7_method_15_code 27 = .ok (.getfield 18, 3) := by decide +kernel
theorem d_T_join_30 : decode prog_7_method_15_code 30 = .ok (.aload_n 1, 1) := by decide +kernel
theorem d_T_join_31 : decode prog_7_method_15_code 31 = .ok (.aload_n 2, 1) := by decide +kernel
theorem d_T_join_32 : decode prog_7_method_15_code 32 = .ok (.iload_n 3, 1) := by decide +kernel
theorem d_T_join_33 : decode prog_7_method_15_code 33 = .ok (.iconst 1, 1) := by decide +kernel
theorem d_T_join_34 : decode prog_7_method_15_code 34 = .ok (.isub, 1) := by decide +kernel
theorem d_T_join_35 : decode prog_7_method_15_code 35 = .ok (.invokestatic 61, 3) := by decide +kernel
theorem d_T_join_38 : decode prog_7_method_15_code 38 = .ok (.putfield 18, 3) := by decide +kernel
theorem d_T_join_41 : decode prog_7_method_15_code 41 = .ok (.aload_n 0, 1) := by decide +kernel
theorem d_T_join_42 : decode prog_7_method_15_code 42 = .ok (.invokestatic 111, 3) := by decide +kernel
theorem d_T_join_45 : decode prog_7_method_15_code 45 = .ok (.areturn, 1) := by decide +kernel
theorem d_T_join_46 : decode prog_7_method_15_code 46 = .ok (.aload_n 2, 1) := by decide +kernel
theorem d_T_join_47 : decode prog_7_method_15_code 47 = .ok (.ifnull 34, 3) := by decide +kernel
theorem d_T_join_50 : decode prog_7_method_15_code 50 = .ok (.iload 4, 2) := by decide +kernel
theorem d_T_join_52 : decode prog_7_method_15_code 52 = .ok (.iconst (-1), 1) := by decide +kernel
theorem d_T_join_53 : decode prog_7_method_15_code 53 = .ok (.if_icmp .ge 28, 3) := by decide +kernel
theorem d_T_join_56 : decode prog_7_method_15_code 56 = .ok (.iload_n 3, 1) := by decide +kernel
theorem d_T_join_57 : decode prog_7_method_15_code 57 = .ok (.ifCond .le 24, 3) := by decide +kernel
theorem d_T_join_60 : decode prog_7_method_15_code 60 = .ok (.aload_n 2, 1) := by decide +kernel
theorem d_T_join_61 : decode prog_7_method_15_code 61 = .ok (.aload_n 0, 1) := by decide +kernel
theorem d_T_join_62 : decode prog_7_method_15_code 62 = .ok (.aload_n 1, 1) := by decide +kernel
theorem d_T_join_63 : decode prog_7_method_15_code 63 = .ok (.aload_n 2, 1) := by decide +kernel
theorem d_T_join_64 : decode prog_7_method_15_code 64 = .ok (.getfield 35, 3) := by decide +kernel
theorem d_T_join_67 : decode prog_7_method_15_code 67 = .ok (.iload_n 3, 1) := by decide +kernel
theorem d_T_join_68 : decode prog_7_method_15_code 68 = .ok (.iconst 1, 1) := by decide +kernel
theorem d_T_join_69 : decode prog_7_method_15_code 69 = .ok (.isub, 1) := by decide +kernel
theorem d_T_join_70 : decode prog_7_method_15_code 70 = .ok (.invokestatic 61, 3) := by decide +kernel
theorem d_T_join_73 : decode prog_7_method_15_code 73 = .ok (.putfield 35, 3) := by decide +kernel
theorem d_T_join_76 : decode prog_7_method_15_code 76 = .ok (.aload_n 2, 1) := by decide +kernel
theorem d_T_join_77 : decode prog_7_method_15_code 77 = .ok (.invokestatic 111, 3) := by decide +kernel
theorem d_T_join_80 : decode prog_7_method_15_code 80 = .ok (.areturn, 1) := by decide +kernel
theorem d_T_join_81 : decode prog_7_method_15_code 81 = .ok (.aload_n 1, 1) := by decide +kernel
theorem d_T_join_82 : decode prog_7_method_15_code 82 = .ok (.aload_n 0, 1) := by decide +kernel
theorem d_T_join_83 : decode prog_7_method_15_code 83 = .ok (.putfield 35, 3) := by decide +kernel
theorem d_T_join_86 : decode prog_7_method_15_code 86 = .ok (.aload_n 1, 1) := by decide +kernel
theorem d_T_join_87 : decode prog_7_method_15_code 87 = .ok (.aload_n 2, 1) := by decide +kernel
theorem d_T_join_88 : decode prog_7_method_15_code 88 = .ok (.putfield 18, 3) := by decide +kernel
theorem d_T_join_91 : decode prog_7_method_15_code 91 = .ok (.aload_n 1, 1) := by decide +kernel
theorem d_T_join_92 : decode prog_7_method_15_code 92 = .ok (.invokestatic 108, 3) := by decide +kernel
theorem d_T_join_95 : decode prog_7_method_15_code 95 = .ok (.aload_n 1, 1) := by decide +kernel
theorem d_T_join_96 : decode prog_7_method_15_code 96 = .ok (.areturn, 1) := by decide +kernel
theorem d_T_lastOf_0 : decode prog_7_method_12_code 0 = .ok (.aconst_null, 1) := by decide +kernel
theorem d_T_lastOf_1 : decode prog_7_method_12_code 1 = .ok (.astore_n 1, 1) := by decide +kernel
theorem d_T_lastOf_2 : decode prog_7_method_12_code 2 = .ok (.aload_n 0, 1) := by decide +kernel
theorem d_T_lastOf_3 : decode prog_7_method_12_code 3 = .ok (.astore_n 2, 1) := by decide +kernel
theorem d_T_lastOf_4 : decode prog_7_method_12_code 4 = .ok (.aload_n 2, 1) := by decide +kernel
theorem d_T_lastOf_5 : decode prog_7_method_12_code 5 = .ok (.ifnull 13, 3) := by decide +kernel
theorem d_T_lastOf_18 : decode prog_7_method_12_code 18 = .ok (.aload_n 1, 1) := by decide +kernel
theorem d_T_lastOf_19 : decode prog_7_method_12_code 19 = .ok (.areturn, 1) := by decide +kernel
theorem d_T_lastOf_8 : decode prog_7_method_12_code 8 = .ok (.aload_n 2, 1) := by decide +kernel
theorem d_T_lastOf_9 : decode prog_7_method_12_code 9 = .ok (.astore_n 1, 1) := by decide +kernel
theorem d_T_lastOf_10 : decode prog_7_method_12_code 10 = .ok (.aload_n 2, 1) := by decide +kernel
theorem d_T_lastOf_11 : decode prog_7_method_12_code 11 = .ok (.getfield 18, 3) := by decide +kernel
theorem d_T_lastOf_14 : decode prog_7_method_12_code 14 = .ok (.astore_n 2, 1) := by decide +kernel
theorem d_T_lastOf_15 : decode prog_7_method_12_code 15 = .ok (.goto (-11), 3) := by decide +kernel
theorem d_T_withoutFirst_0 : decode prog_7_method_13_code 0 = .ok (.aload_n 0, 1) := by decide +kernel
theorem d_T_withoutFirst_1 : decode prog_7_method_13_code 1 = .ok (.ifnull 8, 3) := by decide +kernel
theorem d_T_withoutFirst_4 : decode prog_7_method_13_code 4 = .ok (.iload_n 1, 1) := by decide +kernel
theorem d_T_withoutFirst_5 : decode prog_7_method_13_code 5 = .ok (.iconst 1, 1) := by decide +kernel
theorem d_T_withoutFirst_6 : decode prog_7_method_13_code 6 = .ok (.if_icmp .ge 5, 3) := by decide +kernel
theorem d_T_withoutFirst_11 : decode prog_7_method_13_code 11 = .ok (.aload_n 0, 1) := by decide +kernel
theorem d_T_withoutFirst_12 : decode prog_7_method_13_code 12 = .ok (.getfield 35, 3) := by decide +kernel
theorem d_T_withoutFirst_15 : decode prog_7_method_13_code 15 = .ok (.ifnonnull 8, 3) := by decide +kernel
theorem d_T_withoutFirst_18 : decode prog_7_method_13_code 18 = .ok (.aload_n 0, 1) := by decide +kernel
theorem d_T_withoutFirst_19 : decode prog_7_method_13_code 19 = .ok (.getfield 18, 3) := by decide +kernel
theorem d_T_withoutFirst_22 : decode prog_7_method_13_code 22 = .ok (.areturn, 1) := by decide +kernel
theorem d_T_withoutFirst_23 : decode prog_7_method_13_code 23 = .ok (.aload_n 0, 1) := by decide +kernel
theorem d_T_withoutFirst_24 : decode prog_7_method_13_code 24 = .ok (.aload_n 0, 1) := by decide +kernel
theorem d_T_withoutFirst_25 : decode prog_7_method_13_code 25 = .ok (.getfield 35, 3) := by decide +kernel
theorem d_T_withoutFirst_28 : decode prog_7_method_13_code 28 = .ok (.iload_n 1, 1) := by decide +kernel
theorem d_T_withoutFirst_29 : decode prog_7_method_13_code 29 = .ok (.iconst 1, 1) := by decide +kernel
theorem d_T_withoutFirst_30 : decode prog_7_method_13_code 30 = .ok (.isub, 1) := by decide +kernel
theorem d_T_withoutFirst_31 : decode prog_7_method_13_code 31 = .ok (.invokestatic 75, 3) := by decide +kernel
theorem d_T_withoutFirst_34 : decode prog_7_method_13_code 34 = .ok (.putfield 35, 3) := by decide +kernel
theorem d_T_withoutFirst_37 : decode prog_7_method_13_code 37 = .ok (.aload_n 0, 1) := by decide +kernel
theorem d_T_withoutFirst_38 : decode prog_7_method_13_code 38 = .ok (.invokestatic 111, 3) := by decide +kernel
theorem d_T_withoutFirst_41 : decode prog_7_method_13_code 41 = .ok (.areturn, 1) := by decide +kernel
theorem d_T_withoutFirst_9 : decode prog_7_method_13_code 9 = .ok (.aload_n 0, 1) := by decide +kernel
theorem d_T_withoutFirst_10 : decode prog_7_method_13_code 10 = .ok (.areturn, 1) := by decide +kernel
theorem d_T_withoutLast_0 : decode prog_7_method_14_code 0 = .ok (.aload_n 0, 1) := by decide +kernel
theorem d_T_withoutLast_1 : decode prog_7_method_14_code 1 = .ok (.ifnull 8, 3) := by decide +kernel
theorem d_T_withoutLast_4 : decode prog_7_method_14_code 4 = .ok (.iload_n 1, 1) := by decide +kernel
theorem d_T_withoutLast_5 : decode prog_7_method_14_code 5 = .ok (.iconst 1, 1) := by decide +kernel
theorem d_T_withoutLast_6 : decode prog_7_method_14_code 6 = .ok (.if_icmp .ge 5, 3) := by decide +kernel
theorem d_T_withoutLast_11 : decode prog_7_method_14_code 11 = .ok (.aload_n 0, 1) := by decide +kernel
theorem d_T_withoutLast_12 : decode prog_7_method_14_code 12 = .ok (.getfield 18, 3) := by decide +kernel
theorem d_T_withoutLast_15 : decode prog_7_method_14_code 15 = .ok (.ifnonnull 8, 3) := by decide +kernel
theorem d_T_withoutLast_18 : decode prog_7_method_14_code 18 = .ok (.aload_n 0, 1) := by decide +kernel
theorem d_T_withoutLast_19 : decode prog_7_method_14_code 19 = .ok (.getfield 35, 3) := by decide +kernel
theorem d_T_withoutLast_22 : decode prog_7_method_14_code 22 = .ok (.areturn, 1) := by decide +kernel
theorem d_T_withoutLast_23 : decode prog_7_method_14_code 23 = .ok (.aload_n 0, 1) := by decide +kernel
theorem d_T_withoutLast_24 : decode prog_7_method_14_code 24 = .ok (.aload_n 0, 1) := by decide +kernel
theorem d_T_withoutLast_25 : decode prog_7_method_14_code 25 = .ok (.getfield 18, 3) := by decide +kernel
theorem d_T_withoutLast_28 : decode prog_7_method_14_code 28 = .ok (.iload_n 1, 1) := by decide +kernel
theorem d_T_withoutLast_29 : decode prog_7_method_14_code 29 = .ok (.iconst 1, 1) := by decide +kernel
theorem d_T_withoutLast_30 : decode prog_7_method_14_code 30 = .ok (.isub, 1) := by decide +kernel
theorem d_T_withoutLast_31 : decode prog_7_method_14_code 31 = .ok (.invokestatic 79, 3) := by decide +kernel
theorem d_T_withoutLast_34 : decode prog_7_method_14_code 34 = .ok (.putfield 18, 3) := by decide +kernel
theorem d_T_withoutLast_37 : decode prog_7_method_14_code 37 = .ok (.aload_n 0, 1) := by decide +kernel
theorem d_T_withoutLast_38 : decode prog_7_method_14_code 38 = .ok (.invokestatic 111, 3) := by decide +kernel
theorem d_T_withoutLast_41 : decode prog_7_method_14_code 41 = .ok (.areturn, 1) := by decide +kernel
theorem d_T_withoutLast_9 : decode prog_7_method_14_code 9 = .ok (.aload_n 0, 1) := by decide +kernel
theorem d_T_withoutLast_10 : decode prog_7_method_14_code 10 = .ok (.areturn, 1) := by decide +kernel
theorem d_T_meet_0 : decode prog_7_method_7_code 0 = .ok (.aload_n 1, 1) := by decide +kernel
theorem d_T_meet_1 : decode prog_7_method_7_code 1 = .ok (.invokestatic 69, 3) := by decide +kernel
theorem d_T_meet_4 : decode prog_7_method_7_code 4 = .ok (.astore_n 3, 1) := by decide +kernel
theorem d_T_meet_5 : decode prog_7_method_7_code 5 = .ok (.aload_n 2, 1) := by decide +kernel
theorem d_T_meet_6 : decode prog_7_method_7_code 6 = .ok (.invokestatic 72, 3) := by decide +kernel
theorem d_T_meet_9 : decode prog_7_method_7_code 9 = .ok (.astore 4, 2) := by decide +kernel
theorem d_T_meet_11 : decode prog_7_method_7_code 11 = .ok (.aload_n 3, 1) := by decide +kernel
theorem d_T_meet_12 : decode prog_7_method_7_code 12 = .ok (.ifnonnull 5, 3) := by decide +kernel
theorem d_T_meet_15 : decode prog_7_method_7_code 15 = .ok (.aload_n 2, 1) := by decide +kernel
theorem d_T_meet_16 : decode prog_7_method_7_code 16 = .ok (.areturn, 1) := by decide +kernel
theorem d_T_meet_17 : decode prog_7_method_7_code 17 = .ok (.aload 4, 2) := by decide +kernel
theorem d_T_meet_19 : decode prog_7_method_7_code 19 = .ok (.ifnonnull 5, 3) := by decide +kernel
theorem d_T_meet_22 : decode prog_7_method_7_code 22 = .ok (.aload_n 1, 1) := by decide +kernel
theorem d_T_meet_23 : decode prog_7_method_7_code 23 = .ok (.areturn, 1) := by decide +kernel
theorem d_T_meet_24 : decode prog_7_method_7_code 24 = .ok (.aload_n 2, 1) := by decide +kernel
theorem d_T_meet_25 : decode prog_7_method_7_code 25 = .ok (.astore 5, 2) := by decide +kernel
theorem d_T_meet_27 : decode prog_7_method_7_code 27 = .ok (.aload_n 3, 1) := by decide +kernel
theorem d_T_meet_28 : decode prog_7_method_7_code 28 = .ok (.getfield 21, 3) := by decide +kernel
theorem d_T_meet_31 : decode prog_7_method_7_code 31 = .ok (.aload_n 3, 1) := by decide +kernel
theorem d_T_meet_32 : decode prog_7_method_7_code 32 = .ok (.getfield 25, 3) := by decide +kernel
theorem d_T_meet_35 : decode prog_7_method_7_code 35 = .ok (.iadd, 1) := by decide +kernel
theorem d_T_meet_36 : decode prog_7_method_7_code 36 = .ok (.aload 4, 2) := by decide +kernel
theorem d_T_meet_38 : decode prog_7_method_7_code 38 = .ok (.getfield 21, 3) := by decide +kernel
theorem d_T_meet_41 : decode prog_7_method_7_code 41 = .ok (.if_icmp .ne 43, 3) := by decide +kernel
theorem d_T_meet_44 : decode prog_7_method_7_code 44 = .ok (.aload_n 3, 1) := by decide +kernel
theorem d_T_meet_45 : decode prog_7_method_7_code 45 = .ok (.getfield 28, 3) := by decide +kernel
theorem d_T_meet_48 : decode prog_7_method_7_code 48 = .ok (.aload 4, 2) := by decide +kernel
theorem d_T_meet_50 : decode prog_7_method_7_code 50 = .ok (.getfield 28, 3) := by decide +kernel
theorem d_T_meet_53 : decode prog_7_method_7_code 53 = .ok (.if_icmp .ne 31, 3) := by decide +kernel
theorem d_T_meet_56 : decode prog_7_method_7_code 56 = .ok (.aload_n 2, 1) := by decide +kernel
theorem d_T_meet_57 : decode prog_7_method_7_code 57 = .ok (.bipush 40, 2) := by decide +kernel
theorem d_T_meet_59 : decode prog_7_method_7_code 59 = .ok (.invokestatic 75, 3) := by decide +kernel
theorem d_T_meet_62 : decode prog_7_method_7_code 62 = .ok (.astore 5, 2) := by decide +kernel
theorem d_T_meet_64 : decode prog_7_method_7_code 64 = .ok (.aload_n 3, 1) := by decide +kernel
theorem d_T_meet_65 : decode prog_7_method_7_code 65 = .ok (.dup, 1) := by decide +kernel
theorem d_T_meet_66 : decode prog_7_method_7_code 66 = .ok (.getfield 25, 3) := by decide +kernel
theorem d_T_meet_69 : decode prog_7_method_7_code 69 = .ok (.aload 4, 2) := by decide +kernel
theorem d_T_meet_71 : decode prog_7_method_7_code 71 = .ok (.getfield 25, 3) := by decide +kernel
theorem d_T_meet_74 : decode prog_7_method_7_code 74 = .ok (.iadd, 1) := by decide +kernel
theorem d_T_meet_75 : decode prog_7_method_7_code 75 = .ok (.putfield 25, 3) := by decide +kernel
theorem d_T_meet_78 : decode prog_7_method_7_code 78 = .ok (.aload_n 0, 1) := by decide +kernel
theorem d_T_meet_79 : decode prog_7_method_7_code 79 = .ok (.aload 4, 2) := by decide +kernel
theorem d_T_meet_81 : decode prog_7_method_7_code 81 = .ok (.invokevirtual 42, 3) := by decide +kernel
theorem d_T_meet_84 : decode prog_7_method_7_code 84 = .ok (.aload_n 1, 1) := by decide +kernel
theorem d_T_meet_85 : decode prog_7_method_7_code 85 = .ok (.bipush 40, 2) := by decide +kernel
theorem d_T_meet_87 : decode prog_7_method_7_code 87 = .ok (.invokestatic 79, 3) := by decide +kernel
theorem d_T_meet_90 : decode prog_7_method_7_code 90 = .ok (.aload_n 3, 1) := by decide +kernel
theorem d_T_meet_91 : decode prog_7_method_7_code 91 = .ok (.aload 5, 2) := by decide +kernel
theorem d_T_meet_93 : decode prog_7_method_7_code 93 = .ok (.bipush 40, 2) := by decide +kernel
theorem d_T_meet_95 : decode prog_7_method_7_code 95 = .ok (.invokestatic 61, 3) := by decide +kernel
theorem d_T_meet_98 : decode prog_7_method_7_code 98 = .ok (.areturn, 1) := by decide +kernel
theorem d_H_init_0 : decode prog_2_method_1_code 0 = .ok (.aload_n 0, 1) := by decide +kernel
theorem d_H_init_1 : decode prog_2_method_1_code 1 = .ok (.invokespecial 1, 3) := by decide +kernel
theorem d_H_init_4 : decode prog_2_method_1_code 4 = .ok (.return_, 1) := by decide +kernel
theorem d_N_init_0 : decode prog_3_method_1_code 0 = .ok (.aload_n 0, 1) := by decide +kernel
theorem d_N_init_1 : decode prog_3_method_1_code 1 = .ok (.invokespecial 1, 3) := by decide +kernel
theorem d_N_init_4 : decode prog_3_method_1_code 4 = .ok (.return_, 1) := by decide +kernel
theorem d_T_alone_0 : decode prog_7_method_10_code 0 = .ok (.aload_n 0, 1) := by decide +kernel
theorem d_T_alone_1 : decode prog_7_method_10_code 1 = .ok (.aconst_null, 1) := by decide +kernel
theorem d_T_alone_2 : decode prog_7_method_10_code 2 = .ok (.putfield 35, 3) := by decide +kernel
theorem d_T_alone_5 : decode prog_7_method_10_code 5 = .ok (.aload_n 0, 1) := by decide +kernel
theorem d_T_alone_6 : decode prog_7_method_10_code 6 = .ok (.aconst_null, 1) := by decide +kernel
theorem d_T_alone_7 : decode prog_7_method_10_code 7 = .ok (.putfield 18, 3) := by decide +kernel
theorem d_T_alone_10 : decode prog_7_method_10_code 10 = .ok (.aload_n 0, 1) := by decide +kernel
theorem d_T_alone_11 : decode prog_7_method_10_code 11 = .ok (.invokestatic 108, 3) := by decide +kernel
theorem d_T_alone_14 : decode prog_7_method_10_code 14 = .ok (.aload_n 0, 1) := by decide +kernel
theorem d_T_alone_15 : decode prog_7_method_10_code 15 = .ok (.areturn, 1) := by decide +kernel
theorem d_T_take_0 : decode prog_7_method_2_code 0 = .ok (.aload_n 0, 1) := by decide +kernel
theorem d_T_take_1 : decode prog_7_method_2_code 1 = .ok (.getfield 9, 3) := by decide +kernel
theorem d_T_take_4 : decode prog_7_method_2_code 4 = .ok (.astore 4, 2) := by decide +kernel
theorem d_T_take_6 : decode prog_7_method_2_code 6 = .ok (.aload 4, 2) := by decide +kernel
theorem d_T_take_8 : decode prog_7_method_2_code 8 = .ok (.ifnonnull 15, 3) := by decide +kernel
theorem d_T_take_11 : decode prog_7_method_2_code 11 = .ok (.new 15, 3) := by decide +kernel
theorem d_T_take_14 : decode prog_7_method_2_code 14 = .ok (.dup, 1) := by decide +kernel
theorem d_T_take_15 : decode prog_7_method_2_code 15 = .ok (.invokespecial 17, 3) := by decide +kernel
theorem d_T_take_18 : decode prog_7_method_2_code 18 = .ok (.astore 4, 2) := by decide +kernel
theorem d_T_take_20 : decode prog_7_method_2_code 20 = .ok (.goto 12, 3) := by decide +kernel
theorem d_T_take_23 : decode prog_7_method_2_code 23 = .ok (.aload_n 0, 1) := by decide +kernel
theorem d_T_take_24 : decode prog_7_method_2_code 24 = .ok (.aload 4, 2) := by decide +kernel
theorem d_T_take_26 : decode prog_7_method_2_code 26 = .ok (.getfield 18, 3) := by decide +kernel
theorem d_T_take_29 : decode prog_7_method_2_code 29 = .ok (.putfield 9, 3) := by decide +kernel
theorem d_T_take_32 : decode prog_7_method_2_code 32 = .ok (.aload 4, 2) := by decide +kernel
theorem d_T_take_34 : decode prog_7_method_2_code 34 = .ok (.iload_n 1, 1) := by decide +kernel
theorem d_T_take_35 : decode prog_7_method_2_code 35 = .ok (.putfield 21, 3) := by decide +kernel
theorem d_T_take_38 : decode prog_7_method_2_code 38 = .ok (.aload 4, 2) := by decide +kernel
theorem d_T_take_40 : decode prog_7_method_2_code 40 = .ok (.iload_n 2, 1) := by decide +kernel
theorem d_T_take_41 : decode prog_7_method_2_code 41 = .ok (.putfield 25, 3) := by decide +kernel
theorem d_T_take_44 : decode prog_7_method_2_code 44 = .ok (.aload 4, 2) := by decide +kernel
theorem d_T_take_46 : decode prog_7_method_2_code 46 = .ok (.iload_n 3, 1) := by decide +kernel
theorem d_T_take_47 : decode prog_7_method_2_code 47 = .ok (.putfield 28, 3) := by decide +kernel
theorem d_T_take_50 : decode prog_7_method_2_code 50 = .ok (.aload 4, 2) := by decide +kernel
theorem d_T_take_52 : decode prog_7_method_2_code 52 = .ok (.invokestatic 31, 3) := by decide +kernel
theorem d_T_take_55 : decode prog_7_method_2_code 55 = .ok (.areturn, 1) := by decide +kernel
theorem d_T_partInto_0 : decode prog_7_method_6_code 0 = .ok (.aload_n 2, 1) := by decide +kernel
theorem d_T_partInto_1 : decode prog_7_method_6_code 1 = .ok (.ifnull 9, 3) := by decide +kernel
theorem d_T_partInto_4 : decode prog_7_method_6_code 4 = .ok (.iload 4, 2) := by decide +kernel
theorem d_T_partInto_6 : decode prog_7_method_6_code 6 = .ok (.iconst 1, 1) := by decide +kernel
theorem d_T_partInto_7 : decode prog_7_method_6_code 7 = .ok (.if_icmp .ge 14, 3) := by decide +kernel
theorem d_T_partInto_21 : decode prog_7_method_6_code 21 = .ok (.aload_n 2, 1) := by decide +kernel
theorem d_T_partInto_22 : decode prog_7_method_6_code 22 = .ok (.getfield 35, 3) := by decide +kernel
theorem d_T_partInto_25 : decode prog_7_method_6_code 25 = .ok (.astore 5, 2) := by decide +kernel
theorem d_T_partInto_27 : decode prog_7_method_6_code 27 = .ok (.aload_n 2, 1) := by decide +kernel
theorem d_T_partInto_28 : decode prog_7_method_6_code 28 = .ok (.getfield 18, 3) := by decide +kernel
theorem d_T_partInto_31 : decode prog_7_method_6_code 31 = .ok (.astore 6, 2) := by decide +kernel
theorem d_T_partInto_33 : decode prog_7_method_6_code 33 = .ok (.iload_n 3, 1) := by decide +kernel
theorem d_T_partInto_34 : decode prog_7_method_6_code 34 = .ok (.aload 5, 2) := by decide +kernel
theorem d_T_partInto_36 : decode prog_7_method_6_code 36 = .ok (.invokestatic 55, 3) := by decide +kernel
theorem d_T_partInto_39 : decode prog_7_method_6_code 39 = .ok (.isub, 1) := by decide +kernel
theorem d_T_partInto_40 : decode prog_7_method_6_code 40 = .ok (.istore 7, 2) := by decide +kernel
theorem d_T_partInto_42 : decode prog_7_method_6_code 42 = .ok (.iload 7, 2) := by decide +kernel
theorem d_T_partInto_44 : decode prog_7_method_6_code 44 = .ok (.ifCond .gt 34, 3) := by decide +kernel
theorem d_T_partInto_78 : decode prog_7_method_6_code 78 = .ok (.iload 7, 2) := by decide +kernel
theorem d_T_partInto_80 : decode prog_7_method_6_code 80 = .ok (.aload_n 2, 1) := by decide +kernel
theorem d_T_partInto_81 : decode prog_7_method_6_code 81 = .ok (.getfield 25, 3) := by decide +kernel
theorem d_T_partInto_84 : decode prog_7_method_6_code 84 = .ok (.if_icmp .lt 40, 3) := by decide +kernel
theorem d_T_partInto_124 : decode prog_7_method_6_code 124 = .ok (.aload_n 0, 1) := by decide +kernel
theorem d_T_partInto_125 : decode prog_7_method_6_code 125 = .ok (.aload_n 2, 1) := by decide +kernel
theorem d_T_partInto_126 : decode prog_7_method_6_code 126 = .ok (.getfield 21, 3) := by decide +kernel
theorem d_T_partInto_129 : decode prog_7_method_6_code 129 = .ok (.iload 7, 2) := by decide +kernel
theorem d_T_partInto_131 : decode prog_7_method_6_code 131 = .ok (.iadd, 1) := by decide +kernel
theorem d_T_partInto_132 : decode prog_7_method_6_code 132 = .ok (.aload_n 2, 1) := by decide +kernel
theorem d_T_partInto_133 : decode prog_7_method_6_code 133 = .ok (.getfield 25, 3) := by decide +kernel
theorem d_T_partInto_136 : decode prog_7_method_6_code 136 = .ok (.iload 7, 2) := by decide +kernel
theorem d_T_partInto_138 : decode prog_7_method_6_code 138 = .ok (.isub, 1) := by decide +kernel
theorem d_T_partInto_139 : decode prog_7_method_6_code 139 = .ok (.aload_n 2, 1) := by decide +kernel
theorem d_T_partInto_140 : decode prog_7_method_6_code 140 = .ok (.getfield 28, 3) := by decide +kernel
theorem d_T_partInto_143 : decode prog_7_method_6_code 143 = .ok (.invokevirtual 65, 3) := by decide +kernel
theorem d_T_partInto_146 : decode prog_7_method_6_code 146 = .ok (.astore 8, 2) := by decide +kernel
theorem d_T_partInto_148 : decode prog_7_method_6_code 148 = .ok (.aload_n 2, 1) := by decide +kernel
theorem d_T_partInto_149 : decode prog_7_method_6_code 149 = .ok (.iload 7, 2) := by decide +kernel
theorem d_T_partInto_151 : decode prog_7_method_6_code 151 = .ok (.putfield 25, 3) := by decide +kernel
theorem d_T_partInto_154 : decode prog_7_method_6_code 154 = .ok (.aload_n 1, 1) := by decide +kernel
theorem d_T_partInto_155 : decode prog_7_method_6_code 155 = .ok (.aload 5, 2) := by decide +kernel
theorem d_T_partInto_157 : decode prog_7_method_6_code 157 = .ok (.aload_n 2, 1) := by decide +kernel
theorem d_T_partInto_158 : decode prog_7_method_6_code 158 = .ok (.aconst_null, 1) := by decide +kernel
theorem d_T_partInto_159 : decode prog_7_method_6_code 159 = .ok (.bipush 40, 2) := by decide +kernel
theorem d_T_partInto_161 : decode prog_7_method_6_code 161 = .ok (.invokestatic 61, 3) := by decide +kernel
theorem d_T_partInto_164 : decode prog_7_method_6_code 164 = .ok (.putfield 53, 3) := by decide +kernel
theorem d_T_partInto_167 : decode prog_7_method_6_code 167 = .ok (.aload_n 1, 1) := by decide +kernel
theorem d_T_partInto_168 : decode prog_7_method_6_code 168 = .ok (.aconst_null, 1) := by decide +kernel
theorem d_T_partInto_169 : decode prog_7_method_6_code 169 = .ok (.aload 8, 2) := by decide +kernel
theorem d_T_partInto_171 : decode prog_7_method_6_code 171 = .ok (.aload 6, 2) := by decide +kernel
theorem d_T_partInto_173 : decode prog_7_method_6_code 173 = .ok (.bipush 40, 2) := by decide +kernel
theorem d_T_partInto_175 : decode prog_7_method_6_code 175 = .ok (.invokestatic 61, 3) := by decide +kernel
theorem d_T_partInto_178 : decode prog_7_method_6_code 178 = .ok (.putfield 54, 3) := by decide +kernel
theorem d_T_partInto_87 : decode prog_7_method_6_code 87 = .ok (.aload_n 0, 1) := by decide +kernel
theorem d_T_partInto_88 : decode prog_7_method_6_code 88 = .ok (.aload_n 1, 1) := by decide +kernel
theorem d_T_partInto_89 : decode prog_7_method_6_code 89 = .ok (.aload 6, 2) := by decide +kernel
theorem d_T_partInto_91 : decode prog_7_method_6_code 91 = .ok (.iload 7, 2) := by decide +kernel
theorem d_T_partInto_93 : decode prog_7_method_6_code 93 = .ok (.aload_n 2, 1) := by decide +kernel
theorem d_T_partInto_94 : decode prog_7_method_6_code 94 = .ok (.getfield 25, 3) := by decide +kernel
theorem d_T_partInto_97 : decode prog_7_method_6_code 97 = .ok (.isub, 1) := by decide +kernel
theorem d_T_partInto_98 : decode prog_7_method_6_code 98 = .ok (.iload 4, 2) := by decide +kernel
theorem d_T_partInto_100 : decode prog_7_method_6_code 100 = .ok (.iconst 1, 1) := by decide +kernel
theorem d_T_partInto_101 : decode prog_7_method_6_code 101 = .ok (.isub, 1) := by decide +kernel
theorem d_T_partInto_102 : decode prog_7_method_6_code 102 = .ok (.invokevirtual 49, 3) := by decide +kernel
theorem d_T_partInto_105 : decode prog_7_method_6_code 105 = .ok (.aload_n 1, 1) := by decide +kernel
theorem d_T_partInto_106 : decode prog_7_method_6_code 106 = .ok (.aload 5, 2) := by decide +kernel
theorem d_T_partInto_108 : decode prog_7_method_6_code 108 = .ok (.aload_n 2, 1) := by decide +kernel
theorem d_T_partInto_109 : decode prog_7_method_6_code 109 = .ok (.aload_n 1, 1) := by decide +kernel
theorem d_T_partInto_110 : decode prog_7_method_6_code 110 = .ok (.getfield 53, 3) := by decide +kernel
theorem d_T_partInto_113 : decode prog_7_method_6_code 113 = .ok (.bipush 40, 2) := by decide +kernel
theorem d_T_partInto_115 : decode prog_7_method_6_code 115 = .ok (.invokestatic 61, 3) := by decide +kernel
theorem d_T_partInto_118 : decode prog_7_method_6_code 118 = .ok (.putfield 53, 3) := by decide +kernel
theorem d_T_partInto_121 : decode prog_7_method_6_code 121 = .ok (.goto 60, 3) := by decide +kernel
theorem d_T_partInto_47 : decode prog_7_method_6_code 47 = .ok (.aload_n 0, 1) := by decide +kernel
theorem d_T_partInto_48 : decode prog_7_method_6_code 48 = .ok (.aload_n 1, 1) := by decide +kernel
theorem d_T_partInto_49 : decode prog_7_method_6_code 49 = .ok (.aload 5, 2) := by decide +kernel
theorem d_T_partInto_51 : decode prog_7_method_6_code 51 = .ok (.iload_n 3, 1) := by decide +kernel
theorem d_T_partInto_52 : decode prog_7_method_6_code 52 = .ok (.iload 4, 2) := by decide +kernel
theorem d_T_partInto_54 : decode prog_7_method_6_code 54 = .ok (.iconst 1, 1) := by decide +kernel
theorem d_T_partInto_55 : decode prog_7_method_6_code 55 = .ok (.isub, 1) := by decide +kernel
theorem d_T_partInto_56 : decode prog_7_method_6_code 56 = .ok (.invokevirtual 49, 3) := by decide +kernel
theorem d_T_partInto_59 : decode prog_7_method_6_code 59 = .ok (.aload_n 1, 1) := by decide +kernel
theorem d_T_partInto_60 : decode prog_7_method_6_code 60 = .ok (.aload_n 1, 1) := by decide +kernel
theorem d_T_partInto_61 : decode prog_7_method_6_code 61 = .ok (.getfield 54, 3) := by decide +kernel
theorem d_T_partInto_64 : decode prog_7_method_6_code 64 = .ok (.aload_n 2, 1) := by decide +kernel
theorem d_T_partInto_65 : decode prog_7_method_6_code 65 = .ok (.aload 6, 2) := by decide +kernel
theorem d_T_partInto_67 : decode prog_7_method_6_code 67 = .ok (.bipush 40, 2) := by decide +kernel
theorem d_T_partInto_69 : decode prog_7_method_6_code 69 = .ok (.invokestatic 61, 3) := by decide +kernel
theorem d_T_partInto_72 : decode prog_7_method_6_code 72 = .ok (.putfield 54, 3) := by decide +kernel
theorem d_T_partInto_75 : decode prog_7_method_6_code 75 = .ok (.goto 106, 3) := by decide +kernel
theorem d_T_partInto_10 : decode prog_7_method_6_code 10 = .ok (.aload_n 1, 1) := by decide +kernel
theorem d_T_partInto_11 : decode prog_7_method_6_code 11 = .ok (.aconst_null, 1) := by decide +kernel
theorem d_T_partInto_12 : decode prog_7_method_6_code 12 = .ok (.putfield 53, 3) := by decide +kernel
theorem d_T_partInto_15 : decode prog_7_method_6_code 15 = .ok (.aload_n 1, 1) := by decide +kernel
theorem d_T_partInto_16 : decode prog_7_method_6_code 16 = .ok (.aload_n 2, 1) := by decide +kernel
theorem d_T_partInto_17 : decode prog_7_method_6_code 17 = .ok (.putfield 54, 3) := by decide +kernel
theorem d_T_partInto_20 : decode prog_7_method_6_code 20 = .ok (.return_, 1) := by decide +kernel
theorem d_T_partInto_181 : decode prog_7_method_6_code 181 = .ok (.return_, 1) := by decide +kernel
theorem d_T_part_0 : decode prog_7_method_5_code 0 = .ok (.new 46, 3) := by decide +kernel
theorem d_T_part_3 : decode prog_7_method_5_code 3 = .ok (.dup, 1) := by decide +kernel
theorem d_T_part_4 : decode prog_7_method_5_code 4 = .ok (.invokespecial 48, 3) := by decide +kernel
theorem d_T_part_7 : decode prog_7_method_5_code 7 = .ok (.astore_n 3, 1) := by decide +kernel
theorem d_T_part_8 : decode prog_7_method_5_code 8 = .ok (.aload_n 0, 1) := by decide +kernel
theorem d_T_part_9 : decode prog_7_method_5_code 9 = .ok (.aload_n 3, 1) := by decide +kernel
theorem d_T_part_10 : decode prog_7_method_5_code 10 = .ok (.aload_n 1, 1) := by decide +kernel
theorem d_T_part_11 : decode prog_7_method_5_code 11 = .ok (.iload_n 2, 1) := by decide +kernel
theorem d_T_part_12 : decode prog_7_method_5_code 12 = .ok (.bipush 40, 2) := by decide +kernel
theorem d_T_part_14 : decode prog_7_method_5_code 14 = .ok (.invokevirtual 49, 3) := by decide +kernel
theorem d_T_part_17 : decode prog_7_method_5_code 17 = .ok (.aload_n 3, 1) := by decide +kernel
theorem d_T_part_18 : decode prog_7_method_5_code 18 = .ok (.areturn, 1) := by decide +kernel
theorem d_P_put_0 : decode prog_1_method_3_code 0 = .ok (.aload_n 0, 1) := by decide +kernel
theorem d_P_put_1 : decode prog_1_method_3_code 1 = .ok (.iload_n 1, 1) := by decide +kernel
theorem d_P_put_2 : decode prog_1_method_3_code 2 = .ok (.iload_n 2, 1) := by decide +kernel
theorem d_P_put_3 : decode prog_1_method_3_code 3 = .ok (.invokevirtual 50, 3) := by decide +kernel
theorem d_P_put_6 : decode prog_1_method_3_code 6 = .ok (.iload 4, 2) := by decide +kernel
theorem d_P_put_8 : decode prog_1_method_3_code 8 = .ok (.iconst 1, 1) := by decide +kernel
theorem d_P_put_9 : decode prog_1_method_3_code 9 = .ok (.if_icmp .lt 18, 3) := by decide +kernel
theorem d_P_put_12 : decode prog_1_method_3_code 12 = .ok (.iload_n 3, 1) := by decide +kernel
theorem d_P_put_13 : decode prog_1_method_3_code 13 = .ok (.ifCond .lt 14, 3) := by decide +kernel
theorem d_P_put_16 : decode prog_1_method_3_code 16 = .ok (.iload_n 3, 1) := by decide +kernel
theorem d_P_put_17 : decode prog_1_method_3_code 17 = .ok (.aload_n 0, 1) := by decide +kernel
theorem d_P_put_18 : decode prog_1_method_3_code 18 = .ok (.getfield 37, 3) := by decide +kernel
theorem d_P_put_21 : decode prog_1_method_3_code 21 = .ok (.iload 4, 2) := by decide +kernel
theorem d_P_put_23 : decode prog_1_method_3_code 23 = .ok (.isub, 1) := by decide +kernel
theorem d_P_put_24 : decode prog_1_method_3_code 24 = .ok (.if_icmp .le 13, 3) := by decide +kernel
theorem d_P_put_37 : decode prog_1_method_3_code 37 = .ok (.aload_n 0, 1) := by decide +kernel
theorem d_P_put_38 : decode prog_1_method_3_code 38 = .ok (.iload_n 1, 1) := by decide +kernel
theorem d_P_put_39 : decode prog_1_method_3_code 39 = .ok (.invokevirtual 59, 3) := by decide +kernel
theorem d_P_put_42 : decode prog_1_method_3_code 42 = .ok (.astore 6, 2) := by decide +kernel
theorem d_P_put_44 : decode prog_1_method_3_code 44 = .ok (.aload_n 0, 1) := by decide +kernel
theorem d_P_put_45 : decode prog_1_method_3_code 45 = .ok (.iload 4, 2) := by decide +kernel
theorem d_P_put_47 : decode prog_1_method_3_code 47 = .ok (.aload 6, 2) := by decide +kernel
theorem d_P_put_49 : decode prog_1_method_3_code 49 = .ok (.iload_n 2, 1) := by decide +kernel
theorem d_P_put_50 : decode prog_1_method_3_code 50 = .ok (.iload_n 3, 1) := by decide +kernel
theorem d_P_put_51 : decode prog_1_method_3_code 51 = .ok (.iload 4, 2) := by decide +kernel
theorem d_P_put_53 : decode prog_1_method_3_code 53 = .ok (.iload 5, 2) := by decide +kernel
theorem d_P_put_55 : decode prog_1_method_3_code 55 = .ok (.invokestatic 63, 3) := by decide +kernel
theorem d_P_put_58 : decode prog_1_method_3_code 58 = .ok (.aload 6, 2) := by decide +kernel
theorem d_P_put_60 : decode prog_1_method_3_code 60 = .ok (.invokestatic 69, 3) := by decide +kernel
theorem d_P_put_63 : decode prog_1_method_3_code 63 = .ok (.isub, 1) := by decide +kernel
theorem d_P_put_64 : decode prog_1_method_3_code 64 = .ok (.invokevirtual 75, 3) := by decide +kernel
theorem d_P_put_67 : decode prog_1_method_3_code 67 = .ok (.aload_n 0, 1) := by decide +kernel
theorem d_P_put_68 : decode prog_1_method_3_code 68 = .ok (.getfield 22, 3) := by decide +kernel
theorem d_P_put_71 : decode prog_1_method_3_code 71 = .ok (.aload 6, 2) := by decide +kernel
theorem d_P_put_73 : decode prog_1_method_3_code 73 = .ok (.iload_n 2, 1) := by decide +kernel
theorem d_P_put_74 : decode prog_1_method_3_code 74 = .ok (.invokevirtual 78, 3) := by decide +kernel
theorem d_P_put_77 : decode prog_1_method_3_code 77 = .ok (.astore 7, 2) := by decide +kernel
theorem d_P_put_79 : decode prog_1_method_3_code 79 = .ok (.aload_n 0, 1) := by decide +kernel
theorem d_P_put_80 : decode prog_1_method_3_code 80 = .ok (.getfield 22, 3) := by decide +kernel
theorem d_P_put_83 : decode prog_1_method_3_code 83 = .ok (.iload_n 3, 1) := by decide +kernel
theorem d_P_put_84 : decode prog_1_method_3_code 84 = .ok (.iload 4, 2) := by decide +kernel
theorem d_P_put_86 : decode prog_1_method_3_code 86 = .ok (.iload 5, 2) := by decide +kernel
theorem d_P_put_88 : decode prog_1_method_3_code 88 = .ok (.invokevirtual 82, 3) := by decide +kernel
theorem d_P_put_91 : decode prog_1_method_3_code 91 = .ok (.astore 8, 2) := by decide +kernel
theorem d_P_put_93 : decode prog_1_method_3_code 93 = .ok (.aload_n 0, 1) := by decide +kernel
theorem d_P_put_94 : decode prog_1_method_3_code 94 = .ok (.iload_n 1, 1) := by decide +kernel
theorem d_P_put_95 : decode prog_1_method_3_code 95 = .ok (.aload_n 0, 1) := by decide +kernel
theorem d_P_put_96 : decode prog_1_method_3_code 96 = .ok (.getfield 22, 3) := by decide +kernel
theorem d_P_put_99 : decode prog_1_method_3_code 99 = .ok (.aload_n 0, 1) := by decide +kernel
theorem d_P_put_100 : decode prog_1_method_3_code 100 = .ok (.getfield 22, 3) := by decide +kernel
theorem d_P_put_103 : decode prog_1_method_3_code 103 = .ok (.aload 7, 2) := by decide +kernel
theorem d_P_put_105 : decode prog_1_method_3_code 105 = .ok (.getfield 86, 3) := by decide +kernel
theorem d_P_put_108 : decode prog_1_method_3_code 108 = .ok (.aload 8, 2) := by decide +kernel
theorem d_P_put_110 : decode prog_1_method_3_code 110 = .ok (.invokevirtual 92, 3) := by decide +kernel
theorem d_P_put_113 : decode prog_1_method_3_code 113 = .ok (.aload 7, 2) := by decide +kernel
theorem d_P_put_115 : decode prog_1_method_3_code 115 = .ok (.getfield 96, 3) := by decide +kernel
theorem d_P_put_118 : decode prog_1_method_3_code 118 = .ok (.invokevirtual 92, 3) := by decide +kernel
theorem d_P_put_121 : decode prog_1_method_3_code 121 = .ok (.invokevirtual 99, 3) := by decide +kernel
theorem d_P_put_124 : decode prog_1_method_3_code 124 = .ok (.ireturn, 1) := by decide +kernel
theorem d_P_put_27 : decode prog_1_method_3_code 27 = .ok (.new 54, 3) := by decide +kernel
theorem d_P_put_30 : decode prog_1_method_3_code 30 = .ok (.dup, 1) := by decide +kernel
theorem d_P_put_31 : decode prog_1_method_3_code 31 = .ok (.ldc 56, 2) := by decide +kernel
theorem d_P_put_33 : decode prog_1_method_3_code 33 = .ok (.invokespecial 58, 3) := by decide +kernel
theorem d_P_put_36 : decode prog_1_method_3_code 36 = .ok (.athrow, 1) := by decide +kernel
theorem d_P_demandFree_0 : decode prog_1_method_27_code 0 = .ok (.iload_n 1, 1) := by decide +kernel
theorem d_P_demandFree_1 : decode prog_1_method_27_code 1 = .ok (.iload_n 2, 1) := by decide +kernel
theorem d_P_demandFree_2 : decode prog_1_method_27_code 2 = .ok (.if_icmp .eq 11, 3) := by decide +kernel
theorem d_P_demandFree_5 : decode prog_1_method_27_code 5 = .ok (.aload_n 0, 1) := by decide +kernel
theorem d_P_demandFree_6 : decode prog_1_method_27_code 6 = .ok (.iload_n 1, 1) := by decide +kernel
theorem d_P_demandFree_7 : decode prog_1_method_27_code 7 = .ok (.invokevirtual 59, 3) := by decide +kernel
theorem d_P_demandFree_10 : decode prog_1_method_27_code 10 = .ok (.ifnull 13, 3) := by decide +kernel
theorem d_P_demandFree_23 : decode prog_1_method_27_code 23 = .ok (.return_, 1) := by decide +kernel
theorem d_P_demandFree_13 : decode prog_1_method_27_code 13 = .ok (.new 30, 3) := by decide +kernel
theorem d_P_demandFree_16 : decode prog_1_method_27_code 16 = .ok (.dup, 1) := by decide +kernel
theorem d_P_demandFree_17 : decode prog_1_method_27_code 17 = .ok (.ldc 220, 2) := by decide +kernel
theorem d_P_demandFree_19 : decode prog_1_method_27_code 19 = .ok (.invokespecial 34, 3) := by decide +kernel
theorem d_P_demandFree_22 : decode prog_1_method_27_code 22 = .ok (.athrow, 1) := by decide +kernel
theorem d_P_demandRange_0 : decode prog_1_method_26_code 0 = .ok (.aload_n 0, 1) := by decide +kernel
theorem d_P_demandRange_1 : decode prog_1_method_26_code 1 = .ok (.iload_n 1, 1) := by decide +kernel
theorem d_P_demandRange_2 : decode prog_1_method_26_code 2 = .ok (.invokevirtual 107, 3) := by decide +kernel
theorem d_P_demandRange_5 : decode prog_1_method_26_code 5 = .ok (.iload_n 3, 1) := by decide +kernel
theorem d_P_demandRange_6 : decode prog_1_method_26_code 6 = .ok (.ifCond .lt 21, 3) := by decide +kernel
theorem d_P_demandRange_9 : decode prog_1_method_26_code 9 = .ok (.iload_n 2, 1) := by decide +kernel
theorem d_P_demandRange_10 : decode prog_1_method_26_code 10 = .ok (.ifCond .lt 17, 3) := by decide +kernel
theorem d_P_demandRange_13 : decode prog_1_method_26_code 13 = .ok (.iload_n 2, 1) := by decide +kernel
theorem d_P_demandRange_14 : decode prog_1_method_26_code 14 = .ok (.aload_n 0, 1) := by decide +kernel
theorem d_P_demandRange_15 : decode prog_1_method_26_code 15 = .ok (.iload_n 1, 1) := by decide +kernel
theorem d_P_demandRange_16 : decode prog_1_method_26_code 16 = .ok (.invokevirtual 59, 3) := by decide +kernel
theorem d_P_demandRange_19 : decode prog_1_method_26_code 19 = .ok (.invokestatic 137, 3) := by decide +kernel
theorem d_P_demandRange_22 : decode prog_1_method_26_code 22 = .ok (.iload_n 3, 1) := by decide +kernel
theorem d_P_demandRange_23 : decode prog_1_method_26_code 23 = .ok (.isub, 1) := by decide +kernel
theorem d_P_demandRange_24 : decode prog_1_method_26_code 24 = .ok (.if_icmp .le 13, 3) := by decide +kernel
theorem d_P_demandRange_37 : decode prog_1_method_26_code 37 = .ok (.return_, 1) := by decide +kernel
theorem d_P_demandRange_27 : decode prog_1_method_26_code 27 = .ok (.new 54, 3) := by decide +kernel
theorem d_P_demandRange_30 : decode prog_1_method_26_code 30 = .ok (.dup, 1) := by decide +kernel
theorem d_P_demandRange_31 : decode prog_1_method_26_code 31 = .ok (.ldc 218, 2) := by decide +kernel
theorem d_P_demandRange_33 : decode prog_1_method_26_code 33 = .ok (.invokespecial 58, 3) := by decide +kernel
theorem d_P_demandRange_36 : decode prog_1_method_26_code 36 = .ok (.athrow, 1) := by decide +kernel
theorem d_Y_afterCut_0 : decode prog_6_method_3_code 0 = .ok (.iload_n 1, 1) := by decide +kernel
theorem d_Y_afterCut_1 : decode prog_6_method_3_code 1 = .ok (.iload_n 2, 1) := by decide +kernel
theorem d_Y_afterCut_2 : decode prog_6_method_3_code 2 = .ok (.iadd, 1) := by decide +kernel
theorem d_Y_afterCut_3 : decode prog_6_method_3_code 3 = .ok (.istore_n 3, 1) := by decide +kernel
theorem d_Y_afterCut_4 : decode prog_6_method_3_code 4 = .ok (.aload_n 0, 1) := by decide +kernel
theorem d_Y_afterCut_5 : decode prog_6_method_3_code 5 = .ok (.iload_n 1, 1) := by decide +kernel
theorem d_Y_afterCut_6 : decode prog_6_method_3_code 6 = .ok (.invokestatic 7, 3) := by decide +kernel
theorem d_Y_afterCut_9 : decode prog_6_method_3_code 9 = .ok (.aload_n 0, 1) := by decide +kernel
theorem d_Y_afterCut_10 : decode prog_6_method_3_code 10 = .ok (.iload_n 3, 1) := by decide +kernel
theorem d_Y_afterCut_11 : decode prog_6_method_3_code 11 = .ok (.invokestatic 13, 3) := by decide +kernel
theorem d_Y_afterCut_14 : decode prog_6_method_3_code 14 = .ok (.iadd, 1) := by decide +kernel
theorem d_Y_afterCut_15 : decode prog_6_method_3_code 15 = .ok (.istore 4, 2) := by decide +kernel
theorem d_Y_afterCut_17 : decode prog_6_method_3_code 17 = .ok (.iload_n 3, 1) := by decide +kernel
theorem d_Y_afterCut_18 : decode prog_6_method_3_code 18 = .ok (.aload_n 0, 1) := by decide +kernel
theorem d_Y_afterCut_19 : decode prog_6_method_3_code 19 = .ok (.invokestatic 23, 3) := by decide +kernel
theorem d_Y_afterCut_22 : decode prog_6_method_3_code 22 = .ok (.if_icmp .lt 6, 3) := by decide +kernel
theorem d_Y_afterCut_28 : decode prog_6_method_3_code 28 = .ok (.iload 4, 2) := by decide +kernel
theorem d_Y_afterCut_30 : decode prog_6_method_3_code 30 = .ok (.aload_n 0, 1) := by decide +kernel
theorem d_Y_afterCut_31 : decode prog_6_method_3_code 31 = .ok (.iload_n 1, 1) := by decide +kernel
theorem d_Y_afterCut_32 : decode prog_6_method_3_code 32 = .ok (.aload_n 0, 1) := by decide +kernel
theorem d_Y_afterCut_33 : decode prog_6_method_3_code 33 = .ok (.iload_n 3, 1) := by decide +kernel
theorem d_Y_afterCut_34 : decode prog_6_method_3_code 34 = .ok (.invokestatic 29, 3) := by decide +kernel
theorem d_Y_afterCut_37 : decode prog_6_method_3_code 37 = .ok (.aload_n 0, 1) := by decide +kernel
theorem d_Y_afterCut_38 : decode prog_6_method_3_code 38 = .ok (.iload_n 3, 1) := by decide +kernel
theorem d_Y_afterCut_39 : decode prog_6_method_3_code 39 = .ok (.invokestatic 32, 3) := by decide +kernel
theorem d_Y_afterCut_42 : decode prog_6_method_3_code 42 = .ok (.invokestatic 16, 3) := by decide +kernel
theorem d_Y_afterCut_45 : decode prog_6_method_3_code 45 = .ok (.isub, 1) := by decide +kernel
theorem d_Y_afterCut_46 : decode prog_6_method_3_code 46 = .ok (.ireturn, 1) := by decide +kernel
theorem d_Y_afterCut_25 : decode prog_6_method_3_code 25 = .ok (.iload 4, 2) := by decide +kernel
theorem d_Y_afterCut_27 : decode prog_6_method_3_code 27 = .ok (.ireturn, 1) := by decide +kernel
theorem d_Y_within_0 : decode prog_6_method_6_code 0 = .ok (.iload_n 2, 1) := by decide +kernel
theorem d_Y_within_1 : decode prog_6_method_6_code 1 = .ok (.iconst 1, 1) := by decide +kernel
theorem d_Y_within_2 : decode prog_6_method_6_code 2 = .ok (.if_icmp .ge 7, 3) := by decide +kernel
theorem d_Y_within_9 : decode prog_6_method_6_code 9 = .ok (.aload_n 0, 1) := by decide +kernel
theorem d_Y_within_10 : decode prog_6_method_6_code 10 = .ok (.iload_n 1, 1) := by decide +kernel
theorem d_Y_within_11 : decode prog_6_method_6_code 11 = .ok (.iload_n 2, 1) := by decide +kernel
theorem d_Y_within_12 : decode prog_6_method_6_code 12 = .ok (.iadd, 1) := by decide +kernel
theorem d_Y_within_13 : decode prog_6_method_6_code 13 = .ok (.iconst 1, 1) := by decide +kernel
theorem d_Y_within_14 : decode prog_6_method_6_code 14 = .ok (.isub, 1) := by decide +kernel
theorem d_Y_within_15 : decode prog_6_method_6_code 15 = .ok (.invokestatic 46, 3) := by decide +kernel
theorem d_Y_within_18 : decode prog_6_method_6_code 18 = .ok (.aload_n 0, 1) := by decide +kernel
theorem d_Y_within_19 : decode prog_6_method_6_code 19 = .ok (.iload_n 1, 1) := by decide +kernel
theorem d_Y_within_20 : decode prog_6_method_6_code 20 = .ok (.invokestatic 46, 3) := by decide +kernel
theorem d_Y_within_23 : decode prog_6_method_6_code 23 = .ok (.isub, 1) := by decide +kernel
theorem d_Y_within_24 : decode prog_6_method_6_code 24 = .ok (.iconst 1, 1) := by decide +kernel
theorem d_Y_within_25 : decode prog_6_method_6_code 25 = .ok (.iadd, 1) := by decide +kernel
theorem d_Y_within_5 : decode prog_6_method_6_code 5 = .ok (.iconst 0, 1) := by decide +kernel
theorem d_Y_within_6 : decode prog_6_method_6_code 6 = .ok (.goto 20, 3) := by decide +kernel
theorem d_Y_within_26 : decode prog_6_method_6_code 26 = .ok (.ireturn, 1) := by decide +kernel
theorem d_P_cut_0 : decode prog_1_method_4_code 0 = .ok (.aload_n 0, 1) := by decide +kernel
theorem d_P_cut_1 : decode prog_1_method_4_code 1 = .ok (.iload_n 1, 1) := by decide +kernel
theorem d_P_cut_2 : decode prog_1_method_4_code 2 = .ok (.iload_n 2, 1) := by decide +kernel
theorem d_P_cut_3 : decode prog_1_method_4_code 3 = .ok (.iload_n 3, 1) := by decide +kernel
theorem d_P_cut_4 : decode prog_1_method_4_code 4 = .ok (.invokevirtual 103, 3) := by decide +kernel
theorem d_P_cut_7 : decode prog_1_method_4_code 7 = .ok (.aload_n 0, 1) := by decide +kernel
theorem d_P_cut_8 : decode prog_1_method_4_code 8 = .ok (.iload 4, 2) := by decide +kernel
theorem d_P_cut_10 : decode prog_1_method_4_code 10 = .ok (.invokevirtual 107, 3) := by decide +kernel
theorem d_P_cut_13 : decode prog_1_method_4_code 13 = .ok (.aload_n 0, 1) := by decide +kernel
theorem d_P_cut_14 : decode prog_1_method_4_code 14 = .ok (.iload 4, 2) := by decide +kernel
theorem d_P_cut_16 : decode prog_1_method_4_code 16 = .ok (.iload_n 1, 1) := by decide +kernel
theorem d_P_cut_17 : decode prog_1_method_4_code 17 = .ok (.invokevirtual 111, 3) := by decide +kernel
theorem d_P_cut_20 : decode prog_1_method_4_code 20 = .ok (.aload_n 0, 1) := by decide +kernel
theorem d_P_cut_21 : decode prog_1_method_4_code 21 = .ok (.iload_n 1, 1) := by decide +kernel
theorem d_P_cut_22 : decode prog_1_method_4_code 22 = .ok (.invokevirtual 59, 3) := by decide +kernel
theorem d_P_cut_25 : decode prog_1_method_4_code 25 = .ok (.astore 5, 2) := by decide +kernel
theorem d_P_cut_27 : decode prog_1_method_4_code 27 = .ok (.aload_n 0, 1) := by decide +kernel
theorem d_P_cut_28 : decode prog_1_method_4_code 28 = .ok (.iconst 0, 1) := by decide +kernel
theorem d_P_cut_29 : decode prog_1_method_4_code 29 = .ok (.aload 5, 2) := by decide +kernel
theorem d_P_cut_31 : decode prog_1_method_4_code 31 = .ok (.iload_n 2, 1) := by decide +kernel
theorem d_P_cut_32 : decode prog_1_method_4_code 32 = .ok (.iload_n 3, 1) := by decide +kernel
theorem d_P_cut_33 : decode prog_1_method_4_code 33 = .ok (.invokestatic 114, 3) := by decide +kernel
theorem d_P_cut_36 : decode prog_1_method_4_code 36 = .ok (.aload 5, 2) := by decide +kernel
theorem d_P_cut_38 : decode prog_1_method_4_code 38 = .ok (.iload_n 2, 1) := by decide +kernel
theorem d_P_cut_39 : decode prog_1_method_4_code 39 = .ok (.iload_n 3, 1) := by decide +kernel
theorem d_P_cut_40 : decode prog_1_method_4_code 40 = .ok (.invokestatic 118, 3) := by decide +kernel
theorem d_P_cut_43 : decode prog_1_method_4_code 43 = .ok (.iadd, 1) := by decide +kernel
theorem d_P_cut_44 : decode prog_1_method_4_code 44 = .ok (.aload 5, 2) := by decide +kernel
theorem d_P_cut_46 : decode prog_1_method_4_code 46 = .ok (.invokestatic 69, 3) := by decide +kernel
theorem d_P_cut_49 : decode prog_1_method_4_code 49 = .ok (.isub, 1) := by decide +kernel
theorem d_P_cut_50 : decode prog_1_method_4_code 50 = .ok (.invokevirtual 75, 3) := by decide +kernel
theorem d_P_cut_53 : decode prog_1_method_4_code 53 = .ok (.aload_n 0, 1) := by decide +kernel
theorem d_P_cut_54 : decode prog_1_method_4_code 54 = .ok (.getfield 22, 3) := by decide +kernel
theorem d_P_cut_57 : decode prog_1_method_4_code 57 = .ok (.aload 5, 2) := by decide +kernel
theorem d_P_cut_59 : decode prog_1_method_4_code 59 = .ok (.iload_n 2, 1) := by decide +kernel
theorem d_P_cut_60 : decode prog_1_method_4_code 60 = .ok (.invokevirtual 78, 3) := by decide +kernel
theorem d_P_cut_63 : decode prog_1_method_4_code 63 = .ok (.astore 6, 2) := by decide +kernel
theorem d_P_cut_65 : decode prog_1_method_4_code 65 = .ok (.aload_n 0, 1) := by decide +kernel
theorem d_P_cut_66 : decode prog_1_method_4_code 66 = .ok (.getfield 22, 3) := by decide +kernel
theorem d_P_cut_69 : decode prog_1_method_4_code 69 = .ok (.aload 6, 2) := by decide +kernel
theorem d_P_cut_71 : decode prog_1_method_4_code 71 = .ok (.getfield 96, 3) := by decide +kernel
theorem d_P_cut_74 : decode prog_1_method_4_code 74 = .ok (.iload_n 3, 1) := by decide +kernel
theorem d_P_cut_75 : decode prog_1_method_4_code 75 = .ok (.invokevirtual 78, 3) := by decide +kernel
theorem d_P_cut_78 : decode prog_1_method_4_code 78 = .ok (.astore 7, 2) := by decide +kernel
theorem d_P_cut_80 : decode prog_1_method_4_code 80 = .ok (.aload_n 0, 1) := by decide +kernel
theorem d_P_cut_81 : decode prog_1_method_4_code 81 = .ok (.iload 4, 2) := by decide +kernel
theorem d_P_cut_83 : decode prog_1_method_4_code 83 = .ok (.aload 7, 2) := by decide +kernel
theorem d_P_cut_85 : decode prog_1_method_4_code 85 = .ok (.getfield 86, 3) := by decide +kernel
theorem d_P_cut_88 : decode prog_1_method_4_code 88 = .ok (.invokevirtual 99, 3) := by decide +kernel
theorem d_P_cut_91 : decode prog_1_method_4_code 91 = .ok (.pop, 1) := by decide +kernel
theorem d_P_cut_92 : decode prog_1_method_4_code 92 = .ok (.aload_n 0, 1) := by decide +kernel
theorem d_P_cut_93 : decode prog_1_method_4_code 93 = .ok (.iload_n 1, 1) := by decide +kernel
theorem d_P_cut_94 : decode prog_1_method_4_code 94 = .ok (.aload_n 0, 1) := by decide +kernel
theorem d_P_cut_95 : decode prog_1_method_4_code 95 = .ok (.getfield 22, 3) := by decide +kernel
theorem d_P_cut_98 : decode prog_1_method_4_code 98 = .ok (.aload 6, 2) := by decide +kernel
theorem d_P_cut_100 : decode prog_1_method_4_code 100 = .ok (.getfield 86, 3) := by decide +kernel
theorem d_P_cut_103 : decode prog_1_method_4_code 103 = .ok (.aload 7, 2) := by decide +kernel
theorem d_P_cut_105 : decode prog_1_method_4_code 105 = .ok (.getfield 96, 3) := by decide +kernel
theorem d_P_cut_108 : decode prog_1_method_4_code 108 = .ok (.invokevirtual 92, 3) := by decide +kernel
theorem d_P_cut_111 : decode prog_1_method_4_code 111 = .ok (.invokevirtual 99, 3) := by decide +kernel
theorem d_P_cut_114 : decode prog_1_method_4_code 114 = .ok (.ireturn, 1) := by decide +kernel
theorem d_Y_afterPaste_0 : decode prog_6_method_4_code 0 = .ok (.aload_n 2, 1) := by decide +kernel
theorem d_Y_afterPaste_1 : decode prog_6_method_4_code 1 = .ok (.ifnonnull 8, 3) := by decide +kernel
theorem d_Y_afterPaste_4 : decode prog_6_method_4_code 4 = .ok (.aload_n 0, 1) := by decide +kernel
theorem d_Y_afterPaste_5 : decode prog_6_method_4_code 5 = .ok (.invokestatic 35, 3) := by decide +kernel
theorem d_Y_afterPaste_8 : decode prog_6_method_4_code 8 = .ok (.ireturn, 1) := by decide +kernel
theorem d_Y_afterPaste_9 : decode prog_6_method_4_code 9 = .ok (.aload_n 2, 1) := by decide +kernel
theorem d_Y_afterPaste_10 : decode prog_6_method_4_code 10 = .ok (.invokestatic 23, 3) := by decide +kernel
theorem d_Y_afterPaste_13 : decode prog_6_method_4_code 13 = .ok (.iconst 1, 1) := by decide +kernel
theorem d_Y_afterPaste_14 : decode prog_6_method_4_code 14 = .ok (.isub, 1) := by decide +kernel
theorem d_Y_afterPaste_15 : decode prog_6_method_4_code 15 = .ok (.istore_n 3, 1) := by decide +kernel
theorem d_Y_afterPaste_16 : decode prog_6_method_4_code 16 = .ok (.aload_n 0, 1) := by decide +kernel
theorem d_Y_afterPaste_17 : decode prog_6_method_4_code 17 = .ok (.iload_n 1, 1) := by decide +kernel
theorem d_Y_afterPaste_18 : decode prog_6_method_4_code 18 = .ok (.invokestatic 7, 3) := by decide +kernel
theorem d_Y_afterPaste_21 : decode prog_6_method_4_code 21 = .ok (.aload_n 2, 1) := by decide +kernel
theorem d_Y_afterPaste_22 : decode prog_6_method_4_code 22 = .ok (.invokestatic 35, 3) := by decide +kernel
theorem d_Y_afterPaste_25 : decode prog_6_method_4_code 25 = .ok (.iadd, 1) := by decide +kernel
theorem d_Y_afterPaste_26 : decode prog_6_method_4_code 26 = .ok (.aload_n 0, 1) := by decide +kernel
theorem d_Y_afterPaste_27 : decode prog_6_method_4_code 27 = .ok (.iload_n 1, 1) := by decide +kernel
theorem d_Y_afterPaste_28 : decode prog_6_method_4_code 28 = .ok (.invokestatic 13, 3) := by decide +kernel
theorem d_Y_afterPaste_31 : decode prog_6_method_4_code 31 = .ok (.iadd, 1) := by decide +kernel
theorem d_Y_afterPaste_32 : decode prog_6_method_4_code 32 = .ok (.aload_n 0, 1) := by decide +kernel
theorem d_Y_afterPaste_33 : decode prog_6_method_4_code 33 = .ok (.iload_n 1, 1) := by decide +kernel
theorem d_Y_afterPaste_34 : decode prog_6_method_4_code 34 = .ok (.aload_n 2, 1) := by decide +kernel
theorem d_Y_afterPaste_35 : decode prog_6_method_4_code 35 = .ok (.iconst 0, 1) := by decide +kernel
theorem d_Y_afterPaste_36 : decode prog_6_method_4_code 36 = .ok (.invokestatic 29, 3) := by decide +kernel
theorem d_Y_afterPaste_39 : decode prog_6_method_4_code 39 = .ok (.aload_n 2, 1) := by decide +kernel
theorem d_Y_afterPaste_40 : decode prog_6_method_4_code 40 = .ok (.iconst 0, 1) := by decide +kernel
theorem d_Y_afterPaste_41 : decode prog_6_method_4_code 41 = .ok (.invokestatic 32, 3) := by decide +kernel
theorem d_Y_afterPaste_44 : decode prog_6_method_4_code 44 = .ok (.invokestatic 16, 3) := by decide +kernel
theorem d_Y_afterPaste_47 : decode prog_6_method_4_code 47 = .ok (.isub, 1) := by decide +kernel
theorem d_Y_afterPaste_48 : decode prog_6_method_4_code 48 = .ok (.aload_n 0, 1) := by decide +kernel
theorem d_Y_afterPaste_49 : decode prog_6_method_4_code 49 = .ok (.iload_n 1, 1) := by decide +kernel
theorem d_Y_afterPaste_50 : decode prog_6_method_4_code 50 = .ok (.aload_n 2, 1) := by decide +kernel
theorem d_Y_afterPaste_51 : decode prog_6_method_4_code 51 = .ok (.iload_n 3, 1) := by decide +kernel
theorem d_Y_afterPaste_52 : decode prog_6_method_4_code 52 = .ok (.invokestatic 29, 3) := by decide +kernel
theorem d_Y_afterPaste_55 : decode prog_6_method_4_code 55 = .ok (.aload_n 2, 1) := by decide +kernel
theorem d_Y_afterPaste_56 : decode prog_6_method_4_code 56 = .ok (.iload_n 3, 1) := by decide +kernel
theorem d_Y_afterPaste_57 : decode prog_6_method_4_code 57 = .ok (.invokestatic 32, 3) := by decide +kernel
theorem d_Y_afterPaste_60 : decode prog_6_method_4_code 60 = .ok (.invokestatic 20, 3) := by decide +kernel
theorem d_Y_afterPaste_63 : decode prog_6_method_4_code 63 = .ok (.isub, 1) := by decide +kernel
theorem d_Y_afterPaste_64 : decode prog_6_method_4_code 64 = .ok (.ireturn, 1) := by decide +kernel
theorem d_P_paste_0 : decode prog_1_method_5_code 0 = .ok (.aload_n 0, 1) := by decide +kernel
theorem d_P_paste_1 : decode prog_1_method_5_code 1 = .ok (.iload_n 1, 1) := by decide +kernel
theorem d_P_paste_2 : decode prog_1_method_5_code 2 = .ok (.iload_n 2, 1) := by decide +kernel
theorem d_P_paste_3 : decode prog_1_method_5_code 3 = .ok (.invokevirtual 50, 3) := by decide +kernel
theorem d_P_paste_6 : decode prog_1_method_5_code 6 = .ok (.aload_n 0, 1) := by decide +kernel
theorem d_P_paste_7 : decode prog_1_method_5_code 7 = .ok (.iload_n 3, 1) := by decide +kernel
theorem d_P_paste_8 : decode prog_1_method_5_code 8 = .ok (.invokevirtual 107, 3) := by decide +kernel
theorem d_P_paste_11 : decode prog_1_method_5_code 11 = .ok (.iload_n 3, 1) := by decide +kernel
theorem d_P_paste_12 : decode prog_1_method_5_code 12 = .ok (.iload_n 1, 1) := by decide +kernel
theorem d_P_paste_13 : decode prog_1_method_5_code 13 = .ok (.if_icmp .ne 13, 3) := by decide +kernel
theorem d_P_paste_26 : decode prog_1_method_5_code 26 = .ok (.aload_n 0, 1) := by decide +kernel
theorem d_P_paste_27 : decode prog_1_method_5_code 27 = .ok (.iload_n 1, 1) := by decide +kernel
theorem d_P_paste_28 : decode prog_1_method_5_code 28 = .ok (.invokevirtual 59, 3) := by decide +kernel
theorem d_P_paste_31 : decode prog_1_method_5_code 31 = .ok (.astore 4, 2) := by decide +kernel
theorem d_P_paste_33 : decode prog_1_method_5_code 33 = .ok (.aload_n 0, 1) := by decide +kernel
theorem d_P_paste_34 : decode prog_1_method_5_code 34 = .ok (.iload_n 3, 1) := by decide +kernel
theorem d_P_paste_35 : decode prog_1_method_5_code 35 = .ok (.invokevirtual 59, 3) := by decide +kernel
theorem d_P_paste_38 : decode prog_1_method_5_code 38 = .ok (.astore 5, 2) := by decide +kernel
theorem d_P_paste_40 : decode prog_1_method_5_code 40 = .ok (.aload_n 0, 1) := by decide +kernel
theorem d_P_paste_41 : decode prog_1_method_5_code 41 = .ok (.iconst 0, 1) := by decide +kernel
theorem d_P_paste_42 : decode prog_1_method_5_code 42 = .ok (.aload 4, 2) := by decide +kernel
theorem d_P_paste_44 : decode prog_1_method_5_code 44 = .ok (.iload_n 2, 1) := by decide +kernel
theorem d_P_paste_45 : decode prog_1_method_5_code 45 = .ok (.aload 5, 2) := by decide +kernel
theorem d_P_paste_47 : decode prog_1_method_5_code 47 = .ok (.invokestatic 123, 3) := by decide +kernel
theorem d_P_paste_50 : decode prog_1_method_5_code 50 = .ok (.aload 4, 2) := by decide +kernel
theorem d_P_paste_52 : decode prog_1_method_5_code 52 = .ok (.invokestatic 69, 3) := by decide +kernel
theorem d_P_paste_55 : decode prog_1_method_5_code 55 = .ok (.isub, 1) := by decide +kernel
theorem d_P_paste_56 : decode prog_1_method_5_code 56 = .ok (.aload 5, 2) := by decide +kernel
theorem d_P_paste_58 : decode prog_1_method_5_code 58 = .ok (.invokestatic 69, 3) := by decide +kernel
theorem d_P_paste_61 : decode prog_1_method_5_code 61 = .ok (.isub, 1) := by decide +kernel
theorem d_P_paste_62 : decode prog_1_method_5_code 62 = .ok (.invokevirtual 75, 3) := by decide +kernel
theorem d_P_paste_65 : decode prog_1_method_5_code 65 = .ok (.aload_n 0, 1) := by decide +kernel
theorem d_P_paste_66 : decode prog_1_method_5_code 66 = .ok (.getfield 22, 3) := by decide +kernel
theorem d_P_paste_69 : decode prog_1_method_5_code 69 = .ok (.aload 4, 2) := by decide +kernel
theorem d_P_paste_71 : decode prog_1_method_5_code 71 = .ok (.iload_n 2, 1) := by decide +kernel
theorem d_P_paste_72 : decode prog_1_method_5_code 72 = .ok (.invokevirtual 78, 3) := by decide +kernel
theorem d_P_paste_75 : decode prog_1_method_5_code 75 = .ok (.astore 6, 2) := by decide +kernel
theorem d_P_paste_77 : decode prog_1_method_5_code 77 = .ok (.aload_n 0, 1) := by decide +kernel
theorem d_P_paste_78 : decode prog_1_method_5_code 78 = .ok (.iload_n 3, 1) := by decide +kernel
theorem d_P_paste_79 : decode prog_1_method_5_code 79 = .ok (.aconst_null, 1) := by decide +kernel
theorem d_P_paste_80 : decode prog_1_method_5_code 80 = .ok (.invokevirtual 99, 3) := by decide +kernel
theorem d_P_paste_83 : decode prog_1_method_5_code 83 = .ok (.pop, 1) := by decide +kernel
theorem d_P_paste_84 : decode prog_1_method_5_code 84 = .ok (.aload_n 0, 1) := by decide +kernel
theorem d_P_paste_85 : decode prog_1_method_5_code 85 = .ok (.iload_n 1, 1) := by decide +kernel
theorem d_P_paste_86 : decode prog_1_method_5_code 86 = .ok (.aload_n 0, 1) := by decide +kernel
theorem d_P_paste_87 : decode prog_1_method_5_code 87 = .ok (.getfield 22, 3) := by decide +kernel
theorem d_P_paste_90 : decode prog_1_method_5_code 90 = .ok (.aload_n 0, 1) := by decide +kernel
theorem d_P_paste_91 : decode prog_1_method_5_code 91 = .ok (.getfield 22, 3) := by decide +kernel
theorem d_P_paste_94 : decode prog_1_method_5_code 94 = .ok (.aload 6, 2) := by decide +kernel
theorem d_P_paste_96 : decode prog_1_method_5_code 96 = .ok (.getfield 86, 3) := by decide +kernel
theorem d_P_paste_99 : decode prog_1_method_5_code 99 = .ok (.aload 5, 2) := by decide +kernel
theorem d_P_paste_101 : decode prog_1_method_5_code 101 = .ok (.invokevirtual 92, 3) := by decide +kernel
theorem d_P_paste_104 : decode prog_1_method_5_code 104 = .ok (.aload 6, 2) := by decide +kernel
theorem d_P_paste_106 : decode prog_1_method_5_code 106 = .ok (.getfield 96, 3) := by decide +kernel
theorem d_P_paste_109 : decode prog_1_method_5_code 109 = .ok (.invokevirtual 92, 3) := by decide +kernel
theorem d_P_paste_112 : decode prog_1_method_5_code 112 = .ok (.invokevirtual 99, 3) := by decide +kernel
theorem d_P_paste_115 : decode prog_1_method_5_code 115 = .ok (.ireturn, 1) := by decide +kernel
theorem d_P_paste_16 : decode prog_1_method_5_code 16 = .ok (.new 30, 3) := by decide +kernel
theorem d_P_paste_19 : decode prog_1_method_5_code 19 = .ok (.dup, 1) := by decide +kernel
theorem d_P_paste_20 : decode prog_1_method_5_code 20 = .ok (.ldc 121, 2) := by decide +kernel
theorem d_P_paste_22 : decode prog_1_method_5_code 22 = .ok (.invokespecial 34, 3) := by decide +kernel
theorem d_P_paste_25 : decode prog_1_method_5_code 25 = .ok (.athrow, 1) := by decide +kernel
theorem d_T_twin_0 : decode prog_7_method_8_code 0 = .ok (.aload_n 1, 1) := by decide +kernel
theorem d_T_twin_1 : decode prog_7_method_8_code 1 = .ok (.ifnull 14, 3) := by decide +kernel
theorem d_T_twin_4 : decode prog_7_method_8_code 4 = .ok (.iload_n 2, 1) := by decide +kernel
theorem d_T_twin_5 : decode prog_7_method_8_code 5 = .ok (.iload_n 3, 1) := by decide +kernel
theorem d_T_twin_6 : decode prog_7_method_8_code 6 = .ok (.if_icmp .ge 9, 3) := by decide +kernel
theorem d_T_twin_9 : decode prog_7_method_8_code 9 = .ok (.iload 4, 2) := by decide +kernel
theorem d_T_twin_11 : decode prog_7_method_8_code 11 = .ok (.iconst 1, 1) := by decide +kernel
theorem d_T_twin_12 : decode prog_7_method_8_code 12 = .ok (.if_icmp .ge 5, 3) := by decide +kernel
theorem d_T_twin_17 : decode prog_7_method_8_code 17 = .ok (.aload_n 1, 1) := by decide +kernel
theorem d_T_twin_18 : decode prog_7_method_8_code 18 = .ok (.getfield 35, 3) := by decide +kernel
theorem d_T_twin_21 : decode prog_7_method_8_code 21 = .ok (.invokestatic 55, 3) := by decide +kernel
theorem d_T_twin_24 : decode prog_7_method_8_code 24 = .ok (.istore 5, 2) := by decide +kernel
theorem d_T_twin_26 : decode prog_7_method_8_code 26 = .ok (.iload 5, 2) := by decide +kernel
theorem d_T_twin_28 : decode prog_7_method_8_code 28 = .ok (.aload_n 1, 1) := by decide +kernel
theorem d_T_twin_29 : decode prog_7_method_8_code 29 = .ok (.getfield 25, 3) := by decide +kernel
theorem d_T_twin_32 : decode prog_7_method_8_code 32 = .ok (.iadd, 1) := by decide +kernel
theorem d_T_twin_33 : decode prog_7_method_8_code 33 = .ok (.istore 6, 2) := by decide +kernel
theorem d_T_twin_35 : decode prog_7_method_8_code 35 = .ok (.aload_n 0, 1) := by decide +kernel
theorem d_T_twin_36 : decode prog_7_method_8_code 36 = .ok (.aload_n 1, 1) := by decide +kernel
theorem d_T_twin_37 : decode prog_7_method_8_code 37 = .ok (.getfield 35, 3) := by decide +kernel
theorem d_T_twin_40 : decode prog_7_method_8_code 40 = .ok (.iload_n 2, 1) := by decide +kernel
theorem d_T_twin_41 : decode prog_7_method_8_code 41 = .ok (.iload_n 3, 1) := by decide +kernel
theorem d_T_twin_42 : decode prog_7_method_8_code 42 = .ok (.iload 5, 2) := by decide +kernel
theorem d_T_twin_44 : decode prog_7_method_8_code 44 = .ok (.invokestatic 82, 3) := by decide +kernel
theorem d_T_twin_47 : decode prog_7_method_8_code 47 = .ok (.iload 4, 2) := by decide +kernel
theorem d_T_twin_49 : decode prog_7_method_8_code 49 = .ok (.iconst 1, 1) := by decide +kernel
theorem d_T_twin_50 : decode prog_7_method_8_code 50 = .ok (.isub, 1) := by decide +kernel
theorem d_T_twin_51 : decode prog_7_method_8_code 51 = .ok (.invokevirtual 88, 3) := by decide +kernel
theorem d_T_twin_54 : decode prog_7_method_8_code 54 = .ok (.astore 7, 2) := by decide +kernel
theorem d_T_twin_56 : decode prog_7_method_8_code 56 = .ok (.aload_n 0, 1) := by decide +kernel
theorem d_T_twin_57 : decode prog_7_method_8_code 57 = .ok (.aload_n 1, 1) := by decide +kernel
theorem d_T_twin_58 : decode prog_7_method_8_code 58 = .ok (.getfield 18, 3) := by decide +kernel
theorem d_T_twin_61 : decode prog_7_method_8_code 61 = .ok (.iload_n 2, 1) := by decide +kernel
theorem d_T_twin_62 : decode prog_7_method_8_code 62 = .ok (.iload 6, 2) := by decide +kernel
theorem d_T_twin_64 : decode prog_7_method_8_code 64 = .ok (.invokestatic 92, 3) := by decide +kernel
theorem d_T_twin_67 : decode prog_7_method_8_code 67 = .ok (.iload 6, 2) := by decide +kernel
theorem d_T_twin_69 : decode prog_7_method_8_code 69 = .ok (.isub, 1) := by decide +kernel
theorem d_T_twin_70 : decode prog_7_method_8_code 70 = .ok (.iload_n 3, 1) := by decide +kernel
theorem d_T_twin_71 : decode prog_7_method_8_code 71 = .ok (.iload 6, 2) := by decide +kernel
theorem d_T_twin_73 : decode prog_7_method_8_code 73 = .ok (.isub, 1) := by decide +kernel
theorem d_T_twin_74 : decode prog_7_method_8_code 74 = .ok (.iload 4, 2) := by decide +kernel
theorem d_T_twin_76 : decode prog_7_method_8_code 76 = .ok (.iconst 1, 1) := by decide +kernel
theorem d_T_twin_77 : decode prog_7_method_8_code 77 = .ok (.isub, 1) := by decide +kernel
theorem d_T_twin_78 : decode prog_7_method_8_code 78 = .ok (.invokevirtual 88, 3) := by decide +kernel
theorem d_T_twin_81 : decode prog_7_method_8_code 81 = .ok (.astore 8, 2) := by decide +kernel
theorem d_T_twin_83 : decode prog_7_method_8_code 83 = .ok (.iload_n 2, 1) := by decide +kernel
theorem d_T_twin_84 : decode prog_7_method_8_code 84 = .ok (.iload 5, 2) := by decide +kernel
theorem d_T_twin_86 : decode prog_7_method_8_code 86 = .ok (.invokestatic 92, 3) := by decide +kernel
theorem d_T_twin_89 : decode prog_7_method_8_code 89 = .ok (.istore 9, 2) := by decide +kernel
theorem d_T_twin_91 : decode prog_7_method_8_code 91 = .ok (.iload_n 3, 1) := by decide +kernel
theorem d_T_twin_92 : decode prog_7_method_8_code 92 = .ok (.iload 6, 2) := by decide +kernel
theorem d_T_twin_94 : decode prog_7_method_8_code 94 = .ok (.invokestatic 82, 3) := by decide +kernel
theorem d_T_twin_97 : decode prog_7_method_8_code 97 = .ok (.istore 10, 2) := by decide +kernel
theorem d_T_twin_99 : decode prog_7_method_8_code 99 = .ok (.iload 9, 2) := by decide +kernel
theorem d_T_twin_101 : decode prog_7_method_8_code 101 = .ok (.iload 10, 2) := by decide +kernel
theorem d_T_twin_103 : decode prog_7_method_8_code 103 = .ok (.if_icmp .lt 16, 3) := by decide +kernel
theorem d_T_twin_119 : decode prog_7_method_8_code 119 = .ok (.aload 7, 2) := by decide +kernel
theorem d_T_twin_121 : decode prog_7_method_8_code 121 = .ok (.aload_n 0, 1) := by decide +kernel
theorem d_T_twin_122 : decode prog_7_method_8_code 122 = .ok (.aload_n 1, 1) := by decide +kernel
theorem d_T_twin_123 : decode prog_7_method_8_code 123 = .ok (.getfield 21, 3) := by decide +kernel
theorem d_T_twin_126 : decode prog_7_method_8_code 126 = .ok (.iload 9, 2) := by decide +kernel
theorem d_T_twin_128 : decode prog_7_method_8_code 128 = .ok (.iadd, 1) := by decide +kernel
theorem d_T_twin_129 : decode prog_7_method_8_code 129 = .ok (.iload 5, 2) := by decide +kernel
theorem d_T_twin_131 : decode prog_7_method_8_code 131 = .ok (.isub, 1) := by decide +kernel
theorem d_T_twin_132 : decode prog_7_method_8_code 132 = .ok (.iload 10, 2) := by decide +kernel
theorem d_T_twin_134 : decode prog_7_method_8_code 134 = .ok (.iload 9, 2) := by decide +kernel
theorem d_T_twin_136 : decode prog_7_method_8_code 136 = .ok (.isub, 1) := by decide +kernel
theorem d_T_twin_137 : decode prog_7_method_8_code 137 = .ok (.aload_n 1, 1) := by decide +kernel
theorem d_T_twin_138 : decode prog_7_method_8_code 138 = .ok (.getfield 28, 3) := by decide +kernel
theorem d_T_twin_141 : decode prog_7_method_8_code 141 = .ok (.invokevirtual 65, 3) := by decide +kernel
theorem d_T_twin_144 : decode prog_7_method_8_code 144 = .ok (.aload 8, 2) := by decide +kernel
theorem d_T_twin_146 : decode prog_7_method_8_code 146 = .ok (.bipush 40, 2) := by decide +kernel
theorem d_T_twin_148 : decode prog_7_method_8_code 148 = .ok (.invokestatic 61, 3) := by decide +kernel
