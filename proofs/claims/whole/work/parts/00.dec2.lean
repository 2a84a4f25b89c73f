theorem d_T_twin_151 : decode prog_7_method_8_code 151 = .ok (.areturn, 1) := by decide +kernel
theorem d_T_twin_106 : decode prog_7_method_8_code 106 = .ok (.aload 7, 2) := by decide +kernel
theorem d_T_twin_108 : decode prog_7_method_8_code 108 = .ok (.ifnonnull 8, 3) := by decide +kernel
theorem d_T_twin_111 : decode prog_7_method_8_code 111 = .ok (.aload 8, 2) := by decide +kernel
theorem d_T_twin_113 : decode prog_7_method_8_code 113 = .ok (.goto 5, 3) := by decide +kernel
theorem d_T_twin_116 : decode prog_7_method_8_code 116 = .ok (.aload 7, 2) := by decide +kernel
theorem d_T_twin_15 : decode prog_7_method_8_code 15 = .ok (.aconst_null, 1) := by decide +kernel
theorem d_T_twin_16 : decode prog_7_method_8_code 16 = .ok (.areturn, 1) := by decide +kernel
theorem d_T_twin_118 : decode prog_7_method_8_code 118 = .ok (.areturn, 1) := by decide +kernel
theorem d_P_copy_0 : decode prog_1_method_6_code 0 = .ok (.aload_n 0, 1) := by decide +kernel
theorem d_P_copy_1 : decode prog_1_method_6_code 1 = .ok (.iload_n 1, 1) := by decide +kernel
theorem d_P_copy_2 : decode prog_1_method_6_code 2 = .ok (.iload_n 2, 1) := by decide +kernel
theorem d_P_copy_3 : decode prog_1_method_6_code 3 = .ok (.iload_n 3, 1) := by decide +kernel
theorem d_P_copy_4 : decode prog_1_method_6_code 4 = .ok (.invokevirtual 103, 3) := by decide +kernel
theorem d_P_copy_7 : decode prog_1_method_6_code 7 = .ok (.aload_n 0, 1) := by decide +kernel
theorem d_P_copy_8 : decode prog_1_method_6_code 8 = .ok (.iload 4, 2) := by decide +kernel
theorem d_P_copy_10 : decode prog_1_method_6_code 10 = .ok (.invokevirtual 107, 3) := by decide +kernel
theorem d_P_copy_13 : decode prog_1_method_6_code 13 = .ok (.aload_n 0, 1) := by decide +kernel
theorem d_P_copy_14 : decode prog_1_method_6_code 14 = .ok (.iload 4, 2) := by decide +kernel
theorem d_P_copy_16 : decode prog_1_method_6_code 16 = .ok (.iload_n 1, 1) := by decide +kernel
theorem d_P_copy_17 : decode prog_1_method_6_code 17 = .ok (.invokevirtual 111, 3) := by decide +kernel
theorem d_P_copy_20 : decode prog_1_method_6_code 20 = .ok (.aload_n 0, 1) := by decide +kernel
theorem d_P_copy_21 : decode prog_1_method_6_code 21 = .ok (.iload_n 1, 1) := by decide +kernel
theorem d_P_copy_22 : decode prog_1_method_6_code 22 = .ok (.invokevirtual 59, 3) := by decide +kernel
theorem d_P_copy_25 : decode prog_1_method_6_code 25 = .ok (.astore 5, 2) := by decide +kernel
theorem d_P_copy_27 : decode prog_1_method_6_code 27 = .ok (.aload_n 0, 1) := by decide +kernel
theorem d_P_copy_28 : decode prog_1_method_6_code 28 = .ok (.iload_n 3, 1) := by decide +kernel
theorem d_P_copy_29 : decode prog_1_method_6_code 29 = .ok (.aload 5, 2) := by decide +kernel
theorem d_P_copy_31 : decode prog_1_method_6_code 31 = .ok (.iload_n 2, 1) := by decide +kernel
theorem d_P_copy_32 : decode prog_1_method_6_code 32 = .ok (.iload_n 3, 1) := by decide +kernel
theorem d_P_copy_33 : decode prog_1_method_6_code 33 = .ok (.invokestatic 118, 3) := by decide +kernel
theorem d_P_copy_36 : decode prog_1_method_6_code 36 = .ok (.invokevirtual 75, 3) := by decide +kernel
theorem d_P_copy_39 : decode prog_1_method_6_code 39 = .ok (.aload_n 0, 1) := by decide +kernel
theorem d_P_copy_40 : decode prog_1_method_6_code 40 = .ok (.iload 4, 2) := by decide +kernel
theorem d_P_copy_42 : decode prog_1_method_6_code 42 = .ok (.aload_n 0, 1) := by decide +kernel
theorem d_P_copy_43 : decode prog_1_method_6_code 43 = .ok (.getfield 22, 3) := by decide +kernel
theorem d_P_copy_46 : decode prog_1_method_6_code 46 = .ok (.aload 5, 2) := by decide +kernel
theorem d_P_copy_48 : decode prog_1_method_6_code 48 = .ok (.iload_n 2, 1) := by decide +kernel
theorem d_P_copy_49 : decode prog_1_method_6_code 49 = .ok (.iload_n 2, 1) := by decide +kernel
theorem d_P_copy_50 : decode prog_1_method_6_code 50 = .ok (.iload_n 3, 1) := by decide +kernel
theorem d_P_copy_51 : decode prog_1_method_6_code 51 = .ok (.iadd, 1) := by decide +kernel
theorem d_P_copy_52 : decode prog_1_method_6_code 52 = .ok (.bipush 40, 2) := by decide +kernel
theorem d_P_copy_54 : decode prog_1_method_6_code 54 = .ok (.invokevirtual 127, 3) := by decide +kernel
theorem d_P_copy_57 : decode prog_1_method_6_code 57 = .ok (.invokevirtual 99, 3) := by decide +kernel
theorem d_P_copy_60 : decode prog_1_method_6_code 60 = .ok (.pop, 1) := by decide +kernel
theorem d_P_copy_61 : decode prog_1_method_6_code 61 = .ok (.aload_n 0, 1) := by decide +kernel
theorem d_P_copy_62 : decode prog_1_method_6_code 62 = .ok (.iload 4, 2) := by decide +kernel
theorem d_P_copy_64 : decode prog_1_method_6_code 64 = .ok (.invokevirtual 59, 3) := by decide +kernel
theorem d_P_copy_67 : decode prog_1_method_6_code 67 = .ok (.invokestatic 69, 3) := by decide +kernel
theorem d_P_copy_70 : decode prog_1_method_6_code 70 = .ok (.ireturn, 1) := by decide +kernel
theorem d_Y_tagged_0 : decode prog_6_method_12_code 0 = .ok (.iload_n 0, 1) := by decide +kernel
theorem d_Y_tagged_1 : decode prog_6_method_12_code 1 = .ok (.iload_n 1, 1) := by decide +kernel
theorem d_Y_tagged_2 : decode prog_6_method_12_code 2 = .ok (.iconst (-1), 1) := by decide +kernel
theorem d_Y_tagged_3 : decode prog_6_method_12_code 3 = .ok (.ixor, 1) := by decide +kernel
theorem d_Y_tagged_4 : decode prog_6_method_12_code 4 = .ok (.iand, 1) := by decide +kernel
theorem d_Y_tagged_5 : decode prog_6_method_12_code 5 = .ok (.iload_n 2, 1) := by decide +kernel
theorem d_Y_tagged_6 : decode prog_6_method_12_code 6 = .ok (.iload_n 1, 1) := by decide +kernel
theorem d_Y_tagged_7 : decode prog_6_method_12_code 7 = .ok (.iand, 1) := by decide +kernel
theorem d_Y_tagged_8 : decode prog_6_method_12_code 8 = .ok (.ior, 1) := by decide +kernel
theorem d_Y_tagged_9 : decode prog_6_method_12_code 9 = .ok (.ireturn, 1) := by decide +kernel
theorem d_Y_withinTagged_0 : decode prog_6_method_7_code 0 = .ok (.aload_n 0, 1) := by decide +kernel
theorem d_Y_withinTagged_1 : decode prog_6_method_7_code 1 = .ok (.iload_n 1, 1) := by decide +kernel
theorem d_Y_withinTagged_2 : decode prog_6_method_7_code 2 = .ok (.invokestatic 46, 3) := by decide +kernel
theorem d_Y_withinTagged_5 : decode prog_6_method_7_code 5 = .ok (.istore 5, 2) := by decide +kernel
theorem d_Y_withinTagged_7 : decode prog_6_method_7_code 7 = .ok (.aload_n 0, 1) := by decide +kernel
theorem d_Y_withinTagged_8 : decode prog_6_method_7_code 8 = .ok (.iload_n 1, 1) := by decide +kernel
theorem d_Y_withinTagged_9 : decode prog_6_method_7_code 9 = .ok (.iload_n 2, 1) := by decide +kernel
theorem d_Y_withinTagged_10 : decode prog_6_method_7_code 10 = .ok (.iadd, 1) := by decide +kernel
theorem d_Y_withinTagged_11 : decode prog_6_method_7_code 11 = .ok (.iconst 1, 1) := by decide +kernel
theorem d_Y_withinTagged_12 : decode prog_6_method_7_code 12 = .ok (.isub, 1) := by decide +kernel
theorem d_Y_withinTagged_13 : decode prog_6_method_7_code 13 = .ok (.invokestatic 46, 3) := by decide +kernel
theorem d_Y_withinTagged_16 : decode prog_6_method_7_code 16 = .ok (.istore 6, 2) := by decide +kernel
theorem d_Y_withinTagged_18 : decode prog_6_method_7_code 18 = .ok (.iconst 1, 1) := by decide +kernel
theorem d_Y_withinTagged_19 : decode prog_6_method_7_code 19 = .ok (.istore 7, 2) := by decide +kernel
theorem d_Y_withinTagged_21 : decode prog_6_method_7_code 21 = .ok (.aload_n 0, 1) := by decide +kernel
theorem d_Y_withinTagged_22 : decode prog_6_method_7_code 22 = .ok (.iload 5, 2) := by decide +kernel
theorem d_Y_withinTagged_24 : decode prog_6_method_7_code 24 = .ok (.invokestatic 49, 3) := by decide +kernel
theorem d_Y_withinTagged_27 : decode prog_6_method_7_code 27 = .ok (.astore 8, 2) := by decide +kernel
theorem d_Y_withinTagged_29 : decode prog_6_method_7_code 29 = .ok (.iload 5, 2) := by decide +kernel
theorem d_Y_withinTagged_31 : decode prog_6_method_7_code 31 = .ok (.iconst 1, 1) := by decide +kernel
theorem d_Y_withinTagged_32 : decode prog_6_method_7_code 32 = .ok (.iadd, 1) := by decide +kernel
theorem d_Y_withinTagged_33 : decode prog_6_method_7_code 33 = .ok (.istore 9, 2) := by decide +kernel
theorem d_Y_withinTagged_35 : decode prog_6_method_7_code 35 = .ok (.iload 9, 2) := by decide +kernel
theorem d_Y_withinTagged_37 : decode prog_6_method_7_code 37 = .ok (.iload 6, 2) := by decide +kernel
theorem d_Y_withinTagged_39 : decode prog_6_method_7_code 39 = .ok (.if_icmp .gt 78, 3) := by decide +kernel
theorem d_Y_withinTagged_117 : decode prog_6_method_7_code 117 = .ok (.iload 7, 2) := by decide +kernel
theorem d_Y_withinTagged_119 : decode prog_6_method_7_code 119 = .ok (.ireturn, 1) := by decide +kernel
theorem d_Y_withinTagged_42 : decode prog_6_method_7_code 42 = .ok (.aload_n 0, 1) := by decide +kernel
theorem d_Y_withinTagged_43 : decode prog_6_method_7_code 43 = .ok (.iload 9, 2) := by decide +kernel
theorem d_Y_withinTagged_45 : decode prog_6_method_7_code 45 = .ok (.invokestatic 49, 3) := by decide +kernel
theorem d_Y_withinTagged_48 : decode prog_6_method_7_code 48 = .ok (.astore 10, 2) := by decide +kernel
theorem d_Y_withinTagged_50 : decode prog_6_method_7_code 50 = .ok (.aload 8, 2) := by decide +kernel
theorem d_Y_withinTagged_52 : decode prog_6_method_7_code 52 = .ok (.ifnull 52, 3) := by decide +kernel
theorem d_Y_withinTagged_55 : decode prog_6_method_7_code 55 = .ok (.aload 10, 2) := by decide +kernel
theorem d_Y_withinTagged_57 : decode prog_6_method_7_code 57 = .ok (.ifnull 47, 3) := by decide +kernel
theorem d_Y_withinTagged_60 : decode prog_6_method_7_code 60 = .ok (.aload 8, 2) := by decide +kernel
theorem d_Y_withinTagged_62 : decode prog_6_method_7_code 62 = .ok (.getfield 53, 3) := by decide +kernel
theorem d_Y_withinTagged_65 : decode prog_6_method_7_code 65 = .ok (.aload 8, 2) := by decide +kernel
theorem d_Y_withinTagged_67 : decode prog_6_method_7_code 67 = .ok (.getfield 59, 3) := by decide +kernel
theorem d_Y_withinTagged_70 : decode prog_6_method_7_code 70 = .ok (.iadd, 1) := by decide +kernel
theorem d_Y_withinTagged_71 : decode prog_6_method_7_code 71 = .ok (.aload 10, 2) := by decide +kernel
theorem d_Y_withinTagged_73 : decode prog_6_method_7_code 73 = .ok (.getfield 53, 3) := by decide +kernel
theorem d_Y_withinTagged_76 : decode prog_6_method_7_code 76 = .ok (.if_icmp .ne 28, 3) := by decide +kernel
theorem d_Y_withinTagged_79 : decode prog_6_method_7_code 79 = .ok (.aload 8, 2) := by decide +kernel
theorem d_Y_withinTagged_81 : decode prog_6_method_7_code 81 = .ok (.getfield 62, 3) := by decide +kernel
theorem d_Y_withinTagged_84 : decode prog_6_method_7_code 84 = .ok (.iload_n 3, 1) := by decide +kernel
theorem d_Y_withinTagged_85 : decode prog_6_method_7_code 85 = .ok (.iload 4, 2) := by decide +kernel
theorem d_Y_withinTagged_87 : decode prog_6_method_7_code 87 = .ok (.invokestatic 38, 3) := by decide +kernel
theorem d_Y_withinTagged_90 : decode prog_6_method_7_code 90 = .ok (.aload 10, 2) := by decide +kernel
theorem d_Y_withinTagged_92 : decode prog_6_method_7_code 92 = .ok (.getfield 62, 3) := by decide +kernel
theorem d_Y_withinTagged_95 : decode prog_6_method_7_code 95 = .ok (.iload_n 3, 1) := by decide +kernel
theorem d_Y_withinTagged_96 : decode prog_6_method_7_code 96 = .ok (.iload 4, 2) := by decide +kernel
theorem d_Y_withinTagged_98 : decode prog_6_method_7_code 98 = .ok (.invokestatic 38, 3) := by decide +kernel
theorem d_Y_withinTagged_101 : decode prog_6_method_7_code 101 = .ok (.if_icmp .eq 6, 3) := by decide +kernel
theorem d_Y_withinTagged_104 : decode prog_6_method_7_code 104 = .ok (.iinc 7 1, 3) := by decide +kernel
theorem d_Y_withinTagged_107 : decode prog_6_method_7_code 107 = .ok (.aload 10, 2) := by decide +kernel
theorem d_Y_withinTagged_109 : decode prog_6_method_7_code 109 = .ok (.astore 8, 2) := by decide +kernel
theorem d_Y_withinTagged_111 : decode prog_6_method_7_code 111 = .ok (.iinc 9 1, 3) := by decide +kernel
theorem d_Y_withinTagged_114 : decode prog_6_method_7_code 114 = .ok (.goto (-79), 3) := by decide +kernel
theorem d_Y_afterTag_0 : decode prog_6_method_5_code 0 = .ok (.iload_n 2, 1) := by decide +kernel
theorem d_Y_afterTag_1 : decode prog_6_method_5_code 1 = .ok (.iconst 1, 1) := by decide +kernel
theorem d_Y_afterTag_2 : decode prog_6_method_5_code 2 = .ok (.if_icmp .ge 8, 3) := by decide +kernel
theorem d_Y_afterTag_10 : decode prog_6_method_5_code 10 = .ok (.iload_n 1, 1) := by decide +kernel
theorem d_Y_afterTag_11 : decode prog_6_method_5_code 11 = .ok (.iload_n 2, 1) := by decide +kernel
theorem d_Y_afterTag_12 : decode prog_6_method_5_code 12 = .ok (.iadd, 1) := by decide +kernel
theorem d_Y_afterTag_13 : decode prog_6_method_5_code 13 = .ok (.iconst 1, 1) := by decide +kernel
theorem d_Y_afterTag_14 : decode prog_6_method_5_code 14 = .ok (.isub, 1) := by decide +kernel
theorem d_Y_afterTag_15 : decode prog_6_method_5_code 15 = .ok (.istore 5, 2) := by decide +kernel
theorem d_Y_afterTag_17 : decode prog_6_method_5_code 17 = .ok (.aload_n 0, 1) := by decide +kernel
theorem d_Y_afterTag_18 : decode prog_6_method_5_code 18 = .ok (.iload_n 1, 1) := by decide +kernel
theorem d_Y_afterTag_19 : decode prog_6_method_5_code 19 = .ok (.invokestatic 32, 3) := by decide +kernel
theorem d_Y_afterTag_22 : decode prog_6_method_5_code 22 = .ok (.iload_n 3, 1) := by decide +kernel
theorem d_Y_afterTag_23 : decode prog_6_method_5_code 23 = .ok (.iload 4, 2) := by decide +kernel
theorem d_Y_afterTag_25 : decode prog_6_method_5_code 25 = .ok (.invokestatic 38, 3) := by decide +kernel
theorem d_Y_afterTag_28 : decode prog_6_method_5_code 28 = .ok (.istore 6, 2) := by decide +kernel
theorem d_Y_afterTag_30 : decode prog_6_method_5_code 30 = .ok (.aload_n 0, 1) := by decide +kernel
theorem d_Y_afterTag_31 : decode prog_6_method_5_code 31 = .ok (.iload 5, 2) := by decide +kernel
theorem d_Y_afterTag_33 : decode prog_6_method_5_code 33 = .ok (.invokestatic 32, 3) := by decide +kernel
theorem d_Y_afterTag_36 : decode prog_6_method_5_code 36 = .ok (.iload_n 3, 1) := by decide +kernel
theorem d_Y_afterTag_37 : decode prog_6_method_5_code 37 = .ok (.iload 4, 2) := by decide +kernel
theorem d_Y_afterTag_39 : decode prog_6_method_5_code 39 = .ok (.invokestatic 38, 3) := by decide +kernel
theorem d_Y_afterTag_42 : decode prog_6_method_5_code 42 = .ok (.istore 7, 2) := by decide +kernel
theorem d_Y_afterTag_44 : decode prog_6_method_5_code 44 = .ok (.aload_n 0, 1) := by decide +kernel
theorem d_Y_afterTag_45 : decode prog_6_method_5_code 45 = .ok (.iload_n 1, 1) := by decide +kernel
theorem d_Y_afterTag_46 : decode prog_6_method_5_code 46 = .ok (.invokestatic 7, 3) := by decide +kernel
theorem d_Y_afterTag_49 : decode prog_6_method_5_code 49 = .ok (.aload_n 0, 1) := by decide +kernel
theorem d_Y_afterTag_50 : decode prog_6_method_5_code 50 = .ok (.iload_n 1, 1) := by decide +kernel
theorem d_Y_afterTag_51 : decode prog_6_method_5_code 51 = .ok (.iload_n 2, 1) := by decide +kernel
theorem d_Y_afterTag_52 : decode prog_6_method_5_code 52 = .ok (.iload_n 3, 1) := by decide +kernel
theorem d_Y_afterTag_53 : decode prog_6_method_5_code 53 = .ok (.iload 4, 2) := by decide +kernel
theorem d_Y_afterTag_55 : decode prog_6_method_5_code 55 = .ok (.invokestatic 42, 3) := by decide +kernel
theorem d_Y_afterTag_58 : decode prog_6_method_5_code 58 = .ok (.iadd, 1) := by decide +kernel
theorem d_Y_afterTag_59 : decode prog_6_method_5_code 59 = .ok (.aload_n 0, 1) := by decide +kernel
theorem d_Y_afterTag_60 : decode prog_6_method_5_code 60 = .ok (.iload_n 1, 1) := by decide +kernel
theorem d_Y_afterTag_61 : decode prog_6_method_5_code 61 = .ok (.iload_n 2, 1) := by decide +kernel
theorem d_Y_afterTag_62 : decode prog_6_method_5_code 62 = .ok (.iadd, 1) := by decide +kernel
theorem d_Y_afterTag_63 : decode prog_6_method_5_code 63 = .ok (.invokestatic 13, 3) := by decide +kernel
theorem d_Y_afterTag_66 : decode prog_6_method_5_code 66 = .ok (.iadd, 1) := by decide +kernel
theorem d_Y_afterTag_67 : decode prog_6_method_5_code 67 = .ok (.aload_n 0, 1) := by decide +kernel
theorem d_Y_afterTag_68 : decode prog_6_method_5_code 68 = .ok (.iload_n 1, 1) := by decide +kernel
theorem d_Y_afterTag_69 : decode prog_6_method_5_code 69 = .ok (.aload_n 0, 1) := by decide +kernel
theorem d_Y_afterTag_70 : decode prog_6_method_5_code 70 = .ok (.iload_n 1, 1) := by decide +kernel
theorem d_Y_afterTag_71 : decode prog_6_method_5_code 71 = .ok (.invokestatic 29, 3) := by decide +kernel
theorem d_Y_afterTag_74 : decode prog_6_method_5_code 74 = .ok (.iload 6, 2) := by decide +kernel
theorem d_Y_afterTag_76 : decode prog_6_method_5_code 76 = .ok (.invokestatic 16, 3) := by decide +kernel
theorem d_Y_afterTag_79 : decode prog_6_method_5_code 79 = .ok (.isub, 1) := by decide +kernel
theorem d_Y_afterTag_80 : decode prog_6_method_5_code 80 = .ok (.aload_n 0, 1) := by decide +kernel
theorem d_Y_afterTag_81 : decode prog_6_method_5_code 81 = .ok (.iload_n 1, 1) := by decide +kernel
theorem d_Y_afterTag_82 : decode prog_6_method_5_code 82 = .ok (.iload_n 2, 1) := by decide +kernel
theorem d_Y_afterTag_83 : decode prog_6_method_5_code 83 = .ok (.iadd, 1) := by decide +kernel
theorem d_Y_afterTag_84 : decode prog_6_method_5_code 84 = .ok (.aload_n 0, 1) := by decide +kernel
theorem d_Y_afterTag_85 : decode prog_6_method_5_code 85 = .ok (.iload 5, 2) := by decide +kernel
theorem d_Y_afterTag_87 : decode prog_6_method_5_code 87 = .ok (.invokestatic 29, 3) := by decide +kernel
theorem d_Y_afterTag_90 : decode prog_6_method_5_code 90 = .ok (.iload 7, 2) := by decide +kernel
theorem d_Y_afterTag_92 : decode prog_6_method_5_code 92 = .ok (.invokestatic 20, 3) := by decide +kernel
theorem d_Y_afterTag_95 : decode prog_6_method_5_code 95 = .ok (.isub, 1) := by decide +kernel
theorem d_Y_afterTag_96 : decode prog_6_method_5_code 96 = .ok (.ireturn, 1) := by decide +kernel
theorem d_Y_afterTag_5 : decode prog_6_method_5_code 5 = .ok (.aload_n 0, 1) := by decide +kernel
theorem d_Y_afterTag_6 : decode prog_6_method_5_code 6 = .ok (.invokestatic 35, 3) := by decide +kernel
theorem d_Y_afterTag_9 : decode prog_6_method_5_code 9 = .ok (.ireturn, 1) := by decide +kernel
theorem d_T_retag_0 : decode prog_7_method_9_code 0 = .ok (.aload_n 1, 1) := by decide +kernel
theorem d_T_retag_1 : decode prog_7_method_9_code 1 = .ok (.ifnull 9, 3) := by decide +kernel
theorem d_T_retag_4 : decode prog_7_method_9_code 4 = .ok (.iload 4, 2) := by decide +kernel
theorem d_T_retag_6 : decode prog_7_method_9_code 6 = .ok (.iconst 1, 1) := by decide +kernel
theorem d_T_retag_7 : decode prog_7_method_9_code 7 = .ok (.if_icmp .ge 5, 3) := by decide +kernel
theorem d_T_retag_12 : decode prog_7_method_9_code 12 = .ok (.aload_n 0, 1) := by decide +kernel
theorem d_T_retag_13 : decode prog_7_method_9_code 13 = .ok (.aload_n 1, 1) := by decide +kernel
theorem d_T_retag_14 : decode prog_7_method_9_code 14 = .ok (.getfield 35, 3) := by decide +kernel
theorem d_T_retag_17 : decode prog_7_method_9_code 17 = .ok (.iload_n 2, 1) := by decide +kernel
theorem d_T_retag_18 : decode prog_7_method_9_code 18 = .ok (.iload_n 3, 1) := by decide +kernel
theorem d_T_retag_19 : decode prog_7_method_9_code 19 = .ok (.iload 4, 2) := by decide +kernel
theorem d_T_retag_21 : decode prog_7_method_9_code 21 = .ok (.iconst 1, 1) := by decide +kernel
theorem d_T_retag_22 : decode prog_7_method_9_code 22 = .ok (.isub, 1) := by decide +kernel
theorem d_T_retag_23 : decode prog_7_method_9_code 23 = .ok (.invokevirtual 95, 3) := by decide +kernel
theorem d_T_retag_26 : decode prog_7_method_9_code 26 = .ok (.astore 5, 2) := by decide +kernel
theorem d_T_retag_28 : decode prog_7_method_9_code 28 = .ok (.aload_n 0, 1) := by decide +kernel
theorem d_T_retag_29 : decode prog_7_method_9_code 29 = .ok (.aload_n 1, 1) := by decide +kernel
theorem d_T_retag_30 : decode prog_7_method_9_code 30 = .ok (.getfield 18, 3) := by decide +kernel
theorem d_T_retag_33 : decode prog_7_method_9_code 33 = .ok (.iload_n 2, 1) := by decide +kernel
theorem d_T_retag_34 : decode prog_7_method_9_code 34 = .ok (.iload_n 3, 1) := by decide +kernel
theorem d_T_retag_35 : decode prog_7_method_9_code 35 = .ok (.iload 4, 2) := by decide +kernel
theorem d_T_retag_37 : decode prog_7_method_9_code 37 = .ok (.iconst 1, 1) := by decide +kernel
theorem d_T_retag_38 : decode prog_7_method_9_code 38 = .ok (.isub, 1) := by decide +kernel
theorem d_T_retag_39 : decode prog_7_method_9_code 39 = .ok (.invokevirtual 95, 3) := by decide +kernel
theorem d_T_retag_42 : decode prog_7_method_9_code 42 = .ok (.astore 6, 2) := by decide +kernel
theorem d_T_retag_44 : decode prog_7_method_9_code 44 = .ok (.aload_n 1, 1) := by decide +kernel
theorem d_T_retag_45 : decode prog_7_method_9_code 45 = .ok (.aload_n 1, 1) := by decide +kernel
theorem d_T_retag_46 : decode prog_7_method_9_code 46 = .ok (.getfield 28, 3) := by decide +kernel
theorem d_T_retag_49 : decode prog_7_method_9_code 49 = .ok (.iload_n 2, 1) := by decide +kernel
theorem d_T_retag_50 : decode prog_7_method_9_code 50 = .ok (.iload_n 3, 1) := by decide +kernel
theorem d_T_retag_51 : decode prog_7_method_9_code 51 = .ok (.invokestatic 98, 3) := by decide +kernel
theorem d_T_retag_54 : decode prog_7_method_9_code 54 = .ok (.putfield 28, 3) := by decide +kernel
theorem d_T_retag_57 : decode prog_7_method_9_code 57 = .ok (.aload_n 0, 1) := by decide +kernel
theorem d_T_retag_58 : decode prog_7_method_9_code 58 = .ok (.aload_n 0, 1) := by decide +kernel
theorem d_T_retag_59 : decode prog_7_method_9_code 59 = .ok (.aload 5, 2) := by decide +kernel
theorem d_T_retag_61 : decode prog_7_method_9_code 61 = .ok (.aload_n 1, 1) := by decide +kernel
theorem d_T_retag_62 : decode prog_7_method_9_code 62 = .ok (.invokestatic 31, 3) := by decide +kernel
theorem d_T_retag_65 : decode prog_7_method_9_code 65 = .ok (.invokevirtual 104, 3) := by decide +kernel
theorem d_T_retag_68 : decode prog_7_method_9_code 68 = .ok (.aload 6, 2) := by decide +kernel
theorem d_T_retag_70 : decode prog_7_method_9_code 70 = .ok (.invokevirtual 104, 3) := by decide +kernel
theorem d_T_retag_73 : decode prog_7_method_9_code 73 = .ok (.areturn, 1) := by decide +kernel
theorem d_T_retag_10 : decode prog_7_method_9_code 10 = .ok (.aload_n 1, 1) := by decide +kernel
theorem d_T_retag_11 : decode prog_7_method_9_code 11 = .ok (.areturn, 1) := by decide +kernel
theorem d_P_tag_0 : decode prog_1_method_7_code 0 = .ok (.aload_n 0, 1) := by decide +kernel
theorem d_P_tag_1 : decode prog_1_method_7_code 1 = .ok (.iload_n 1, 1) := by decide +kernel
theorem d_P_tag_2 : decode prog_1_method_7_code 2 = .ok (.iload_n 2, 1) := by decide +kernel
theorem d_P_tag_3 : decode prog_1_method_7_code 3 = .ok (.iload_n 3, 1) := by decide +kernel
theorem d_P_tag_4 : decode prog_1_method_7_code 4 = .ok (.invokevirtual 103, 3) := by decide +kernel
theorem d_P_tag_7 : decode prog_1_method_7_code 7 = .ok (.aload_n 0, 1) := by decide +kernel
theorem d_P_tag_8 : decode prog_1_method_7_code 8 = .ok (.iload_n 1, 1) := by decide +kernel
theorem d_P_tag_9 : decode prog_1_method_7_code 9 = .ok (.invokevirtual 59, 3) := by decide +kernel
theorem d_P_tag_12 : decode prog_1_method_7_code 12 = .ok (.astore 6, 2) := by decide +kernel
theorem d_P_tag_14 : decode prog_1_method_7_code 14 = .ok (.aload_n 0, 1) := by decide +kernel
theorem d_P_tag_15 : decode prog_1_method_7_code 15 = .ok (.iconst 0, 1) := by decide +kernel
theorem d_P_tag_16 : decode prog_1_method_7_code 16 = .ok (.aload 6, 2) := by decide +kernel
theorem d_P_tag_18 : decode prog_1_method_7_code 18 = .ok (.iload_n 2, 1) := by decide +kernel
theorem d_P_tag_19 : decode prog_1_method_7_code 19 = .ok (.iload_n 3, 1) := by decide +kernel
theorem d_P_tag_20 : decode prog_1_method_7_code 20 = .ok (.iload 4, 2) := by decide +kernel
theorem d_P_tag_22 : decode prog_1_method_7_code 22 = .ok (.iload 5, 2) := by decide +kernel
theorem d_P_tag_24 : decode prog_1_method_7_code 24 = .ok (.invokestatic 131, 3) := by decide +kernel
theorem d_P_tag_27 : decode prog_1_method_7_code 27 = .ok (.aload 6, 2) := by decide +kernel
theorem d_P_tag_29 : decode prog_1_method_7_code 29 = .ok (.invokestatic 69, 3) := by decide +kernel
theorem d_P_tag_32 : decode prog_1_method_7_code 32 = .ok (.isub, 1) := by decide +kernel
theorem d_P_tag_33 : decode prog_1_method_7_code 33 = .ok (.invokevirtual 75, 3) := by decide +kernel
theorem d_P_tag_36 : decode prog_1_method_7_code 36 = .ok (.aload_n 0, 1) := by decide +kernel
theorem d_P_tag_37 : decode prog_1_method_7_code 37 = .ok (.getfield 22, 3) := by decide +kernel
theorem d_P_tag_40 : decode prog_1_method_7_code 40 = .ok (.aload 6, 2) := by decide +kernel
theorem d_P_tag_42 : decode prog_1_method_7_code 42 = .ok (.iload_n 2, 1) := by decide +kernel
theorem d_P_tag_43 : decode prog_1_method_7_code 43 = .ok (.invokevirtual 78, 3) := by decide +kernel
theorem d_P_tag_46 : decode prog_1_method_7_code 46 = .ok (.astore 7, 2) := by decide +kernel
theorem d_P_tag_48 : decode prog_1_method_7_code 48 = .ok (.aload_n 0, 1) := by decide +kernel
theorem d_P_tag_49 : decode prog_1_method_7_code 49 = .ok (.getfield 22, 3) := by decide +kernel
theorem d_P_tag_52 : decode prog_1_method_7_code 52 = .ok (.aload 7, 2) := by decide +kernel
theorem d_P_tag_54 : decode prog_1_method_7_code 54 = .ok (.getfield 96, 3) := by decide +kernel
theorem d_P_tag_57 : decode prog_1_method_7_code 57 = .ok (.iload_n 3, 1) := by decide +kernel
theorem d_P_tag_58 : decode prog_1_method_7_code 58 = .ok (.invokevirtual 78, 3) := by decide +kernel
theorem d_P_tag_61 : decode prog_1_method_7_code 61 = .ok (.astore 8, 2) := by decide +kernel
theorem d_P_tag_63 : decode prog_1_method_7_code 63 = .ok (.aload_n 0, 1) := by decide +kernel
theorem d_P_tag_64 : decode prog_1_method_7_code 64 = .ok (.getfield 22, 3) := by decide +kernel
theorem d_P_tag_67 : decode prog_1_method_7_code 67 = .ok (.aload 8, 2) := by decide +kernel
theorem d_P_tag_69 : decode prog_1_method_7_code 69 = .ok (.getfield 86, 3) := by decide +kernel
theorem d_P_tag_72 : decode prog_1_method_7_code 72 = .ok (.iload 4, 2) := by decide +kernel
theorem d_P_tag_74 : decode prog_1_method_7_code 74 = .ok (.iload 5, 2) := by decide +kernel
theorem d_P_tag_76 : decode prog_1_method_7_code 76 = .ok (.bipush 40, 2) := by decide +kernel
theorem d_P_tag_78 : decode prog_1_method_7_code 78 = .ok (.invokevirtual 134, 3) := by decide +kernel
theorem d_P_tag_81 : decode prog_1_method_7_code 81 = .ok (.astore 9, 2) := by decide +kernel
theorem d_P_tag_83 : decode prog_1_method_7_code 83 = .ok (.aload_n 0, 1) := by decide +kernel
theorem d_P_tag_84 : decode prog_1_method_7_code 84 = .ok (.iload_n 1, 1) := by decide +kernel
theorem d_P_tag_85 : decode prog_1_method_7_code 85 = .ok (.aload_n 0, 1) := by decide +kernel
theorem d_P_tag_86 : decode prog_1_method_7_code 86 = .ok (.getfield 22, 3) := by decide +kernel
theorem d_P_tag_89 : decode prog_1_method_7_code 89 = .ok (.aload_n 0, 1) := by decide +kernel
theorem d_P_tag_90 : decode prog_1_method_7_code 90 = .ok (.getfield 22, 3) := by decide +kernel
theorem d_P_tag_93 : decode prog_1_method_7_code 93 = .ok (.aload 7, 2) := by decide +kernel
theorem d_P_tag_95 : decode prog_1_method_7_code 95 = .ok (.getfield 86, 3) := by decide +kernel
theorem d_P_tag_98 : decode prog_1_method_7_code 98 = .ok (.aload 9, 2) := by decide +kernel
theorem d_P_tag_100 : decode prog_1_method_7_code 100 = .ok (.invokevirtual 92, 3) := by decide +kernel
theorem d_P_tag_103 : decode prog_1_method_7_code 103 = .ok (.aload 8, 2) := by decide +kernel
theorem d_P_tag_105 : decode prog_1_method_7_code 105 = .ok (.getfield 96, 3) := by decide +kernel
theorem d_P_tag_108 : decode prog_1_method_7_code 108 = .ok (.invokevirtual 92, 3) := by decide +kernel
theorem d_P_tag_111 : decode prog_1_method_7_code 111 = .ok (.invokevirtual 99, 3) := by decide +kernel
theorem d_P_tag_114 : decode prog_1_method_7_code 114 = .ok (.pop, 1) := by decide +kernel
theorem d_P_tag_115 : decode prog_1_method_7_code 115 = .ok (.aload_n 0, 1) := by decide +kernel
theorem d_P_tag_116 : decode prog_1_method_7_code 116 = .ok (.iload_n 1, 1) := by decide +kernel
theorem d_P_tag_117 : decode prog_1_method_7_code 117 = .ok (.invokevirtual 59, 3) := by decide +kernel
theorem d_P_tag_120 : decode prog_1_method_7_code 120 = .ok (.invokestatic 69, 3) := by decide +kernel
theorem d_P_tag_123 : decode prog_1_method_7_code 123 = .ok (.ireturn, 1) := by decide +kernel
theorem d_T_giveBackAll_0 : decode prog_7_method_4_code 0 = .ok (.aload_n 1, 1) := by decide +kernel
theorem d_T_giveBackAll_1 : decode prog_7_method_4_code 1 = .ok (.ifnull 8, 3) := by decide +kernel
theorem d_T_giveBackAll_4 : decode prog_7_method_4_code 4 = .ok (.iload_n 2, 1) := by decide +kernel
theorem d_T_giveBackAll_5 : decode prog_7_method_4_code 5 = .ok (.iconst 1, 1) := by decide +kernel
theorem d_T_giveBackAll_6 : decode prog_7_method_4_code 6 = .ok (.if_icmp .ge 4, 3) := by decide +kernel
theorem d_T_giveBackAll_10 : decode prog_7_method_4_code 10 = .ok (.aload_n 0, 1) := by decide +kernel
theorem d_T_giveBackAll_11 : decode prog_7_method_4_code 11 = .ok (.aload_n 1, 1) := by decide +kernel
theorem d_T_giveBackAll_12 : decode prog_7_method_4_code 12 = .ok (.getfield 35, 3) := by decide +kernel
theorem d_T_giveBackAll_15 : decode prog_7_method_4_code 15 = .ok (.iload_n 2, 1) := by decide +kernel
theorem d_T_giveBackAll_16 : decode prog_7_method_4_code 16 = .ok (.iconst 1, 1) := by decide +kernel
theorem d_T_giveBackAll_17 : decode prog_7_method_4_code 17 = .ok (.isub, 1) := by decide +kernel
theorem d_T_giveBackAll_18 : decode prog_7_method_4_code 18 = .ok (.invokevirtual 38, 3) := by decide +kernel
theorem d_T_giveBackAll_21 : decode prog_7_method_4_code 21 = .ok (.aload_n 0, 1) := by decide +kernel
theorem d_T_giveBackAll_22 : decode prog_7_method_4_code 22 = .ok (.aload_n 1, 1) := by decide +kernel
theorem d_T_giveBackAll_23 : decode prog_7_method_4_code 23 = .ok (.getfield 18, 3) := by decide +kernel
theorem d_T_giveBackAll_26 : decode prog_7_method_4_code 26 = .ok (.iload_n 2, 1) := by decide +kernel
theorem d_T_giveBackAll_27 : decode prog_7_method_4_code 27 = .ok (.iconst 1, 1) := by decide +kernel
theorem d_T_giveBackAll_28 : decode prog_7_method_4_code 28 = .ok (.isub, 1) := by decide +kernel
theorem d_T_giveBackAll_29 : decode prog_7_method_4_code 29 = .ok (.invokevirtual 38, 3) := by decide +kernel
theorem d_T_giveBackAll_32 : decode prog_7_method_4_code 32 = .ok (.aload_n 0, 1) := by decide +kernel
theorem d_T_giveBackAll_33 : decode prog_7_method_4_code 33 = .ok (.aload_n 1, 1) := by decide +kernel
theorem d_T_giveBackAll_34 : decode prog_7_method_4_code 34 = .ok (.invokevirtual 42, 3) := by decide +kernel
theorem d_T_giveBackAll_37 : decode prog_7_method_4_code 37 = .ok (.return_, 1) := by decide +kernel
theorem d_T_giveBackAll_9 : decode prog_7_method_4_code 9 = .ok (.return_, 1) := by decide +kernel
theorem d_P_wipe_0 : decode prog_1_method_8_code 0 = .ok (.aload_n 0, 1) := by decide +kernel
theorem d_P_wipe_1 : decode prog_1_method_8_code 1 = .ok (.iload_n 1, 1) := by decide +kernel
theorem d_P_wipe_2 : decode prog_1_method_8_code 2 = .ok (.invokevirtual 107, 3) := by decide +kernel
theorem d_P_wipe_5 : decode prog_1_method_8_code 5 = .ok (.aload_n 0, 1) := by decide +kernel
theorem d_P_wipe_6 : decode prog_1_method_8_code 6 = .ok (.iload_n 1, 1) := by decide +kernel
theorem d_P_wipe_7 : decode prog_1_method_8_code 7 = .ok (.invokevirtual 59, 3) := by decide +kernel
theorem d_P_wipe_10 : decode prog_1_method_8_code 10 = .ok (.astore_n 2, 1) := by decide +kernel
theorem d_P_wipe_11 : decode prog_1_method_8_code 11 = .ok (.aload_n 2, 1) := by decide +kernel
theorem d_P_wipe_12 : decode prog_1_method_8_code 12 = .ok (.invokestatic 137, 3) := by decide +kernel
theorem d_P_wipe_15 : decode prog_1_method_8_code 15 = .ok (.istore_n 3, 1) := by decide +kernel
theorem d_P_wipe_16 : decode prog_1_method_8_code 16 = .ok (.aload_n 0, 1) := by decide +kernel
theorem d_P_wipe_17 : decode prog_1_method_8_code 17 = .ok (.iload_n 1, 1) := by decide +kernel
theorem d_P_wipe_18 : decode prog_1_method_8_code 18 = .ok (.aconst_null, 1) := by decide +kernel
theorem d_P_wipe_19 : decode prog_1_method_8_code 19 = .ok (.invokevirtual 99, 3) := by decide +kernel
theorem d_P_wipe_22 : decode prog_1_method_8_code 22 = .ok (.pop, 1) := by decide +kernel
theorem d_P_wipe_23 : decode prog_1_method_8_code 23 = .ok (.aload_n 0, 1) := by decide +kernel
theorem d_P_wipe_24 : decode prog_1_method_8_code 24 = .ok (.getfield 22, 3) := by decide +kernel
theorem d_P_wipe_27 : decode prog_1_method_8_code 27 = .ok (.aload_n 2, 1) := by decide +kernel
theorem d_P_wipe_28 : decode prog_1_method_8_code 28 = .ok (.bipush 40, 2) := by decide +kernel
theorem d_P_wipe_30 : decode prog_1_method_8_code 30 = .ok (.invokevirtual 140, 3) := by decide +kernel
theorem d_P_wipe_33 : decode prog_1_method_8_code 33 = .ok (.iload_n 3, 1) := by decide +kernel
theorem d_P_wipe_34 : decode prog_1_method_8_code 34 = .ok (.ireturn, 1) := by decide +kernel
theorem d_P_length_0 : decode prog_1_method_9_code 0 = .ok (.aload_n 0, 1) := by decide +kernel
theorem d_P_length_1 : decode prog_1_method_9_code 1 = .ok (.iload_n 1, 1) := by decide +kernel
theorem d_P_length_2 : decode prog_1_method_9_code 2 = .ok (.invokevirtual 144, 3) := by decide +kernel
theorem d_P_length_5 : decode prog_1_method_9_code 5 = .ok (.ifCond .eq 14, 3) := by decide +kernel
theorem d_P_length_19 : decode prog_1_method_9_code 19 = .ok (.iconst (-1), 1) := by decide +kernel
theorem d_P_length_8 : decode prog_1_method_9_code 8 = .ok (.aload_n 0, 1) := by decide +kernel
theorem d_P_length_9 : decode prog_1_method_9_code 9 = .ok (.iload_n 1, 1) := by decide +kernel
theorem d_P_length_10 : decode prog_1_method_9_code 10 = .ok (.invokevirtual 59, 3) := by decide +kernel
theorem d_P_length_13 : decode prog_1_method_9_code 13 = .ok (.invokestatic 137, 3) := by decide +kernel
theorem d_P_length_16 : decode prog_1_method_9_code 16 = .ok (.goto 4, 3) := by decide +kernel
theorem d_P_length_20 : decode prog_1_method_9_code 20 = .ok (.ireturn, 1) := by decide +kernel
theorem d_P_byteAt_0 : decode prog_1_method_17_code 0 = .ok (.iload_n 1, 1) := by decide +kernel
theorem d_P_byteAt_1 : decode prog_1_method_17_code 1 = .ok (.ifCond .lt 20, 3) := by decide +kernel
theorem d_P_byteAt_4 : decode prog_1_method_17_code 4 = .ok (.iload_n 1, 1) := by decide +kernel
theorem d_P_byteAt_5 : decode prog_1_method_17_code 5 = .ok (.aload_n 0, 1) := by decide +kernel
theorem d_P_byteAt_6 : decode prog_1_method_17_code 6 = .ok (.getfield 37, 3) := by decide +kernel
theorem d_P_byteAt_9 : decode prog_1_method_17_code 9 = .ok (.if_icmp .ge 12, 3) := by decide +kernel
theorem d_P_byteAt_12 : decode prog_1_method_17_code 12 = .ok (.iload_n 1, 1) := by decide +kernel
theorem d_P_byteAt_13 : decode prog_1_method_17_code 13 = .ok (.aload_n 0, 1) := by decide +kernel
theorem d_P_byteAt_14 : decode prog_1_method_17_code 14 = .ok (.getfield 9, 3) := by decide +kernel
theorem d_P_byteAt_17 : decode prog_1_method_17_code 17 = .ok (.arraylength, 1) := by decide +kernel
theorem d_P_byteAt_18 : decode prog_1_method_17_code 18 = .ok (.if_icmp .lt 7, 3) := by decide +kernel
theorem d_P_byteAt_25 : decode prog_1_method_17_code 25 = .ok (.aload_n 0, 1) := by decide +kernel
theorem d_P_byteAt_26 : decode prog_1_method_17_code 26 = .ok (.getfield 9, 3) := by decide +kernel
theorem d_P_byteAt_29 : decode prog_1_method_17_code 29 = .ok (.iload_n 1, 1) := by decide +kernel
theorem d_P_byteAt_30 : decode prog_1_method_17_code 30 = .ok (.baload, 1) := by decide +kernel
theorem d_P_byteAt_31 : decode prog_1_method_17_code 31 = .ok (.sipush 255, 3) := by decide +kernel
theorem d_P_byteAt_34 : decode prog_1_method_17_code 34 = .ok (.iand, 1) := by decide +kernel
theorem d_P_byteAt_21 : decode prog_1_method_17_code 21 = .ok (.iconst 0, 1) := by decide +kernel
theorem d_P_byteAt_22 : decode prog_1_method_17_code 22 = .ok (.goto 13, 3) := by decide +kernel
theorem d_P_byteAt_35 : decode prog_1_method_17_code 35 = .ok (.ireturn, 1) := by decide +kernel
theorem d_P_look_0 : decode prog_1_method_10_code 0 = .ok (.aload_n 0, 1) := by decide +kernel
theorem d_P_look_1 : decode prog_1_method_10_code 1 = .ok (.iload_n 1, 1) := by decide +kernel
theorem d_P_look_2 : decode prog_1_method_10_code 2 = .ok (.invokevirtual 107, 3) := by decide +kernel
theorem d_P_look_5 : decode prog_1_method_10_code 5 = .ok (.aload_n 0, 1) := by decide +kernel
theorem d_P_look_6 : decode prog_1_method_10_code 6 = .ok (.iload_n 1, 1) := by decide +kernel
theorem d_P_look_7 : decode prog_1_method_10_code 7 = .ok (.invokevirtual 59, 3) := by decide +kernel
theorem d_P_look_10 : decode prog_1_method_10_code 10 = .ok (.astore 4, 2) := by decide +kernel
theorem d_P_look_12 : decode prog_1_method_10_code 12 = .ok (.iload_n 2, 1) := by decide +kernel
theorem d_P_look_13 : decode prog_1_method_10_code 13 = .ok (.ifCond .lt 12, 3) := by decide +kernel
theorem d_P_look_16 : decode prog_1_method_10_code 16 = .ok (.iload_n 2, 1) := by decide +kernel
theorem d_P_look_17 : decode prog_1_method_10_code 17 = .ok (.aload 4, 2) := by decide +kernel
theorem d_P_look_19 : decode prog_1_method_10_code 19 = .ok (.invokestatic 137, 3) := by decide +kernel
theorem d_P_look_22 : decode prog_1_method_10_code 22 = .ok (.if_icmp .lt 13, 3) := by decide +kernel
theorem d_P_look_35 : decode prog_1_method_10_code 35 = .ok (.iload_n 3, 1) := by decide +kernel
theorem d_P_look_36 : decode prog_1_method_10_code 36 = .ok (.tableswitch 64 0 3 #[32, 43, 50, 57], 32) := by decide +kernel
theorem d_P_look_68 : decode prog_1_method_10_code 68 = .ok (.aload_n 0, 1) := by decide +kernel
theorem d_P_look_69 : decode prog_1_method_10_code 69 = .ok (.aload 4, 2) := by decide +kernel
theorem d_P_look_71 : decode prog_1_method_10_code 71 = .ok (.iload_n 2, 1) := by decide +kernel
theorem d_P_look_72 : decode prog_1_method_10_code 72 = .ok (.invokestatic 150, 3) := by decide +kernel
theorem d_P_look_75 : decode prog_1_method_10_code 75 = .ok (.invokevirtual 154, 3) := by decide +kernel
theorem d_P_look_78 : decode prog_1_method_10_code 78 = .ok (.ireturn, 1) := by decide +kernel
theorem d_P_look_79 : decode prog_1_method_10_code 79 = .ok (.aload 4, 2) := by decide +kernel
theorem d_P_look_81 : decode prog_1_method_10_code 81 = .ok (.iload_n 2, 1) := by decide +kernel
theorem d_P_look_82 : decode prog_1_method_10_code 82 = .ok (.invokestatic 150, 3) := by decide +kernel
theorem d_P_look_85 : decode prog_1_method_10_code 85 = .ok (.ireturn, 1) := by decide +kernel
theorem d_P_look_86 : decode prog_1_method_10_code 86 = .ok (.aload 4, 2) := by decide +kernel
theorem d_P_look_88 : decode prog_1_method_10_code 88 = .ok (.iload_n 2, 1) := by decide +kernel
theorem d_P_look_89 : decode prog_1_method_10_code 89 = .ok (.invokestatic 158, 3) := by decide +kernel
theorem d_P_look_92 : decode prog_1_method_10_code 92 = .ok (.ireturn, 1) := by decide +kernel
theorem d_P_look_93 : decode prog_1_method_10_code 93 = .ok (.aload 4, 2) := by decide +kernel
theorem d_P_look_95 : decode prog_1_method_10_code 95 = .ok (.iload_n 2, 1) := by decide +kernel
theorem d_P_look_96 : decode prog_1_method_10_code 96 = .ok (.invokestatic 161, 3) := by decide +kernel
theorem d_P_look_99 : decode prog_1_method_10_code 99 = .ok (.ireturn, 1) := by decide +kernel
theorem d_P_look_100 : decode prog_1_method_10_code 100 = .ok (.new 30, 3) := by decide +kernel
theorem d_P_look_103 : decode prog_1_method_10_code 103 = .ok (.dup, 1) := by decide +kernel
theorem d_P_look_104 : decode prog_1_method_10_code 104 = .ok (.ldc 164, 2) := by decide +kernel
theorem d_P_look_106 : decode prog_1_method_10_code 106 = .ok (.invokespecial 34, 3) := by decide +kernel
theorem d_P_look_109 : decode prog_1_method_10_code 109 = .ok (.athrow, 1) := by decide +kernel
theorem d_P_look_25 : decode prog_1_method_10_code 25 = .ok (.new 54, 3) := by decide +kernel
theorem d_P_look_28 : decode prog_1_method_10_code 28 = .ok (.dup, 1) := by decide +kernel
theorem d_P_look_29 : decode prog_1_method_10_code 29 = .ok (.ldc 148, 2) := by decide +kernel
theorem d_P_look_31 : decode prog_1_method_10_code 31 = .ok (.invokespecial 58, 3) := by decide +kernel
theorem d_P_look_34 : decode prog_1_method_10_code 34 = .ok (.athrow, 1) := by decide +kernel
theorem d_P_piece_0 : decode prog_1_method_11_code 0 = .ok (.aload_n 0, 1) := by decide +kernel
theorem d_P_piece_1 : decode prog_1_method_11_code 1 = .ok (.iload_n 1, 1) := by decide +kernel
theorem d_P_piece_2 : decode prog_1_method_11_code 2 = .ok (.invokevirtual 107, 3) := by decide +kernel
theorem d_P_piece_5 : decode prog_1_method_11_code 5 = .ok (.aload_n 0, 1) := by decide +kernel
theorem d_P_piece_6 : decode prog_1_method_11_code 6 = .ok (.iload_n 1, 1) := by decide +kernel
theorem d_P_piece_7 : decode prog_1_method_11_code 7 = .ok (.invokevirtual 59, 3) := by decide +kernel
theorem d_P_piece_10 : decode prog_1_method_11_code 10 = .ok (.astore 4, 2) := by decide +kernel
theorem d_P_piece_12 : decode prog_1_method_11_code 12 = .ok (.aload 4, 2) := by decide +kernel
theorem d_P_piece_14 : decode prog_1_method_11_code 14 = .ok (.iload_n 2, 1) := by decide +kernel
theorem d_P_piece_15 : decode prog_1_method_11_code 15 = .ok (.invokestatic 166, 3) := by decide +kernel
theorem d_P_piece_18 : decode prog_1_method_11_code 18 = .ok (.astore 5, 2) := by decide +kernel
theorem d_P_piece_20 : decode prog_1_method_11_code 20 = .ok (.aload 5, 2) := by decide +kernel
theorem d_P_piece_22 : decode prog_1_method_11_code 22 = .ok (.ifnonnull 13, 3) := by decide +kernel
theorem d_P_piece_25 : decode prog_1_method_11_code 25 = .ok (.new 54, 3) := by decide +kernel
theorem d_P_piece_28 : decode prog_1_method_11_code 28 = .ok (.dup, 1) := by decide +kernel
theorem d_P_piece_29 : decode prog_1_method_11_code 29 = .ok (.ldc 170, 2) := by decide +kernel
theorem d_P_piece_31 : decode prog_1_method_11_code 31 = .ok (.invokespecial 58, 3) := by decide +kernel
theorem d_P_piece_34 : decode prog_1_method_11_code 34 = .ok (.athrow, 1) := by decide +kernel
theorem d_P_piece_35 : decode prog_1_method_11_code 35 = .ok (.iload_n 3, 1) := by decide +kernel
theorem d_P_piece_36 : decode prog_1_method_11_code 36 = .ok (.tableswitch 57 0 3 #[32, 39, 45, 51], 32) := by decide +kernel
theorem d_P_piece_68 : decode prog_1_method_11_code 68 = .ok (.aload 4, 2) := by decide +kernel
theorem d_P_piece_70 : decode prog_1_method_11_code 70 = .ok (.iload_n 2, 1) := by decide +kernel
theorem d_P_piece_71 : decode prog_1_method_11_code 71 = .ok (.invokestatic 172, 3) := by decide +kernel
theorem d_P_piece_74 : decode prog_1_method_11_code 74 = .ok (.ireturn, 1) := by decide +kernel
theorem d_P_piece_75 : decode prog_1_method_11_code 75 = .ok (.aload 5, 2) := by decide +kernel
theorem d_P_piece_77 : decode prog_1_method_11_code 77 = .ok (.getfield 175, 3) := by decide +kernel
theorem d_P_piece_80 : decode prog_1_method_11_code 80 = .ok (.ireturn, 1) := by decide +kernel
theorem d_P_piece_81 : decode prog_1_method_11_code 81 = .ok (.aload 5, 2) := by decide +kernel
theorem d_P_piece_83 : decode prog_1_method_11_code 83 = .ok (.getfield 178, 3) := by decide +kernel
theorem d_P_piece_86 : decode prog_1_method_11_code 86 = .ok (.ireturn, 1) := by decide +kernel
theorem d_P_piece_87 : decode prog_1_method_11_code 87 = .ok (.aload 5, 2) := by decide +kernel
theorem d_P_piece_89 : decode prog_1_method_11_code 89 = .ok (.getfield 181, 3) := by decide +kernel
theorem d_P_piece_92 : decode prog_1_method_11_code 92 = .ok (.ireturn, 1) := by decide +kernel
theorem d_P_piece_93 : decode prog_1_method_11_code 93 = .ok (.new 30, 3) := by decide +kernel
theorem d_P_piece_96 : decode prog_1_method_11_code 96 = .ok (.dup, 1) := by decide +kernel
theorem d_P_piece_97 : decode prog_1_method_11_code 97 = .ok (.ldc 184, 2) := by decide +kernel
theorem d_P_piece_99 : decode prog_1_method_11_code 99 = .ok (.invokespecial 34, 3) := by decide +kernel
theorem d_P_piece_102 : decode prog_1_method_11_code 102 = .ok (.athrow, 1) := by decide +kernel
theorem d_D_init_0 : decode prog_4_method_1_code 0 = .ok (.aload_n 0, 1) := by decide +kernel
theorem d_D_init_1 : decode prog_4_method_1_code 1 = .ok (.invokespecial 1, 3) := by decide +kernel
theorem d_D_init_4 : decode prog_4_method_1_code 4 = .ok (.aload_n 0, 1) := by decide +kernel
theorem d_D_init_5 : decode prog_4_method_1_code 5 = .ok (.aload_n 1, 1) := by decide +kernel
theorem d_D_init_6 : decode prog_4_method_1_code 6 = .ok (.putfield 7, 3) := by decide +kernel
theorem d_D_init_9 : decode prog_4_method_1_code 9 = .ok (.aload_n 0, 1) := by decide +kernel
theorem d_D_init_10 : decode prog_4_method_1_code 10 = .ok (.aload_n 1, 1) := by decide +kernel
theorem d_D_init_11 : decode prog_4_method_1_code 11 = .ok (.iload_n 2, 1) := by decide +kernel
theorem d_D_init_12 : decode prog_4_method_1_code 12 = .ok (.invokestatic 13, 3) := by decide +kernel
theorem d_D_init_15 : decode prog_4_method_1_code 15 = .ok (.putfield 19, 3) := by decide +kernel
theorem d_D_init_18 : decode prog_4_method_1_code 18 = .ok (.aload_n 0, 1) := by decide +kernel
theorem d_D_init_19 : decode prog_4_method_1_code 19 = .ok (.aload_n 1, 1) := by decide +kernel
theorem d_D_init_20 : decode prog_4_method_1_code 20 = .ok (.aload_n 0, 1) := by decide +kernel
theorem d_D_init_21 : decode prog_4_method_1_code 21 = .ok (.getfield 19, 3) := by decide +kernel
theorem d_D_init_24 : decode prog_4_method_1_code 24 = .ok (.invokestatic 23, 3) := by decide +kernel
theorem d_D_init_27 : decode prog_4_method_1_code 27 = .ok (.putfield 27, 3) := by decide +kernel
theorem d_D_init_30 : decode prog_4_method_1_code 30 = .ok (.aload_n 0, 1) := by decide +kernel
theorem d_D_init_31 : decode prog_4_method_1_code 31 = .ok (.iload_n 2, 1) := by decide +kernel
theorem d_D_init_32 : decode prog_4_method_1_code 32 = .ok (.aload_n 1, 1) := by decide +kernel
theorem d_D_init_33 : decode prog_4_method_1_code 33 = .ok (.aload_n 0, 1) := by decide +kernel
theorem d_D_init_34 : decode prog_4_method_1_code 34 = .ok (.getfield 19, 3) := by decide +kernel
theorem d_D_init_37 : decode prog_4_method_1_code 37 = .ok (.invokestatic 30, 3) := by decide +kernel
theorem d_D_init_40 : decode prog_4_method_1_code 40 = .ok (.isub, 1) := by decide +kernel
theorem d_D_init_41 : decode prog_4_method_1_code 41 = .ok (.putfield 33, 3) := by decide +kernel
theorem d_D_init_44 : decode prog_4_method_1_code 44 = .ok (.return_, 1) := by decide +kernel
theorem d_D_nextSource_0 : decode prog_4_method_2_code 0 = .ok (.aload_n 0, 1) := by decide +kernel
theorem d_D_nextSource_1 : decode prog_4_method_2_code 1 = .ok (.getfield 27, 3) := by decide +kernel
theorem d_D_nextSource_4 : decode prog_4_method_2_code 4 = .ok (.ifnonnull 5, 3) := by decide +kernel
theorem d_D_nextSource_7 : decode prog_4_method_2_code 7 = .ok (.iconst (-1), 1) := by decide +kernel
theorem d_D_nextSource_8 : decode prog_4_method_2_code 8 = .ok (.ireturn, 1) := by decide +kernel
theorem d_D_nextSource_9 : decode prog_4_method_2_code 9 = .ok (.aload_n 0, 1) := by decide +kernel
theorem d_D_nextSource_10 : decode prog_4_method_2_code 10 = .ok (.getfield 27, 3) := by decide +kernel
theorem d_D_nextSource_13 : decode prog_4_method_2_code 13 = .ok (.getfield 36, 3) := by decide +kernel
theorem d_D_nextSource_16 : decode prog_4_method_2_code 16 = .ok (.aload_n 0, 1) := by decide +kernel
theorem d_D_nextSource_17 : decode prog_4_method_2_code 17 = .ok (.getfield 33, 3) := by decide +kernel
theorem d_D_nextSource_20 : decode prog_4_method_2_code 20 = .ok (.iadd, 1) := by decide +kernel
theorem d_D_nextSource_21 : decode prog_4_method_2_code 21 = .ok (.istore_n 1, 1) := by decide +kernel
theorem d_D_nextSource_22 : decode prog_4_method_2_code 22 = .ok (.aload_n 0, 1) := by decide +kernel
theorem d_D_nextSource_23 : decode prog_4_method_2_code 23 = .ok (.dup, 1) := by decide +kernel
theorem d_D_nextSource_24 : decode prog_4_method_2_code 24 = .ok (.getfield 33, 3) := by decide +kernel
theorem d_D_nextSource_27 : decode prog_4_method_2_code 27 = .ok (.iconst 1, 1) := by decide +kernel
theorem d_D_nextSource_28 : decode prog_4_method_2_code 28 = .ok (.iadd, 1) := by decide +kernel
theorem d_D_nextSource_29 : decode prog_4_method_2_code 29 = .ok (.putfield 33, 3) := by decide +kernel
theorem d_D_nextSource_32 : decode prog_4_method_2_code 32 = .ok (.aload_n 0, 1) := by decide +kernel
theorem d_D_nextSource_33 : decode prog_4_method_2_code 33 = .ok (.getfield 33, 3) := by decide +kernel
theorem d_D_nextSource_36 : decode prog_4_method_2_code 36 = .ok (.aload_n 0, 1) := by decide +kernel
theorem d_D_nextSource_37 : decode prog_4_method_2_code 37 = .ok (.getfield 27, 3) := by decide +kernel
theorem d_D_nextSource_40 : decode prog_4_method_2_code 40 = .ok (.getfield 41, 3) := by decide +kernel
theorem d_D_nextSource_43 : decode prog_4_method_2_code 43 = .ok (.if_icmp .lt 33, 3) := by decide +kernel
theorem d_D_nextSource_46 : decode prog_4_method_2_code 46 = .ok (.aload_n 0, 1) := by decide +kernel
theorem d_D_nextSource_47 : decode prog_4_method_2_code 47 = .ok (.dup, 1) := by decide +kernel
theorem d_D_nextSource_48 : decode prog_4_method_2_code 48 = .ok (.getfield 19, 3) := by decide +kernel
theorem d_D_nextSource_51 : decode prog_4_method_2_code 51 = .ok (.iconst 1, 1) := by decide +kernel
theorem d_D_nextSource_52 : decode prog_4_method_2_code 52 = .ok (.iadd, 1) := by decide +kernel
theorem d_D_nextSource_53 : decode prog_4_method_2_code 53 = .ok (.putfield 19, 3) := by decide +kernel
theorem d_D_nextSource_56 : decode prog_4_method_2_code 56 = .ok (.aload_n 0, 1) := by decide +kernel
theorem d_D_nextSource_57 : decode prog_4_method_2_code 57 = .ok (.aload_n 0, 1) := by decide +kernel
theorem d_D_nextSource_58 : decode prog_4_method_2_code 58 = .ok (.getfield 7, 3) := by decide +kernel
theorem d_D_nextSource_61 : decode prog_4_method_2_code 61 = .ok (.aload_n 0, 1) := by decide +kernel
theorem d_D_nextSource_62 : decode prog_4_method_2_code 62 = .ok (.getfield 19, 3) := by decide +kernel
theorem d_D_nextSource_65 : decode prog_4_method_2_code 65 = .ok (.invokestatic 23, 3) := by decide +kernel
theorem d_D_nextSource_68 : decode prog_4_method_2_code 68 = .ok (.putfield 27, 3) := by decide +kernel
theorem d_D_nextSource_71 : decode prog_4_method_2_code 71 = .ok (.aload_n 0, 1) := by decide +kernel
theorem d_D_nextSource_72 : decode prog_4_method_2_code 72 = .ok (.iconst 0, 1) := by decide +kernel
theorem d_D_nextSource_73 : decode prog_4_method_2_code 73 = .ok (.putfield 33, 3) := by decide +kernel
theorem d_D_nextSource_76 : decode prog_4_method_2_code 76 = .ok (.iload_n 1, 1) := by decide +kernel
theorem d_D_nextSource_77 : decode prog_4_method_2_code 77 = .ok (.ireturn, 1) := by decide +kernel
theorem d_P_find_0 : decode prog_1_method_12_code 0 = .ok (.aload_n 0, 1) := by decide +kernel
theorem d_P_find_1 : decode prog_1_method_12_code 1 = .ok (.iload_n 1, 1) := by decide +kernel
theorem d_P_find_2 : decode prog_1_method_12_code 2 = .ok (.iload_n 2, 1) := by decide +kernel
theorem d_P_find_3 : decode prog_1_method_12_code 3 = .ok (.invokevirtual 50, 3) := by decide +kernel
theorem d_P_find_6 : decode prog_1_method_12_code 6 = .ok (.aload_n 0, 1) := by decide +kernel
theorem d_P_find_7 : decode prog_1_method_12_code 7 = .ok (.iload_n 1, 1) := by decide +kernel
theorem d_P_find_8 : decode prog_1_method_12_code 8 = .ok (.invokevirtual 59, 3) := by decide +kernel
theorem d_P_find_11 : decode prog_1_method_12_code 11 = .ok (.astore 4, 2) := by decide +kernel
theorem d_P_find_13 : decode prog_1_method_12_code 13 = .ok (.aload 4, 2) := by decide +kernel
theorem d_P_find_15 : decode prog_1_method_12_code 15 = .ok (.invokestatic 137, 3) := by decide +kernel
theorem d_P_find_18 : decode prog_1_method_12_code 18 = .ok (.istore 5, 2) := by decide +kernel
theorem d_P_find_20 : decode prog_1_method_12_code 20 = .ok (.new 186, 3) := by decide +kernel
theorem d_P_find_23 : decode prog_1_method_12_code 23 = .ok (.dup, 1) := by decide +kernel
theorem d_P_find_24 : decode prog_1_method_12_code 24 = .ok (.aload 4, 2) := by decide +kernel
theorem d_P_find_26 : decode prog_1_method_12_code 26 = .ok (.iload_n 2, 1) := by decide +kernel
theorem d_P_find_27 : decode prog_1_method_12_code 27 = .ok (.invokespecial 188, 3) := by decide +kernel
theorem d_P_find_30 : decode prog_1_method_12_code 30 = .ok (.astore 6, 2) := by decide +kernel
theorem d_P_find_32 : decode prog_1_method_12_code 32 = .ok (.iload_n 2, 1) := by decide +kernel
theorem d_P_find_33 : decode prog_1_method_12_code 33 = .ok (.istore 7, 2) := by decide +kernel
theorem d_P_find_35 : decode prog_1_method_12_code 35 = .ok (.iload 7, 2) := by decide +kernel
theorem d_P_find_37 : decode prog_1_method_12_code 37 = .ok (.iload 5, 2) := by decide +kernel
theorem d_P_find_39 : decode prog_1_method_12_code 39 = .ok (.if_icmp .ge 25, 3) := by decide +kernel
theorem d_P_find_64 : decode prog_1_method_12_code 64 = .ok (.iconst (-1), 1) := by decide +kernel
theorem d_P_find_65 : decode prog_1_method_12_code 65 = .ok (.ireturn, 1) := by decide +kernel
theorem d_P_find_42 : decode prog_1_method_12_code 42 = .ok (.aload_n 0, 1) := by decide +kernel
theorem d_P_find_43 : decode prog_1_method_12_code 43 = .ok (.aload 6, 2) := by decide +kernel
theorem d_P_find_45 : decode prog_1_method_12_code 45 = .ok (.invokevirtual 190, 3) := by decide +kernel
theorem d_P_find_48 : decode prog_1_method_12_code 48 = .ok (.invokevirtual 154, 3) := by decide +kernel
theorem d_P_find_51 : decode prog_1_method_12_code 51 = .ok (.iload_n 3, 1) := by decide +kernel
theorem d_P_find_52 : decode prog_1_method_12_code 52 = .ok (.if_icmp .ne 6, 3) := by decide +kernel
theorem d_P_find_58 : decode prog_1_method_12_code 58 = .ok (.iinc 7 1, 3) := by decide +kernel
theorem d_P_find_61 : decode prog_1_method_12_code 61 = .ok (.goto (-26), 3) := by decide +kernel
theorem d_P_find_55 : decode prog_1_method_12_code 55 = .ok (.iload 7, 2) := by decide +kernel
theorem d_P_find_57 : decode prog_1_method_12_code 57 = .ok (.ireturn, 1) := by decide +kernel
theorem d_P_differ_0 : decode prog_1_method_13_code 0 = .ok (.aload_n 0, 1) := by decide +kernel
theorem d_P_differ_1 : decode prog_1_method_13_code 1 = .ok (.iload_n 1, 1) := by decide +kernel
theorem d_P_differ_2 : decode prog_1_method_13_code 2 = .ok (.invokevirtual 107, 3) := by decide +kernel
theorem d_P_differ_5 : decode prog_1_method_13_code 5 = .ok (.aload_n 0, 1) := by decide +kernel
theorem d_P_differ_6 : decode prog_1_method_13_code 6 = .ok (.iload_n 2, 1) := by decide +kernel
theorem d_P_differ_7 : decode prog_1_method_13_code 7 = .ok (.invokevirtual 107, 3) := by decide +kernel
theorem d_P_differ_10 : decode prog_1_method_13_code 10 = .ok (.aload_n 0, 1) := by decide +kernel
theorem d_P_differ_11 : decode prog_1_method_13_code 11 = .ok (.iload_n 1, 1) := by decide +kernel
theorem d_P_differ_12 : decode prog_1_method_13_code 12 = .ok (.invokevirtual 59, 3) := by decide +kernel
theorem d_P_differ_15 : decode prog_1_method_13_code 15 = .ok (.invokestatic 137, 3) := by decide +kernel
theorem d_P_differ_18 : decode prog_1_method_13_code 18 = .ok (.aload_n 0, 1) := by decide +kernel
theorem d_P_differ_19 : decode prog_1_method_13_code 19 = .ok (.iload_n 2, 1) := by decide +kernel
theorem d_P_differ_20 : decode prog_1_method_13_code 20 = .ok (.invokevirtual 59, 3) := by decide +kernel
theorem d_P_differ_23 : decode prog_1_method_13_code 23 = .ok (.invokestatic 137, 3) := by decide +kernel
theorem d_P_differ_26 : decode prog_1_method_13_code 26 = .ok (.invokestatic 194, 3) := by decide +kernel
theorem d_P_differ_29 : decode prog_1_method_13_code 29 = .ok (.istore_n 3, 1) := by decide +kernel
theorem d_P_differ_30 : decode prog_1_method_13_code 30 = .ok (.new 186, 3) := by decide +kernel
theorem d_P_differ_33 : decode prog_1_method_13_code 33 = .ok (.dup, 1) := by decide +kernel
theorem d_P_differ_34 : decode prog_1_method_13_code 34 = .ok (.aload_n 0, 1) := by decide +kernel
theorem d_P_differ_35 : decode prog_1_method_13_code 35 = .ok (.iload_n 1, 1) := by decide +kernel
theorem d_P_differ_36 : decode prog_1_method_13_code 36 = .ok (.invokevirtual 59, 3) := by decide +kernel
theorem d_P_differ_39 : decode prog_1_method_13_code 39 = .ok (.iconst 0, 1) := by decide +kernel
theorem d_P_differ_40 : decode prog_1_method_13_code 40 = .ok (.invokespecial 188, 3) := by decide +kernel
theorem d_P_differ_43 : decode prog_1_method_13_code 43 = .ok (.astore 4, 2) := by decide +kernel
theorem d_P_differ_45 : decode prog_1_method_13_code 45 = .ok (.new 186, 3) := by decide +kernel
theorem d_P_differ_48 : decode prog_1_method_13_code 48 = .ok (.dup, 1) := by decide +kernel
theorem d_P_differ_49 : decode prog_1_method_13_code 49 = .ok (.aload_n 0, 1) := by decide +kernel
theorem d_P_differ_50 : decode prog_1_method_13_code 50 = .ok (.iload_n 2, 1) := by decide +kernel
theorem d_P_differ_51 : decode prog_1_method_13_code 51 = .ok (.invokevirtual 59, 3) := by decide +kernel
theorem d_P_differ_54 : decode prog_1_method_13_code 54 = .ok (.iconst 0, 1) := by decide +kernel
theorem d_P_differ_55 : decode prog_1_method_13_code 55 = .ok (.invokespecial 188, 3) := by decide +kernel
theorem d_P_differ_58 : decode prog_1_method_13_code 58 = .ok (.astore 5, 2) := by decide +kernel
theorem d_P_differ_60 : decode prog_1_method_13_code 60 = .ok (.iconst 0, 1) := by decide +kernel
theorem d_P_differ_61 : decode prog_1_method_13_code 61 = .ok (.istore 6, 2) := by decide +kernel
theorem d_P_differ_63 : decode prog_1_method_13_code 63 = .ok (.iload 6, 2) := by decide +kernel
theorem d_P_differ_65 : decode prog_1_method_13_code 65 = .ok (.iload_n 3, 1) := by decide +kernel
theorem d_P_differ_66 : decode prog_1_method_13_code 66 = .ok (.if_icmp .ge 33, 3) := by decide +kernel
theorem d_P_differ_99 : decode prog_1_method_13_code 99 = .ok (.iconst (-1), 1) := by decide +kernel
theorem d_P_differ_100 : decode prog_1_method_13_code 100 = .ok (.ireturn, 1) := by decide +kernel
theorem d_P_differ_69 : decode prog_1_method_13_code 69 = .ok (.aload_n 0, 1) := by decide +kernel
theorem d_P_differ_70 : decode prog_1_method_13_code 70 = .ok (.aload 4, 2) := by decide +kernel
theorem d_P_differ_72 : decode prog_1_method_13_code 72 = .ok (.invokevirtual 190, 3) := by decide +kernel
theorem d_P_differ_75 : decode prog_1_method_13_code 75 = .ok (.invokevirtual 154, 3) := by decide +kernel
theorem d_P_differ_78 : decode prog_1_method_13_code 78 = .ok (.aload_n 0, 1) := by decide +kernel
theorem d_P_differ_79 : decode prog_1_method_13_code 79 = .ok (.aload 5, 2) := by decide +kernel
theorem d_P_differ_81 : decode prog_1_method_13_code 81 = .ok (.invokevirtual 190, 3) := by decide +kernel
theorem d_P_differ_84 : decode prog_1_method_13_code 84 = .ok (.invokevirtual 154, 3) := by decide +kernel
theorem d_P_differ_87 : decode prog_1_method_13_code 87 = .ok (.if_icmp .eq 6, 3) := by decide +kernel
theorem d_P_differ_93 : decode prog_1_method_13_code 93 = .ok (.iinc 6 1, 3) := by decide +kernel
theorem d_P_differ_96 : decode prog_1_method_13_code 96 = .ok (.goto (-33), 3) := by decide +kernel
theorem d_P_differ_90 : decode prog_1_method_13_code 90 = .ok (.iload 6, 2) := by decide +kernel
theorem d_P_differ_92 : decode prog_1_method_13_code 92 = .ok (.ireturn, 1) := by decide +kernel
theorem d_R_isShallow_0 : decode prog_5_method_10_code 0 = .ok (.aload_n 0, 1) := by decide +kernel
theorem d_R_isShallow_1 : decode prog_5_method_10_code 1 = .ok (.invokestatic 57, 3) := by decide +kernel
theorem d_R_isShallow_4 : decode prog_5_method_10_code 4 = .ok (.istore_n 1, 1) := by decide +kernel
theorem d_R_isShallow_5 : decode prog_5_method_10_code 5 = .ok (.iload_n 1, 1) := by decide +kernel
theorem d_R_isShallow_6 : decode prog_5_method_10_code 6 = .ok (.iconst 2, 1) := by decide +kernel
theorem d_R_isShallow_7 : decode prog_5_method_10_code 7 = .ok (.if_icmp .gt 5, 3) := by decide +kernel
theorem d_R_isShallow_12 : decode prog_5_method_10_code 12 = .ok (.aload_n 0, 1) := by decide +kernel
theorem d_R_isShallow_13 : decode prog_5_method_10_code 13 = .ok (.invokestatic 34, 3) := by decide +kernel
theorem d_R_isShallow_16 : decode prog_5_method_10_code 16 = .ok (.i2l, 1) := by decide +kernel
theorem d_R_isShallow_17 : decode prog_5_method_10_code 17 = .ok (.lconst 1, 1) := by decide +kernel
theorem d_R_isShallow_18 : decode prog_5_method_10_code 18 = .ok (.ladd, 1) := by decide +kernel
theorem d_R_isShallow_19 : decode prog_5_method_10_code 19 = .ok (.lstore_n 2, 1) := by decide +kernel
theorem d_R_isShallow_20 : decode prog_5_method_10_code 20 = .ok (.iload_n 1, 1) := by decide +kernel
theorem d_R_isShallow_21 : decode prog_5_method_10_code 21 = .ok (.bipush 40, 2) := by decide +kernel
theorem d_R_isShallow_23 : decode prog_5_method_10_code 23 = .ok (.if_icmp .gt 19, 3) := by decide +kernel
theorem d_R_isShallow_26 : decode prog_5_method_10_code 26 = .ok (.lconst 1, 1) := by decide +kernel
theorem d_R_isShallow_27 : decode prog_5_method_10_code 27 = .ok (.iload_n 1, 1) := by decide +kernel
theorem d_R_isShallow_28 : decode prog_5_method_10_code 28 = .ok (.iconst 2, 1) := by decide +kernel
theorem d_R_isShallow_29 : decode prog_5_method_10_code 29 = .ok (.isub, 1) := by decide +kernel
theorem d_R_isShallow_30 : decode prog_5_method_10_code 30 = .ok (.lshl, 1) := by decide +kernel
theorem d_R_isShallow_31 : decode prog_5_method_10_code 31 = .ok (.lload_n 2, 1) := by decide +kernel
theorem d_R_isShallow_32 : decode prog_5_method_10_code 32 = .ok (.lload_n 2, 1) := by decide +kernel
theorem d_R_isShallow_33 : decode prog_5_method_10_code 33 = .ok (.lmul, 1) := by decide +kernel
theorem d_R_isShallow_34 : decode prog_5_method_10_code 34 = .ok (.lcmp, 1) := by decide +kernel
theorem d_R_isShallow_35 : decode prog_5_method_10_code 35 = .ok (.ifCond .gt 7, 3) := by decide +kernel
theorem d_R_isShallow_38 : decode prog_5_method_10_code 38 = .ok (.iconst 1, 1) := by decide +kernel
theorem d_R_isShallow_39 : decode prog_5_method_10_code 39 = .ok (.goto 4, 3) := by decide +kernel
theorem d_R_isShallow_10 : decode prog_5_method_10_code 10 = .ok (.iconst 1, 1) := by decide +kernel
theorem d_R_isShallow_11 : decode prog_5_method_10_code 11 = .ok (.ireturn, 1) := by decide +kernel
theorem d_R_isShallow_42 : decode prog_5_method_10_code 42 = .ok (.iconst 0, 1) := by decide +kernel
theorem d_R_isShallow_43 : decode prog_5_method_10_code 43 = .ok (.ireturn, 1) := by decide +kernel
theorem d_P_allShallow_0 : decode prog_1_method_23_code 0 = .ok (.aload_n 0, 1) := by decide +kernel
theorem d_P_allShallow_1 : decode prog_1_method_23_code 1 = .ok (.getfield 15, 3) := by decide +kernel
theorem d_P_allShallow_4 : decode prog_1_method_23_code 4 = .ok (.astore_n 1, 1) := by decide +kernel
theorem d_P_allShallow_5 : decode prog_1_method_23_code 5 = .ok (.aload_n 1, 1) := by decide +kernel
theorem d_P_allShallow_6 : decode prog_1_method_23_code 6 = .ok (.arraylength, 1) := by decide +kernel
theorem d_P_allShallow_7 : decode prog_1_method_23_code 7 = .ok (.istore_n 2, 1) := by decide +kernel
theorem d_P_allShallow_8 : decode prog_1_method_23_code 8 = .ok (.iconst 0, 1) := by decide +kernel
theorem d_P_allShallow_9 : decode prog_1_method_23_code 9 = .ok (.istore_n 3, 1) := by decide +kernel
theorem d_P_allShallow_10 : decode prog_1_method_23_code 10 = .ok (.iload_n 3, 1) := by decide +kernel
theorem d_P_allShallow_11 : decode prog_1_method_23_code 11 = .ok (.iload_n 2, 1) := by decide +kernel
theorem d_P_allShallow_12 : decode prog_1_method_23_code 12 = .ok (.if_icmp .ge 24, 3) := by decide +kernel
theorem d_P_allShallow_36 : decode prog_1_method_23_code 36 = .ok (.iconst 1, 1) := by decide +kernel
theorem d_P_allShallow_37 : decode prog_1_method_23_code 37 = .ok (.ireturn, 1) := by decide +kernel
theorem d_P_allShallow_15 : decode prog_1_method_23_code 15 = .ok (.aload_n 1, 1) := by decide +kernel
theorem d_P_allShallow_16 : decode prog_1_method_23_code 16 = .ok (.iload_n 3, 1) := by decide +kernel
theorem d_P_allShallow_17 : decode prog_1_method_23_code 17 = .ok (.aaload, 1) := by decide +kernel
theorem d_P_allShallow_18 : decode prog_1_method_23_code 18 = .ok (.astore 4, 2) := by decide +kernel
theorem d_P_allShallow_20 : decode prog_1_method_23_code 20 = .ok (.aload 4, 2) := by decide +kernel
theorem d_P_allShallow_22 : decode prog_1_method_23_code 22 = .ok (.invokestatic 212, 3) := by decide +kernel
theorem d_P_allShallow_25 : decode prog_1_method_23_code 25 = .ok (.ifCond .ne 5, 3) := by decide +kernel
theorem d_P_allShallow_30 : decode prog_1_method_23_code 30 = .ok (.iinc 3 1, 3) := by decide +kernel
theorem d_P_allShallow_33 : decode prog_1_method_23_code 33 = .ok (.goto (-23), 3) := by decide +kernel
theorem d_P_allShallow_28 : decode prog_1_method_23_code 28 = .ok (.iconst 0, 1) := by decide +kernel
theorem d_P_allShallow_29 : decode prog_1_method_23_code 29 = .ok (.ireturn, 1) := by decide +kernel
theorem d_P_count_0 : decode prog_1_method_14_code 0 = .ok (.iload_n 1, 1) := by decide +kernel
theorem d_P_count_1 : decode prog_1_method_14_code 1 = .ok (.tableswitch 59 0 3 #[31, 36, 41, 46], 31) := by decide +kernel
theorem d_P_count_32 : decode prog_1_method_14_code 32 = .ok (.aload_n 0, 1) := by decide +kernel
theorem d_P_count_33 : decode prog_1_method_14_code 33 = .ok (.getfield 37, 3) := by decide +kernel
theorem d_P_count_36 : decode prog_1_method_14_code 36 = .ok (.ireturn, 1) := by decide +kernel
theorem d_P_count_37 : decode prog_1_method_14_code 37 = .ok (.aload_n 0, 1) := by decide +kernel
theorem d_P_count_38 : decode prog_1_method_14_code 38 = .ok (.invokevirtual 200, 3) := by decide +kernel
theorem d_P_count_41 : decode prog_1_method_14_code 41 = .ok (.ireturn, 1) := by decide +kernel
theorem d_P_count_42 : decode prog_1_method_14_code 42 = .ok (.aload_n 0, 1) := by decide +kernel
theorem d_P_count_43 : decode prog_1_method_14_code 43 = .ok (.invokevirtual 203, 3) := by decide +kernel
theorem d_P_count_46 : decode prog_1_method_14_code 46 = .ok (.ireturn, 1) := by decide +kernel
theorem d_P_count_47 : decode prog_1_method_14_code 47 = .ok (.aload_n 0, 1) := by decide +kernel
theorem d_P_count_48 : decode prog_1_method_14_code 48 = .ok (.invokevirtual 206, 3) := by decide +kernel
theorem d_P_count_51 : decode prog_1_method_14_code 51 = .ok (.ifCond .eq 7, 3) := by decide +kernel
theorem d_P_count_58 : decode prog_1_method_14_code 58 = .ok (.iconst 0, 1) := by decide +kernel
theorem d_P_count_54 : decode prog_1_method_14_code 54 = .ok (.iconst 1, 1) := by decide +kernel
theorem d_P_count_55 : decode prog_1_method_14_code 55 = .ok (.goto 4, 3) := by decide +kernel
theorem d_P_count_60 : decode prog_1_method_14_code 60 = .ok (.iconst (-1), 1) := by decide +kernel
theorem d_P_count_61 : decode prog_1_method_14_code 61 = .ok (.ireturn, 1) := by decide +kernel
theorem d_P_count_59 : decode prog_1_method_14_code 59 = .ok (.ireturn, 1) := by decide +kernel
theorem d_M_init_0 : decode prog_9_method_1_code 0 = .ok (.aload_n 0, 1) := by decide +kernel
theorem d_M_init_1 : decode prog_9_method_1_code 1 = .ok (.invokespecial 1, 3) := by decide +kernel
theorem d_M_init_4 : decode prog_9_method_1_code 4 = .ok (.aload_n 0, 1) := by decide +kernel
theorem d_M_init_5 : decode prog_9_method_1_code 5 = .ok (.sipush 2048, 3) := by decide +kernel
theorem d_M_init_8 : decode prog_9_method_1_code 8 = .ok (.newarray .int, 2) := by decide +kernel
theorem d_M_init_10 : decode prog_9_method_1_code 10 = .ok (.putfield 7, 3) := by decide +kernel
theorem d_M_init_13 : decode prog_9_method_1_code 13 = .ok (.aload_n 0, 1) := by decide +kernel
theorem d_M_init_14 : decode prog_9_method_1_code 14 = .ok (.bipush 17, 2) := by decide +kernel
theorem d_M_init_16 : decode prog_9_method_1_code 16 = .ok (.newarray .int, 2) := by decide +kernel
theorem d_M_init_18 : decode prog_9_method_1_code 18 = .ok (.putfield 13, 3) := by decide +kernel
theorem d_M_init_21 : decode prog_9_method_1_code 21 = .ok (.aload_n 0, 1) := by decide +kernel
theorem d_M_init_22 : decode prog_9_method_1_code 22 = .ok (.sipush 4096, 3) := by decide +kernel
theorem d_M_init_25 : decode prog_9_method_1_code 25 = .ok (.newarray .int, 2) := by decide +kernel
theorem d_M_init_27 : decode prog_9_method_1_code 27 = .ok (.putfield 16, 3) := by decide +kernel
theorem d_M_init_30 : decode prog_9_method_1_code 30 = .ok (.aload_n 0, 1) := by decide +kernel
theorem d_M_init_31 : decode prog_9_method_1_code 31 = .ok (.sipush 4096, 3) := by decide +kernel
theorem d_M_init_34 : decode prog_9_method_1_code 34 = .ok (.newarray .int, 2) := by decide +kernel
theorem d_M_init_36 : decode prog_9_method_1_code 36 = .ok (.putfield 19, 3) := by decide +kernel
theorem d_M_init_39 : decode prog_9_method_1_code 39 = .ok (.aload_n 0, 1) := by decide +kernel
theorem d_M_init_40 : decode prog_9_method_1_code 40 = .ok (.sipush 4096, 3) := by decide +kernel
theorem d_M_init_43 : decode prog_9_method_1_code 43 = .ok (.newarray .int, 2) := by decide +kernel
theorem d_M_init_45 : decode prog_9_method_1_code 45 = .ok (.putfield 22, 3) := by decide +kernel
theorem d_M_init_48 : decode prog_9_method_1_code 48 = .ok (.aload_n 0, 1) := by decide +kernel
theorem d_M_init_49 : decode prog_9_method_1_code 49 = .ok (.sipush 4096, 3) := by decide +kernel
theorem d_M_init_52 : decode prog_9_method_1_code 52 = .ok (.newarray .int, 2) := by decide +kernel
theorem d_M_init_54 : decode prog_9_method_1_code 54 = .ok (.putfield 25, 3) := by decide +kernel
theorem d_M_init_57 : decode prog_9_method_1_code 57 = .ok (.return_, 1) := by decide +kernel
theorem d_M_thrown_0 : decode prog_9_method_2_code 0 = .ok (.aload_n 0, 1) := by decide +kernel
