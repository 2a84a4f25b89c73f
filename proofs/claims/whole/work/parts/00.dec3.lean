theorem d_M_thrown_1 : decode prog_9_method_2_code 1 = .ok (.getfield 28, 3) := by decide +kernel
theorem d_M_thrown_4 : decode prog_9_method_2_code 4 = .ok (.ireturn, 1) := by decide +kernel
theorem d_M_raise_0 : decode prog_9_method_3_code 0 = .ok (.aload_n 0, 1) := by decide +kernel
theorem d_M_raise_1 : decode prog_9_method_3_code 1 = .ok (.iload_n 1, 1) := by decide +kernel
theorem d_M_raise_2 : decode prog_9_method_3_code 2 = .ok (.putfield 28, 3) := by decide +kernel
theorem d_M_raise_5 : decode prog_9_method_3_code 5 = .ok (.iconst 0, 1) := by decide +kernel
theorem d_M_raise_6 : decode prog_9_method_3_code 6 = .ok (.ireturn, 1) := by decide +kernel
theorem d_M_isText_0 : decode prog_9_method_4_code 0 = .ok (.iload_n 0, 1) := by decide +kernel
theorem d_M_isText_1 : decode prog_9_method_4_code 1 = .ok (.ifCond .lt 13, 3) := by decide +kernel
theorem d_M_isText_4 : decode prog_9_method_4_code 4 = .ok (.iload_n 0, 1) := by decide +kernel
theorem d_M_isText_5 : decode prog_9_method_4_code 5 = .ok (.bipush 16, 2) := by decide +kernel
theorem d_M_isText_7 : decode prog_9_method_4_code 7 = .ok (.if_icmp .ge 7, 3) := by decide +kernel
theorem d_M_isText_10 : decode prog_9_method_4_code 10 = .ok (.iconst 1, 1) := by decide +kernel
theorem d_M_isText_11 : decode prog_9_method_4_code 11 = .ok (.goto 4, 3) := by decide +kernel
theorem d_M_isText_14 : decode prog_9_method_4_code 14 = .ok (.iconst 0, 1) := by decide +kernel
theorem d_M_isText_15 : decode prog_9_method_4_code 15 = .ok (.ireturn, 1) := by decide +kernel
theorem d_M_size_0 : decode prog_9_method_5_code 0 = .ok (.aload_n 0, 1) := by decide +kernel
theorem d_M_size_1 : decode prog_9_method_5_code 1 = .ok (.getfield 13, 3) := by decide +kernel
theorem d_M_size_4 : decode prog_9_method_5_code 4 = .ok (.iload_n 1, 1) := by decide +kernel
theorem d_M_size_5 : decode prog_9_method_5_code 5 = .ok (.iconst 1, 1) := by decide +kernel
theorem d_M_size_6 : decode prog_9_method_5_code 6 = .ok (.iadd, 1) := by decide +kernel
theorem d_M_size_7 : decode prog_9_method_5_code 7 = .ok (.iaload, 1) := by decide +kernel
theorem d_M_size_8 : decode prog_9_method_5_code 8 = .ok (.aload_n 0, 1) := by decide +kernel
theorem d_M_size_9 : decode prog_9_method_5_code 9 = .ok (.getfield 13, 3) := by decide +kernel
theorem d_M_size_12 : decode prog_9_method_5_code 12 = .ok (.iload_n 1, 1) := by decide +kernel
theorem d_M_size_13 : decode prog_9_method_5_code 13 = .ok (.iaload, 1) := by decide +kernel
theorem d_M_size_14 : decode prog_9_method_5_code 14 = .ok (.isub, 1) := by decide +kernel
theorem d_M_size_15 : decode prog_9_method_5_code 15 = .ok (.ireturn, 1) := by decide +kernel
theorem d_M_isPlace_0 : decode prog_9_method_6_code 0 = .ok (.iload_n 1, 1) := by decide +kernel
theorem d_M_isPlace_1 : decode prog_9_method_6_code 1 = .ok (.invokestatic 32, 3) := by decide +kernel
theorem d_M_isPlace_4 : decode prog_9_method_6_code 4 = .ok (.ifCond .eq 20, 3) := by decide +kernel
theorem d_M_isPlace_7 : decode prog_9_method_6_code 7 = .ok (.iload_n 2, 1) := by decide +kernel
theorem d_M_isPlace_8 : decode prog_9_method_6_code 8 = .ok (.ifCond .lt 16, 3) := by decide +kernel
theorem d_M_isPlace_11 : decode prog_9_method_6_code 11 = .ok (.iload_n 2, 1) := by decide +kernel
theorem d_M_isPlace_12 : decode prog_9_method_6_code 12 = .ok (.aload_n 0, 1) := by decide +kernel
theorem d_M_isPlace_13 : decode prog_9_method_6_code 13 = .ok (.iload_n 1, 1) := by decide +kernel
theorem d_M_isPlace_14 : decode prog_9_method_6_code 14 = .ok (.invokevirtual 36, 3) := by decide +kernel
theorem d_M_isPlace_17 : decode prog_9_method_6_code 17 = .ok (.if_icmp .gt 7, 3) := by decide +kernel
theorem d_M_isPlace_20 : decode prog_9_method_6_code 20 = .ok (.iconst 1, 1) := by decide +kernel
theorem d_M_isPlace_21 : decode prog_9_method_6_code 21 = .ok (.goto 4, 3) := by decide +kernel
theorem d_M_isPlace_24 : decode prog_9_method_6_code 24 = .ok (.iconst 0, 1) := by decide +kernel
theorem d_M_isPlace_25 : decode prog_9_method_6_code 25 = .ok (.ireturn, 1) := by decide +kernel
theorem d_M_isRange_0 : decode prog_9_method_7_code 0 = .ok (.aload_n 0, 1) := by decide +kernel
theorem d_M_isRange_1 : decode prog_9_method_7_code 1 = .ok (.iload_n 1, 1) := by decide +kernel
theorem d_M_isRange_2 : decode prog_9_method_7_code 2 = .ok (.iload_n 2, 1) := by decide +kernel
theorem d_M_isRange_3 : decode prog_9_method_7_code 3 = .ok (.invokevirtual 40, 3) := by decide +kernel
theorem d_M_isRange_6 : decode prog_9_method_7_code 6 = .ok (.ifCond .eq 22, 3) := by decide +kernel
theorem d_M_isRange_9 : decode prog_9_method_7_code 9 = .ok (.iload_n 3, 1) := by decide +kernel
theorem d_M_isRange_10 : decode prog_9_method_7_code 10 = .ok (.ifCond .lt 18, 3) := by decide +kernel
theorem d_M_isRange_13 : decode prog_9_method_7_code 13 = .ok (.iload_n 3, 1) := by decide +kernel
theorem d_M_isRange_14 : decode prog_9_method_7_code 14 = .ok (.aload_n 0, 1) := by decide +kernel
theorem d_M_isRange_15 : decode prog_9_method_7_code 15 = .ok (.iload_n 1, 1) := by decide +kernel
theorem d_M_isRange_16 : decode prog_9_method_7_code 16 = .ok (.invokevirtual 36, 3) := by decide +kernel
theorem d_M_isRange_19 : decode prog_9_method_7_code 19 = .ok (.iload_n 2, 1) := by decide +kernel
theorem d_M_isRange_20 : decode prog_9_method_7_code 20 = .ok (.isub, 1) := by decide +kernel
theorem d_M_isRange_21 : decode prog_9_method_7_code 21 = .ok (.if_icmp .gt 7, 3) := by decide +kernel
theorem d_M_isRange_24 : decode prog_9_method_7_code 24 = .ok (.iconst 1, 1) := by decide +kernel
theorem d_M_isRange_25 : decode prog_9_method_7_code 25 = .ok (.goto 4, 3) := by decide +kernel
theorem d_M_isRange_28 : decode prog_9_method_7_code 28 = .ok (.iconst 0, 1) := by decide +kernel
theorem d_M_isRange_29 : decode prog_9_method_7_code 29 = .ok (.ireturn, 1) := by decide +kernel
theorem d_M_write_0 : decode prog_9_method_8_code 0 = .ok (.aload_n 0, 1) := by decide +kernel
theorem d_M_write_1 : decode prog_9_method_8_code 1 = .ok (.lload_n 1, 1) := by decide +kernel
theorem d_M_write_2 : decode prog_9_method_8_code 2 = .ok (.ldc2_w 44, 3) := by decide +kernel
theorem d_M_write_5 : decode prog_9_method_8_code 5 = .ok (.land, 1) := by decide +kernel
theorem d_M_write_6 : decode prog_9_method_8_code 6 = .ok (.lconst 0, 1) := by decide +kernel
theorem d_M_write_7 : decode prog_9_method_8_code 7 = .ok (.lcmp, 1) := by decide +kernel
theorem d_M_write_8 : decode prog_9_method_8_code 8 = .ok (.ifCond .ne 7, 3) := by decide +kernel
theorem d_M_write_15 : decode prog_9_method_8_code 15 = .ok (.iconst 0, 1) := by decide +kernel
theorem d_M_write_11 : decode prog_9_method_8_code 11 = .ok (.iconst 1, 1) := by decide +kernel
theorem d_M_write_12 : decode prog_9_method_8_code 12 = .ok (.goto 4, 3) := by decide +kernel
theorem d_M_write_16 : decode prog_9_method_8_code 16 = .ok (.putfield 28, 3) := by decide +kernel
theorem d_M_write_19 : decode prog_9_method_8_code 19 = .ok (.aload_n 0, 1) := by decide +kernel
theorem d_M_write_20 : decode prog_9_method_8_code 20 = .ok (.getfield 28, 3) := by decide +kernel
theorem d_M_write_23 : decode prog_9_method_8_code 23 = .ok (.ifCond .le 5, 3) := by decide +kernel
theorem d_M_write_28 : decode prog_9_method_8_code 28 = .ok (.iconst 0, 1) := by decide +kernel
theorem d_M_write_29 : decode prog_9_method_8_code 29 = .ok (.istore_n 3, 1) := by decide +kernel
theorem d_M_write_26 : decode prog_9_method_8_code 26 = .ok (.iconst 0, 1) := by decide +kernel
theorem d_M_write_27 : decode prog_9_method_8_code 27 = .ok (.ireturn, 1) := by decide +kernel
theorem d_M_write_30 : decode prog_9_method_8_code 30 = .ok (.iload_n 3, 1) := by decide +kernel
theorem d_M_write_31 : decode prog_9_method_8_code 31 = .ok (.bipush 8, 2) := by decide +kernel
theorem d_M_write_33 : decode prog_9_method_8_code 33 = .ok (.if_icmp .ge 24, 3) := by decide +kernel
theorem d_M_write_36 : decode prog_9_method_8_code 36 = .ok (.lload_n 1, 1) := by decide +kernel
theorem d_M_write_37 : decode prog_9_method_8_code 37 = .ok (.bipush 8, 2) := by decide +kernel
theorem d_M_write_39 : decode prog_9_method_8_code 39 = .ok (.iload_n 3, 1) := by decide +kernel
theorem d_M_write_40 : decode prog_9_method_8_code 40 = .ok (.imul, 1) := by decide +kernel
theorem d_M_write_41 : decode prog_9_method_8_code 41 = .ok (.lshr, 1) := by decide +kernel
theorem d_M_write_42 : decode prog_9_method_8_code 42 = .ok (.ldc2_w 44, 3) := by decide +kernel
theorem d_M_write_45 : decode prog_9_method_8_code 45 = .ok (.land, 1) := by decide +kernel
theorem d_M_write_46 : decode prog_9_method_8_code 46 = .ok (.lconst 0, 1) := by decide +kernel
theorem d_M_write_47 : decode prog_9_method_8_code 47 = .ok (.lcmp, 1) := by decide +kernel
theorem d_M_write_48 : decode prog_9_method_8_code 48 = .ok (.ifCond .eq 9, 3) := by decide +kernel
theorem d_M_write_51 : decode prog_9_method_8_code 51 = .ok (.iinc 3 1, 3) := by decide +kernel
theorem d_M_write_54 : decode prog_9_method_8_code 54 = .ok (.goto (-24), 3) := by decide +kernel
theorem d_M_write_57 : decode prog_9_method_8_code 57 = .ok (.aload_n 0, 1) := by decide +kernel
theorem d_M_write_58 : decode prog_9_method_8_code 58 = .ok (.getfield 46, 3) := by decide +kernel
theorem d_M_write_61 : decode prog_9_method_8_code 61 = .ok (.iload_n 3, 1) := by decide +kernel
theorem d_M_write_62 : decode prog_9_method_8_code 62 = .ok (.iadd, 1) := by decide +kernel
theorem d_M_write_63 : decode prog_9_method_8_code 63 = .ok (.sipush 2048, 3) := by decide +kernel
theorem d_M_write_66 : decode prog_9_method_8_code 66 = .ok (.if_icmp .le 9, 3) := by decide +kernel
theorem d_M_write_75 : decode prog_9_method_8_code 75 = .ok (.iconst 0, 1) := by decide +kernel
theorem d_M_write_76 : decode prog_9_method_8_code 76 = .ok (.istore 4, 2) := by decide +kernel
theorem d_M_write_69 : decode prog_9_method_8_code 69 = .ok (.aload_n 0, 1) := by decide +kernel
theorem d_M_write_70 : decode prog_9_method_8_code 70 = .ok (.iconst 2, 1) := by decide +kernel
theorem d_M_write_71 : decode prog_9_method_8_code 71 = .ok (.invokevirtual 49, 3) := by decide +kernel
theorem d_M_write_74 : decode prog_9_method_8_code 74 = .ok (.ireturn, 1) := by decide +kernel
theorem d_M_write_78 : decode prog_9_method_8_code 78 = .ok (.iload 4, 2) := by decide +kernel
theorem d_M_write_80 : decode prog_9_method_8_code 80 = .ok (.iload_n 3, 1) := by decide +kernel
theorem d_M_write_81 : decode prog_9_method_8_code 81 = .ok (.if_icmp .ge 33, 3) := by decide +kernel
theorem d_M_write_114 : decode prog_9_method_8_code 114 = .ok (.aload_n 0, 1) := by decide +kernel
theorem d_M_write_115 : decode prog_9_method_8_code 115 = .ok (.dup, 1) := by decide +kernel
theorem d_M_write_116 : decode prog_9_method_8_code 116 = .ok (.getfield 46, 3) := by decide +kernel
theorem d_M_write_119 : decode prog_9_method_8_code 119 = .ok (.iload_n 3, 1) := by decide +kernel
theorem d_M_write_120 : decode prog_9_method_8_code 120 = .ok (.iadd, 1) := by decide +kernel
theorem d_M_write_121 : decode prog_9_method_8_code 121 = .ok (.putfield 46, 3) := by decide +kernel
theorem d_M_write_124 : decode prog_9_method_8_code 124 = .ok (.aload_n 0, 1) := by decide +kernel
theorem d_M_write_125 : decode prog_9_method_8_code 125 = .ok (.getfield 46, 3) := by decide +kernel
theorem d_M_write_128 : decode prog_9_method_8_code 128 = .ok (.iload_n 3, 1) := by decide +kernel
theorem d_M_write_129 : decode prog_9_method_8_code 129 = .ok (.isub, 1) := by decide +kernel
theorem d_M_write_130 : decode prog_9_method_8_code 130 = .ok (.ireturn, 1) := by decide +kernel
theorem d_M_write_84 : decode prog_9_method_8_code 84 = .ok (.aload_n 0, 1) := by decide +kernel
theorem d_M_write_85 : decode prog_9_method_8_code 85 = .ok (.getfield 7, 3) := by decide +kernel
theorem d_M_write_88 : decode prog_9_method_8_code 88 = .ok (.aload_n 0, 1) := by decide +kernel
theorem d_M_write_89 : decode prog_9_method_8_code 89 = .ok (.getfield 46, 3) := by decide +kernel
theorem d_M_write_92 : decode prog_9_method_8_code 92 = .ok (.iload 4, 2) := by decide +kernel
theorem d_M_write_94 : decode prog_9_method_8_code 94 = .ok (.iadd, 1) := by decide +kernel
theorem d_M_write_95 : decode prog_9_method_8_code 95 = .ok (.lload_n 1, 1) := by decide +kernel
theorem d_M_write_96 : decode prog_9_method_8_code 96 = .ok (.bipush 8, 2) := by decide +kernel
theorem d_M_write_98 : decode prog_9_method_8_code 98 = .ok (.iload 4, 2) := by decide +kernel
theorem d_M_write_100 : decode prog_9_method_8_code 100 = .ok (.imul, 1) := by decide +kernel
theorem d_M_write_101 : decode prog_9_method_8_code 101 = .ok (.lshr, 1) := by decide +kernel
theorem d_M_write_102 : decode prog_9_method_8_code 102 = .ok (.ldc2_w 44, 3) := by decide +kernel
theorem d_M_write_105 : decode prog_9_method_8_code 105 = .ok (.land, 1) := by decide +kernel
theorem d_M_write_106 : decode prog_9_method_8_code 106 = .ok (.l2i, 1) := by decide +kernel
theorem d_M_write_107 : decode prog_9_method_8_code 107 = .ok (.iastore, 1) := by decide +kernel
theorem d_M_write_108 : decode prog_9_method_8_code 108 = .ok (.iinc 4 1, 3) := by decide +kernel
theorem d_M_write_111 : decode prog_9_method_8_code 111 = .ok (.goto (-33), 3) := by decide +kernel
theorem d_M_keep_0 : decode prog_9_method_9_code 0 = .ok (.iconst 0, 1) := by decide +kernel
theorem d_M_keep_1 : decode prog_9_method_9_code 1 = .ok (.istore 4, 2) := by decide +kernel
theorem d_M_keep_3 : decode prog_9_method_9_code 3 = .ok (.iload 4, 2) := by decide +kernel
theorem d_M_keep_5 : decode prog_9_method_9_code 5 = .ok (.iload_n 3, 1) := by decide +kernel
theorem d_M_keep_6 : decode prog_9_method_9_code 6 = .ok (.if_icmp .ge 55, 3) := by decide +kernel
theorem d_M_keep_61 : decode prog_9_method_9_code 61 = .ok (.return_, 1) := by decide +kernel
theorem d_M_keep_9 : decode prog_9_method_9_code 9 = .ok (.aload_n 0, 1) := by decide +kernel
theorem d_M_keep_10 : decode prog_9_method_9_code 10 = .ok (.getfield 22, 3) := by decide +kernel
theorem d_M_keep_13 : decode prog_9_method_9_code 13 = .ok (.iload 4, 2) := by decide +kernel
theorem d_M_keep_15 : decode prog_9_method_9_code 15 = .ok (.aload_n 0, 1) := by decide +kernel
theorem d_M_keep_16 : decode prog_9_method_9_code 16 = .ok (.getfield 16, 3) := by decide +kernel
theorem d_M_keep_19 : decode prog_9_method_9_code 19 = .ok (.aload_n 0, 1) := by decide +kernel
theorem d_M_keep_20 : decode prog_9_method_9_code 20 = .ok (.getfield 13, 3) := by decide +kernel
theorem d_M_keep_23 : decode prog_9_method_9_code 23 = .ok (.iload_n 1, 1) := by decide +kernel
theorem d_M_keep_24 : decode prog_9_method_9_code 24 = .ok (.iaload, 1) := by decide +kernel
theorem d_M_keep_25 : decode prog_9_method_9_code 25 = .ok (.iload_n 2, 1) := by decide +kernel
theorem d_M_keep_26 : decode prog_9_method_9_code 26 = .ok (.iadd, 1) := by decide +kernel
theorem d_M_keep_27 : decode prog_9_method_9_code 27 = .ok (.iload 4, 2) := by decide +kernel
theorem d_M_keep_29 : decode prog_9_method_9_code 29 = .ok (.iadd, 1) := by decide +kernel
theorem d_M_keep_30 : decode prog_9_method_9_code 30 = .ok (.iaload, 1) := by decide +kernel
theorem d_M_keep_31 : decode prog_9_method_9_code 31 = .ok (.iastore, 1) := by decide +kernel
theorem d_M_keep_32 : decode prog_9_method_9_code 32 = .ok (.aload_n 0, 1) := by decide +kernel
theorem d_M_keep_33 : decode prog_9_method_9_code 33 = .ok (.getfield 25, 3) := by decide +kernel
theorem d_M_keep_36 : decode prog_9_method_9_code 36 = .ok (.iload 4, 2) := by decide +kernel
theorem d_M_keep_38 : decode prog_9_method_9_code 38 = .ok (.aload_n 0, 1) := by decide +kernel
theorem d_M_keep_39 : decode prog_9_method_9_code 39 = .ok (.getfield 19, 3) := by decide +kernel
theorem d_M_keep_42 : decode prog_9_method_9_code 42 = .ok (.aload_n 0, 1) := by decide +kernel
theorem d_M_keep_43 : decode prog_9_method_9_code 43 = .ok (.getfield 13, 3) := by decide +kernel
theorem d_M_keep_46 : decode prog_9_method_9_code 46 = .ok (.iload_n 1, 1) := by decide +kernel
theorem d_M_keep_47 : decode prog_9_method_9_code 47 = .ok (.iaload, 1) := by decide +kernel
theorem d_M_keep_48 : decode prog_9_method_9_code 48 = .ok (.iload_n 2, 1) := by decide +kernel
theorem d_M_keep_49 : decode prog_9_method_9_code 49 = .ok (.iadd, 1) := by decide +kernel
theorem d_M_keep_50 : decode prog_9_method_9_code 50 = .ok (.iload 4, 2) := by decide +kernel
theorem d_M_keep_52 : decode prog_9_method_9_code 52 = .ok (.iadd, 1) := by decide +kernel
theorem d_M_keep_53 : decode prog_9_method_9_code 53 = .ok (.iaload, 1) := by decide +kernel
theorem d_M_keep_54 : decode prog_9_method_9_code 54 = .ok (.iastore, 1) := by decide +kernel
theorem d_M_keep_55 : decode prog_9_method_9_code 55 = .ok (.iinc 4 1, 3) := by decide +kernel
theorem d_M_keep_58 : decode prog_9_method_9_code 58 = .ok (.goto (-55), 3) := by decide +kernel
theorem d_M_remove_0 : decode prog_9_method_10_code 0 = .ok (.aload_n 0, 1) := by decide +kernel
theorem d_M_remove_1 : decode prog_9_method_10_code 1 = .ok (.getfield 13, 3) := by decide +kernel
theorem d_M_remove_4 : decode prog_9_method_10_code 4 = .ok (.iload_n 1, 1) := by decide +kernel
theorem d_M_remove_5 : decode prog_9_method_10_code 5 = .ok (.iaload, 1) := by decide +kernel
theorem d_M_remove_6 : decode prog_9_method_10_code 6 = .ok (.iload_n 2, 1) := by decide +kernel
theorem d_M_remove_7 : decode prog_9_method_10_code 7 = .ok (.iadd, 1) := by decide +kernel
theorem d_M_remove_8 : decode prog_9_method_10_code 8 = .ok (.istore 4, 2) := by decide +kernel
theorem d_M_remove_10 : decode prog_9_method_10_code 10 = .ok (.iload 4, 2) := by decide +kernel
theorem d_M_remove_12 : decode prog_9_method_10_code 12 = .ok (.aload_n 0, 1) := by decide +kernel
theorem d_M_remove_13 : decode prog_9_method_10_code 13 = .ok (.getfield 13, 3) := by decide +kernel
theorem d_M_remove_16 : decode prog_9_method_10_code 16 = .ok (.bipush 16, 2) := by decide +kernel
theorem d_M_remove_18 : decode prog_9_method_10_code 18 = .ok (.iaload, 1) := by decide +kernel
theorem d_M_remove_19 : decode prog_9_method_10_code 19 = .ok (.iload_n 3, 1) := by decide +kernel
theorem d_M_remove_20 : decode prog_9_method_10_code 20 = .ok (.isub, 1) := by decide +kernel
theorem d_M_remove_21 : decode prog_9_method_10_code 21 = .ok (.if_icmp .ge 41, 3) := by decide +kernel
theorem d_M_remove_62 : decode prog_9_method_10_code 62 = .ok (.iload_n 1, 1) := by decide +kernel
theorem d_M_remove_63 : decode prog_9_method_10_code 63 = .ok (.iconst 1, 1) := by decide +kernel
theorem d_M_remove_64 : decode prog_9_method_10_code 64 = .ok (.iadd, 1) := by decide +kernel
theorem d_M_remove_65 : decode prog_9_method_10_code 65 = .ok (.istore 4, 2) := by decide +kernel
theorem d_M_remove_24 : decode prog_9_method_10_code 24 = .ok (.aload_n 0, 1) := by decide +kernel
theorem d_M_remove_25 : decode prog_9_method_10_code 25 = .ok (.getfield 16, 3) := by decide +kernel
theorem d_M_remove_28 : decode prog_9_method_10_code 28 = .ok (.iload 4, 2) := by decide +kernel
theorem d_M_remove_30 : decode prog_9_method_10_code 30 = .ok (.aload_n 0, 1) := by decide +kernel
theorem d_M_remove_31 : decode prog_9_method_10_code 31 = .ok (.getfield 16, 3) := by decide +kernel
theorem d_M_remove_34 : decode prog_9_method_10_code 34 = .ok (.iload 4, 2) := by decide +kernel
theorem d_M_remove_36 : decode prog_9_method_10_code 36 = .ok (.iload_n 3, 1) := by decide +kernel
theorem d_M_remove_37 : decode prog_9_method_10_code 37 = .ok (.iadd, 1) := by decide +kernel
theorem d_M_remove_38 : decode prog_9_method_10_code 38 = .ok (.iaload, 1) := by decide +kernel
theorem d_M_remove_39 : decode prog_9_method_10_code 39 = .ok (.iastore, 1) := by decide +kernel
theorem d_M_remove_40 : decode prog_9_method_10_code 40 = .ok (.aload_n 0, 1) := by decide +kernel
theorem d_M_remove_41 : decode prog_9_method_10_code 41 = .ok (.getfield 19, 3) := by decide +kernel
theorem d_M_remove_44 : decode prog_9_method_10_code 44 = .ok (.iload 4, 2) := by decide +kernel
theorem d_M_remove_46 : decode prog_9_method_10_code 46 = .ok (.aload_n 0, 1) := by decide +kernel
theorem d_M_remove_47 : decode prog_9_method_10_code 47 = .ok (.getfield 19, 3) := by decide +kernel
theorem d_M_remove_50 : decode prog_9_method_10_code 50 = .ok (.iload 4, 2) := by decide +kernel
theorem d_M_remove_52 : decode prog_9_method_10_code 52 = .ok (.iload_n 3, 1) := by decide +kernel
theorem d_M_remove_53 : decode prog_9_method_10_code 53 = .ok (.iadd, 1) := by decide +kernel
theorem d_M_remove_54 : decode prog_9_method_10_code 54 = .ok (.iaload, 1) := by decide +kernel
theorem d_M_remove_55 : decode prog_9_method_10_code 55 = .ok (.iastore, 1) := by decide +kernel
theorem d_M_remove_56 : decode prog_9_method_10_code 56 = .ok (.iinc 4 1, 3) := by decide +kernel
theorem d_M_remove_59 : decode prog_9_method_10_code 59 = .ok (.goto (-49), 3) := by decide +kernel
theorem d_M_remove_67 : decode prog_9_method_10_code 67 = .ok (.iload 4, 2) := by decide +kernel
theorem d_M_remove_69 : decode prog_9_method_10_code 69 = .ok (.bipush 16, 2) := by decide +kernel
theorem d_M_remove_71 : decode prog_9_method_10_code 71 = .ok (.if_icmp .gt 20, 3) := by decide +kernel
theorem d_M_remove_91 : decode prog_9_method_10_code 91 = .ok (.return_, 1) := by decide +kernel
theorem d_M_remove_74 : decode prog_9_method_10_code 74 = .ok (.aload_n 0, 1) := by decide +kernel
theorem d_M_remove_75 : decode prog_9_method_10_code 75 = .ok (.getfield 13, 3) := by decide +kernel
theorem d_M_remove_78 : decode prog_9_method_10_code 78 = .ok (.iload 4, 2) := by decide +kernel
theorem d_M_remove_80 : decode prog_9_method_10_code 80 = .ok (.dup2, 1) := by decide +kernel
theorem d_M_remove_81 : decode prog_9_method_10_code 81 = .ok (.iaload, 1) := by decide +kernel
theorem d_M_remove_82 : decode prog_9_method_10_code 82 = .ok (.iload_n 3, 1) := by decide +kernel
theorem d_M_remove_83 : decode prog_9_method_10_code 83 = .ok (.isub, 1) := by decide +kernel
theorem d_M_remove_84 : decode prog_9_method_10_code 84 = .ok (.iastore, 1) := by decide +kernel
theorem d_M_remove_85 : decode prog_9_method_10_code 85 = .ok (.iinc 4 1, 3) := by decide +kernel
theorem d_M_remove_88 : decode prog_9_method_10_code 88 = .ok (.goto (-21), 3) := by decide +kernel
theorem d_M_insert_0 : decode prog_9_method_11_code 0 = .ok (.aload_n 0, 1) := by decide +kernel
theorem d_M_insert_1 : decode prog_9_method_11_code 1 = .ok (.getfield 13, 3) := by decide +kernel
theorem d_M_insert_4 : decode prog_9_method_11_code 4 = .ok (.iload_n 1, 1) := by decide +kernel
theorem d_M_insert_5 : decode prog_9_method_11_code 5 = .ok (.iaload, 1) := by decide +kernel
theorem d_M_insert_6 : decode prog_9_method_11_code 6 = .ok (.iload_n 2, 1) := by decide +kernel
theorem d_M_insert_7 : decode prog_9_method_11_code 7 = .ok (.iadd, 1) := by decide +kernel
theorem d_M_insert_8 : decode prog_9_method_11_code 8 = .ok (.istore 4, 2) := by decide +kernel
theorem d_M_insert_10 : decode prog_9_method_11_code 10 = .ok (.aload_n 0, 1) := by decide +kernel
theorem d_M_insert_11 : decode prog_9_method_11_code 11 = .ok (.getfield 13, 3) := by decide +kernel
theorem d_M_insert_14 : decode prog_9_method_11_code 14 = .ok (.bipush 16, 2) := by decide +kernel
theorem d_M_insert_16 : decode prog_9_method_11_code 16 = .ok (.iaload, 1) := by decide +kernel
theorem d_M_insert_17 : decode prog_9_method_11_code 17 = .ok (.iconst 1, 1) := by decide +kernel
theorem d_M_insert_18 : decode prog_9_method_11_code 18 = .ok (.isub, 1) := by decide +kernel
theorem d_M_insert_19 : decode prog_9_method_11_code 19 = .ok (.istore 5, 2) := by decide +kernel
theorem d_M_insert_21 : decode prog_9_method_11_code 21 = .ok (.iload 5, 2) := by decide +kernel
theorem d_M_insert_23 : decode prog_9_method_11_code 23 = .ok (.iload 4, 2) := by decide +kernel
theorem d_M_insert_25 : decode prog_9_method_11_code 25 = .ok (.if_icmp .lt 41, 3) := by decide +kernel
theorem d_M_insert_66 : decode prog_9_method_11_code 66 = .ok (.iconst 0, 1) := by decide +kernel
theorem d_M_insert_67 : decode prog_9_method_11_code 67 = .ok (.istore 5, 2) := by decide +kernel
theorem d_M_insert_28 : decode prog_9_method_11_code 28 = .ok (.aload_n 0, 1) := by decide +kernel
theorem d_M_insert_29 : decode prog_9_method_11_code 29 = .ok (.getfield 16, 3) := by decide +kernel
theorem d_M_insert_32 : decode prog_9_method_11_code 32 = .ok (.iload 5, 2) := by decide +kernel
theorem d_M_insert_34 : decode prog_9_method_11_code 34 = .ok (.iload_n 3, 1) := by decide +kernel
theorem d_M_insert_35 : decode prog_9_method_11_code 35 = .ok (.iadd, 1) := by decide +kernel
theorem d_M_insert_36 : decode prog_9_method_11_code 36 = .ok (.aload_n 0, 1) := by decide +kernel
theorem d_M_insert_37 : decode prog_9_method_11_code 37 = .ok (.getfield 16, 3) := by decide +kernel
theorem d_M_insert_40 : decode prog_9_method_11_code 40 = .ok (.iload 5, 2) := by decide +kernel
theorem d_M_insert_42 : decode prog_9_method_11_code 42 = .ok (.iaload, 1) := by decide +kernel
theorem d_M_insert_43 : decode prog_9_method_11_code 43 = .ok (.iastore, 1) := by decide +kernel
theorem d_M_insert_44 : decode prog_9_method_11_code 44 = .ok (.aload_n 0, 1) := by decide +kernel
theorem d_M_insert_45 : decode prog_9_method_11_code 45 = .ok (.getfield 19, 3) := by decide +kernel
theorem d_M_insert_48 : decode prog_9_method_11_code 48 = .ok (.iload 5, 2) := by decide +kernel
theorem d_M_insert_50 : decode prog_9_method_11_code 50 = .ok (.iload_n 3, 1) := by decide +kernel
theorem d_M_insert_51 : decode prog_9_method_11_code 51 = .ok (.iadd, 1) := by decide +kernel
theorem d_M_insert_52 : decode prog_9_method_11_code 52 = .ok (.aload_n 0, 1) := by decide +kernel
theorem d_M_insert_53 : decode prog_9_method_11_code 53 = .ok (.getfield 19, 3) := by decide +kernel
theorem d_M_insert_56 : decode prog_9_method_11_code 56 = .ok (.iload 5, 2) := by decide +kernel
theorem d_M_insert_58 : decode prog_9_method_11_code 58 = .ok (.iaload, 1) := by decide +kernel
theorem d_M_insert_59 : decode prog_9_method_11_code 59 = .ok (.iastore, 1) := by decide +kernel
theorem d_M_insert_60 : decode prog_9_method_11_code 60 = .ok (.iinc 5 (-1), 3) := by decide +kernel
theorem d_M_insert_63 : decode prog_9_method_11_code 63 = .ok (.goto (-42), 3) := by decide +kernel
theorem d_M_insert_69 : decode prog_9_method_11_code 69 = .ok (.iload 5, 2) := by decide +kernel
theorem d_M_insert_71 : decode prog_9_method_11_code 71 = .ok (.iload_n 3, 1) := by decide +kernel
theorem d_M_insert_72 : decode prog_9_method_11_code 72 = .ok (.if_icmp .ge 43, 3) := by decide +kernel
theorem d_M_insert_115 : decode prog_9_method_11_code 115 = .ok (.iload_n 1, 1) := by decide +kernel
theorem d_M_insert_116 : decode prog_9_method_11_code 116 = .ok (.iconst 1, 1) := by decide +kernel
theorem d_M_insert_117 : decode prog_9_method_11_code 117 = .ok (.iadd, 1) := by decide +kernel
theorem d_M_insert_118 : decode prog_9_method_11_code 118 = .ok (.istore 5, 2) := by decide +kernel
theorem d_M_insert_75 : decode prog_9_method_11_code 75 = .ok (.aload_n 0, 1) := by decide +kernel
theorem d_M_insert_76 : decode prog_9_method_11_code 76 = .ok (.getfield 16, 3) := by decide +kernel
theorem d_M_insert_79 : decode prog_9_method_11_code 79 = .ok (.iload 4, 2) := by decide +kernel
theorem d_M_insert_81 : decode prog_9_method_11_code 81 = .ok (.iload 5, 2) := by decide +kernel
theorem d_M_insert_83 : decode prog_9_method_11_code 83 = .ok (.iadd, 1) := by decide +kernel
theorem d_M_insert_84 : decode prog_9_method_11_code 84 = .ok (.aload_n 0, 1) := by decide +kernel
theorem d_M_insert_85 : decode prog_9_method_11_code 85 = .ok (.getfield 22, 3) := by decide +kernel
theorem d_M_insert_88 : decode prog_9_method_11_code 88 = .ok (.iload 5, 2) := by decide +kernel
theorem d_M_insert_90 : decode prog_9_method_11_code 90 = .ok (.iaload, 1) := by decide +kernel
theorem d_M_insert_91 : decode prog_9_method_11_code 91 = .ok (.iastore, 1) := by decide +kernel
theorem d_M_insert_92 : decode prog_9_method_11_code 92 = .ok (.aload_n 0, 1) := by decide +kernel
theorem d_M_insert_93 : decode prog_9_method_11_code 93 = .ok (.getfield 19, 3) := by decide +kernel
theorem d_M_insert_96 : decode prog_9_method_11_code 96 = .ok (.iload 4, 2) := by decide +kernel
theorem d_M_insert_98 : decode prog_9_method_11_code 98 = .ok (.iload 5, 2) := by decide +kernel
theorem d_M_insert_100 : decode prog_9_method_11_code 100 = .ok (.iadd, 1) := by decide +kernel
theorem d_M_insert_101 : decode prog_9_method_11_code 101 = .ok (.aload_n 0, 1) := by decide +kernel
theorem d_M_insert_102 : decode prog_9_method_11_code 102 = .ok (.getfield 25, 3) := by decide +kernel
theorem d_M_insert_105 : decode prog_9_method_11_code 105 = .ok (.iload 5, 2) := by decide +kernel
theorem d_M_insert_107 : decode prog_9_method_11_code 107 = .ok (.iaload, 1) := by decide +kernel
theorem d_M_insert_108 : decode prog_9_method_11_code 108 = .ok (.iastore, 1) := by decide +kernel
theorem d_M_insert_109 : decode prog_9_method_11_code 109 = .ok (.iinc 5 1, 3) := by decide +kernel
theorem d_M_insert_112 : decode prog_9_method_11_code 112 = .ok (.goto (-43), 3) := by decide +kernel
theorem d_M_insert_120 : decode prog_9_method_11_code 120 = .ok (.iload 5, 2) := by decide +kernel
theorem d_M_insert_122 : decode prog_9_method_11_code 122 = .ok (.bipush 16, 2) := by decide +kernel
theorem d_M_insert_124 : decode prog_9_method_11_code 124 = .ok (.if_icmp .gt 20, 3) := by decide +kernel
theorem d_M_insert_144 : decode prog_9_method_11_code 144 = .ok (.return_, 1) := by decide +kernel
theorem d_M_insert_127 : decode prog_9_method_11_code 127 = .ok (.aload_n 0, 1) := by decide +kernel
theorem d_M_insert_128 : decode prog_9_method_11_code 128 = .ok (.getfield 13, 3) := by decide +kernel
theorem d_M_insert_131 : decode prog_9_method_11_code 131 = .ok (.iload 5, 2) := by decide +kernel
theorem d_M_insert_133 : decode prog_9_method_11_code 133 = .ok (.dup2, 1) := by decide +kernel
theorem d_M_insert_134 : decode prog_9_method_11_code 134 = .ok (.iaload, 1) := by decide +kernel
theorem d_M_insert_135 : decode prog_9_method_11_code 135 = .ok (.iload_n 3, 1) := by decide +kernel
theorem d_M_insert_136 : decode prog_9_method_11_code 136 = .ok (.iadd, 1) := by decide +kernel
theorem d_M_insert_137 : decode prog_9_method_11_code 137 = .ok (.iastore, 1) := by decide +kernel
theorem d_M_insert_138 : decode prog_9_method_11_code 138 = .ok (.iinc 5 1, 3) := by decide +kernel
theorem d_M_insert_141 : decode prog_9_method_11_code 141 = .ok (.goto (-21), 3) := by decide +kernel
theorem d_M_parts_0 : decode prog_9_method_12_code 0 = .ok (.iload_n 2, 1) := by decide +kernel
theorem d_M_parts_1 : decode prog_9_method_12_code 1 = .ok (.aload_n 0, 1) := by decide +kernel
theorem d_M_parts_2 : decode prog_9_method_12_code 2 = .ok (.getfield 13, 3) := by decide +kernel
theorem d_M_parts_5 : decode prog_9_method_12_code 5 = .ok (.iload_n 1, 1) := by decide +kernel
theorem d_M_parts_6 : decode prog_9_method_12_code 6 = .ok (.iaload, 1) := by decide +kernel
theorem d_M_parts_7 : decode prog_9_method_12_code 7 = .ok (.if_icmp .eq 39, 3) := by decide +kernel
theorem d_M_parts_10 : decode prog_9_method_12_code 10 = .ok (.aload_n 0, 1) := by decide +kernel
theorem d_M_parts_11 : decode prog_9_method_12_code 11 = .ok (.getfield 16, 3) := by decide +kernel
theorem d_M_parts_14 : decode prog_9_method_12_code 14 = .ok (.iload_n 2, 1) := by decide +kernel
theorem d_M_parts_15 : decode prog_9_method_12_code 15 = .ok (.iaload, 1) := by decide +kernel
theorem d_M_parts_16 : decode prog_9_method_12_code 16 = .ok (.aload_n 0, 1) := by decide +kernel
theorem d_M_parts_17 : decode prog_9_method_12_code 17 = .ok (.getfield 16, 3) := by decide +kernel
theorem d_M_parts_20 : decode prog_9_method_12_code 20 = .ok (.iload_n 2, 1) := by decide +kernel
theorem d_M_parts_21 : decode prog_9_method_12_code 21 = .ok (.iconst 1, 1) := by decide +kernel
theorem d_M_parts_22 : decode prog_9_method_12_code 22 = .ok (.isub, 1) := by decide +kernel
theorem d_M_parts_23 : decode prog_9_method_12_code 23 = .ok (.iaload, 1) := by decide +kernel
theorem d_M_parts_24 : decode prog_9_method_12_code 24 = .ok (.iconst 1, 1) := by decide +kernel
theorem d_M_parts_25 : decode prog_9_method_12_code 25 = .ok (.iadd, 1) := by decide +kernel
theorem d_M_parts_26 : decode prog_9_method_12_code 26 = .ok (.if_icmp .ne 20, 3) := by decide +kernel
theorem d_M_parts_29 : decode prog_9_method_12_code 29 = .ok (.aload_n 0, 1) := by decide +kernel
theorem d_M_parts_30 : decode prog_9_method_12_code 30 = .ok (.getfield 19, 3) := by decide +kernel
theorem d_M_parts_33 : decode prog_9_method_12_code 33 = .ok (.iload_n 2, 1) := by decide +kernel
theorem d_M_parts_34 : decode prog_9_method_12_code 34 = .ok (.iaload, 1) := by decide +kernel
theorem d_M_parts_35 : decode prog_9_method_12_code 35 = .ok (.aload_n 0, 1) := by decide +kernel
theorem d_M_parts_36 : decode prog_9_method_12_code 36 = .ok (.getfield 19, 3) := by decide +kernel
theorem d_M_parts_39 : decode prog_9_method_12_code 39 = .ok (.iload_n 2, 1) := by decide +kernel
theorem d_M_parts_40 : decode prog_9_method_12_code 40 = .ok (.iconst 1, 1) := by decide +kernel
theorem d_M_parts_41 : decode prog_9_method_12_code 41 = .ok (.isub, 1) := by decide +kernel
theorem d_M_parts_42 : decode prog_9_method_12_code 42 = .ok (.iaload, 1) := by decide +kernel
theorem d_M_parts_43 : decode prog_9_method_12_code 43 = .ok (.if_icmp .eq 7, 3) := by decide +kernel
theorem d_M_parts_50 : decode prog_9_method_12_code 50 = .ok (.iconst 0, 1) := by decide +kernel
theorem d_M_parts_46 : decode prog_9_method_12_code 46 = .ok (.iconst 1, 1) := by decide +kernel
theorem d_M_parts_47 : decode prog_9_method_12_code 47 = .ok (.goto 4, 3) := by decide +kernel
theorem d_M_parts_51 : decode prog_9_method_12_code 51 = .ok (.ireturn, 1) := by decide +kernel
theorem d_M_pieces_0 : decode prog_9_method_13_code 0 = .ok (.iconst 0, 1) := by decide +kernel
theorem d_M_pieces_1 : decode prog_9_method_13_code 1 = .ok (.istore_n 2, 1) := by decide +kernel
theorem d_M_pieces_2 : decode prog_9_method_13_code 2 = .ok (.aload_n 0, 1) := by decide +kernel
theorem d_M_pieces_3 : decode prog_9_method_13_code 3 = .ok (.getfield 13, 3) := by decide +kernel
theorem d_M_pieces_6 : decode prog_9_method_13_code 6 = .ok (.iload_n 1, 1) := by decide +kernel
theorem d_M_pieces_7 : decode prog_9_method_13_code 7 = .ok (.iaload, 1) := by decide +kernel
theorem d_M_pieces_8 : decode prog_9_method_13_code 8 = .ok (.istore_n 3, 1) := by decide +kernel
theorem d_M_pieces_9 : decode prog_9_method_13_code 9 = .ok (.iload_n 3, 1) := by decide +kernel
theorem d_M_pieces_10 : decode prog_9_method_13_code 10 = .ok (.aload_n 0, 1) := by decide +kernel
theorem d_M_pieces_11 : decode prog_9_method_13_code 11 = .ok (.getfield 13, 3) := by decide +kernel
theorem d_M_pieces_14 : decode prog_9_method_13_code 14 = .ok (.iload_n 1, 1) := by decide +kernel
theorem d_M_pieces_15 : decode prog_9_method_13_code 15 = .ok (.iconst 1, 1) := by decide +kernel
theorem d_M_pieces_16 : decode prog_9_method_13_code 16 = .ok (.iadd, 1) := by decide +kernel
theorem d_M_pieces_17 : decode prog_9_method_13_code 17 = .ok (.iaload, 1) := by decide +kernel
theorem d_M_pieces_18 : decode prog_9_method_13_code 18 = .ok (.if_icmp .ge 26, 3) := by decide +kernel
theorem d_M_pieces_44 : decode prog_9_method_13_code 44 = .ok (.iload_n 2, 1) := by decide +kernel
theorem d_M_pieces_45 : decode prog_9_method_13_code 45 = .ok (.ireturn, 1) := by decide +kernel
theorem d_M_pieces_21 : decode prog_9_method_13_code 21 = .ok (.iload_n 2, 1) := by decide +kernel
theorem d_M_pieces_22 : decode prog_9_method_13_code 22 = .ok (.aload_n 0, 1) := by decide +kernel
theorem d_M_pieces_23 : decode prog_9_method_13_code 23 = .ok (.iload_n 1, 1) := by decide +kernel
theorem d_M_pieces_24 : decode prog_9_method_13_code 24 = .ok (.iload_n 3, 1) := by decide +kernel
theorem d_M_pieces_25 : decode prog_9_method_13_code 25 = .ok (.invokevirtual 52, 3) := by decide +kernel
theorem d_M_pieces_28 : decode prog_9_method_13_code 28 = .ok (.ifCond .eq 7, 3) := by decide +kernel
theorem d_M_pieces_35 : decode prog_9_method_13_code 35 = .ok (.iconst 0, 1) := by decide +kernel
theorem d_M_pieces_31 : decode prog_9_method_13_code 31 = .ok (.iconst 1, 1) := by decide +kernel
theorem d_M_pieces_32 : decode prog_9_method_13_code 32 = .ok (.goto 4, 3) := by decide +kernel
theorem d_M_pieces_36 : decode prog_9_method_13_code 36 = .ok (.iadd, 1) := by decide +kernel
theorem d_M_pieces_37 : decode prog_9_method_13_code 37 = .ok (.istore_n 2, 1) := by decide +kernel
theorem d_M_pieces_38 : decode prog_9_method_13_code 38 = .ok (.iinc 3 1, 3) := by decide +kernel
theorem d_M_pieces_41 : decode prog_9_method_13_code 41 = .ok (.goto (-32), 3) := by decide +kernel
theorem d_M_allPieces_0 : decode prog_9_method_14_code 0 = .ok (.iconst 0, 1) := by decide +kernel
theorem d_M_allPieces_1 : decode prog_9_method_14_code 1 = .ok (.istore_n 1, 1) := by decide +kernel
theorem d_M_allPieces_2 : decode prog_9_method_14_code 2 = .ok (.iconst 0, 1) := by decide +kernel
theorem d_M_allPieces_3 : decode prog_9_method_14_code 3 = .ok (.istore_n 2, 1) := by decide +kernel
theorem d_M_allPieces_4 : decode prog_9_method_14_code 4 = .ok (.iload_n 2, 1) := by decide +kernel
theorem d_M_allPieces_5 : decode prog_9_method_14_code 5 = .ok (.bipush 16, 2) := by decide +kernel
theorem d_M_allPieces_7 : decode prog_9_method_14_code 7 = .ok (.if_icmp .ge 17, 3) := by decide +kernel
theorem d_M_allPieces_24 : decode prog_9_method_14_code 24 = .ok (.iload_n 1, 1) := by decide +kernel
theorem d_M_allPieces_25 : decode prog_9_method_14_code 25 = .ok (.ireturn, 1) := by decide +kernel
theorem d_M_allPieces_10 : decode prog_9_method_14_code 10 = .ok (.iload_n 1, 1) := by decide +kernel
theorem d_M_allPieces_11 : decode prog_9_method_14_code 11 = .ok (.aload_n 0, 1) := by decide +kernel
theorem d_M_allPieces_12 : decode prog_9_method_14_code 12 = .ok (.iload_n 2, 1) := by decide +kernel
theorem d_M_allPieces_13 : decode prog_9_method_14_code 13 = .ok (.invokevirtual 55, 3) := by decide +kernel
theorem d_M_allPieces_16 : decode prog_9_method_14_code 16 = .ok (.iadd, 1) := by decide +kernel
theorem d_M_allPieces_17 : decode prog_9_method_14_code 17 = .ok (.istore_n 1, 1) := by decide +kernel
theorem d_M_allPieces_18 : decode prog_9_method_14_code 18 = .ok (.iinc 2 1, 3) := by decide +kernel
theorem d_M_allPieces_21 : decode prog_9_method_14_code 21 = .ok (.goto (-17), 3) := by decide +kernel
theorem d_M_put_0 : decode prog_9_method_15_code 0 = .ok (.aload_n 0, 1) := by decide +kernel
theorem d_M_put_1 : decode prog_9_method_15_code 1 = .ok (.aload_n 0, 1) := by decide +kernel
theorem d_M_put_2 : decode prog_9_method_15_code 2 = .ok (.iload_n 1, 1) := by decide +kernel
theorem d_M_put_3 : decode prog_9_method_15_code 3 = .ok (.iload_n 2, 1) := by decide +kernel
theorem d_M_put_4 : decode prog_9_method_15_code 4 = .ok (.invokevirtual 40, 3) := by decide +kernel
theorem d_M_put_7 : decode prog_9_method_15_code 7 = .ok (.ifCond .eq 24, 3) := by decide +kernel
theorem d_M_put_10 : decode prog_9_method_15_code 10 = .ok (.iload_n 3, 1) := by decide +kernel
theorem d_M_put_11 : decode prog_9_method_15_code 11 = .ok (.ifCond .lt 20, 3) := by decide +kernel
theorem d_M_put_14 : decode prog_9_method_15_code 14 = .ok (.iload 4, 2) := by decide +kernel
theorem d_M_put_16 : decode prog_9_method_15_code 16 = .ok (.iconst 1, 1) := by decide +kernel
theorem d_M_put_17 : decode prog_9_method_15_code 17 = .ok (.if_icmp .lt 14, 3) := by decide +kernel
theorem d_M_put_20 : decode prog_9_method_15_code 20 = .ok (.iload_n 3, 1) := by decide +kernel
theorem d_M_put_21 : decode prog_9_method_15_code 21 = .ok (.aload_n 0, 1) := by decide +kernel
theorem d_M_put_22 : decode prog_9_method_15_code 22 = .ok (.getfield 46, 3) := by decide +kernel
theorem d_M_put_25 : decode prog_9_method_15_code 25 = .ok (.iload 4, 2) := by decide +kernel
theorem d_M_put_27 : decode prog_9_method_15_code 27 = .ok (.isub, 1) := by decide +kernel
theorem d_M_put_28 : decode prog_9_method_15_code 28 = .ok (.if_icmp .le 7, 3) := by decide +kernel
theorem d_M_put_35 : decode prog_9_method_15_code 35 = .ok (.iconst 0, 1) := by decide +kernel
theorem d_M_put_31 : decode prog_9_method_15_code 31 = .ok (.iconst 1, 1) := by decide +kernel
theorem d_M_put_32 : decode prog_9_method_15_code 32 = .ok (.goto 4, 3) := by decide +kernel
theorem d_M_put_36 : decode prog_9_method_15_code 36 = .ok (.putfield 28, 3) := by decide +kernel
theorem d_M_put_39 : decode prog_9_method_15_code 39 = .ok (.aload_n 0, 1) := by decide +kernel
theorem d_M_put_40 : decode prog_9_method_15_code 40 = .ok (.getfield 28, 3) := by decide +kernel
theorem d_M_put_43 : decode prog_9_method_15_code 43 = .ok (.ifCond .le 5, 3) := by decide +kernel
theorem d_M_put_48 : decode prog_9_method_15_code 48 = .ok (.iload 4, 2) := by decide +kernel
theorem d_M_put_50 : decode prog_9_method_15_code 50 = .ok (.sipush 4096, 3) := by decide +kernel
theorem d_M_put_53 : decode prog_9_method_15_code 53 = .ok (.aload_n 0, 1) := by decide +kernel
theorem d_M_put_54 : decode prog_9_method_15_code 54 = .ok (.getfield 13, 3) := by decide +kernel
theorem d_M_put_57 : decode prog_9_method_15_code 57 = .ok (.bipush 16, 2) := by decide +kernel
theorem d_M_put_59 : decode prog_9_method_15_code 59 = .ok (.iaload, 1) := by decide +kernel
theorem d_M_put_60 : decode prog_9_method_15_code 60 = .ok (.isub, 1) := by decide +kernel
theorem d_M_put_61 : decode prog_9_method_15_code 61 = .ok (.if_icmp .le 9, 3) := by decide +kernel
theorem d_M_put_70 : decode prog_9_method_15_code 70 = .ok (.iconst 0, 1) := by decide +kernel
theorem d_M_put_71 : decode prog_9_method_15_code 71 = .ok (.istore 6, 2) := by decide +kernel
theorem d_M_put_64 : decode prog_9_method_15_code 64 = .ok (.aload_n 0, 1) := by decide +kernel
theorem d_M_put_65 : decode prog_9_method_15_code 65 = .ok (.iconst 2, 1) := by decide +kernel
theorem d_M_put_66 : decode prog_9_method_15_code 66 = .ok (.invokevirtual 49, 3) := by decide +kernel
theorem d_M_put_69 : decode prog_9_method_15_code 69 = .ok (.ireturn, 1) := by decide +kernel
theorem d_M_put_46 : decode prog_9_method_15_code 46 = .ok (.iconst 0, 1) := by decide +kernel
theorem d_M_put_47 : decode prog_9_method_15_code 47 = .ok (.ireturn, 1) := by decide +kernel
theorem d_M_put_73 : decode prog_9_method_15_code 73 = .ok (.iload 6, 2) := by decide +kernel
theorem d_M_put_75 : decode prog_9_method_15_code 75 = .ok (.iload 4, 2) := by decide +kernel
theorem d_M_put_77 : decode prog_9_method_15_code 77 = .ok (.if_icmp .ge 29, 3) := by decide +kernel
theorem d_M_put_106 : decode prog_9_method_15_code 106 = .ok (.aload_n 0, 1) := by decide +kernel
theorem d_M_put_107 : decode prog_9_method_15_code 107 = .ok (.iload_n 1, 1) := by decide +kernel
theorem d_M_put_108 : decode prog_9_method_15_code 108 = .ok (.iload_n 2, 1) := by decide +kernel
theorem d_M_put_109 : decode prog_9_method_15_code 109 = .ok (.iload 4, 2) := by decide +kernel
theorem d_M_put_111 : decode prog_9_method_15_code 111 = .ok (.invokevirtual 58, 3) := by decide +kernel
theorem d_M_put_114 : decode prog_9_method_15_code 114 = .ok (.aload_n 0, 1) := by decide +kernel
theorem d_M_put_115 : decode prog_9_method_15_code 115 = .ok (.invokevirtual 62, 3) := by decide +kernel
theorem d_M_put_118 : decode prog_9_method_15_code 118 = .ok (.sipush 1024, 3) := by decide +kernel
theorem d_M_put_121 : decode prog_9_method_15_code 121 = .ok (.if_icmp .gt 9, 3) := by decide +kernel
theorem d_M_put_130 : decode prog_9_method_15_code 130 = .ok (.aload_n 0, 1) := by decide +kernel
theorem d_M_put_131 : decode prog_9_method_15_code 131 = .ok (.iload_n 1, 1) := by decide +kernel
theorem d_M_put_132 : decode prog_9_method_15_code 132 = .ok (.iload_n 2, 1) := by decide +kernel
theorem d_M_put_133 : decode prog_9_method_15_code 133 = .ok (.iload 4, 2) := by decide +kernel
theorem d_M_put_135 : decode prog_9_method_15_code 135 = .ok (.invokevirtual 66, 3) := by decide +kernel
theorem d_M_put_138 : decode prog_9_method_15_code 138 = .ok (.aload_n 0, 1) := by decide +kernel
theorem d_M_put_139 : decode prog_9_method_15_code 139 = .ok (.iconst 2, 1) := by decide +kernel
theorem d_M_put_140 : decode prog_9_method_15_code 140 = .ok (.invokevirtual 49, 3) := by decide +kernel
theorem d_M_put_143 : decode prog_9_method_15_code 143 = .ok (.ireturn, 1) := by decide +kernel
theorem d_M_put_124 : decode prog_9_method_15_code 124 = .ok (.aload_n 0, 1) := by decide +kernel
theorem d_M_put_125 : decode prog_9_method_15_code 125 = .ok (.iload_n 1, 1) := by decide +kernel
theorem d_M_put_126 : decode prog_9_method_15_code 126 = .ok (.invokevirtual 36, 3) := by decide +kernel
theorem d_M_put_129 : decode prog_9_method_15_code 129 = .ok (.ireturn, 1) := by decide +kernel
theorem d_M_put_80 : decode prog_9_method_15_code 80 = .ok (.aload_n 0, 1) := by decide +kernel
theorem d_M_put_81 : decode prog_9_method_15_code 81 = .ok (.getfield 22, 3) := by decide +kernel
theorem d_M_put_84 : decode prog_9_method_15_code 84 = .ok (.iload 6, 2) := by decide +kernel
theorem d_M_put_86 : decode prog_9_method_15_code 86 = .ok (.iload_n 3, 1) := by decide +kernel
theorem d_M_put_87 : decode prog_9_method_15_code 87 = .ok (.iload 6, 2) := by decide +kernel
theorem d_M_put_89 : decode prog_9_method_15_code 89 = .ok (.iadd, 1) := by decide +kernel
theorem d_M_put_90 : decode prog_9_method_15_code 90 = .ok (.iastore, 1) := by decide +kernel
theorem d_M_put_91 : decode prog_9_method_15_code 91 = .ok (.aload_n 0, 1) := by decide +kernel
theorem d_M_put_92 : decode prog_9_method_15_code 92 = .ok (.getfield 25, 3) := by decide +kernel
theorem d_M_put_95 : decode prog_9_method_15_code 95 = .ok (.iload 6, 2) := by decide +kernel
theorem d_M_put_97 : decode prog_9_method_15_code 97 = .ok (.iload 5, 2) := by decide +kernel
theorem d_M_put_99 : decode prog_9_method_15_code 99 = .ok (.iastore, 1) := by decide +kernel
theorem d_M_put_100 : decode prog_9_method_15_code 100 = .ok (.iinc 6 1, 3) := by decide +kernel
theorem d_M_put_103 : decode prog_9_method_15_code 103 = .ok (.goto (-30), 3) := by decide +kernel
theorem d_M_cut_0 : decode prog_9_method_16_code 0 = .ok (.aload_n 0, 1) := by decide +kernel
theorem d_M_cut_1 : decode prog_9_method_16_code 1 = .ok (.aload_n 0, 1) := by decide +kernel
theorem d_M_cut_2 : decode prog_9_method_16_code 2 = .ok (.iload_n 1, 1) := by decide +kernel
theorem d_M_cut_3 : decode prog_9_method_16_code 3 = .ok (.iload_n 2, 1) := by decide +kernel
theorem d_M_cut_4 : decode prog_9_method_16_code 4 = .ok (.iload_n 3, 1) := by decide +kernel
theorem d_M_cut_5 : decode prog_9_method_16_code 5 = .ok (.invokevirtual 69, 3) := by decide +kernel
theorem d_M_cut_8 : decode prog_9_method_16_code 8 = .ok (.ifCond .eq 11, 3) := by decide +kernel
theorem d_M_cut_11 : decode prog_9_method_16_code 11 = .ok (.iload 4, 2) := by decide +kernel
theorem d_M_cut_13 : decode prog_9_method_16_code 13 = .ok (.invokestatic 32, 3) := by decide +kernel
theorem d_M_cut_16 : decode prog_9_method_16_code 16 = .ok (.ifCond .ne 7, 3) := by decide +kernel
theorem d_M_cut_23 : decode prog_9_method_16_code 23 = .ok (.iload 4, 2) := by decide +kernel
theorem d_M_cut_25 : decode prog_9_method_16_code 25 = .ok (.iload_n 1, 1) := by decide +kernel
theorem d_M_cut_26 : decode prog_9_method_16_code 26 = .ok (.if_icmp .eq 12, 3) := by decide +kernel
theorem d_M_cut_29 : decode prog_9_method_16_code 29 = .ok (.aload_n 0, 1) := by decide +kernel
theorem d_M_cut_30 : decode prog_9_method_16_code 30 = .ok (.iload 4, 2) := by decide +kernel
theorem d_M_cut_32 : decode prog_9_method_16_code 32 = .ok (.invokevirtual 36, 3) := by decide +kernel
theorem d_M_cut_35 : decode prog_9_method_16_code 35 = .ok (.ifCond .le 7, 3) := by decide +kernel
theorem d_M_cut_42 : decode prog_9_method_16_code 42 = .ok (.iconst 0, 1) := by decide +kernel
theorem d_M_cut_19 : decode prog_9_method_16_code 19 = .ok (.iconst 1, 1) := by decide +kernel
theorem d_M_cut_20 : decode prog_9_method_16_code 20 = .ok (.goto 23, 3) := by decide +kernel
theorem d_M_cut_38 : decode prog_9_method_16_code 38 = .ok (.iconst 2, 1) := by decide +kernel
theorem d_M_cut_39 : decode prog_9_method_16_code 39 = .ok (.goto 4, 3) := by decide +kernel
theorem d_M_cut_43 : decode prog_9_method_16_code 43 = .ok (.putfield 28, 3) := by decide +kernel
theorem d_M_cut_46 : decode prog_9_method_16_code 46 = .ok (.aload_n 0, 1) := by decide +kernel
theorem d_M_cut_47 : decode prog_9_method_16_code 47 = .ok (.getfield 28, 3) := by decide +kernel
theorem d_M_cut_50 : decode prog_9_method_16_code 50 = .ok (.ifCond .le 5, 3) := by decide +kernel
theorem d_M_cut_55 : decode prog_9_method_16_code 55 = .ok (.aload_n 0, 1) := by decide +kernel
theorem d_M_cut_56 : decode prog_9_method_16_code 56 = .ok (.iload_n 1, 1) := by decide +kernel
theorem d_M_cut_57 : decode prog_9_method_16_code 57 = .ok (.iload_n 2, 1) := by decide +kernel
theorem d_M_cut_58 : decode prog_9_method_16_code 58 = .ok (.iload_n 3, 1) := by decide +kernel
theorem d_M_cut_59 : decode prog_9_method_16_code 59 = .ok (.invokevirtual 73, 3) := by decide +kernel
theorem d_M_cut_62 : decode prog_9_method_16_code 62 = .ok (.aload_n 0, 1) := by decide +kernel
theorem d_M_cut_63 : decode prog_9_method_16_code 63 = .ok (.iload_n 1, 1) := by decide +kernel
theorem d_M_cut_64 : decode prog_9_method_16_code 64 = .ok (.iload_n 2, 1) := by decide +kernel
theorem d_M_cut_65 : decode prog_9_method_16_code 65 = .ok (.iload_n 3, 1) := by decide +kernel
theorem d_M_cut_66 : decode prog_9_method_16_code 66 = .ok (.invokevirtual 66, 3) := by decide +kernel
theorem d_M_cut_69 : decode prog_9_method_16_code 69 = .ok (.aload_n 0, 1) := by decide +kernel
theorem d_M_cut_70 : decode prog_9_method_16_code 70 = .ok (.iload 4, 2) := by decide +kernel
theorem d_M_cut_72 : decode prog_9_method_16_code 72 = .ok (.iconst 0, 1) := by decide +kernel
theorem d_M_cut_73 : decode prog_9_method_16_code 73 = .ok (.iload_n 3, 1) := by decide +kernel
theorem d_M_cut_74 : decode prog_9_method_16_code 74 = .ok (.invokevirtual 58, 3) := by decide +kernel
theorem d_M_cut_77 : decode prog_9_method_16_code 77 = .ok (.aload_n 0, 1) := by decide +kernel
theorem d_M_cut_78 : decode prog_9_method_16_code 78 = .ok (.invokevirtual 62, 3) := by decide +kernel
theorem d_M_cut_81 : decode prog_9_method_16_code 81 = .ok (.sipush 1024, 3) := by decide +kernel
theorem d_M_cut_84 : decode prog_9_method_16_code 84 = .ok (.if_icmp .gt 9, 3) := by decide +kernel
theorem d_M_cut_93 : decode prog_9_method_16_code 93 = .ok (.aload_n 0, 1) := by decide +kernel
theorem d_M_cut_94 : decode prog_9_method_16_code 94 = .ok (.iload 4, 2) := by decide +kernel
theorem d_M_cut_96 : decode prog_9_method_16_code 96 = .ok (.iconst 0, 1) := by decide +kernel
theorem d_M_cut_97 : decode prog_9_method_16_code 97 = .ok (.iload_n 3, 1) := by decide +kernel
theorem d_M_cut_98 : decode prog_9_method_16_code 98 = .ok (.invokevirtual 73, 3) := by decide +kernel
theorem d_M_cut_101 : decode prog_9_method_16_code 101 = .ok (.aload_n 0, 1) := by decide +kernel
theorem d_M_cut_102 : decode prog_9_method_16_code 102 = .ok (.iload 4, 2) := by decide +kernel
theorem d_M_cut_104 : decode prog_9_method_16_code 104 = .ok (.iconst 0, 1) := by decide +kernel
theorem d_M_cut_105 : decode prog_9_method_16_code 105 = .ok (.iload_n 3, 1) := by decide +kernel
theorem d_M_cut_106 : decode prog_9_method_16_code 106 = .ok (.invokevirtual 66, 3) := by decide +kernel
theorem d_M_cut_109 : decode prog_9_method_16_code 109 = .ok (.aload_n 0, 1) := by decide +kernel
theorem d_M_cut_110 : decode prog_9_method_16_code 110 = .ok (.iload_n 1, 1) := by decide +kernel
theorem d_M_cut_111 : decode prog_9_method_16_code 111 = .ok (.iload_n 2, 1) := by decide +kernel
theorem d_M_cut_112 : decode prog_9_method_16_code 112 = .ok (.iload_n 3, 1) := by decide +kernel
theorem d_M_cut_113 : decode prog_9_method_16_code 113 = .ok (.invokevirtual 58, 3) := by decide +kernel
theorem d_M_cut_116 : decode prog_9_method_16_code 116 = .ok (.aload_n 0, 1) := by decide +kernel
theorem d_M_cut_117 : decode prog_9_method_16_code 117 = .ok (.iconst 3, 1) := by decide +kernel
theorem d_M_cut_118 : decode prog_9_method_16_code 118 = .ok (.invokevirtual 49, 3) := by decide +kernel
theorem d_M_cut_121 : decode prog_9_method_16_code 121 = .ok (.ireturn, 1) := by decide +kernel
theorem d_M_cut_87 : decode prog_9_method_16_code 87 = .ok (.aload_n 0, 1) := by decide +kernel
theorem d_M_cut_88 : decode prog_9_method_16_code 88 = .ok (.iload_n 1, 1) := by decide +kernel
theorem d_M_cut_89 : decode prog_9_method_16_code 89 = .ok (.invokevirtual 36, 3) := by decide +kernel
theorem d_M_cut_92 : decode prog_9_method_16_code 92 = .ok (.ireturn, 1) := by decide +kernel
theorem d_M_cut_53 : decode prog_9_method_16_code 53 = .ok (.iconst 0, 1) := by decide +kernel
theorem d_M_cut_54 : decode prog_9_method_16_code 54 = .ok (.ireturn, 1) := by decide +kernel
theorem d_M_paste_0 : decode prog_9_method_17_code 0 = .ok (.aload_n 0, 1) := by decide +kernel
theorem d_M_paste_1 : decode prog_9_method_17_code 1 = .ok (.aload_n 0, 1) := by decide +kernel
theorem d_M_paste_2 : decode prog_9_method_17_code 2 = .ok (.iload_n 1, 1) := by decide +kernel
theorem d_M_paste_3 : decode prog_9_method_17_code 3 = .ok (.iload_n 2, 1) := by decide +kernel
theorem d_M_paste_4 : decode prog_9_method_17_code 4 = .ok (.invokevirtual 40, 3) := by decide +kernel
theorem d_M_paste_7 : decode prog_9_method_17_code 7 = .ok (.ifCond .eq 10, 3) := by decide +kernel
theorem d_M_paste_10 : decode prog_9_method_17_code 10 = .ok (.iload_n 3, 1) := by decide +kernel
theorem d_M_paste_11 : decode prog_9_method_17_code 11 = .ok (.invokestatic 32, 3) := by decide +kernel
theorem d_M_paste_14 : decode prog_9_method_17_code 14 = .ok (.ifCond .ne 7, 3) := by decide +kernel
theorem d_M_paste_21 : decode prog_9_method_17_code 21 = .ok (.iload_n 3, 1) := by decide +kernel
theorem d_M_paste_22 : decode prog_9_method_17_code 22 = .ok (.iload_n 1, 1) := by decide +kernel
theorem d_M_paste_23 : decode prog_9_method_17_code 23 = .ok (.if_icmp .ne 7, 3) := by decide +kernel
theorem d_M_paste_30 : decode prog_9_method_17_code 30 = .ok (.iconst 0, 1) := by decide +kernel
theorem d_M_paste_26 : decode prog_9_method_17_code 26 = .ok (.iconst 2, 1) := by decide +kernel
theorem d_M_paste_27 : decode prog_9_method_17_code 27 = .ok (.goto 4, 3) := by decide +kernel
theorem d_M_paste_17 : decode prog_9_method_17_code 17 = .ok (.iconst 1, 1) := by decide +kernel
theorem d_M_paste_18 : decode prog_9_method_17_code 18 = .ok (.goto 13, 3) := by decide +kernel
theorem d_M_paste_31 : decode prog_9_method_17_code 31 = .ok (.putfield 28, 3) := by decide +kernel
theorem d_M_paste_34 : decode prog_9_method_17_code 34 = .ok (.aload_n 0, 1) := by decide +kernel
theorem d_M_paste_35 : decode prog_9_method_17_code 35 = .ok (.getfield 28, 3) := by decide +kernel
theorem d_M_paste_38 : decode prog_9_method_17_code 38 = .ok (.ifCond .le 5, 3) := by decide +kernel
theorem d_M_paste_43 : decode prog_9_method_17_code 43 = .ok (.aload_n 0, 1) := by decide +kernel
theorem d_M_paste_44 : decode prog_9_method_17_code 44 = .ok (.iload_n 3, 1) := by decide +kernel
theorem d_M_paste_45 : decode prog_9_method_17_code 45 = .ok (.invokevirtual 36, 3) := by decide +kernel
theorem d_M_paste_48 : decode prog_9_method_17_code 48 = .ok (.istore 4, 2) := by decide +kernel
theorem d_M_paste_50 : decode prog_9_method_17_code 50 = .ok (.aload_n 0, 1) := by decide +kernel
theorem d_M_paste_51 : decode prog_9_method_17_code 51 = .ok (.iload_n 3, 1) := by decide +kernel
theorem d_M_paste_52 : decode prog_9_method_17_code 52 = .ok (.iconst 0, 1) := by decide +kernel
theorem d_M_paste_53 : decode prog_9_method_17_code 53 = .ok (.iload 4, 2) := by decide +kernel
theorem d_M_paste_55 : decode prog_9_method_17_code 55 = .ok (.invokevirtual 73, 3) := by decide +kernel
theorem d_M_paste_58 : decode prog_9_method_17_code 58 = .ok (.aload_n 0, 1) := by decide +kernel
theorem d_M_paste_59 : decode prog_9_method_17_code 59 = .ok (.iload_n 3, 1) := by decide +kernel
theorem d_M_paste_60 : decode prog_9_method_17_code 60 = .ok (.iconst 0, 1) := by decide +kernel
theorem d_M_paste_61 : decode prog_9_method_17_code 61 = .ok (.iload 4, 2) := by decide +kernel
theorem d_M_paste_63 : decode prog_9_method_17_code 63 = .ok (.invokevirtual 66, 3) := by decide +kernel
theorem d_M_paste_66 : decode prog_9_method_17_code 66 = .ok (.aload_n 0, 1) := by decide +kernel
theorem d_M_paste_67 : decode prog_9_method_17_code 67 = .ok (.iload_n 1, 1) := by decide +kernel
theorem d_M_paste_68 : decode prog_9_method_17_code 68 = .ok (.iload_n 2, 1) := by decide +kernel
theorem d_M_paste_69 : decode prog_9_method_17_code 69 = .ok (.iload 4, 2) := by decide +kernel
theorem d_M_paste_71 : decode prog_9_method_17_code 71 = .ok (.invokevirtual 58, 3) := by decide +kernel
theorem d_M_paste_74 : decode prog_9_method_17_code 74 = .ok (.aload_n 0, 1) := by decide +kernel
theorem d_M_paste_75 : decode prog_9_method_17_code 75 = .ok (.invokevirtual 62, 3) := by decide +kernel
theorem d_M_paste_78 : decode prog_9_method_17_code 78 = .ok (.sipush 1024, 3) := by decide +kernel
theorem d_M_paste_81 : decode prog_9_method_17_code 81 = .ok (.if_icmp .gt 9, 3) := by decide +kernel
theorem d_M_paste_90 : decode prog_9_method_17_code 90 = .ok (.aload_n 0, 1) := by decide +kernel
theorem d_M_paste_91 : decode prog_9_method_17_code 91 = .ok (.iload_n 1, 1) := by decide +kernel
theorem d_M_paste_92 : decode prog_9_method_17_code 92 = .ok (.iload_n 2, 1) := by decide +kernel
theorem d_M_paste_93 : decode prog_9_method_17_code 93 = .ok (.iload 4, 2) := by decide +kernel
theorem d_M_paste_95 : decode prog_9_method_17_code 95 = .ok (.invokevirtual 73, 3) := by decide +kernel
theorem d_M_paste_98 : decode prog_9_method_17_code 98 = .ok (.aload_n 0, 1) := by decide +kernel
theorem d_M_paste_99 : decode prog_9_method_17_code 99 = .ok (.iload_n 1, 1) := by decide +kernel
theorem d_M_paste_100 : decode prog_9_method_17_code 100 = .ok (.iload_n 2, 1) := by decide +kernel
theorem d_M_paste_101 : decode prog_9_method_17_code 101 = .ok (.iload 4, 2) := by decide +kernel
theorem d_M_paste_103 : decode prog_9_method_17_code 103 = .ok (.invokevirtual 66, 3) := by decide +kernel
theorem d_M_paste_106 : decode prog_9_method_17_code 106 = .ok (.aload_n 0, 1) := by decide +kernel
theorem d_M_paste_107 : decode prog_9_method_17_code 107 = .ok (.iload_n 3, 1) := by decide +kernel
theorem d_M_paste_108 : decode prog_9_method_17_code 108 = .ok (.iconst 0, 1) := by decide +kernel
theorem d_M_paste_109 : decode prog_9_method_17_code 109 = .ok (.iload 4, 2) := by decide +kernel
theorem d_M_paste_111 : decode prog_9_method_17_code 111 = .ok (.invokevirtual 58, 3) := by decide +kernel
theorem d_M_paste_114 : decode prog_9_method_17_code 114 = .ok (.aload_n 0, 1) := by decide +kernel
theorem d_M_paste_115 : decode prog_9_method_17_code 115 = .ok (.iconst 3, 1) := by decide +kernel
theorem d_M_paste_116 : decode prog_9_method_17_code 116 = .ok (.invokevirtual 49, 3) := by decide +kernel
theorem d_M_paste_119 : decode prog_9_method_17_code 119 = .ok (.ireturn, 1) := by decide +kernel
theorem d_M_paste_84 : decode prog_9_method_17_code 84 = .ok (.aload_n 0, 1) := by decide +kernel
theorem d_M_paste_85 : decode prog_9_method_17_code 85 = .ok (.iload_n 1, 1) := by decide +kernel
theorem d_M_paste_86 : decode prog_9_method_17_code 86 = .ok (.invokevirtual 36, 3) := by decide +kernel
theorem d_M_paste_89 : decode prog_9_method_17_code 89 = .ok (.ireturn, 1) := by decide +kernel
theorem d_M_paste_41 : decode prog_9_method_17_code 41 = .ok (.iconst 0, 1) := by decide +kernel
theorem d_M_paste_42 : decode prog_9_method_17_code 42 = .ok (.ireturn, 1) := by decide +kernel
theorem d_M_copy_0 : decode prog_9_method_18_code 0 = .ok (.aload_n 0, 1) := by decide +kernel
theorem d_M_copy_1 : decode prog_9_method_18_code 1 = .ok (.aload_n 0, 1) := by decide +kernel
theorem d_M_copy_2 : decode prog_9_method_18_code 2 = .ok (.iload_n 1, 1) := by decide +kernel
theorem d_M_copy_3 : decode prog_9_method_18_code 3 = .ok (.iload_n 2, 1) := by decide +kernel
theorem d_M_copy_4 : decode prog_9_method_18_code 4 = .ok (.iload_n 3, 1) := by decide +kernel
theorem d_M_copy_5 : decode prog_9_method_18_code 5 = .ok (.invokevirtual 69, 3) := by decide +kernel
theorem d_M_copy_8 : decode prog_9_method_18_code 8 = .ok (.ifCond .eq 11, 3) := by decide +kernel
theorem d_M_copy_11 : decode prog_9_method_18_code 11 = .ok (.iload 4, 2) := by decide +kernel
theorem d_M_copy_13 : decode prog_9_method_18_code 13 = .ok (.invokestatic 32, 3) := by decide +kernel
theorem d_M_copy_16 : decode prog_9_method_18_code 16 = .ok (.ifCond .ne 7, 3) := by decide +kernel
theorem d_M_copy_23 : decode prog_9_method_18_code 23 = .ok (.iload 4, 2) := by decide +kernel
theorem d_M_copy_25 : decode prog_9_method_18_code 25 = .ok (.iload_n 1, 1) := by decide +kernel
theorem d_M_copy_26 : decode prog_9_method_18_code 26 = .ok (.if_icmp .eq 12, 3) := by decide +kernel
theorem d_M_copy_29 : decode prog_9_method_18_code 29 = .ok (.aload_n 0, 1) := by decide +kernel
theorem d_M_copy_30 : decode prog_9_method_18_code 30 = .ok (.iload 4, 2) := by decide +kernel
theorem d_M_copy_32 : decode prog_9_method_18_code 32 = .ok (.invokevirtual 36, 3) := by decide +kernel
theorem d_M_copy_35 : decode prog_9_method_18_code 35 = .ok (.ifCond .le 7, 3) := by decide +kernel
theorem d_M_copy_42 : decode prog_9_method_18_code 42 = .ok (.iconst 0, 1) := by decide +kernel
theorem d_M_copy_19 : decode prog_9_method_18_code 19 = .ok (.iconst 1, 1) := by decide +kernel
theorem d_M_copy_20 : decode prog_9_method_18_code 20 = .ok (.goto 23, 3) := by decide +kernel
theorem d_M_copy_38 : decode prog_9_method_18_code 38 = .ok (.iconst 2, 1) := by decide +kernel
theorem d_M_copy_39 : decode prog_9_method_18_code 39 = .ok (.goto 4, 3) := by decide +kernel
theorem d_M_copy_43 : decode prog_9_method_18_code 43 = .ok (.putfield 28, 3) := by decide +kernel
theorem d_M_copy_46 : decode prog_9_method_18_code 46 = .ok (.aload_n 0, 1) := by decide +kernel
theorem d_M_copy_47 : decode prog_9_method_18_code 47 = .ok (.getfield 28, 3) := by decide +kernel
theorem d_M_copy_50 : decode prog_9_method_18_code 50 = .ok (.ifCond .le 5, 3) := by decide +kernel
theorem d_M_copy_55 : decode prog_9_method_18_code 55 = .ok (.iload_n 3, 1) := by decide +kernel
theorem d_M_copy_56 : decode prog_9_method_18_code 56 = .ok (.sipush 4096, 3) := by decide +kernel
theorem d_M_copy_59 : decode prog_9_method_18_code 59 = .ok (.aload_n 0, 1) := by decide +kernel
theorem d_M_copy_60 : decode prog_9_method_18_code 60 = .ok (.getfield 13, 3) := by decide +kernel
theorem d_M_copy_63 : decode prog_9_method_18_code 63 = .ok (.bipush 16, 2) := by decide +kernel
theorem d_M_copy_65 : decode prog_9_method_18_code 65 = .ok (.iaload, 1) := by decide +kernel
theorem d_M_copy_66 : decode prog_9_method_18_code 66 = .ok (.isub, 1) := by decide +kernel
theorem d_M_copy_67 : decode prog_9_method_18_code 67 = .ok (.if_icmp .le 9, 3) := by decide +kernel
theorem d_M_copy_76 : decode prog_9_method_18_code 76 = .ok (.aload_n 0, 1) := by decide +kernel
theorem d_M_copy_77 : decode prog_9_method_18_code 77 = .ok (.iload_n 1, 1) := by decide +kernel
theorem d_M_copy_78 : decode prog_9_method_18_code 78 = .ok (.iload_n 2, 1) := by decide +kernel
theorem d_M_copy_79 : decode prog_9_method_18_code 79 = .ok (.iload_n 3, 1) := by decide +kernel
theorem d_M_copy_80 : decode prog_9_method_18_code 80 = .ok (.invokevirtual 73, 3) := by decide +kernel
theorem d_M_copy_83 : decode prog_9_method_18_code 83 = .ok (.aload_n 0, 1) := by decide +kernel
theorem d_M_copy_84 : decode prog_9_method_18_code 84 = .ok (.iload 4, 2) := by decide +kernel
theorem d_M_copy_86 : decode prog_9_method_18_code 86 = .ok (.iconst 0, 1) := by decide +kernel
theorem d_M_copy_87 : decode prog_9_method_18_code 87 = .ok (.iload_n 3, 1) := by decide +kernel
theorem d_M_copy_88 : decode prog_9_method_18_code 88 = .ok (.invokevirtual 58, 3) := by decide +kernel
theorem d_M_copy_91 : decode prog_9_method_18_code 91 = .ok (.aload_n 0, 1) := by decide +kernel
theorem d_M_copy_92 : decode prog_9_method_18_code 92 = .ok (.invokevirtual 62, 3) := by decide +kernel
theorem d_M_copy_95 : decode prog_9_method_18_code 95 = .ok (.sipush 1024, 3) := by decide +kernel
theorem d_M_copy_98 : decode prog_9_method_18_code 98 = .ok (.if_icmp .gt 10, 3) := by decide +kernel
theorem d_M_copy_108 : decode prog_9_method_18_code 108 = .ok (.aload_n 0, 1) := by decide +kernel
theorem d_M_copy_109 : decode prog_9_method_18_code 109 = .ok (.iload 4, 2) := by decide +kernel
theorem d_M_copy_111 : decode prog_9_method_18_code 111 = .ok (.iconst 0, 1) := by decide +kernel
theorem d_M_copy_112 : decode prog_9_method_18_code 112 = .ok (.iload_n 3, 1) := by decide +kernel
theorem d_M_copy_113 : decode prog_9_method_18_code 113 = .ok (.invokevirtual 66, 3) := by decide +kernel
theorem d_M_copy_116 : decode prog_9_method_18_code 116 = .ok (.aload_n 0, 1) := by decide +kernel
theorem d_M_copy_117 : decode prog_9_method_18_code 117 = .ok (.iconst 3, 1) := by decide +kernel
theorem d_M_copy_118 : decode prog_9_method_18_code 118 = .ok (.invokevirtual 49, 3) := by decide +kernel
theorem d_M_copy_121 : decode prog_9_method_18_code 121 = .ok (.ireturn, 1) := by decide +kernel
theorem d_M_copy_101 : decode prog_9_method_18_code 101 = .ok (.aload_n 0, 1) := by decide +kernel
theorem d_M_copy_102 : decode prog_9_method_18_code 102 = .ok (.iload 4, 2) := by decide +kernel
theorem d_M_copy_104 : decode prog_9_method_18_code 104 = .ok (.invokevirtual 55, 3) := by decide +kernel
theorem d_M_copy_107 : decode prog_9_method_18_code 107 = .ok (.ireturn, 1) := by decide +kernel
theorem d_M_copy_70 : decode prog_9_method_18_code 70 = .ok (.aload_n 0, 1) := by decide +kernel
theorem d_M_copy_71 : decode prog_9_method_18_code 71 = .ok (.iconst 3, 1) := by decide +kernel
theorem d_M_copy_72 : decode prog_9_method_18_code 72 = .ok (.invokevirtual 49, 3) := by decide +kernel
theorem d_M_copy_75 : decode prog_9_method_18_code 75 = .ok (.ireturn, 1) := by decide +kernel
theorem d_M_copy_53 : decode prog_9_method_18_code 53 = .ok (.iconst 0, 1) := by decide +kernel
theorem d_M_copy_54 : decode prog_9_method_18_code 54 = .ok (.ireturn, 1) := by decide +kernel
theorem d_M_tag_0 : decode prog_9_method_19_code 0 = .ok (.aload_n 0, 1) := by decide +kernel
theorem d_M_tag_1 : decode prog_9_method_19_code 1 = .ok (.aload_n 0, 1) := by decide +kernel
theorem d_M_tag_2 : decode prog_9_method_19_code 2 = .ok (.iload_n 1, 1) := by decide +kernel
theorem d_M_tag_3 : decode prog_9_method_19_code 3 = .ok (.iload_n 2, 1) := by decide +kernel
theorem d_M_tag_4 : decode prog_9_method_19_code 4 = .ok (.iload_n 3, 1) := by decide +kernel
theorem d_M_tag_5 : decode prog_9_method_19_code 5 = .ok (.invokevirtual 69, 3) := by decide +kernel
theorem d_M_tag_8 : decode prog_9_method_19_code 8 = .ok (.ifCond .eq 7, 3) := by decide +kernel
theorem d_M_tag_15 : decode prog_9_method_19_code 15 = .ok (.iconst 1, 1) := by decide +kernel
theorem d_M_tag_11 : decode prog_9_method_19_code 11 = .ok (.iconst 0, 1) := by decide +kernel
theorem d_M_tag_12 : decode prog_9_method_19_code 12 = .ok (.goto 4, 3) := by decide +kernel
theorem d_M_tag_16 : decode prog_9_method_19_code 16 = .ok (.putfield 28, 3) := by decide +kernel
theorem d_M_tag_19 : decode prog_9_method_19_code 19 = .ok (.aload_n 0, 1) := by decide +kernel
theorem d_M_tag_20 : decode prog_9_method_19_code 20 = .ok (.getfield 28, 3) := by decide +kernel
theorem d_M_tag_23 : decode prog_9_method_19_code 23 = .ok (.ifCond .le 5, 3) := by decide +kernel
theorem d_M_tag_28 : decode prog_9_method_19_code 28 = .ok (.aload_n 0, 1) := by decide +kernel
theorem d_M_tag_29 : decode prog_9_method_19_code 29 = .ok (.iload_n 1, 1) := by decide +kernel
theorem d_M_tag_30 : decode prog_9_method_19_code 30 = .ok (.iload_n 2, 1) := by decide +kernel
theorem d_M_tag_31 : decode prog_9_method_19_code 31 = .ok (.iload_n 3, 1) := by decide +kernel
theorem d_M_tag_32 : decode prog_9_method_19_code 32 = .ok (.invokevirtual 73, 3) := by decide +kernel
theorem d_M_tag_35 : decode prog_9_method_19_code 35 = .ok (.aload_n 0, 1) := by decide +kernel
theorem d_M_tag_36 : decode prog_9_method_19_code 36 = .ok (.getfield 13, 3) := by decide +kernel
