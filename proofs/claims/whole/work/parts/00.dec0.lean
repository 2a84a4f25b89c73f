theorem d_T_init_0 : decode prog_7_method_1_code 0 = .ok (.aload_n 0, 1) := by decide +kernel
theorem d_T_init_1 : decode prog_7_method_1_code 1 = .ok (.invokespecial 3, 3) := by decide +kernel
theorem d_T_init_4 : decode prog_7_method_1_code 4 = .ok (.return_, 1) := by decide +kernel
theorem d_P_init_0 : decode prog_1_method_1_code 0 = .ok (.aload_n 0, 1) := by decide +kernel
theorem d_P_init_1 : decode prog_1_method_1_code 1 = .ok (.invokespecial 1, 3) := by decide +kernel
theorem d_P_init_4 : decode prog_1_method_1_code 4 = .ok (.aload_n 0, 1) := by decide +kernel
theorem d_P_init_5 : decode prog_1_method_1_code 5 = .ok (.sipush 2048, 3) := by decide +kernel
theorem d_P_init_8 : decode prog_1_method_1_code 8 = .ok (.newarray .byte, 2) := by decide +kernel
theorem d_P_init_10 : decode prog_1_method_1_code 10 = .ok (.putfield 9, 3) := by decide +kernel
theorem d_P_init_13 : decode prog_1_method_1_code 13 = .ok (.aload_n 0, 1) := by decide +kernel
theorem d_P_init_14 : decode prog_1_method_1_code 14 = .ok (.bipush 16, 2) := by decide +kernel
theorem d_P_init_16 : decode prog_1_method_1_code 16 = .ok (.anewarray 13, 3) := by decide +kernel
theorem d_P_init_19 : decode prog_1_method_1_code 19 = .ok (.putfield 15, 3) := by decide +kernel
theorem d_P_init_22 : decode prog_1_method_1_code 22 = .ok (.aload_n 0, 1) := by decide +kernel
theorem d_P_init_23 : decode prog_1_method_1_code 23 = .ok (.new 19, 3) := by decide +kernel
theorem d_P_init_26 : decode prog_1_method_1_code 26 = .ok (.dup, 1) := by decide +kernel
theorem d_P_init_27 : decode prog_1_method_1_code 27 = .ok (.invokespecial 21, 3) := by decide +kernel
theorem d_P_init_30 : decode prog_1_method_1_code 30 = .ok (.putfield 22, 3) := by decide +kernel
theorem d_P_init_33 : decode prog_1_method_1_code 33 = .ok (.return_, 1) := by decide +kernel
theorem d_P_append_0 : decode prog_1_method_16_code 0 = .ok (.aload_n 0, 1) := by decide +kernel
theorem d_P_append_1 : decode prog_1_method_16_code 1 = .ok (.getfield 37, 3) := by decide +kernel
theorem d_P_append_4 : decode prog_1_method_16_code 4 = .ok (.ifCond .lt 35, 3) := by decide +kernel
theorem d_P_append_7 : decode prog_1_method_16_code 7 = .ok (.aload_n 0, 1) := by decide +kernel
theorem d_P_append_8 : decode prog_1_method_16_code 8 = .ok (.getfield 37, 3) := by decide +kernel
theorem d_P_append_11 : decode prog_1_method_16_code 11 = .ok (.aload_n 0, 1) := by decide +kernel
theorem d_P_append_12 : decode prog_1_method_16_code 12 = .ok (.getfield 9, 3) := by decide +kernel
theorem d_P_append_15 : decode prog_1_method_16_code 15 = .ok (.arraylength, 1) := by decide +kernel
theorem d_P_append_16 : decode prog_1_method_16_code 16 = .ok (.if_icmp .ge 23, 3) := by decide +kernel
theorem d_P_append_19 : decode prog_1_method_16_code 19 = .ok (.aload_n 0, 1) := by decide +kernel
theorem d_P_append_20 : decode prog_1_method_16_code 20 = .ok (.getfield 9, 3) := by decide +kernel
theorem d_P_append_23 : decode prog_1_method_16_code 23 = .ok (.aload_n 0, 1) := by decide +kernel
theorem d_P_append_24 : decode prog_1_method_16_code 24 = .ok (.getfield 37, 3) := by decide +kernel
theorem d_P_append_27 : decode prog_1_method_16_code 27 = .ok (.iload_n 1, 1) := by decide +kernel
theorem d_P_append_28 : decode prog_1_method_16_code 28 = .ok (.bastore, 1) := by decide +kernel
theorem d_P_append_29 : decode prog_1_method_16_code 29 = .ok (.aload_n 0, 1) := by decide +kernel
theorem d_P_append_30 : decode prog_1_method_16_code 30 = .ok (.dup, 1) := by decide +kernel
theorem d_P_append_31 : decode prog_1_method_16_code 31 = .ok (.getfield 37, 3) := by decide +kernel
theorem d_P_append_34 : decode prog_1_method_16_code 34 = .ok (.iconst 1, 1) := by decide +kernel
theorem d_P_append_35 : decode prog_1_method_16_code 35 = .ok (.iadd, 1) := by decide +kernel
theorem d_P_append_36 : decode prog_1_method_16_code 36 = .ok (.putfield 37, 3) := by decide +kernel
theorem d_P_append_39 : decode prog_1_method_16_code 39 = .ok (.return_, 1) := by decide +kernel
theorem d_P_bytesOf_0 : decode prog_1_method_15_code 0 = .ok (.iconst 0, 1) := by decide +kernel
theorem d_P_bytesOf_1 : decode prog_1_method_15_code 1 = .ok (.istore_n 2, 1) := by decide +kernel
theorem d_P_bytesOf_2 : decode prog_1_method_15_code 2 = .ok (.iload_n 2, 1) := by decide +kernel
theorem d_P_bytesOf_3 : decode prog_1_method_15_code 3 = .ok (.bipush 8, 2) := by decide +kernel
theorem d_P_bytesOf_5 : decode prog_1_method_15_code 5 = .ok (.if_icmp .ge 26, 3) := by decide +kernel
theorem d_P_bytesOf_31 : decode prog_1_method_15_code 31 = .ok (.bipush 8, 2) := by decide +kernel
theorem d_P_bytesOf_33 : decode prog_1_method_15_code 33 = .ok (.ireturn, 1) := by decide +kernel
theorem d_P_bytesOf_8 : decode prog_1_method_15_code 8 = .ok (.lload_n 0, 1) := by decide +kernel
theorem d_P_bytesOf_9 : decode prog_1_method_15_code 9 = .ok (.bipush 8, 2) := by decide +kernel
theorem d_P_bytesOf_11 : decode prog_1_method_15_code 11 = .ok (.iload_n 2, 1) := by decide +kernel
theorem d_P_bytesOf_12 : decode prog_1_method_15_code 12 = .ok (.imul, 1) := by decide +kernel
theorem d_P_bytesOf_13 : decode prog_1_method_15_code 13 = .ok (.lushr, 1) := by decide +kernel
theorem d_P_bytesOf_14 : decode prog_1_method_15_code 14 = .ok (.ldc2_w 210, 3) := by decide +kernel
theorem d_P_bytesOf_17 : decode prog_1_method_15_code 17 = .ok (.land, 1) := by decide +kernel
theorem d_P_bytesOf_18 : decode prog_1_method_15_code 18 = .ok (.lconst 0, 1) := by decide +kernel
theorem d_P_bytesOf_19 : decode prog_1_method_15_code 19 = .ok (.lcmp, 1) := by decide +kernel
theorem d_P_bytesOf_20 : decode prog_1_method_15_code 20 = .ok (.ifCond .ne 5, 3) := by decide +kernel
theorem d_P_bytesOf_25 : decode prog_1_method_15_code 25 = .ok (.iinc 2 1, 3) := by decide +kernel
theorem d_P_bytesOf_28 : decode prog_1_method_15_code 28 = .ok (.goto (-26), 3) := by decide +kernel
theorem d_P_bytesOf_23 : decode prog_1_method_15_code 23 = .ok (.iload_n 2, 1) := by decide +kernel
theorem d_P_bytesOf_24 : decode prog_1_method_15_code 24 = .ok (.ireturn, 1) := by decide +kernel
theorem d_P_write_0 : decode prog_1_method_2_code 0 = .ok (.lload_n 1, 1) := by decide +kernel
theorem d_P_write_1 : decode prog_1_method_2_code 1 = .ok (.invokestatic 26, 3) := by decide +kernel
theorem d_P_write_4 : decode prog_1_method_2_code 4 = .ok (.istore_n 3, 1) := by decide +kernel
theorem d_P_write_5 : decode prog_1_method_2_code 5 = .ok (.iload_n 3, 1) := by decide +kernel
theorem d_P_write_6 : decode prog_1_method_2_code 6 = .ok (.ifCond .ne 13, 3) := by decide +kernel
theorem d_P_write_19 : decode prog_1_method_2_code 19 = .ok (.iload_n 3, 1) := by decide +kernel
theorem d_P_write_20 : decode prog_1_method_2_code 20 = .ok (.sipush 2048, 3) := by decide +kernel
theorem d_P_write_23 : decode prog_1_method_2_code 23 = .ok (.aload_n 0, 1) := by decide +kernel
theorem d_P_write_24 : decode prog_1_method_2_code 24 = .ok (.getfield 37, 3) := by decide +kernel
theorem d_P_write_27 : decode prog_1_method_2_code 27 = .ok (.isub, 1) := by decide +kernel
theorem d_P_write_28 : decode prog_1_method_2_code 28 = .ok (.if_icmp .le 13, 3) := by decide +kernel
theorem d_P_write_41 : decode prog_1_method_2_code 41 = .ok (.aload_n 0, 1) := by decide +kernel
theorem d_P_write_42 : decode prog_1_method_2_code 42 = .ok (.getfield 37, 3) := by decide +kernel
theorem d_P_write_45 : decode prog_1_method_2_code 45 = .ok (.istore 4, 2) := by decide +kernel
theorem d_P_write_47 : decode prog_1_method_2_code 47 = .ok (.iconst 0, 1) := by decide +kernel
theorem d_P_write_48 : decode prog_1_method_2_code 48 = .ok (.istore 5, 2) := by decide +kernel
theorem d_P_write_31 : decode prog_1_method_2_code 31 = .ok (.new 41, 3) := by decide +kernel
theorem d_P_write_34 : decode prog_1_method_2_code 34 = .ok (.dup, 1) := by decide +kernel
theorem d_P_write_35 : decode prog_1_method_2_code 35 = .ok (.ldc 43, 2) := by decide +kernel
theorem d_P_write_37 : decode prog_1_method_2_code 37 = .ok (.invokespecial 45, 3) := by decide +kernel
theorem d_P_write_40 : decode prog_1_method_2_code 40 = .ok (.athrow, 1) := by decide +kernel
theorem d_P_write_9 : decode prog_1_method_2_code 9 = .ok (.new 30, 3) := by decide +kernel
theorem d_P_write_12 : decode prog_1_method_2_code 12 = .ok (.dup, 1) := by decide +kernel
theorem d_P_write_13 : decode prog_1_method_2_code 13 = .ok (.ldc 32, 2) := by decide +kernel
theorem d_P_write_15 : decode prog_1_method_2_code 15 = .ok (.invokespecial 34, 3) := by decide +kernel
theorem d_P_write_18 : decode prog_1_method_2_code 18 = .ok (.athrow, 1) := by decide +kernel
theorem d_P_write_50 : decode prog_1_method_2_code 50 = .ok (.iload 5, 2) := by decide +kernel
theorem d_P_write_52 : decode prog_1_method_2_code 52 = .ok (.iload_n 3, 1) := by decide +kernel
theorem d_P_write_53 : decode prog_1_method_2_code 53 = .ok (.if_icmp .ge 22, 3) := by decide +kernel
theorem d_P_write_75 : decode prog_1_method_2_code 75 = .ok (.iload 4, 2) := by decide +kernel
theorem d_P_write_77 : decode prog_1_method_2_code 77 = .ok (.ireturn, 1) := by decide +kernel
theorem d_P_write_56 : decode prog_1_method_2_code 56 = .ok (.aload_n 0, 1) := by decide +kernel
theorem d_P_write_57 : decode prog_1_method_2_code 57 = .ok (.lload_n 1, 1) := by decide +kernel
theorem d_P_write_58 : decode prog_1_method_2_code 58 = .ok (.bipush 8, 2) := by decide +kernel
theorem d_P_write_60 : decode prog_1_method_2_code 60 = .ok (.iload 5, 2) := by decide +kernel
theorem d_P_write_62 : decode prog_1_method_2_code 62 = .ok (.imul, 1) := by decide +kernel
theorem d_P_write_63 : decode prog_1_method_2_code 63 = .ok (.lushr, 1) := by decide +kernel
theorem d_P_write_64 : decode prog_1_method_2_code 64 = .ok (.l2i, 1) := by decide +kernel
theorem d_P_write_65 : decode prog_1_method_2_code 65 = .ok (.i2b, 1) := by decide +kernel
theorem d_P_write_66 : decode prog_1_method_2_code 66 = .ok (.invokevirtual 46, 3) := by decide +kernel
theorem d_P_write_69 : decode prog_1_method_2_code 69 = .ok (.iinc 5 1, 3) := by decide +kernel
theorem d_P_write_72 : decode prog_1_method_2_code 72 = .ok (.goto (-22), 3) := by decide +kernel
theorem d_R_charactersOf_0 : decode prog_5_method_4_code 0 = .ok (.aload_n 0, 1) := by decide +kernel
theorem d_R_charactersOf_1 : decode prog_5_method_4_code 1 = .ok (.ifnonnull 7, 3) := by decide +kernel
theorem d_R_charactersOf_4 : decode prog_5_method_4_code 4 = .ok (.iconst 0, 1) := by decide +kernel
theorem d_R_charactersOf_5 : decode prog_5_method_4_code 5 = .ok (.goto 7, 3) := by decide +kernel
theorem d_R_charactersOf_8 : decode prog_5_method_4_code 8 = .ok (.aload_n 0, 1) := by decide +kernel
theorem d_R_charactersOf_9 : decode prog_5_method_4_code 9 = .ok (.getfield 18, 3) := by decide +kernel
theorem d_R_charactersOf_12 : decode prog_5_method_4_code 12 = .ok (.ireturn, 1) := by decide +kernel
theorem d_P_become_0 : decode prog_1_method_20_code 0 = .ok (.iload_n 1, 1) := by decide +kernel
theorem d_P_become_1 : decode prog_1_method_20_code 1 = .ok (.ifCond .lt 19, 3) := by decide +kernel
theorem d_P_become_4 : decode prog_1_method_20_code 4 = .ok (.iload_n 1, 1) := by decide +kernel
theorem d_P_become_5 : decode prog_1_method_20_code 5 = .ok (.aload_n 0, 1) := by decide +kernel
theorem d_P_become_6 : decode prog_1_method_20_code 6 = .ok (.getfield 15, 3) := by decide +kernel
theorem d_P_become_9 : decode prog_1_method_20_code 9 = .ok (.arraylength, 1) := by decide +kernel
theorem d_P_become_10 : decode prog_1_method_20_code 10 = .ok (.if_icmp .ge 10, 3) := by decide +kernel
theorem d_P_become_13 : decode prog_1_method_20_code 13 = .ok (.aload_n 0, 1) := by decide +kernel
theorem d_P_become_14 : decode prog_1_method_20_code 14 = .ok (.getfield 15, 3) := by decide +kernel
theorem d_P_become_17 : decode prog_1_method_20_code 17 = .ok (.iload_n 1, 1) := by decide +kernel
theorem d_P_become_18 : decode prog_1_method_20_code 18 = .ok (.aload_n 2, 1) := by decide +kernel
theorem d_P_become_19 : decode prog_1_method_20_code 19 = .ok (.aastore, 1) := by decide +kernel
theorem d_P_become_20 : decode prog_1_method_20_code 20 = .ok (.aload_n 2, 1) := by decide +kernel
theorem d_P_become_21 : decode prog_1_method_20_code 21 = .ok (.invokestatic 137, 3) := by decide +kernel
theorem d_P_become_24 : decode prog_1_method_20_code 24 = .ok (.ireturn, 1) := by decide +kernel
theorem d_P_isText_0 : decode prog_1_method_18_code 0 = .ok (.iload_n 1, 1) := by decide +kernel
theorem d_P_isText_1 : decode prog_1_method_18_code 1 = .ok (.ifCond .lt 16, 3) := by decide +kernel
theorem d_P_isText_4 : decode prog_1_method_18_code 4 = .ok (.iload_n 1, 1) := by decide +kernel
theorem d_P_isText_5 : decode prog_1_method_18_code 5 = .ok (.aload_n 0, 1) := by decide +kernel
theorem d_P_isText_6 : decode prog_1_method_18_code 6 = .ok (.getfield 15, 3) := by decide +kernel
theorem d_P_isText_9 : decode prog_1_method_18_code 9 = .ok (.arraylength, 1) := by decide +kernel
theorem d_P_isText_10 : decode prog_1_method_18_code 10 = .ok (.if_icmp .ge 7, 3) := by decide +kernel
theorem d_P_isText_13 : decode prog_1_method_18_code 13 = .ok (.iconst 1, 1) := by decide +kernel
theorem d_P_isText_14 : decode prog_1_method_18_code 14 = .ok (.goto 4, 3) := by decide +kernel
theorem d_P_isText_17 : decode prog_1_method_18_code 17 = .ok (.iconst 0, 1) := by decide +kernel
theorem d_P_isText_18 : decode prog_1_method_18_code 18 = .ok (.ireturn, 1) := by decide +kernel
theorem d_P_demandText_0 : decode prog_1_method_24_code 0 = .ok (.aload_n 0, 1) := by decide +kernel
theorem d_P_demandText_1 : decode prog_1_method_24_code 1 = .ok (.iload_n 1, 1) := by decide +kernel
theorem d_P_demandText_2 : decode prog_1_method_24_code 2 = .ok (.invokevirtual 144, 3) := by decide +kernel
theorem d_P_demandText_5 : decode prog_1_method_24_code 5 = .ok (.ifCond .ne 13, 3) := by decide +kernel
theorem d_P_demandText_18 : decode prog_1_method_24_code 18 = .ok (.return_, 1) := by decide +kernel
theorem d_P_demandText_8 : decode prog_1_method_24_code 8 = .ok (.new 54, 3) := by decide +kernel
theorem d_P_demandText_11 : decode prog_1_method_24_code 11 = .ok (.dup, 1) := by decide +kernel
theorem d_P_demandText_12 : decode prog_1_method_24_code 12 = .ok (.ldc 216, 2) := by decide +kernel
theorem d_P_demandText_14 : decode prog_1_method_24_code 14 = .ok (.invokespecial 58, 3) := by decide +kernel
theorem d_P_demandText_17 : decode prog_1_method_24_code 17 = .ok (.athrow, 1) := by decide +kernel
theorem d_P_rootOf_0 : decode prog_1_method_19_code 0 = .ok (.iload_n 1, 1) := by decide +kernel
theorem d_P_rootOf_1 : decode prog_1_method_19_code 1 = .ok (.ifCond .lt 21, 3) := by decide +kernel
theorem d_P_rootOf_4 : decode prog_1_method_19_code 4 = .ok (.iload_n 1, 1) := by decide +kernel
theorem d_P_rootOf_5 : decode prog_1_method_19_code 5 = .ok (.aload_n 0, 1) := by decide +kernel
theorem d_P_rootOf_6 : decode prog_1_method_19_code 6 = .ok (.getfield 15, 3) := by decide +kernel
theorem d_P_rootOf_9 : decode prog_1_method_19_code 9 = .ok (.arraylength, 1) := by decide +kernel
theorem d_P_rootOf_10 : decode prog_1_method_19_code 10 = .ok (.if_icmp .ge 12, 3) := by decide +kernel
theorem d_P_rootOf_13 : decode prog_1_method_19_code 13 = .ok (.aload_n 0, 1) := by decide +kernel
theorem d_P_rootOf_14 : decode prog_1_method_19_code 14 = .ok (.getfield 15, 3) := by decide +kernel
theorem d_P_rootOf_17 : decode prog_1_method_19_code 17 = .ok (.iload_n 1, 1) := by decide +kernel
theorem d_P_rootOf_18 : decode prog_1_method_19_code 18 = .ok (.aaload, 1) := by decide +kernel
theorem d_P_rootOf_19 : decode prog_1_method_19_code 19 = .ok (.goto 4, 3) := by decide +kernel
theorem d_P_rootOf_22 : decode prog_1_method_19_code 22 = .ok (.aconst_null, 1) := by decide +kernel
theorem d_P_rootOf_23 : decode prog_1_method_19_code 23 = .ok (.areturn, 1) := by decide +kernel
theorem d_P_demandEdge_0 : decode prog_1_method_25_code 0 = .ok (.aload_n 0, 1) := by decide +kernel
theorem d_P_demandEdge_1 : decode prog_1_method_25_code 1 = .ok (.iload_n 1, 1) := by decide +kernel
theorem d_P_demandEdge_2 : decode prog_1_method_25_code 2 = .ok (.invokevirtual 107, 3) := by decide +kernel
theorem d_P_demandEdge_5 : decode prog_1_method_25_code 5 = .ok (.iload_n 2, 1) := by decide +kernel
theorem d_P_demandEdge_6 : decode prog_1_method_25_code 6 = .ok (.ifCond .lt 15, 3) := by decide +kernel
theorem d_P_demandEdge_9 : decode prog_1_method_25_code 9 = .ok (.iload_n 2, 1) := by decide +kernel
theorem d_P_demandEdge_10 : decode prog_1_method_25_code 10 = .ok (.aload_n 0, 1) := by decide +kernel
theorem d_P_demandEdge_11 : decode prog_1_method_25_code 11 = .ok (.iload_n 1, 1) := by decide +kernel
theorem d_P_demandEdge_12 : decode prog_1_method_25_code 12 = .ok (.invokevirtual 59, 3) := by decide +kernel
theorem d_P_demandEdge_15 : decode prog_1_method_25_code 15 = .ok (.invokestatic 137, 3) := by decide +kernel
theorem d_P_demandEdge_18 : decode prog_1_method_25_code 18 = .ok (.if_icmp .le 13, 3) := by decide +kernel
theorem d_P_demandEdge_31 : decode prog_1_method_25_code 31 = .ok (.return_, 1) := by decide +kernel
theorem d_P_demandEdge_21 : decode prog_1_method_25_code 21 = .ok (.new 54, 3) := by decide +kernel
theorem d_P_demandEdge_24 : decode prog_1_method_25_code 24 = .ok (.dup, 1) := by decide +kernel
theorem d_P_demandEdge_25 : decode prog_1_method_25_code 25 = .ok (.ldc 148, 2) := by decide +kernel
theorem d_P_demandEdge_27 : decode prog_1_method_25_code 27 = .ok (.invokespecial 58, 3) := by decide +kernel
theorem d_P_demandEdge_30 : decode prog_1_method_25_code 30 = .ok (.athrow, 1) := by decide +kernel
theorem d_P_charactersInAll_0 : decode prog_1_method_21_code 0 = .ok (.iconst 0, 1) := by decide +kernel
theorem d_P_charactersInAll_1 : decode prog_1_method_21_code 1 = .ok (.istore_n 1, 1) := by decide +kernel
theorem d_P_charactersInAll_2 : decode prog_1_method_21_code 2 = .ok (.aload_n 0, 1) := by decide +kernel
theorem d_P_charactersInAll_3 : decode prog_1_method_21_code 3 = .ok (.getfield 15, 3) := by decide +kernel
theorem d_P_charactersInAll_6 : decode prog_1_method_21_code 6 = .ok (.astore_n 2, 1) := by decide +kernel
theorem d_P_charactersInAll_7 : decode prog_1_method_21_code 7 = .ok (.aload_n 2, 1) := by decide +kernel
theorem d_P_charactersInAll_8 : decode prog_1_method_21_code 8 = .ok (.arraylength, 1) := by decide +kernel
theorem d_P_charactersInAll_9 : decode prog_1_method_21_code 9 = .ok (.istore_n 3, 1) := by decide +kernel
theorem d_P_charactersInAll_10 : decode prog_1_method_21_code 10 = .ok (.iconst 0, 1) := by decide +kernel
theorem d_P_charactersInAll_11 : decode prog_1_method_21_code 11 = .ok (.istore 4, 2) := by decide +kernel
theorem d_P_charactersInAll_13 : decode prog_1_method_21_code 13 = .ok (.iload 4, 2) := by decide +kernel
theorem d_P_charactersInAll_15 : decode prog_1_method_21_code 15 = .ok (.iload_n 3, 1) := by decide +kernel
theorem d_P_charactersInAll_16 : decode prog_1_method_21_code 16 = .ok (.if_icmp .ge 23, 3) := by decide +kernel
theorem d_P_charactersInAll_39 : decode prog_1_method_21_code 39 = .ok (.iload_n 1, 1) := by decide +kernel
theorem d_P_charactersInAll_40 : decode prog_1_method_21_code 40 = .ok (.ireturn, 1) := by decide +kernel
theorem d_P_charactersInAll_19 : decode prog_1_method_21_code 19 = .ok (.aload_n 2, 1) := by decide +kernel
theorem d_P_charactersInAll_20 : decode prog_1_method_21_code 20 = .ok (.iload 4, 2) := by decide +kernel
theorem d_P_charactersInAll_22 : decode prog_1_method_21_code 22 = .ok (.aaload, 1) := by decide +kernel
theorem d_P_charactersInAll_23 : decode prog_1_method_21_code 23 = .ok (.astore 5, 2) := by decide +kernel
theorem d_P_charactersInAll_25 : decode prog_1_method_21_code 25 = .ok (.iload_n 1, 1) := by decide +kernel
theorem d_P_charactersInAll_26 : decode prog_1_method_21_code 26 = .ok (.aload 5, 2) := by decide +kernel
theorem d_P_charactersInAll_28 : decode prog_1_method_21_code 28 = .ok (.invokestatic 137, 3) := by decide +kernel
theorem d_P_charactersInAll_31 : decode prog_1_method_21_code 31 = .ok (.iadd, 1) := by decide +kernel
theorem d_P_charactersInAll_32 : decode prog_1_method_21_code 32 = .ok (.istore_n 1, 1) := by decide +kernel
theorem d_P_charactersInAll_33 : decode prog_1_method_21_code 33 = .ok (.iinc 4 1, 3) := by decide +kernel
theorem d_P_charactersInAll_36 : decode prog_1_method_21_code 36 = .ok (.goto (-23), 3) := by decide +kernel
theorem d_R_piecesOf_0 : decode prog_5_method_3_code 0 = .ok (.aload_n 0, 1) := by decide +kernel
theorem d_R_piecesOf_1 : decode prog_5_method_3_code 1 = .ok (.ifnonnull 7, 3) := by decide +kernel
theorem d_R_piecesOf_4 : decode prog_5_method_3_code 4 = .ok (.iconst 0, 1) := by decide +kernel
theorem d_R_piecesOf_5 : decode prog_5_method_3_code 5 = .ok (.goto 7, 3) := by decide +kernel
theorem d_R_piecesOf_8 : decode prog_5_method_3_code 8 = .ok (.aload_n 0, 1) := by decide +kernel
theorem d_R_piecesOf_9 : decode prog_5_method_3_code 9 = .ok (.getfield 15, 3) := by decide +kernel
theorem d_R_piecesOf_12 : decode prog_5_method_3_code 12 = .ok (.ireturn, 1) := by decide +kernel
theorem d_P_piecesInAll_0 : decode prog_1_method_22_code 0 = .ok (.iconst 0, 1) := by decide +kernel
theorem d_P_piecesInAll_1 : decode prog_1_method_22_code 1 = .ok (.istore_n 1, 1) := by decide +kernel
theorem d_P_piecesInAll_2 : decode prog_1_method_22_code 2 = .ok (.aload_n 0, 1) := by decide +kernel
theorem d_P_piecesInAll_3 : decode prog_1_method_22_code 3 = .ok (.getfield 15, 3) := by decide +kernel
theorem d_P_piecesInAll_6 : decode prog_1_method_22_code 6 = .ok (.astore_n 2, 1) := by decide +kernel
theorem d_P_piecesInAll_7 : decode prog_1_method_22_code 7 = .ok (.aload_n 2, 1) := by decide +kernel
theorem d_P_piecesInAll_8 : decode prog_1_method_22_code 8 = .ok (.arraylength, 1) := by decide +kernel
theorem d_P_piecesInAll_9 : decode prog_1_method_22_code 9 = .ok (.istore_n 3, 1) := by decide +kernel
theorem d_P_piecesInAll_10 : decode prog_1_method_22_code 10 = .ok (.iconst 0, 1) := by decide +kernel
theorem d_P_piecesInAll_11 : decode prog_1_method_22_code 11 = .ok (.istore 4, 2) := by decide +kernel
theorem d_P_piecesInAll_13 : decode prog_1_method_22_code 13 = .ok (.iload 4, 2) := by decide +kernel
theorem d_P_piecesInAll_15 : decode prog_1_method_22_code 15 = .ok (.iload_n 3, 1) := by decide +kernel
theorem d_P_piecesInAll_16 : decode prog_1_method_22_code 16 = .ok (.if_icmp .ge 23, 3) := by decide +kernel
theorem d_P_piecesInAll_39 : decode prog_1_method_22_code 39 = .ok (.iload_n 1, 1) := by decide +kernel
theorem d_P_piecesInAll_40 : decode prog_1_method_22_code 40 = .ok (.ireturn, 1) := by decide +kernel
theorem d_P_piecesInAll_19 : decode prog_1_method_22_code 19 = .ok (.aload_n 2, 1) := by decide +kernel
theorem d_P_piecesInAll_20 : decode prog_1_method_22_code 20 = .ok (.iload 4, 2) := by decide +kernel
theorem d_P_piecesInAll_22 : decode prog_1_method_22_code 22 = .ok (.aaload, 1) := by decide +kernel
theorem d_P_piecesInAll_23 : decode prog_1_method_22_code 23 = .ok (.astore 5, 2) := by decide +kernel
theorem d_P_piecesInAll_25 : decode prog_1_method_22_code 25 = .ok (.iload_n 1, 1) := by decide +kernel
theorem d_P_piecesInAll_26 : decode prog_1_method_22_code 26 = .ok (.aload 5, 2) := by decide +kernel
theorem d_P_piecesInAll_28 : decode prog_1_method_22_code 28 = .ok (.invokestatic 69, 3) := by decide +kernel
theorem d_P_piecesInAll_31 : decode prog_1_method_22_code 31 = .ok (.iadd, 1) := by decide +kernel
theorem d_P_piecesInAll_32 : decode prog_1_method_22_code 32 = .ok (.istore_n 1, 1) := by decide +kernel
theorem d_P_piecesInAll_33 : decode prog_1_method_22_code 33 = .ok (.iinc 4 1, 3) := by decide +kernel
theorem d_P_piecesInAll_36 : decode prog_1_method_22_code 36 = .ok (.goto (-23), 3) := by decide +kernel
theorem d_P_demandRoom_0 : decode prog_1_method_28_code 0 = .ok (.aload_n 0, 1) := by decide +kernel
theorem d_P_demandRoom_1 : decode prog_1_method_28_code 1 = .ok (.invokevirtual 200, 3) := by decide +kernel
theorem d_P_demandRoom_4 : decode prog_1_method_28_code 4 = .ok (.sipush 4096, 3) := by decide +kernel
theorem d_P_demandRoom_7 : decode prog_1_method_28_code 7 = .ok (.iload_n 1, 1) := by decide +kernel
theorem d_P_demandRoom_8 : decode prog_1_method_28_code 8 = .ok (.isub, 1) := by decide +kernel
theorem d_P_demandRoom_9 : decode prog_1_method_28_code 9 = .ok (.if_icmp .le 13, 3) := by decide +kernel
theorem d_P_demandRoom_22 : decode prog_1_method_28_code 22 = .ok (.aload_n 0, 1) := by decide +kernel
theorem d_P_demandRoom_23 : decode prog_1_method_28_code 23 = .ok (.invokevirtual 203, 3) := by decide +kernel
theorem d_P_demandRoom_26 : decode prog_1_method_28_code 26 = .ok (.sipush 1024, 3) := by decide +kernel
theorem d_P_demandRoom_29 : decode prog_1_method_28_code 29 = .ok (.iload_n 2, 1) := by decide +kernel
theorem d_P_demandRoom_30 : decode prog_1_method_28_code 30 = .ok (.isub, 1) := by decide +kernel
theorem d_P_demandRoom_31 : decode prog_1_method_28_code 31 = .ok (.if_icmp .le 13, 3) := by decide +kernel
theorem d_P_demandRoom_44 : decode prog_1_method_28_code 44 = .ok (.return_, 1) := by decide +kernel
theorem d_P_demandRoom_34 : decode prog_1_method_28_code 34 = .ok (.new 41, 3) := by decide +kernel
theorem d_P_demandRoom_37 : decode prog_1_method_28_code 37 = .ok (.dup, 1) := by decide +kernel
theorem d_P_demandRoom_38 : decode prog_1_method_28_code 38 = .ok (.ldc 224, 2) := by decide +kernel
theorem d_P_demandRoom_40 : decode prog_1_method_28_code 40 = .ok (.invokespecial 45, 3) := by decide +kernel
theorem d_P_demandRoom_43 : decode prog_1_method_28_code 43 = .ok (.athrow, 1) := by decide +kernel
theorem d_P_demandRoom_12 : decode prog_1_method_28_code 12 = .ok (.new 41, 3) := by decide +kernel
theorem d_P_demandRoom_15 : decode prog_1_method_28_code 15 = .ok (.dup, 1) := by decide +kernel
theorem d_P_demandRoom_16 : decode prog_1_method_28_code 16 = .ok (.ldc 222, 2) := by decide +kernel
theorem d_P_demandRoom_18 : decode prog_1_method_28_code 18 = .ok (.invokespecial 45, 3) := by decide +kernel
theorem d_P_demandRoom_21 : decode prog_1_method_28_code 21 = .ok (.athrow, 1) := by decide +kernel
theorem d_R_orderAt_0 : decode prog_5_method_5_code 0 = .ok (.iconst 0, 1) := by decide +kernel
theorem d_R_orderAt_1 : decode prog_5_method_5_code 1 = .ok (.istore_n 2, 1) := by decide +kernel
theorem d_R_orderAt_2 : decode prog_5_method_5_code 2 = .ok (.iload_n 1, 1) := by decide +kernel
theorem d_R_orderAt_3 : decode prog_5_method_5_code 3 = .ok (.istore_n 3, 1) := by decide +kernel
theorem d_R_orderAt_4 : decode prog_5_method_5_code 4 = .ok (.aload_n 0, 1) := by decide +kernel
theorem d_R_orderAt_5 : decode prog_5_method_5_code 5 = .ok (.astore 4, 2) := by decide +kernel
theorem d_R_orderAt_7 : decode prog_5_method_5_code 7 = .ok (.aload 4, 2) := by decide +kernel
theorem d_R_orderAt_9 : decode prog_5_method_5_code 9 = .ok (.ifnull 86, 3) := by decide +kernel
theorem d_R_orderAt_95 : decode prog_5_method_5_code 95 = .ok (.iload_n 2, 1) := by decide +kernel
theorem d_R_orderAt_96 : decode prog_5_method_5_code 96 = .ok (.ireturn, 1) := by decide +kernel
theorem d_R_orderAt_12 : decode prog_5_method_5_code 12 = .ok (.aload 4, 2) := by decide +kernel
theorem d_R_orderAt_14 : decode prog_5_method_5_code 14 = .ok (.getfield 21, 3) := by decide +kernel
theorem d_R_orderAt_17 : decode prog_5_method_5_code 17 = .ok (.invokestatic 25, 3) := by decide +kernel
theorem d_R_orderAt_20 : decode prog_5_method_5_code 20 = .ok (.istore 5, 2) := by decide +kernel
theorem d_R_orderAt_22 : decode prog_5_method_5_code 22 = .ok (.iload_n 3, 1) := by decide +kernel
theorem d_R_orderAt_23 : decode prog_5_method_5_code 23 = .ok (.iload 5, 2) := by decide +kernel
theorem d_R_orderAt_25 : decode prog_5_method_5_code 25 = .ok (.if_icmp .ge 13, 3) := by decide +kernel
theorem d_R_orderAt_38 : decode prog_5_method_5_code 38 = .ok (.iload_n 3, 1) := by decide +kernel
theorem d_R_orderAt_39 : decode prog_5_method_5_code 39 = .ok (.iload 5, 2) := by decide +kernel
theorem d_R_orderAt_41 : decode prog_5_method_5_code 41 = .ok (.aload 4, 2) := by decide +kernel
theorem d_R_orderAt_43 : decode prog_5_method_5_code 43 = .ok (.getfield 31, 3) := by decide +kernel
theorem d_R_orderAt_46 : decode prog_5_method_5_code 46 = .ok (.iadd, 1) := by decide +kernel
theorem d_R_orderAt_47 : decode prog_5_method_5_code 47 = .ok (.if_icmp .ge 14, 3) := by decide +kernel
theorem d_R_orderAt_61 : decode prog_5_method_5_code 61 = .ok (.iload_n 2, 1) := by decide +kernel
theorem d_R_orderAt_62 : decode prog_5_method_5_code 62 = .ok (.aload 4, 2) := by decide +kernel
theorem d_R_orderAt_64 : decode prog_5_method_5_code 64 = .ok (.getfield 21, 3) := by decide +kernel
theorem d_R_orderAt_67 : decode prog_5_method_5_code 67 = .ok (.invokestatic 34, 3) := by decide +kernel
theorem d_R_orderAt_70 : decode prog_5_method_5_code 70 = .ok (.iconst 1, 1) := by decide +kernel
theorem d_R_orderAt_71 : decode prog_5_method_5_code 71 = .ok (.iadd, 1) := by decide +kernel
theorem d_R_orderAt_72 : decode prog_5_method_5_code 72 = .ok (.iadd, 1) := by decide +kernel
theorem d_R_orderAt_73 : decode prog_5_method_5_code 73 = .ok (.istore_n 2, 1) := by decide +kernel
theorem d_R_orderAt_74 : decode prog_5_method_5_code 74 = .ok (.iload_n 3, 1) := by decide +kernel
theorem d_R_orderAt_75 : decode prog_5_method_5_code 75 = .ok (.iload 5, 2) := by decide +kernel
theorem d_R_orderAt_77 : decode prog_5_method_5_code 77 = .ok (.aload 4, 2) := by decide +kernel
theorem d_R_orderAt_79 : decode prog_5_method_5_code 79 = .ok (.getfield 31, 3) := by decide +kernel
theorem d_R_orderAt_82 : decode prog_5_method_5_code 82 = .ok (.iadd, 1) := by decide +kernel
theorem d_R_orderAt_83 : decode prog_5_method_5_code 83 = .ok (.isub, 1) := by decide +kernel
theorem d_R_orderAt_84 : decode prog_5_method_5_code 84 = .ok (.istore_n 3, 1) := by decide +kernel
theorem d_R_orderAt_85 : decode prog_5_method_5_code 85 = .ok (.aload 4, 2) := by decide +kernel
theorem d_R_orderAt_87 : decode prog_5_method_5_code 87 = .ok (.getfield 37, 3) := by decide +kernel
theorem d_R_orderAt_90 : decode prog_5_method_5_code 90 = .ok (.astore 4, 2) := by decide +kernel
theorem d_R_orderAt_50 : decode prog_5_method_5_code 50 = .ok (.iload_n 2, 1) := by decide +kernel
theorem d_R_orderAt_51 : decode prog_5_method_5_code 51 = .ok (.aload 4, 2) := by decide +kernel
theorem d_R_orderAt_53 : decode prog_5_method_5_code 53 = .ok (.getfield 21, 3) := by decide +kernel
theorem d_R_orderAt_56 : decode prog_5_method_5_code 56 = .ok (.invokestatic 34, 3) := by decide +kernel
theorem d_R_orderAt_59 : decode prog_5_method_5_code 59 = .ok (.iadd, 1) := by decide +kernel
theorem d_R_orderAt_60 : decode prog_5_method_5_code 60 = .ok (.ireturn, 1) := by decide +kernel
theorem d_R_orderAt_28 : decode prog_5_method_5_code 28 = .ok (.aload 4, 2) := by decide +kernel
theorem d_R_orderAt_30 : decode prog_5_method_5_code 30 = .ok (.getfield 21, 3) := by decide +kernel
theorem d_R_orderAt_33 : decode prog_5_method_5_code 33 = .ok (.astore 4, 2) := by decide +kernel
theorem d_R_orderAt_35 : decode prog_5_method_5_code 35 = .ok (.goto 57, 3) := by decide +kernel
theorem d_R_orderAt_92 : decode prog_5_method_5_code 92 = .ok (.goto (-85), 3) := by decide +kernel
theorem d_Y_before_0 : decode prog_6_method_8_code 0 = .ok (.iload_n 1, 1) := by decide +kernel
theorem d_Y_before_1 : decode prog_6_method_8_code 1 = .ok (.iconst 1, 1) := by decide +kernel
theorem d_Y_before_2 : decode prog_6_method_8_code 2 = .ok (.if_icmp .ge 7, 3) := by decide +kernel
theorem d_Y_before_9 : decode prog_6_method_8_code 9 = .ok (.aload_n 0, 1) := by decide +kernel
theorem d_Y_before_10 : decode prog_6_method_8_code 10 = .ok (.iload_n 1, 1) := by decide +kernel
theorem d_Y_before_11 : decode prog_6_method_8_code 11 = .ok (.iconst 1, 1) := by decide +kernel
theorem d_Y_before_12 : decode prog_6_method_8_code 12 = .ok (.isub, 1) := by decide +kernel
theorem d_Y_before_13 : decode prog_6_method_8_code 13 = .ok (.invokestatic 46, 3) := by decide +kernel
theorem d_Y_before_16 : decode prog_6_method_8_code 16 = .ok (.iconst 1, 1) := by decide +kernel
theorem d_Y_before_17 : decode prog_6_method_8_code 17 = .ok (.iadd, 1) := by decide +kernel
theorem d_Y_before_5 : decode prog_6_method_8_code 5 = .ok (.iconst 0, 1) := by decide +kernel
theorem d_Y_before_6 : decode prog_6_method_8_code 6 = .ok (.goto 12, 3) := by decide +kernel
theorem d_Y_before_18 : decode prog_6_method_8_code 18 = .ok (.ireturn, 1) := by decide +kernel
theorem d_Y_behind_0 : decode prog_6_method_9_code 0 = .ok (.aload_n 0, 1) := by decide +kernel
theorem d_Y_behind_1 : decode prog_6_method_9_code 1 = .ok (.invokestatic 35, 3) := by decide +kernel
theorem d_Y_behind_4 : decode prog_6_method_9_code 4 = .ok (.aload_n 0, 1) := by decide +kernel
theorem d_Y_behind_5 : decode prog_6_method_9_code 5 = .ok (.iload_n 1, 1) := by decide +kernel
theorem d_Y_behind_6 : decode prog_6_method_9_code 6 = .ok (.invokestatic 46, 3) := by decide +kernel
theorem d_Y_behind_9 : decode prog_6_method_9_code 9 = .ok (.isub, 1) := by decide +kernel
theorem d_Y_behind_10 : decode prog_6_method_9_code 10 = .ok (.ireturn, 1) := by decide +kernel
theorem d_R_numbered_0 : decode prog_5_method_6_code 0 = .ok (.iload_n 1, 1) := by decide +kernel
theorem d_R_numbered_1 : decode prog_5_method_6_code 1 = .ok (.istore_n 2, 1) := by decide +kernel
theorem d_R_numbered_2 : decode prog_5_method_6_code 2 = .ok (.aload_n 0, 1) := by decide +kernel
theorem d_R_numbered_3 : decode prog_5_method_6_code 3 = .ok (.astore_n 3, 1) := by decide +kernel
theorem d_R_numbered_4 : decode prog_5_method_6_code 4 = .ok (.aload_n 3, 1) := by decide +kernel
theorem d_R_numbered_5 : decode prog_5_method_6_code 5 = .ok (.ifnull 49, 3) := by decide +kernel
theorem d_R_numbered_54 : decode prog_5_method_6_code 54 = .ok (.aconst_null, 1) := by decide +kernel
theorem d_R_numbered_55 : decode prog_5_method_6_code 55 = .ok (.areturn, 1) := by decide +kernel
theorem d_R_numbered_8 : decode prog_5_method_6_code 8 = .ok (.aload_n 3, 1) := by decide +kernel
theorem d_R_numbered_9 : decode prog_5_method_6_code 9 = .ok (.getfield 21, 3) := by decide +kernel
theorem d_R_numbered_12 : decode prog_5_method_6_code 12 = .ok (.invokestatic 34, 3) := by decide +kernel
theorem d_R_numbered_15 : decode prog_5_method_6_code 15 = .ok (.istore 4, 2) := by decide +kernel
theorem d_R_numbered_17 : decode prog_5_method_6_code 17 = .ok (.iload_n 2, 1) := by decide +kernel
theorem d_R_numbered_18 : decode prog_5_method_6_code 18 = .ok (.iload 4, 2) := by decide +kernel
theorem d_R_numbered_20 : decode prog_5_method_6_code 20 = .ok (.if_icmp .ne 5, 3) := by decide +kernel
theorem d_R_numbered_25 : decode prog_5_method_6_code 25 = .ok (.iload_n 2, 1) := by decide +kernel
theorem d_R_numbered_26 : decode prog_5_method_6_code 26 = .ok (.iload 4, 2) := by decide +kernel
theorem d_R_numbered_28 : decode prog_5_method_6_code 28 = .ok (.if_icmp .ge 11, 3) := by decide +kernel
theorem d_R_numbered_39 : decode prog_5_method_6_code 39 = .ok (.iload_n 2, 1) := by decide +kernel
theorem d_R_numbered_40 : decode prog_5_method_6_code 40 = .ok (.iload 4, 2) := by decide +kernel
theorem d_R_numbered_42 : decode prog_5_method_6_code 42 = .ok (.iconst 1, 1) := by decide +kernel
theorem d_R_numbered_43 : decode prog_5_method_6_code 43 = .ok (.iadd, 1) := by decide +kernel
theorem d_R_numbered_44 : decode prog_5_method_6_code 44 = .ok (.isub, 1) := by decide +kernel
theorem d_R_numbered_45 : decode prog_5_method_6_code 45 = .ok (.istore_n 2, 1) := by decide +kernel
theorem d_R_numbered_46 : decode prog_5_method_6_code 46 = .ok (.aload_n 3, 1) := by decide +kernel
theorem d_R_numbered_47 : decode prog_5_method_6_code 47 = .ok (.getfield 37, 3) := by decide +kernel
theorem d_R_numbered_50 : decode prog_5_method_6_code 50 = .ok (.astore_n 3, 1) := by decide +kernel
theorem d_R_numbered_31 : decode prog_5_method_6_code 31 = .ok (.aload_n 3, 1) := by decide +kernel
theorem d_R_numbered_32 : decode prog_5_method_6_code 32 = .ok (.getfield 21, 3) := by decide +kernel
theorem d_R_numbered_35 : decode prog_5_method_6_code 35 = .ok (.astore_n 3, 1) := by decide +kernel
theorem d_R_numbered_36 : decode prog_5_method_6_code 36 = .ok (.goto 15, 3) := by decide +kernel
theorem d_R_numbered_23 : decode prog_5_method_6_code 23 = .ok (.aload_n 3, 1) := by decide +kernel
theorem d_R_numbered_24 : decode prog_5_method_6_code 24 = .ok (.areturn, 1) := by decide +kernel
theorem d_R_numbered_51 : decode prog_5_method_6_code 51 = .ok (.goto (-47), 3) := by decide +kernel
theorem d_R_startOf_0 : decode prog_5_method_7_code 0 = .ok (.iconst 0, 1) := by decide +kernel
theorem d_R_startOf_1 : decode prog_5_method_7_code 1 = .ok (.istore_n 2, 1) := by decide +kernel
theorem d_R_startOf_2 : decode prog_5_method_7_code 2 = .ok (.iload_n 1, 1) := by decide +kernel
theorem d_R_startOf_3 : decode prog_5_method_7_code 3 = .ok (.istore_n 3, 1) := by decide +kernel
theorem d_R_startOf_4 : decode prog_5_method_7_code 4 = .ok (.aload_n 0, 1) := by decide +kernel
theorem d_R_startOf_5 : decode prog_5_method_7_code 5 = .ok (.astore 4, 2) := by decide +kernel
theorem d_R_startOf_7 : decode prog_5_method_7_code 7 = .ok (.aload 4, 2) := by decide +kernel
theorem d_R_startOf_9 : decode prog_5_method_7_code 9 = .ok (.ifnull 63, 3) := by decide +kernel
theorem d_R_startOf_72 : decode prog_5_method_7_code 72 = .ok (.iload_n 2, 1) := by decide +kernel
theorem d_R_startOf_73 : decode prog_5_method_7_code 73 = .ok (.ireturn, 1) := by decide +kernel
theorem d_R_startOf_12 : decode prog_5_method_7_code 12 = .ok (.aload 4, 2) := by decide +kernel
theorem d_R_startOf_14 : decode prog_5_method_7_code 14 = .ok (.getfield 21, 3) := by decide +kernel
theorem d_R_startOf_17 : decode prog_5_method_7_code 17 = .ok (.invokestatic 34, 3) := by decide +kernel
theorem d_R_startOf_20 : decode prog_5_method_7_code 20 = .ok (.istore 5, 2) := by decide +kernel
theorem d_R_startOf_22 : decode prog_5_method_7_code 22 = .ok (.iload_n 3, 1) := by decide +kernel
theorem d_R_startOf_23 : decode prog_5_method_7_code 23 = .ok (.iload 5, 2) := by decide +kernel
theorem d_R_startOf_25 : decode prog_5_method_7_code 25 = .ok (.if_icmp .gt 13, 3) := by decide +kernel
theorem d_R_startOf_38 : decode prog_5_method_7_code 38 = .ok (.iload_n 2, 1) := by decide +kernel
theorem d_R_startOf_39 : decode prog_5_method_7_code 39 = .ok (.aload 4, 2) := by decide +kernel
theorem d_R_startOf_41 : decode prog_5_method_7_code 41 = .ok (.getfield 21, 3) := by decide +kernel
theorem d_R_startOf_44 : decode prog_5_method_7_code 44 = .ok (.invokestatic 25, 3) := by decide +kernel
theorem d_R_startOf_47 : decode prog_5_method_7_code 47 = .ok (.aload 4, 2) := by decide +kernel
theorem d_R_startOf_49 : decode prog_5_method_7_code 49 = .ok (.getfield 31, 3) := by decide +kernel
theorem d_R_startOf_52 : decode prog_5_method_7_code 52 = .ok (.iadd, 1) := by decide +kernel
theorem d_R_startOf_53 : decode prog_5_method_7_code 53 = .ok (.iadd, 1) := by decide +kernel
theorem d_R_startOf_54 : decode prog_5_method_7_code 54 = .ok (.istore_n 2, 1) := by decide +kernel
theorem d_R_startOf_55 : decode prog_5_method_7_code 55 = .ok (.iload_n 3, 1) := by decide +kernel
theorem d_R_startOf_56 : decode prog_5_method_7_code 56 = .ok (.iload 5, 2) := by decide +kernel
theorem d_R_startOf_58 : decode prog_5_method_7_code 58 = .ok (.iconst 1, 1) := by decide +kernel
theorem d_R_startOf_59 : decode prog_5_method_7_code 59 = .ok (.iadd, 1) := by decide +kernel
theorem d_R_startOf_60 : decode prog_5_method_7_code 60 = .ok (.isub, 1) := by decide +kernel
theorem d_R_startOf_61 : decode prog_5_method_7_code 61 = .ok (.istore_n 3, 1) := by decide +kernel
theorem d_R_startOf_62 : decode prog_5_method_7_code 62 = .ok (.aload 4, 2) := by decide +kernel
theorem d_R_startOf_64 : decode prog_5_method_7_code 64 = .ok (.getfield 37, 3) := by decide +kernel
theorem d_R_startOf_67 : decode prog_5_method_7_code 67 = .ok (.astore 4, 2) := by decide +kernel
theorem d_R_startOf_28 : decode prog_5_method_7_code 28 = .ok (.aload 4, 2) := by decide +kernel
theorem d_R_startOf_30 : decode prog_5_method_7_code 30 = .ok (.getfield 21, 3) := by decide +kernel
theorem d_R_startOf_33 : decode prog_5_method_7_code 33 = .ok (.astore 4, 2) := by decide +kernel
theorem d_R_startOf_35 : decode prog_5_method_7_code 35 = .ok (.goto 34, 3) := by decide +kernel
theorem d_R_startOf_69 : decode prog_5_method_7_code 69 = .ok (.goto (-62), 3) := by decide +kernel
theorem d_R_sourceAt_0 : decode prog_5_method_8_code 0 = .ok (.aload_n 0, 1) := by decide +kernel
theorem d_R_sourceAt_1 : decode prog_5_method_8_code 1 = .ok (.iload_n 1, 1) := by decide +kernel
theorem d_R_sourceAt_2 : decode prog_5_method_8_code 2 = .ok (.invokestatic 40, 3) := by decide +kernel
theorem d_R_sourceAt_5 : decode prog_5_method_8_code 5 = .ok (.istore_n 2, 1) := by decide +kernel
theorem d_R_sourceAt_6 : decode prog_5_method_8_code 6 = .ok (.aload_n 0, 1) := by decide +kernel
theorem d_R_sourceAt_7 : decode prog_5_method_8_code 7 = .ok (.iload_n 2, 1) := by decide +kernel
theorem d_R_sourceAt_8 : decode prog_5_method_8_code 8 = .ok (.invokestatic 44, 3) := by decide +kernel
theorem d_R_sourceAt_11 : decode prog_5_method_8_code 11 = .ok (.astore_n 3, 1) := by decide +kernel
theorem d_R_sourceAt_12 : decode prog_5_method_8_code 12 = .ok (.aload_n 3, 1) := by decide +kernel
theorem d_R_sourceAt_13 : decode prog_5_method_8_code 13 = .ok (.ifnonnull 7, 3) := by decide +kernel
theorem d_R_sourceAt_16 : decode prog_5_method_8_code 16 = .ok (.iconst (-1), 1) := by decide +kernel
theorem d_R_sourceAt_17 : decode prog_5_method_8_code 17 = .ok (.goto 15, 3) := by decide +kernel
theorem d_R_sourceAt_20 : decode prog_5_method_8_code 20 = .ok (.aload_n 3, 1) := by decide +kernel
theorem d_R_sourceAt_21 : decode prog_5_method_8_code 21 = .ok (.getfield 48, 3) := by decide +kernel
theorem d_R_sourceAt_24 : decode prog_5_method_8_code 24 = .ok (.iload_n 1, 1) := by decide +kernel
theorem d_R_sourceAt_25 : decode prog_5_method_8_code 25 = .ok (.iadd, 1) := by decide +kernel
theorem d_R_sourceAt_26 : decode prog_5_method_8_code 26 = .ok (.aload_n 0, 1) := by decide +kernel
theorem d_R_sourceAt_27 : decode prog_5_method_8_code 27 = .ok (.iload_n 2, 1) := by decide +kernel
theorem d_R_sourceAt_28 : decode prog_5_method_8_code 28 = .ok (.invokestatic 51, 3) := by decide +kernel
theorem d_R_sourceAt_31 : decode prog_5_method_8_code 31 = .ok (.isub, 1) := by decide +kernel
theorem d_R_sourceAt_32 : decode prog_5_method_8_code 32 = .ok (.ireturn, 1) := by decide +kernel
theorem d_R_tagAt_0 : decode prog_5_method_9_code 0 = .ok (.aload_n 0, 1) := by decide +kernel
theorem d_R_tagAt_1 : decode prog_5_method_9_code 1 = .ok (.aload_n 0, 1) := by decide +kernel
theorem d_R_tagAt_2 : decode prog_5_method_9_code 2 = .ok (.iload_n 1, 1) := by decide +kernel
theorem d_R_tagAt_3 : decode prog_5_method_9_code 3 = .ok (.invokestatic 40, 3) := by decide +kernel
theorem d_R_tagAt_6 : decode prog_5_method_9_code 6 = .ok (.invokestatic 44, 3) := by decide +kernel
theorem d_R_tagAt_9 : decode prog_5_method_9_code 9 = .ok (.astore_n 2, 1) := by decide +kernel
theorem d_R_tagAt_10 : decode prog_5_method_9_code 10 = .ok (.aload_n 2, 1) := by decide +kernel
theorem d_R_tagAt_11 : decode prog_5_method_9_code 11 = .ok (.ifnonnull 7, 3) := by decide +kernel
theorem d_R_tagAt_14 : decode prog_5_method_9_code 14 = .ok (.iconst 0, 1) := by decide +kernel
theorem d_R_tagAt_15 : decode prog_5_method_9_code 15 = .ok (.goto 7, 3) := by decide +kernel
theorem d_R_tagAt_18 : decode prog_5_method_9_code 18 = .ok (.aload_n 2, 1) := by decide +kernel
theorem d_R_tagAt_19 : decode prog_5_method_9_code 19 = .ok (.getfield 54, 3) := by decide +kernel
theorem d_R_tagAt_22 : decode prog_5_method_9_code 22 = .ok (.ireturn, 1) := by decide +kernel
theorem d_Y_meldsLeft_0 : decode prog_6_method_10_code 0 = .ok (.iload_n 1, 1) := by decide +kernel
theorem d_Y_meldsLeft_1 : decode prog_6_method_10_code 1 = .ok (.iconst 1, 1) := by decide +kernel
theorem d_Y_meldsLeft_2 : decode prog_6_method_10_code 2 = .ok (.if_icmp .ge 5, 3) := by decide +kernel
theorem d_Y_meldsLeft_7 : decode prog_6_method_10_code 7 = .ok (.aload_n 0, 1) := by decide +kernel
theorem d_Y_meldsLeft_8 : decode prog_6_method_10_code 8 = .ok (.iload_n 1, 1) := by decide +kernel
theorem d_Y_meldsLeft_9 : decode prog_6_method_10_code 9 = .ok (.iconst 1, 1) := by decide +kernel
theorem d_Y_meldsLeft_10 : decode prog_6_method_10_code 10 = .ok (.isub, 1) := by decide +kernel
theorem d_Y_meldsLeft_11 : decode prog_6_method_10_code 11 = .ok (.invokestatic 29, 3) := by decide +kernel
theorem d_Y_meldsLeft_14 : decode prog_6_method_10_code 14 = .ok (.iconst 1, 1) := by decide +kernel
theorem d_Y_meldsLeft_15 : decode prog_6_method_10_code 15 = .ok (.iadd, 1) := by decide +kernel
theorem d_Y_meldsLeft_16 : decode prog_6_method_10_code 16 = .ok (.iload_n 2, 1) := by decide +kernel
theorem d_Y_meldsLeft_17 : decode prog_6_method_10_code 17 = .ok (.if_icmp .ne 18, 3) := by decide +kernel
theorem d_Y_meldsLeft_20 : decode prog_6_method_10_code 20 = .ok (.aload_n 0, 1) := by decide +kernel
theorem d_Y_meldsLeft_21 : decode prog_6_method_10_code 21 = .ok (.iload_n 1, 1) := by decide +kernel
theorem d_Y_meldsLeft_22 : decode prog_6_method_10_code 22 = .ok (.iconst 1, 1) := by decide +kernel
theorem d_Y_meldsLeft_23 : decode prog_6_method_10_code 23 = .ok (.isub, 1) := by decide +kernel
theorem d_Y_meldsLeft_24 : decode prog_6_method_10_code 24 = .ok (.invokestatic 32, 3) := by decide +kernel
theorem d_Y_meldsLeft_27 : decode prog_6_method_10_code 27 = .ok (.iload_n 3, 1) := by decide +kernel
theorem d_Y_meldsLeft_28 : decode prog_6_method_10_code 28 = .ok (.if_icmp .ne 7, 3) := by decide +kernel
theorem d_Y_meldsLeft_31 : decode prog_6_method_10_code 31 = .ok (.iconst 1, 1) := by decide +kernel
theorem d_Y_meldsLeft_32 : decode prog_6_method_10_code 32 = .ok (.goto 4, 3) := by decide +kernel
theorem d_Y_meldsLeft_5 : decode prog_6_method_10_code 5 = .ok (.iconst 0, 1) := by decide +kernel
theorem d_Y_meldsLeft_6 : decode prog_6_method_10_code 6 = .ok (.ireturn, 1) := by decide +kernel
theorem d_Y_meldsLeft_35 : decode prog_6_method_10_code 35 = .ok (.iconst 0, 1) := by decide +kernel
theorem d_Y_meldsLeft_36 : decode prog_6_method_10_code 36 = .ok (.ireturn, 1) := by decide +kernel
theorem d_Y_meldsRight_0 : decode prog_6_method_11_code 0 = .ok (.iload_n 1, 1) := by decide +kernel
theorem d_Y_meldsRight_1 : decode prog_6_method_11_code 1 = .ok (.aload_n 0, 1) := by decide +kernel
theorem d_Y_meldsRight_2 : decode prog_6_method_11_code 2 = .ok (.invokestatic 23, 3) := by decide +kernel
theorem d_Y_meldsRight_5 : decode prog_6_method_11_code 5 = .ok (.if_icmp .lt 5, 3) := by decide +kernel
theorem d_Y_meldsRight_10 : decode prog_6_method_11_code 10 = .ok (.iload_n 2, 1) := by decide +kernel
theorem d_Y_meldsRight_11 : decode prog_6_method_11_code 11 = .ok (.iconst 1, 1) := by decide +kernel
theorem d_Y_meldsRight_12 : decode prog_6_method_11_code 12 = .ok (.iadd, 1) := by decide +kernel
theorem d_Y_meldsRight_13 : decode prog_6_method_11_code 13 = .ok (.aload_n 0, 1) := by decide +kernel
theorem d_Y_meldsRight_14 : decode prog_6_method_11_code 14 = .ok (.iload_n 1, 1) := by decide +kernel
theorem d_Y_meldsRight_15 : decode prog_6_method_11_code 15 = .ok (.invokestatic 29, 3) := by decide +kernel
theorem d_Y_meldsRight_18 : decode prog_6_method_11_code 18 = .ok (.if_icmp .ne 16, 3) := by decide +kernel
theorem d_Y_meldsRight_21 : decode prog_6_method_11_code 21 = .ok (.aload_n 0, 1) := by decide +kernel
theorem d_Y_meldsRight_22 : decode prog_6_method_11_code 22 = .ok (.iload_n 1, 1) := by decide +kernel
theorem d_Y_meldsRight_23 : decode prog_6_method_11_code 23 = .ok (.invokestatic 32, 3) := by decide +kernel
theorem d_Y_meldsRight_26 : decode prog_6_method_11_code 26 = .ok (.iload_n 3, 1) := by decide +kernel
theorem d_Y_meldsRight_27 : decode prog_6_method_11_code 27 = .ok (.if_icmp .ne 7, 3) := by decide +kernel
theorem d_Y_meldsRight_30 : decode prog_6_method_11_code 30 = .ok (.iconst 1, 1) := by decide +kernel
theorem d_Y_meldsRight_31 : decode prog_6_method_11_code 31 = .ok (.goto 4, 3) := by decide +kernel
theorem d_Y_meldsRight_8 : decode prog_6_method_11_code 8 = .ok (.iconst 0, 1) := by decide +kernel
theorem d_Y_meldsRight_9 : decode prog_6_method_11_code 9 = .ok (.ireturn, 1) := by decide +kernel
theorem d_Y_meldsRight_34 : decode prog_6_method_11_code 34 = .ok (.iconst 0, 1) := by decide +kernel
theorem d_Y_meldsRight_35 : decode prog_6_method_11_code 35 = .ok (.ireturn, 1) := by decide +kernel
theorem d_Y_afterPut_0 : decode prog_6_method_2_code 0 = .ok (.aload_n 0, 1) := by decide +kernel
theorem d_Y_afterPut_1 : decode prog_6_method_2_code 1 = .ok (.iload_n 1, 1) := by decide +kernel
theorem d_Y_afterPut_2 : decode prog_6_method_2_code 2 = .ok (.invokestatic 7, 3) := by decide +kernel
theorem d_Y_afterPut_5 : decode prog_6_method_2_code 5 = .ok (.iconst 1, 1) := by decide +kernel
theorem d_Y_afterPut_6 : decode prog_6_method_2_code 6 = .ok (.iadd, 1) := by decide +kernel
theorem d_Y_afterPut_7 : decode prog_6_method_2_code 7 = .ok (.aload_n 0, 1) := by decide +kernel
theorem d_Y_afterPut_8 : decode prog_6_method_2_code 8 = .ok (.iload_n 1, 1) := by decide +kernel
theorem d_Y_afterPut_9 : decode prog_6_method_2_code 9 = .ok (.invokestatic 13, 3) := by decide +kernel
theorem d_Y_afterPut_12 : decode prog_6_method_2_code 12 = .ok (.iadd, 1) := by decide +kernel
theorem d_Y_afterPut_13 : decode prog_6_method_2_code 13 = .ok (.aload_n 0, 1) := by decide +kernel
theorem d_Y_afterPut_14 : decode prog_6_method_2_code 14 = .ok (.iload_n 1, 1) := by decide +kernel
theorem d_Y_afterPut_15 : decode prog_6_method_2_code 15 = .ok (.iload_n 2, 1) := by decide +kernel
theorem d_Y_afterPut_16 : decode prog_6_method_2_code 16 = .ok (.iload 4, 2) := by decide +kernel
theorem d_Y_afterPut_18 : decode prog_6_method_2_code 18 = .ok (.invokestatic 16, 3) := by decide +kernel
theorem d_Y_afterPut_21 : decode prog_6_method_2_code 21 = .ok (.isub, 1) := by decide +kernel
theorem d_Y_afterPut_22 : decode prog_6_method_2_code 22 = .ok (.aload_n 0, 1) := by decide +kernel
theorem d_Y_afterPut_23 : decode prog_6_method_2_code 23 = .ok (.iload_n 1, 1) := by decide +kernel
theorem d_Y_afterPut_24 : decode prog_6_method_2_code 24 = .ok (.iload_n 2, 1) := by decide +kernel
theorem d_Y_afterPut_25 : decode prog_6_method_2_code 25 = .ok (.iload_n 3, 1) := by decide +kernel
theorem d_Y_afterPut_26 : decode prog_6_method_2_code 26 = .ok (.iadd, 1) := by decide +kernel
theorem d_Y_afterPut_27 : decode prog_6_method_2_code 27 = .ok (.iconst 1, 1) := by decide +kernel
theorem d_Y_afterPut_28 : decode prog_6_method_2_code 28 = .ok (.isub, 1) := by decide +kernel
theorem d_Y_afterPut_29 : decode prog_6_method_2_code 29 = .ok (.iload 4, 2) := by decide +kernel
theorem d_Y_afterPut_31 : decode prog_6_method_2_code 31 = .ok (.invokestatic 20, 3) := by decide +kernel
theorem d_Y_afterPut_34 : decode prog_6_method_2_code 34 = .ok (.isub, 1) := by decide +kernel
theorem d_Y_afterPut_35 : decode prog_6_method_2_code 35 = .ok (.ireturn, 1) := by decide +kernel
theorem d_T_firstOf_0 : decode prog_7_method_11_code 0 = .ok (.aconst_null, 1) := by decide +kernel
theorem d_T_firstOf_1 : decode prog_7_method_11_code 1 = .ok (.astore_n 1, 1) := by decide +kernel
theorem d_T_firstOf_2 : decode prog_7_method_11_code 2 = .ok (.aload_n 0, 1) := by decide +kernel
theorem d_T_firstOf_3 : decode prog_7_method_11_code 3 = .ok (.astore_n 2, 1) := by decide +kernel
theorem d_T_firstOf_4 : decode prog_7_method_11_code 4 = .ok (.aload_n 2, 1) := by decide +kernel
theorem d_T_firstOf_5 : decode prog_7_method_11_code 5 = .ok (.ifnull 13, 3) := by decide +kernel
theorem d_T_firstOf_18 : decode prog_7_method_11_code 18 = .ok (.aload_n 1, 1) := by decide +kernel
theorem d_T_firstOf_19 : decode prog_7_method_11_code 19 = .ok (.areturn, 1) := by decide +kernel
theorem d_T_firstOf_8 : decode prog_7_method_11_code 8 = .ok (.aload_n 2, 1) := by decide +kernel
theorem d_T_firstOf_9 : decode prog_7_method_11_code 9 = .ok (.astore_n 1, 1) := by decide +kernel
theorem d_T_firstOf_10 : decode prog_7_method_11_code 10 = .ok (.aload_n 2, 1) := by decide +kernel
theorem d_T_firstOf_11 : decode prog_7_method_11_code 11 = .ok (.getfield 35, 3) := by decide +kernel
theorem d_T_firstOf_14 : decode prog_7_method_11_code 14 = .ok (.astore_n 2, 1) := by decide +kernel
theorem d_T_firstOf_15 : decode prog_7_method_11_code 15 = .ok (.goto (-11), 3) := by decide +kernel
theorem d_T_giveBack_0 : decode prog_7_method_3_code 0 = .ok (.aload_n 1, 1) := by decide +kernel
theorem d_T_giveBack_1 : decode prog_7_method_3_code 1 = .ok (.aconst_null, 1) := by decide +kernel
theorem d_T_giveBack_2 : decode prog_7_method_3_code 2 = .ok (.putfield 35, 3) := by decide +kernel
theorem d_T_giveBack_5 : decode prog_7_method_3_code 5 = .ok (.aload_n 1, 1) := by decide +kernel
theorem d_T_giveBack_6 : decode prog_7_method_3_code 6 = .ok (.aload_n 0, 1) := by decide +kernel
theorem d_T_giveBack_7 : decode prog_7_method_3_code 7 = .ok (.getfield 9, 3) := by decide +kernel
theorem d_T_giveBack_10 : decode prog_7_method_3_code 10 = .ok (.putfield 18, 3) := by decide +kernel
theorem d_T_giveBack_13 : decode prog_7_method_3_code 13 = .ok (.aload_n 0, 1) := by decide +kernel
theorem d_T_giveBack_14 : decode prog_7_method_3_code 14 = .ok (.aload_n 1, 1) := by decide +kernel
theorem d_T_giveBack_15 : decode prog_7_method_3_code 15 = .ok (.putfield 9, 3) := by decide +kernel
theorem d_T_giveBack_18 : decode prog_7_method_3_code 18 = .ok (.return_, 1) := by decide +kernel
theorem d_R_heightOf_0 : decode prog_5_method_2_code 0 = .ok (.aload_n 0, 1) := by decide +kernel
theorem d_R_heightOf_1 : decode prog_5_method_2_code 1 = .ok (.ifnonnull 7, 3) := by decide +kernel
theorem d_R_heightOf_4 : decode prog_5_method_2_code 4 = .ok (.iconst 0, 1) := by decide +kernel
theorem d_R_heightOf_5 : decode prog_5_method_2_code 5 = .ok (.goto 7, 3) := by decide +kernel
theorem d_R_heightOf_8 : decode prog_5_method_2_code 8 = .ok (.aload_n 0, 1) := by decide +kernel
theorem d_R_heightOf_9 : decode prog_5_method_2_code 9 = .ok (.getfield 9, 3) := by decide +kernel
theorem d_R_heightOf_12 : decode prog_5_method_2_code 12 = .ok (.ireturn, 1) := by decide +kernel
theorem d_T_sum_0 : decode prog_7_method_19_code 0 = .ok (.iconst 0, 1) := by decide +kernel
theorem d_T_sum_1 : decode prog_7_method_19_code 1 = .ok (.istore_n 1, 1) := by decide +kernel
theorem d_T_sum_2 : decode prog_7_method_19_code 2 = .ok (.iconst 1, 1) := by decide +kernel
theorem d_T_sum_3 : decode prog_7_method_19_code 3 = .ok (.istore_n 2, 1) := by decide +kernel
theorem d_T_sum_4 : decode prog_7_method_19_code 4 = .ok (.aload_n 0, 1) := by decide +kernel
theorem d_T_sum_5 : decode prog_7_method_19_code 5 = .ok (.getfield 25, 3) := by decide +kernel
theorem d_T_sum_8 : decode prog_7_method_19_code 8 = .ok (.istore_n 3, 1) := by decide +kernel
theorem d_T_sum_9 : decode prog_7_method_19_code 9 = .ok (.aload_n 0, 1) := by decide +kernel
theorem d_T_sum_10 : decode prog_7_method_19_code 10 = .ok (.getfield 35, 3) := by decide +kernel
theorem d_T_sum_13 : decode prog_7_method_19_code 13 = .ok (.astore 4, 2) := by decide +kernel
theorem d_T_sum_15 : decode prog_7_method_19_code 15 = .ok (.aload 4, 2) := by decide +kernel
theorem d_T_sum_17 : decode prog_7_method_19_code 17 = .ok (.ifnull 25, 3) := by decide +kernel
theorem d_T_sum_20 : decode prog_7_method_19_code 20 = .ok (.aload 4, 2) := by decide +kernel
theorem d_T_sum_22 : decode prog_7_method_19_code 22 = .ok (.getfield 123, 3) := by decide +kernel
theorem d_T_sum_25 : decode prog_7_method_19_code 25 = .ok (.istore_n 1, 1) := by decide +kernel
theorem d_T_sum_26 : decode prog_7_method_19_code 26 = .ok (.iload_n 2, 1) := by decide +kernel
theorem d_T_sum_27 : decode prog_7_method_19_code 27 = .ok (.aload 4, 2) := by decide +kernel
theorem d_T_sum_29 : decode prog_7_method_19_code 29 = .ok (.getfield 126, 3) := by decide +kernel
theorem d_T_sum_32 : decode prog_7_method_19_code 32 = .ok (.iadd, 1) := by decide +kernel
theorem d_T_sum_33 : decode prog_7_method_19_code 33 = .ok (.istore_n 2, 1) := by decide +kernel
theorem d_T_sum_34 : decode prog_7_method_19_code 34 = .ok (.iload_n 3, 1) := by decide +kernel
theorem d_T_sum_35 : decode prog_7_method_19_code 35 = .ok (.aload 4, 2) := by decide +kernel
theorem d_T_sum_37 : decode prog_7_method_19_code 37 = .ok (.getfield 129, 3) := by decide +kernel
theorem d_T_sum_40 : decode prog_7_method_19_code 40 = .ok (.iadd, 1) := by decide +kernel
theorem d_T_sum_41 : decode prog_7_method_19_code 41 = .ok (.istore_n 3, 1) := by decide +kernel
theorem d_T_sum_42 : decode prog_7_method_19_code 42 = .ok (.aload_n 0, 1) := by decide +kernel
theorem d_T_sum_43 : decode prog_7_method_19_code 43 = .ok (.getfield 18, 3) := by decide +kernel
theorem d_T_sum_46 : decode prog_7_method_19_code 46 = .ok (.astore 5, 2) := by decide +kernel
theorem d_T_sum_48 : decode prog_7_method_19_code 48 = .ok (.aload 5, 2) := by decide +kernel
theorem d_T_sum_50 : decode prog_7_method_19_code 50 = .ok (.ifnull 29, 3) := by decide +kernel
theorem d_T_sum_53 : decode prog_7_method_19_code 53 = .ok (.iload_n 1, 1) := by decide +kernel
theorem d_T_sum_54 : decode prog_7_method_19_code 54 = .ok (.aload 5, 2) := by decide +kernel
theorem d_T_sum_56 : decode prog_7_method_19_code 56 = .ok (.getfield 123, 3) := by decide +kernel
theorem d_T_sum_59 : decode prog_7_method_19_code 59 = .ok (.invokestatic 92, 3) := by decide +kernel
theorem d_T_sum_62 : decode prog_7_method_19_code 62 = .ok (.istore_n 1, 1) := by decide +kernel
theorem d_T_sum_63 : decode prog_7_method_19_code 63 = .ok (.iload_n 2, 1) := by decide +kernel
theorem d_T_sum_64 : decode prog_7_method_19_code 64 = .ok (.aload 5, 2) := by decide +kernel
theorem d_T_sum_66 : decode prog_7_method_19_code 66 = .ok (.getfield 126, 3) := by decide +kernel
theorem d_T_sum_69 : decode prog_7_method_19_code 69 = .ok (.iadd, 1) := by decide +kernel
theorem d_T_sum_70 : decode prog_7_method_19_code 70 = .ok (.istore_n 2, 1) := by decide +kernel
theorem d_T_sum_71 : decode prog_7_method_19_code 71 = .ok (.iload_n 3, 1) := by decide +kernel
theorem d_T_sum_72 : decode prog_7_method_19_code 72 = .ok (.aload 5, 2) := by decide +kernel
theorem d_T_sum_74 : decode prog_7_method_19_code 74 = .ok (.getfield 129, 3) := by decide +kernel
theorem d_T_sum_77 : decode prog_7_method_19_code 77 = .ok (.iadd, 1) := by decide +kernel
theorem d_T_sum_78 : decode prog_7_method_19_code 78 = .ok (.istore_n 3, 1) := by decide +kernel
theorem d_T_sum_79 : decode prog_7_method_19_code 79 = .ok (.aload_n 0, 1) := by decide +kernel
theorem d_T_sum_80 : decode prog_7_method_19_code 80 = .ok (.iload_n 1, 1) := by decide +kernel
theorem d_T_sum_81 : decode prog_7_method_19_code 81 = .ok (.iconst 1, 1) := by decide +kernel
theorem d_T_sum_82 : decode prog_7_method_19_code 82 = .ok (.iadd, 1) := by decide +kernel
theorem d_T_sum_83 : decode prog_7_method_19_code 83 = .ok (.putfield 123, 3) := by decide +kernel
theorem d_T_sum_86 : decode prog_7_method_19_code 86 = .ok (.aload_n 0, 1) := by decide +kernel
theorem d_T_sum_87 : decode prog_7_method_19_code 87 = .ok (.iload_n 2, 1) := by decide +kernel
theorem d_T_sum_88 : decode prog_7_method_19_code 88 = .ok (.putfield 126, 3) := by decide +kernel
theorem d_T_sum_91 : decode prog_7_method_19_code 91 = .ok (.aload_n 0, 1) := by decide +kernel
theorem d_T_sum_92 : decode prog_7_method_19_code 92 = .ok (.iload_n 3, 1) := by decide +kernel
theorem d_T_sum_93 : decode prog_7_method_19_code 93 = .ok (.putfield 129, 3) := by decide +kernel
theorem d_T_sum_96 : decode prog_7_method_19_code 96 = .ok (.return_, 1) := by decide +kernel
theorem d_T_raiseLeft_0 : decode prog_7_method_17_code 0 = .ok (.aload_n 0, 1) := by decide +kernel
theorem d_T_raiseLeft_1 : decode prog_7_method_17_code 1 = .ok (.getfield 35, 3) := by decide +kernel
theorem d_T_raiseLeft_4 : decode prog_7_method_17_code 4 = .ok (.astore_n 1, 1) := by decide +kernel
theorem d_T_raiseLeft_5 : decode prog_7_method_17_code 5 = .ok (.aload_n 1, 1) := by decide +kernel
theorem d_T_raiseLeft_6 : decode prog_7_method_17_code 6 = .ok (.ifnonnull 5, 3) := by decide +kernel
theorem d_T_raiseLeft_9 : decode prog_7_method_17_code 9 = .ok (.aload_n 0, 1) := by decide +kernel
theorem d_T_raiseLeft_10 : decode prog_7_method_17_code 10 = .ok (.areturn, 1) := by decide +kernel
theorem d_T_raiseLeft_11 : decode prog_7_method_17_code 11 = .ok (.aload_n 0, 1) := by decide +kernel
theorem d_T_raiseLeft_12 : decode prog_7_method_17_code 12 = .ok (.aload_n 1, 1) := by decide +kernel
theorem d_T_raiseLeft_13 : decode prog_7_method_17_code 13 = .ok (.getfield 18, 3) := by decide +kernel
theorem d_T_raiseLeft_16 : decode prog_7_method_17_code 16 = .ok (.putfield 35, 3) := by decide +kernel
theorem d_T_raiseLeft_19 : decode prog_7_method_17_code 19 = .ok (.aload_n 1, 1) := by decide +kernel
theorem d_T_raiseLeft_20 : decode prog_7_method_17_code 20 = .ok (.aload_n 0, 1) := by decide +kernel
theorem d_T_raiseLeft_21 : decode prog_7_method_17_code 21 = .ok (.putfield 18, 3) := by decide +kernel
theorem d_T_raiseLeft_24 : decode prog_7_method_17_code 24 = .ok (.aload_n 0, 1) := by decide +kernel
theorem d_T_raiseLeft_25 : decode prog_7_method_17_code 25 = .ok (.invokestatic 108, 3) := by decide +kernel
theorem d_T_raiseLeft_28 : decode prog_7_method_17_code 28 = .ok (.aload_n 1, 1) := by decide +kernel
theorem d_T_raiseLeft_29 : decode prog_7_method_17_code 29 = .ok (.invokestatic 108, 3) := by decide +kernel
theorem d_T_raiseLeft_32 : decode prog_7_method_17_code 32 = .ok (.aload_n 1, 1) := by decide +kernel
theorem d_T_raiseLeft_33 : decode prog_7_method_17_code 33 = .ok (.areturn, 1) := by decide +kernel
theorem d_T_raiseRight_0 : decode prog_7_method_18_code 0 = .ok (.aload_n 0, 1) := by decide +kernel
theorem d_T_raiseRight_1 : decode prog_7_method_18_code 1 = .ok (.getfield 18, 3) := by decide +kernel
theorem d_T_raiseRight_4 : decode prog_7_method_18_code 4 = .ok (.astore_n 1, 1) := by decide +kernel
theorem d_T_raiseRight_5 : decode prog_7_method_18_code 5 = .ok (.aload_n 1, 1) := by decide +kernel
theorem d_T_raiseRight_6 : decode prog_7_method_18_code 6 = .ok (.ifnonnull 5, 3) := by decide +kernel
theorem d_T_raiseRight_9 : decode prog_7_method_18_code 9 = .ok (.aload_n 0, 1) := by decide +kernel
theorem d_T_raiseRight_10 : decode prog_7_method_18_code 10 = .ok (.areturn, 1) := by decide +kernel
theorem d_T_raiseRight_11 : decode prog_7_method_18_code 11 = .ok (.aload_n 0, 1) := by decide +kernel
theorem d_T_raiseRight_12 : decode prog_7_method_18_code 12 = .ok (.aload_n 1, 1) := by decide +kernel
theorem d_T_raiseRight_13 : decode prog_7_method_18_code 13 = .ok (.getfield 35, 3) := by decide +kernel
theorem d_T_raiseRight_16 : decode prog_7_method_18_code 16 = .ok (.putfield 18, 3) := by decide +kernel
theorem d_T_raiseRight_19 : decode prog_7_method_18_code 19 = .ok (.aload_n 1, 1) := by decide +kernel
theorem d_T_raiseRight_20 : decode prog_7_method_18_code 20 = .ok (.aload_n 0, 1) := by decide +kernel
theorem d_T_raiseRight_21 : decode prog_7_method_18_code 21 = .ok (.putfield 35, 3) := by decide +kernel
theorem d_T_raiseRight_24 : decode prog_7_method_18_code 24 = .ok (.aload_n 0, 1) := by decide +kernel
theorem d_T_raiseRight_25 : decode prog_7_method_18_code 25 = .ok (.invokestatic 108, 3) := by decide +kernel
theorem d_T_raiseRight_28 : decode prog_7_method_18_code 28 = .ok (.aload_n 1, 1) := by decide +kernel
theorem d_T_raiseRight_29 : decode prog_7_method_18_code 29 = .ok (.invokestatic 108, 3) := by decide +kernel
theorem d_T_raiseRight_32 : decode prog_7_method_18_code 32 = .ok (.aload_n 1, 1) := by decide +kernel
theorem d_T_raiseRight_33 : decode prog_7_method_18_code 33 = .ok (.areturn, 1) := by decide +kernel
theorem d_T_balance_0 : decode prog_7_method_16_code 0 = .ok (.aload_n 0, 1) := by decide +kernel
theorem d_T_balance_1 : decode prog_7_method_16_code 1 = .ok (.invokestatic 108, 3) := by decide +kernel
theorem d_T_balance_4 : decode prog_7_method_16_code 4 = .ok (.aload_n 0, 1) := by decide +kernel
theorem d_T_balance_5 : decode prog_7_method_16_code 5 = .ok (.getfield 35, 3) := by decide +kernel
theorem d_T_balance_8 : decode prog_7_method_16_code 8 = .ok (.astore_n 1, 1) := by decide +kernel
theorem d_T_balance_9 : decode prog_7_method_16_code 9 = .ok (.aload_n 0, 1) := by decide +kernel
theorem d_T_balance_10 : decode prog_7_method_16_code 10 = .ok (.getfield 18, 3) := by decide +kernel
theorem d_T_balance_13 : decode prog_7_method_16_code 13 = .ok (.astore_n 2, 1) := by decide +kernel
theorem d_T_balance_14 : decode prog_7_method_16_code 14 = .ok (.aload_n 1, 1) := by decide +kernel
theorem d_T_balance_15 : decode prog_7_method_16_code 15 = .ok (.invokestatic 114, 3) := by decide +kernel
theorem d_T_balance_18 : decode prog_7_method_16_code 18 = .ok (.aload_n 2, 1) := by decide +kernel
theorem d_T_balance_19 : decode prog_7_method_16_code 19 = .ok (.invokestatic 114, 3) := by decide +kernel
theorem d_T_balance_22 : decode prog_7_method_16_code 22 = .ok (.isub, 1) := by decide +kernel
theorem d_T_balance_23 : decode prog_7_method_16_code 23 = .ok (.istore_n 3, 1) := by decide +kernel
theorem d_T_balance_24 : decode prog_7_method_16_code 24 = .ok (.iload_n 3, 1) := by decide +kernel
theorem d_T_balance_25 : decode prog_7_method_16_code 25 = .ok (.iconst 1, 1) := by decide +kernel
theorem d_T_balance_26 : decode prog_7_method_16_code 26 = .ok (.if_icmp .le 37, 3) := by decide +kernel
theorem d_T_balance_29 : decode prog_7_method_16_code 29 = .ok (.aload_n 1, 1) := by decide +kernel
theorem d_T_balance_30 : decode prog_7_method_16_code 30 = .ok (.ifnull 33, 3) := by decide +kernel
theorem d_T_balance_33 : decode prog_7_method_16_code 33 = .ok (.aload_n 1, 1) := by decide +kernel
theorem d_T_balance_34 : decode prog_7_method_16_code 34 = .ok (.getfield 18, 3) := by decide +kernel
theorem d_T_balance_37 : decode prog_7_method_16_code 37 = .ok (.invokestatic 114, 3) := by decide +kernel
theorem d_T_balance_40 : decode prog_7_method_16_code 40 = .ok (.aload_n 1, 1) := by decide +kernel
theorem d_T_balance_41 : decode prog_7_method_16_code 41 = .ok (.getfield 35, 3) := by decide +kernel
theorem d_T_balance_44 : decode prog_7_method_16_code 44 = .ok (.invokestatic 114, 3) := by decide +kernel
theorem d_T_balance_47 : decode prog_7_method_16_code 47 = .ok (.if_icmp .le 11, 3) := by decide +kernel
theorem d_T_balance_50 : decode prog_7_method_16_code 50 = .ok (.aload_n 0, 1) := by decide +kernel
theorem d_T_balance_51 : decode prog_7_method_16_code 51 = .ok (.aload_n 1, 1) := by decide +kernel
theorem d_T_balance_52 : decode prog_7_method_16_code 52 = .ok (.invokestatic 117, 3) := by decide +kernel
theorem d_T_balance_55 : decode prog_7_method_16_code 55 = .ok (.putfield 35, 3) := by decide +kernel
theorem d_T_balance_63 : decode prog_7_method_16_code 63 = .ok (.iload_n 3, 1) := by decide +kernel
theorem d_T_balance_64 : decode prog_7_method_16_code 64 = .ok (.iconst (-1), 1) := by decide +kernel
theorem d_T_balance_65 : decode prog_7_method_16_code 65 = .ok (.if_icmp .ge 37, 3) := by decide +kernel
theorem d_T_balance_68 : decode prog_7_method_16_code 68 = .ok (.aload_n 2, 1) := by decide +kernel
theorem d_T_balance_69 : decode prog_7_method_16_code 69 = .ok (.ifnull 33, 3) := by decide +kernel
theorem d_T_balance_72 : decode prog_7_method_16_code 72 = .ok (.aload_n 2, 1) := by decide +kernel
theorem d_T_balance_73 : decode prog_7_method_16_code 73 = .ok (.getfield 35, 3) := by decide +kernel
theorem d_T_balance_76 : decode prog_7_method_16_code 76 = .ok (.invokestatic 114, 3) := by decide +kernel
theorem d_T_balance_79 : decode prog_7_method_16_code 79 = .ok (.aload_n 2, 1) := by decide +kernel
theorem d_T_balance_80 : decode prog_7_method_16_code 80 = .ok (.getfield 18, 3) := by decide +kernel
theorem d_T_balance_83 : decode prog_7_method_16_code 83 = .ok (.invokestatic 114, 3) := by decide +kernel
theorem d_T_balance_86 : decode prog_7_method_16_code 86 = .ok (.if_icmp .le 11, 3) := by decide +kernel
theorem d_T_balance_89 : decode prog_7_method_16_code 89 = .ok (.aload_n 0, 1) := by decide +kernel
theorem d_T_balance_90 : decode prog_7_method_16_code 90 = .ok (.aload_n 2, 1) := by decide +kernel
theorem d_T_balance_91 : decode prog_7_method_16_code 91 = .ok (.invokestatic 120, 3) := by decide +kernel
theorem d_T_balance_94 : decode prog_7_method_16_code 94 = .ok (.putfield 18, 3) := by decide +kernel
theorem d_T_balance_58 : decode prog_7_method_16_code 58 = .ok (.aload_n 0, 1) := by decide +kernel
theorem d_T_balance_59 : decode prog_7_method_16_code 59 = .ok (.invokestatic 120, 3) := by decide +kernel
theorem d_T_balance_62 : decode prog_7_method_16_code 62 = .ok (.areturn, 1) := by decide +kernel
theorem d_T_balance_102 : decode prog_7_method_16_code 102 = .ok (.aload_n 0, 1) := by decide +kernel
theorem d_T_balance_103 : decode prog_7_method_16_code 103 = .ok (.areturn, 1) := by decide +kernel
theorem d_T_balance_97 : decode prog_7_method_16_code 97 = .ok (.aload_n 0, 1) := by decide +kernel
theorem d_T_balance_98 : decode prog_7_method_16_code 98 = .ok (.invokestatic 117, 3) := by decide +kernel
theorem d_T_balance_101 : decode prog_7_method_16_code 101 = .ok (.areturn, 1) := by decide +kernel
theorem d_T_join_0 : decode prog_7_method_15_code 0 = .ok (.aload_n 0, 1) := by decide +kernel
theorem d_T_join_1 : decode prog_7_method_15_code 1 = .ok (.invokestatic 114, 3) := by decide +kernel
theorem d_T_join_4 : decode prog_7_method_15_code 4 = .ok (.aload_n 2, 1) := by decide +kernel
theorem d_T_join_5 : decode prog_7_method_15_code 5 = .ok (.invokestatic 114, 3) := by decide +kernel
