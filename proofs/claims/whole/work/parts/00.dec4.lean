theorem d_M_tag_39 : decode prog_9_method_19_code 39 = .ok (.iload_n 1, 1) := by decide +kernel
theorem d_M_tag_40 : decode prog_9_method_19_code 40 = .ok (.iaload, 1) := by decide +kernel
theorem d_M_tag_41 : decode prog_9_method_19_code 41 = .ok (.iload_n 2, 1) := by decide +kernel
theorem d_M_tag_42 : decode prog_9_method_19_code 42 = .ok (.iadd, 1) := by decide +kernel
theorem d_M_tag_43 : decode prog_9_method_19_code 43 = .ok (.istore 6, 2) := by decide +kernel
theorem d_M_tag_45 : decode prog_9_method_19_code 45 = .ok (.iconst 0, 1) := by decide +kernel
theorem d_M_tag_46 : decode prog_9_method_19_code 46 = .ok (.istore 7, 2) := by decide +kernel
theorem d_M_tag_26 : decode prog_9_method_19_code 26 = .ok (.iconst 0, 1) := by decide +kernel
theorem d_M_tag_27 : decode prog_9_method_19_code 27 = .ok (.ireturn, 1) := by decide +kernel
theorem d_M_tag_48 : decode prog_9_method_19_code 48 = .ok (.iload 7, 2) := by decide +kernel
theorem d_M_tag_50 : decode prog_9_method_19_code 50 = .ok (.iload_n 3, 1) := by decide +kernel
theorem d_M_tag_51 : decode prog_9_method_19_code 51 = .ok (.if_icmp .ge 40, 3) := by decide +kernel
theorem d_M_tag_91 : decode prog_9_method_19_code 91 = .ok (.aload_n 0, 1) := by decide +kernel
theorem d_M_tag_92 : decode prog_9_method_19_code 92 = .ok (.invokevirtual 62, 3) := by decide +kernel
theorem d_M_tag_95 : decode prog_9_method_19_code 95 = .ok (.sipush 1024, 3) := by decide +kernel
theorem d_M_tag_98 : decode prog_9_method_19_code 98 = .ok (.if_icmp .gt 9, 3) := by decide +kernel
theorem d_M_tag_107 : decode prog_9_method_19_code 107 = .ok (.iconst 0, 1) := by decide +kernel
theorem d_M_tag_108 : decode prog_9_method_19_code 108 = .ok (.istore 7, 2) := by decide +kernel
theorem d_M_tag_101 : decode prog_9_method_19_code 101 = .ok (.aload_n 0, 1) := by decide +kernel
theorem d_M_tag_102 : decode prog_9_method_19_code 102 = .ok (.iload_n 1, 1) := by decide +kernel
theorem d_M_tag_103 : decode prog_9_method_19_code 103 = .ok (.invokevirtual 55, 3) := by decide +kernel
theorem d_M_tag_106 : decode prog_9_method_19_code 106 = .ok (.ireturn, 1) := by decide +kernel
theorem d_M_tag_54 : decode prog_9_method_19_code 54 = .ok (.aload_n 0, 1) := by decide +kernel
theorem d_M_tag_55 : decode prog_9_method_19_code 55 = .ok (.getfield 19, 3) := by decide +kernel
theorem d_M_tag_58 : decode prog_9_method_19_code 58 = .ok (.iload 6, 2) := by decide +kernel
theorem d_M_tag_60 : decode prog_9_method_19_code 60 = .ok (.iload 7, 2) := by decide +kernel
theorem d_M_tag_62 : decode prog_9_method_19_code 62 = .ok (.iadd, 1) := by decide +kernel
theorem d_M_tag_63 : decode prog_9_method_19_code 63 = .ok (.aload_n 0, 1) := by decide +kernel
theorem d_M_tag_64 : decode prog_9_method_19_code 64 = .ok (.getfield 19, 3) := by decide +kernel
theorem d_M_tag_67 : decode prog_9_method_19_code 67 = .ok (.iload 6, 2) := by decide +kernel
theorem d_M_tag_69 : decode prog_9_method_19_code 69 = .ok (.iload 7, 2) := by decide +kernel
theorem d_M_tag_71 : decode prog_9_method_19_code 71 = .ok (.iadd, 1) := by decide +kernel
theorem d_M_tag_72 : decode prog_9_method_19_code 72 = .ok (.iaload, 1) := by decide +kernel
theorem d_M_tag_73 : decode prog_9_method_19_code 73 = .ok (.iload 4, 2) := by decide +kernel
theorem d_M_tag_75 : decode prog_9_method_19_code 75 = .ok (.iconst (-1), 1) := by decide +kernel
theorem d_M_tag_76 : decode prog_9_method_19_code 76 = .ok (.ixor, 1) := by decide +kernel
theorem d_M_tag_77 : decode prog_9_method_19_code 77 = .ok (.iand, 1) := by decide +kernel
theorem d_M_tag_78 : decode prog_9_method_19_code 78 = .ok (.iload 5, 2) := by decide +kernel
theorem d_M_tag_80 : decode prog_9_method_19_code 80 = .ok (.iload 4, 2) := by decide +kernel
theorem d_M_tag_82 : decode prog_9_method_19_code 82 = .ok (.iand, 1) := by decide +kernel
theorem d_M_tag_83 : decode prog_9_method_19_code 83 = .ok (.ior, 1) := by decide +kernel
theorem d_M_tag_84 : decode prog_9_method_19_code 84 = .ok (.iastore, 1) := by decide +kernel
theorem d_M_tag_85 : decode prog_9_method_19_code 85 = .ok (.iinc 7 1, 3) := by decide +kernel
theorem d_M_tag_88 : decode prog_9_method_19_code 88 = .ok (.goto (-40), 3) := by decide +kernel
theorem d_M_tag_110 : decode prog_9_method_19_code 110 = .ok (.iload 7, 2) := by decide +kernel
theorem d_M_tag_112 : decode prog_9_method_19_code 112 = .ok (.iload_n 3, 1) := by decide +kernel
theorem d_M_tag_113 : decode prog_9_method_19_code 113 = .ok (.if_icmp .ge 26, 3) := by decide +kernel
theorem d_M_tag_139 : decode prog_9_method_19_code 139 = .ok (.aload_n 0, 1) := by decide +kernel
theorem d_M_tag_140 : decode prog_9_method_19_code 140 = .ok (.iconst 2, 1) := by decide +kernel
theorem d_M_tag_141 : decode prog_9_method_19_code 141 = .ok (.invokevirtual 49, 3) := by decide +kernel
theorem d_M_tag_144 : decode prog_9_method_19_code 144 = .ok (.ireturn, 1) := by decide +kernel
theorem d_M_tag_116 : decode prog_9_method_19_code 116 = .ok (.aload_n 0, 1) := by decide +kernel
theorem d_M_tag_117 : decode prog_9_method_19_code 117 = .ok (.getfield 19, 3) := by decide +kernel
theorem d_M_tag_120 : decode prog_9_method_19_code 120 = .ok (.iload 6, 2) := by decide +kernel
theorem d_M_tag_122 : decode prog_9_method_19_code 122 = .ok (.iload 7, 2) := by decide +kernel
theorem d_M_tag_124 : decode prog_9_method_19_code 124 = .ok (.iadd, 1) := by decide +kernel
theorem d_M_tag_125 : decode prog_9_method_19_code 125 = .ok (.aload_n 0, 1) := by decide +kernel
theorem d_M_tag_126 : decode prog_9_method_19_code 126 = .ok (.getfield 25, 3) := by decide +kernel
theorem d_M_tag_129 : decode prog_9_method_19_code 129 = .ok (.iload 7, 2) := by decide +kernel
theorem d_M_tag_131 : decode prog_9_method_19_code 131 = .ok (.iaload, 1) := by decide +kernel
theorem d_M_tag_132 : decode prog_9_method_19_code 132 = .ok (.iastore, 1) := by decide +kernel
theorem d_M_tag_133 : decode prog_9_method_19_code 133 = .ok (.iinc 7 1, 3) := by decide +kernel
theorem d_M_tag_136 : decode prog_9_method_19_code 136 = .ok (.goto (-26), 3) := by decide +kernel
theorem d_M_wipe_0 : decode prog_9_method_20_code 0 = .ok (.aload_n 0, 1) := by decide +kernel
theorem d_M_wipe_1 : decode prog_9_method_20_code 1 = .ok (.iload_n 1, 1) := by decide +kernel
theorem d_M_wipe_2 : decode prog_9_method_20_code 2 = .ok (.invokestatic 32, 3) := by decide +kernel
theorem d_M_wipe_5 : decode prog_9_method_20_code 5 = .ok (.ifCond .eq 7, 3) := by decide +kernel
theorem d_M_wipe_12 : decode prog_9_method_20_code 12 = .ok (.iconst 1, 1) := by decide +kernel
theorem d_M_wipe_8 : decode prog_9_method_20_code 8 = .ok (.iconst 0, 1) := by decide +kernel
theorem d_M_wipe_9 : decode prog_9_method_20_code 9 = .ok (.goto 4, 3) := by decide +kernel
theorem d_M_wipe_13 : decode prog_9_method_20_code 13 = .ok (.putfield 28, 3) := by decide +kernel
theorem d_M_wipe_16 : decode prog_9_method_20_code 16 = .ok (.aload_n 0, 1) := by decide +kernel
theorem d_M_wipe_17 : decode prog_9_method_20_code 17 = .ok (.getfield 28, 3) := by decide +kernel
theorem d_M_wipe_20 : decode prog_9_method_20_code 20 = .ok (.ifCond .le 5, 3) := by decide +kernel
theorem d_M_wipe_25 : decode prog_9_method_20_code 25 = .ok (.aload_n 0, 1) := by decide +kernel
theorem d_M_wipe_26 : decode prog_9_method_20_code 26 = .ok (.iload_n 1, 1) := by decide +kernel
theorem d_M_wipe_27 : decode prog_9_method_20_code 27 = .ok (.invokevirtual 36, 3) := by decide +kernel
theorem d_M_wipe_30 : decode prog_9_method_20_code 30 = .ok (.istore_n 2, 1) := by decide +kernel
theorem d_M_wipe_31 : decode prog_9_method_20_code 31 = .ok (.aload_n 0, 1) := by decide +kernel
theorem d_M_wipe_32 : decode prog_9_method_20_code 32 = .ok (.iload_n 1, 1) := by decide +kernel
theorem d_M_wipe_33 : decode prog_9_method_20_code 33 = .ok (.iconst 0, 1) := by decide +kernel
theorem d_M_wipe_34 : decode prog_9_method_20_code 34 = .ok (.iload_n 2, 1) := by decide +kernel
theorem d_M_wipe_35 : decode prog_9_method_20_code 35 = .ok (.invokevirtual 66, 3) := by decide +kernel
theorem d_M_wipe_38 : decode prog_9_method_20_code 38 = .ok (.iload_n 2, 1) := by decide +kernel
theorem d_M_wipe_39 : decode prog_9_method_20_code 39 = .ok (.ireturn, 1) := by decide +kernel
theorem d_M_wipe_23 : decode prog_9_method_20_code 23 = .ok (.iconst 0, 1) := by decide +kernel
theorem d_M_wipe_24 : decode prog_9_method_20_code 24 = .ok (.ireturn, 1) := by decide +kernel
theorem d_M_length_0 : decode prog_9_method_21_code 0 = .ok (.aload_n 0, 1) := by decide +kernel
theorem d_M_length_1 : decode prog_9_method_21_code 1 = .ok (.iconst 0, 1) := by decide +kernel
theorem d_M_length_2 : decode prog_9_method_21_code 2 = .ok (.putfield 28, 3) := by decide +kernel
theorem d_M_length_5 : decode prog_9_method_21_code 5 = .ok (.iload_n 1, 1) := by decide +kernel
theorem d_M_length_6 : decode prog_9_method_21_code 6 = .ok (.invokestatic 32, 3) := by decide +kernel
theorem d_M_length_9 : decode prog_9_method_21_code 9 = .ok (.ifCond .eq 11, 3) := by decide +kernel
theorem d_M_length_20 : decode prog_9_method_21_code 20 = .ok (.iconst (-1), 1) := by decide +kernel
theorem d_M_length_12 : decode prog_9_method_21_code 12 = .ok (.aload_n 0, 1) := by decide +kernel
theorem d_M_length_13 : decode prog_9_method_21_code 13 = .ok (.iload_n 1, 1) := by decide +kernel
theorem d_M_length_14 : decode prog_9_method_21_code 14 = .ok (.invokevirtual 36, 3) := by decide +kernel
theorem d_M_length_17 : decode prog_9_method_21_code 17 = .ok (.goto 4, 3) := by decide +kernel
theorem d_M_length_21 : decode prog_9_method_21_code 21 = .ok (.ireturn, 1) := by decide +kernel
theorem d_M_look_0 : decode prog_9_method_22_code 0 = .ok (.aload_n 0, 1) := by decide +kernel
theorem d_M_look_1 : decode prog_9_method_22_code 1 = .ok (.aload_n 0, 1) := by decide +kernel
theorem d_M_look_2 : decode prog_9_method_22_code 2 = .ok (.iload_n 1, 1) := by decide +kernel
theorem d_M_look_3 : decode prog_9_method_22_code 3 = .ok (.iload_n 2, 1) := by decide +kernel
theorem d_M_look_4 : decode prog_9_method_22_code 4 = .ok (.invokevirtual 40, 3) := by decide +kernel
theorem d_M_look_7 : decode prog_9_method_22_code 7 = .ok (.ifCond .eq 12, 3) := by decide +kernel
theorem d_M_look_10 : decode prog_9_method_22_code 10 = .ok (.iload_n 2, 1) := by decide +kernel
theorem d_M_look_11 : decode prog_9_method_22_code 11 = .ok (.aload_n 0, 1) := by decide +kernel
theorem d_M_look_12 : decode prog_9_method_22_code 12 = .ok (.iload_n 1, 1) := by decide +kernel
theorem d_M_look_13 : decode prog_9_method_22_code 13 = .ok (.invokevirtual 36, 3) := by decide +kernel
theorem d_M_look_16 : decode prog_9_method_22_code 16 = .ok (.if_icmp .ne 7, 3) := by decide +kernel
theorem d_M_look_23 : decode prog_9_method_22_code 23 = .ok (.iload_n 3, 1) := by decide +kernel
theorem d_M_look_24 : decode prog_9_method_22_code 24 = .ok (.ifCond .lt 8, 3) := by decide +kernel
theorem d_M_look_27 : decode prog_9_method_22_code 27 = .ok (.iload_n 3, 1) := by decide +kernel
theorem d_M_look_28 : decode prog_9_method_22_code 28 = .ok (.iconst 3, 1) := by decide +kernel
theorem d_M_look_29 : decode prog_9_method_22_code 29 = .ok (.if_icmp .le 7, 3) := by decide +kernel
theorem d_M_look_36 : decode prog_9_method_22_code 36 = .ok (.iconst 0, 1) := by decide +kernel
theorem d_M_look_19 : decode prog_9_method_22_code 19 = .ok (.iconst 1, 1) := by decide +kernel
theorem d_M_look_20 : decode prog_9_method_22_code 20 = .ok (.goto 17, 3) := by decide +kernel
theorem d_M_look_32 : decode prog_9_method_22_code 32 = .ok (.iconst 2, 1) := by decide +kernel
theorem d_M_look_33 : decode prog_9_method_22_code 33 = .ok (.goto 4, 3) := by decide +kernel
theorem d_M_look_37 : decode prog_9_method_22_code 37 = .ok (.putfield 28, 3) := by decide +kernel
theorem d_M_look_40 : decode prog_9_method_22_code 40 = .ok (.aload_n 0, 1) := by decide +kernel
theorem d_M_look_41 : decode prog_9_method_22_code 41 = .ok (.getfield 28, 3) := by decide +kernel
theorem d_M_look_44 : decode prog_9_method_22_code 44 = .ok (.ifCond .le 5, 3) := by decide +kernel
theorem d_M_look_49 : decode prog_9_method_22_code 49 = .ok (.aload_n 0, 1) := by decide +kernel
theorem d_M_look_50 : decode prog_9_method_22_code 50 = .ok (.getfield 13, 3) := by decide +kernel
theorem d_M_look_53 : decode prog_9_method_22_code 53 = .ok (.iload_n 1, 1) := by decide +kernel
theorem d_M_look_54 : decode prog_9_method_22_code 54 = .ok (.iaload, 1) := by decide +kernel
theorem d_M_look_55 : decode prog_9_method_22_code 55 = .ok (.iload_n 2, 1) := by decide +kernel
theorem d_M_look_56 : decode prog_9_method_22_code 56 = .ok (.iadd, 1) := by decide +kernel
theorem d_M_look_57 : decode prog_9_method_22_code 57 = .ok (.istore 4, 2) := by decide +kernel
theorem d_M_look_59 : decode prog_9_method_22_code 59 = .ok (.iconst (-1), 1) := by decide +kernel
theorem d_M_look_60 : decode prog_9_method_22_code 60 = .ok (.istore 5, 2) := by decide +kernel
theorem d_M_look_62 : decode prog_9_method_22_code 62 = .ok (.aload_n 0, 1) := by decide +kernel
theorem d_M_look_63 : decode prog_9_method_22_code 63 = .ok (.getfield 13, 3) := by decide +kernel
theorem d_M_look_66 : decode prog_9_method_22_code 66 = .ok (.iload_n 1, 1) := by decide +kernel
theorem d_M_look_67 : decode prog_9_method_22_code 67 = .ok (.iaload, 1) := by decide +kernel
theorem d_M_look_68 : decode prog_9_method_22_code 68 = .ok (.istore 6, 2) := by decide +kernel
theorem d_M_look_47 : decode prog_9_method_22_code 47 = .ok (.iconst 0, 1) := by decide +kernel
theorem d_M_look_48 : decode prog_9_method_22_code 48 = .ok (.ireturn, 1) := by decide +kernel
theorem d_M_look_70 : decode prog_9_method_22_code 70 = .ok (.iload 6, 2) := by decide +kernel
theorem d_M_look_72 : decode prog_9_method_22_code 72 = .ok (.iload 4, 2) := by decide +kernel
theorem d_M_look_74 : decode prog_9_method_22_code 74 = .ok (.if_icmp .gt 29, 3) := by decide +kernel
theorem d_M_look_103 : decode prog_9_method_22_code 103 = .ok (.iload_n 3, 1) := by decide +kernel
theorem d_M_look_104 : decode prog_9_method_22_code 104 = .ok (.ifCond .ne 18, 3) := by decide +kernel
theorem d_M_look_122 : decode prog_9_method_22_code 122 = .ok (.iload_n 3, 1) := by decide +kernel
theorem d_M_look_123 : decode prog_9_method_22_code 123 = .ok (.iconst 1, 1) := by decide +kernel
theorem d_M_look_124 : decode prog_9_method_22_code 124 = .ok (.if_icmp .ne 13, 3) := by decide +kernel
theorem d_M_look_137 : decode prog_9_method_22_code 137 = .ok (.iload_n 3, 1) := by decide +kernel
theorem d_M_look_138 : decode prog_9_method_22_code 138 = .ok (.iconst 2, 1) := by decide +kernel
theorem d_M_look_139 : decode prog_9_method_22_code 139 = .ok (.if_icmp .ne 13, 3) := by decide +kernel
theorem d_M_look_152 : decode prog_9_method_22_code 152 = .ok (.iload 5, 2) := by decide +kernel
theorem d_M_look_142 : decode prog_9_method_22_code 142 = .ok (.aload_n 0, 1) := by decide +kernel
theorem d_M_look_143 : decode prog_9_method_22_code 143 = .ok (.getfield 19, 3) := by decide +kernel
theorem d_M_look_146 : decode prog_9_method_22_code 146 = .ok (.iload 4, 2) := by decide +kernel
theorem d_M_look_148 : decode prog_9_method_22_code 148 = .ok (.iaload, 1) := by decide +kernel
theorem d_M_look_149 : decode prog_9_method_22_code 149 = .ok (.goto 5, 3) := by decide +kernel
theorem d_M_look_127 : decode prog_9_method_22_code 127 = .ok (.aload_n 0, 1) := by decide +kernel
theorem d_M_look_128 : decode prog_9_method_22_code 128 = .ok (.getfield 16, 3) := by decide +kernel
theorem d_M_look_131 : decode prog_9_method_22_code 131 = .ok (.iload 4, 2) := by decide +kernel
theorem d_M_look_133 : decode prog_9_method_22_code 133 = .ok (.iaload, 1) := by decide +kernel
theorem d_M_look_134 : decode prog_9_method_22_code 134 = .ok (.goto 20, 3) := by decide +kernel
theorem d_M_look_107 : decode prog_9_method_22_code 107 = .ok (.aload_n 0, 1) := by decide +kernel
theorem d_M_look_108 : decode prog_9_method_22_code 108 = .ok (.getfield 7, 3) := by decide +kernel
theorem d_M_look_111 : decode prog_9_method_22_code 111 = .ok (.aload_n 0, 1) := by decide +kernel
theorem d_M_look_112 : decode prog_9_method_22_code 112 = .ok (.getfield 16, 3) := by decide +kernel
theorem d_M_look_115 : decode prog_9_method_22_code 115 = .ok (.iload 4, 2) := by decide +kernel
theorem d_M_look_117 : decode prog_9_method_22_code 117 = .ok (.iaload, 1) := by decide +kernel
theorem d_M_look_118 : decode prog_9_method_22_code 118 = .ok (.iaload, 1) := by decide +kernel
theorem d_M_look_119 : decode prog_9_method_22_code 119 = .ok (.goto 35, 3) := by decide +kernel
theorem d_M_look_77 : decode prog_9_method_22_code 77 = .ok (.iload 5, 2) := by decide +kernel
theorem d_M_look_79 : decode prog_9_method_22_code 79 = .ok (.aload_n 0, 1) := by decide +kernel
theorem d_M_look_80 : decode prog_9_method_22_code 80 = .ok (.iload_n 1, 1) := by decide +kernel
theorem d_M_look_81 : decode prog_9_method_22_code 81 = .ok (.iload 6, 2) := by decide +kernel
theorem d_M_look_83 : decode prog_9_method_22_code 83 = .ok (.invokevirtual 52, 3) := by decide +kernel
theorem d_M_look_86 : decode prog_9_method_22_code 86 = .ok (.ifCond .eq 7, 3) := by decide +kernel
theorem d_M_look_93 : decode prog_9_method_22_code 93 = .ok (.iconst 0, 1) := by decide +kernel
theorem d_M_look_89 : decode prog_9_method_22_code 89 = .ok (.iconst 1, 1) := by decide +kernel
theorem d_M_look_90 : decode prog_9_method_22_code 90 = .ok (.goto 4, 3) := by decide +kernel
theorem d_M_look_154 : decode prog_9_method_22_code 154 = .ok (.ireturn, 1) := by decide +kernel
theorem d_M_look_94 : decode prog_9_method_22_code 94 = .ok (.iadd, 1) := by decide +kernel
theorem d_M_look_95 : decode prog_9_method_22_code 95 = .ok (.istore 5, 2) := by decide +kernel
theorem d_M_look_97 : decode prog_9_method_22_code 97 = .ok (.iinc 6 1, 3) := by decide +kernel
theorem d_M_look_100 : decode prog_9_method_22_code 100 = .ok (.goto (-30), 3) := by decide +kernel
theorem d_M_piece_0 : decode prog_9_method_23_code 0 = .ok (.aload_n 0, 1) := by decide +kernel
theorem d_M_piece_1 : decode prog_9_method_23_code 1 = .ok (.iload_n 1, 1) := by decide +kernel
theorem d_M_piece_2 : decode prog_9_method_23_code 2 = .ok (.invokestatic 32, 3) := by decide +kernel
theorem d_M_piece_5 : decode prog_9_method_23_code 5 = .ok (.ifCond .eq 16, 3) := by decide +kernel
theorem d_M_piece_8 : decode prog_9_method_23_code 8 = .ok (.iload_n 2, 1) := by decide +kernel
theorem d_M_piece_9 : decode prog_9_method_23_code 9 = .ok (.ifCond .lt 12, 3) := by decide +kernel
theorem d_M_piece_12 : decode prog_9_method_23_code 12 = .ok (.iload_n 2, 1) := by decide +kernel
theorem d_M_piece_13 : decode prog_9_method_23_code 13 = .ok (.aload_n 0, 1) := by decide +kernel
theorem d_M_piece_14 : decode prog_9_method_23_code 14 = .ok (.iload_n 1, 1) := by decide +kernel
theorem d_M_piece_15 : decode prog_9_method_23_code 15 = .ok (.invokevirtual 55, 3) := by decide +kernel
theorem d_M_piece_18 : decode prog_9_method_23_code 18 = .ok (.if_icmp .lt 7, 3) := by decide +kernel
theorem d_M_piece_25 : decode prog_9_method_23_code 25 = .ok (.iload_n 3, 1) := by decide +kernel
theorem d_M_piece_26 : decode prog_9_method_23_code 26 = .ok (.ifCond .lt 8, 3) := by decide +kernel
theorem d_M_piece_29 : decode prog_9_method_23_code 29 = .ok (.iload_n 3, 1) := by decide +kernel
theorem d_M_piece_30 : decode prog_9_method_23_code 30 = .ok (.iconst 3, 1) := by decide +kernel
theorem d_M_piece_31 : decode prog_9_method_23_code 31 = .ok (.if_icmp .le 7, 3) := by decide +kernel
theorem d_M_piece_38 : decode prog_9_method_23_code 38 = .ok (.iconst 0, 1) := by decide +kernel
theorem d_M_piece_21 : decode prog_9_method_23_code 21 = .ok (.iconst 1, 1) := by decide +kernel
theorem d_M_piece_22 : decode prog_9_method_23_code 22 = .ok (.goto 17, 3) := by decide +kernel
theorem d_M_piece_34 : decode prog_9_method_23_code 34 = .ok (.iconst 2, 1) := by decide +kernel
theorem d_M_piece_35 : decode prog_9_method_23_code 35 = .ok (.goto 4, 3) := by decide +kernel
theorem d_M_piece_39 : decode prog_9_method_23_code 39 = .ok (.putfield 28, 3) := by decide +kernel
theorem d_M_piece_42 : decode prog_9_method_23_code 42 = .ok (.aload_n 0, 1) := by decide +kernel
theorem d_M_piece_43 : decode prog_9_method_23_code 43 = .ok (.getfield 28, 3) := by decide +kernel
theorem d_M_piece_46 : decode prog_9_method_23_code 46 = .ok (.ifCond .le 5, 3) := by decide +kernel
theorem d_M_piece_51 : decode prog_9_method_23_code 51 = .ok (.iload_n 2, 1) := by decide +kernel
theorem d_M_piece_52 : decode prog_9_method_23_code 52 = .ok (.istore 4, 2) := by decide +kernel
theorem d_M_piece_54 : decode prog_9_method_23_code 54 = .ok (.aload_n 0, 1) := by decide +kernel
theorem d_M_piece_55 : decode prog_9_method_23_code 55 = .ok (.getfield 13, 3) := by decide +kernel
theorem d_M_piece_58 : decode prog_9_method_23_code 58 = .ok (.iload_n 1, 1) := by decide +kernel
theorem d_M_piece_59 : decode prog_9_method_23_code 59 = .ok (.iaload, 1) := by decide +kernel
theorem d_M_piece_60 : decode prog_9_method_23_code 60 = .ok (.istore 5, 2) := by decide +kernel
theorem d_M_piece_49 : decode prog_9_method_23_code 49 = .ok (.iconst 0, 1) := by decide +kernel
theorem d_M_piece_50 : decode prog_9_method_23_code 50 = .ok (.ireturn, 1) := by decide +kernel
theorem d_M_piece_62 : decode prog_9_method_23_code 62 = .ok (.iload 4, 2) := by decide +kernel
theorem d_M_piece_64 : decode prog_9_method_23_code 64 = .ok (.ifCond .le 29, 3) := by decide +kernel
theorem d_M_piece_93 : decode prog_9_method_23_code 93 = .ok (.iconst 1, 1) := by decide +kernel
theorem d_M_piece_94 : decode prog_9_method_23_code 94 = .ok (.istore 6, 2) := by decide +kernel
theorem d_M_piece_67 : decode prog_9_method_23_code 67 = .ok (.iinc 5 1, 3) := by decide +kernel
theorem d_M_piece_70 : decode prog_9_method_23_code 70 = .ok (.iload 4, 2) := by decide +kernel
theorem d_M_piece_72 : decode prog_9_method_23_code 72 = .ok (.aload_n 0, 1) := by decide +kernel
theorem d_M_piece_73 : decode prog_9_method_23_code 73 = .ok (.iload_n 1, 1) := by decide +kernel
theorem d_M_piece_74 : decode prog_9_method_23_code 74 = .ok (.iload 5, 2) := by decide +kernel
theorem d_M_piece_76 : decode prog_9_method_23_code 76 = .ok (.invokevirtual 52, 3) := by decide +kernel
theorem d_M_piece_79 : decode prog_9_method_23_code 79 = .ok (.ifCond .eq 7, 3) := by decide +kernel
theorem d_M_piece_86 : decode prog_9_method_23_code 86 = .ok (.iconst 0, 1) := by decide +kernel
theorem d_M_piece_82 : decode prog_9_method_23_code 82 = .ok (.iconst 1, 1) := by decide +kernel
theorem d_M_piece_83 : decode prog_9_method_23_code 83 = .ok (.goto 4, 3) := by decide +kernel
theorem d_M_piece_96 : decode prog_9_method_23_code 96 = .ok (.iload 5, 2) := by decide +kernel
theorem d_M_piece_98 : decode prog_9_method_23_code 98 = .ok (.iload 6, 2) := by decide +kernel
theorem d_M_piece_100 : decode prog_9_method_23_code 100 = .ok (.iadd, 1) := by decide +kernel
theorem d_M_piece_101 : decode prog_9_method_23_code 101 = .ok (.aload_n 0, 1) := by decide +kernel
theorem d_M_piece_102 : decode prog_9_method_23_code 102 = .ok (.getfield 13, 3) := by decide +kernel
theorem d_M_piece_105 : decode prog_9_method_23_code 105 = .ok (.iload_n 1, 1) := by decide +kernel
theorem d_M_piece_106 : decode prog_9_method_23_code 106 = .ok (.iconst 1, 1) := by decide +kernel
theorem d_M_piece_107 : decode prog_9_method_23_code 107 = .ok (.iadd, 1) := by decide +kernel
theorem d_M_piece_108 : decode prog_9_method_23_code 108 = .ok (.iaload, 1) := by decide +kernel
theorem d_M_piece_109 : decode prog_9_method_23_code 109 = .ok (.if_icmp .ge 22, 3) := by decide +kernel
theorem d_M_piece_112 : decode prog_9_method_23_code 112 = .ok (.aload_n 0, 1) := by decide +kernel
theorem d_M_piece_113 : decode prog_9_method_23_code 113 = .ok (.iload_n 1, 1) := by decide +kernel
theorem d_M_piece_114 : decode prog_9_method_23_code 114 = .ok (.iload 5, 2) := by decide +kernel
theorem d_M_piece_116 : decode prog_9_method_23_code 116 = .ok (.iload 6, 2) := by decide +kernel
theorem d_M_piece_118 : decode prog_9_method_23_code 118 = .ok (.iadd, 1) := by decide +kernel
theorem d_M_piece_119 : decode prog_9_method_23_code 119 = .ok (.invokevirtual 52, 3) := by decide +kernel
theorem d_M_piece_122 : decode prog_9_method_23_code 122 = .ok (.ifCond .ne 9, 3) := by decide +kernel
theorem d_M_piece_125 : decode prog_9_method_23_code 125 = .ok (.iinc 6 1, 3) := by decide +kernel
theorem d_M_piece_128 : decode prog_9_method_23_code 128 = .ok (.goto (-32), 3) := by decide +kernel
theorem d_M_piece_87 : decode prog_9_method_23_code 87 = .ok (.isub, 1) := by decide +kernel
theorem d_M_piece_88 : decode prog_9_method_23_code 88 = .ok (.istore 4, 2) := by decide +kernel
theorem d_M_piece_90 : decode prog_9_method_23_code 90 = .ok (.goto (-28), 3) := by decide +kernel
theorem d_M_piece_131 : decode prog_9_method_23_code 131 = .ok (.iload_n 3, 1) := by decide +kernel
theorem d_M_piece_132 : decode prog_9_method_23_code 132 = .ok (.ifCond .ne 15, 3) := by decide +kernel
theorem d_M_piece_147 : decode prog_9_method_23_code 147 = .ok (.iload_n 3, 1) := by decide +kernel
theorem d_M_piece_148 : decode prog_9_method_23_code 148 = .ok (.iconst 1, 1) := by decide +kernel
theorem d_M_piece_149 : decode prog_9_method_23_code 149 = .ok (.if_icmp .ne 13, 3) := by decide +kernel
theorem d_M_piece_162 : decode prog_9_method_23_code 162 = .ok (.iload_n 3, 1) := by decide +kernel
theorem d_M_piece_163 : decode prog_9_method_23_code 163 = .ok (.iconst 2, 1) := by decide +kernel
theorem d_M_piece_164 : decode prog_9_method_23_code 164 = .ok (.if_icmp .ne 8, 3) := by decide +kernel
theorem d_M_piece_172 : decode prog_9_method_23_code 172 = .ok (.aload_n 0, 1) := by decide +kernel
theorem d_M_piece_173 : decode prog_9_method_23_code 173 = .ok (.getfield 19, 3) := by decide +kernel
theorem d_M_piece_176 : decode prog_9_method_23_code 176 = .ok (.iload 5, 2) := by decide +kernel
theorem d_M_piece_178 : decode prog_9_method_23_code 178 = .ok (.iaload, 1) := by decide +kernel
theorem d_M_piece_167 : decode prog_9_method_23_code 167 = .ok (.iload 6, 2) := by decide +kernel
theorem d_M_piece_169 : decode prog_9_method_23_code 169 = .ok (.goto 10, 3) := by decide +kernel
theorem d_M_piece_152 : decode prog_9_method_23_code 152 = .ok (.aload_n 0, 1) := by decide +kernel
theorem d_M_piece_153 : decode prog_9_method_23_code 153 = .ok (.getfield 16, 3) := by decide +kernel
theorem d_M_piece_156 : decode prog_9_method_23_code 156 = .ok (.iload 5, 2) := by decide +kernel
theorem d_M_piece_158 : decode prog_9_method_23_code 158 = .ok (.iaload, 1) := by decide +kernel
theorem d_M_piece_159 : decode prog_9_method_23_code 159 = .ok (.goto 20, 3) := by decide +kernel
theorem d_M_piece_135 : decode prog_9_method_23_code 135 = .ok (.iload 5, 2) := by decide +kernel
theorem d_M_piece_137 : decode prog_9_method_23_code 137 = .ok (.aload_n 0, 1) := by decide +kernel
theorem d_M_piece_138 : decode prog_9_method_23_code 138 = .ok (.getfield 13, 3) := by decide +kernel
theorem d_M_piece_141 : decode prog_9_method_23_code 141 = .ok (.iload_n 1, 1) := by decide +kernel
theorem d_M_piece_142 : decode prog_9_method_23_code 142 = .ok (.iaload, 1) := by decide +kernel
theorem d_M_piece_143 : decode prog_9_method_23_code 143 = .ok (.isub, 1) := by decide +kernel
theorem d_M_piece_144 : decode prog_9_method_23_code 144 = .ok (.goto 35, 3) := by decide +kernel
theorem d_M_piece_179 : decode prog_9_method_23_code 179 = .ok (.ireturn, 1) := by decide +kernel
theorem d_M_find_0 : decode prog_9_method_24_code 0 = .ok (.aload_n 0, 1) := by decide +kernel
theorem d_M_find_1 : decode prog_9_method_24_code 1 = .ok (.aload_n 0, 1) := by decide +kernel
theorem d_M_find_2 : decode prog_9_method_24_code 2 = .ok (.iload_n 1, 1) := by decide +kernel
theorem d_M_find_3 : decode prog_9_method_24_code 3 = .ok (.iload_n 2, 1) := by decide +kernel
theorem d_M_find_4 : decode prog_9_method_24_code 4 = .ok (.invokevirtual 40, 3) := by decide +kernel
theorem d_M_find_7 : decode prog_9_method_24_code 7 = .ok (.ifCond .eq 7, 3) := by decide +kernel
theorem d_M_find_14 : decode prog_9_method_24_code 14 = .ok (.iconst 1, 1) := by decide +kernel
theorem d_M_find_10 : decode prog_9_method_24_code 10 = .ok (.iconst 0, 1) := by decide +kernel
theorem d_M_find_11 : decode prog_9_method_24_code 11 = .ok (.goto 4, 3) := by decide +kernel
theorem d_M_find_15 : decode prog_9_method_24_code 15 = .ok (.putfield 28, 3) := by decide +kernel
theorem d_M_find_18 : decode prog_9_method_24_code 18 = .ok (.aload_n 0, 1) := by decide +kernel
theorem d_M_find_19 : decode prog_9_method_24_code 19 = .ok (.getfield 28, 3) := by decide +kernel
theorem d_M_find_22 : decode prog_9_method_24_code 22 = .ok (.ifCond .le 5, 3) := by decide +kernel
theorem d_M_find_27 : decode prog_9_method_24_code 27 = .ok (.aload_n 0, 1) := by decide +kernel
theorem d_M_find_28 : decode prog_9_method_24_code 28 = .ok (.getfield 13, 3) := by decide +kernel
theorem d_M_find_31 : decode prog_9_method_24_code 31 = .ok (.iload_n 1, 1) := by decide +kernel
theorem d_M_find_32 : decode prog_9_method_24_code 32 = .ok (.iaload, 1) := by decide +kernel
theorem d_M_find_33 : decode prog_9_method_24_code 33 = .ok (.iload_n 2, 1) := by decide +kernel
theorem d_M_find_34 : decode prog_9_method_24_code 34 = .ok (.iadd, 1) := by decide +kernel
theorem d_M_find_35 : decode prog_9_method_24_code 35 = .ok (.istore 4, 2) := by decide +kernel
theorem d_M_find_25 : decode prog_9_method_24_code 25 = .ok (.iconst 0, 1) := by decide +kernel
theorem d_M_find_26 : decode prog_9_method_24_code 26 = .ok (.ireturn, 1) := by decide +kernel
theorem d_M_find_37 : decode prog_9_method_24_code 37 = .ok (.iload 4, 2) := by decide +kernel
theorem d_M_find_39 : decode prog_9_method_24_code 39 = .ok (.aload_n 0, 1) := by decide +kernel
theorem d_M_find_40 : decode prog_9_method_24_code 40 = .ok (.getfield 13, 3) := by decide +kernel
theorem d_M_find_43 : decode prog_9_method_24_code 43 = .ok (.iload_n 1, 1) := by decide +kernel
theorem d_M_find_44 : decode prog_9_method_24_code 44 = .ok (.iconst 1, 1) := by decide +kernel
theorem d_M_find_45 : decode prog_9_method_24_code 45 = .ok (.iadd, 1) := by decide +kernel
theorem d_M_find_46 : decode prog_9_method_24_code 46 = .ok (.iaload, 1) := by decide +kernel
theorem d_M_find_47 : decode prog_9_method_24_code 47 = .ok (.if_icmp .ge 35, 3) := by decide +kernel
theorem d_M_find_82 : decode prog_9_method_24_code 82 = .ok (.iconst (-1), 1) := by decide +kernel
theorem d_M_find_83 : decode prog_9_method_24_code 83 = .ok (.ireturn, 1) := by decide +kernel
theorem d_M_find_50 : decode prog_9_method_24_code 50 = .ok (.aload_n 0, 1) := by decide +kernel
theorem d_M_find_51 : decode prog_9_method_24_code 51 = .ok (.getfield 7, 3) := by decide +kernel
theorem d_M_find_54 : decode prog_9_method_24_code 54 = .ok (.aload_n 0, 1) := by decide +kernel
theorem d_M_find_55 : decode prog_9_method_24_code 55 = .ok (.getfield 16, 3) := by decide +kernel
theorem d_M_find_58 : decode prog_9_method_24_code 58 = .ok (.iload 4, 2) := by decide +kernel
theorem d_M_find_60 : decode prog_9_method_24_code 60 = .ok (.iaload, 1) := by decide +kernel
theorem d_M_find_61 : decode prog_9_method_24_code 61 = .ok (.iaload, 1) := by decide +kernel
theorem d_M_find_62 : decode prog_9_method_24_code 62 = .ok (.iload_n 3, 1) := by decide +kernel
theorem d_M_find_63 : decode prog_9_method_24_code 63 = .ok (.if_icmp .ne 13, 3) := by decide +kernel
theorem d_M_find_76 : decode prog_9_method_24_code 76 = .ok (.iinc 4 1, 3) := by decide +kernel
theorem d_M_find_79 : decode prog_9_method_24_code 79 = .ok (.goto (-42), 3) := by decide +kernel
theorem d_M_find_66 : decode prog_9_method_24_code 66 = .ok (.iload 4, 2) := by decide +kernel
theorem d_M_find_68 : decode prog_9_method_24_code 68 = .ok (.aload_n 0, 1) := by decide +kernel
theorem d_M_find_69 : decode prog_9_method_24_code 69 = .ok (.getfield 13, 3) := by decide +kernel
theorem d_M_find_72 : decode prog_9_method_24_code 72 = .ok (.iload_n 1, 1) := by decide +kernel
theorem d_M_find_73 : decode prog_9_method_24_code 73 = .ok (.iaload, 1) := by decide +kernel
theorem d_M_find_74 : decode prog_9_method_24_code 74 = .ok (.isub, 1) := by decide +kernel
theorem d_M_find_75 : decode prog_9_method_24_code 75 = .ok (.ireturn, 1) := by decide +kernel
theorem d_M_differ_0 : decode prog_9_method_25_code 0 = .ok (.aload_n 0, 1) := by decide +kernel
theorem d_M_differ_1 : decode prog_9_method_25_code 1 = .ok (.iload_n 1, 1) := by decide +kernel
theorem d_M_differ_2 : decode prog_9_method_25_code 2 = .ok (.invokestatic 32, 3) := by decide +kernel
theorem d_M_differ_5 : decode prog_9_method_25_code 5 = .ok (.ifCond .eq 14, 3) := by decide +kernel
theorem d_M_differ_8 : decode prog_9_method_25_code 8 = .ok (.iload_n 2, 1) := by decide +kernel
theorem d_M_differ_9 : decode prog_9_method_25_code 9 = .ok (.invokestatic 32, 3) := by decide +kernel
theorem d_M_differ_12 : decode prog_9_method_25_code 12 = .ok (.ifCond .eq 7, 3) := by decide +kernel
theorem d_M_differ_15 : decode prog_9_method_25_code 15 = .ok (.iconst 0, 1) := by decide +kernel
theorem d_M_differ_16 : decode prog_9_method_25_code 16 = .ok (.goto 4, 3) := by decide +kernel
theorem d_M_differ_19 : decode prog_9_method_25_code 19 = .ok (.iconst 1, 1) := by decide +kernel
theorem d_M_differ_20 : decode prog_9_method_25_code 20 = .ok (.putfield 28, 3) := by decide +kernel
theorem d_M_differ_23 : decode prog_9_method_25_code 23 = .ok (.aload_n 0, 1) := by decide +kernel
theorem d_M_differ_24 : decode prog_9_method_25_code 24 = .ok (.getfield 28, 3) := by decide +kernel
theorem d_M_differ_27 : decode prog_9_method_25_code 27 = .ok (.ifCond .le 5, 3) := by decide +kernel
theorem d_M_differ_32 : decode prog_9_method_25_code 32 = .ok (.iconst 0, 1) := by decide +kernel
theorem d_M_differ_33 : decode prog_9_method_25_code 33 = .ok (.istore_n 3, 1) := by decide +kernel
theorem d_M_differ_30 : decode prog_9_method_25_code 30 = .ok (.iconst 0, 1) := by decide +kernel
theorem d_M_differ_31 : decode prog_9_method_25_code 31 = .ok (.ireturn, 1) := by decide +kernel
theorem d_M_differ_34 : decode prog_9_method_25_code 34 = .ok (.iload_n 3, 1) := by decide +kernel
theorem d_M_differ_35 : decode prog_9_method_25_code 35 = .ok (.aload_n 0, 1) := by decide +kernel
theorem d_M_differ_36 : decode prog_9_method_25_code 36 = .ok (.iload_n 1, 1) := by decide +kernel
theorem d_M_differ_37 : decode prog_9_method_25_code 37 = .ok (.invokevirtual 36, 3) := by decide +kernel
theorem d_M_differ_40 : decode prog_9_method_25_code 40 = .ok (.if_icmp .ge 57, 3) := by decide +kernel
theorem d_M_differ_43 : decode prog_9_method_25_code 43 = .ok (.iload_n 3, 1) := by decide +kernel
theorem d_M_differ_44 : decode prog_9_method_25_code 44 = .ok (.aload_n 0, 1) := by decide +kernel
theorem d_M_differ_45 : decode prog_9_method_25_code 45 = .ok (.iload_n 2, 1) := by decide +kernel
theorem d_M_differ_46 : decode prog_9_method_25_code 46 = .ok (.invokevirtual 36, 3) := by decide +kernel
theorem d_M_differ_49 : decode prog_9_method_25_code 49 = .ok (.if_icmp .ge 48, 3) := by decide +kernel
theorem d_M_differ_52 : decode prog_9_method_25_code 52 = .ok (.aload_n 0, 1) := by decide +kernel
theorem d_M_differ_53 : decode prog_9_method_25_code 53 = .ok (.getfield 7, 3) := by decide +kernel
theorem d_M_differ_56 : decode prog_9_method_25_code 56 = .ok (.aload_n 0, 1) := by decide +kernel
theorem d_M_differ_57 : decode prog_9_method_25_code 57 = .ok (.getfield 16, 3) := by decide +kernel
theorem d_M_differ_60 : decode prog_9_method_25_code 60 = .ok (.aload_n 0, 1) := by decide +kernel
theorem d_M_differ_61 : decode prog_9_method_25_code 61 = .ok (.getfield 13, 3) := by decide +kernel
theorem d_M_differ_64 : decode prog_9_method_25_code 64 = .ok (.iload_n 1, 1) := by decide +kernel
theorem d_M_differ_65 : decode prog_9_method_25_code 65 = .ok (.iaload, 1) := by decide +kernel
theorem d_M_differ_66 : decode prog_9_method_25_code 66 = .ok (.iload_n 3, 1) := by decide +kernel
theorem d_M_differ_67 : decode prog_9_method_25_code 67 = .ok (.iadd, 1) := by decide +kernel
theorem d_M_differ_68 : decode prog_9_method_25_code 68 = .ok (.iaload, 1) := by decide +kernel
theorem d_M_differ_69 : decode prog_9_method_25_code 69 = .ok (.iaload, 1) := by decide +kernel
theorem d_M_differ_70 : decode prog_9_method_25_code 70 = .ok (.aload_n 0, 1) := by decide +kernel
theorem d_M_differ_71 : decode prog_9_method_25_code 71 = .ok (.getfield 7, 3) := by decide +kernel
theorem d_M_differ_74 : decode prog_9_method_25_code 74 = .ok (.aload_n 0, 1) := by decide +kernel
theorem d_M_differ_75 : decode prog_9_method_25_code 75 = .ok (.getfield 16, 3) := by decide +kernel
theorem d_M_differ_78 : decode prog_9_method_25_code 78 = .ok (.aload_n 0, 1) := by decide +kernel
theorem d_M_differ_79 : decode prog_9_method_25_code 79 = .ok (.getfield 13, 3) := by decide +kernel
theorem d_M_differ_82 : decode prog_9_method_25_code 82 = .ok (.iload_n 2, 1) := by decide +kernel
theorem d_M_differ_83 : decode prog_9_method_25_code 83 = .ok (.iaload, 1) := by decide +kernel
theorem d_M_differ_84 : decode prog_9_method_25_code 84 = .ok (.iload_n 3, 1) := by decide +kernel
theorem d_M_differ_85 : decode prog_9_method_25_code 85 = .ok (.iadd, 1) := by decide +kernel
theorem d_M_differ_86 : decode prog_9_method_25_code 86 = .ok (.iaload, 1) := by decide +kernel
theorem d_M_differ_87 : decode prog_9_method_25_code 87 = .ok (.iaload, 1) := by decide +kernel
theorem d_M_differ_88 : decode prog_9_method_25_code 88 = .ok (.if_icmp .ne 9, 3) := by decide +kernel
theorem d_M_differ_91 : decode prog_9_method_25_code 91 = .ok (.iinc 3 1, 3) := by decide +kernel
theorem d_M_differ_94 : decode prog_9_method_25_code 94 = .ok (.goto (-60), 3) := by decide +kernel
theorem d_M_differ_97 : decode prog_9_method_25_code 97 = .ok (.iload_n 3, 1) := by decide +kernel
theorem d_M_differ_98 : decode prog_9_method_25_code 98 = .ok (.aload_n 0, 1) := by decide +kernel
theorem d_M_differ_99 : decode prog_9_method_25_code 99 = .ok (.iload_n 1, 1) := by decide +kernel
theorem d_M_differ_100 : decode prog_9_method_25_code 100 = .ok (.invokevirtual 36, 3) := by decide +kernel
theorem d_M_differ_103 : decode prog_9_method_25_code 103 = .ok (.if_icmp .lt 12, 3) := by decide +kernel
theorem d_M_differ_106 : decode prog_9_method_25_code 106 = .ok (.iload_n 3, 1) := by decide +kernel
theorem d_M_differ_107 : decode prog_9_method_25_code 107 = .ok (.aload_n 0, 1) := by decide +kernel
theorem d_M_differ_108 : decode prog_9_method_25_code 108 = .ok (.iload_n 2, 1) := by decide +kernel
theorem d_M_differ_109 : decode prog_9_method_25_code 109 = .ok (.invokevirtual 36, 3) := by decide +kernel
theorem d_M_differ_112 : decode prog_9_method_25_code 112 = .ok (.if_icmp .ge 7, 3) := by decide +kernel
theorem d_M_differ_119 : decode prog_9_method_25_code 119 = .ok (.iconst (-1), 1) := by decide +kernel
theorem d_M_differ_115 : decode prog_9_method_25_code 115 = .ok (.iload_n 3, 1) := by decide +kernel
theorem d_M_differ_116 : decode prog_9_method_25_code 116 = .ok (.goto 4, 3) := by decide +kernel
theorem d_M_differ_120 : decode prog_9_method_25_code 120 = .ok (.ireturn, 1) := by decide +kernel
theorem d_M_count_0 : decode prog_9_method_26_code 0 = .ok (.aload_n 0, 1) := by decide +kernel
theorem d_M_count_1 : decode prog_9_method_26_code 1 = .ok (.iconst 0, 1) := by decide +kernel
theorem d_M_count_2 : decode prog_9_method_26_code 2 = .ok (.putfield 28, 3) := by decide +kernel
theorem d_M_count_5 : decode prog_9_method_26_code 5 = .ok (.iload_n 1, 1) := by decide +kernel
theorem d_M_count_6 : decode prog_9_method_26_code 6 = .ok (.ifCond .ne 10, 3) := by decide +kernel
theorem d_M_count_16 : decode prog_9_method_26_code 16 = .ok (.iload_n 1, 1) := by decide +kernel
theorem d_M_count_17 : decode prog_9_method_26_code 17 = .ok (.iconst 1, 1) := by decide +kernel
theorem d_M_count_18 : decode prog_9_method_26_code 18 = .ok (.if_icmp .ne 13, 3) := by decide +kernel
theorem d_M_count_31 : decode prog_9_method_26_code 31 = .ok (.iload_n 1, 1) := by decide +kernel
theorem d_M_count_32 : decode prog_9_method_26_code 32 = .ok (.iconst 2, 1) := by decide +kernel
theorem d_M_count_33 : decode prog_9_method_26_code 33 = .ok (.if_icmp .ne 10, 3) := by decide +kernel
theorem d_M_count_43 : decode prog_9_method_26_code 43 = .ok (.iload_n 1, 1) := by decide +kernel
theorem d_M_count_44 : decode prog_9_method_26_code 44 = .ok (.iconst 3, 1) := by decide +kernel
theorem d_M_count_45 : decode prog_9_method_26_code 45 = .ok (.if_icmp .ne 7, 3) := by decide +kernel
theorem d_M_count_52 : decode prog_9_method_26_code 52 = .ok (.iconst (-1), 1) := by decide +kernel
theorem d_M_count_48 : decode prog_9_method_26_code 48 = .ok (.iconst 1, 1) := by decide +kernel
theorem d_M_count_49 : decode prog_9_method_26_code 49 = .ok (.goto 4, 3) := by decide +kernel
theorem d_M_count_36 : decode prog_9_method_26_code 36 = .ok (.aload_n 0, 1) := by decide +kernel
theorem d_M_count_37 : decode prog_9_method_26_code 37 = .ok (.invokevirtual 62, 3) := by decide +kernel
theorem d_M_count_40 : decode prog_9_method_26_code 40 = .ok (.goto 13, 3) := by decide +kernel
theorem d_M_count_21 : decode prog_9_method_26_code 21 = .ok (.aload_n 0, 1) := by decide +kernel
theorem d_M_count_22 : decode prog_9_method_26_code 22 = .ok (.getfield 13, 3) := by decide +kernel
theorem d_M_count_25 : decode prog_9_method_26_code 25 = .ok (.bipush 16, 2) := by decide +kernel
theorem d_M_count_27 : decode prog_9_method_26_code 27 = .ok (.iaload, 1) := by decide +kernel
theorem d_M_count_28 : decode prog_9_method_26_code 28 = .ok (.goto 25, 3) := by decide +kernel
theorem d_M_count_9 : decode prog_9_method_26_code 9 = .ok (.aload_n 0, 1) := by decide +kernel
theorem d_M_count_10 : decode prog_9_method_26_code 10 = .ok (.getfield 46, 3) := by decide +kernel
theorem d_M_count_13 : decode prog_9_method_26_code 13 = .ok (.goto 40, 3) := by decide +kernel
theorem d_M_count_53 : decode prog_9_method_26_code 53 = .ok (.ireturn, 1) := by decide +kernel
theorem d_L_write_0 : decode method_3_code 0 = .ok (.aload_n 3, 1) := by decide +kernel
theorem d_L_write_1 : decode method_3_code 1 = .ok (.iconst 0, 1) := by decide +kernel
theorem d_L_write_2 : decode method_3_code 2 = .ok (.aload_n 0, 1) := by decide +kernel
theorem d_L_write_3 : decode method_3_code 3 = .ok (.lload_n 1, 1) := by decide +kernel
theorem d_L_write_4 : decode method_3_code 4 = .ok (.invokevirtual 7, 3) := by decide +kernel
theorem d_L_write_7 : decode method_3_code 7 = .ok (.i2l, 1) := by decide +kernel
theorem d_L_write_8 : decode method_3_code 8 = .ok (.lastore, 1) := by decide +kernel
theorem d_L_write_9 : decode method_3_code 9 = .ok (.goto 11, 3) := by decide +kernel
theorem d_L_write_20 : decode method_3_code 20 = .ok (.iconst 0, 1) := by decide +kernel
theorem d_L_write_21 : decode method_3_code 21 = .ok (.ireturn, 1) := by decide +kernel
theorem d_L_write_12 : decode method_3_code 12 = .ok (.astore 4, 2) := by decide +kernel
theorem d_L_write_14 : decode method_3_code 14 = .ok (.iconst 1, 1) := by decide +kernel
theorem d_L_write_15 : decode method_3_code 15 = .ok (.ireturn, 1) := by decide +kernel
theorem d_L_write_16 : decode method_3_code 16 = .ok (.astore 4, 2) := by decide +kernel
theorem d_L_write_18 : decode method_3_code 18 = .ok (.iconst 2, 1) := by decide +kernel
theorem d_L_write_19 : decode method_3_code 19 = .ok (.ireturn, 1) := by decide +kernel
theorem d_L_put_0 : decode method_4_code 0 = .ok (.aload 6, 2) := by decide +kernel
theorem d_L_put_2 : decode method_4_code 2 = .ok (.iconst 0, 1) := by decide +kernel
theorem d_L_put_3 : decode method_4_code 3 = .ok (.aload_n 0, 1) := by decide +kernel
theorem d_L_put_4 : decode method_4_code 4 = .ok (.iload_n 1, 1) := by decide +kernel
theorem d_L_put_5 : decode method_4_code 5 = .ok (.iload_n 2, 1) := by decide +kernel
theorem d_L_put_6 : decode method_4_code 6 = .ok (.iload_n 3, 1) := by decide +kernel
theorem d_L_put_7 : decode method_4_code 7 = .ok (.iload 4, 2) := by decide +kernel
theorem d_L_put_9 : decode method_4_code 9 = .ok (.iload 5, 2) := by decide +kernel
theorem d_L_put_11 : decode method_4_code 11 = .ok (.invokevirtual 17, 3) := by decide +kernel
theorem d_L_put_14 : decode method_4_code 14 = .ok (.i2l, 1) := by decide +kernel
theorem d_L_put_15 : decode method_4_code 15 = .ok (.lastore, 1) := by decide +kernel
theorem d_L_put_16 : decode method_4_code 16 = .ok (.goto 11, 3) := by decide +kernel
theorem d_L_put_27 : decode method_4_code 27 = .ok (.iconst 0, 1) := by decide +kernel
theorem d_L_put_28 : decode method_4_code 28 = .ok (.ireturn, 1) := by decide +kernel
theorem d_L_put_19 : decode method_4_code 19 = .ok (.astore 7, 2) := by decide +kernel
theorem d_L_put_21 : decode method_4_code 21 = .ok (.iconst 1, 1) := by decide +kernel
theorem d_L_put_22 : decode method_4_code 22 = .ok (.ireturn, 1) := by decide +kernel
theorem d_L_put_23 : decode method_4_code 23 = .ok (.astore 7, 2) := by decide +kernel
theorem d_L_put_25 : decode method_4_code 25 = .ok (.iconst 2, 1) := by decide +kernel
theorem d_L_put_26 : decode method_4_code 26 = .ok (.ireturn, 1) := by decide +kernel
theorem d_L_cut_0 : decode method_5_code 0 = .ok (.aload 5, 2) := by decide +kernel
theorem d_L_cut_2 : decode method_5_code 2 = .ok (.iconst 0, 1) := by decide +kernel
theorem d_L_cut_3 : decode method_5_code 3 = .ok (.aload_n 0, 1) := by decide +kernel
theorem d_L_cut_4 : decode method_5_code 4 = .ok (.iload_n 1, 1) := by decide +kernel
theorem d_L_cut_5 : decode method_5_code 5 = .ok (.iload_n 2, 1) := by decide +kernel
theorem d_L_cut_6 : decode method_5_code 6 = .ok (.iload_n 3, 1) := by decide +kernel
theorem d_L_cut_7 : decode method_5_code 7 = .ok (.iload 4, 2) := by decide +kernel
theorem d_L_cut_9 : decode method_5_code 9 = .ok (.invokevirtual 23, 3) := by decide +kernel
theorem d_L_cut_12 : decode method_5_code 12 = .ok (.i2l, 1) := by decide +kernel
theorem d_L_cut_13 : decode method_5_code 13 = .ok (.lastore, 1) := by decide +kernel
theorem d_L_cut_14 : decode method_5_code 14 = .ok (.goto 15, 3) := by decide +kernel
theorem d_L_cut_29 : decode method_5_code 29 = .ok (.iconst 0, 1) := by decide +kernel
theorem d_L_cut_30 : decode method_5_code 30 = .ok (.ireturn, 1) := by decide +kernel
theorem d_L_cut_17 : decode method_5_code 17 = .ok (.astore 6, 2) := by decide +kernel
theorem d_L_cut_19 : decode method_5_code 19 = .ok (.iconst 1, 1) := by decide +kernel
theorem d_L_cut_20 : decode method_5_code 20 = .ok (.ireturn, 1) := by decide +kernel
theorem d_L_cut_21 : decode method_5_code 21 = .ok (.astore 6, 2) := by decide +kernel
theorem d_L_cut_23 : decode method_5_code 23 = .ok (.iconst 2, 1) := by decide +kernel
theorem d_L_cut_24 : decode method_5_code 24 = .ok (.ireturn, 1) := by decide +kernel
theorem d_L_cut_25 : decode method_5_code 25 = .ok (.astore 6, 2) := by decide +kernel
theorem d_L_cut_27 : decode method_5_code 27 = .ok (.iconst 3, 1) := by decide +kernel
theorem d_L_cut_28 : decode method_5_code 28 = .ok (.ireturn, 1) := by decide +kernel
theorem d_L_paste_0 : decode method_6_code 0 = .ok (.aload 4, 2) := by decide +kernel
theorem d_L_paste_2 : decode method_6_code 2 = .ok (.iconst 0, 1) := by decide +kernel
theorem d_L_paste_3 : decode method_6_code 3 = .ok (.aload_n 0, 1) := by decide +kernel
theorem d_L_paste_4 : decode method_6_code 4 = .ok (.iload_n 1, 1) := by decide +kernel
theorem d_L_paste_5 : decode method_6_code 5 = .ok (.iload_n 2, 1) := by decide +kernel
theorem d_L_paste_6 : decode method_6_code 6 = .ok (.iload_n 3, 1) := by decide +kernel
theorem d_L_paste_7 : decode method_6_code 7 = .ok (.invokevirtual 27, 3) := by decide +kernel
theorem d_L_paste_10 : decode method_6_code 10 = .ok (.i2l, 1) := by decide +kernel
theorem d_L_paste_11 : decode method_6_code 11 = .ok (.lastore, 1) := by decide +kernel
theorem d_L_paste_12 : decode method_6_code 12 = .ok (.goto 15, 3) := by decide +kernel
theorem d_L_paste_27 : decode method_6_code 27 = .ok (.iconst 0, 1) := by decide +kernel
theorem d_L_paste_28 : decode method_6_code 28 = .ok (.ireturn, 1) := by decide +kernel
theorem d_L_paste_15 : decode method_6_code 15 = .ok (.astore 5, 2) := by decide +kernel
theorem d_L_paste_17 : decode method_6_code 17 = .ok (.iconst 1, 1) := by decide +kernel
theorem d_L_paste_18 : decode method_6_code 18 = .ok (.ireturn, 1) := by decide +kernel
theorem d_L_paste_19 : decode method_6_code 19 = .ok (.astore 5, 2) := by decide +kernel
theorem d_L_paste_21 : decode method_6_code 21 = .ok (.iconst 2, 1) := by decide +kernel
theorem d_L_paste_22 : decode method_6_code 22 = .ok (.ireturn, 1) := by decide +kernel
theorem d_L_paste_23 : decode method_6_code 23 = .ok (.astore 5, 2) := by decide +kernel
theorem d_L_paste_25 : decode method_6_code 25 = .ok (.iconst 3, 1) := by decide +kernel
theorem d_L_paste_26 : decode method_6_code 26 = .ok (.ireturn, 1) := by decide +kernel
theorem d_L_copy_0 : decode method_7_code 0 = .ok (.aload 5, 2) := by decide +kernel
theorem d_L_copy_2 : decode method_7_code 2 = .ok (.iconst 0, 1) := by decide +kernel
theorem d_L_copy_3 : decode method_7_code 3 = .ok (.aload_n 0, 1) := by decide +kernel
theorem d_L_copy_4 : decode method_7_code 4 = .ok (.iload_n 1, 1) := by decide +kernel
theorem d_L_copy_5 : decode method_7_code 5 = .ok (.iload_n 2, 1) := by decide +kernel
theorem d_L_copy_6 : decode method_7_code 6 = .ok (.iload_n 3, 1) := by decide +kernel
theorem d_L_copy_7 : decode method_7_code 7 = .ok (.iload 4, 2) := by decide +kernel
theorem d_L_copy_9 : decode method_7_code 9 = .ok (.invokevirtual 31, 3) := by decide +kernel
theorem d_L_copy_12 : decode method_7_code 12 = .ok (.i2l, 1) := by decide +kernel
theorem d_L_copy_13 : decode method_7_code 13 = .ok (.lastore, 1) := by decide +kernel
theorem d_L_copy_14 : decode method_7_code 14 = .ok (.goto 15, 3) := by decide +kernel
theorem d_L_copy_29 : decode method_7_code 29 = .ok (.iconst 0, 1) := by decide +kernel
theorem d_L_copy_30 : decode method_7_code 30 = .ok (.ireturn, 1) := by decide +kernel
theorem d_L_copy_17 : decode method_7_code 17 = .ok (.astore 6, 2) := by decide +kernel
theorem d_L_copy_19 : decode method_7_code 19 = .ok (.iconst 1, 1) := by decide +kernel
theorem d_L_copy_20 : decode method_7_code 20 = .ok (.ireturn, 1) := by decide +kernel
theorem d_L_copy_21 : decode method_7_code 21 = .ok (.astore 6, 2) := by decide +kernel
theorem d_L_copy_23 : decode method_7_code 23 = .ok (.iconst 2, 1) := by decide +kernel
theorem d_L_copy_24 : decode method_7_code 24 = .ok (.ireturn, 1) := by decide +kernel
theorem d_L_copy_25 : decode method_7_code 25 = .ok (.astore 6, 2) := by decide +kernel
theorem d_L_copy_27 : decode method_7_code 27 = .ok (.iconst 3, 1) := by decide +kernel
theorem d_L_copy_28 : decode method_7_code 28 = .ok (.ireturn, 1) := by decide +kernel
theorem d_L_tag_0 : decode method_8_code 0 = .ok (.aload 6, 2) := by decide +kernel
theorem d_L_tag_2 : decode method_8_code 2 = .ok (.iconst 0, 1) := by decide +kernel
theorem d_L_tag_3 : decode method_8_code 3 = .ok (.aload_n 0, 1) := by decide +kernel
theorem d_L_tag_4 : decode method_8_code 4 = .ok (.iload_n 1, 1) := by decide +kernel
theorem d_L_tag_5 : decode method_8_code 5 = .ok (.iload_n 2, 1) := by decide +kernel
theorem d_L_tag_6 : decode method_8_code 6 = .ok (.iload_n 3, 1) := by decide +kernel
theorem d_L_tag_7 : decode method_8_code 7 = .ok (.iload 4, 2) := by decide +kernel
theorem d_L_tag_9 : decode method_8_code 9 = .ok (.iload 5, 2) := by decide +kernel
theorem d_L_tag_11 : decode method_8_code 11 = .ok (.invokevirtual 34, 3) := by decide +kernel
theorem d_L_tag_14 : decode method_8_code 14 = .ok (.i2l, 1) := by decide +kernel
theorem d_L_tag_15 : decode method_8_code 15 = .ok (.lastore, 1) := by decide +kernel
theorem d_L_tag_16 : decode method_8_code 16 = .ok (.goto 11, 3) := by decide +kernel
theorem d_L_tag_27 : decode method_8_code 27 = .ok (.iconst 0, 1) := by decide +kernel
theorem d_L_tag_28 : decode method_8_code 28 = .ok (.ireturn, 1) := by decide +kernel
theorem d_L_tag_19 : decode method_8_code 19 = .ok (.astore 7, 2) := by decide +kernel
theorem d_L_tag_21 : decode method_8_code 21 = .ok (.iconst 1, 1) := by decide +kernel
theorem d_L_tag_22 : decode method_8_code 22 = .ok (.ireturn, 1) := by decide +kernel
theorem d_L_tag_23 : decode method_8_code 23 = .ok (.astore 7, 2) := by decide +kernel
theorem d_L_tag_25 : decode method_8_code 25 = .ok (.iconst 2, 1) := by decide +kernel
theorem d_L_tag_26 : decode method_8_code 26 = .ok (.ireturn, 1) := by decide +kernel
theorem d_L_wipe_0 : decode method_9_code 0 = .ok (.aload_n 2, 1) := by decide +kernel
theorem d_L_wipe_1 : decode method_9_code 1 = .ok (.iconst 0, 1) := by decide +kernel
theorem d_L_wipe_2 : decode method_9_code 2 = .ok (.aload_n 0, 1) := by decide +kernel
theorem d_L_wipe_3 : decode method_9_code 3 = .ok (.iload_n 1, 1) := by decide +kernel
theorem d_L_wipe_4 : decode method_9_code 4 = .ok (.invokevirtual 37, 3) := by decide +kernel
theorem d_L_wipe_7 : decode method_9_code 7 = .ok (.i2l, 1) := by decide +kernel
theorem d_L_wipe_8 : decode method_9_code 8 = .ok (.lastore, 1) := by decide +kernel
theorem d_L_wipe_9 : decode method_9_code 9 = .ok (.goto 6, 3) := by decide +kernel
theorem d_L_wipe_15 : decode method_9_code 15 = .ok (.iconst 0, 1) := by decide +kernel
theorem d_L_wipe_16 : decode method_9_code 16 = .ok (.ireturn, 1) := by decide +kernel
theorem d_L_wipe_12 : decode method_9_code 12 = .ok (.astore_n 3, 1) := by decide +kernel
theorem d_L_wipe_13 : decode method_9_code 13 = .ok (.iconst 1, 1) := by decide +kernel
theorem d_L_wipe_14 : decode method_9_code 14 = .ok (.ireturn, 1) := by decide +kernel
theorem d_L_look_0 : decode method_10_code 0 = .ok (.aload 4, 2) := by decide +kernel
theorem d_L_look_2 : decode method_10_code 2 = .ok (.iconst 0, 1) := by decide +kernel
theorem d_L_look_3 : decode method_10_code 3 = .ok (.aload_n 0, 1) := by decide +kernel
theorem d_L_look_4 : decode method_10_code 4 = .ok (.iload_n 1, 1) := by decide +kernel
theorem d_L_look_5 : decode method_10_code 5 = .ok (.iload_n 2, 1) := by decide +kernel
theorem d_L_look_6 : decode method_10_code 6 = .ok (.iload_n 3, 1) := by decide +kernel
theorem d_L_look_7 : decode method_10_code 7 = .ok (.invokevirtual 41, 3) := by decide +kernel
theorem d_L_look_10 : decode method_10_code 10 = .ok (.i2l, 1) := by decide +kernel
theorem d_L_look_11 : decode method_10_code 11 = .ok (.lastore, 1) := by decide +kernel
theorem d_L_look_12 : decode method_10_code 12 = .ok (.goto 11, 3) := by decide +kernel
theorem d_L_look_23 : decode method_10_code 23 = .ok (.iconst 0, 1) := by decide +kernel
theorem d_L_look_24 : decode method_10_code 24 = .ok (.ireturn, 1) := by decide +kernel
theorem d_L_look_15 : decode method_10_code 15 = .ok (.astore 5, 2) := by decide +kernel
theorem d_L_look_17 : decode method_10_code 17 = .ok (.iconst 1, 1) := by decide +kernel
theorem d_L_look_18 : decode method_10_code 18 = .ok (.ireturn, 1) := by decide +kernel
theorem d_L_look_19 : decode method_10_code 19 = .ok (.astore 5, 2) := by decide +kernel
theorem d_L_look_21 : decode method_10_code 21 = .ok (.iconst 2, 1) := by decide +kernel
theorem d_L_look_22 : decode method_10_code 22 = .ok (.ireturn, 1) := by decide +kernel
theorem d_L_piece_0 : decode method_11_code 0 = .ok (.aload 4, 2) := by decide +kernel
theorem d_L_piece_2 : decode method_11_code 2 = .ok (.iconst 0, 1) := by decide +kernel
theorem d_L_piece_3 : decode method_11_code 3 = .ok (.aload_n 0, 1) := by decide +kernel
theorem d_L_piece_4 : decode method_11_code 4 = .ok (.iload_n 1, 1) := by decide +kernel
theorem d_L_piece_5 : decode method_11_code 5 = .ok (.iload_n 2, 1) := by decide +kernel
theorem d_L_piece_6 : decode method_11_code 6 = .ok (.iload_n 3, 1) := by decide +kernel
theorem d_L_piece_7 : decode method_11_code 7 = .ok (.invokevirtual 44, 3) := by decide +kernel
theorem d_L_piece_10 : decode method_11_code 10 = .ok (.i2l, 1) := by decide +kernel
theorem d_L_piece_11 : decode method_11_code 11 = .ok (.lastore, 1) := by decide +kernel
theorem d_L_piece_12 : decode method_11_code 12 = .ok (.goto 11, 3) := by decide +kernel
theorem d_L_piece_23 : decode method_11_code 23 = .ok (.iconst 0, 1) := by decide +kernel
theorem d_L_piece_24 : decode method_11_code 24 = .ok (.ireturn, 1) := by decide +kernel
theorem d_L_piece_15 : decode method_11_code 15 = .ok (.astore 5, 2) := by decide +kernel
theorem d_L_piece_17 : decode method_11_code 17 = .ok (.iconst 1, 1) := by decide +kernel
theorem d_L_piece_18 : decode method_11_code 18 = .ok (.ireturn, 1) := by decide +kernel
theorem d_L_piece_19 : decode method_11_code 19 = .ok (.astore 5, 2) := by decide +kernel
theorem d_L_piece_21 : decode method_11_code 21 = .ok (.iconst 2, 1) := by decide +kernel
theorem d_L_piece_22 : decode method_11_code 22 = .ok (.ireturn, 1) := by decide +kernel
theorem d_L_find_0 : decode method_12_code 0 = .ok (.aload 4, 2) := by decide +kernel
theorem d_L_find_2 : decode method_12_code 2 = .ok (.iconst 0, 1) := by decide +kernel
theorem d_L_find_3 : decode method_12_code 3 = .ok (.aload_n 0, 1) := by decide +kernel
theorem d_L_find_4 : decode method_12_code 4 = .ok (.iload_n 1, 1) := by decide +kernel
theorem d_L_find_5 : decode method_12_code 5 = .ok (.iload_n 2, 1) := by decide +kernel
theorem d_L_find_6 : decode method_12_code 6 = .ok (.iload_n 3, 1) := by decide +kernel
theorem d_L_find_7 : decode method_12_code 7 = .ok (.invokevirtual 47, 3) := by decide +kernel
theorem d_L_find_10 : decode method_12_code 10 = .ok (.i2l, 1) := by decide +kernel
theorem d_L_find_11 : decode method_12_code 11 = .ok (.lastore, 1) := by decide +kernel
theorem d_L_find_12 : decode method_12_code 12 = .ok (.goto 7, 3) := by decide +kernel
theorem d_L_find_19 : decode method_12_code 19 = .ok (.iconst 0, 1) := by decide +kernel
theorem d_L_find_20 : decode method_12_code 20 = .ok (.ireturn, 1) := by decide +kernel
theorem d_L_find_15 : decode method_12_code 15 = .ok (.astore 5, 2) := by decide +kernel
theorem d_L_find_17 : decode method_12_code 17 = .ok (.iconst 1, 1) := by decide +kernel
theorem d_L_find_18 : decode method_12_code 18 = .ok (.ireturn, 1) := by decide +kernel
theorem d_L_differ_0 : decode method_13_code 0 = .ok (.aload_n 3, 1) := by decide +kernel
theorem d_L_differ_1 : decode method_13_code 1 = .ok (.iconst 0, 1) := by decide +kernel
theorem d_L_differ_2 : decode method_13_code 2 = .ok (.aload_n 0, 1) := by decide +kernel
theorem d_L_differ_3 : decode method_13_code 3 = .ok (.iload_n 1, 1) := by decide +kernel
theorem d_L_differ_4 : decode method_13_code 4 = .ok (.iload_n 2, 1) := by decide +kernel
theorem d_L_differ_5 : decode method_13_code 5 = .ok (.invokevirtual 50, 3) := by decide +kernel
theorem d_L_differ_8 : decode method_13_code 8 = .ok (.i2l, 1) := by decide +kernel
theorem d_L_differ_9 : decode method_13_code 9 = .ok (.lastore, 1) := by decide +kernel
theorem d_L_differ_10 : decode method_13_code 10 = .ok (.goto 7, 3) := by decide +kernel
theorem d_L_differ_17 : decode method_13_code 17 = .ok (.iconst 0, 1) := by decide +kernel
theorem d_L_differ_18 : decode method_13_code 18 = .ok (.ireturn, 1) := by decide +kernel
theorem d_L_differ_13 : decode method_13_code 13 = .ok (.astore 4, 2) := by decide +kernel
theorem d_L_differ_15 : decode method_13_code 15 = .ok (.iconst 1, 1) := by decide +kernel
theorem d_L_differ_16 : decode method_13_code 16 = .ok (.ireturn, 1) := by decide +kernel
theorem d_L_law_0 : decode code 0 = .ok (.new 8, 3) := by decide +kernel
theorem d_L_law_3 : decode code 3 = .ok (.dup, 1) := by decide +kernel
theorem d_L_law_4 : decode code 4 = .ok (.invokespecial 54, 3) := by decide +kernel
theorem d_L_law_7 : decode code 7 = .ok (.astore_n 1, 1) := by decide +kernel
theorem d_L_law_8 : decode code 8 = .ok (.new 55, 3) := by decide +kernel
theorem d_L_law_11 : decode code 11 = .ok (.dup, 1) := by decide +kernel
theorem d_L_law_12 : decode code 12 = .ok (.invokespecial 57, 3) := by decide +kernel
theorem d_L_law_15 : decode code 15 = .ok (.astore_n 2, 1) := by decide +kernel
theorem d_L_law_16 : decode code 16 = .ok (.iconst 1, 1) := by decide +kernel
theorem d_L_law_17 : decode code 17 = .ok (.newarray .long, 2) := by decide +kernel
theorem d_L_law_19 : decode code 19 = .ok (.astore_n 3, 1) := by decide +kernel
theorem d_L_law_20 : decode code 20 = .ok (.iconst 0, 1) := by decide +kernel
theorem d_L_law_21 : decode code 21 = .ok (.istore 4, 2) := by decide +kernel
theorem d_L_law_23 : decode code 23 = .ok (.iload 4, 2) := by decide +kernel
theorem d_L_law_25 : decode code 25 = .ok (.aload_n 0, 1) := by decide +kernel
theorem d_L_law_26 : decode code 26 = .ok (.arraylength, 1) := by decide +kernel
theorem d_L_law_27 : decode code 27 = .ok (.bipush 6, 2) := by decide +kernel
theorem d_L_law_29 : decode code 29 = .ok (.isub, 1) := by decide +kernel
theorem d_L_law_30 : decode code 30 = .ok (.if_icmp .gt 1058, 3) := by decide +kernel
theorem d_L_law_1088 : decode code 1088 = .ok (.iconst 1, 1) := by decide +kernel
theorem d_L_law_1089 : decode code 1089 = .ok (.ireturn, 1) := by decide +kernel
theorem d_L_law_33 : decode code 33 = .ok (.aload_n 0, 1) := by decide +kernel
theorem d_L_law_34 : decode code 34 = .ok (.iload 4, 2) := by decide +kernel
theorem d_L_law_36 : decode code 36 = .ok (.iaload, 1) := by decide +kernel
theorem d_L_law_37 : decode code 37 = .ok (.bipush 15, 2) := by decide +kernel
theorem d_L_law_39 : decode code 39 = .ok (.iand, 1) := by decide +kernel
theorem d_L_law_40 : decode code 40 = .ok (.tableswitch 1042 0 12 #[68, 156, 260, 352, 432, 524, 628, 684, 709, 789, 869, 949, 1017], 68) := by decide +kernel
theorem d_L_law_108 : decode code 108 = .ok (.aload_n 1, 1) := by decide +kernel
theorem d_L_law_109 : decode code 109 = .ok (.aload_n 0, 1) := by decide +kernel
theorem d_L_law_110 : decode code 110 = .ok (.iload 4, 2) := by decide +kernel
theorem d_L_law_112 : decode code 112 = .ok (.iconst 1, 1) := by decide +kernel
theorem d_L_law_113 : decode code 113 = .ok (.iadd, 1) := by decide +kernel
theorem d_L_law_114 : decode code 114 = .ok (.iaload, 1) := by decide +kernel
theorem d_L_law_115 : decode code 115 = .ok (.i2l, 1) := by decide +kernel
theorem d_L_law_116 : decode code 116 = .ok (.bipush 32, 2) := by decide +kernel
theorem d_L_law_118 : decode code 118 = .ok (.lshl, 1) := by decide +kernel
theorem d_L_law_119 : decode code 119 = .ok (.aload_n 0, 1) := by decide +kernel
theorem d_L_law_120 : decode code 120 = .ok (.iload 4, 2) := by decide +kernel
theorem d_L_law_122 : decode code 122 = .ok (.iconst 2, 1) := by decide +kernel
theorem d_L_law_123 : decode code 123 = .ok (.iadd, 1) := by decide +kernel
theorem d_L_law_124 : decode code 124 = .ok (.iaload, 1) := by decide +kernel
theorem d_L_law_125 : decode code 125 = .ok (.i2l, 1) := by decide +kernel
theorem d_L_law_126 : decode code 126 = .ok (.ldc2_w 58, 3) := by decide +kernel
theorem d_L_law_129 : decode code 129 = .ok (.land, 1) := by decide +kernel
theorem d_L_law_130 : decode code 130 = .ok (.lor, 1) := by decide +kernel
theorem d_L_law_131 : decode code 131 = .ok (.aload_n 3, 1) := by decide +kernel
theorem d_L_law_132 : decode code 132 = .ok (.invokestatic 60, 3) := by decide +kernel
theorem d_L_law_135 : decode code 135 = .ok (.istore 5, 2) := by decide +kernel
theorem d_L_law_137 : decode code 137 = .ok (.aload_n 2, 1) := by decide +kernel
theorem d_L_law_138 : decode code 138 = .ok (.aload_n 0, 1) := by decide +kernel
theorem d_L_law_139 : decode code 139 = .ok (.iload 4, 2) := by decide +kernel
theorem d_L_law_141 : decode code 141 = .ok (.iconst 1, 1) := by decide +kernel
theorem d_L_law_142 : decode code 142 = .ok (.iadd, 1) := by decide +kernel
theorem d_L_law_143 : decode code 143 = .ok (.iaload, 1) := by decide +kernel
theorem d_L_law_144 : decode code 144 = .ok (.i2l, 1) := by decide +kernel
theorem d_L_law_145 : decode code 145 = .ok (.bipush 32, 2) := by decide +kernel
theorem d_L_law_147 : decode code 147 = .ok (.lshl, 1) := by decide +kernel
theorem d_L_law_148 : decode code 148 = .ok (.aload_n 0, 1) := by decide +kernel
theorem d_L_law_149 : decode code 149 = .ok (.iload 4, 2) := by decide +kernel
theorem d_L_law_151 : decode code 151 = .ok (.iconst 2, 1) := by decide +kernel
theorem d_L_law_152 : decode code 152 = .ok (.iadd, 1) := by decide +kernel
theorem d_L_law_153 : decode code 153 = .ok (.iaload, 1) := by decide +kernel
theorem d_L_law_154 : decode code 154 = .ok (.i2l, 1) := by decide +kernel
theorem d_L_law_155 : decode code 155 = .ok (.ldc2_w 58, 3) := by decide +kernel
theorem d_L_law_158 : decode code 158 = .ok (.land, 1) := by decide +kernel
theorem d_L_law_159 : decode code 159 = .ok (.lor, 1) := by decide +kernel
theorem d_L_law_160 : decode code 160 = .ok (.invokevirtual 65, 3) := by decide +kernel
theorem d_L_law_163 : decode code 163 = .ok (.istore 6, 2) := by decide +kernel
theorem d_L_law_165 : decode code 165 = .ok (.aload_n 2, 1) := by decide +kernel
theorem d_L_law_166 : decode code 166 = .ok (.invokevirtual 66, 3) := by decide +kernel
theorem d_L_law_169 : decode code 169 = .ok (.iload 5, 2) := by decide +kernel
theorem d_L_law_171 : decode code 171 = .ok (.if_icmp .eq 5, 3) := by decide +kernel
