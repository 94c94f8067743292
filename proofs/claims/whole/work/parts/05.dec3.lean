theorem d_M_compare_159 : decode um_M_compare.2.1 159 = .ok (.if_icmp .ge 23, 3) := by decide +kernel
theorem d_M_compare_162 : decode um_M_compare.2.1 162 = .ok (.aload_n 0, 1) := by decide +kernel
theorem d_M_compare_163 : decode um_M_compare.2.1 163 = .ok (.getfield 49, 3) := by decide +kernel
theorem d_M_compare_166 : decode um_M_compare.2.1 166 = .ok (.iload 5, 2) := by decide +kernel
theorem d_M_compare_168 : decode um_M_compare.2.1 168 = .ok (.aload_n 0, 1) := by decide +kernel
theorem d_M_compare_169 : decode um_M_compare.2.1 169 = .ok (.getfield 19, 3) := by decide +kernel
theorem d_M_compare_172 : decode um_M_compare.2.1 172 = .ok (.iload 5, 2) := by decide +kernel
theorem d_M_compare_174 : decode um_M_compare.2.1 174 = .ok (.iaload, 1) := by decide +kernel
theorem d_M_compare_175 : decode um_M_compare.2.1 175 = .ok (.iastore, 1) := by decide +kernel
theorem d_M_compare_176 : decode um_M_compare.2.1 176 = .ok (.iinc 5 1, 3) := by decide +kernel
theorem d_M_compare_179 : decode um_M_compare.2.1 179 = .ok (.goto (-26), 3) := by decide +kernel
theorem d_M_compare_182 : decode um_M_compare.2.1 182 = .ok (.aload_n 0, 1) := by decide +kernel
theorem d_M_compare_183 : decode um_M_compare.2.1 183 = .ok (.getfield 96, 3) := by decide +kernel
theorem d_M_compare_186 : decode um_M_compare.2.1 186 = .ok (.aload_n 0, 1) := by decide +kernel
theorem d_M_compare_187 : decode um_M_compare.2.1 187 = .ok (.getfield 100, 3) := by decide +kernel
theorem d_M_compare_190 : decode um_M_compare.2.1 190 = .ok (.iadd, 1) := by decide +kernel
theorem d_M_compare_191 : decode um_M_compare.2.1 191 = .ok (.iconst 2, 1) := by decide +kernel
theorem d_M_compare_192 : decode um_M_compare.2.1 192 = .ok (.iload 4, 2) := by decide +kernel
theorem d_M_compare_194 : decode um_M_compare.2.1 194 = .ok (.imul, 1) := by decide +kernel
theorem d_M_compare_195 : decode um_M_compare.2.1 195 = .ok (.isub, 1) := by decide +kernel
theorem d_M_compare_196 : decode um_M_compare.2.1 196 = .ok (.ireturn, 1) := by decide +kernel
theorem d_M_match_0 : decode um_M_match.2.1 0 = .ok (.aload_n 0, 1) := by decide +kernel
theorem d_M_match_1 : decode um_M_match.2.1 1 = .ok (.getfield 135, 3) := by decide +kernel
theorem d_M_match_4 : decode um_M_match.2.1 4 = .ok (.ifCond .eq 35, 3) := by decide +kernel
theorem d_M_match_7 : decode um_M_match.2.1 7 = .ok (.iload_n 1, 1) := by decide +kernel
theorem d_M_match_8 : decode um_M_match.2.1 8 = .ok (.iconst 0, 1) := by decide +kernel
theorem d_M_match_9 : decode um_M_match.2.1 9 = .ok (.aload_n 0, 1) := by decide +kernel
theorem d_M_match_10 : decode um_M_match.2.1 10 = .ok (.getfield 139, 3) := by decide +kernel
theorem d_M_match_13 : decode um_M_match.2.1 13 = .ok (.iconst 1, 1) := by decide +kernel
theorem d_M_match_14 : decode um_M_match.2.1 14 = .ok (.isub, 1) := by decide +kernel
theorem d_M_match_15 : decode um_M_match.2.1 15 = .ok (.invokestatic 88, 3) := by decide +kernel
theorem d_M_match_18 : decode um_M_match.2.1 18 = .ok (.ifCond .eq 21, 3) := by decide +kernel
theorem d_M_match_21 : decode um_M_match.2.1 21 = .ok (.aload_n 0, 1) := by decide +kernel
theorem d_M_match_22 : decode um_M_match.2.1 22 = .ok (.getfield 52, 3) := by decide +kernel
theorem d_M_match_25 : decode um_M_match.2.1 25 = .ok (.iload_n 1, 1) := by decide +kernel
theorem d_M_match_26 : decode um_M_match.2.1 26 = .ok (.iaload, 1) := by decide +kernel
theorem d_M_match_27 : decode um_M_match.2.1 27 = .ok (.ifCond .lt 12, 3) := by decide +kernel
theorem d_M_match_30 : decode um_M_match.2.1 30 = .ok (.aload_n 0, 1) := by decide +kernel
theorem d_M_match_31 : decode um_M_match.2.1 31 = .ok (.getfield 52, 3) := by decide +kernel
theorem d_M_match_34 : decode um_M_match.2.1 34 = .ok (.iload_n 1, 1) := by decide +kernel
theorem d_M_match_35 : decode um_M_match.2.1 35 = .ok (.iaload, 1) := by decide +kernel
theorem d_M_match_36 : decode um_M_match.2.1 36 = .ok (.goto 5, 3) := by decide +kernel
theorem d_M_match_39 : decode um_M_match.2.1 39 = .ok (.bipush (-3), 2) := by decide +kernel
theorem d_M_match_41 : decode um_M_match.2.1 41 = .ok (.ireturn, 1) := by decide +kernel
theorem d_M_op_0 : decode um_M_op.2.1 0 = .ok (.aload_n 0, 1) := by decide +kernel
theorem d_M_op_1 : decode um_M_op.2.1 1 = .ok (.getfield 55, 3) := by decide +kernel
theorem d_M_op_4 : decode um_M_op.2.1 4 = .ok (.aload_n 0, 1) := by decide +kernel
theorem d_M_op_5 : decode um_M_op.2.1 5 = .ok (.getfield 145, 3) := by decide +kernel
theorem d_M_op_8 : decode um_M_op.2.1 8 = .ok (.iload_n 1, 1) := by decide +kernel
theorem d_M_op_9 : decode um_M_op.2.1 9 = .ok (.iastore, 1) := by decide +kernel
theorem d_M_op_10 : decode um_M_op.2.1 10 = .ok (.aload_n 0, 1) := by decide +kernel
theorem d_M_op_11 : decode um_M_op.2.1 11 = .ok (.getfield 58, 3) := by decide +kernel
theorem d_M_op_14 : decode um_M_op.2.1 14 = .ok (.aload_n 0, 1) := by decide +kernel
theorem d_M_op_15 : decode um_M_op.2.1 15 = .ok (.getfield 145, 3) := by decide +kernel
theorem d_M_op_18 : decode um_M_op.2.1 18 = .ok (.iload_n 2, 1) := by decide +kernel
theorem d_M_op_19 : decode um_M_op.2.1 19 = .ok (.iastore, 1) := by decide +kernel
theorem d_M_op_20 : decode um_M_op.2.1 20 = .ok (.aload_n 0, 1) := by decide +kernel
theorem d_M_op_21 : decode um_M_op.2.1 21 = .ok (.dup, 1) := by decide +kernel
theorem d_M_op_22 : decode um_M_op.2.1 22 = .ok (.getfield 145, 3) := by decide +kernel
theorem d_M_op_25 : decode um_M_op.2.1 25 = .ok (.iconst 1, 1) := by decide +kernel
theorem d_M_op_26 : decode um_M_op.2.1 26 = .ok (.iadd, 1) := by decide +kernel
theorem d_M_op_27 : decode um_M_op.2.1 27 = .ok (.putfield 145, 3) := by decide +kernel
theorem d_M_op_30 : decode um_M_op.2.1 30 = .ok (.return_, 1) := by decide +kernel
theorem d_M_row_0 : decode um_M_row.2.1 0 = .ok (.aload_n 0, 1) := by decide +kernel
theorem d_M_row_1 : decode um_M_row.2.1 1 = .ok (.iconst 0, 1) := by decide +kernel
theorem d_M_row_2 : decode um_M_row.2.1 2 = .ok (.putfield 145, 3) := by decide +kernel
theorem d_M_row_5 : decode um_M_row.2.1 5 = .ok (.iconst 0, 1) := by decide +kernel
theorem d_M_row_6 : decode um_M_row.2.1 6 = .ok (.istore_n 1, 1) := by decide +kernel
theorem d_M_row_7 : decode um_M_row.2.1 7 = .ok (.iconst 0, 1) := by decide +kernel
theorem d_M_row_8 : decode um_M_row.2.1 8 = .ok (.istore_n 2, 1) := by decide +kernel
theorem d_M_row_9 : decode um_M_row.2.1 9 = .ok (.iload_n 1, 1) := by decide +kernel
theorem d_M_row_10 : decode um_M_row.2.1 10 = .ok (.aload_n 0, 1) := by decide +kernel
theorem d_M_row_11 : decode um_M_row.2.1 11 = .ok (.getfield 139, 3) := by decide +kernel
theorem d_M_row_14 : decode um_M_row.2.1 14 = .ok (.if_icmp .lt 11, 3) := by decide +kernel
theorem d_M_row_17 : decode um_M_row.2.1 17 = .ok (.iload_n 2, 1) := by decide +kernel
theorem d_M_row_18 : decode um_M_row.2.1 18 = .ok (.aload_n 0, 1) := by decide +kernel
theorem d_M_row_19 : decode um_M_row.2.1 19 = .ok (.getfield 142, 3) := by decide +kernel
theorem d_M_row_22 : decode um_M_row.2.1 22 = .ok (.if_icmp .ge 112, 3) := by decide +kernel
theorem d_M_row_25 : decode um_M_row.2.1 25 = .ok (.iload_n 1, 1) := by decide +kernel
theorem d_M_row_26 : decode um_M_row.2.1 26 = .ok (.aload_n 0, 1) := by decide +kernel
theorem d_M_row_27 : decode um_M_row.2.1 27 = .ok (.getfield 139, 3) := by decide +kernel
theorem d_M_row_30 : decode um_M_row.2.1 30 = .ok (.if_icmp .ge 30, 3) := by decide +kernel
theorem d_M_row_33 : decode um_M_row.2.1 33 = .ok (.aload_n 0, 1) := by decide +kernel
theorem d_M_row_34 : decode um_M_row.2.1 34 = .ok (.getfield 52, 3) := by decide +kernel
theorem d_M_row_37 : decode um_M_row.2.1 37 = .ok (.iload_n 1, 1) := by decide +kernel
theorem d_M_row_38 : decode um_M_row.2.1 38 = .ok (.iaload, 1) := by decide +kernel
theorem d_M_row_39 : decode um_M_row.2.1 39 = .ok (.ifCond .ge 21, 3) := by decide +kernel
theorem d_M_row_42 : decode um_M_row.2.1 42 = .ok (.aload_n 0, 1) := by decide +kernel
theorem d_M_row_43 : decode um_M_row.2.1 43 = .ok (.bipush 45, 2) := by decide +kernel
theorem d_M_row_45 : decode um_M_row.2.1 45 = .ok (.aload_n 0, 1) := by decide +kernel
theorem d_M_row_46 : decode um_M_row.2.1 46 = .ok (.getfield 46, 3) := by decide +kernel
theorem d_M_row_49 : decode um_M_row.2.1 49 = .ok (.iload_n 1, 1) := by decide +kernel
theorem d_M_row_50 : decode um_M_row.2.1 50 = .ok (.iaload, 1) := by decide +kernel
theorem d_M_row_51 : decode um_M_row.2.1 51 = .ok (.invokevirtual 148, 3) := by decide +kernel
theorem d_M_row_54 : decode um_M_row.2.1 54 = .ok (.iinc 1 1, 3) := by decide +kernel
theorem d_M_row_57 : decode um_M_row.2.1 57 = .ok (.goto (-32), 3) := by decide +kernel
theorem d_M_row_60 : decode um_M_row.2.1 60 = .ok (.iload_n 1, 1) := by decide +kernel
theorem d_M_row_61 : decode um_M_row.2.1 61 = .ok (.aload_n 0, 1) := by decide +kernel
theorem d_M_row_62 : decode um_M_row.2.1 62 = .ok (.getfield 139, 3) := by decide +kernel
theorem d_M_row_65 : decode um_M_row.2.1 65 = .ok (.if_icmp .ge 12, 3) := by decide +kernel
theorem d_M_row_68 : decode um_M_row.2.1 68 = .ok (.aload_n 0, 1) := by decide +kernel
theorem d_M_row_69 : decode um_M_row.2.1 69 = .ok (.getfield 52, 3) := by decide +kernel
theorem d_M_row_72 : decode um_M_row.2.1 72 = .ok (.iload_n 1, 1) := by decide +kernel
theorem d_M_row_73 : decode um_M_row.2.1 73 = .ok (.iaload, 1) := by decide +kernel
theorem d_M_row_74 : decode um_M_row.2.1 74 = .ok (.goto 7, 3) := by decide +kernel
theorem d_M_row_77 : decode um_M_row.2.1 77 = .ok (.aload_n 0, 1) := by decide +kernel
theorem d_M_row_78 : decode um_M_row.2.1 78 = .ok (.getfield 142, 3) := by decide +kernel
theorem d_M_row_81 : decode um_M_row.2.1 81 = .ok (.istore_n 3, 1) := by decide +kernel
theorem d_M_row_82 : decode um_M_row.2.1 82 = .ok (.iload_n 2, 1) := by decide +kernel
theorem d_M_row_83 : decode um_M_row.2.1 83 = .ok (.iload_n 3, 1) := by decide +kernel
theorem d_M_row_84 : decode um_M_row.2.1 84 = .ok (.if_icmp .ge 21, 3) := by decide +kernel
theorem d_M_row_87 : decode um_M_row.2.1 87 = .ok (.aload_n 0, 1) := by decide +kernel
theorem d_M_row_88 : decode um_M_row.2.1 88 = .ok (.bipush 43, 2) := by decide +kernel
theorem d_M_row_90 : decode um_M_row.2.1 90 = .ok (.aload_n 0, 1) := by decide +kernel
theorem d_M_row_91 : decode um_M_row.2.1 91 = .ok (.getfield 49, 3) := by decide +kernel
theorem d_M_row_94 : decode um_M_row.2.1 94 = .ok (.iload_n 2, 1) := by decide +kernel
theorem d_M_row_95 : decode um_M_row.2.1 95 = .ok (.iaload, 1) := by decide +kernel
theorem d_M_row_96 : decode um_M_row.2.1 96 = .ok (.invokevirtual 148, 3) := by decide +kernel
theorem d_M_row_99 : decode um_M_row.2.1 99 = .ok (.iinc 2 1, 3) := by decide +kernel
theorem d_M_row_102 : decode um_M_row.2.1 102 = .ok (.goto (-20), 3) := by decide +kernel
theorem d_M_row_105 : decode um_M_row.2.1 105 = .ok (.iload_n 1, 1) := by decide +kernel
theorem d_M_row_106 : decode um_M_row.2.1 106 = .ok (.aload_n 0, 1) := by decide +kernel
theorem d_M_row_107 : decode um_M_row.2.1 107 = .ok (.getfield 139, 3) := by decide +kernel
theorem d_M_row_110 : decode um_M_row.2.1 110 = .ok (.if_icmp .ge 21, 3) := by decide +kernel
theorem d_M_row_113 : decode um_M_row.2.1 113 = .ok (.aload_n 0, 1) := by decide +kernel
theorem d_M_row_114 : decode um_M_row.2.1 114 = .ok (.bipush 32, 2) := by decide +kernel
theorem d_M_row_116 : decode um_M_row.2.1 116 = .ok (.aload_n 0, 1) := by decide +kernel
theorem d_M_row_117 : decode um_M_row.2.1 117 = .ok (.getfield 46, 3) := by decide +kernel
theorem d_M_row_120 : decode um_M_row.2.1 120 = .ok (.iload_n 1, 1) := by decide +kernel
theorem d_M_row_121 : decode um_M_row.2.1 121 = .ok (.iaload, 1) := by decide +kernel
theorem d_M_row_122 : decode um_M_row.2.1 122 = .ok (.invokevirtual 148, 3) := by decide +kernel
theorem d_M_row_125 : decode um_M_row.2.1 125 = .ok (.iinc 1 1, 3) := by decide +kernel
theorem d_M_row_128 : decode um_M_row.2.1 128 = .ok (.iinc 2 1, 3) := by decide +kernel
theorem d_M_row_131 : decode um_M_row.2.1 131 = .ok (.goto (-122), 3) := by decide +kernel
theorem d_M_row_134 : decode um_M_row.2.1 134 = .ok (.return_, 1) := by decide +kernel
theorem d_M_put_0 : decode um_M_put.2.1 0 = .ok (.aload_n 0, 1) := by decide +kernel
theorem d_M_put_1 : decode um_M_put.2.1 1 = .ok (.getfield 61, 3) := by decide +kernel
theorem d_M_put_4 : decode um_M_put.2.1 4 = .ok (.aload_n 0, 1) := by decide +kernel
theorem d_M_put_5 : decode um_M_put.2.1 5 = .ok (.getfield 151, 3) := by decide +kernel
theorem d_M_put_8 : decode um_M_put.2.1 8 = .ok (.iload_n 1, 1) := by decide +kernel
theorem d_M_put_9 : decode um_M_put.2.1 9 = .ok (.iastore, 1) := by decide +kernel
theorem d_M_put_10 : decode um_M_put.2.1 10 = .ok (.aload_n 0, 1) := by decide +kernel
theorem d_M_put_11 : decode um_M_put.2.1 11 = .ok (.dup, 1) := by decide +kernel
theorem d_M_put_12 : decode um_M_put.2.1 12 = .ok (.getfield 151, 3) := by decide +kernel
theorem d_M_put_15 : decode um_M_put.2.1 15 = .ok (.iconst 1, 1) := by decide +kernel
theorem d_M_put_16 : decode um_M_put.2.1 16 = .ok (.iadd, 1) := by decide +kernel
theorem d_M_put_17 : decode um_M_put.2.1 17 = .ok (.putfield 151, 3) := by decide +kernel
theorem d_M_put_20 : decode um_M_put.2.1 20 = .ok (.return_, 1) := by decide +kernel
theorem d_M_putNumber_0 : decode um_M_putNumber.2.1 0 = .ok (.iload_n 1, 1) := by decide +kernel
theorem d_M_putNumber_1 : decode um_M_putNumber.2.1 1 = .ok (.bipush 9, 2) := by decide +kernel
theorem d_M_putNumber_3 : decode um_M_putNumber.2.1 3 = .ok (.if_icmp .le 14, 3) := by decide +kernel
theorem d_M_putNumber_6 : decode um_M_putNumber.2.1 6 = .ok (.aload_n 0, 1) := by decide +kernel
theorem d_M_putNumber_7 : decode um_M_putNumber.2.1 7 = .ok (.bipush 48, 2) := by decide +kernel
theorem d_M_putNumber_9 : decode um_M_putNumber.2.1 9 = .ok (.iload_n 1, 1) := by decide +kernel
theorem d_M_putNumber_10 : decode um_M_putNumber.2.1 10 = .ok (.bipush 10, 2) := by decide +kernel
theorem d_M_putNumber_12 : decode um_M_putNumber.2.1 12 = .ok (.idiv, 1) := by decide +kernel
theorem d_M_putNumber_13 : decode um_M_putNumber.2.1 13 = .ok (.iadd, 1) := by decide +kernel
theorem d_M_putNumber_14 : decode um_M_putNumber.2.1 14 = .ok (.invokevirtual 154, 3) := by decide +kernel
theorem d_M_putNumber_17 : decode um_M_putNumber.2.1 17 = .ok (.aload_n 0, 1) := by decide +kernel
theorem d_M_putNumber_18 : decode um_M_putNumber.2.1 18 = .ok (.bipush 48, 2) := by decide +kernel
theorem d_M_putNumber_20 : decode um_M_putNumber.2.1 20 = .ok (.iload_n 1, 1) := by decide +kernel
theorem d_M_putNumber_21 : decode um_M_putNumber.2.1 21 = .ok (.bipush 10, 2) := by decide +kernel
theorem d_M_putNumber_23 : decode um_M_putNumber.2.1 23 = .ok (.irem, 1) := by decide +kernel
theorem d_M_putNumber_24 : decode um_M_putNumber.2.1 24 = .ok (.iadd, 1) := by decide +kernel
theorem d_M_putNumber_25 : decode um_M_putNumber.2.1 25 = .ok (.invokevirtual 154, 3) := by decide +kernel
theorem d_M_putNumber_28 : decode um_M_putNumber.2.1 28 = .ok (.return_, 1) := by decide +kernel
theorem d_M_others_0 : decode um_M_others.2.1 0 = .ok (.iconst 0, 1) := by decide +kernel
theorem d_M_others_1 : decode um_M_others.2.1 1 = .ok (.istore 4, 2) := by decide +kernel
theorem d_M_others_3 : decode um_M_others.2.1 3 = .ok (.iload_n 1, 1) := by decide +kernel
theorem d_M_others_4 : decode um_M_others.2.1 4 = .ok (.istore 5, 2) := by decide +kernel
theorem d_M_others_6 : decode um_M_others.2.1 6 = .ok (.iload 5, 2) := by decide +kernel
theorem d_M_others_8 : decode um_M_others.2.1 8 = .ok (.iload_n 2, 1) := by decide +kernel
theorem d_M_others_9 : decode um_M_others.2.1 9 = .ok (.if_icmp .ge 31, 3) := by decide +kernel
theorem d_M_others_12 : decode um_M_others.2.1 12 = .ok (.aload_n 0, 1) := by decide +kernel
theorem d_M_others_13 : decode um_M_others.2.1 13 = .ok (.getfield 55, 3) := by decide +kernel
theorem d_M_others_16 : decode um_M_others.2.1 16 = .ok (.iload 5, 2) := by decide +kernel
theorem d_M_others_18 : decode um_M_others.2.1 18 = .ok (.iaload, 1) := by decide +kernel
theorem d_M_others_19 : decode um_M_others.2.1 19 = .ok (.iload_n 3, 1) := by decide +kernel
theorem d_M_others_20 : decode um_M_others.2.1 20 = .ok (.if_icmp .eq 10, 3) := by decide +kernel
theorem d_M_others_23 : decode um_M_others.2.1 23 = .ok (.iload 4, 2) := by decide +kernel
theorem d_M_others_25 : decode um_M_others.2.1 25 = .ok (.iconst 1, 1) := by decide +kernel
theorem d_M_others_26 : decode um_M_others.2.1 26 = .ok (.iadd, 1) := by decide +kernel
theorem d_M_others_27 : decode um_M_others.2.1 27 = .ok (.goto 5, 3) := by decide +kernel
theorem d_M_others_30 : decode um_M_others.2.1 30 = .ok (.iload 4, 2) := by decide +kernel
theorem d_M_others_32 : decode um_M_others.2.1 32 = .ok (.istore 4, 2) := by decide +kernel
theorem d_M_others_34 : decode um_M_others.2.1 34 = .ok (.iinc 5 1, 3) := by decide +kernel
theorem d_M_others_37 : decode um_M_others.2.1 37 = .ok (.goto (-31), 3) := by decide +kernel
theorem d_M_others_40 : decode um_M_others.2.1 40 = .ok (.iload 4, 2) := by decide +kernel
theorem d_M_others_42 : decode um_M_others.2.1 42 = .ok (.ireturn, 1) := by decide +kernel
theorem d_M_putHunk_0 : decode um_M_putHunk.2.1 0 = .ok (.aload_n 0, 1) := by decide +kernel
theorem d_M_putHunk_1 : decode um_M_putHunk.2.1 1 = .ok (.bipush 64, 2) := by decide +kernel
theorem d_M_putHunk_3 : decode um_M_putHunk.2.1 3 = .ok (.invokevirtual 154, 3) := by decide +kernel
theorem d_M_putHunk_6 : decode um_M_putHunk.2.1 6 = .ok (.aload_n 0, 1) := by decide +kernel
theorem d_M_putHunk_7 : decode um_M_putHunk.2.1 7 = .ok (.aload_n 0, 1) := by decide +kernel
theorem d_M_putHunk_8 : decode um_M_putHunk.2.1 8 = .ok (.iconst 0, 1) := by decide +kernel
theorem d_M_putHunk_9 : decode um_M_putHunk.2.1 9 = .ok (.iload_n 1, 1) := by decide +kernel
theorem d_M_putHunk_10 : decode um_M_putHunk.2.1 10 = .ok (.bipush 43, 2) := by decide +kernel
theorem d_M_putHunk_12 : decode um_M_putHunk.2.1 12 = .ok (.invokevirtual 157, 3) := by decide +kernel
theorem d_M_putHunk_15 : decode um_M_putHunk.2.1 15 = .ok (.invokevirtual 161, 3) := by decide +kernel
theorem d_M_putHunk_18 : decode um_M_putHunk.2.1 18 = .ok (.aload_n 0, 1) := by decide +kernel
theorem d_M_putHunk_19 : decode um_M_putHunk.2.1 19 = .ok (.bipush 44, 2) := by decide +kernel
theorem d_M_putHunk_21 : decode um_M_putHunk.2.1 21 = .ok (.invokevirtual 154, 3) := by decide +kernel
theorem d_M_putHunk_24 : decode um_M_putHunk.2.1 24 = .ok (.aload_n 0, 1) := by decide +kernel
theorem d_M_putHunk_25 : decode um_M_putHunk.2.1 25 = .ok (.aload_n 0, 1) := by decide +kernel
theorem d_M_putHunk_26 : decode um_M_putHunk.2.1 26 = .ok (.iload_n 1, 1) := by decide +kernel
theorem d_M_putHunk_27 : decode um_M_putHunk.2.1 27 = .ok (.iload_n 2, 1) := by decide +kernel
theorem d_M_putHunk_28 : decode um_M_putHunk.2.1 28 = .ok (.bipush 43, 2) := by decide +kernel
theorem d_M_putHunk_30 : decode um_M_putHunk.2.1 30 = .ok (.invokevirtual 157, 3) := by decide +kernel
theorem d_M_putHunk_33 : decode um_M_putHunk.2.1 33 = .ok (.invokevirtual 161, 3) := by decide +kernel
theorem d_M_putHunk_36 : decode um_M_putHunk.2.1 36 = .ok (.aload_n 0, 1) := by decide +kernel
theorem d_M_putHunk_37 : decode um_M_putHunk.2.1 37 = .ok (.bipush 32, 2) := by decide +kernel
theorem d_M_putHunk_39 : decode um_M_putHunk.2.1 39 = .ok (.invokevirtual 154, 3) := by decide +kernel
theorem d_M_putHunk_42 : decode um_M_putHunk.2.1 42 = .ok (.aload_n 0, 1) := by decide +kernel
theorem d_M_putHunk_43 : decode um_M_putHunk.2.1 43 = .ok (.aload_n 0, 1) := by decide +kernel
theorem d_M_putHunk_44 : decode um_M_putHunk.2.1 44 = .ok (.iconst 0, 1) := by decide +kernel
theorem d_M_putHunk_45 : decode um_M_putHunk.2.1 45 = .ok (.iload_n 1, 1) := by decide +kernel
theorem d_M_putHunk_46 : decode um_M_putHunk.2.1 46 = .ok (.bipush 45, 2) := by decide +kernel
theorem d_M_putHunk_48 : decode um_M_putHunk.2.1 48 = .ok (.invokevirtual 157, 3) := by decide +kernel
theorem d_M_putHunk_51 : decode um_M_putHunk.2.1 51 = .ok (.invokevirtual 161, 3) := by decide +kernel
theorem d_M_putHunk_54 : decode um_M_putHunk.2.1 54 = .ok (.aload_n 0, 1) := by decide +kernel
theorem d_M_putHunk_55 : decode um_M_putHunk.2.1 55 = .ok (.bipush 44, 2) := by decide +kernel
theorem d_M_putHunk_57 : decode um_M_putHunk.2.1 57 = .ok (.invokevirtual 154, 3) := by decide +kernel
theorem d_M_putHunk_60 : decode um_M_putHunk.2.1 60 = .ok (.aload_n 0, 1) := by decide +kernel
theorem d_M_putHunk_61 : decode um_M_putHunk.2.1 61 = .ok (.aload_n 0, 1) := by decide +kernel
theorem d_M_putHunk_62 : decode um_M_putHunk.2.1 62 = .ok (.iload_n 1, 1) := by decide +kernel
theorem d_M_putHunk_63 : decode um_M_putHunk.2.1 63 = .ok (.iload_n 2, 1) := by decide +kernel
theorem d_M_putHunk_64 : decode um_M_putHunk.2.1 64 = .ok (.bipush 45, 2) := by decide +kernel
theorem d_M_putHunk_66 : decode um_M_putHunk.2.1 66 = .ok (.invokevirtual 157, 3) := by decide +kernel
theorem d_M_putHunk_69 : decode um_M_putHunk.2.1 69 = .ok (.invokevirtual 161, 3) := by decide +kernel
theorem d_M_putHunk_72 : decode um_M_putHunk.2.1 72 = .ok (.aload_n 0, 1) := by decide +kernel
theorem d_M_putHunk_73 : decode um_M_putHunk.2.1 73 = .ok (.bipush 10, 2) := by decide +kernel
theorem d_M_putHunk_75 : decode um_M_putHunk.2.1 75 = .ok (.invokevirtual 154, 3) := by decide +kernel
theorem d_M_putHunk_78 : decode um_M_putHunk.2.1 78 = .ok (.iload_n 1, 1) := by decide +kernel
theorem d_M_putHunk_79 : decode um_M_putHunk.2.1 79 = .ok (.istore_n 3, 1) := by decide +kernel
theorem d_M_putHunk_80 : decode um_M_putHunk.2.1 80 = .ok (.iload_n 3, 1) := by decide +kernel
theorem d_M_putHunk_81 : decode um_M_putHunk.2.1 81 = .ok (.iload_n 2, 1) := by decide +kernel
theorem d_M_putHunk_82 : decode um_M_putHunk.2.1 82 = .ok (.if_icmp .ge 35, 3) := by decide +kernel
theorem d_M_putHunk_85 : decode um_M_putHunk.2.1 85 = .ok (.aload_n 0, 1) := by decide +kernel
theorem d_M_putHunk_86 : decode um_M_putHunk.2.1 86 = .ok (.aload_n 0, 1) := by decide +kernel
theorem d_M_putHunk_87 : decode um_M_putHunk.2.1 87 = .ok (.getfield 55, 3) := by decide +kernel
theorem d_M_putHunk_90 : decode um_M_putHunk.2.1 90 = .ok (.iload_n 3, 1) := by decide +kernel
theorem d_M_putHunk_91 : decode um_M_putHunk.2.1 91 = .ok (.iaload, 1) := by decide +kernel
theorem d_M_putHunk_92 : decode um_M_putHunk.2.1 92 = .ok (.invokevirtual 154, 3) := by decide +kernel
theorem d_M_putHunk_95 : decode um_M_putHunk.2.1 95 = .ok (.aload_n 0, 1) := by decide +kernel
theorem d_M_putHunk_96 : decode um_M_putHunk.2.1 96 = .ok (.aload_n 0, 1) := by decide +kernel
theorem d_M_putHunk_97 : decode um_M_putHunk.2.1 97 = .ok (.getfield 58, 3) := by decide +kernel
theorem d_M_putHunk_100 : decode um_M_putHunk.2.1 100 = .ok (.iload_n 3, 1) := by decide +kernel
theorem d_M_putHunk_101 : decode um_M_putHunk.2.1 101 = .ok (.iaload, 1) := by decide +kernel
theorem d_M_putHunk_102 : decode um_M_putHunk.2.1 102 = .ok (.invokevirtual 154, 3) := by decide +kernel
theorem d_M_putHunk_105 : decode um_M_putHunk.2.1 105 = .ok (.aload_n 0, 1) := by decide +kernel
theorem d_M_putHunk_106 : decode um_M_putHunk.2.1 106 = .ok (.bipush 10, 2) := by decide +kernel
theorem d_M_putHunk_108 : decode um_M_putHunk.2.1 108 = .ok (.invokevirtual 154, 3) := by decide +kernel
theorem d_M_putHunk_111 : decode um_M_putHunk.2.1 111 = .ok (.iinc 3 1, 3) := by decide +kernel
theorem d_M_putHunk_114 : decode um_M_putHunk.2.1 114 = .ok (.goto (-34), 3) := by decide +kernel
theorem d_M_putHunk_117 : decode um_M_putHunk.2.1 117 = .ok (.return_, 1) := by decide +kernel
theorem d_M_lastOf_0 : decode um_M_lastOf.2.1 0 = .ok (.iload_n 1, 1) := by decide +kernel
theorem d_M_lastOf_1 : decode um_M_lastOf.2.1 1 = .ok (.istore_n 3, 1) := by decide +kernel
theorem d_M_lastOf_2 : decode um_M_lastOf.2.1 2 = .ok (.iload_n 1, 1) := by decide +kernel
theorem d_M_lastOf_3 : decode um_M_lastOf.2.1 3 = .ok (.istore 4, 2) := by decide +kernel
theorem d_M_lastOf_5 : decode um_M_lastOf.2.1 5 = .ok (.iload 4, 2) := by decide +kernel
theorem d_M_lastOf_7 : decode um_M_lastOf.2.1 7 = .ok (.aload_n 0, 1) := by decide +kernel
theorem d_M_lastOf_8 : decode um_M_lastOf.2.1 8 = .ok (.getfield 145, 3) := by decide +kernel
theorem d_M_lastOf_11 : decode um_M_lastOf.2.1 11 = .ok (.if_icmp .ge 40, 3) := by decide +kernel
theorem d_M_lastOf_14 : decode um_M_lastOf.2.1 14 = .ok (.iload 4, 2) := by decide +kernel
theorem d_M_lastOf_16 : decode um_M_lastOf.2.1 16 = .ok (.iload_n 3, 1) := by decide +kernel
theorem d_M_lastOf_17 : decode um_M_lastOf.2.1 17 = .ok (.isub, 1) := by decide +kernel
theorem d_M_lastOf_18 : decode um_M_lastOf.2.1 18 = .ok (.iconst 2, 1) := by decide +kernel
theorem d_M_lastOf_19 : decode um_M_lastOf.2.1 19 = .ok (.iload_n 2, 1) := by decide +kernel
theorem d_M_lastOf_20 : decode um_M_lastOf.2.1 20 = .ok (.imul, 1) := by decide +kernel
theorem d_M_lastOf_21 : decode um_M_lastOf.2.1 21 = .ok (.if_icmp .gt 30, 3) := by decide +kernel
theorem d_M_lastOf_24 : decode um_M_lastOf.2.1 24 = .ok (.aload_n 0, 1) := by decide +kernel
theorem d_M_lastOf_25 : decode um_M_lastOf.2.1 25 = .ok (.getfield 55, 3) := by decide +kernel
theorem d_M_lastOf_28 : decode um_M_lastOf.2.1 28 = .ok (.iload 4, 2) := by decide +kernel
theorem d_M_lastOf_30 : decode um_M_lastOf.2.1 30 = .ok (.iaload, 1) := by decide +kernel
theorem d_M_lastOf_31 : decode um_M_lastOf.2.1 31 = .ok (.bipush 32, 2) := by decide +kernel
theorem d_M_lastOf_33 : decode um_M_lastOf.2.1 33 = .ok (.if_icmp .eq 10, 3) := by decide +kernel
theorem d_M_lastOf_36 : decode um_M_lastOf.2.1 36 = .ok (.iload 4, 2) := by decide +kernel
theorem d_M_lastOf_38 : decode um_M_lastOf.2.1 38 = .ok (.iconst 1, 1) := by decide +kernel
theorem d_M_lastOf_39 : decode um_M_lastOf.2.1 39 = .ok (.iadd, 1) := by decide +kernel
theorem d_M_lastOf_40 : decode um_M_lastOf.2.1 40 = .ok (.goto 4, 3) := by decide +kernel
theorem d_M_lastOf_43 : decode um_M_lastOf.2.1 43 = .ok (.iload_n 3, 1) := by decide +kernel
theorem d_M_lastOf_44 : decode um_M_lastOf.2.1 44 = .ok (.istore_n 3, 1) := by decide +kernel
theorem d_M_lastOf_45 : decode um_M_lastOf.2.1 45 = .ok (.iinc 4 1, 3) := by decide +kernel
theorem d_M_lastOf_48 : decode um_M_lastOf.2.1 48 = .ok (.goto (-43), 3) := by decide +kernel
theorem d_M_lastOf_51 : decode um_M_lastOf.2.1 51 = .ok (.iload_n 3, 1) := by decide +kernel
theorem d_M_lastOf_52 : decode um_M_lastOf.2.1 52 = .ok (.ireturn, 1) := by decide +kernel
theorem d_M_write_0 : decode um_M_write.2.1 0 = .ok (.iload_n 1, 1) := by decide +kernel
theorem d_M_write_1 : decode um_M_write.2.1 1 = .ok (.iconst 0, 1) := by decide +kernel
theorem d_M_write_2 : decode um_M_write.2.1 2 = .ok (.iconst 3, 1) := by decide +kernel
theorem d_M_write_3 : decode um_M_write.2.1 3 = .ok (.invokestatic 88, 3) := by decide +kernel
theorem d_M_write_6 : decode um_M_write.2.1 6 = .ok (.ifCond .ne 5, 3) := by decide +kernel
theorem d_M_write_9 : decode um_M_write.2.1 9 = .ok (.iconst (-1), 1) := by decide +kernel
theorem d_M_write_10 : decode um_M_write.2.1 10 = .ok (.ireturn, 1) := by decide +kernel
theorem d_M_write_11 : decode um_M_write.2.1 11 = .ok (.aload_n 0, 1) := by decide +kernel
theorem d_M_write_12 : decode um_M_write.2.1 12 = .ok (.getfield 135, 3) := by decide +kernel
theorem d_M_write_15 : decode um_M_write.2.1 15 = .ok (.ifCond .ne 6, 3) := by decide +kernel
theorem d_M_write_18 : decode um_M_write.2.1 18 = .ok (.bipush (-3), 2) := by decide +kernel
theorem d_M_write_20 : decode um_M_write.2.1 20 = .ok (.ireturn, 1) := by decide +kernel
theorem d_M_write_21 : decode um_M_write.2.1 21 = .ok (.aload_n 0, 1) := by decide +kernel
theorem d_M_write_22 : decode um_M_write.2.1 22 = .ok (.invokevirtual 164, 3) := by decide +kernel
theorem d_M_write_25 : decode um_M_write.2.1 25 = .ok (.aload_n 0, 1) := by decide +kernel
theorem d_M_write_26 : decode um_M_write.2.1 26 = .ok (.iconst 0, 1) := by decide +kernel
theorem d_M_write_27 : decode um_M_write.2.1 27 = .ok (.putfield 151, 3) := by decide +kernel
theorem d_M_write_30 : decode um_M_write.2.1 30 = .ok (.iconst 0, 1) := by decide +kernel
theorem d_M_write_31 : decode um_M_write.2.1 31 = .ok (.istore_n 2, 1) := by decide +kernel
theorem d_M_write_32 : decode um_M_write.2.1 32 = .ok (.iconst 0, 1) := by decide +kernel
theorem d_M_write_33 : decode um_M_write.2.1 33 = .ok (.istore_n 3, 1) := by decide +kernel
theorem d_M_write_34 : decode um_M_write.2.1 34 = .ok (.iload_n 3, 1) := by decide +kernel
theorem d_M_write_35 : decode um_M_write.2.1 35 = .ok (.aload_n 0, 1) := by decide +kernel
theorem d_M_write_36 : decode um_M_write.2.1 36 = .ok (.getfield 145, 3) := by decide +kernel
theorem d_M_write_39 : decode um_M_write.2.1 39 = .ok (.if_icmp .ge 83, 3) := by decide +kernel
theorem d_M_write_42 : decode um_M_write.2.1 42 = .ok (.aload_n 0, 1) := by decide +kernel
theorem d_M_write_43 : decode um_M_write.2.1 43 = .ok (.getfield 55, 3) := by decide +kernel
theorem d_M_write_46 : decode um_M_write.2.1 46 = .ok (.iload_n 3, 1) := by decide +kernel
theorem d_M_write_47 : decode um_M_write.2.1 47 = .ok (.iaload, 1) := by decide +kernel
theorem d_M_write_48 : decode um_M_write.2.1 48 = .ok (.bipush 32, 2) := by decide +kernel
theorem d_M_write_50 : decode um_M_write.2.1 50 = .ok (.if_icmp .ne 9, 3) := by decide +kernel
theorem d_M_write_53 : decode um_M_write.2.1 53 = .ok (.iinc 3 1, 3) := by decide +kernel
theorem d_M_write_56 : decode um_M_write.2.1 56 = .ok (.goto (-22), 3) := by decide +kernel
theorem d_M_write_59 : decode um_M_write.2.1 59 = .ok (.aload_n 0, 1) := by decide +kernel
theorem d_M_write_60 : decode um_M_write.2.1 60 = .ok (.iload_n 3, 1) := by decide +kernel
theorem d_M_write_61 : decode um_M_write.2.1 61 = .ok (.iload_n 1, 1) := by decide +kernel
theorem d_M_write_62 : decode um_M_write.2.1 62 = .ok (.invokevirtual 167, 3) := by decide +kernel
theorem d_M_write_65 : decode um_M_write.2.1 65 = .ok (.istore 4, 2) := by decide +kernel
theorem d_M_write_67 : decode um_M_write.2.1 67 = .ok (.iload_n 3, 1) := by decide +kernel
theorem d_M_write_68 : decode um_M_write.2.1 68 = .ok (.iload_n 1, 1) := by decide +kernel
theorem d_M_write_69 : decode um_M_write.2.1 69 = .ok (.if_icmp .ge 7, 3) := by decide +kernel
theorem d_M_write_72 : decode um_M_write.2.1 72 = .ok (.iconst 0, 1) := by decide +kernel
theorem d_M_write_73 : decode um_M_write.2.1 73 = .ok (.goto 6, 3) := by decide +kernel
theorem d_M_write_76 : decode um_M_write.2.1 76 = .ok (.iload_n 3, 1) := by decide +kernel
theorem d_M_write_77 : decode um_M_write.2.1 77 = .ok (.iload_n 1, 1) := by decide +kernel
theorem d_M_write_78 : decode um_M_write.2.1 78 = .ok (.isub, 1) := by decide +kernel
theorem d_M_write_79 : decode um_M_write.2.1 79 = .ok (.istore 5, 2) := by decide +kernel
theorem d_M_write_81 : decode um_M_write.2.1 81 = .ok (.iload 4, 2) := by decide +kernel
theorem d_M_write_83 : decode um_M_write.2.1 83 = .ok (.iload_n 1, 1) := by decide +kernel
theorem d_M_write_84 : decode um_M_write.2.1 84 = .ok (.iadd, 1) := by decide +kernel
theorem d_M_write_85 : decode um_M_write.2.1 85 = .ok (.aload_n 0, 1) := by decide +kernel
theorem d_M_write_86 : decode um_M_write.2.1 86 = .ok (.getfield 145, 3) := by decide +kernel
theorem d_M_write_89 : decode um_M_write.2.1 89 = .ok (.if_icmp .le 10, 3) := by decide +kernel
theorem d_M_write_92 : decode um_M_write.2.1 92 = .ok (.aload_n 0, 1) := by decide +kernel
theorem d_M_write_93 : decode um_M_write.2.1 93 = .ok (.getfield 145, 3) := by decide +kernel
theorem d_M_write_96 : decode um_M_write.2.1 96 = .ok (.goto 7, 3) := by decide +kernel
theorem d_M_write_99 : decode um_M_write.2.1 99 = .ok (.iload 4, 2) := by decide +kernel
theorem d_M_write_101 : decode um_M_write.2.1 101 = .ok (.iload_n 1, 1) := by decide +kernel
theorem d_M_write_102 : decode um_M_write.2.1 102 = .ok (.iadd, 1) := by decide +kernel
theorem d_M_write_103 : decode um_M_write.2.1 103 = .ok (.istore 6, 2) := by decide +kernel
theorem d_M_write_105 : decode um_M_write.2.1 105 = .ok (.aload_n 0, 1) := by decide +kernel
theorem d_M_write_106 : decode um_M_write.2.1 106 = .ok (.iload 5, 2) := by decide +kernel
theorem d_M_write_108 : decode um_M_write.2.1 108 = .ok (.iload 6, 2) := by decide +kernel
theorem d_M_write_110 : decode um_M_write.2.1 110 = .ok (.invokevirtual 171, 3) := by decide +kernel
theorem d_M_write_113 : decode um_M_write.2.1 113 = .ok (.iinc 2 1, 3) := by decide +kernel
theorem d_M_write_116 : decode um_M_write.2.1 116 = .ok (.iload 4, 2) := by decide +kernel
theorem d_M_write_118 : decode um_M_write.2.1 118 = .ok (.istore_n 3, 1) := by decide +kernel
theorem d_M_write_119 : decode um_M_write.2.1 119 = .ok (.goto (-85), 3) := by decide +kernel
theorem d_M_write_122 : decode um_M_write.2.1 122 = .ok (.iload_n 2, 1) := by decide +kernel
theorem d_M_write_123 : decode um_M_write.2.1 123 = .ok (.ireturn, 1) := by decide +kernel
theorem d_M_type_0 : decode um_M_type.2.1 0 = .ok (.iload_n 3, 1) := by decide +kernel
theorem d_M_type_1 : decode um_M_type.2.1 1 = .ok (.iconst 1, 1) := by decide +kernel
theorem d_M_type_2 : decode um_M_type.2.1 2 = .ok (.bipush 8, 2) := by decide +kernel
theorem d_M_type_4 : decode um_M_type.2.1 4 = .ok (.invokestatic 88, 3) := by decide +kernel
theorem d_M_type_7 : decode um_M_type.2.1 7 = .ok (.ifCond .ne 5, 3) := by decide +kernel
theorem d_M_type_10 : decode um_M_type.2.1 10 = .ok (.iconst (-1), 1) := by decide +kernel
theorem d_M_type_11 : decode um_M_type.2.1 11 = .ok (.ireturn, 1) := by decide +kernel
theorem d_M_type_12 : decode um_M_type.2.1 12 = .ok (.aload_n 0, 1) := by decide +kernel
theorem d_M_type_13 : decode um_M_type.2.1 13 = .ok (.getfield 151, 3) := by decide +kernel
theorem d_M_type_16 : decode um_M_type.2.1 16 = .ok (.iload_n 3, 1) := by decide +kernel
theorem d_M_type_17 : decode um_M_type.2.1 17 = .ok (.iadd, 1) := by decide +kernel
theorem d_M_type_18 : decode um_M_type.2.1 18 = .ok (.sipush 900, 3) := by decide +kernel
theorem d_M_type_21 : decode um_M_type.2.1 21 = .ok (.if_icmp .le 6, 3) := by decide +kernel
theorem d_M_type_24 : decode um_M_type.2.1 24 = .ok (.bipush (-2), 2) := by decide +kernel
theorem d_M_type_26 : decode um_M_type.2.1 26 = .ok (.ireturn, 1) := by decide +kernel
theorem d_M_type_27 : decode um_M_type.2.1 27 = .ok (.iload_n 3, 1) := by decide +kernel
theorem d_M_type_28 : decode um_M_type.2.1 28 = .ok (.iconst 1, 1) := by decide +kernel
theorem d_M_type_29 : decode um_M_type.2.1 29 = .ok (.isub, 1) := by decide +kernel
theorem d_M_type_30 : decode um_M_type.2.1 30 = .ok (.istore 4, 2) := by decide +kernel
theorem d_M_type_32 : decode um_M_type.2.1 32 = .ok (.iload 4, 2) := by decide +kernel
theorem d_M_type_34 : decode um_M_type.2.1 34 = .ok (.ifCond .lt 25, 3) := by decide +kernel
theorem d_M_type_37 : decode um_M_type.2.1 37 = .ok (.aload_n 0, 1) := by decide +kernel
theorem d_M_type_38 : decode um_M_type.2.1 38 = .ok (.lload_n 1, 1) := by decide +kernel
theorem d_M_type_39 : decode um_M_type.2.1 39 = .ok (.bipush 8, 2) := by decide +kernel
theorem d_M_type_41 : decode um_M_type.2.1 41 = .ok (.iload 4, 2) := by decide +kernel
theorem d_M_type_43 : decode um_M_type.2.1 43 = .ok (.imul, 1) := by decide +kernel
theorem d_M_type_44 : decode um_M_type.2.1 44 = .ok (.lshr, 1) := by decide +kernel
theorem d_M_type_45 : decode um_M_type.2.1 45 = .ok (.l2i, 1) := by decide +kernel
theorem d_M_type_46 : decode um_M_type.2.1 46 = .ok (.sipush 255, 3) := by decide +kernel
theorem d_M_type_49 : decode um_M_type.2.1 49 = .ok (.iand, 1) := by decide +kernel
theorem d_M_type_50 : decode um_M_type.2.1 50 = .ok (.invokevirtual 154, 3) := by decide +kernel
theorem d_M_type_53 : decode um_M_type.2.1 53 = .ok (.iinc 4 (-1), 3) := by decide +kernel
theorem d_M_type_56 : decode um_M_type.2.1 56 = .ok (.goto (-24), 3) := by decide +kernel
theorem d_M_type_59 : decode um_M_type.2.1 59 = .ok (.aload_n 0, 1) := by decide +kernel
theorem d_M_type_60 : decode um_M_type.2.1 60 = .ok (.getfield 151, 3) := by decide +kernel
theorem d_M_type_63 : decode um_M_type.2.1 63 = .ok (.ireturn, 1) := by decide +kernel
theorem d_M_wipe_0 : decode um_M_wipe.2.1 0 = .ok (.aload_n 0, 1) := by decide +kernel
theorem d_M_wipe_1 : decode um_M_wipe.2.1 1 = .ok (.getfield 151, 3) := by decide +kernel
theorem d_M_wipe_4 : decode um_M_wipe.2.1 4 = .ok (.istore_n 1, 1) := by decide +kernel
theorem d_M_wipe_5 : decode um_M_wipe.2.1 5 = .ok (.aload_n 0, 1) := by decide +kernel
theorem d_M_wipe_6 : decode um_M_wipe.2.1 6 = .ok (.iconst 0, 1) := by decide +kernel
theorem d_M_wipe_7 : decode um_M_wipe.2.1 7 = .ok (.putfield 151, 3) := by decide +kernel
theorem d_M_wipe_10 : decode um_M_wipe.2.1 10 = .ok (.iload_n 1, 1) := by decide +kernel
theorem d_M_wipe_11 : decode um_M_wipe.2.1 11 = .ok (.ireturn, 1) := by decide +kernel
theorem d_M_character_0 : decode um_M_character.2.1 0 = .ok (.iload_n 1, 1) := by decide +kernel
theorem d_M_character_1 : decode um_M_character.2.1 1 = .ok (.iconst 0, 1) := by decide +kernel
theorem d_M_character_2 : decode um_M_character.2.1 2 = .ok (.aload_n 0, 1) := by decide +kernel
theorem d_M_character_3 : decode um_M_character.2.1 3 = .ok (.getfield 151, 3) := by decide +kernel
theorem d_M_character_6 : decode um_M_character.2.1 6 = .ok (.iconst 1, 1) := by decide +kernel
theorem d_M_character_7 : decode um_M_character.2.1 7 = .ok (.isub, 1) := by decide +kernel
theorem d_M_character_8 : decode um_M_character.2.1 8 = .ok (.invokestatic 88, 3) := by decide +kernel
theorem d_M_character_11 : decode um_M_character.2.1 11 = .ok (.ifCond .eq 12, 3) := by decide +kernel
theorem d_M_character_14 : decode um_M_character.2.1 14 = .ok (.aload_n 0, 1) := by decide +kernel
theorem d_M_character_15 : decode um_M_character.2.1 15 = .ok (.getfield 61, 3) := by decide +kernel
theorem d_M_character_18 : decode um_M_character.2.1 18 = .ok (.iload_n 1, 1) := by decide +kernel
theorem d_M_character_19 : decode um_M_character.2.1 19 = .ok (.iaload, 1) := by decide +kernel
theorem d_M_character_20 : decode um_M_character.2.1 20 = .ok (.goto 5, 3) := by decide +kernel
theorem d_M_character_23 : decode um_M_character.2.1 23 = .ok (.bipush (-3), 2) := by decide +kernel
theorem d_M_character_25 : decode um_M_character.2.1 25 = .ok (.ireturn, 1) := by decide +kernel
theorem d_M_look_0 : decode um_M_look.2.1 0 = .ok (.aload_n 0, 1) := by decide +kernel
theorem d_M_look_1 : decode um_M_look.2.1 1 = .ok (.getfield 174, 3) := by decide +kernel
theorem d_M_look_4 : decode um_M_look.2.1 4 = .ok (.aload_n 0, 1) := by decide +kernel
theorem d_M_look_5 : decode um_M_look.2.1 5 = .ok (.getfield 151, 3) := by decide +kernel
theorem d_M_look_8 : decode um_M_look.2.1 8 = .ok (.if_icmp .ge 15, 3) := by decide +kernel
theorem d_M_look_11 : decode um_M_look.2.1 11 = .ok (.aload_n 0, 1) := by decide +kernel
theorem d_M_look_12 : decode um_M_look.2.1 12 = .ok (.getfield 61, 3) := by decide +kernel
theorem d_M_look_15 : decode um_M_look.2.1 15 = .ok (.aload_n 0, 1) := by decide +kernel
theorem d_M_look_16 : decode um_M_look.2.1 16 = .ok (.getfield 174, 3) := by decide +kernel
theorem d_M_look_19 : decode um_M_look.2.1 19 = .ok (.iaload, 1) := by decide +kernel
theorem d_M_look_20 : decode um_M_look.2.1 20 = .ok (.goto 4, 3) := by decide +kernel
theorem d_M_look_23 : decode um_M_look.2.1 23 = .ok (.iconst (-1), 1) := by decide +kernel
theorem d_M_look_24 : decode um_M_look.2.1 24 = .ok (.ireturn, 1) := by decide +kernel
theorem d_M_want_0 : decode um_M_want.2.1 0 = .ok (.aload_n 0, 1) := by decide +kernel
theorem d_M_want_1 : decode um_M_want.2.1 1 = .ok (.aload_n 0, 1) := by decide +kernel
theorem d_M_want_2 : decode um_M_want.2.1 2 = .ok (.getfield 177, 3) := by decide +kernel
theorem d_M_want_5 : decode um_M_want.2.1 5 = .ok (.ifCond .ne 11, 3) := by decide +kernel
theorem d_M_want_8 : decode um_M_want.2.1 8 = .ok (.aload_n 0, 1) := by decide +kernel
theorem d_M_want_9 : decode um_M_want.2.1 9 = .ok (.invokevirtual 180, 3) := by decide +kernel
theorem d_M_want_12 : decode um_M_want.2.1 12 = .ok (.iload_n 1, 1) := by decide +kernel
theorem d_M_want_13 : decode um_M_want.2.1 13 = .ok (.if_icmp .eq 7, 3) := by decide +kernel
theorem d_M_want_16 : decode um_M_want.2.1 16 = .ok (.iconst 1, 1) := by decide +kernel
theorem d_M_want_17 : decode um_M_want.2.1 17 = .ok (.goto 4, 3) := by decide +kernel
theorem d_M_want_20 : decode um_M_want.2.1 20 = .ok (.iconst 0, 1) := by decide +kernel
theorem d_M_want_21 : decode um_M_want.2.1 21 = .ok (.putfield 177, 3) := by decide +kernel
theorem d_M_want_24 : decode um_M_want.2.1 24 = .ok (.aload_n 0, 1) := by decide +kernel
theorem d_M_want_25 : decode um_M_want.2.1 25 = .ok (.aload_n 0, 1) := by decide +kernel
theorem d_M_want_26 : decode um_M_want.2.1 26 = .ok (.getfield 177, 3) := by decide +kernel
theorem d_M_want_29 : decode um_M_want.2.1 29 = .ok (.ifCond .eq 10, 3) := by decide +kernel
theorem d_M_want_32 : decode um_M_want.2.1 32 = .ok (.aload_n 0, 1) := by decide +kernel
theorem d_M_want_33 : decode um_M_want.2.1 33 = .ok (.getfield 174, 3) := by decide +kernel
theorem d_M_want_36 : decode um_M_want.2.1 36 = .ok (.goto 9, 3) := by decide +kernel
theorem d_M_want_39 : decode um_M_want.2.1 39 = .ok (.aload_n 0, 1) := by decide +kernel
theorem d_M_want_40 : decode um_M_want.2.1 40 = .ok (.getfield 174, 3) := by decide +kernel
theorem d_M_want_43 : decode um_M_want.2.1 43 = .ok (.iconst 1, 1) := by decide +kernel
theorem d_M_want_44 : decode um_M_want.2.1 44 = .ok (.iadd, 1) := by decide +kernel
theorem d_M_want_45 : decode um_M_want.2.1 45 = .ok (.putfield 174, 3) := by decide +kernel
theorem d_M_want_48 : decode um_M_want.2.1 48 = .ok (.return_, 1) := by decide +kernel
theorem d_M_number_0 : decode um_M_number.2.1 0 = .ok (.aload_n 0, 1) := by decide +kernel
theorem d_M_number_1 : decode um_M_number.2.1 1 = .ok (.getfield 177, 3) := by decide +kernel
theorem d_M_number_4 : decode um_M_number.2.1 4 = .ok (.ifCond .ne 17, 3) := by decide +kernel
theorem d_M_number_7 : decode um_M_number.2.1 7 = .ok (.aload_n 0, 1) := by decide +kernel
theorem d_M_number_8 : decode um_M_number.2.1 8 = .ok (.invokevirtual 180, 3) := by decide +kernel
theorem d_M_number_11 : decode um_M_number.2.1 11 = .ok (.bipush 48, 2) := by decide +kernel
theorem d_M_number_13 : decode um_M_number.2.1 13 = .ok (.bipush 57, 2) := by decide +kernel
theorem d_M_number_15 : decode um_M_number.2.1 15 = .ok (.invokestatic 88, 3) := by decide +kernel
theorem d_M_number_18 : decode um_M_number.2.1 18 = .ok (.ifCond .ne 10, 3) := by decide +kernel
theorem d_M_number_21 : decode um_M_number.2.1 21 = .ok (.aload_n 0, 1) := by decide +kernel
theorem d_M_number_22 : decode um_M_number.2.1 22 = .ok (.iconst 1, 1) := by decide +kernel
theorem d_M_number_23 : decode um_M_number.2.1 23 = .ok (.putfield 177, 3) := by decide +kernel
theorem d_M_number_26 : decode um_M_number.2.1 26 = .ok (.iconst 0, 1) := by decide +kernel
theorem d_M_number_27 : decode um_M_number.2.1 27 = .ok (.ireturn, 1) := by decide +kernel
theorem d_M_number_28 : decode um_M_number.2.1 28 = .ok (.aload_n 0, 1) := by decide +kernel
theorem d_M_number_29 : decode um_M_number.2.1 29 = .ok (.invokevirtual 180, 3) := by decide +kernel
theorem d_M_number_32 : decode um_M_number.2.1 32 = .ok (.bipush 48, 2) := by decide +kernel
theorem d_M_number_34 : decode um_M_number.2.1 34 = .ok (.isub, 1) := by decide +kernel
theorem d_M_number_35 : decode um_M_number.2.1 35 = .ok (.istore_n 1, 1) := by decide +kernel
theorem d_M_number_36 : decode um_M_number.2.1 36 = .ok (.aload_n 0, 1) := by decide +kernel
theorem d_M_number_37 : decode um_M_number.2.1 37 = .ok (.dup, 1) := by decide +kernel
theorem d_M_number_38 : decode um_M_number.2.1 38 = .ok (.getfield 174, 3) := by decide +kernel
theorem d_M_number_41 : decode um_M_number.2.1 41 = .ok (.iconst 1, 1) := by decide +kernel
theorem d_M_number_42 : decode um_M_number.2.1 42 = .ok (.iadd, 1) := by decide +kernel
theorem d_M_number_43 : decode um_M_number.2.1 43 = .ok (.putfield 174, 3) := by decide +kernel
theorem d_M_number_46 : decode um_M_number.2.1 46 = .ok (.iload_n 1, 1) := by decide +kernel
theorem d_M_number_47 : decode um_M_number.2.1 47 = .ok (.ifCond .le 40, 3) := by decide +kernel
theorem d_M_number_50 : decode um_M_number.2.1 50 = .ok (.aload_n 0, 1) := by decide +kernel
theorem d_M_number_51 : decode um_M_number.2.1 51 = .ok (.invokevirtual 180, 3) := by decide +kernel
theorem d_M_number_54 : decode um_M_number.2.1 54 = .ok (.bipush 48, 2) := by decide +kernel
theorem d_M_number_56 : decode um_M_number.2.1 56 = .ok (.bipush 57, 2) := by decide +kernel
theorem d_M_number_58 : decode um_M_number.2.1 58 = .ok (.invokestatic 88, 3) := by decide +kernel
theorem d_M_number_61 : decode um_M_number.2.1 61 = .ok (.ifCond .eq 26, 3) := by decide +kernel
theorem d_M_number_64 : decode um_M_number.2.1 64 = .ok (.bipush 10, 2) := by decide +kernel
theorem d_M_number_66 : decode um_M_number.2.1 66 = .ok (.iload_n 1, 1) := by decide +kernel
theorem d_M_number_67 : decode um_M_number.2.1 67 = .ok (.imul, 1) := by decide +kernel
theorem d_M_number_68 : decode um_M_number.2.1 68 = .ok (.aload_n 0, 1) := by decide +kernel
theorem d_M_number_69 : decode um_M_number.2.1 69 = .ok (.invokevirtual 180, 3) := by decide +kernel
theorem d_M_number_72 : decode um_M_number.2.1 72 = .ok (.iadd, 1) := by decide +kernel
theorem d_M_number_73 : decode um_M_number.2.1 73 = .ok (.bipush 48, 2) := by decide +kernel
theorem d_M_number_75 : decode um_M_number.2.1 75 = .ok (.isub, 1) := by decide +kernel
theorem d_M_number_76 : decode um_M_number.2.1 76 = .ok (.istore_n 1, 1) := by decide +kernel
theorem d_M_number_77 : decode um_M_number.2.1 77 = .ok (.aload_n 0, 1) := by decide +kernel
theorem d_M_number_78 : decode um_M_number.2.1 78 = .ok (.dup, 1) := by decide +kernel
theorem d_M_number_79 : decode um_M_number.2.1 79 = .ok (.getfield 174, 3) := by decide +kernel
theorem d_M_number_82 : decode um_M_number.2.1 82 = .ok (.iconst 1, 1) := by decide +kernel
theorem d_M_number_83 : decode um_M_number.2.1 83 = .ok (.iadd, 1) := by decide +kernel
theorem d_M_number_84 : decode um_M_number.2.1 84 = .ok (.putfield 174, 3) := by decide +kernel
theorem d_M_number_87 : decode um_M_number.2.1 87 = .ok (.iload_n 1, 1) := by decide +kernel
theorem d_M_number_88 : decode um_M_number.2.1 88 = .ok (.ireturn, 1) := by decide +kernel
theorem d_M_readHunk_0 : decode um_M_readHunk.2.1 0 = .ok (.aload_n 0, 1) := by decide +kernel
theorem d_M_readHunk_1 : decode um_M_readHunk.2.1 1 = .ok (.bipush 64, 2) := by decide +kernel
theorem d_M_readHunk_3 : decode um_M_readHunk.2.1 3 = .ok (.invokevirtual 184, 3) := by decide +kernel
theorem d_M_readHunk_6 : decode um_M_readHunk.2.1 6 = .ok (.aload_n 0, 1) := by decide +kernel
theorem d_M_readHunk_7 : decode um_M_readHunk.2.1 7 = .ok (.getfield 64, 3) := by decide +kernel
theorem d_M_readHunk_10 : decode um_M_readHunk.2.1 10 = .ok (.aload_n 0, 1) := by decide +kernel
theorem d_M_readHunk_11 : decode um_M_readHunk.2.1 11 = .ok (.getfield 187, 3) := by decide +kernel
theorem d_M_readHunk_14 : decode um_M_readHunk.2.1 14 = .ok (.aload_n 0, 1) := by decide +kernel
theorem d_M_readHunk_15 : decode um_M_readHunk.2.1 15 = .ok (.invokevirtual 190, 3) := by decide +kernel
theorem d_M_readHunk_18 : decode um_M_readHunk.2.1 18 = .ok (.iastore, 1) := by decide +kernel
theorem d_M_readHunk_19 : decode um_M_readHunk.2.1 19 = .ok (.aload_n 0, 1) := by decide +kernel
theorem d_M_readHunk_20 : decode um_M_readHunk.2.1 20 = .ok (.bipush 44, 2) := by decide +kernel
theorem d_M_readHunk_22 : decode um_M_readHunk.2.1 22 = .ok (.invokevirtual 184, 3) := by decide +kernel
theorem d_M_readHunk_25 : decode um_M_readHunk.2.1 25 = .ok (.aload_n 0, 1) := by decide +kernel
theorem d_M_readHunk_26 : decode um_M_readHunk.2.1 26 = .ok (.invokevirtual 190, 3) := by decide +kernel
theorem d_M_readHunk_29 : decode um_M_readHunk.2.1 29 = .ok (.istore_n 1, 1) := by decide +kernel
theorem d_M_readHunk_30 : decode um_M_readHunk.2.1 30 = .ok (.aload_n 0, 1) := by decide +kernel
theorem d_M_readHunk_31 : decode um_M_readHunk.2.1 31 = .ok (.bipush 32, 2) := by decide +kernel
theorem d_M_readHunk_33 : decode um_M_readHunk.2.1 33 = .ok (.invokevirtual 184, 3) := by decide +kernel
theorem d_M_readHunk_36 : decode um_M_readHunk.2.1 36 = .ok (.aload_n 0, 1) := by decide +kernel
theorem d_M_readHunk_37 : decode um_M_readHunk.2.1 37 = .ok (.invokevirtual 190, 3) := by decide +kernel
theorem d_M_readHunk_40 : decode um_M_readHunk.2.1 40 = .ok (.pop, 1) := by decide +kernel
theorem d_M_readHunk_41 : decode um_M_readHunk.2.1 41 = .ok (.aload_n 0, 1) := by decide +kernel
theorem d_M_readHunk_42 : decode um_M_readHunk.2.1 42 = .ok (.bipush 44, 2) := by decide +kernel
theorem d_M_readHunk_44 : decode um_M_readHunk.2.1 44 = .ok (.invokevirtual 184, 3) := by decide +kernel
theorem d_M_readHunk_47 : decode um_M_readHunk.2.1 47 = .ok (.aload_n 0, 1) := by decide +kernel
theorem d_M_readHunk_48 : decode um_M_readHunk.2.1 48 = .ok (.invokevirtual 190, 3) := by decide +kernel
theorem d_M_readHunk_51 : decode um_M_readHunk.2.1 51 = .ok (.istore_n 2, 1) := by decide +kernel
theorem d_M_readHunk_52 : decode um_M_readHunk.2.1 52 = .ok (.aload_n 0, 1) := by decide +kernel
theorem d_M_readHunk_53 : decode um_M_readHunk.2.1 53 = .ok (.aload_n 0, 1) := by decide +kernel
theorem d_M_readHunk_54 : decode um_M_readHunk.2.1 54 = .ok (.getfield 177, 3) := by decide +kernel
theorem d_M_readHunk_57 : decode um_M_readHunk.2.1 57 = .ok (.ifCond .ne 11, 3) := by decide +kernel
theorem d_M_readHunk_60 : decode um_M_readHunk.2.1 60 = .ok (.iload_n 1, 1) := by decide +kernel
theorem d_M_readHunk_61 : decode um_M_readHunk.2.1 61 = .ok (.ifCond .ne 11, 3) := by decide +kernel
theorem d_M_readHunk_64 : decode um_M_readHunk.2.1 64 = .ok (.iload_n 2, 1) := by decide +kernel
theorem d_M_readHunk_65 : decode um_M_readHunk.2.1 65 = .ok (.ifCond .ne 7, 3) := by decide +kernel
theorem d_M_readHunk_68 : decode um_M_readHunk.2.1 68 = .ok (.iconst 1, 1) := by decide +kernel
theorem d_M_readHunk_69 : decode um_M_readHunk.2.1 69 = .ok (.goto 4, 3) := by decide +kernel
theorem d_M_readHunk_72 : decode um_M_readHunk.2.1 72 = .ok (.iconst 0, 1) := by decide +kernel
theorem d_M_readHunk_73 : decode um_M_readHunk.2.1 73 = .ok (.putfield 177, 3) := by decide +kernel
theorem d_M_readHunk_76 : decode um_M_readHunk.2.1 76 = .ok (.aload_n 0, 1) := by decide +kernel
theorem d_M_readHunk_77 : decode um_M_readHunk.2.1 77 = .ok (.bipush 10, 2) := by decide +kernel
theorem d_M_readHunk_79 : decode um_M_readHunk.2.1 79 = .ok (.invokevirtual 184, 3) := by decide +kernel
theorem d_M_readHunk_82 : decode um_M_readHunk.2.1 82 = .ok (.aload_n 0, 1) := by decide +kernel
theorem d_M_readHunk_83 : decode um_M_readHunk.2.1 83 = .ok (.getfield 67, 3) := by decide +kernel
theorem d_M_readHunk_86 : decode um_M_readHunk.2.1 86 = .ok (.aload_n 0, 1) := by decide +kernel
theorem d_M_readHunk_87 : decode um_M_readHunk.2.1 87 = .ok (.getfield 187, 3) := by decide +kernel
theorem d_M_readHunk_90 : decode um_M_readHunk.2.1 90 = .ok (.iload_n 1, 1) := by decide +kernel
theorem d_M_readHunk_91 : decode um_M_readHunk.2.1 91 = .ok (.iastore, 1) := by decide +kernel
theorem d_M_readHunk_92 : decode um_M_readHunk.2.1 92 = .ok (.aload_n 0, 1) := by decide +kernel
theorem d_M_readHunk_93 : decode um_M_readHunk.2.1 93 = .ok (.getfield 70, 3) := by decide +kernel
theorem d_M_readHunk_96 : decode um_M_readHunk.2.1 96 = .ok (.aload_n 0, 1) := by decide +kernel
theorem d_M_readHunk_97 : decode um_M_readHunk.2.1 97 = .ok (.getfield 187, 3) := by decide +kernel
theorem d_M_readHunk_100 : decode um_M_readHunk.2.1 100 = .ok (.iload_n 2, 1) := by decide +kernel
theorem d_M_readHunk_101 : decode um_M_readHunk.2.1 101 = .ok (.iastore, 1) := by decide +kernel
theorem d_M_readHunk_102 : decode um_M_readHunk.2.1 102 = .ok (.aload_n 0, 1) := by decide +kernel
theorem d_M_readHunk_103 : decode um_M_readHunk.2.1 103 = .ok (.getfield 76, 3) := by decide +kernel
theorem d_M_readHunk_106 : decode um_M_readHunk.2.1 106 = .ok (.aload_n 0, 1) := by decide +kernel
theorem d_M_readHunk_107 : decode um_M_readHunk.2.1 107 = .ok (.getfield 187, 3) := by decide +kernel
theorem d_M_readHunk_110 : decode um_M_readHunk.2.1 110 = .ok (.aload_n 0, 1) := by decide +kernel
theorem d_M_readHunk_111 : decode um_M_readHunk.2.1 111 = .ok (.getfield 174, 3) := by decide +kernel
theorem d_M_readHunk_114 : decode um_M_readHunk.2.1 114 = .ok (.iastore, 1) := by decide +kernel
theorem d_M_readHunk_115 : decode um_M_readHunk.2.1 115 = .ok (.iconst 0, 1) := by decide +kernel
theorem d_M_readHunk_116 : decode um_M_readHunk.2.1 116 = .ok (.istore_n 3, 1) := by decide +kernel
theorem d_M_readHunk_117 : decode um_M_readHunk.2.1 117 = .ok (.aload_n 0, 1) := by decide +kernel
theorem d_M_readHunk_118 : decode um_M_readHunk.2.1 118 = .ok (.getfield 177, 3) := by decide +kernel
theorem d_M_readHunk_121 : decode um_M_readHunk.2.1 121 = .ok (.ifCond .ne 215, 3) := by decide +kernel
theorem d_M_readHunk_124 : decode um_M_readHunk.2.1 124 = .ok (.iload_n 1, 1) := by decide +kernel
theorem d_M_readHunk_125 : decode um_M_readHunk.2.1 125 = .ok (.ifCond .gt 7, 3) := by decide +kernel
theorem d_M_readHunk_128 : decode um_M_readHunk.2.1 128 = .ok (.iload_n 2, 1) := by decide +kernel
theorem d_M_readHunk_129 : decode um_M_readHunk.2.1 129 = .ok (.ifCond .le 207, 3) := by decide +kernel
theorem d_M_readHunk_132 : decode um_M_readHunk.2.1 132 = .ok (.aload_n 0, 1) := by decide +kernel
theorem d_M_readHunk_133 : decode um_M_readHunk.2.1 133 = .ok (.invokevirtual 180, 3) := by decide +kernel
theorem d_M_readHunk_136 : decode um_M_readHunk.2.1 136 = .ok (.istore 4, 2) := by decide +kernel
theorem d_M_readHunk_138 : decode um_M_readHunk.2.1 138 = .ok (.iload 4, 2) := by decide +kernel
theorem d_M_readHunk_140 : decode um_M_readHunk.2.1 140 = .ok (.bipush 32, 2) := by decide +kernel
theorem d_M_readHunk_142 : decode um_M_readHunk.2.1 142 = .ok (.if_icmp .ne 19, 3) := by decide +kernel
theorem d_M_readHunk_145 : decode um_M_readHunk.2.1 145 = .ok (.iload_n 1, 1) := by decide +kernel
theorem d_M_readHunk_146 : decode um_M_readHunk.2.1 146 = .ok (.ifCond .le 11, 3) := by decide +kernel
theorem d_M_readHunk_149 : decode um_M_readHunk.2.1 149 = .ok (.iload_n 2, 1) := by decide +kernel
theorem d_M_readHunk_150 : decode um_M_readHunk.2.1 150 = .ok (.ifCond .le 7, 3) := by decide +kernel
theorem d_M_readHunk_153 : decode um_M_readHunk.2.1 153 = .ok (.iconst 1, 1) := by decide +kernel
theorem d_M_readHunk_154 : decode um_M_readHunk.2.1 154 = .ok (.goto 42, 3) := by decide +kernel
theorem d_M_readHunk_157 : decode um_M_readHunk.2.1 157 = .ok (.iconst 0, 1) := by decide +kernel
theorem d_M_readHunk_158 : decode um_M_readHunk.2.1 158 = .ok (.goto 38, 3) := by decide +kernel
theorem d_M_readHunk_161 : decode um_M_readHunk.2.1 161 = .ok (.iload 4, 2) := by decide +kernel
theorem d_M_readHunk_163 : decode um_M_readHunk.2.1 163 = .ok (.bipush 45, 2) := by decide +kernel
theorem d_M_readHunk_165 : decode um_M_readHunk.2.1 165 = .ok (.if_icmp .ne 15, 3) := by decide +kernel
theorem d_M_readHunk_168 : decode um_M_readHunk.2.1 168 = .ok (.iload_n 1, 1) := by decide +kernel
theorem d_M_readHunk_169 : decode um_M_readHunk.2.1 169 = .ok (.ifCond .le 7, 3) := by decide +kernel
theorem d_M_readHunk_172 : decode um_M_readHunk.2.1 172 = .ok (.iconst 1, 1) := by decide +kernel
theorem d_M_readHunk_173 : decode um_M_readHunk.2.1 173 = .ok (.goto 23, 3) := by decide +kernel
theorem d_M_readHunk_176 : decode um_M_readHunk.2.1 176 = .ok (.iconst 0, 1) := by decide +kernel
theorem d_M_readHunk_177 : decode um_M_readHunk.2.1 177 = .ok (.goto 19, 3) := by decide +kernel
theorem d_M_readHunk_180 : decode um_M_readHunk.2.1 180 = .ok (.iload 4, 2) := by decide +kernel
theorem d_M_readHunk_182 : decode um_M_readHunk.2.1 182 = .ok (.bipush 43, 2) := by decide +kernel
theorem d_M_readHunk_184 : decode um_M_readHunk.2.1 184 = .ok (.if_icmp .ne 11, 3) := by decide +kernel
theorem d_M_readHunk_187 : decode um_M_readHunk.2.1 187 = .ok (.iload_n 2, 1) := by decide +kernel
theorem d_M_readHunk_188 : decode um_M_readHunk.2.1 188 = .ok (.ifCond .le 7, 3) := by decide +kernel
theorem d_M_readHunk_191 : decode um_M_readHunk.2.1 191 = .ok (.iconst 1, 1) := by decide +kernel
theorem d_M_readHunk_192 : decode um_M_readHunk.2.1 192 = .ok (.goto 4, 3) := by decide +kernel
theorem d_M_readHunk_195 : decode um_M_readHunk.2.1 195 = .ok (.iconst 0, 1) := by decide +kernel
theorem d_M_readHunk_196 : decode um_M_readHunk.2.1 196 = .ok (.istore 5, 2) := by decide +kernel
theorem d_M_readHunk_198 : decode um_M_readHunk.2.1 198 = .ok (.aload_n 0, 1) := by decide +kernel
theorem d_M_readHunk_199 : decode um_M_readHunk.2.1 199 = .ok (.iload 5, 2) := by decide +kernel
theorem d_M_readHunk_201 : decode um_M_readHunk.2.1 201 = .ok (.ifCond .ne 7, 3) := by decide +kernel
theorem d_M_readHunk_204 : decode um_M_readHunk.2.1 204 = .ok (.iconst 1, 1) := by decide +kernel
theorem d_M_readHunk_205 : decode um_M_readHunk.2.1 205 = .ok (.goto 4, 3) := by decide +kernel
theorem d_M_readHunk_208 : decode um_M_readHunk.2.1 208 = .ok (.iconst 0, 1) := by decide +kernel
theorem d_M_readHunk_209 : decode um_M_readHunk.2.1 209 = .ok (.putfield 177, 3) := by decide +kernel
theorem d_M_readHunk_212 : decode um_M_readHunk.2.1 212 = .ok (.iload 5, 2) := by decide +kernel
theorem d_M_readHunk_214 : decode um_M_readHunk.2.1 214 = .ok (.ifCond .eq 16, 3) := by decide +kernel
theorem d_M_readHunk_217 : decode um_M_readHunk.2.1 217 = .ok (.iload 4, 2) := by decide +kernel
theorem d_M_readHunk_219 : decode um_M_readHunk.2.1 219 = .ok (.bipush 43, 2) := by decide +kernel
theorem d_M_readHunk_221 : decode um_M_readHunk.2.1 221 = .ok (.if_icmp .eq 9, 3) := by decide +kernel
theorem d_M_readHunk_224 : decode um_M_readHunk.2.1 224 = .ok (.iload_n 1, 1) := by decide +kernel
theorem d_M_readHunk_225 : decode um_M_readHunk.2.1 225 = .ok (.iconst 1, 1) := by decide +kernel
theorem d_M_readHunk_226 : decode um_M_readHunk.2.1 226 = .ok (.isub, 1) := by decide +kernel
theorem d_M_readHunk_227 : decode um_M_readHunk.2.1 227 = .ok (.goto 4, 3) := by decide +kernel
theorem d_M_readHunk_230 : decode um_M_readHunk.2.1 230 = .ok (.iload_n 1, 1) := by decide +kernel
theorem d_M_readHunk_231 : decode um_M_readHunk.2.1 231 = .ok (.istore_n 1, 1) := by decide +kernel
theorem d_M_readHunk_232 : decode um_M_readHunk.2.1 232 = .ok (.iload 5, 2) := by decide +kernel
theorem d_M_readHunk_234 : decode um_M_readHunk.2.1 234 = .ok (.ifCond .eq 16, 3) := by decide +kernel
theorem d_M_readHunk_237 : decode um_M_readHunk.2.1 237 = .ok (.iload 4, 2) := by decide +kernel
theorem d_M_readHunk_239 : decode um_M_readHunk.2.1 239 = .ok (.bipush 45, 2) := by decide +kernel
theorem d_M_readHunk_241 : decode um_M_readHunk.2.1 241 = .ok (.if_icmp .eq 9, 3) := by decide +kernel
theorem d_M_readHunk_244 : decode um_M_readHunk.2.1 244 = .ok (.iload_n 2, 1) := by decide +kernel
theorem d_M_readHunk_245 : decode um_M_readHunk.2.1 245 = .ok (.iconst 1, 1) := by decide +kernel
theorem d_M_readHunk_246 : decode um_M_readHunk.2.1 246 = .ok (.isub, 1) := by decide +kernel
theorem d_M_readHunk_247 : decode um_M_readHunk.2.1 247 = .ok (.goto 4, 3) := by decide +kernel
theorem d_M_readHunk_250 : decode um_M_readHunk.2.1 250 = .ok (.iload_n 2, 1) := by decide +kernel
theorem d_M_readHunk_251 : decode um_M_readHunk.2.1 251 = .ok (.istore_n 2, 1) := by decide +kernel
theorem d_M_readHunk_252 : decode um_M_readHunk.2.1 252 = .ok (.aload_n 0, 1) := by decide +kernel
theorem d_M_readHunk_253 : decode um_M_readHunk.2.1 253 = .ok (.iload 5, 2) := by decide +kernel
theorem d_M_readHunk_255 : decode um_M_readHunk.2.1 255 = .ok (.ifCond .eq 12, 3) := by decide +kernel
theorem d_M_readHunk_258 : decode um_M_readHunk.2.1 258 = .ok (.aload_n 0, 1) := by decide +kernel
theorem d_M_readHunk_259 : decode um_M_readHunk.2.1 259 = .ok (.getfield 174, 3) := by decide +kernel
theorem d_M_readHunk_262 : decode um_M_readHunk.2.1 262 = .ok (.iconst 1, 1) := by decide +kernel
theorem d_M_readHunk_263 : decode um_M_readHunk.2.1 263 = .ok (.iadd, 1) := by decide +kernel
theorem d_M_readHunk_264 : decode um_M_readHunk.2.1 264 = .ok (.goto 7, 3) := by decide +kernel
theorem d_M_readHunk_267 : decode um_M_readHunk.2.1 267 = .ok (.aload_n 0, 1) := by decide +kernel
theorem d_M_readHunk_268 : decode um_M_readHunk.2.1 268 = .ok (.getfield 174, 3) := by decide +kernel
theorem d_M_readHunk_271 : decode um_M_readHunk.2.1 271 = .ok (.putfield 174, 3) := by decide +kernel
theorem d_M_readHunk_274 : decode um_M_readHunk.2.1 274 = .ok (.aload_n 0, 1) := by decide +kernel
theorem d_M_readHunk_275 : decode um_M_readHunk.2.1 275 = .ok (.aload_n 0, 1) := by decide +kernel
theorem d_M_readHunk_276 : decode um_M_readHunk.2.1 276 = .ok (.getfield 177, 3) := by decide +kernel
theorem d_M_readHunk_279 : decode um_M_readHunk.2.1 279 = .ok (.ifCond .ne 13, 3) := by decide +kernel
theorem d_M_readHunk_282 : decode um_M_readHunk.2.1 282 = .ok (.aload_n 0, 1) := by decide +kernel
theorem d_M_readHunk_283 : decode um_M_readHunk.2.1 283 = .ok (.invokevirtual 180, 3) := by decide +kernel
theorem d_M_readHunk_286 : decode um_M_readHunk.2.1 286 = .ok (.invokestatic 92, 3) := by decide +kernel
theorem d_M_readHunk_289 : decode um_M_readHunk.2.1 289 = .ok (.ifCond .ne 7, 3) := by decide +kernel
theorem d_M_readHunk_292 : decode um_M_readHunk.2.1 292 = .ok (.iconst 1, 1) := by decide +kernel
theorem d_M_readHunk_293 : decode um_M_readHunk.2.1 293 = .ok (.goto 4, 3) := by decide +kernel
theorem d_M_readHunk_296 : decode um_M_readHunk.2.1 296 = .ok (.iconst 0, 1) := by decide +kernel
theorem d_M_readHunk_297 : decode um_M_readHunk.2.1 297 = .ok (.putfield 177, 3) := by decide +kernel
theorem d_M_readHunk_300 : decode um_M_readHunk.2.1 300 = .ok (.aload_n 0, 1) := by decide +kernel
theorem d_M_readHunk_301 : decode um_M_readHunk.2.1 301 = .ok (.aload_n 0, 1) := by decide +kernel
theorem d_M_readHunk_302 : decode um_M_readHunk.2.1 302 = .ok (.getfield 177, 3) := by decide +kernel
theorem d_M_readHunk_305 : decode um_M_readHunk.2.1 305 = .ok (.ifCond .eq 10, 3) := by decide +kernel
theorem d_M_readHunk_308 : decode um_M_readHunk.2.1 308 = .ok (.aload_n 0, 1) := by decide +kernel
theorem d_M_readHunk_309 : decode um_M_readHunk.2.1 309 = .ok (.getfield 174, 3) := by decide +kernel
theorem d_M_readHunk_312 : decode um_M_readHunk.2.1 312 = .ok (.goto 9, 3) := by decide +kernel
theorem d_M_readHunk_315 : decode um_M_readHunk.2.1 315 = .ok (.aload_n 0, 1) := by decide +kernel
theorem d_M_readHunk_316 : decode um_M_readHunk.2.1 316 = .ok (.getfield 174, 3) := by decide +kernel
theorem d_M_readHunk_319 : decode um_M_readHunk.2.1 319 = .ok (.iconst 1, 1) := by decide +kernel
theorem d_M_readHunk_320 : decode um_M_readHunk.2.1 320 = .ok (.iadd, 1) := by decide +kernel
theorem d_M_readHunk_321 : decode um_M_readHunk.2.1 321 = .ok (.putfield 174, 3) := by decide +kernel
theorem d_M_readHunk_324 : decode um_M_readHunk.2.1 324 = .ok (.aload_n 0, 1) := by decide +kernel
theorem d_M_readHunk_325 : decode um_M_readHunk.2.1 325 = .ok (.bipush 10, 2) := by decide +kernel
theorem d_M_readHunk_327 : decode um_M_readHunk.2.1 327 = .ok (.invokevirtual 184, 3) := by decide +kernel
theorem d_M_readHunk_330 : decode um_M_readHunk.2.1 330 = .ok (.iinc 3 1, 3) := by decide +kernel
theorem d_M_readHunk_333 : decode um_M_readHunk.2.1 333 = .ok (.goto (-216), 3) := by decide +kernel
theorem d_M_readHunk_336 : decode um_M_readHunk.2.1 336 = .ok (.aload_n 0, 1) := by decide +kernel
theorem d_M_readHunk_337 : decode um_M_readHunk.2.1 337 = .ok (.getfield 73, 3) := by decide +kernel
theorem d_M_readHunk_340 : decode um_M_readHunk.2.1 340 = .ok (.aload_n 0, 1) := by decide +kernel
theorem d_M_readHunk_341 : decode um_M_readHunk.2.1 341 = .ok (.getfield 187, 3) := by decide +kernel
theorem d_M_readHunk_344 : decode um_M_readHunk.2.1 344 = .ok (.iload_n 3, 1) := by decide +kernel
theorem d_M_readHunk_345 : decode um_M_readHunk.2.1 345 = .ok (.iastore, 1) := by decide +kernel
theorem d_M_readHunk_346 : decode um_M_readHunk.2.1 346 = .ok (.aload_n 0, 1) := by decide +kernel
theorem d_M_readHunk_347 : decode um_M_readHunk.2.1 347 = .ok (.dup, 1) := by decide +kernel
theorem d_M_readHunk_348 : decode um_M_readHunk.2.1 348 = .ok (.getfield 187, 3) := by decide +kernel
theorem d_M_readHunk_351 : decode um_M_readHunk.2.1 351 = .ok (.iconst 1, 1) := by decide +kernel
theorem d_M_readHunk_352 : decode um_M_readHunk.2.1 352 = .ok (.iadd, 1) := by decide +kernel
theorem d_M_readHunk_353 : decode um_M_readHunk.2.1 353 = .ok (.putfield 187, 3) := by decide +kernel
theorem d_M_readHunk_356 : decode um_M_readHunk.2.1 356 = .ok (.return_, 1) := by decide +kernel
theorem d_M_read_0 : decode um_M_read.2.1 0 = .ok (.aload_n 0, 1) := by decide +kernel
theorem d_M_read_1 : decode um_M_read.2.1 1 = .ok (.iconst 0, 1) := by decide +kernel
theorem d_M_read_2 : decode um_M_read.2.1 2 = .ok (.putfield 174, 3) := by decide +kernel
theorem d_M_read_5 : decode um_M_read.2.1 5 = .ok (.aload_n 0, 1) := by decide +kernel
theorem d_M_read_6 : decode um_M_read.2.1 6 = .ok (.iconst 0, 1) := by decide +kernel
theorem d_M_read_7 : decode um_M_read.2.1 7 = .ok (.putfield 187, 3) := by decide +kernel
theorem d_M_read_10 : decode um_M_read.2.1 10 = .ok (.aload_n 0, 1) := by decide +kernel
theorem d_M_read_11 : decode um_M_read.2.1 11 = .ok (.iconst 0, 1) := by decide +kernel
theorem d_M_read_12 : decode um_M_read.2.1 12 = .ok (.putfield 177, 3) := by decide +kernel
theorem d_M_read_15 : decode um_M_read.2.1 15 = .ok (.aload_n 0, 1) := by decide +kernel
theorem d_M_read_16 : decode um_M_read.2.1 16 = .ok (.getfield 174, 3) := by decide +kernel
theorem d_M_read_19 : decode um_M_read.2.1 19 = .ok (.aload_n 0, 1) := by decide +kernel
theorem d_M_read_20 : decode um_M_read.2.1 20 = .ok (.getfield 151, 3) := by decide +kernel
theorem d_M_read_23 : decode um_M_read.2.1 23 = .ok (.if_icmp .ge 17, 3) := by decide +kernel
theorem d_M_read_26 : decode um_M_read.2.1 26 = .ok (.aload_n 0, 1) := by decide +kernel
theorem d_M_read_27 : decode um_M_read.2.1 27 = .ok (.getfield 177, 3) := by decide +kernel
theorem d_M_read_30 : decode um_M_read.2.1 30 = .ok (.ifCond .ne 10, 3) := by decide +kernel
theorem d_M_read_33 : decode um_M_read.2.1 33 = .ok (.aload_n 0, 1) := by decide +kernel
theorem d_M_read_34 : decode um_M_read.2.1 34 = .ok (.invokevirtual 193, 3) := by decide +kernel
theorem d_M_read_37 : decode um_M_read.2.1 37 = .ok (.goto (-22), 3) := by decide +kernel
theorem d_M_read_40 : decode um_M_read.2.1 40 = .ok (.aload_n 0, 1) := by decide +kernel
theorem d_M_read_41 : decode um_M_read.2.1 41 = .ok (.getfield 177, 3) := by decide +kernel
theorem d_M_read_44 : decode um_M_read.2.1 44 = .ok (.ifCond .eq 10, 3) := by decide +kernel
theorem d_M_read_47 : decode um_M_read.2.1 47 = .ok (.aload_n 0, 1) := by decide +kernel
theorem d_M_read_48 : decode um_M_read.2.1 48 = .ok (.getfield 174, 3) := by decide +kernel
theorem d_M_read_51 : decode um_M_read.2.1 51 = .ok (.goto 4, 3) := by decide +kernel
theorem d_M_read_54 : decode um_M_read.2.1 54 = .ok (.iconst (-1), 1) := by decide +kernel
theorem d_M_read_55 : decode um_M_read.2.1 55 = .ok (.ireturn, 1) := by decide +kernel
theorem d_M_stands_0 : decode um_M_stands.2.1 0 = .ok (.iload_n 3, 1) := by decide +kernel
theorem d_M_stands_1 : decode um_M_stands.2.1 1 = .ok (.istore 4, 2) := by decide +kernel
theorem d_M_stands_3 : decode um_M_stands.2.1 3 = .ok (.iconst 1, 1) := by decide +kernel
theorem d_M_stands_4 : decode um_M_stands.2.1 4 = .ok (.istore 5, 2) := by decide +kernel
theorem d_M_stands_6 : decode um_M_stands.2.1 6 = .ok (.iconst 0, 1) := by decide +kernel
theorem d_M_stands_7 : decode um_M_stands.2.1 7 = .ok (.istore 6, 2) := by decide +kernel
theorem d_M_stands_9 : decode um_M_stands.2.1 9 = .ok (.iload 6, 2) := by decide +kernel
theorem d_M_stands_11 : decode um_M_stands.2.1 11 = .ok (.aload_n 0, 1) := by decide +kernel
theorem d_M_stands_12 : decode um_M_stands.2.1 12 = .ok (.getfield 73, 3) := by decide +kernel
theorem d_M_stands_15 : decode um_M_stands.2.1 15 = .ok (.iload_n 1, 1) := by decide +kernel
theorem d_M_stands_16 : decode um_M_stands.2.1 16 = .ok (.iaload, 1) := by decide +kernel
theorem d_M_stands_17 : decode um_M_stands.2.1 17 = .ok (.if_icmp .ge 73, 3) := by decide +kernel
theorem d_M_stands_20 : decode um_M_stands.2.1 20 = .ok (.aload_n 0, 1) := by decide +kernel
theorem d_M_stands_21 : decode um_M_stands.2.1 21 = .ok (.getfield 76, 3) := by decide +kernel
theorem d_M_stands_24 : decode um_M_stands.2.1 24 = .ok (.iload_n 1, 1) := by decide +kernel
theorem d_M_stands_25 : decode um_M_stands.2.1 25 = .ok (.iaload, 1) := by decide +kernel
theorem d_M_stands_26 : decode um_M_stands.2.1 26 = .ok (.iconst 3, 1) := by decide +kernel
theorem d_M_stands_27 : decode um_M_stands.2.1 27 = .ok (.iload 6, 2) := by decide +kernel
theorem d_M_stands_29 : decode um_M_stands.2.1 29 = .ok (.imul, 1) := by decide +kernel
theorem d_M_stands_30 : decode um_M_stands.2.1 30 = .ok (.iadd, 1) := by decide +kernel
theorem d_M_stands_31 : decode um_M_stands.2.1 31 = .ok (.istore 7, 2) := by decide +kernel
theorem d_M_stands_33 : decode um_M_stands.2.1 33 = .ok (.aload_n 0, 1) := by decide +kernel
theorem d_M_stands_34 : decode um_M_stands.2.1 34 = .ok (.getfield 61, 3) := by decide +kernel
theorem d_M_stands_37 : decode um_M_stands.2.1 37 = .ok (.iload 7, 2) := by decide +kernel
theorem d_M_stands_39 : decode um_M_stands.2.1 39 = .ok (.iaload, 1) := by decide +kernel
theorem d_M_stands_40 : decode um_M_stands.2.1 40 = .ok (.bipush 43, 2) := by decide +kernel
theorem d_M_stands_42 : decode um_M_stands.2.1 42 = .ok (.if_icmp .eq 42, 3) := by decide +kernel
theorem d_M_stands_45 : decode um_M_stands.2.1 45 = .ok (.iload 5, 2) := by decide +kernel
theorem d_M_stands_47 : decode um_M_stands.2.1 47 = .ok (.ifCond .eq 31, 3) := by decide +kernel
theorem d_M_stands_50 : decode um_M_stands.2.1 50 = .ok (.aload_n 0, 1) := by decide +kernel
theorem d_M_stands_51 : decode um_M_stands.2.1 51 = .ok (.getfield 7, 3) := by decide +kernel
theorem d_M_stands_54 : decode um_M_stands.2.1 54 = .ok (.bipush 24, 2) := by decide +kernel
theorem d_M_stands_56 : decode um_M_stands.2.1 56 = .ok (.iload_n 2, 1) := by decide +kernel
theorem d_M_stands_57 : decode um_M_stands.2.1 57 = .ok (.imul, 1) := by decide +kernel
theorem d_M_stands_58 : decode um_M_stands.2.1 58 = .ok (.iload 4, 2) := by decide +kernel
theorem d_M_stands_60 : decode um_M_stands.2.1 60 = .ok (.iadd, 1) := by decide +kernel
theorem d_M_stands_61 : decode um_M_stands.2.1 61 = .ok (.iaload, 1) := by decide +kernel
theorem d_M_stands_62 : decode um_M_stands.2.1 62 = .ok (.aload_n 0, 1) := by decide +kernel
theorem d_M_stands_63 : decode um_M_stands.2.1 63 = .ok (.getfield 61, 3) := by decide +kernel
theorem d_M_stands_66 : decode um_M_stands.2.1 66 = .ok (.iload 7, 2) := by decide +kernel
theorem d_M_stands_68 : decode um_M_stands.2.1 68 = .ok (.iconst 1, 1) := by decide +kernel
theorem d_M_stands_69 : decode um_M_stands.2.1 69 = .ok (.iadd, 1) := by decide +kernel
theorem d_M_stands_70 : decode um_M_stands.2.1 70 = .ok (.iaload, 1) := by decide +kernel
theorem d_M_stands_71 : decode um_M_stands.2.1 71 = .ok (.if_icmp .ne 7, 3) := by decide +kernel
theorem d_M_stands_74 : decode um_M_stands.2.1 74 = .ok (.iconst 1, 1) := by decide +kernel
theorem d_M_stands_75 : decode um_M_stands.2.1 75 = .ok (.goto 4, 3) := by decide +kernel
theorem d_M_stands_78 : decode um_M_stands.2.1 78 = .ok (.iconst 0, 1) := by decide +kernel
theorem d_M_stands_79 : decode um_M_stands.2.1 79 = .ok (.istore 5, 2) := by decide +kernel
theorem d_M_stands_81 : decode um_M_stands.2.1 81 = .ok (.iinc 4 1, 3) := by decide +kernel
theorem d_M_stands_84 : decode um_M_stands.2.1 84 = .ok (.iinc 6 1, 3) := by decide +kernel
theorem d_M_stands_87 : decode um_M_stands.2.1 87 = .ok (.goto (-78), 3) := by decide +kernel
theorem d_M_stands_90 : decode um_M_stands.2.1 90 = .ok (.iload 5, 2) := by decide +kernel
theorem d_M_stands_92 : decode um_M_stands.2.1 92 = .ok (.ireturn, 1) := by decide +kernel
theorem d_M_fit_0 : decode um_M_fit.2.1 0 = .ok (.iconst (-1), 1) := by decide +kernel
theorem d_M_fit_1 : decode um_M_fit.2.1 1 = .ok (.istore 4, 2) := by decide +kernel
theorem d_M_fit_3 : decode um_M_fit.2.1 3 = .ok (.sipush 1000, 3) := by decide +kernel
theorem d_M_fit_6 : decode um_M_fit.2.1 6 = .ok (.istore 5, 2) := by decide +kernel
theorem d_M_fit_8 : decode um_M_fit.2.1 8 = .ok (.iload_n 3, 1) := by decide +kernel
theorem d_M_fit_9 : decode um_M_fit.2.1 9 = .ok (.istore 6, 2) := by decide +kernel
theorem d_M_fit_11 : decode um_M_fit.2.1 11 = .ok (.iload 6, 2) := by decide +kernel
theorem d_M_fit_13 : decode um_M_fit.2.1 13 = .ok (.aload_n 0, 1) := by decide +kernel
theorem d_M_fit_14 : decode um_M_fit.2.1 14 = .ok (.getfield 67, 3) := by decide +kernel
theorem d_M_fit_17 : decode um_M_fit.2.1 17 = .ok (.iload_n 1, 1) := by decide +kernel
theorem d_M_fit_18 : decode um_M_fit.2.1 18 = .ok (.iaload, 1) := by decide +kernel
theorem d_M_fit_19 : decode um_M_fit.2.1 19 = .ok (.iadd, 1) := by decide +kernel
theorem d_M_fit_20 : decode um_M_fit.2.1 20 = .ok (.aload_n 0, 1) := by decide +kernel
theorem d_M_fit_21 : decode um_M_fit.2.1 21 = .ok (.getfield 13, 3) := by decide +kernel
theorem d_M_fit_24 : decode um_M_fit.2.1 24 = .ok (.iload_n 2, 1) := by decide +kernel
theorem d_M_fit_25 : decode um_M_fit.2.1 25 = .ok (.iaload, 1) := by decide +kernel
theorem d_M_fit_26 : decode um_M_fit.2.1 26 = .ok (.if_icmp .gt 69, 3) := by decide +kernel
theorem d_M_fit_29 : decode um_M_fit.2.1 29 = .ok (.iload 6, 2) := by decide +kernel
theorem d_M_fit_31 : decode um_M_fit.2.1 31 = .ok (.aload_n 0, 1) := by decide +kernel
theorem d_M_fit_32 : decode um_M_fit.2.1 32 = .ok (.getfield 64, 3) := by decide +kernel
theorem d_M_fit_35 : decode um_M_fit.2.1 35 = .ok (.iload_n 1, 1) := by decide +kernel
theorem d_M_fit_36 : decode um_M_fit.2.1 36 = .ok (.iaload, 1) := by decide +kernel
theorem d_M_fit_37 : decode um_M_fit.2.1 37 = .ok (.if_icmp .ge 15, 3) := by decide +kernel
theorem d_M_fit_40 : decode um_M_fit.2.1 40 = .ok (.aload_n 0, 1) := by decide +kernel
theorem d_M_fit_41 : decode um_M_fit.2.1 41 = .ok (.getfield 64, 3) := by decide +kernel
theorem d_M_fit_44 : decode um_M_fit.2.1 44 = .ok (.iload_n 1, 1) := by decide +kernel
theorem d_M_fit_45 : decode um_M_fit.2.1 45 = .ok (.iaload, 1) := by decide +kernel
theorem d_M_fit_46 : decode um_M_fit.2.1 46 = .ok (.iload 6, 2) := by decide +kernel
theorem d_M_fit_48 : decode um_M_fit.2.1 48 = .ok (.isub, 1) := by decide +kernel
theorem d_M_fit_49 : decode um_M_fit.2.1 49 = .ok (.goto 12, 3) := by decide +kernel
theorem d_M_fit_52 : decode um_M_fit.2.1 52 = .ok (.iload 6, 2) := by decide +kernel
theorem d_M_fit_54 : decode um_M_fit.2.1 54 = .ok (.aload_n 0, 1) := by decide +kernel
theorem d_M_fit_55 : decode um_M_fit.2.1 55 = .ok (.getfield 64, 3) := by decide +kernel
theorem d_M_fit_58 : decode um_M_fit.2.1 58 = .ok (.iload_n 1, 1) := by decide +kernel
theorem d_M_fit_59 : decode um_M_fit.2.1 59 = .ok (.iaload, 1) := by decide +kernel
theorem d_M_fit_60 : decode um_M_fit.2.1 60 = .ok (.isub, 1) := by decide +kernel
theorem d_M_fit_61 : decode um_M_fit.2.1 61 = .ok (.istore 7, 2) := by decide +kernel
theorem d_M_fit_63 : decode um_M_fit.2.1 63 = .ok (.iload 7, 2) := by decide +kernel
theorem d_M_fit_65 : decode um_M_fit.2.1 65 = .ok (.iload 5, 2) := by decide +kernel
theorem d_M_fit_67 : decode um_M_fit.2.1 67 = .ok (.if_icmp .ge 22, 3) := by decide +kernel
theorem d_M_fit_70 : decode um_M_fit.2.1 70 = .ok (.aload_n 0, 1) := by decide +kernel
theorem d_M_fit_71 : decode um_M_fit.2.1 71 = .ok (.iload_n 1, 1) := by decide +kernel
theorem d_M_fit_72 : decode um_M_fit.2.1 72 = .ok (.iload_n 2, 1) := by decide +kernel
theorem d_M_fit_73 : decode um_M_fit.2.1 73 = .ok (.iload 6, 2) := by decide +kernel
theorem d_M_fit_75 : decode um_M_fit.2.1 75 = .ok (.invokevirtual 196, 3) := by decide +kernel
theorem d_M_fit_78 : decode um_M_fit.2.1 78 = .ok (.ifCond .eq 11, 3) := by decide +kernel
theorem d_M_fit_81 : decode um_M_fit.2.1 81 = .ok (.iload 6, 2) := by decide +kernel
theorem d_M_fit_83 : decode um_M_fit.2.1 83 = .ok (.istore 4, 2) := by decide +kernel
theorem d_M_fit_85 : decode um_M_fit.2.1 85 = .ok (.iload 7, 2) := by decide +kernel
theorem d_M_fit_87 : decode um_M_fit.2.1 87 = .ok (.istore 5, 2) := by decide +kernel
theorem d_M_fit_89 : decode um_M_fit.2.1 89 = .ok (.iinc 6 1, 3) := by decide +kernel
theorem d_M_fit_92 : decode um_M_fit.2.1 92 = .ok (.goto (-81), 3) := by decide +kernel
theorem d_M_fit_95 : decode um_M_fit.2.1 95 = .ok (.iload 4, 2) := by decide +kernel
theorem d_M_fit_97 : decode um_M_fit.2.1 97 = .ok (.ireturn, 1) := by decide +kernel
theorem d_M_emit_0 : decode um_M_emit.2.1 0 = .ok (.aload_n 0, 1) := by decide +kernel
theorem d_M_emit_1 : decode um_M_emit.2.1 1 = .ok (.getfield 82, 3) := by decide +kernel
theorem d_M_emit_4 : decode um_M_emit.2.1 4 = .ok (.aload_n 0, 1) := by decide +kernel
theorem d_M_emit_5 : decode um_M_emit.2.1 5 = .ok (.getfield 199, 3) := by decide +kernel
theorem d_M_emit_8 : decode um_M_emit.2.1 8 = .ok (.iload_n 1, 1) := by decide +kernel
theorem d_M_emit_9 : decode um_M_emit.2.1 9 = .ok (.iastore, 1) := by decide +kernel
theorem d_M_emit_10 : decode um_M_emit.2.1 10 = .ok (.aload_n 0, 1) := by decide +kernel
theorem d_M_emit_11 : decode um_M_emit.2.1 11 = .ok (.dup, 1) := by decide +kernel
theorem d_M_emit_12 : decode um_M_emit.2.1 12 = .ok (.getfield 199, 3) := by decide +kernel
theorem d_M_emit_15 : decode um_M_emit.2.1 15 = .ok (.iconst 1, 1) := by decide +kernel
theorem d_M_emit_16 : decode um_M_emit.2.1 16 = .ok (.iadd, 1) := by decide +kernel
theorem d_M_emit_17 : decode um_M_emit.2.1 17 = .ok (.putfield 199, 3) := by decide +kernel
theorem d_M_emit_20 : decode um_M_emit.2.1 20 = .ok (.return_, 1) := by decide +kernel
theorem d_M_apply_0 : decode um_M_apply.2.1 0 = .ok (.iload_n 1, 1) := by decide +kernel
theorem d_M_apply_1 : decode um_M_apply.2.1 1 = .ok (.iconst 0, 1) := by decide +kernel
theorem d_M_apply_2 : decode um_M_apply.2.1 2 = .ok (.iconst 3, 1) := by decide +kernel
theorem d_M_apply_3 : decode um_M_apply.2.1 3 = .ok (.invokestatic 88, 3) := by decide +kernel
theorem d_M_apply_6 : decode um_M_apply.2.1 6 = .ok (.ifCond .eq 10, 3) := by decide +kernel
theorem d_M_apply_9 : decode um_M_apply.2.1 9 = .ok (.aload_n 0, 1) := by decide +kernel
theorem d_M_apply_10 : decode um_M_apply.2.1 10 = .ok (.invokevirtual 202, 3) := by decide +kernel
theorem d_M_apply_13 : decode um_M_apply.2.1 13 = .ok (.ifCond .lt 5, 3) := by decide +kernel
theorem d_M_apply_16 : decode um_M_apply.2.1 16 = .ok (.iconst (-1), 1) := by decide +kernel
theorem d_M_apply_17 : decode um_M_apply.2.1 17 = .ok (.ireturn, 1) := by decide +kernel
theorem d_M_apply_18 : decode um_M_apply.2.1 18 = .ok (.iconst 0, 1) := by decide +kernel
theorem d_M_apply_19 : decode um_M_apply.2.1 19 = .ok (.istore_n 2, 1) := by decide +kernel
theorem d_M_apply_20 : decode um_M_apply.2.1 20 = .ok (.aload_n 0, 1) := by decide +kernel
theorem d_M_apply_21 : decode um_M_apply.2.1 21 = .ok (.getfield 13, 3) := by decide +kernel
theorem d_M_apply_24 : decode um_M_apply.2.1 24 = .ok (.iload_n 1, 1) := by decide +kernel
theorem d_M_apply_25 : decode um_M_apply.2.1 25 = .ok (.iaload, 1) := by decide +kernel
theorem d_M_apply_26 : decode um_M_apply.2.1 26 = .ok (.istore_n 3, 1) := by decide +kernel
theorem d_M_apply_27 : decode um_M_apply.2.1 27 = .ok (.iconst 0, 1) := by decide +kernel
theorem d_M_apply_28 : decode um_M_apply.2.1 28 = .ok (.istore 4, 2) := by decide +kernel
theorem d_M_apply_30 : decode um_M_apply.2.1 30 = .ok (.iload 4, 2) := by decide +kernel
theorem d_M_apply_32 : decode um_M_apply.2.1 32 = .ok (.aload_n 0, 1) := by decide +kernel
theorem d_M_apply_33 : decode um_M_apply.2.1 33 = .ok (.getfield 187, 3) := by decide +kernel
theorem d_M_apply_36 : decode um_M_apply.2.1 36 = .ok (.if_icmp .ge 80, 3) := by decide +kernel
theorem d_M_apply_39 : decode um_M_apply.2.1 39 = .ok (.aload_n 0, 1) := by decide +kernel
theorem d_M_apply_40 : decode um_M_apply.2.1 40 = .ok (.getfield 79, 3) := by decide +kernel
theorem d_M_apply_43 : decode um_M_apply.2.1 43 = .ok (.iload 4, 2) := by decide +kernel
theorem d_M_apply_45 : decode um_M_apply.2.1 45 = .ok (.aload_n 0, 1) := by decide +kernel
theorem d_M_apply_46 : decode um_M_apply.2.1 46 = .ok (.iload 4, 2) := by decide +kernel
theorem d_M_apply_48 : decode um_M_apply.2.1 48 = .ok (.iload_n 1, 1) := by decide +kernel
theorem d_M_apply_49 : decode um_M_apply.2.1 49 = .ok (.iload_n 2, 1) := by decide +kernel
theorem d_M_apply_50 : decode um_M_apply.2.1 50 = .ok (.invokevirtual 205, 3) := by decide +kernel
theorem d_M_apply_53 : decode um_M_apply.2.1 53 = .ok (.iastore, 1) := by decide +kernel
theorem d_M_apply_54 : decode um_M_apply.2.1 54 = .ok (.iload_n 3, 1) := by decide +kernel
theorem d_M_apply_55 : decode um_M_apply.2.1 55 = .ok (.aload_n 0, 1) := by decide +kernel
theorem d_M_apply_56 : decode um_M_apply.2.1 56 = .ok (.getfield 70, 3) := by decide +kernel
theorem d_M_apply_59 : decode um_M_apply.2.1 59 = .ok (.iload 4, 2) := by decide +kernel
theorem d_M_apply_61 : decode um_M_apply.2.1 61 = .ok (.iaload, 1) := by decide +kernel
theorem d_M_apply_62 : decode um_M_apply.2.1 62 = .ok (.iadd, 1) := by decide +kernel
theorem d_M_apply_63 : decode um_M_apply.2.1 63 = .ok (.aload_n 0, 1) := by decide +kernel
theorem d_M_apply_64 : decode um_M_apply.2.1 64 = .ok (.getfield 67, 3) := by decide +kernel
theorem d_M_apply_67 : decode um_M_apply.2.1 67 = .ok (.iload 4, 2) := by decide +kernel
theorem d_M_apply_69 : decode um_M_apply.2.1 69 = .ok (.iaload, 1) := by decide +kernel
theorem d_M_apply_70 : decode um_M_apply.2.1 70 = .ok (.isub, 1) := by decide +kernel
theorem d_M_apply_71 : decode um_M_apply.2.1 71 = .ok (.istore_n 3, 1) := by decide +kernel
theorem d_M_apply_72 : decode um_M_apply.2.1 72 = .ok (.aload_n 0, 1) := by decide +kernel
theorem d_M_apply_73 : decode um_M_apply.2.1 73 = .ok (.getfield 79, 3) := by decide +kernel
theorem d_M_apply_76 : decode um_M_apply.2.1 76 = .ok (.iload 4, 2) := by decide +kernel
theorem d_M_apply_78 : decode um_M_apply.2.1 78 = .ok (.iaload, 1) := by decide +kernel
theorem d_M_apply_79 : decode um_M_apply.2.1 79 = .ok (.ifCond .lt 9, 3) := by decide +kernel
theorem d_M_apply_82 : decode um_M_apply.2.1 82 = .ok (.iload_n 3, 1) := by decide +kernel
theorem d_M_apply_83 : decode um_M_apply.2.1 83 = .ok (.bipush 24, 2) := by decide +kernel
theorem d_M_apply_85 : decode um_M_apply.2.1 85 = .ok (.if_icmp .le 9, 3) := by decide +kernel
theorem d_M_apply_88 : decode um_M_apply.2.1 88 = .ok (.bipush (-3), 2) := by decide +kernel
theorem d_M_apply_90 : decode um_M_apply.2.1 90 = .ok (.iload 4, 2) := by decide +kernel
theorem d_M_apply_92 : decode um_M_apply.2.1 92 = .ok (.isub, 1) := by decide +kernel
theorem d_M_apply_93 : decode um_M_apply.2.1 93 = .ok (.ireturn, 1) := by decide +kernel
theorem d_M_apply_94 : decode um_M_apply.2.1 94 = .ok (.aload_n 0, 1) := by decide +kernel
theorem d_M_apply_95 : decode um_M_apply.2.1 95 = .ok (.getfield 79, 3) := by decide +kernel
theorem d_M_apply_98 : decode um_M_apply.2.1 98 = .ok (.iload 4, 2) := by decide +kernel
theorem d_M_apply_100 : decode um_M_apply.2.1 100 = .ok (.iaload, 1) := by decide +kernel
theorem d_M_apply_101 : decode um_M_apply.2.1 101 = .ok (.aload_n 0, 1) := by decide +kernel
theorem d_M_apply_102 : decode um_M_apply.2.1 102 = .ok (.getfield 67, 3) := by decide +kernel
theorem d_M_apply_105 : decode um_M_apply.2.1 105 = .ok (.iload 4, 2) := by decide +kernel
theorem d_M_apply_107 : decode um_M_apply.2.1 107 = .ok (.iaload, 1) := by decide +kernel
theorem d_M_apply_108 : decode um_M_apply.2.1 108 = .ok (.iadd, 1) := by decide +kernel
theorem d_M_apply_109 : decode um_M_apply.2.1 109 = .ok (.istore_n 2, 1) := by decide +kernel
theorem d_M_apply_110 : decode um_M_apply.2.1 110 = .ok (.iinc 4 1, 3) := by decide +kernel
theorem d_M_apply_113 : decode um_M_apply.2.1 113 = .ok (.goto (-83), 3) := by decide +kernel
theorem d_M_apply_116 : decode um_M_apply.2.1 116 = .ok (.aload_n 0, 1) := by decide +kernel
theorem d_M_apply_117 : decode um_M_apply.2.1 117 = .ok (.iconst 0, 1) := by decide +kernel
theorem d_M_apply_118 : decode um_M_apply.2.1 118 = .ok (.putfield 199, 3) := by decide +kernel
theorem d_M_apply_121 : decode um_M_apply.2.1 121 = .ok (.iconst 0, 1) := by decide +kernel
theorem d_M_apply_122 : decode um_M_apply.2.1 122 = .ok (.istore 4, 2) := by decide +kernel
theorem d_M_apply_124 : decode um_M_apply.2.1 124 = .ok (.iconst 0, 1) := by decide +kernel
theorem d_M_apply_125 : decode um_M_apply.2.1 125 = .ok (.istore 5, 2) := by decide +kernel
theorem d_M_apply_127 : decode um_M_apply.2.1 127 = .ok (.iload 5, 2) := by decide +kernel
theorem d_M_apply_129 : decode um_M_apply.2.1 129 = .ok (.aload_n 0, 1) := by decide +kernel
theorem d_M_apply_130 : decode um_M_apply.2.1 130 = .ok (.getfield 187, 3) := by decide +kernel
theorem d_M_apply_133 : decode um_M_apply.2.1 133 = .ok (.if_icmp .ge 115, 3) := by decide +kernel
theorem d_M_apply_136 : decode um_M_apply.2.1 136 = .ok (.iload 4, 2) := by decide +kernel
theorem d_M_apply_138 : decode um_M_apply.2.1 138 = .ok (.aload_n 0, 1) := by decide +kernel
theorem d_M_apply_139 : decode um_M_apply.2.1 139 = .ok (.getfield 79, 3) := by decide +kernel
theorem d_M_apply_142 : decode um_M_apply.2.1 142 = .ok (.iload 5, 2) := by decide +kernel
theorem d_M_apply_144 : decode um_M_apply.2.1 144 = .ok (.iaload, 1) := by decide +kernel
theorem d_M_apply_145 : decode um_M_apply.2.1 145 = .ok (.if_icmp .ge 25, 3) := by decide +kernel
theorem d_M_apply_148 : decode um_M_apply.2.1 148 = .ok (.aload_n 0, 1) := by decide +kernel
theorem d_M_apply_149 : decode um_M_apply.2.1 149 = .ok (.aload_n 0, 1) := by decide +kernel
theorem d_M_apply_150 : decode um_M_apply.2.1 150 = .ok (.getfield 7, 3) := by decide +kernel
theorem d_M_apply_153 : decode um_M_apply.2.1 153 = .ok (.bipush 24, 2) := by decide +kernel
theorem d_M_apply_155 : decode um_M_apply.2.1 155 = .ok (.iload_n 1, 1) := by decide +kernel
theorem d_M_apply_156 : decode um_M_apply.2.1 156 = .ok (.imul, 1) := by decide +kernel
theorem d_M_apply_157 : decode um_M_apply.2.1 157 = .ok (.iload 4, 2) := by decide +kernel
theorem d_M_apply_159 : decode um_M_apply.2.1 159 = .ok (.iadd, 1) := by decide +kernel
theorem d_M_apply_160 : decode um_M_apply.2.1 160 = .ok (.iaload, 1) := by decide +kernel
theorem d_M_apply_161 : decode um_M_apply.2.1 161 = .ok (.invokevirtual 208, 3) := by decide +kernel
theorem d_M_apply_164 : decode um_M_apply.2.1 164 = .ok (.iinc 4 1, 3) := by decide +kernel
theorem d_M_apply_167 : decode um_M_apply.2.1 167 = .ok (.goto (-31), 3) := by decide +kernel
theorem d_M_apply_170 : decode um_M_apply.2.1 170 = .ok (.iconst 0, 1) := by decide +kernel
theorem d_M_apply_171 : decode um_M_apply.2.1 171 = .ok (.istore 6, 2) := by decide +kernel
theorem d_M_apply_173 : decode um_M_apply.2.1 173 = .ok (.iload 6, 2) := by decide +kernel
theorem d_M_apply_175 : decode um_M_apply.2.1 175 = .ok (.aload_n 0, 1) := by decide +kernel
theorem d_M_apply_176 : decode um_M_apply.2.1 176 = .ok (.getfield 73, 3) := by decide +kernel
theorem d_M_apply_179 : decode um_M_apply.2.1 179 = .ok (.iload 5, 2) := by decide +kernel
theorem d_M_apply_181 : decode um_M_apply.2.1 181 = .ok (.iaload, 1) := by decide +kernel
theorem d_M_apply_182 : decode um_M_apply.2.1 182 = .ok (.if_icmp .ge 48, 3) := by decide +kernel
theorem d_M_apply_185 : decode um_M_apply.2.1 185 = .ok (.aload_n 0, 1) := by decide +kernel
theorem d_M_apply_186 : decode um_M_apply.2.1 186 = .ok (.getfield 76, 3) := by decide +kernel
theorem d_M_apply_189 : decode um_M_apply.2.1 189 = .ok (.iload 5, 2) := by decide +kernel
theorem d_M_apply_191 : decode um_M_apply.2.1 191 = .ok (.iaload, 1) := by decide +kernel
theorem d_M_apply_192 : decode um_M_apply.2.1 192 = .ok (.iconst 3, 1) := by decide +kernel
theorem d_M_apply_193 : decode um_M_apply.2.1 193 = .ok (.iload 6, 2) := by decide +kernel
theorem d_M_apply_195 : decode um_M_apply.2.1 195 = .ok (.imul, 1) := by decide +kernel
theorem d_M_apply_196 : decode um_M_apply.2.1 196 = .ok (.iadd, 1) := by decide +kernel
theorem d_M_apply_197 : decode um_M_apply.2.1 197 = .ok (.istore 7, 2) := by decide +kernel
theorem d_M_apply_199 : decode um_M_apply.2.1 199 = .ok (.aload_n 0, 1) := by decide +kernel
theorem d_M_apply_200 : decode um_M_apply.2.1 200 = .ok (.getfield 61, 3) := by decide +kernel
theorem d_M_apply_203 : decode um_M_apply.2.1 203 = .ok (.iload 7, 2) := by decide +kernel
theorem d_M_apply_205 : decode um_M_apply.2.1 205 = .ok (.iaload, 1) := by decide +kernel
theorem d_M_apply_206 : decode um_M_apply.2.1 206 = .ok (.bipush 45, 2) := by decide +kernel
theorem d_M_apply_208 : decode um_M_apply.2.1 208 = .ok (.if_icmp .eq 16, 3) := by decide +kernel
theorem d_M_apply_211 : decode um_M_apply.2.1 211 = .ok (.aload_n 0, 1) := by decide +kernel
theorem d_M_apply_212 : decode um_M_apply.2.1 212 = .ok (.aload_n 0, 1) := by decide +kernel
theorem d_M_apply_213 : decode um_M_apply.2.1 213 = .ok (.getfield 61, 3) := by decide +kernel
theorem d_M_apply_216 : decode um_M_apply.2.1 216 = .ok (.iload 7, 2) := by decide +kernel
theorem d_M_apply_218 : decode um_M_apply.2.1 218 = .ok (.iconst 1, 1) := by decide +kernel
theorem d_M_apply_219 : decode um_M_apply.2.1 219 = .ok (.iadd, 1) := by decide +kernel
theorem d_M_apply_220 : decode um_M_apply.2.1 220 = .ok (.iaload, 1) := by decide +kernel
theorem d_M_apply_221 : decode um_M_apply.2.1 221 = .ok (.invokevirtual 208, 3) := by decide +kernel
theorem d_M_apply_224 : decode um_M_apply.2.1 224 = .ok (.iinc 6 1, 3) := by decide +kernel
theorem d_M_apply_227 : decode um_M_apply.2.1 227 = .ok (.goto (-54), 3) := by decide +kernel
theorem d_M_apply_230 : decode um_M_apply.2.1 230 = .ok (.iload 4, 2) := by decide +kernel
theorem d_M_apply_232 : decode um_M_apply.2.1 232 = .ok (.aload_n 0, 1) := by decide +kernel
theorem d_M_apply_233 : decode um_M_apply.2.1 233 = .ok (.getfield 67, 3) := by decide +kernel
theorem d_M_apply_236 : decode um_M_apply.2.1 236 = .ok (.iload 5, 2) := by decide +kernel
theorem d_M_apply_238 : decode um_M_apply.2.1 238 = .ok (.iaload, 1) := by decide +kernel
theorem d_M_apply_239 : decode um_M_apply.2.1 239 = .ok (.iadd, 1) := by decide +kernel
theorem d_M_apply_240 : decode um_M_apply.2.1 240 = .ok (.istore 4, 2) := by decide +kernel
theorem d_M_apply_242 : decode um_M_apply.2.1 242 = .ok (.iinc 5 1, 3) := by decide +kernel
theorem d_M_apply_245 : decode um_M_apply.2.1 245 = .ok (.goto (-118), 3) := by decide +kernel
theorem d_M_apply_248 : decode um_M_apply.2.1 248 = .ok (.iload 4, 2) := by decide +kernel
theorem d_M_apply_250 : decode um_M_apply.2.1 250 = .ok (.aload_n 0, 1) := by decide +kernel
theorem d_M_apply_251 : decode um_M_apply.2.1 251 = .ok (.getfield 13, 3) := by decide +kernel
theorem d_M_apply_254 : decode um_M_apply.2.1 254 = .ok (.iload_n 1, 1) := by decide +kernel
theorem d_M_apply_255 : decode um_M_apply.2.1 255 = .ok (.iaload, 1) := by decide +kernel
theorem d_M_apply_256 : decode um_M_apply.2.1 256 = .ok (.if_icmp .ge 25, 3) := by decide +kernel
theorem d_M_apply_259 : decode um_M_apply.2.1 259 = .ok (.aload_n 0, 1) := by decide +kernel
theorem d_M_apply_260 : decode um_M_apply.2.1 260 = .ok (.aload_n 0, 1) := by decide +kernel
theorem d_M_apply_261 : decode um_M_apply.2.1 261 = .ok (.getfield 7, 3) := by decide +kernel
theorem d_M_apply_264 : decode um_M_apply.2.1 264 = .ok (.bipush 24, 2) := by decide +kernel
theorem d_M_apply_266 : decode um_M_apply.2.1 266 = .ok (.iload_n 1, 1) := by decide +kernel
theorem d_M_apply_267 : decode um_M_apply.2.1 267 = .ok (.imul, 1) := by decide +kernel
theorem d_M_apply_268 : decode um_M_apply.2.1 268 = .ok (.iload 4, 2) := by decide +kernel
theorem d_M_apply_270 : decode um_M_apply.2.1 270 = .ok (.iadd, 1) := by decide +kernel
theorem d_M_apply_271 : decode um_M_apply.2.1 271 = .ok (.iaload, 1) := by decide +kernel
theorem d_M_apply_272 : decode um_M_apply.2.1 272 = .ok (.invokevirtual 208, 3) := by decide +kernel
theorem d_M_apply_275 : decode um_M_apply.2.1 275 = .ok (.iinc 4 1, 3) := by decide +kernel
theorem d_M_apply_278 : decode um_M_apply.2.1 278 = .ok (.goto (-30), 3) := by decide +kernel
theorem d_M_apply_281 : decode um_M_apply.2.1 281 = .ok (.aload_n 0, 1) := by decide +kernel
theorem d_M_apply_282 : decode um_M_apply.2.1 282 = .ok (.iload_n 1, 1) := by decide +kernel
theorem d_M_apply_283 : decode um_M_apply.2.1 283 = .ok (.invokevirtual 211, 3) := by decide +kernel
theorem d_M_apply_286 : decode um_M_apply.2.1 286 = .ok (.aload_n 0, 1) := by decide +kernel
theorem d_M_apply_287 : decode um_M_apply.2.1 287 = .ok (.getfield 187, 3) := by decide +kernel
theorem d_M_apply_290 : decode um_M_apply.2.1 290 = .ok (.ireturn, 1) := by decide +kernel
theorem d_M_keep_0 : decode um_M_keep.2.1 0 = .ok (.aload_n 0, 1) := by decide +kernel
theorem d_M_keep_1 : decode um_M_keep.2.1 1 = .ok (.getfield 13, 3) := by decide +kernel
theorem d_M_keep_4 : decode um_M_keep.2.1 4 = .ok (.iload_n 1, 1) := by decide +kernel
theorem d_M_keep_5 : decode um_M_keep.2.1 5 = .ok (.aload_n 0, 1) := by decide +kernel
theorem d_M_keep_6 : decode um_M_keep.2.1 6 = .ok (.getfield 199, 3) := by decide +kernel
theorem d_M_keep_9 : decode um_M_keep.2.1 9 = .ok (.iastore, 1) := by decide +kernel
theorem d_M_keep_10 : decode um_M_keep.2.1 10 = .ok (.iconst 0, 1) := by decide +kernel
theorem d_M_keep_11 : decode um_M_keep.2.1 11 = .ok (.istore_n 2, 1) := by decide +kernel
theorem d_M_keep_12 : decode um_M_keep.2.1 12 = .ok (.iload_n 2, 1) := by decide +kernel
theorem d_M_keep_13 : decode um_M_keep.2.1 13 = .ok (.aload_n 0, 1) := by decide +kernel
theorem d_M_keep_14 : decode um_M_keep.2.1 14 = .ok (.getfield 199, 3) := by decide +kernel
theorem d_M_keep_17 : decode um_M_keep.2.1 17 = .ok (.if_icmp .ge 26, 3) := by decide +kernel
theorem d_M_keep_20 : decode um_M_keep.2.1 20 = .ok (.aload_n 0, 1) := by decide +kernel
theorem d_M_keep_21 : decode um_M_keep.2.1 21 = .ok (.getfield 7, 3) := by decide +kernel
theorem d_M_keep_24 : decode um_M_keep.2.1 24 = .ok (.bipush 24, 2) := by decide +kernel
theorem d_M_keep_26 : decode um_M_keep.2.1 26 = .ok (.iload_n 1, 1) := by decide +kernel
theorem d_M_keep_27 : decode um_M_keep.2.1 27 = .ok (.imul, 1) := by decide +kernel
theorem d_M_keep_28 : decode um_M_keep.2.1 28 = .ok (.iload_n 2, 1) := by decide +kernel
theorem d_M_keep_29 : decode um_M_keep.2.1 29 = .ok (.iadd, 1) := by decide +kernel
theorem d_M_keep_30 : decode um_M_keep.2.1 30 = .ok (.aload_n 0, 1) := by decide +kernel
theorem d_M_keep_31 : decode um_M_keep.2.1 31 = .ok (.getfield 82, 3) := by decide +kernel
theorem d_M_keep_34 : decode um_M_keep.2.1 34 = .ok (.iload_n 2, 1) := by decide +kernel
theorem d_M_keep_35 : decode um_M_keep.2.1 35 = .ok (.iaload, 1) := by decide +kernel
theorem d_M_keep_36 : decode um_M_keep.2.1 36 = .ok (.iastore, 1) := by decide +kernel
theorem d_M_keep_37 : decode um_M_keep.2.1 37 = .ok (.iinc 2 1, 3) := by decide +kernel
theorem d_M_keep_40 : decode um_M_keep.2.1 40 = .ok (.goto (-28), 3) := by decide +kernel
theorem d_M_keep_43 : decode um_M_keep.2.1 43 = .ok (.return_, 1) := by decide +kernel
theorem d_M_sameParts_0 : decode um_M_sameParts.2.1 0 = .ok (.iload_n 3, 1) := by decide +kernel
theorem d_M_sameParts_1 : decode um_M_sameParts.2.1 1 = .ok (.iload_n 2, 1) := by decide +kernel
theorem d_M_sameParts_2 : decode um_M_sameParts.2.1 2 = .ok (.isub, 1) := by decide +kernel
theorem d_M_sameParts_3 : decode um_M_sameParts.2.1 3 = .ok (.iload 6, 2) := by decide +kernel
theorem d_M_sameParts_5 : decode um_M_sameParts.2.1 5 = .ok (.iload 5, 2) := by decide +kernel
theorem d_M_sameParts_7 : decode um_M_sameParts.2.1 7 = .ok (.isub, 1) := by decide +kernel
theorem d_M_sameParts_8 : decode um_M_sameParts.2.1 8 = .ok (.if_icmp .ne 7, 3) := by decide +kernel
theorem d_M_sameParts_11 : decode um_M_sameParts.2.1 11 = .ok (.iconst 1, 1) := by decide +kernel
theorem d_M_sameParts_12 : decode um_M_sameParts.2.1 12 = .ok (.goto 4, 3) := by decide +kernel
theorem d_M_sameParts_15 : decode um_M_sameParts.2.1 15 = .ok (.iconst 0, 1) := by decide +kernel
theorem d_M_sameParts_16 : decode um_M_sameParts.2.1 16 = .ok (.istore 7, 2) := by decide +kernel
theorem d_M_sameParts_18 : decode um_M_sameParts.2.1 18 = .ok (.iconst 0, 1) := by decide +kernel
theorem d_M_sameParts_19 : decode um_M_sameParts.2.1 19 = .ok (.istore 8, 2) := by decide +kernel
theorem d_M_sameParts_21 : decode um_M_sameParts.2.1 21 = .ok (.iload 8, 2) := by decide +kernel
theorem d_M_sameParts_23 : decode um_M_sameParts.2.1 23 = .ok (.iload_n 3, 1) := by decide +kernel
theorem d_M_sameParts_24 : decode um_M_sameParts.2.1 24 = .ok (.iload_n 2, 1) := by decide +kernel
theorem d_M_sameParts_25 : decode um_M_sameParts.2.1 25 = .ok (.isub, 1) := by decide +kernel
theorem d_M_sameParts_26 : decode um_M_sameParts.2.1 26 = .ok (.if_icmp .ge 54, 3) := by decide +kernel
theorem d_M_sameParts_29 : decode um_M_sameParts.2.1 29 = .ok (.iload 7, 2) := by decide +kernel
theorem d_M_sameParts_31 : decode um_M_sameParts.2.1 31 = .ok (.ifCond .eq 49, 3) := by decide +kernel
theorem d_M_sameParts_34 : decode um_M_sameParts.2.1 34 = .ok (.aload_n 0, 1) := by decide +kernel
theorem d_M_sameParts_35 : decode um_M_sameParts.2.1 35 = .ok (.getfield 7, 3) := by decide +kernel
theorem d_M_sameParts_38 : decode um_M_sameParts.2.1 38 = .ok (.bipush 24, 2) := by decide +kernel
theorem d_M_sameParts_40 : decode um_M_sameParts.2.1 40 = .ok (.iload_n 1, 1) := by decide +kernel
theorem d_M_sameParts_41 : decode um_M_sameParts.2.1 41 = .ok (.imul, 1) := by decide +kernel
theorem d_M_sameParts_42 : decode um_M_sameParts.2.1 42 = .ok (.iload_n 2, 1) := by decide +kernel
theorem d_M_sameParts_43 : decode um_M_sameParts.2.1 43 = .ok (.iadd, 1) := by decide +kernel
theorem d_M_sameParts_44 : decode um_M_sameParts.2.1 44 = .ok (.iload 8, 2) := by decide +kernel
theorem d_M_sameParts_46 : decode um_M_sameParts.2.1 46 = .ok (.iadd, 1) := by decide +kernel
theorem d_M_sameParts_47 : decode um_M_sameParts.2.1 47 = .ok (.iaload, 1) := by decide +kernel
theorem d_M_sameParts_48 : decode um_M_sameParts.2.1 48 = .ok (.aload_n 0, 1) := by decide +kernel
theorem d_M_sameParts_49 : decode um_M_sameParts.2.1 49 = .ok (.getfield 7, 3) := by decide +kernel
theorem d_M_sameParts_52 : decode um_M_sameParts.2.1 52 = .ok (.bipush 24, 2) := by decide +kernel
theorem d_M_sameParts_54 : decode um_M_sameParts.2.1 54 = .ok (.iload 4, 2) := by decide +kernel
theorem d_M_sameParts_56 : decode um_M_sameParts.2.1 56 = .ok (.imul, 1) := by decide +kernel
theorem d_M_sameParts_57 : decode um_M_sameParts.2.1 57 = .ok (.iload 5, 2) := by decide +kernel
theorem d_M_sameParts_59 : decode um_M_sameParts.2.1 59 = .ok (.iadd, 1) := by decide +kernel
theorem d_M_sameParts_60 : decode um_M_sameParts.2.1 60 = .ok (.iload 8, 2) := by decide +kernel
theorem d_M_sameParts_62 : decode um_M_sameParts.2.1 62 = .ok (.iadd, 1) := by decide +kernel
theorem d_M_sameParts_63 : decode um_M_sameParts.2.1 63 = .ok (.iaload, 1) := by decide +kernel
theorem d_M_sameParts_64 : decode um_M_sameParts.2.1 64 = .ok (.if_icmp .ne 7, 3) := by decide +kernel
theorem d_M_sameParts_67 : decode um_M_sameParts.2.1 67 = .ok (.iconst 1, 1) := by decide +kernel
theorem d_M_sameParts_68 : decode um_M_sameParts.2.1 68 = .ok (.goto 4, 3) := by decide +kernel
theorem d_M_sameParts_71 : decode um_M_sameParts.2.1 71 = .ok (.iconst 0, 1) := by decide +kernel
theorem d_M_sameParts_72 : decode um_M_sameParts.2.1 72 = .ok (.istore 7, 2) := by decide +kernel
theorem d_M_sameParts_74 : decode um_M_sameParts.2.1 74 = .ok (.iinc 8 1, 3) := by decide +kernel
theorem d_M_sameParts_77 : decode um_M_sameParts.2.1 77 = .ok (.goto (-56), 3) := by decide +kernel
theorem d_M_sameParts_80 : decode um_M_sameParts.2.1 80 = .ok (.iload 7, 2) := by decide +kernel
theorem d_M_sameParts_82 : decode um_M_sameParts.2.1 82 = .ok (.ireturn, 1) := by decide +kernel
theorem d_M_tryEmit_0 : decode um_M_tryEmit.2.1 0 = .ok (.aload_n 0, 1) := by decide +kernel
theorem d_M_tryEmit_1 : decode um_M_tryEmit.2.1 1 = .ok (.getfield 199, 3) := by decide +kernel
theorem d_M_tryEmit_4 : decode um_M_tryEmit.2.1 4 = .ok (.bipush 24, 2) := by decide +kernel
theorem d_M_tryEmit_6 : decode um_M_tryEmit.2.1 6 = .ok (.if_icmp .ne 5, 3) := by decide +kernel
theorem d_M_tryEmit_9 : decode um_M_tryEmit.2.1 9 = .ok (.iconst 0, 1) := by decide +kernel
theorem d_M_tryEmit_10 : decode um_M_tryEmit.2.1 10 = .ok (.ireturn, 1) := by decide +kernel
theorem d_M_tryEmit_11 : decode um_M_tryEmit.2.1 11 = .ok (.aload_n 0, 1) := by decide +kernel
theorem d_M_tryEmit_12 : decode um_M_tryEmit.2.1 12 = .ok (.iload_n 1, 1) := by decide +kernel
theorem d_M_tryEmit_13 : decode um_M_tryEmit.2.1 13 = .ok (.invokevirtual 208, 3) := by decide +kernel
theorem d_M_tryEmit_16 : decode um_M_tryEmit.2.1 16 = .ok (.iconst 1, 1) := by decide +kernel
theorem d_M_tryEmit_17 : decode um_M_tryEmit.2.1 17 = .ok (.ireturn, 1) := by decide +kernel
theorem d_M_emitPart_0 : decode um_M_emitPart.2.1 0 = .ok (.iconst 1, 1) := by decide +kernel
theorem d_M_emitPart_1 : decode um_M_emitPart.2.1 1 = .ok (.istore 4, 2) := by decide +kernel
theorem d_M_emitPart_3 : decode um_M_emitPart.2.1 3 = .ok (.iload_n 2, 1) := by decide +kernel
theorem d_M_emitPart_4 : decode um_M_emitPart.2.1 4 = .ok (.istore 5, 2) := by decide +kernel
theorem d_M_emitPart_6 : decode um_M_emitPart.2.1 6 = .ok (.iload 5, 2) := by decide +kernel
theorem d_M_emitPart_8 : decode um_M_emitPart.2.1 8 = .ok (.iload_n 3, 1) := by decide +kernel
theorem d_M_emitPart_9 : decode um_M_emitPart.2.1 9 = .ok (.if_icmp .ge 32, 3) := by decide +kernel
theorem d_M_emitPart_12 : decode um_M_emitPart.2.1 12 = .ok (.iload 4, 2) := by decide +kernel
theorem d_M_emitPart_14 : decode um_M_emitPart.2.1 14 = .ok (.ifCond .eq 27, 3) := by decide +kernel
theorem d_M_emitPart_17 : decode um_M_emitPart.2.1 17 = .ok (.aload_n 0, 1) := by decide +kernel
theorem d_M_emitPart_18 : decode um_M_emitPart.2.1 18 = .ok (.aload_n 0, 1) := by decide +kernel
theorem d_M_emitPart_19 : decode um_M_emitPart.2.1 19 = .ok (.getfield 7, 3) := by decide +kernel
theorem d_M_emitPart_22 : decode um_M_emitPart.2.1 22 = .ok (.bipush 24, 2) := by decide +kernel
theorem d_M_emitPart_24 : decode um_M_emitPart.2.1 24 = .ok (.iload_n 1, 1) := by decide +kernel
theorem d_M_emitPart_25 : decode um_M_emitPart.2.1 25 = .ok (.imul, 1) := by decide +kernel
theorem d_M_emitPart_26 : decode um_M_emitPart.2.1 26 = .ok (.iload 5, 2) := by decide +kernel
theorem d_M_emitPart_28 : decode um_M_emitPart.2.1 28 = .ok (.iadd, 1) := by decide +kernel
theorem d_M_emitPart_29 : decode um_M_emitPart.2.1 29 = .ok (.iaload, 1) := by decide +kernel
theorem d_M_emitPart_30 : decode um_M_emitPart.2.1 30 = .ok (.invokevirtual 214, 3) := by decide +kernel
theorem d_M_emitPart_33 : decode um_M_emitPart.2.1 33 = .ok (.istore 4, 2) := by decide +kernel
theorem d_M_emitPart_35 : decode um_M_emitPart.2.1 35 = .ok (.iinc 5 1, 3) := by decide +kernel
theorem d_M_emitPart_38 : decode um_M_emitPart.2.1 38 = .ok (.goto (-32), 3) := by decide +kernel
theorem d_M_emitPart_41 : decode um_M_emitPart.2.1 41 = .ok (.iload 4, 2) := by decide +kernel
theorem d_M_emitPart_43 : decode um_M_emitPart.2.1 43 = .ok (.ireturn, 1) := by decide +kernel
theorem d_M_mergeParts_0 : decode um_M_mergeParts.2.1 0 = .ok (.aload_n 0, 1) := by decide +kernel
theorem d_M_mergeParts_1 : decode um_M_mergeParts.2.1 1 = .ok (.iconst 1, 1) := by decide +kernel
theorem d_M_mergeParts_2 : decode um_M_mergeParts.2.1 2 = .ok (.iload_n 3, 1) := by decide +kernel
theorem d_M_mergeParts_3 : decode um_M_mergeParts.2.1 3 = .ok (.iload 4, 2) := by decide +kernel
theorem d_M_mergeParts_5 : decode um_M_mergeParts.2.1 5 = .ok (.iconst 0, 1) := by decide +kernel
theorem d_M_mergeParts_6 : decode um_M_mergeParts.2.1 6 = .ok (.iload_n 1, 1) := by decide +kernel
theorem d_M_mergeParts_7 : decode um_M_mergeParts.2.1 7 = .ok (.iload_n 2, 1) := by decide +kernel
theorem d_M_mergeParts_8 : decode um_M_mergeParts.2.1 8 = .ok (.invokevirtual 217, 3) := by decide +kernel
theorem d_M_mergeParts_11 : decode um_M_mergeParts.2.1 11 = .ok (.ifCond .eq 21, 3) := by decide +kernel
theorem d_M_mergeParts_14 : decode um_M_mergeParts.2.1 14 = .ok (.aload_n 0, 1) := by decide +kernel
theorem d_M_mergeParts_15 : decode um_M_mergeParts.2.1 15 = .ok (.iconst 2, 1) := by decide +kernel
theorem d_M_mergeParts_16 : decode um_M_mergeParts.2.1 16 = .ok (.iload 5, 2) := by decide +kernel
theorem d_M_mergeParts_18 : decode um_M_mergeParts.2.1 18 = .ok (.iload 6, 2) := by decide +kernel
theorem d_M_mergeParts_20 : decode um_M_mergeParts.2.1 20 = .ok (.invokevirtual 221, 3) := by decide +kernel
theorem d_M_mergeParts_23 : decode um_M_mergeParts.2.1 23 = .ok (.ifCond .eq 7, 3) := by decide +kernel
theorem d_M_mergeParts_26 : decode um_M_mergeParts.2.1 26 = .ok (.iconst 0, 1) := by decide +kernel
theorem d_M_mergeParts_27 : decode um_M_mergeParts.2.1 27 = .ok (.goto 4, 3) := by decide +kernel
theorem d_M_mergeParts_30 : decode um_M_mergeParts.2.1 30 = .ok (.iconst (-1), 1) := by decide +kernel
theorem d_M_mergeParts_31 : decode um_M_mergeParts.2.1 31 = .ok (.ireturn, 1) := by decide +kernel
theorem d_M_mergeParts_32 : decode um_M_mergeParts.2.1 32 = .ok (.aload_n 0, 1) := by decide +kernel
theorem d_M_mergeParts_33 : decode um_M_mergeParts.2.1 33 = .ok (.iconst 2, 1) := by decide +kernel
theorem d_M_mergeParts_34 : decode um_M_mergeParts.2.1 34 = .ok (.iload 5, 2) := by decide +kernel
theorem d_M_mergeParts_36 : decode um_M_mergeParts.2.1 36 = .ok (.iload 6, 2) := by decide +kernel
theorem d_M_mergeParts_38 : decode um_M_mergeParts.2.1 38 = .ok (.iconst 0, 1) := by decide +kernel
theorem d_M_mergeParts_39 : decode um_M_mergeParts.2.1 39 = .ok (.iload_n 1, 1) := by decide +kernel
theorem d_M_mergeParts_40 : decode um_M_mergeParts.2.1 40 = .ok (.iload_n 2, 1) := by decide +kernel
theorem d_M_mergeParts_41 : decode um_M_mergeParts.2.1 41 = .ok (.invokevirtual 217, 3) := by decide +kernel
theorem d_M_mergeParts_44 : decode um_M_mergeParts.2.1 44 = .ok (.ifCond .ne 19, 3) := by decide +kernel
theorem d_M_mergeParts_47 : decode um_M_mergeParts.2.1 47 = .ok (.aload_n 0, 1) := by decide +kernel
theorem d_M_mergeParts_48 : decode um_M_mergeParts.2.1 48 = .ok (.iconst 2, 1) := by decide +kernel
theorem d_M_mergeParts_49 : decode um_M_mergeParts.2.1 49 = .ok (.iload 5, 2) := by decide +kernel
theorem d_M_mergeParts_51 : decode um_M_mergeParts.2.1 51 = .ok (.iload 6, 2) := by decide +kernel
theorem d_M_mergeParts_53 : decode um_M_mergeParts.2.1 53 = .ok (.iconst 1, 1) := by decide +kernel
theorem d_M_mergeParts_54 : decode um_M_mergeParts.2.1 54 = .ok (.iload_n 3, 1) := by decide +kernel
theorem d_M_mergeParts_55 : decode um_M_mergeParts.2.1 55 = .ok (.iload 4, 2) := by decide +kernel
theorem d_M_mergeParts_57 : decode um_M_mergeParts.2.1 57 = .ok (.invokevirtual 217, 3) := by decide +kernel
theorem d_M_mergeParts_60 : decode um_M_mergeParts.2.1 60 = .ok (.ifCond .eq 20, 3) := by decide +kernel
theorem d_M_mergeParts_63 : decode um_M_mergeParts.2.1 63 = .ok (.aload_n 0, 1) := by decide +kernel
theorem d_M_mergeParts_64 : decode um_M_mergeParts.2.1 64 = .ok (.iconst 1, 1) := by decide +kernel
theorem d_M_mergeParts_65 : decode um_M_mergeParts.2.1 65 = .ok (.iload_n 3, 1) := by decide +kernel
theorem d_M_mergeParts_66 : decode um_M_mergeParts.2.1 66 = .ok (.iload 4, 2) := by decide +kernel
theorem d_M_mergeParts_68 : decode um_M_mergeParts.2.1 68 = .ok (.invokevirtual 221, 3) := by decide +kernel
theorem d_M_mergeParts_71 : decode um_M_mergeParts.2.1 71 = .ok (.ifCond .eq 7, 3) := by decide +kernel
theorem d_M_mergeParts_74 : decode um_M_mergeParts.2.1 74 = .ok (.iconst 0, 1) := by decide +kernel
theorem d_M_mergeParts_75 : decode um_M_mergeParts.2.1 75 = .ok (.goto 4, 3) := by decide +kernel
theorem d_M_mergeParts_78 : decode um_M_mergeParts.2.1 78 = .ok (.iconst (-1), 1) := by decide +kernel
theorem d_M_mergeParts_79 : decode um_M_mergeParts.2.1 79 = .ok (.ireturn, 1) := by decide +kernel
theorem d_M_mergeParts_80 : decode um_M_mergeParts.2.1 80 = .ok (.aload_n 0, 1) := by decide +kernel
theorem d_M_mergeParts_81 : decode um_M_mergeParts.2.1 81 = .ok (.bipush 60, 2) := by decide +kernel
theorem d_M_mergeParts_83 : decode um_M_mergeParts.2.1 83 = .ok (.invokevirtual 214, 3) := by decide +kernel
theorem d_M_mergeParts_86 : decode um_M_mergeParts.2.1 86 = .ok (.ifCond .eq 48, 3) := by decide +kernel
theorem d_M_mergeParts_89 : decode um_M_mergeParts.2.1 89 = .ok (.aload_n 0, 1) := by decide +kernel
theorem d_M_mergeParts_90 : decode um_M_mergeParts.2.1 90 = .ok (.iconst 1, 1) := by decide +kernel
theorem d_M_mergeParts_91 : decode um_M_mergeParts.2.1 91 = .ok (.iload_n 3, 1) := by decide +kernel
theorem d_M_mergeParts_92 : decode um_M_mergeParts.2.1 92 = .ok (.iload 4, 2) := by decide +kernel
theorem d_M_mergeParts_94 : decode um_M_mergeParts.2.1 94 = .ok (.invokevirtual 221, 3) := by decide +kernel
theorem d_M_mergeParts_97 : decode um_M_mergeParts.2.1 97 = .ok (.ifCond .eq 37, 3) := by decide +kernel
theorem d_M_mergeParts_100 : decode um_M_mergeParts.2.1 100 = .ok (.aload_n 0, 1) := by decide +kernel
theorem d_M_mergeParts_101 : decode um_M_mergeParts.2.1 101 = .ok (.bipush 61, 2) := by decide +kernel
theorem d_M_mergeParts_103 : decode um_M_mergeParts.2.1 103 = .ok (.invokevirtual 214, 3) := by decide +kernel
theorem d_M_mergeParts_106 : decode um_M_mergeParts.2.1 106 = .ok (.ifCond .eq 28, 3) := by decide +kernel
theorem d_M_mergeParts_109 : decode um_M_mergeParts.2.1 109 = .ok (.aload_n 0, 1) := by decide +kernel
theorem d_M_mergeParts_110 : decode um_M_mergeParts.2.1 110 = .ok (.iconst 2, 1) := by decide +kernel
theorem d_M_mergeParts_111 : decode um_M_mergeParts.2.1 111 = .ok (.iload 5, 2) := by decide +kernel
theorem d_M_mergeParts_113 : decode um_M_mergeParts.2.1 113 = .ok (.iload 6, 2) := by decide +kernel
theorem d_M_mergeParts_115 : decode um_M_mergeParts.2.1 115 = .ok (.invokevirtual 221, 3) := by decide +kernel
theorem d_M_mergeParts_118 : decode um_M_mergeParts.2.1 118 = .ok (.ifCond .eq 16, 3) := by decide +kernel
theorem d_M_mergeParts_121 : decode um_M_mergeParts.2.1 121 = .ok (.aload_n 0, 1) := by decide +kernel
theorem d_M_mergeParts_122 : decode um_M_mergeParts.2.1 122 = .ok (.bipush 62, 2) := by decide +kernel
theorem d_M_mergeParts_124 : decode um_M_mergeParts.2.1 124 = .ok (.invokevirtual 214, 3) := by decide +kernel
theorem d_M_mergeParts_127 : decode um_M_mergeParts.2.1 127 = .ok (.ifCond .eq 7, 3) := by decide +kernel
theorem d_M_mergeParts_130 : decode um_M_mergeParts.2.1 130 = .ok (.iconst 1, 1) := by decide +kernel
theorem d_M_mergeParts_131 : decode um_M_mergeParts.2.1 131 = .ok (.goto 4, 3) := by decide +kernel
theorem d_M_mergeParts_134 : decode um_M_mergeParts.2.1 134 = .ok (.iconst 0, 1) := by decide +kernel
theorem d_M_mergeParts_135 : decode um_M_mergeParts.2.1 135 = .ok (.istore 7, 2) := by decide +kernel
theorem d_M_mergeParts_137 : decode um_M_mergeParts.2.1 137 = .ok (.iload 7, 2) := by decide +kernel
theorem d_M_mergeParts_139 : decode um_M_mergeParts.2.1 139 = .ok (.ifCond .eq 7, 3) := by decide +kernel
theorem d_M_mergeParts_142 : decode um_M_mergeParts.2.1 142 = .ok (.iconst 1, 1) := by decide +kernel
theorem d_M_mergeParts_143 : decode um_M_mergeParts.2.1 143 = .ok (.goto 4, 3) := by decide +kernel
theorem d_M_mergeParts_146 : decode um_M_mergeParts.2.1 146 = .ok (.iconst (-1), 1) := by decide +kernel
theorem d_M_mergeParts_147 : decode um_M_mergeParts.2.1 147 = .ok (.ireturn, 1) := by decide +kernel
theorem d_M_merge_0 : decode um_M_merge.2.1 0 = .ok (.aload_n 0, 1) := by decide +kernel
theorem d_M_merge_1 : decode um_M_merge.2.1 1 = .ok (.iconst 0, 1) := by decide +kernel
theorem d_M_merge_2 : decode um_M_merge.2.1 2 = .ok (.invokevirtual 124, 3) := by decide +kernel
theorem d_M_merge_5 : decode um_M_merge.2.1 5 = .ok (.ifCond .eq 19, 3) := by decide +kernel
theorem d_M_merge_8 : decode um_M_merge.2.1 8 = .ok (.aload_n 0, 1) := by decide +kernel
theorem d_M_merge_9 : decode um_M_merge.2.1 9 = .ok (.iconst 1, 1) := by decide +kernel
theorem d_M_merge_10 : decode um_M_merge.2.1 10 = .ok (.invokevirtual 124, 3) := by decide +kernel
theorem d_M_merge_13 : decode um_M_merge.2.1 13 = .ok (.ifCond .eq 11, 3) := by decide +kernel
theorem d_M_merge_16 : decode um_M_merge.2.1 16 = .ok (.aload_n 0, 1) := by decide +kernel
theorem d_M_merge_17 : decode um_M_merge.2.1 17 = .ok (.iconst 2, 1) := by decide +kernel
theorem d_M_merge_18 : decode um_M_merge.2.1 18 = .ok (.invokevirtual 124, 3) := by decide +kernel
theorem d_M_merge_21 : decode um_M_merge.2.1 21 = .ok (.ifCond .ne 6, 3) := by decide +kernel
theorem d_M_merge_24 : decode um_M_merge.2.1 24 = .ok (.bipush (-3), 2) := by decide +kernel
theorem d_M_merge_26 : decode um_M_merge.2.1 26 = .ok (.ireturn, 1) := by decide +kernel
theorem d_M_merge_27 : decode um_M_merge.2.1 27 = .ok (.aload_n 0, 1) := by decide +kernel
theorem d_M_merge_28 : decode um_M_merge.2.1 28 = .ok (.iconst 0, 1) := by decide +kernel
theorem d_M_merge_29 : decode um_M_merge.2.1 29 = .ok (.iconst 2, 1) := by decide +kernel
theorem d_M_merge_30 : decode um_M_merge.2.1 30 = .ok (.invokevirtual 127, 3) := by decide +kernel
theorem d_M_merge_33 : decode um_M_merge.2.1 33 = .ok (.aload_n 0, 1) := by decide +kernel
theorem d_M_merge_34 : decode um_M_merge.2.1 34 = .ok (.iconst 0, 1) := by decide +kernel
theorem d_M_merge_35 : decode um_M_merge.2.1 35 = .ok (.invokevirtual 131, 3) := by decide +kernel
theorem d_M_merge_38 : decode um_M_merge.2.1 38 = .ok (.iconst 0, 1) := by decide +kernel
theorem d_M_merge_39 : decode um_M_merge.2.1 39 = .ok (.istore_n 1, 1) := by decide +kernel
theorem d_M_merge_40 : decode um_M_merge.2.1 40 = .ok (.iload_n 1, 1) := by decide +kernel
theorem d_M_merge_41 : decode um_M_merge.2.1 41 = .ok (.aload_n 0, 1) := by decide +kernel
theorem d_M_merge_42 : decode um_M_merge.2.1 42 = .ok (.getfield 96, 3) := by decide +kernel
theorem d_M_merge_45 : decode um_M_merge.2.1 45 = .ok (.if_icmp .ge 21, 3) := by decide +kernel
theorem d_M_merge_48 : decode um_M_merge.2.1 48 = .ok (.aload_n 0, 1) := by decide +kernel
theorem d_M_merge_49 : decode um_M_merge.2.1 49 = .ok (.getfield 85, 3) := by decide +kernel
theorem d_M_merge_52 : decode um_M_merge.2.1 52 = .ok (.iload_n 1, 1) := by decide +kernel
theorem d_M_merge_53 : decode um_M_merge.2.1 53 = .ok (.aload_n 0, 1) := by decide +kernel
theorem d_M_merge_54 : decode um_M_merge.2.1 54 = .ok (.getfield 22, 3) := by decide +kernel
theorem d_M_merge_57 : decode um_M_merge.2.1 57 = .ok (.iload_n 1, 1) := by decide +kernel
theorem d_M_merge_58 : decode um_M_merge.2.1 58 = .ok (.iaload, 1) := by decide +kernel
theorem d_M_merge_59 : decode um_M_merge.2.1 59 = .ok (.iastore, 1) := by decide +kernel
theorem d_M_merge_60 : decode um_M_merge.2.1 60 = .ok (.iinc 1 1, 3) := by decide +kernel
theorem d_M_merge_63 : decode um_M_merge.2.1 63 = .ok (.goto (-23), 3) := by decide +kernel
theorem d_M_merge_66 : decode um_M_merge.2.1 66 = .ok (.aload_n 0, 1) := by decide +kernel
theorem d_M_merge_67 : decode um_M_merge.2.1 67 = .ok (.iconst 0, 1) := by decide +kernel
theorem d_M_merge_68 : decode um_M_merge.2.1 68 = .ok (.iconst 1, 1) := by decide +kernel
theorem d_M_merge_69 : decode um_M_merge.2.1 69 = .ok (.invokevirtual 127, 3) := by decide +kernel
theorem d_M_merge_72 : decode um_M_merge.2.1 72 = .ok (.aload_n 0, 1) := by decide +kernel
theorem d_M_merge_73 : decode um_M_merge.2.1 73 = .ok (.iconst 0, 1) := by decide +kernel
theorem d_M_merge_74 : decode um_M_merge.2.1 74 = .ok (.invokevirtual 131, 3) := by decide +kernel
theorem d_M_merge_77 : decode um_M_merge.2.1 77 = .ok (.aload_n 0, 1) := by decide +kernel
theorem d_M_merge_78 : decode um_M_merge.2.1 78 = .ok (.iconst 0, 1) := by decide +kernel
theorem d_M_merge_79 : decode um_M_merge.2.1 79 = .ok (.putfield 199, 3) := by decide +kernel
theorem d_M_merge_82 : decode um_M_merge.2.1 82 = .ok (.iconst 0, 1) := by decide +kernel
theorem d_M_merge_83 : decode um_M_merge.2.1 83 = .ok (.istore_n 1, 1) := by decide +kernel
theorem d_M_merge_84 : decode um_M_merge.2.1 84 = .ok (.iconst 0, 1) := by decide +kernel
theorem d_M_merge_85 : decode um_M_merge.2.1 85 = .ok (.istore_n 2, 1) := by decide +kernel
theorem d_M_merge_86 : decode um_M_merge.2.1 86 = .ok (.iconst 0, 1) := by decide +kernel
theorem d_M_merge_87 : decode um_M_merge.2.1 87 = .ok (.istore_n 3, 1) := by decide +kernel
theorem d_M_merge_88 : decode um_M_merge.2.1 88 = .ok (.iconst 0, 1) := by decide +kernel
theorem d_M_merge_89 : decode um_M_merge.2.1 89 = .ok (.istore 4, 2) := by decide +kernel
theorem d_M_merge_91 : decode um_M_merge.2.1 91 = .ok (.iconst 0, 1) := by decide +kernel
theorem d_M_merge_92 : decode um_M_merge.2.1 92 = .ok (.istore 5, 2) := by decide +kernel
theorem d_M_merge_94 : decode um_M_merge.2.1 94 = .ok (.iload 5, 2) := by decide +kernel
theorem d_M_merge_96 : decode um_M_merge.2.1 96 = .ok (.aload_n 0, 1) := by decide +kernel
theorem d_M_merge_97 : decode um_M_merge.2.1 97 = .ok (.getfield 13, 3) := by decide +kernel
theorem d_M_merge_100 : decode um_M_merge.2.1 100 = .ok (.iconst 0, 1) := by decide +kernel
theorem d_M_merge_101 : decode um_M_merge.2.1 101 = .ok (.iaload, 1) := by decide +kernel
theorem d_M_merge_102 : decode um_M_merge.2.1 102 = .ok (.if_icmp .gt 183, 3) := by decide +kernel
theorem d_M_merge_105 : decode um_M_merge.2.1 105 = .ok (.iload 5, 2) := by decide +kernel
theorem d_M_merge_107 : decode um_M_merge.2.1 107 = .ok (.aload_n 0, 1) := by decide +kernel
theorem d_M_merge_108 : decode um_M_merge.2.1 108 = .ok (.getfield 13, 3) := by decide +kernel
theorem d_M_merge_111 : decode um_M_merge.2.1 111 = .ok (.iconst 0, 1) := by decide +kernel
theorem d_M_merge_112 : decode um_M_merge.2.1 112 = .ok (.iaload, 1) := by decide +kernel
theorem d_M_merge_113 : decode um_M_merge.2.1 113 = .ok (.if_icmp .ne 7, 3) := by decide +kernel
theorem d_M_merge_116 : decode um_M_merge.2.1 116 = .ok (.iconst 1, 1) := by decide +kernel
theorem d_M_merge_117 : decode um_M_merge.2.1 117 = .ok (.goto 4, 3) := by decide +kernel
theorem d_M_merge_120 : decode um_M_merge.2.1 120 = .ok (.iconst 0, 1) := by decide +kernel
theorem d_M_merge_121 : decode um_M_merge.2.1 121 = .ok (.istore 6, 2) := by decide +kernel
theorem d_M_merge_123 : decode um_M_merge.2.1 123 = .ok (.iload 6, 2) := by decide +kernel
theorem d_M_merge_125 : decode um_M_merge.2.1 125 = .ok (.ifCond .ne 23, 3) := by decide +kernel
theorem d_M_merge_128 : decode um_M_merge.2.1 128 = .ok (.aload_n 0, 1) := by decide +kernel
theorem d_M_merge_129 : decode um_M_merge.2.1 129 = .ok (.getfield 22, 3) := by decide +kernel
theorem d_M_merge_132 : decode um_M_merge.2.1 132 = .ok (.iload 5, 2) := by decide +kernel
theorem d_M_merge_134 : decode um_M_merge.2.1 134 = .ok (.iaload, 1) := by decide +kernel
theorem d_M_merge_135 : decode um_M_merge.2.1 135 = .ok (.ifCond .lt 144, 3) := by decide +kernel
theorem d_M_merge_138 : decode um_M_merge.2.1 138 = .ok (.aload_n 0, 1) := by decide +kernel
theorem d_M_merge_139 : decode um_M_merge.2.1 139 = .ok (.getfield 85, 3) := by decide +kernel
theorem d_M_merge_142 : decode um_M_merge.2.1 142 = .ok (.iload 5, 2) := by decide +kernel
theorem d_M_merge_144 : decode um_M_merge.2.1 144 = .ok (.iaload, 1) := by decide +kernel
theorem d_M_merge_145 : decode um_M_merge.2.1 145 = .ok (.ifCond .lt 134, 3) := by decide +kernel
theorem d_M_merge_148 : decode um_M_merge.2.1 148 = .ok (.aload_n 0, 1) := by decide +kernel
theorem d_M_merge_149 : decode um_M_merge.2.1 149 = .ok (.iload_n 2, 1) := by decide +kernel
theorem d_M_merge_150 : decode um_M_merge.2.1 150 = .ok (.iload 5, 2) := by decide +kernel
theorem d_M_merge_152 : decode um_M_merge.2.1 152 = .ok (.iload_n 3, 1) := by decide +kernel
theorem d_M_merge_153 : decode um_M_merge.2.1 153 = .ok (.iload 6, 2) := by decide +kernel
theorem d_M_merge_155 : decode um_M_merge.2.1 155 = .ok (.ifCond .eq 12, 3) := by decide +kernel
theorem d_M_merge_158 : decode um_M_merge.2.1 158 = .ok (.aload_n 0, 1) := by decide +kernel
theorem d_M_merge_159 : decode um_M_merge.2.1 159 = .ok (.getfield 13, 3) := by decide +kernel
theorem d_M_merge_162 : decode um_M_merge.2.1 162 = .ok (.iconst 1, 1) := by decide +kernel
theorem d_M_merge_163 : decode um_M_merge.2.1 163 = .ok (.iaload, 1) := by decide +kernel
theorem d_M_merge_164 : decode um_M_merge.2.1 164 = .ok (.goto 10, 3) := by decide +kernel
theorem d_M_merge_167 : decode um_M_merge.2.1 167 = .ok (.aload_n 0, 1) := by decide +kernel
theorem d_M_merge_168 : decode um_M_merge.2.1 168 = .ok (.getfield 22, 3) := by decide +kernel
theorem d_M_merge_171 : decode um_M_merge.2.1 171 = .ok (.iload 5, 2) := by decide +kernel
theorem d_M_merge_173 : decode um_M_merge.2.1 173 = .ok (.iaload, 1) := by decide +kernel
theorem d_M_merge_174 : decode um_M_merge.2.1 174 = .ok (.iload 4, 2) := by decide +kernel
theorem d_M_merge_176 : decode um_M_merge.2.1 176 = .ok (.iload 6, 2) := by decide +kernel
theorem d_M_merge_178 : decode um_M_merge.2.1 178 = .ok (.ifCond .eq 12, 3) := by decide +kernel
theorem d_M_merge_181 : decode um_M_merge.2.1 181 = .ok (.aload_n 0, 1) := by decide +kernel
theorem d_M_merge_182 : decode um_M_merge.2.1 182 = .ok (.getfield 13, 3) := by decide +kernel
theorem d_M_merge_185 : decode um_M_merge.2.1 185 = .ok (.iconst 2, 1) := by decide +kernel
theorem d_M_merge_186 : decode um_M_merge.2.1 186 = .ok (.iaload, 1) := by decide +kernel
theorem d_M_merge_187 : decode um_M_merge.2.1 187 = .ok (.goto 10, 3) := by decide +kernel
theorem d_M_merge_190 : decode um_M_merge.2.1 190 = .ok (.aload_n 0, 1) := by decide +kernel
theorem d_M_merge_191 : decode um_M_merge.2.1 191 = .ok (.getfield 85, 3) := by decide +kernel
theorem d_M_merge_194 : decode um_M_merge.2.1 194 = .ok (.iload 5, 2) := by decide +kernel
theorem d_M_merge_196 : decode um_M_merge.2.1 196 = .ok (.iaload, 1) := by decide +kernel
theorem d_M_merge_197 : decode um_M_merge.2.1 197 = .ok (.invokevirtual 224, 3) := by decide +kernel
theorem d_M_merge_200 : decode um_M_merge.2.1 200 = .ok (.istore 7, 2) := by decide +kernel
theorem d_M_merge_202 : decode um_M_merge.2.1 202 = .ok (.iload 7, 2) := by decide +kernel
theorem d_M_merge_204 : decode um_M_merge.2.1 204 = .ok (.ifCond .lt 22, 3) := by decide +kernel
theorem d_M_merge_207 : decode um_M_merge.2.1 207 = .ok (.iload 6, 2) := by decide +kernel
theorem d_M_merge_209 : decode um_M_merge.2.1 209 = .ok (.ifCond .ne 20, 3) := by decide +kernel
theorem d_M_merge_212 : decode um_M_merge.2.1 212 = .ok (.aload_n 0, 1) := by decide +kernel
theorem d_M_merge_213 : decode um_M_merge.2.1 213 = .ok (.aload_n 0, 1) := by decide +kernel
theorem d_M_merge_214 : decode um_M_merge.2.1 214 = .ok (.getfield 7, 3) := by decide +kernel
theorem d_M_merge_217 : decode um_M_merge.2.1 217 = .ok (.iload 5, 2) := by decide +kernel
theorem d_M_merge_219 : decode um_M_merge.2.1 219 = .ok (.iaload, 1) := by decide +kernel
theorem d_M_merge_220 : decode um_M_merge.2.1 220 = .ok (.invokevirtual 214, 3) := by decide +kernel
theorem d_M_merge_223 : decode um_M_merge.2.1 223 = .ok (.ifCond .ne 6, 3) := by decide +kernel
theorem d_M_merge_226 : decode um_M_merge.2.1 226 = .ok (.bipush (-2), 2) := by decide +kernel
theorem d_M_merge_228 : decode um_M_merge.2.1 228 = .ok (.ireturn, 1) := by decide +kernel
theorem d_M_merge_229 : decode um_M_merge.2.1 229 = .ok (.iload_n 1, 1) := by decide +kernel
theorem d_M_merge_230 : decode um_M_merge.2.1 230 = .ok (.iload 7, 2) := by decide +kernel
theorem d_M_merge_232 : decode um_M_merge.2.1 232 = .ok (.iadd, 1) := by decide +kernel
theorem d_M_merge_233 : decode um_M_merge.2.1 233 = .ok (.istore_n 1, 1) := by decide +kernel
theorem d_M_merge_234 : decode um_M_merge.2.1 234 = .ok (.iload 5, 2) := by decide +kernel
theorem d_M_merge_236 : decode um_M_merge.2.1 236 = .ok (.iconst 1, 1) := by decide +kernel
theorem d_M_merge_237 : decode um_M_merge.2.1 237 = .ok (.iadd, 1) := by decide +kernel
theorem d_M_merge_238 : decode um_M_merge.2.1 238 = .ok (.istore_n 2, 1) := by decide +kernel
theorem d_M_merge_239 : decode um_M_merge.2.1 239 = .ok (.iload 6, 2) := by decide +kernel
theorem d_M_merge_241 : decode um_M_merge.2.1 241 = .ok (.ifCond .eq 7, 3) := by decide +kernel
theorem d_M_merge_244 : decode um_M_merge.2.1 244 = .ok (.iload_n 3, 1) := by decide +kernel
theorem d_M_merge_245 : decode um_M_merge.2.1 245 = .ok (.goto 12, 3) := by decide +kernel
theorem d_M_merge_248 : decode um_M_merge.2.1 248 = .ok (.aload_n 0, 1) := by decide +kernel
theorem d_M_merge_249 : decode um_M_merge.2.1 249 = .ok (.getfield 22, 3) := by decide +kernel
theorem d_M_merge_252 : decode um_M_merge.2.1 252 = .ok (.iload 5, 2) := by decide +kernel
theorem d_M_merge_254 : decode um_M_merge.2.1 254 = .ok (.iaload, 1) := by decide +kernel
theorem d_M_merge_255 : decode um_M_merge.2.1 255 = .ok (.iconst 1, 1) := by decide +kernel
theorem d_M_merge_256 : decode um_M_merge.2.1 256 = .ok (.iadd, 1) := by decide +kernel
theorem d_M_merge_257 : decode um_M_merge.2.1 257 = .ok (.istore_n 3, 1) := by decide +kernel
theorem d_M_merge_258 : decode um_M_merge.2.1 258 = .ok (.iload 6, 2) := by decide +kernel
theorem d_M_merge_260 : decode um_M_merge.2.1 260 = .ok (.ifCond .eq 8, 3) := by decide +kernel
theorem d_M_merge_263 : decode um_M_merge.2.1 263 = .ok (.iload 4, 2) := by decide +kernel
theorem d_M_merge_265 : decode um_M_merge.2.1 265 = .ok (.goto 12, 3) := by decide +kernel
theorem d_M_merge_268 : decode um_M_merge.2.1 268 = .ok (.aload_n 0, 1) := by decide +kernel
theorem d_M_merge_269 : decode um_M_merge.2.1 269 = .ok (.getfield 85, 3) := by decide +kernel
theorem d_M_merge_272 : decode um_M_merge.2.1 272 = .ok (.iload 5, 2) := by decide +kernel
theorem d_M_merge_274 : decode um_M_merge.2.1 274 = .ok (.iaload, 1) := by decide +kernel
theorem d_M_merge_275 : decode um_M_merge.2.1 275 = .ok (.iconst 1, 1) := by decide +kernel
theorem d_M_merge_276 : decode um_M_merge.2.1 276 = .ok (.iadd, 1) := by decide +kernel
theorem d_M_merge_277 : decode um_M_merge.2.1 277 = .ok (.istore 4, 2) := by decide +kernel
theorem d_M_merge_279 : decode um_M_merge.2.1 279 = .ok (.iinc 5 1, 3) := by decide +kernel
theorem d_M_merge_282 : decode um_M_merge.2.1 282 = .ok (.goto (-188), 3) := by decide +kernel
theorem d_M_merge_285 : decode um_M_merge.2.1 285 = .ok (.aload_n 0, 1) := by decide +kernel
theorem d_M_merge_286 : decode um_M_merge.2.1 286 = .ok (.iconst 3, 1) := by decide +kernel
theorem d_M_merge_287 : decode um_M_merge.2.1 287 = .ok (.invokevirtual 211, 3) := by decide +kernel
theorem d_M_merge_290 : decode um_M_merge.2.1 290 = .ok (.iload_n 1, 1) := by decide +kernel
theorem d_M_merge_291 : decode um_M_merge.2.1 291 = .ok (.ireturn, 1) := by decide +kernel
theorem d_L_law_0 : decode code 0 = .ok (.new 7, 3) := by decide +kernel
theorem d_L_law_3 : decode code 3 = .ok (.dup, 1) := by decide +kernel
theorem d_L_law_4 : decode code 4 = .ok (.invokespecial 9, 3) := by decide +kernel
theorem d_L_law_7 : decode code 7 = .ok (.astore_n 1, 1) := by decide +kernel
theorem d_L_law_8 : decode code 8 = .ok (.new 10, 3) := by decide +kernel
theorem d_L_law_11 : decode code 11 = .ok (.dup, 1) := by decide +kernel
theorem d_L_law_12 : decode code 12 = .ok (.invokespecial 12, 3) := by decide +kernel
theorem d_L_law_15 : decode code 15 = .ok (.astore_n 2, 1) := by decide +kernel
theorem d_L_law_16 : decode code 16 = .ok (.iconst 0, 1) := by decide +kernel
theorem d_L_law_17 : decode code 17 = .ok (.istore_n 3, 1) := by decide +kernel
theorem d_L_law_18 : decode code 18 = .ok (.iload_n 3, 1) := by decide +kernel
theorem d_L_law_19 : decode code 19 = .ok (.aload_n 0, 1) := by decide +kernel
theorem d_L_law_20 : decode code 20 = .ok (.arraylength, 1) := by decide +kernel
theorem d_L_law_21 : decode code 21 = .ok (.iconst 5, 1) := by decide +kernel
theorem d_L_law_22 : decode code 22 = .ok (.isub, 1) := by decide +kernel
theorem d_L_law_23 : decode code 23 = .ok (.if_icmp .gt 472, 3) := by decide +kernel
theorem d_L_law_26 : decode code 26 = .ok (.aload_n 0, 1) := by decide +kernel
theorem d_L_law_27 : decode code 27 = .ok (.iload_n 3, 1) := by decide +kernel
theorem d_L_law_28 : decode code 28 = .ok (.iaload, 1) := by decide +kernel
theorem d_L_law_29 : decode code 29 = .ok (.bipush 15, 2) := by decide +kernel
theorem d_L_law_31 : decode code 31 = .ok (.iand, 1) := by decide +kernel
theorem d_L_law_32 : decode code 32 = .ok (.tableswitch 457 0 12 #[68, 141, 164, 187, 220, 263, 286, 309, 372, 385, 408, 421, 444], 68) := by decide +kernel
theorem d_L_law_100 : decode code 100 = .ok (.aload_n 1, 1) := by decide +kernel
theorem d_L_law_101 : decode code 101 = .ok (.aload_n 0, 1) := by decide +kernel
theorem d_L_law_102 : decode code 102 = .ok (.iload_n 3, 1) := by decide +kernel
theorem d_L_law_103 : decode code 103 = .ok (.iconst 1, 1) := by decide +kernel
theorem d_L_law_104 : decode code 104 = .ok (.iadd, 1) := by decide +kernel
theorem d_L_law_105 : decode code 105 = .ok (.iaload, 1) := by decide +kernel
theorem d_L_law_106 : decode code 106 = .ok (.aload_n 0, 1) := by decide +kernel
theorem d_L_law_107 : decode code 107 = .ok (.iload_n 3, 1) := by decide +kernel
theorem d_L_law_108 : decode code 108 = .ok (.iconst 2, 1) := by decide +kernel
theorem d_L_law_109 : decode code 109 = .ok (.iadd, 1) := by decide +kernel
theorem d_L_law_110 : decode code 110 = .ok (.iaload, 1) := by decide +kernel
theorem d_L_law_111 : decode code 111 = .ok (.i2l, 1) := by decide +kernel
theorem d_L_law_112 : decode code 112 = .ok (.bipush 32, 2) := by decide +kernel
theorem d_L_law_114 : decode code 114 = .ok (.lshl, 1) := by decide +kernel
theorem d_L_law_115 : decode code 115 = .ok (.aload_n 0, 1) := by decide +kernel
theorem d_L_law_116 : decode code 116 = .ok (.iload_n 3, 1) := by decide +kernel
theorem d_L_law_117 : decode code 117 = .ok (.iconst 3, 1) := by decide +kernel
theorem d_L_law_118 : decode code 118 = .ok (.iadd, 1) := by decide +kernel
theorem d_L_law_119 : decode code 119 = .ok (.iaload, 1) := by decide +kernel
theorem d_L_law_120 : decode code 120 = .ok (.i2l, 1) := by decide +kernel
theorem d_L_law_121 : decode code 121 = .ok (.ldc2_w 13, 3) := by decide +kernel
theorem d_L_law_124 : decode code 124 = .ok (.land, 1) := by decide +kernel
theorem d_L_law_125 : decode code 125 = .ok (.lor, 1) := by decide +kernel
theorem d_L_law_126 : decode code 126 = .ok (.aload_n 0, 1) := by decide +kernel
theorem d_L_law_127 : decode code 127 = .ok (.iload_n 3, 1) := by decide +kernel
theorem d_L_law_128 : decode code 128 = .ok (.iconst 4, 1) := by decide +kernel
theorem d_L_law_129 : decode code 129 = .ok (.iadd, 1) := by decide +kernel
theorem d_L_law_130 : decode code 130 = .ok (.iaload, 1) := by decide +kernel
theorem d_L_law_131 : decode code 131 = .ok (.invokevirtual 15, 3) := by decide +kernel
theorem d_L_law_134 : decode code 134 = .ok (.aload_n 2, 1) := by decide +kernel
theorem d_L_law_135 : decode code 135 = .ok (.aload_n 0, 1) := by decide +kernel
theorem d_L_law_136 : decode code 136 = .ok (.iload_n 3, 1) := by decide +kernel
theorem d_L_law_137 : decode code 137 = .ok (.iconst 1, 1) := by decide +kernel
theorem d_L_law_138 : decode code 138 = .ok (.iadd, 1) := by decide +kernel
theorem d_L_law_139 : decode code 139 = .ok (.iaload, 1) := by decide +kernel
theorem d_L_law_140 : decode code 140 = .ok (.aload_n 0, 1) := by decide +kernel
theorem d_L_law_141 : decode code 141 = .ok (.iload_n 3, 1) := by decide +kernel
theorem d_L_law_142 : decode code 142 = .ok (.iconst 2, 1) := by decide +kernel
theorem d_L_law_143 : decode code 143 = .ok (.iadd, 1) := by decide +kernel
theorem d_L_law_144 : decode code 144 = .ok (.iaload, 1) := by decide +kernel
theorem d_L_law_145 : decode code 145 = .ok (.i2l, 1) := by decide +kernel
theorem d_L_law_146 : decode code 146 = .ok (.bipush 32, 2) := by decide +kernel
theorem d_L_law_148 : decode code 148 = .ok (.lshl, 1) := by decide +kernel
theorem d_L_law_149 : decode code 149 = .ok (.aload_n 0, 1) := by decide +kernel
theorem d_L_law_150 : decode code 150 = .ok (.iload_n 3, 1) := by decide +kernel
theorem d_L_law_151 : decode code 151 = .ok (.iconst 3, 1) := by decide +kernel
theorem d_L_law_152 : decode code 152 = .ok (.iadd, 1) := by decide +kernel
theorem d_L_law_153 : decode code 153 = .ok (.iaload, 1) := by decide +kernel
theorem d_L_law_154 : decode code 154 = .ok (.i2l, 1) := by decide +kernel
theorem d_L_law_155 : decode code 155 = .ok (.ldc2_w 13, 3) := by decide +kernel
theorem d_L_law_158 : decode code 158 = .ok (.land, 1) := by decide +kernel
theorem d_L_law_159 : decode code 159 = .ok (.lor, 1) := by decide +kernel
theorem d_L_law_160 : decode code 160 = .ok (.aload_n 0, 1) := by decide +kernel
theorem d_L_law_161 : decode code 161 = .ok (.iload_n 3, 1) := by decide +kernel
theorem d_L_law_162 : decode code 162 = .ok (.iconst 4, 1) := by decide +kernel
theorem d_L_law_163 : decode code 163 = .ok (.iadd, 1) := by decide +kernel
theorem d_L_law_164 : decode code 164 = .ok (.iaload, 1) := by decide +kernel
theorem d_L_law_165 : decode code 165 = .ok (.invokevirtual 19, 3) := by decide +kernel
theorem d_L_law_168 : decode code 168 = .ok (.if_icmp .eq 321, 3) := by decide +kernel
theorem d_L_law_171 : decode code 171 = .ok (.iconst 0, 1) := by decide +kernel
theorem d_L_law_172 : decode code 172 = .ok (.ireturn, 1) := by decide +kernel
theorem d_L_law_173 : decode code 173 = .ok (.aload_n 1, 1) := by decide +kernel
theorem d_L_law_174 : decode code 174 = .ok (.aload_n 0, 1) := by decide +kernel
theorem d_L_law_175 : decode code 175 = .ok (.iload_n 3, 1) := by decide +kernel
theorem d_L_law_176 : decode code 176 = .ok (.iconst 1, 1) := by decide +kernel
theorem d_L_law_177 : decode code 177 = .ok (.iadd, 1) := by decide +kernel
theorem d_L_law_178 : decode code 178 = .ok (.iaload, 1) := by decide +kernel
theorem d_L_law_179 : decode code 179 = .ok (.invokevirtual 20, 3) := by decide +kernel
theorem d_L_law_182 : decode code 182 = .ok (.aload_n 2, 1) := by decide +kernel
theorem d_L_law_183 : decode code 183 = .ok (.aload_n 0, 1) := by decide +kernel
theorem d_L_law_184 : decode code 184 = .ok (.iload_n 3, 1) := by decide +kernel
theorem d_L_law_185 : decode code 185 = .ok (.iconst 1, 1) := by decide +kernel
theorem d_L_law_186 : decode code 186 = .ok (.iadd, 1) := by decide +kernel
theorem d_L_law_187 : decode code 187 = .ok (.iaload, 1) := by decide +kernel
theorem d_L_law_188 : decode code 188 = .ok (.invokevirtual 24, 3) := by decide +kernel
theorem d_L_law_191 : decode code 191 = .ok (.if_icmp .eq 298, 3) := by decide +kernel
theorem d_L_law_194 : decode code 194 = .ok (.iconst 0, 1) := by decide +kernel
theorem d_L_law_195 : decode code 195 = .ok (.ireturn, 1) := by decide +kernel
theorem d_L_law_196 : decode code 196 = .ok (.aload_n 1, 1) := by decide +kernel
theorem d_L_law_197 : decode code 197 = .ok (.aload_n 0, 1) := by decide +kernel
theorem d_L_law_198 : decode code 198 = .ok (.iload_n 3, 1) := by decide +kernel
theorem d_L_law_199 : decode code 199 = .ok (.iconst 1, 1) := by decide +kernel
theorem d_L_law_200 : decode code 200 = .ok (.iadd, 1) := by decide +kernel
theorem d_L_law_201 : decode code 201 = .ok (.iaload, 1) := by decide +kernel
theorem d_L_law_202 : decode code 202 = .ok (.invokevirtual 25, 3) := by decide +kernel
theorem d_L_law_205 : decode code 205 = .ok (.aload_n 2, 1) := by decide +kernel
theorem d_L_law_206 : decode code 206 = .ok (.aload_n 0, 1) := by decide +kernel
theorem d_L_law_207 : decode code 207 = .ok (.iload_n 3, 1) := by decide +kernel
theorem d_L_law_208 : decode code 208 = .ok (.iconst 1, 1) := by decide +kernel
theorem d_L_law_209 : decode code 209 = .ok (.iadd, 1) := by decide +kernel
theorem d_L_law_210 : decode code 210 = .ok (.iaload, 1) := by decide +kernel
theorem d_L_law_211 : decode code 211 = .ok (.invokevirtual 28, 3) := by decide +kernel
theorem d_L_law_214 : decode code 214 = .ok (.if_icmp .eq 275, 3) := by decide +kernel
theorem d_L_law_217 : decode code 217 = .ok (.iconst 0, 1) := by decide +kernel
theorem d_L_law_218 : decode code 218 = .ok (.ireturn, 1) := by decide +kernel
theorem d_L_law_219 : decode code 219 = .ok (.aload_n 1, 1) := by decide +kernel
theorem d_L_law_220 : decode code 220 = .ok (.aload_n 0, 1) := by decide +kernel
theorem d_L_law_221 : decode code 221 = .ok (.iload_n 3, 1) := by decide +kernel
theorem d_L_law_222 : decode code 222 = .ok (.iconst 1, 1) := by decide +kernel
theorem d_L_law_223 : decode code 223 = .ok (.iadd, 1) := by decide +kernel
theorem d_L_law_224 : decode code 224 = .ok (.iaload, 1) := by decide +kernel
theorem d_L_law_225 : decode code 225 = .ok (.aload_n 0, 1) := by decide +kernel
theorem d_L_law_226 : decode code 226 = .ok (.iload_n 3, 1) := by decide +kernel
theorem d_L_law_227 : decode code 227 = .ok (.iconst 2, 1) := by decide +kernel
theorem d_L_law_228 : decode code 228 = .ok (.iadd, 1) := by decide +kernel
theorem d_L_law_229 : decode code 229 = .ok (.iaload, 1) := by decide +kernel
theorem d_L_law_230 : decode code 230 = .ok (.invokevirtual 29, 3) := by decide +kernel
theorem d_L_law_233 : decode code 233 = .ok (.aload_n 2, 1) := by decide +kernel
theorem d_L_law_234 : decode code 234 = .ok (.aload_n 0, 1) := by decide +kernel
theorem d_L_law_235 : decode code 235 = .ok (.iload_n 3, 1) := by decide +kernel
theorem d_L_law_236 : decode code 236 = .ok (.iconst 1, 1) := by decide +kernel
theorem d_L_law_237 : decode code 237 = .ok (.iadd, 1) := by decide +kernel
theorem d_L_law_238 : decode code 238 = .ok (.iaload, 1) := by decide +kernel
theorem d_L_law_239 : decode code 239 = .ok (.aload_n 0, 1) := by decide +kernel
theorem d_L_law_240 : decode code 240 = .ok (.iload_n 3, 1) := by decide +kernel
theorem d_L_law_241 : decode code 241 = .ok (.iconst 2, 1) := by decide +kernel
theorem d_L_law_242 : decode code 242 = .ok (.iadd, 1) := by decide +kernel
theorem d_L_law_243 : decode code 243 = .ok (.iaload, 1) := by decide +kernel
theorem d_L_law_244 : decode code 244 = .ok (.invokevirtual 33, 3) := by decide +kernel
theorem d_L_law_247 : decode code 247 = .ok (.if_icmp .eq 242, 3) := by decide +kernel
theorem d_L_law_250 : decode code 250 = .ok (.iconst 0, 1) := by decide +kernel
theorem d_L_law_251 : decode code 251 = .ok (.ireturn, 1) := by decide +kernel
theorem d_L_law_252 : decode code 252 = .ok (.aload_n 1, 1) := by decide +kernel
theorem d_L_law_253 : decode code 253 = .ok (.aload_n 0, 1) := by decide +kernel
theorem d_L_law_254 : decode code 254 = .ok (.iload_n 3, 1) := by decide +kernel
theorem d_L_law_255 : decode code 255 = .ok (.iconst 1, 1) := by decide +kernel
theorem d_L_law_256 : decode code 256 = .ok (.iadd, 1) := by decide +kernel
theorem d_L_law_257 : decode code 257 = .ok (.iaload, 1) := by decide +kernel
theorem d_L_law_258 : decode code 258 = .ok (.aload_n 0, 1) := by decide +kernel
theorem d_L_law_259 : decode code 259 = .ok (.iload_n 3, 1) := by decide +kernel
theorem d_L_law_260 : decode code 260 = .ok (.iconst 2, 1) := by decide +kernel
theorem d_L_law_261 : decode code 261 = .ok (.iadd, 1) := by decide +kernel
theorem d_L_law_262 : decode code 262 = .ok (.iaload, 1) := by decide +kernel
theorem d_L_law_263 : decode code 263 = .ok (.aload_n 0, 1) := by decide +kernel
theorem d_L_law_264 : decode code 264 = .ok (.iload_n 3, 1) := by decide +kernel
theorem d_L_law_265 : decode code 265 = .ok (.iconst 3, 1) := by decide +kernel
theorem d_L_law_266 : decode code 266 = .ok (.iadd, 1) := by decide +kernel
theorem d_L_law_267 : decode code 267 = .ok (.iaload, 1) := by decide +kernel
theorem d_L_law_268 : decode code 268 = .ok (.invokevirtual 34, 3) := by decide +kernel
theorem d_L_law_271 : decode code 271 = .ok (.aload_n 2, 1) := by decide +kernel
theorem d_L_law_272 : decode code 272 = .ok (.aload_n 0, 1) := by decide +kernel
theorem d_L_law_273 : decode code 273 = .ok (.iload_n 3, 1) := by decide +kernel
theorem d_L_law_274 : decode code 274 = .ok (.iconst 1, 1) := by decide +kernel
theorem d_L_law_275 : decode code 275 = .ok (.iadd, 1) := by decide +kernel
theorem d_L_law_276 : decode code 276 = .ok (.iaload, 1) := by decide +kernel
theorem d_L_law_277 : decode code 277 = .ok (.aload_n 0, 1) := by decide +kernel
theorem d_L_law_278 : decode code 278 = .ok (.iload_n 3, 1) := by decide +kernel
theorem d_L_law_279 : decode code 279 = .ok (.iconst 2, 1) := by decide +kernel
theorem d_L_law_280 : decode code 280 = .ok (.iadd, 1) := by decide +kernel
theorem d_L_law_281 : decode code 281 = .ok (.iaload, 1) := by decide +kernel
theorem d_L_law_282 : decode code 282 = .ok (.aload_n 0, 1) := by decide +kernel
theorem d_L_law_283 : decode code 283 = .ok (.iload_n 3, 1) := by decide +kernel
theorem d_L_law_284 : decode code 284 = .ok (.iconst 3, 1) := by decide +kernel
theorem d_L_law_285 : decode code 285 = .ok (.iadd, 1) := by decide +kernel
theorem d_L_law_286 : decode code 286 = .ok (.iaload, 1) := by decide +kernel
theorem d_L_law_287 : decode code 287 = .ok (.invokevirtual 38, 3) := by decide +kernel
theorem d_L_law_290 : decode code 290 = .ok (.if_icmp .eq 199, 3) := by decide +kernel
theorem d_L_law_293 : decode code 293 = .ok (.iconst 0, 1) := by decide +kernel
theorem d_L_law_294 : decode code 294 = .ok (.ireturn, 1) := by decide +kernel
theorem d_L_law_295 : decode code 295 = .ok (.aload_n 1, 1) := by decide +kernel
theorem d_L_law_296 : decode code 296 = .ok (.aload_n 0, 1) := by decide +kernel
theorem d_L_law_297 : decode code 297 = .ok (.iload_n 3, 1) := by decide +kernel
theorem d_L_law_298 : decode code 298 = .ok (.iconst 1, 1) := by decide +kernel
theorem d_L_law_299 : decode code 299 = .ok (.iadd, 1) := by decide +kernel
theorem d_L_law_300 : decode code 300 = .ok (.iaload, 1) := by decide +kernel
theorem d_L_law_301 : decode code 301 = .ok (.invokevirtual 39, 3) := by decide +kernel
theorem d_L_law_304 : decode code 304 = .ok (.aload_n 2, 1) := by decide +kernel
theorem d_L_law_305 : decode code 305 = .ok (.aload_n 0, 1) := by decide +kernel
theorem d_L_law_306 : decode code 306 = .ok (.iload_n 3, 1) := by decide +kernel
theorem d_L_law_307 : decode code 307 = .ok (.iconst 1, 1) := by decide +kernel
theorem d_L_law_308 : decode code 308 = .ok (.iadd, 1) := by decide +kernel
theorem d_L_law_309 : decode code 309 = .ok (.iaload, 1) := by decide +kernel
theorem d_L_law_310 : decode code 310 = .ok (.invokevirtual 42, 3) := by decide +kernel
theorem d_L_law_313 : decode code 313 = .ok (.if_icmp .eq 176, 3) := by decide +kernel
theorem d_L_law_316 : decode code 316 = .ok (.iconst 0, 1) := by decide +kernel
theorem d_L_law_317 : decode code 317 = .ok (.ireturn, 1) := by decide +kernel
theorem d_L_law_318 : decode code 318 = .ok (.aload_n 1, 1) := by decide +kernel
theorem d_L_law_319 : decode code 319 = .ok (.aload_n 0, 1) := by decide +kernel
theorem d_L_law_320 : decode code 320 = .ok (.iload_n 3, 1) := by decide +kernel
theorem d_L_law_321 : decode code 321 = .ok (.iconst 1, 1) := by decide +kernel
theorem d_L_law_322 : decode code 322 = .ok (.iadd, 1) := by decide +kernel
theorem d_L_law_323 : decode code 323 = .ok (.iaload, 1) := by decide +kernel
theorem d_L_law_324 : decode code 324 = .ok (.invokevirtual 43, 3) := by decide +kernel
theorem d_L_law_327 : decode code 327 = .ok (.aload_n 2, 1) := by decide +kernel
theorem d_L_law_328 : decode code 328 = .ok (.aload_n 0, 1) := by decide +kernel
theorem d_L_law_329 : decode code 329 = .ok (.iload_n 3, 1) := by decide +kernel
theorem d_L_law_330 : decode code 330 = .ok (.iconst 1, 1) := by decide +kernel
theorem d_L_law_331 : decode code 331 = .ok (.iadd, 1) := by decide +kernel
theorem d_L_law_332 : decode code 332 = .ok (.iaload, 1) := by decide +kernel
theorem d_L_law_333 : decode code 333 = .ok (.invokevirtual 46, 3) := by decide +kernel
theorem d_L_law_336 : decode code 336 = .ok (.if_icmp .eq 153, 3) := by decide +kernel
theorem d_L_law_339 : decode code 339 = .ok (.iconst 0, 1) := by decide +kernel
theorem d_L_law_340 : decode code 340 = .ok (.ireturn, 1) := by decide +kernel
theorem d_L_law_341 : decode code 341 = .ok (.aload_n 1, 1) := by decide +kernel
theorem d_L_law_342 : decode code 342 = .ok (.aload_n 0, 1) := by decide +kernel
theorem d_L_law_343 : decode code 343 = .ok (.iload_n 3, 1) := by decide +kernel
theorem d_L_law_344 : decode code 344 = .ok (.iconst 1, 1) := by decide +kernel
theorem d_L_law_345 : decode code 345 = .ok (.iadd, 1) := by decide +kernel
theorem d_L_law_346 : decode code 346 = .ok (.iaload, 1) := by decide +kernel
theorem d_L_law_347 : decode code 347 = .ok (.i2l, 1) := by decide +kernel
theorem d_L_law_348 : decode code 348 = .ok (.bipush 32, 2) := by decide +kernel
theorem d_L_law_350 : decode code 350 = .ok (.lshl, 1) := by decide +kernel
theorem d_L_law_351 : decode code 351 = .ok (.aload_n 0, 1) := by decide +kernel
theorem d_L_law_352 : decode code 352 = .ok (.iload_n 3, 1) := by decide +kernel
theorem d_L_law_353 : decode code 353 = .ok (.iconst 2, 1) := by decide +kernel
theorem d_L_law_354 : decode code 354 = .ok (.iadd, 1) := by decide +kernel
theorem d_L_law_355 : decode code 355 = .ok (.iaload, 1) := by decide +kernel
theorem d_L_law_356 : decode code 356 = .ok (.i2l, 1) := by decide +kernel
theorem d_L_law_357 : decode code 357 = .ok (.ldc2_w 13, 3) := by decide +kernel
theorem d_L_law_360 : decode code 360 = .ok (.land, 1) := by decide +kernel
theorem d_L_law_361 : decode code 361 = .ok (.lor, 1) := by decide +kernel
theorem d_L_law_362 : decode code 362 = .ok (.aload_n 0, 1) := by decide +kernel
theorem d_L_law_363 : decode code 363 = .ok (.iload_n 3, 1) := by decide +kernel
theorem d_L_law_364 : decode code 364 = .ok (.iconst 3, 1) := by decide +kernel
theorem d_L_law_365 : decode code 365 = .ok (.iadd, 1) := by decide +kernel
theorem d_L_law_366 : decode code 366 = .ok (.iaload, 1) := by decide +kernel
theorem d_L_law_367 : decode code 367 = .ok (.invokevirtual 47, 3) := by decide +kernel
theorem d_L_law_370 : decode code 370 = .ok (.aload_n 2, 1) := by decide +kernel
theorem d_L_law_371 : decode code 371 = .ok (.aload_n 0, 1) := by decide +kernel
theorem d_L_law_372 : decode code 372 = .ok (.iload_n 3, 1) := by decide +kernel
theorem d_L_law_373 : decode code 373 = .ok (.iconst 1, 1) := by decide +kernel
theorem d_L_law_374 : decode code 374 = .ok (.iadd, 1) := by decide +kernel
theorem d_L_law_375 : decode code 375 = .ok (.iaload, 1) := by decide +kernel
theorem d_L_law_376 : decode code 376 = .ok (.i2l, 1) := by decide +kernel
theorem d_L_law_377 : decode code 377 = .ok (.bipush 32, 2) := by decide +kernel
theorem d_L_law_379 : decode code 379 = .ok (.lshl, 1) := by decide +kernel
theorem d_L_law_380 : decode code 380 = .ok (.aload_n 0, 1) := by decide +kernel
theorem d_L_law_381 : decode code 381 = .ok (.iload_n 3, 1) := by decide +kernel
theorem d_L_law_382 : decode code 382 = .ok (.iconst 2, 1) := by decide +kernel
theorem d_L_law_383 : decode code 383 = .ok (.iadd, 1) := by decide +kernel
theorem d_L_law_384 : decode code 384 = .ok (.iaload, 1) := by decide +kernel
theorem d_L_law_385 : decode code 385 = .ok (.i2l, 1) := by decide +kernel
theorem d_L_law_386 : decode code 386 = .ok (.ldc2_w 13, 3) := by decide +kernel
theorem d_L_law_389 : decode code 389 = .ok (.land, 1) := by decide +kernel
theorem d_L_law_390 : decode code 390 = .ok (.lor, 1) := by decide +kernel
theorem d_L_law_391 : decode code 391 = .ok (.aload_n 0, 1) := by decide +kernel
theorem d_L_law_392 : decode code 392 = .ok (.iload_n 3, 1) := by decide +kernel
theorem d_L_law_393 : decode code 393 = .ok (.iconst 3, 1) := by decide +kernel
theorem d_L_law_394 : decode code 394 = .ok (.iadd, 1) := by decide +kernel
theorem d_L_law_395 : decode code 395 = .ok (.iaload, 1) := by decide +kernel
theorem d_L_law_396 : decode code 396 = .ok (.invokevirtual 51, 3) := by decide +kernel
theorem d_L_law_399 : decode code 399 = .ok (.if_icmp .eq 90, 3) := by decide +kernel
theorem d_L_law_402 : decode code 402 = .ok (.iconst 0, 1) := by decide +kernel
theorem d_L_law_403 : decode code 403 = .ok (.ireturn, 1) := by decide +kernel
theorem d_L_law_404 : decode code 404 = .ok (.aload_n 1, 1) := by decide +kernel
theorem d_L_law_405 : decode code 405 = .ok (.invokevirtual 52, 3) := by decide +kernel
theorem d_L_law_408 : decode code 408 = .ok (.aload_n 2, 1) := by decide +kernel
theorem d_L_law_409 : decode code 409 = .ok (.invokevirtual 56, 3) := by decide +kernel
theorem d_L_law_412 : decode code 412 = .ok (.if_icmp .eq 77, 3) := by decide +kernel
theorem d_L_law_415 : decode code 415 = .ok (.iconst 0, 1) := by decide +kernel
theorem d_L_law_416 : decode code 416 = .ok (.ireturn, 1) := by decide +kernel
theorem d_L_law_417 : decode code 417 = .ok (.aload_n 1, 1) := by decide +kernel
theorem d_L_law_418 : decode code 418 = .ok (.aload_n 0, 1) := by decide +kernel
theorem d_L_law_419 : decode code 419 = .ok (.iload_n 3, 1) := by decide +kernel
theorem d_L_law_420 : decode code 420 = .ok (.iconst 1, 1) := by decide +kernel
theorem d_L_law_421 : decode code 421 = .ok (.iadd, 1) := by decide +kernel
theorem d_L_law_422 : decode code 422 = .ok (.iaload, 1) := by decide +kernel
theorem d_L_law_423 : decode code 423 = .ok (.invokevirtual 57, 3) := by decide +kernel
theorem d_L_law_426 : decode code 426 = .ok (.aload_n 2, 1) := by decide +kernel
theorem d_L_law_427 : decode code 427 = .ok (.aload_n 0, 1) := by decide +kernel
theorem d_L_law_428 : decode code 428 = .ok (.iload_n 3, 1) := by decide +kernel
theorem d_L_law_429 : decode code 429 = .ok (.iconst 1, 1) := by decide +kernel
theorem d_L_law_430 : decode code 430 = .ok (.iadd, 1) := by decide +kernel
theorem d_L_law_431 : decode code 431 = .ok (.iaload, 1) := by decide +kernel
theorem d_L_law_432 : decode code 432 = .ok (.invokevirtual 60, 3) := by decide +kernel
theorem d_L_law_435 : decode code 435 = .ok (.if_icmp .eq 54, 3) := by decide +kernel
theorem d_L_law_438 : decode code 438 = .ok (.iconst 0, 1) := by decide +kernel
theorem d_L_law_439 : decode code 439 = .ok (.ireturn, 1) := by decide +kernel
theorem d_L_law_440 : decode code 440 = .ok (.aload_n 1, 1) := by decide +kernel
theorem d_L_law_441 : decode code 441 = .ok (.invokevirtual 61, 3) := by decide +kernel
theorem d_L_law_444 : decode code 444 = .ok (.aload_n 2, 1) := by decide +kernel
theorem d_L_law_445 : decode code 445 = .ok (.invokevirtual 64, 3) := by decide +kernel
theorem d_L_law_448 : decode code 448 = .ok (.if_icmp .eq 41, 3) := by decide +kernel
theorem d_L_law_451 : decode code 451 = .ok (.iconst 0, 1) := by decide +kernel
theorem d_L_law_452 : decode code 452 = .ok (.ireturn, 1) := by decide +kernel
theorem d_L_law_453 : decode code 453 = .ok (.aload_n 1, 1) := by decide +kernel
theorem d_L_law_454 : decode code 454 = .ok (.aload_n 0, 1) := by decide +kernel
theorem d_L_law_455 : decode code 455 = .ok (.iload_n 3, 1) := by decide +kernel
theorem d_L_law_456 : decode code 456 = .ok (.iconst 1, 1) := by decide +kernel
theorem d_L_law_457 : decode code 457 = .ok (.iadd, 1) := by decide +kernel
theorem d_L_law_458 : decode code 458 = .ok (.iaload, 1) := by decide +kernel
theorem d_L_law_459 : decode code 459 = .ok (.invokevirtual 65, 3) := by decide +kernel
theorem d_L_law_462 : decode code 462 = .ok (.aload_n 2, 1) := by decide +kernel
theorem d_L_law_463 : decode code 463 = .ok (.aload_n 0, 1) := by decide +kernel
theorem d_L_law_464 : decode code 464 = .ok (.iload_n 3, 1) := by decide +kernel
theorem d_L_law_465 : decode code 465 = .ok (.iconst 1, 1) := by decide +kernel
theorem d_L_law_466 : decode code 466 = .ok (.iadd, 1) := by decide +kernel
theorem d_L_law_467 : decode code 467 = .ok (.iaload, 1) := by decide +kernel
theorem d_L_law_468 : decode code 468 = .ok (.invokevirtual 68, 3) := by decide +kernel
theorem d_L_law_471 : decode code 471 = .ok (.if_icmp .eq 18, 3) := by decide +kernel
theorem d_L_law_474 : decode code 474 = .ok (.iconst 0, 1) := by decide +kernel
theorem d_L_law_475 : decode code 475 = .ok (.ireturn, 1) := by decide +kernel
theorem d_L_law_476 : decode code 476 = .ok (.aload_n 1, 1) := by decide +kernel
theorem d_L_law_477 : decode code 477 = .ok (.invokevirtual 69, 3) := by decide +kernel
theorem d_L_law_480 : decode code 480 = .ok (.aload_n 2, 1) := by decide +kernel
theorem d_L_law_481 : decode code 481 = .ok (.invokevirtual 72, 3) := by decide +kernel
theorem d_L_law_484 : decode code 484 = .ok (.if_icmp .eq 5, 3) := by decide +kernel
theorem d_L_law_487 : decode code 487 = .ok (.iconst 0, 1) := by decide +kernel
theorem d_L_law_488 : decode code 488 = .ok (.ireturn, 1) := by decide +kernel
theorem d_L_law_489 : decode code 489 = .ok (.iinc 3 5, 3) := by decide +kernel
theorem d_L_law_492 : decode code 492 = .ok (.goto (-474), 3) := by decide +kernel
theorem d_L_law_495 : decode code 495 = .ok (.iconst 1, 1) := by decide +kernel
theorem d_L_law_496 : decode code 496 = .ok (.ireturn, 1) := by decide +kernel
