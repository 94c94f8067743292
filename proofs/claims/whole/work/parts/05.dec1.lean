theorem d_P_init_0 : decode um_P_init.2.1 0 = .ok (.aload_n 0, 1) := by decide +kernel
theorem d_P_init_1 : decode um_P_init.2.1 1 = .ok (.invokespecial 1, 3) := by decide +kernel
theorem d_P_init_4 : decode um_P_init.2.1 4 = .ok (.aload_n 0, 1) := by decide +kernel
theorem d_P_init_5 : decode um_P_init.2.1 5 = .ok (.iconst 4, 1) := by decide +kernel
theorem d_P_init_6 : decode um_P_init.2.1 6 = .ok (.anewarray 9, 3) := by decide +kernel
theorem d_P_init_9 : decode um_P_init.2.1 9 = .ok (.putfield 11, 3) := by decide +kernel
theorem d_P_init_12 : decode um_P_init.2.1 12 = .ok (.aload_n 0, 1) := by decide +kernel
theorem d_P_init_13 : decode um_P_init.2.1 13 = .ok (.new 15, 3) := by decide +kernel
theorem d_P_init_16 : decode um_P_init.2.1 16 = .ok (.dup, 1) := by decide +kernel
theorem d_P_init_17 : decode um_P_init.2.1 17 = .ok (.invokespecial 17, 3) := by decide +kernel
theorem d_P_init_20 : decode um_P_init.2.1 20 = .ok (.putfield 18, 3) := by decide +kernel
theorem d_P_init_23 : decode um_P_init.2.1 23 = .ok (.aload_n 0, 1) := by decide +kernel
theorem d_P_init_24 : decode um_P_init.2.1 24 = .ok (.new 22, 3) := by decide +kernel
theorem d_P_init_27 : decode um_P_init.2.1 27 = .ok (.dup, 1) := by decide +kernel
theorem d_P_init_28 : decode um_P_init.2.1 28 = .ok (.invokespecial 24, 3) := by decide +kernel
theorem d_P_init_31 : decode um_P_init.2.1 31 = .ok (.putfield 25, 3) := by decide +kernel
theorem d_P_init_34 : decode um_P_init.2.1 34 = .ok (.aload_n 0, 1) := by decide +kernel
theorem d_P_init_35 : decode um_P_init.2.1 35 = .ok (.new 29, 3) := by decide +kernel
theorem d_P_init_38 : decode um_P_init.2.1 38 = .ok (.dup, 1) := by decide +kernel
theorem d_P_init_39 : decode um_P_init.2.1 39 = .ok (.aload_n 0, 1) := by decide +kernel
theorem d_P_init_40 : decode um_P_init.2.1 40 = .ok (.getfield 25, 3) := by decide +kernel
theorem d_P_init_43 : decode um_P_init.2.1 43 = .ok (.invokespecial 31, 3) := by decide +kernel
theorem d_P_init_46 : decode um_P_init.2.1 46 = .ok (.putfield 34, 3) := by decide +kernel
theorem d_P_init_49 : decode um_P_init.2.1 49 = .ok (.aload_n 0, 1) := by decide +kernel
theorem d_P_init_50 : decode um_P_init.2.1 50 = .ok (.new 38, 3) := by decide +kernel
theorem d_P_init_53 : decode um_P_init.2.1 53 = .ok (.dup, 1) := by decide +kernel
theorem d_P_init_54 : decode um_P_init.2.1 54 = .ok (.invokespecial 40, 3) := by decide +kernel
theorem d_P_init_57 : decode um_P_init.2.1 57 = .ok (.putfield 41, 3) := by decide +kernel
theorem d_P_init_60 : decode um_P_init.2.1 60 = .ok (.aload_n 0, 1) := by decide +kernel
theorem d_P_init_61 : decode um_P_init.2.1 61 = .ok (.new 45, 3) := by decide +kernel
theorem d_P_init_64 : decode um_P_init.2.1 64 = .ok (.dup, 1) := by decide +kernel
theorem d_P_init_65 : decode um_P_init.2.1 65 = .ok (.aload_n 0, 1) := by decide +kernel
theorem d_P_init_66 : decode um_P_init.2.1 66 = .ok (.getfield 18, 3) := by decide +kernel
theorem d_P_init_69 : decode um_P_init.2.1 69 = .ok (.aload_n 0, 1) := by decide +kernel
theorem d_P_init_70 : decode um_P_init.2.1 70 = .ok (.getfield 41, 3) := by decide +kernel
theorem d_P_init_73 : decode um_P_init.2.1 73 = .ok (.invokespecial 47, 3) := by decide +kernel
theorem d_P_init_76 : decode um_P_init.2.1 76 = .ok (.putfield 50, 3) := by decide +kernel
theorem d_P_init_79 : decode um_P_init.2.1 79 = .ok (.aload_n 0, 1) := by decide +kernel
theorem d_P_init_80 : decode um_P_init.2.1 80 = .ok (.new 54, 3) := by decide +kernel
theorem d_P_init_83 : decode um_P_init.2.1 83 = .ok (.dup, 1) := by decide +kernel
theorem d_P_init_84 : decode um_P_init.2.1 84 = .ok (.aload_n 0, 1) := by decide +kernel
theorem d_P_init_85 : decode um_P_init.2.1 85 = .ok (.getfield 41, 3) := by decide +kernel
theorem d_P_init_88 : decode um_P_init.2.1 88 = .ok (.invokespecial 56, 3) := by decide +kernel
theorem d_P_init_91 : decode um_P_init.2.1 91 = .ok (.putfield 59, 3) := by decide +kernel
theorem d_P_init_94 : decode um_P_init.2.1 94 = .ok (.aload_n 0, 1) := by decide +kernel
theorem d_P_init_95 : decode um_P_init.2.1 95 = .ok (.new 63, 3) := by decide +kernel
theorem d_P_init_98 : decode um_P_init.2.1 98 = .ok (.dup, 1) := by decide +kernel
theorem d_P_init_99 : decode um_P_init.2.1 99 = .ok (.aload_n 0, 1) := by decide +kernel
theorem d_P_init_100 : decode um_P_init.2.1 100 = .ok (.getfield 59, 3) := by decide +kernel
theorem d_P_init_103 : decode um_P_init.2.1 103 = .ok (.invokespecial 65, 3) := by decide +kernel
theorem d_P_init_106 : decode um_P_init.2.1 106 = .ok (.putfield 68, 3) := by decide +kernel
theorem d_P_init_109 : decode um_P_init.2.1 109 = .ok (.aload_n 0, 1) := by decide +kernel
theorem d_P_init_110 : decode um_P_init.2.1 110 = .ok (.new 72, 3) := by decide +kernel
theorem d_P_init_113 : decode um_P_init.2.1 113 = .ok (.dup, 1) := by decide +kernel
theorem d_P_init_114 : decode um_P_init.2.1 114 = .ok (.aload_n 0, 1) := by decide +kernel
theorem d_P_init_115 : decode um_P_init.2.1 115 = .ok (.getfield 25, 3) := by decide +kernel
theorem d_P_init_118 : decode um_P_init.2.1 118 = .ok (.invokespecial 74, 3) := by decide +kernel
theorem d_P_init_121 : decode um_P_init.2.1 121 = .ok (.putfield 75, 3) := by decide +kernel
theorem d_P_init_124 : decode um_P_init.2.1 124 = .ok (.iconst 0, 1) := by decide +kernel
theorem d_P_init_125 : decode um_P_init.2.1 125 = .ok (.istore_n 1, 1) := by decide +kernel
theorem d_P_init_126 : decode um_P_init.2.1 126 = .ok (.iload_n 1, 1) := by decide +kernel
theorem d_P_init_127 : decode um_P_init.2.1 127 = .ok (.iconst 4, 1) := by decide +kernel
theorem d_P_init_128 : decode um_P_init.2.1 128 = .ok (.if_icmp .ge 22, 3) := by decide +kernel
theorem d_P_init_131 : decode um_P_init.2.1 131 = .ok (.aload_n 0, 1) := by decide +kernel
theorem d_P_init_132 : decode um_P_init.2.1 132 = .ok (.getfield 11, 3) := by decide +kernel
theorem d_P_init_135 : decode um_P_init.2.1 135 = .ok (.iload_n 1, 1) := by decide +kernel
theorem d_P_init_136 : decode um_P_init.2.1 136 = .ok (.new 9, 3) := by decide +kernel
theorem d_P_init_139 : decode um_P_init.2.1 139 = .ok (.dup, 1) := by decide +kernel
theorem d_P_init_140 : decode um_P_init.2.1 140 = .ok (.invokespecial 79, 3) := by decide +kernel
theorem d_P_init_143 : decode um_P_init.2.1 143 = .ok (.aastore, 1) := by decide +kernel
theorem d_P_init_144 : decode um_P_init.2.1 144 = .ok (.iinc 1 1, 3) := by decide +kernel
theorem d_P_init_147 : decode um_P_init.2.1 147 = .ok (.goto (-21), 3) := by decide +kernel
theorem d_P_init_150 : decode um_P_init.2.1 150 = .ok (.return_, 1) := by decide +kernel
theorem d_P_add_0 : decode um_P_add.2.1 0 = .ok (.iload_n 1, 1) := by decide +kernel
theorem d_P_add_1 : decode um_P_add.2.1 1 = .ok (.invokestatic 80, 3) := by decide +kernel
theorem d_P_add_4 : decode um_P_add.2.1 4 = .ok (.ifCond .eq 25, 3) := by decide +kernel
theorem d_P_add_7 : decode um_P_add.2.1 7 = .ok (.iload 4, 2) := by decide +kernel
theorem d_P_add_9 : decode um_P_add.2.1 9 = .ok (.iconst 1, 1) := by decide +kernel
theorem d_P_add_10 : decode um_P_add.2.1 10 = .ok (.if_icmp .lt 19, 3) := by decide +kernel
theorem d_P_add_13 : decode um_P_add.2.1 13 = .ok (.iload 4, 2) := by decide +kernel
theorem d_P_add_15 : decode um_P_add.2.1 15 = .ok (.bipush 8, 2) := by decide +kernel
theorem d_P_add_17 : decode um_P_add.2.1 17 = .ok (.if_icmp .gt 12, 3) := by decide +kernel
theorem d_P_add_20 : decode um_P_add.2.1 20 = .ok (.lload_n 2, 1) := by decide +kernel
theorem d_P_add_21 : decode um_P_add.2.1 21 = .ok (.iload 4, 2) := by decide +kernel
theorem d_P_add_23 : decode um_P_add.2.1 23 = .ok (.invokestatic 84, 3) := by decide +kernel
theorem d_P_add_26 : decode um_P_add.2.1 26 = .ok (.ifCond .ne 5, 3) := by decide +kernel
theorem d_P_add_29 : decode um_P_add.2.1 29 = .ok (.iconst (-1), 1) := by decide +kernel
theorem d_P_add_30 : decode um_P_add.2.1 30 = .ok (.ireturn, 1) := by decide +kernel
theorem d_P_add_31 : decode um_P_add.2.1 31 = .ok (.aload_n 0, 1) := by decide +kernel
theorem d_P_add_32 : decode um_P_add.2.1 32 = .ok (.getfield 11, 3) := by decide +kernel
theorem d_P_add_35 : decode um_P_add.2.1 35 = .ok (.iload_n 1, 1) := by decide +kernel
theorem d_P_add_36 : decode um_P_add.2.1 36 = .ok (.aaload, 1) := by decide +kernel
theorem d_P_add_37 : decode um_P_add.2.1 37 = .ok (.getfield 88, 3) := by decide +kernel
theorem d_P_add_40 : decode um_P_add.2.1 40 = .ok (.iload 4, 2) := by decide +kernel
theorem d_P_add_42 : decode um_P_add.2.1 42 = .ok (.iadd, 1) := by decide +kernel
theorem d_P_add_43 : decode um_P_add.2.1 43 = .ok (.bipush 24, 2) := by decide +kernel
theorem d_P_add_45 : decode um_P_add.2.1 45 = .ok (.if_icmp .le 6, 3) := by decide +kernel
theorem d_P_add_48 : decode um_P_add.2.1 48 = .ok (.bipush (-2), 2) := by decide +kernel
theorem d_P_add_50 : decode um_P_add.2.1 50 = .ok (.ireturn, 1) := by decide +kernel
theorem d_P_add_51 : decode um_P_add.2.1 51 = .ok (.iload 4, 2) := by decide +kernel
theorem d_P_add_53 : decode um_P_add.2.1 53 = .ok (.iconst 1, 1) := by decide +kernel
theorem d_P_add_54 : decode um_P_add.2.1 54 = .ok (.isub, 1) := by decide +kernel
theorem d_P_add_55 : decode um_P_add.2.1 55 = .ok (.istore 5, 2) := by decide +kernel
theorem d_P_add_57 : decode um_P_add.2.1 57 = .ok (.iload 5, 2) := by decide +kernel
theorem d_P_add_59 : decode um_P_add.2.1 59 = .ok (.ifCond .lt 24, 3) := by decide +kernel
theorem d_P_add_62 : decode um_P_add.2.1 62 = .ok (.aload_n 0, 1) := by decide +kernel
theorem d_P_add_63 : decode um_P_add.2.1 63 = .ok (.getfield 11, 3) := by decide +kernel
theorem d_P_add_66 : decode um_P_add.2.1 66 = .ok (.iload_n 1, 1) := by decide +kernel
theorem d_P_add_67 : decode um_P_add.2.1 67 = .ok (.aaload, 1) := by decide +kernel
theorem d_P_add_68 : decode um_P_add.2.1 68 = .ok (.lload_n 2, 1) := by decide +kernel
theorem d_P_add_69 : decode um_P_add.2.1 69 = .ok (.iload 5, 2) := by decide +kernel
theorem d_P_add_71 : decode um_P_add.2.1 71 = .ok (.invokestatic 92, 3) := by decide +kernel
theorem d_P_add_74 : decode um_P_add.2.1 74 = .ok (.invokevirtual 96, 3) := by decide +kernel
theorem d_P_add_77 : decode um_P_add.2.1 77 = .ok (.iinc 5 (-1), 3) := by decide +kernel
theorem d_P_add_80 : decode um_P_add.2.1 80 = .ok (.goto (-23), 3) := by decide +kernel
theorem d_P_add_83 : decode um_P_add.2.1 83 = .ok (.aload_n 0, 1) := by decide +kernel
theorem d_P_add_84 : decode um_P_add.2.1 84 = .ok (.getfield 11, 3) := by decide +kernel
theorem d_P_add_87 : decode um_P_add.2.1 87 = .ok (.iload_n 1, 1) := by decide +kernel
theorem d_P_add_88 : decode um_P_add.2.1 88 = .ok (.aaload, 1) := by decide +kernel
theorem d_P_add_89 : decode um_P_add.2.1 89 = .ok (.getfield 88, 3) := by decide +kernel
theorem d_P_add_92 : decode um_P_add.2.1 92 = .ok (.ireturn, 1) := by decide +kernel
theorem d_P_clear_0 : decode um_P_clear.2.1 0 = .ok (.iload_n 1, 1) := by decide +kernel
theorem d_P_clear_1 : decode um_P_clear.2.1 1 = .ok (.invokestatic 80, 3) := by decide +kernel
theorem d_P_clear_4 : decode um_P_clear.2.1 4 = .ok (.ifCond .ne 5, 3) := by decide +kernel
theorem d_P_clear_7 : decode um_P_clear.2.1 7 = .ok (.iconst (-1), 1) := by decide +kernel
theorem d_P_clear_8 : decode um_P_clear.2.1 8 = .ok (.ireturn, 1) := by decide +kernel
theorem d_P_clear_9 : decode um_P_clear.2.1 9 = .ok (.aload_n 0, 1) := by decide +kernel
theorem d_P_clear_10 : decode um_P_clear.2.1 10 = .ok (.getfield 11, 3) := by decide +kernel
theorem d_P_clear_13 : decode um_P_clear.2.1 13 = .ok (.iload_n 1, 1) := by decide +kernel
theorem d_P_clear_14 : decode um_P_clear.2.1 14 = .ok (.aaload, 1) := by decide +kernel
theorem d_P_clear_15 : decode um_P_clear.2.1 15 = .ok (.getfield 88, 3) := by decide +kernel
theorem d_P_clear_18 : decode um_P_clear.2.1 18 = .ok (.istore_n 2, 1) := by decide +kernel
theorem d_P_clear_19 : decode um_P_clear.2.1 19 = .ok (.aload_n 0, 1) := by decide +kernel
theorem d_P_clear_20 : decode um_P_clear.2.1 20 = .ok (.getfield 11, 3) := by decide +kernel
theorem d_P_clear_23 : decode um_P_clear.2.1 23 = .ok (.iload_n 1, 1) := by decide +kernel
theorem d_P_clear_24 : decode um_P_clear.2.1 24 = .ok (.aaload, 1) := by decide +kernel
theorem d_P_clear_25 : decode um_P_clear.2.1 25 = .ok (.iconst 0, 1) := by decide +kernel
theorem d_P_clear_26 : decode um_P_clear.2.1 26 = .ok (.putfield 88, 3) := by decide +kernel
theorem d_P_clear_29 : decode um_P_clear.2.1 29 = .ok (.iload_n 2, 1) := by decide +kernel
theorem d_P_clear_30 : decode um_P_clear.2.1 30 = .ok (.ireturn, 1) := by decide +kernel
theorem d_P_size_0 : decode um_P_size.2.1 0 = .ok (.iload_n 1, 1) := by decide +kernel
theorem d_P_size_1 : decode um_P_size.2.1 1 = .ok (.invokestatic 80, 3) := by decide +kernel
theorem d_P_size_4 : decode um_P_size.2.1 4 = .ok (.ifCond .eq 15, 3) := by decide +kernel
theorem d_P_size_7 : decode um_P_size.2.1 7 = .ok (.aload_n 0, 1) := by decide +kernel
theorem d_P_size_8 : decode um_P_size.2.1 8 = .ok (.getfield 11, 3) := by decide +kernel
theorem d_P_size_11 : decode um_P_size.2.1 11 = .ok (.iload_n 1, 1) := by decide +kernel
theorem d_P_size_12 : decode um_P_size.2.1 12 = .ok (.aaload, 1) := by decide +kernel
theorem d_P_size_13 : decode um_P_size.2.1 13 = .ok (.getfield 88, 3) := by decide +kernel
theorem d_P_size_16 : decode um_P_size.2.1 16 = .ok (.goto 4, 3) := by decide +kernel
theorem d_P_size_19 : decode um_P_size.2.1 19 = .ok (.iconst (-1), 1) := by decide +kernel
theorem d_P_size_20 : decode um_P_size.2.1 20 = .ok (.ireturn, 1) := by decide +kernel
theorem d_P_line_0 : decode um_P_line.2.1 0 = .ok (.iload_n 1, 1) := by decide +kernel
theorem d_P_line_1 : decode um_P_line.2.1 1 = .ok (.invokestatic 80, 3) := by decide +kernel
theorem d_P_line_4 : decode um_P_line.2.1 4 = .ok (.ifCond .ne 5, 3) := by decide +kernel
theorem d_P_line_7 : decode um_P_line.2.1 7 = .ok (.iconst (-1), 1) := by decide +kernel
theorem d_P_line_8 : decode um_P_line.2.1 8 = .ok (.ireturn, 1) := by decide +kernel
theorem d_P_line_9 : decode um_P_line.2.1 9 = .ok (.iload_n 2, 1) := by decide +kernel
theorem d_P_line_10 : decode um_P_line.2.1 10 = .ok (.ifCond .lt 30, 3) := by decide +kernel
theorem d_P_line_13 : decode um_P_line.2.1 13 = .ok (.iload_n 2, 1) := by decide +kernel
theorem d_P_line_14 : decode um_P_line.2.1 14 = .ok (.aload_n 0, 1) := by decide +kernel
theorem d_P_line_15 : decode um_P_line.2.1 15 = .ok (.getfield 11, 3) := by decide +kernel
theorem d_P_line_18 : decode um_P_line.2.1 18 = .ok (.iload_n 1, 1) := by decide +kernel
theorem d_P_line_19 : decode um_P_line.2.1 19 = .ok (.aaload, 1) := by decide +kernel
theorem d_P_line_20 : decode um_P_line.2.1 20 = .ok (.getfield 88, 3) := by decide +kernel
theorem d_P_line_23 : decode um_P_line.2.1 23 = .ok (.if_icmp .ge 17, 3) := by decide +kernel
theorem d_P_line_26 : decode um_P_line.2.1 26 = .ok (.aload_n 0, 1) := by decide +kernel
theorem d_P_line_27 : decode um_P_line.2.1 27 = .ok (.getfield 11, 3) := by decide +kernel
theorem d_P_line_30 : decode um_P_line.2.1 30 = .ok (.iload_n 1, 1) := by decide +kernel
theorem d_P_line_31 : decode um_P_line.2.1 31 = .ok (.aaload, 1) := by decide +kernel
theorem d_P_line_32 : decode um_P_line.2.1 32 = .ok (.getfield 100, 3) := by decide +kernel
theorem d_P_line_35 : decode um_P_line.2.1 35 = .ok (.iload_n 2, 1) := by decide +kernel
theorem d_P_line_36 : decode um_P_line.2.1 36 = .ok (.iaload, 1) := by decide +kernel
theorem d_P_line_37 : decode um_P_line.2.1 37 = .ok (.goto 5, 3) := by decide +kernel
theorem d_P_line_40 : decode um_P_line.2.1 40 = .ok (.bipush (-3), 2) := by decide +kernel
theorem d_P_line_42 : decode um_P_line.2.1 42 = .ok (.ireturn, 1) := by decide +kernel
theorem d_P_compare_0 : decode um_P_compare.2.1 0 = .ok (.iload_n 1, 1) := by decide +kernel
theorem d_P_compare_1 : decode um_P_compare.2.1 1 = .ok (.invokestatic 80, 3) := by decide +kernel
theorem d_P_compare_4 : decode um_P_compare.2.1 4 = .ok (.ifCond .eq 19, 3) := by decide +kernel
theorem d_P_compare_7 : decode um_P_compare.2.1 7 = .ok (.iload_n 2, 1) := by decide +kernel
theorem d_P_compare_8 : decode um_P_compare.2.1 8 = .ok (.invokestatic 80, 3) := by decide +kernel
theorem d_P_compare_11 : decode um_P_compare.2.1 11 = .ok (.ifCond .eq 12, 3) := by decide +kernel
theorem d_P_compare_14 : decode um_P_compare.2.1 14 = .ok (.iload_n 3, 1) := by decide +kernel
theorem d_P_compare_15 : decode um_P_compare.2.1 15 = .ok (.ifCond .eq 10, 3) := by decide +kernel
theorem d_P_compare_18 : decode um_P_compare.2.1 18 = .ok (.iload_n 3, 1) := by decide +kernel
theorem d_P_compare_19 : decode um_P_compare.2.1 19 = .ok (.iconst 1, 1) := by decide +kernel
theorem d_P_compare_20 : decode um_P_compare.2.1 20 = .ok (.if_icmp .eq 5, 3) := by decide +kernel
theorem d_P_compare_23 : decode um_P_compare.2.1 23 = .ok (.iconst (-1), 1) := by decide +kernel
theorem d_P_compare_24 : decode um_P_compare.2.1 24 = .ok (.ireturn, 1) := by decide +kernel
theorem d_P_compare_25 : decode um_P_compare.2.1 25 = .ok (.aload_n 0, 1) := by decide +kernel
theorem d_P_compare_26 : decode um_P_compare.2.1 26 = .ok (.getfield 11, 3) := by decide +kernel
theorem d_P_compare_29 : decode um_P_compare.2.1 29 = .ok (.iload_n 1, 1) := by decide +kernel
theorem d_P_compare_30 : decode um_P_compare.2.1 30 = .ok (.aaload, 1) := by decide +kernel
theorem d_P_compare_31 : decode um_P_compare.2.1 31 = .ok (.invokevirtual 104, 3) := by decide +kernel
theorem d_P_compare_34 : decode um_P_compare.2.1 34 = .ok (.ifCond .eq 15, 3) := by decide +kernel
theorem d_P_compare_37 : decode um_P_compare.2.1 37 = .ok (.aload_n 0, 1) := by decide +kernel
theorem d_P_compare_38 : decode um_P_compare.2.1 38 = .ok (.getfield 11, 3) := by decide +kernel
theorem d_P_compare_41 : decode um_P_compare.2.1 41 = .ok (.iload_n 2, 1) := by decide +kernel
theorem d_P_compare_42 : decode um_P_compare.2.1 42 = .ok (.aaload, 1) := by decide +kernel
theorem d_P_compare_43 : decode um_P_compare.2.1 43 = .ok (.invokevirtual 104, 3) := by decide +kernel
theorem d_P_compare_46 : decode um_P_compare.2.1 46 = .ok (.ifCond .ne 6, 3) := by decide +kernel
theorem d_P_compare_49 : decode um_P_compare.2.1 49 = .ok (.bipush (-3), 2) := by decide +kernel
theorem d_P_compare_51 : decode um_P_compare.2.1 51 = .ok (.ireturn, 1) := by decide +kernel
theorem d_P_compare_52 : decode um_P_compare.2.1 52 = .ok (.aload_n 0, 1) := by decide +kernel
theorem d_P_compare_53 : decode um_P_compare.2.1 53 = .ok (.getfield 18, 3) := by decide +kernel
theorem d_P_compare_56 : decode um_P_compare.2.1 56 = .ok (.aload_n 0, 1) := by decide +kernel
theorem d_P_compare_57 : decode um_P_compare.2.1 57 = .ok (.getfield 11, 3) := by decide +kernel
theorem d_P_compare_60 : decode um_P_compare.2.1 60 = .ok (.iload_n 1, 1) := by decide +kernel
theorem d_P_compare_61 : decode um_P_compare.2.1 61 = .ok (.aaload, 1) := by decide +kernel
theorem d_P_compare_62 : decode um_P_compare.2.1 62 = .ok (.aload_n 0, 1) := by decide +kernel
theorem d_P_compare_63 : decode um_P_compare.2.1 63 = .ok (.getfield 11, 3) := by decide +kernel
theorem d_P_compare_66 : decode um_P_compare.2.1 66 = .ok (.iload_n 2, 1) := by decide +kernel
theorem d_P_compare_67 : decode um_P_compare.2.1 67 = .ok (.aaload, 1) := by decide +kernel
theorem d_P_compare_68 : decode um_P_compare.2.1 68 = .ok (.invokevirtual 108, 3) := by decide +kernel
theorem d_P_compare_71 : decode um_P_compare.2.1 71 = .ok (.iload_n 3, 1) := by decide +kernel
theorem d_P_compare_72 : decode um_P_compare.2.1 72 = .ok (.ifCond .ne 17, 3) := by decide +kernel
theorem d_P_compare_75 : decode um_P_compare.2.1 75 = .ok (.aload_n 0, 1) := by decide +kernel
theorem d_P_compare_76 : decode um_P_compare.2.1 76 = .ok (.getfield 25, 3) := by decide +kernel
theorem d_P_compare_79 : decode um_P_compare.2.1 79 = .ok (.aload_n 0, 1) := by decide +kernel
theorem d_P_compare_80 : decode um_P_compare.2.1 80 = .ok (.getfield 18, 3) := by decide +kernel
theorem d_P_compare_83 : decode um_P_compare.2.1 83 = .ok (.invokevirtual 112, 3) := by decide +kernel
theorem d_P_compare_86 : decode um_P_compare.2.1 86 = .ok (.goto 14, 3) := by decide +kernel
theorem d_P_compare_89 : decode um_P_compare.2.1 89 = .ok (.aload_n 0, 1) := by decide +kernel
theorem d_P_compare_90 : decode um_P_compare.2.1 90 = .ok (.getfield 34, 3) := by decide +kernel
theorem d_P_compare_93 : decode um_P_compare.2.1 93 = .ok (.aload_n 0, 1) := by decide +kernel
theorem d_P_compare_94 : decode um_P_compare.2.1 94 = .ok (.getfield 18, 3) := by decide +kernel
theorem d_P_compare_97 : decode um_P_compare.2.1 97 = .ok (.invokevirtual 116, 3) := by decide +kernel
theorem d_P_compare_100 : decode um_P_compare.2.1 100 = .ok (.aload_n 0, 1) := by decide +kernel
theorem d_P_compare_101 : decode um_P_compare.2.1 101 = .ok (.iconst 1, 1) := by decide +kernel
theorem d_P_compare_102 : decode um_P_compare.2.1 102 = .ok (.putfield 117, 3) := by decide +kernel
theorem d_P_compare_105 : decode um_P_compare.2.1 105 = .ok (.aload_n 0, 1) := by decide +kernel
theorem d_P_compare_106 : decode um_P_compare.2.1 106 = .ok (.getfield 18, 3) := by decide +kernel
theorem d_P_compare_109 : decode um_P_compare.2.1 109 = .ok (.invokevirtual 121, 3) := by decide +kernel
theorem d_P_compare_112 : decode um_P_compare.2.1 112 = .ok (.ireturn, 1) := by decide +kernel
theorem d_P_match_0 : decode um_P_match.2.1 0 = .ok (.aload_n 0, 1) := by decide +kernel
theorem d_P_match_1 : decode um_P_match.2.1 1 = .ok (.getfield 117, 3) := by decide +kernel
theorem d_P_match_4 : decode um_P_match.2.1 4 = .ok (.ifCond .eq 14, 3) := by decide +kernel
theorem d_P_match_7 : decode um_P_match.2.1 7 = .ok (.aload_n 0, 1) := by decide +kernel
theorem d_P_match_8 : decode um_P_match.2.1 8 = .ok (.getfield 18, 3) := by decide +kernel
theorem d_P_match_11 : decode um_P_match.2.1 11 = .ok (.iload_n 1, 1) := by decide +kernel
theorem d_P_match_12 : decode um_P_match.2.1 12 = .ok (.invokevirtual 125, 3) := by decide +kernel
theorem d_P_match_15 : decode um_P_match.2.1 15 = .ok (.goto 5, 3) := by decide +kernel
theorem d_P_match_18 : decode um_P_match.2.1 18 = .ok (.bipush (-3), 2) := by decide +kernel
theorem d_P_match_20 : decode um_P_match.2.1 20 = .ok (.ireturn, 1) := by decide +kernel
theorem d_P_write_0 : decode um_P_write.2.1 0 = .ok (.iload_n 1, 1) := by decide +kernel
theorem d_P_write_1 : decode um_P_write.2.1 1 = .ok (.ifCond .lt 8, 3) := by decide +kernel
theorem d_P_write_4 : decode um_P_write.2.1 4 = .ok (.iload_n 1, 1) := by decide +kernel
theorem d_P_write_5 : decode um_P_write.2.1 5 = .ok (.iconst 3, 1) := by decide +kernel
theorem d_P_write_6 : decode um_P_write.2.1 6 = .ok (.if_icmp .le 5, 3) := by decide +kernel
theorem d_P_write_9 : decode um_P_write.2.1 9 = .ok (.iconst (-1), 1) := by decide +kernel
theorem d_P_write_10 : decode um_P_write.2.1 10 = .ok (.ireturn, 1) := by decide +kernel
theorem d_P_write_11 : decode um_P_write.2.1 11 = .ok (.aload_n 0, 1) := by decide +kernel
theorem d_P_write_12 : decode um_P_write.2.1 12 = .ok (.getfield 117, 3) := by decide +kernel
theorem d_P_write_15 : decode um_P_write.2.1 15 = .ok (.ifCond .eq 14, 3) := by decide +kernel
theorem d_P_write_18 : decode um_P_write.2.1 18 = .ok (.aload_n 0, 1) := by decide +kernel
theorem d_P_write_19 : decode um_P_write.2.1 19 = .ok (.getfield 50, 3) := by decide +kernel
theorem d_P_write_22 : decode um_P_write.2.1 22 = .ok (.iload_n 1, 1) := by decide +kernel
theorem d_P_write_23 : decode um_P_write.2.1 23 = .ok (.invokevirtual 129, 3) := by decide +kernel
theorem d_P_write_26 : decode um_P_write.2.1 26 = .ok (.goto 5, 3) := by decide +kernel
theorem d_P_write_29 : decode um_P_write.2.1 29 = .ok (.bipush (-3), 2) := by decide +kernel
theorem d_P_write_31 : decode um_P_write.2.1 31 = .ok (.ireturn, 1) := by decide +kernel
theorem d_P_type_0 : decode um_P_type.2.1 0 = .ok (.iload_n 3, 1) := by decide +kernel
theorem d_P_type_1 : decode um_P_type.2.1 1 = .ok (.iconst 1, 1) := by decide +kernel
theorem d_P_type_2 : decode um_P_type.2.1 2 = .ok (.if_icmp .lt 9, 3) := by decide +kernel
theorem d_P_type_5 : decode um_P_type.2.1 5 = .ok (.iload_n 3, 1) := by decide +kernel
theorem d_P_type_6 : decode um_P_type.2.1 6 = .ok (.bipush 8, 2) := by decide +kernel
theorem d_P_type_8 : decode um_P_type.2.1 8 = .ok (.if_icmp .le 5, 3) := by decide +kernel
theorem d_P_type_11 : decode um_P_type.2.1 11 = .ok (.iconst (-1), 1) := by decide +kernel
theorem d_P_type_12 : decode um_P_type.2.1 12 = .ok (.ireturn, 1) := by decide +kernel
theorem d_P_type_13 : decode um_P_type.2.1 13 = .ok (.aload_n 0, 1) := by decide +kernel
theorem d_P_type_14 : decode um_P_type.2.1 14 = .ok (.getfield 41, 3) := by decide +kernel
theorem d_P_type_17 : decode um_P_type.2.1 17 = .ok (.getfield 132, 3) := by decide +kernel
theorem d_P_type_20 : decode um_P_type.2.1 20 = .ok (.iload_n 3, 1) := by decide +kernel
theorem d_P_type_21 : decode um_P_type.2.1 21 = .ok (.iadd, 1) := by decide +kernel
theorem d_P_type_22 : decode um_P_type.2.1 22 = .ok (.sipush 900, 3) := by decide +kernel
theorem d_P_type_25 : decode um_P_type.2.1 25 = .ok (.if_icmp .le 6, 3) := by decide +kernel
theorem d_P_type_28 : decode um_P_type.2.1 28 = .ok (.bipush (-2), 2) := by decide +kernel
theorem d_P_type_30 : decode um_P_type.2.1 30 = .ok (.ireturn, 1) := by decide +kernel
theorem d_P_type_31 : decode um_P_type.2.1 31 = .ok (.iload_n 3, 1) := by decide +kernel
theorem d_P_type_32 : decode um_P_type.2.1 32 = .ok (.iconst 1, 1) := by decide +kernel
theorem d_P_type_33 : decode um_P_type.2.1 33 = .ok (.isub, 1) := by decide +kernel
theorem d_P_type_34 : decode um_P_type.2.1 34 = .ok (.istore 4, 2) := by decide +kernel
theorem d_P_type_36 : decode um_P_type.2.1 36 = .ok (.iload 4, 2) := by decide +kernel
theorem d_P_type_38 : decode um_P_type.2.1 38 = .ok (.ifCond .lt 22, 3) := by decide +kernel
theorem d_P_type_41 : decode um_P_type.2.1 41 = .ok (.aload_n 0, 1) := by decide +kernel
theorem d_P_type_42 : decode um_P_type.2.1 42 = .ok (.getfield 41, 3) := by decide +kernel
theorem d_P_type_45 : decode um_P_type.2.1 45 = .ok (.lload_n 1, 1) := by decide +kernel
theorem d_P_type_46 : decode um_P_type.2.1 46 = .ok (.iload 4, 2) := by decide +kernel
theorem d_P_type_48 : decode um_P_type.2.1 48 = .ok (.invokestatic 92, 3) := by decide +kernel
theorem d_P_type_51 : decode um_P_type.2.1 51 = .ok (.invokevirtual 135, 3) := by decide +kernel
theorem d_P_type_54 : decode um_P_type.2.1 54 = .ok (.iinc 4 (-1), 3) := by decide +kernel
theorem d_P_type_57 : decode um_P_type.2.1 57 = .ok (.goto (-21), 3) := by decide +kernel
theorem d_P_type_60 : decode um_P_type.2.1 60 = .ok (.aload_n 0, 1) := by decide +kernel
theorem d_P_type_61 : decode um_P_type.2.1 61 = .ok (.getfield 41, 3) := by decide +kernel
theorem d_P_type_64 : decode um_P_type.2.1 64 = .ok (.getfield 132, 3) := by decide +kernel
theorem d_P_type_67 : decode um_P_type.2.1 67 = .ok (.ireturn, 1) := by decide +kernel
theorem d_P_wipe_0 : decode um_P_wipe.2.1 0 = .ok (.aload_n 0, 1) := by decide +kernel
theorem d_P_wipe_1 : decode um_P_wipe.2.1 1 = .ok (.getfield 41, 3) := by decide +kernel
theorem d_P_wipe_4 : decode um_P_wipe.2.1 4 = .ok (.getfield 132, 3) := by decide +kernel
theorem d_P_wipe_7 : decode um_P_wipe.2.1 7 = .ok (.istore_n 1, 1) := by decide +kernel
theorem d_P_wipe_8 : decode um_P_wipe.2.1 8 = .ok (.aload_n 0, 1) := by decide +kernel
theorem d_P_wipe_9 : decode um_P_wipe.2.1 9 = .ok (.getfield 41, 3) := by decide +kernel
theorem d_P_wipe_12 : decode um_P_wipe.2.1 12 = .ok (.iconst 0, 1) := by decide +kernel
theorem d_P_wipe_13 : decode um_P_wipe.2.1 13 = .ok (.putfield 132, 3) := by decide +kernel
theorem d_P_wipe_16 : decode um_P_wipe.2.1 16 = .ok (.iload_n 1, 1) := by decide +kernel
theorem d_P_wipe_17 : decode um_P_wipe.2.1 17 = .ok (.ireturn, 1) := by decide +kernel
theorem d_P_character_0 : decode um_P_character.2.1 0 = .ok (.iload_n 1, 1) := by decide +kernel
theorem d_P_character_1 : decode um_P_character.2.1 1 = .ok (.ifCond .lt 26, 3) := by decide +kernel
theorem d_P_character_4 : decode um_P_character.2.1 4 = .ok (.iload_n 1, 1) := by decide +kernel
theorem d_P_character_5 : decode um_P_character.2.1 5 = .ok (.aload_n 0, 1) := by decide +kernel
theorem d_P_character_6 : decode um_P_character.2.1 6 = .ok (.getfield 41, 3) := by decide +kernel
theorem d_P_character_9 : decode um_P_character.2.1 9 = .ok (.getfield 132, 3) := by decide +kernel
theorem d_P_character_12 : decode um_P_character.2.1 12 = .ok (.if_icmp .ge 15, 3) := by decide +kernel
theorem d_P_character_15 : decode um_P_character.2.1 15 = .ok (.aload_n 0, 1) := by decide +kernel
theorem d_P_character_16 : decode um_P_character.2.1 16 = .ok (.getfield 41, 3) := by decide +kernel
theorem d_P_character_19 : decode um_P_character.2.1 19 = .ok (.getfield 136, 3) := by decide +kernel
theorem d_P_character_22 : decode um_P_character.2.1 22 = .ok (.iload_n 1, 1) := by decide +kernel
theorem d_P_character_23 : decode um_P_character.2.1 23 = .ok (.iaload, 1) := by decide +kernel
theorem d_P_character_24 : decode um_P_character.2.1 24 = .ok (.goto 5, 3) := by decide +kernel
theorem d_P_character_27 : decode um_P_character.2.1 27 = .ok (.bipush (-3), 2) := by decide +kernel
theorem d_P_character_29 : decode um_P_character.2.1 29 = .ok (.ireturn, 1) := by decide +kernel
theorem d_P_read_0 : decode um_P_read.2.1 0 = .ok (.aload_n 0, 1) := by decide +kernel
theorem d_P_read_1 : decode um_P_read.2.1 1 = .ok (.getfield 59, 3) := by decide +kernel
theorem d_P_read_4 : decode um_P_read.2.1 4 = .ok (.invokevirtual 139, 3) := by decide +kernel
theorem d_P_read_7 : decode um_P_read.2.1 7 = .ok (.ireturn, 1) := by decide +kernel
theorem d_P_apply_0 : decode um_P_apply.2.1 0 = .ok (.iload_n 1, 1) := by decide +kernel
theorem d_P_apply_1 : decode um_P_apply.2.1 1 = .ok (.invokestatic 80, 3) := by decide +kernel
theorem d_P_apply_4 : decode um_P_apply.2.1 4 = .ok (.ifCond .eq 14, 3) := by decide +kernel
theorem d_P_apply_7 : decode um_P_apply.2.1 7 = .ok (.aload_n 0, 1) := by decide +kernel
theorem d_P_apply_8 : decode um_P_apply.2.1 8 = .ok (.getfield 59, 3) := by decide +kernel
theorem d_P_apply_11 : decode um_P_apply.2.1 11 = .ok (.invokevirtual 139, 3) := by decide +kernel
theorem d_P_apply_14 : decode um_P_apply.2.1 14 = .ok (.iconst (-1), 1) := by decide +kernel
theorem d_P_apply_15 : decode um_P_apply.2.1 15 = .ok (.if_icmp .eq 5, 3) := by decide +kernel
theorem d_P_apply_18 : decode um_P_apply.2.1 18 = .ok (.iconst (-1), 1) := by decide +kernel
theorem d_P_apply_19 : decode um_P_apply.2.1 19 = .ok (.ireturn, 1) := by decide +kernel
theorem d_P_apply_20 : decode um_P_apply.2.1 20 = .ok (.aload_n 0, 1) := by decide +kernel
theorem d_P_apply_21 : decode um_P_apply.2.1 21 = .ok (.getfield 68, 3) := by decide +kernel
theorem d_P_apply_24 : decode um_P_apply.2.1 24 = .ok (.aload_n 0, 1) := by decide +kernel
theorem d_P_apply_25 : decode um_P_apply.2.1 25 = .ok (.getfield 11, 3) := by decide +kernel
theorem d_P_apply_28 : decode um_P_apply.2.1 28 = .ok (.iload_n 1, 1) := by decide +kernel
theorem d_P_apply_29 : decode um_P_apply.2.1 29 = .ok (.aaload, 1) := by decide +kernel
theorem d_P_apply_30 : decode um_P_apply.2.1 30 = .ok (.invokevirtual 142, 3) := by decide +kernel
theorem d_P_apply_33 : decode um_P_apply.2.1 33 = .ok (.ireturn, 1) := by decide +kernel
theorem d_P_merge_0 : decode um_P_merge.2.1 0 = .ok (.iconst 0, 1) := by decide +kernel
theorem d_P_merge_1 : decode um_P_merge.2.1 1 = .ok (.istore_n 1, 1) := by decide +kernel
theorem d_P_merge_2 : decode um_P_merge.2.1 2 = .ok (.iload_n 1, 1) := by decide +kernel
theorem d_P_merge_3 : decode um_P_merge.2.1 3 = .ok (.iconst 3, 1) := by decide +kernel
theorem d_P_merge_4 : decode um_P_merge.2.1 4 = .ok (.if_icmp .ge 24, 3) := by decide +kernel
theorem d_P_merge_7 : decode um_P_merge.2.1 7 = .ok (.aload_n 0, 1) := by decide +kernel
theorem d_P_merge_8 : decode um_P_merge.2.1 8 = .ok (.getfield 11, 3) := by decide +kernel
theorem d_P_merge_11 : decode um_P_merge.2.1 11 = .ok (.iload_n 1, 1) := by decide +kernel
theorem d_P_merge_12 : decode um_P_merge.2.1 12 = .ok (.aaload, 1) := by decide +kernel
theorem d_P_merge_13 : decode um_P_merge.2.1 13 = .ok (.invokevirtual 104, 3) := by decide +kernel
theorem d_P_merge_16 : decode um_P_merge.2.1 16 = .ok (.ifCond .ne 6, 3) := by decide +kernel
theorem d_P_merge_19 : decode um_P_merge.2.1 19 = .ok (.bipush (-3), 2) := by decide +kernel
theorem d_P_merge_21 : decode um_P_merge.2.1 21 = .ok (.ireturn, 1) := by decide +kernel
theorem d_P_merge_22 : decode um_P_merge.2.1 22 = .ok (.iinc 1 1, 3) := by decide +kernel
theorem d_P_merge_25 : decode um_P_merge.2.1 25 = .ok (.goto (-23), 3) := by decide +kernel
theorem d_P_merge_28 : decode um_P_merge.2.1 28 = .ok (.aload_n 0, 1) := by decide +kernel
theorem d_P_merge_29 : decode um_P_merge.2.1 29 = .ok (.getfield 75, 3) := by decide +kernel
theorem d_P_merge_32 : decode um_P_merge.2.1 32 = .ok (.aload_n 0, 1) := by decide +kernel
theorem d_P_merge_33 : decode um_P_merge.2.1 33 = .ok (.getfield 11, 3) := by decide +kernel
theorem d_P_merge_36 : decode um_P_merge.2.1 36 = .ok (.iconst 0, 1) := by decide +kernel
theorem d_P_merge_37 : decode um_P_merge.2.1 37 = .ok (.aaload, 1) := by decide +kernel
theorem d_P_merge_38 : decode um_P_merge.2.1 38 = .ok (.aload_n 0, 1) := by decide +kernel
theorem d_P_merge_39 : decode um_P_merge.2.1 39 = .ok (.getfield 11, 3) := by decide +kernel
theorem d_P_merge_42 : decode um_P_merge.2.1 42 = .ok (.iconst 1, 1) := by decide +kernel
theorem d_P_merge_43 : decode um_P_merge.2.1 43 = .ok (.aaload, 1) := by decide +kernel
theorem d_P_merge_44 : decode um_P_merge.2.1 44 = .ok (.aload_n 0, 1) := by decide +kernel
theorem d_P_merge_45 : decode um_P_merge.2.1 45 = .ok (.getfield 11, 3) := by decide +kernel
theorem d_P_merge_48 : decode um_P_merge.2.1 48 = .ok (.iconst 2, 1) := by decide +kernel
theorem d_P_merge_49 : decode um_P_merge.2.1 49 = .ok (.aaload, 1) := by decide +kernel
theorem d_P_merge_50 : decode um_P_merge.2.1 50 = .ok (.invokevirtual 146, 3) := by decide +kernel
theorem d_P_merge_53 : decode um_P_merge.2.1 53 = .ok (.istore_n 1, 1) := by decide +kernel
theorem d_P_merge_54 : decode um_P_merge.2.1 54 = .ok (.aload_n 0, 1) := by decide +kernel
theorem d_P_merge_55 : decode um_P_merge.2.1 55 = .ok (.getfield 75, 3) := by decide +kernel
theorem d_P_merge_58 : decode um_P_merge.2.1 58 = .ok (.aload_n 0, 1) := by decide +kernel
theorem d_P_merge_59 : decode um_P_merge.2.1 59 = .ok (.getfield 11, 3) := by decide +kernel
theorem d_P_merge_62 : decode um_P_merge.2.1 62 = .ok (.iconst 3, 1) := by decide +kernel
theorem d_P_merge_63 : decode um_P_merge.2.1 63 = .ok (.aaload, 1) := by decide +kernel
theorem d_P_merge_64 : decode um_P_merge.2.1 64 = .ok (.invokevirtual 150, 3) := by decide +kernel
theorem d_P_merge_67 : decode um_P_merge.2.1 67 = .ok (.ifCond .eq 7, 3) := by decide +kernel
theorem d_P_merge_70 : decode um_P_merge.2.1 70 = .ok (.iload_n 1, 1) := by decide +kernel
theorem d_P_merge_71 : decode um_P_merge.2.1 71 = .ok (.goto 5, 3) := by decide +kernel
theorem d_P_merge_74 : decode um_P_merge.2.1 74 = .ok (.bipush (-2), 2) := by decide +kernel
theorem d_P_merge_76 : decode um_P_merge.2.1 76 = .ok (.ireturn, 1) := by decide +kernel
theorem d_P_isText_0 : decode um_P_isText.2.1 0 = .ok (.iload_n 0, 1) := by decide +kernel
theorem d_P_isText_1 : decode um_P_isText.2.1 1 = .ok (.ifCond .lt 12, 3) := by decide +kernel
theorem d_P_isText_4 : decode um_P_isText.2.1 4 = .ok (.iload_n 0, 1) := by decide +kernel
theorem d_P_isText_5 : decode um_P_isText.2.1 5 = .ok (.iconst 4, 1) := by decide +kernel
theorem d_P_isText_6 : decode um_P_isText.2.1 6 = .ok (.if_icmp .ge 7, 3) := by decide +kernel
theorem d_P_isText_9 : decode um_P_isText.2.1 9 = .ok (.iconst 1, 1) := by decide +kernel
theorem d_P_isText_10 : decode um_P_isText.2.1 10 = .ok (.goto 4, 3) := by decide +kernel
theorem d_P_isText_13 : decode um_P_isText.2.1 13 = .ok (.iconst 0, 1) := by decide +kernel
theorem d_P_isText_14 : decode um_P_isText.2.1 14 = .ok (.ireturn, 1) := by decide +kernel
theorem d_P_areLetters_0 : decode um_P_areLetters.2.1 0 = .ok (.iconst 0, 1) := by decide +kernel
theorem d_P_areLetters_1 : decode um_P_areLetters.2.1 1 = .ok (.istore_n 3, 1) := by decide +kernel
theorem d_P_areLetters_2 : decode um_P_areLetters.2.1 2 = .ok (.iload_n 3, 1) := by decide +kernel
theorem d_P_areLetters_3 : decode um_P_areLetters.2.1 3 = .ok (.iload_n 2, 1) := by decide +kernel
theorem d_P_areLetters_4 : decode um_P_areLetters.2.1 4 = .ok (.if_icmp .ge 22, 3) := by decide +kernel
theorem d_P_areLetters_7 : decode um_P_areLetters.2.1 7 = .ok (.lload_n 0, 1) := by decide +kernel
theorem d_P_areLetters_8 : decode um_P_areLetters.2.1 8 = .ok (.iload_n 3, 1) := by decide +kernel
theorem d_P_areLetters_9 : decode um_P_areLetters.2.1 9 = .ok (.invokestatic 92, 3) := by decide +kernel
theorem d_P_areLetters_12 : decode um_P_areLetters.2.1 12 = .ok (.invokestatic 154, 3) := by decide +kernel
theorem d_P_areLetters_15 : decode um_P_areLetters.2.1 15 = .ok (.ifCond .ne 5, 3) := by decide +kernel
theorem d_P_areLetters_18 : decode um_P_areLetters.2.1 18 = .ok (.iconst 0, 1) := by decide +kernel
theorem d_P_areLetters_19 : decode um_P_areLetters.2.1 19 = .ok (.ireturn, 1) := by decide +kernel
theorem d_P_areLetters_20 : decode um_P_areLetters.2.1 20 = .ok (.iinc 3 1, 3) := by decide +kernel
theorem d_P_areLetters_23 : decode um_P_areLetters.2.1 23 = .ok (.goto (-21), 3) := by decide +kernel
theorem d_P_areLetters_26 : decode um_P_areLetters.2.1 26 = .ok (.iconst 1, 1) := by decide +kernel
theorem d_P_areLetters_27 : decode um_P_areLetters.2.1 27 = .ok (.ireturn, 1) := by decide +kernel
theorem d_P_isLetter_0 : decode um_P_isLetter.2.1 0 = .ok (.iload_n 0, 1) := by decide +kernel
theorem d_P_isLetter_1 : decode um_P_isLetter.2.1 1 = .ok (.bipush 97, 2) := by decide +kernel
theorem d_P_isLetter_3 : decode um_P_isLetter.2.1 3 = .ok (.if_icmp .lt 13, 3) := by decide +kernel
theorem d_P_isLetter_6 : decode um_P_isLetter.2.1 6 = .ok (.iload_n 0, 1) := by decide +kernel
theorem d_P_isLetter_7 : decode um_P_isLetter.2.1 7 = .ok (.bipush 122, 2) := by decide +kernel
theorem d_P_isLetter_9 : decode um_P_isLetter.2.1 9 = .ok (.if_icmp .gt 7, 3) := by decide +kernel
theorem d_P_isLetter_12 : decode um_P_isLetter.2.1 12 = .ok (.iconst 1, 1) := by decide +kernel
theorem d_P_isLetter_13 : decode um_P_isLetter.2.1 13 = .ok (.goto 4, 3) := by decide +kernel
theorem d_P_isLetter_16 : decode um_P_isLetter.2.1 16 = .ok (.iconst 0, 1) := by decide +kernel
theorem d_P_isLetter_17 : decode um_P_isLetter.2.1 17 = .ok (.ireturn, 1) := by decide +kernel
theorem d_P_byteOf_0 : decode um_P_byteOf.2.1 0 = .ok (.lload_n 0, 1) := by decide +kernel
theorem d_P_byteOf_1 : decode um_P_byteOf.2.1 1 = .ok (.bipush 8, 2) := by decide +kernel
theorem d_P_byteOf_3 : decode um_P_byteOf.2.1 3 = .ok (.iload_n 2, 1) := by decide +kernel
theorem d_P_byteOf_4 : decode um_P_byteOf.2.1 4 = .ok (.imul, 1) := by decide +kernel
theorem d_P_byteOf_5 : decode um_P_byteOf.2.1 5 = .ok (.lushr, 1) := by decide +kernel
theorem d_P_byteOf_6 : decode um_P_byteOf.2.1 6 = .ok (.ldc2_w 157, 3) := by decide +kernel
theorem d_P_byteOf_9 : decode um_P_byteOf.2.1 9 = .ok (.land, 1) := by decide +kernel
theorem d_P_byteOf_10 : decode um_P_byteOf.2.1 10 = .ok (.l2i, 1) := by decide +kernel
theorem d_P_byteOf_11 : decode um_P_byteOf.2.1 11 = .ok (.ireturn, 1) := by decide +kernel
theorem d_T_init_0 : decode um_T_init.2.1 0 = .ok (.aload_n 0, 1) := by decide +kernel
theorem d_T_init_1 : decode um_T_init.2.1 1 = .ok (.invokespecial 3, 3) := by decide +kernel
theorem d_T_init_4 : decode um_T_init.2.1 4 = .ok (.aload_n 0, 1) := by decide +kernel
theorem d_T_init_5 : decode um_T_init.2.1 5 = .ok (.bipush 24, 2) := by decide +kernel
theorem d_T_init_7 : decode um_T_init.2.1 7 = .ok (.newarray .int, 2) := by decide +kernel
theorem d_T_init_9 : decode um_T_init.2.1 9 = .ok (.putfield 9, 3) := by decide +kernel
theorem d_T_init_12 : decode um_T_init.2.1 12 = .ok (.return_, 1) := by decide +kernel
theorem d_T_append_0 : decode um_T_append.2.1 0 = .ok (.aload_n 0, 1) := by decide +kernel
theorem d_T_append_1 : decode um_T_append.2.1 1 = .ok (.getfield 15, 3) := by decide +kernel
theorem d_T_append_4 : decode um_T_append.2.1 4 = .ok (.bipush 24, 2) := by decide +kernel
theorem d_T_append_6 : decode um_T_append.2.1 6 = .ok (.if_icmp .ge 23, 3) := by decide +kernel
theorem d_T_append_9 : decode um_T_append.2.1 9 = .ok (.aload_n 0, 1) := by decide +kernel
theorem d_T_append_10 : decode um_T_append.2.1 10 = .ok (.getfield 9, 3) := by decide +kernel
theorem d_T_append_13 : decode um_T_append.2.1 13 = .ok (.aload_n 0, 1) := by decide +kernel
theorem d_T_append_14 : decode um_T_append.2.1 14 = .ok (.getfield 15, 3) := by decide +kernel
theorem d_T_append_17 : decode um_T_append.2.1 17 = .ok (.iload_n 1, 1) := by decide +kernel
theorem d_T_append_18 : decode um_T_append.2.1 18 = .ok (.iastore, 1) := by decide +kernel
theorem d_T_append_19 : decode um_T_append.2.1 19 = .ok (.aload_n 0, 1) := by decide +kernel
theorem d_T_append_20 : decode um_T_append.2.1 20 = .ok (.dup, 1) := by decide +kernel
theorem d_T_append_21 : decode um_T_append.2.1 21 = .ok (.getfield 15, 3) := by decide +kernel
theorem d_T_append_24 : decode um_T_append.2.1 24 = .ok (.iconst 1, 1) := by decide +kernel
theorem d_T_append_25 : decode um_T_append.2.1 25 = .ok (.iadd, 1) := by decide +kernel
theorem d_T_append_26 : decode um_T_append.2.1 26 = .ok (.putfield 15, 3) := by decide +kernel
theorem d_T_append_29 : decode um_T_append.2.1 29 = .ok (.return_, 1) := by decide +kernel
theorem d_T_appendPart_0 : decode um_T_appendPart.2.1 0 = .ok (.iload_n 2, 1) := by decide +kernel
theorem d_T_appendPart_1 : decode um_T_appendPart.2.1 1 = .ok (.istore 4, 2) := by decide +kernel
theorem d_T_appendPart_3 : decode um_T_appendPart.2.1 3 = .ok (.iload 4, 2) := by decide +kernel
theorem d_T_appendPart_5 : decode um_T_appendPart.2.1 5 = .ok (.iload_n 3, 1) := by decide +kernel
theorem d_T_appendPart_6 : decode um_T_appendPart.2.1 6 = .ok (.if_icmp .ge 20, 3) := by decide +kernel
theorem d_T_appendPart_9 : decode um_T_appendPart.2.1 9 = .ok (.aload_n 0, 1) := by decide +kernel
theorem d_T_appendPart_10 : decode um_T_appendPart.2.1 10 = .ok (.aload_n 1, 1) := by decide +kernel
theorem d_T_appendPart_11 : decode um_T_appendPart.2.1 11 = .ok (.getfield 9, 3) := by decide +kernel
theorem d_T_appendPart_14 : decode um_T_appendPart.2.1 14 = .ok (.iload 4, 2) := by decide +kernel
theorem d_T_appendPart_16 : decode um_T_appendPart.2.1 16 = .ok (.iaload, 1) := by decide +kernel
theorem d_T_appendPart_17 : decode um_T_appendPart.2.1 17 = .ok (.invokevirtual 19, 3) := by decide +kernel
theorem d_T_appendPart_20 : decode um_T_appendPart.2.1 20 = .ok (.iinc 4 1, 3) := by decide +kernel
theorem d_T_appendPart_23 : decode um_T_appendPart.2.1 23 = .ok (.goto (-20), 3) := by decide +kernel
theorem d_T_appendPart_26 : decode um_T_appendPart.2.1 26 = .ok (.return_, 1) := by decide +kernel
theorem d_T_become_0 : decode um_T_become.2.1 0 = .ok (.aload_n 0, 1) := by decide +kernel
theorem d_T_become_1 : decode um_T_become.2.1 1 = .ok (.iconst 0, 1) := by decide +kernel
theorem d_T_become_2 : decode um_T_become.2.1 2 = .ok (.putfield 15, 3) := by decide +kernel
theorem d_T_become_5 : decode um_T_become.2.1 5 = .ok (.aload_n 0, 1) := by decide +kernel
theorem d_T_become_6 : decode um_T_become.2.1 6 = .ok (.aload_n 1, 1) := by decide +kernel
theorem d_T_become_7 : decode um_T_become.2.1 7 = .ok (.iconst 0, 1) := by decide +kernel
theorem d_T_become_8 : decode um_T_become.2.1 8 = .ok (.aload_n 1, 1) := by decide +kernel
theorem d_T_become_9 : decode um_T_become.2.1 9 = .ok (.getfield 15, 3) := by decide +kernel
theorem d_T_become_12 : decode um_T_become.2.1 12 = .ok (.invokevirtual 23, 3) := by decide +kernel
theorem d_T_become_15 : decode um_T_become.2.1 15 = .ok (.return_, 1) := by decide +kernel
theorem d_T_hasOnlyLetters_0 : decode um_T_hasOnlyLetters.2.1 0 = .ok (.iconst 0, 1) := by decide +kernel
theorem d_T_hasOnlyLetters_1 : decode um_T_hasOnlyLetters.2.1 1 = .ok (.istore_n 1, 1) := by decide +kernel
theorem d_T_hasOnlyLetters_2 : decode um_T_hasOnlyLetters.2.1 2 = .ok (.iload_n 1, 1) := by decide +kernel
theorem d_T_hasOnlyLetters_3 : decode um_T_hasOnlyLetters.2.1 3 = .ok (.aload_n 0, 1) := by decide +kernel
theorem d_T_hasOnlyLetters_4 : decode um_T_hasOnlyLetters.2.1 4 = .ok (.getfield 15, 3) := by decide +kernel
theorem d_T_hasOnlyLetters_7 : decode um_T_hasOnlyLetters.2.1 7 = .ok (.if_icmp .ge 23, 3) := by decide +kernel
theorem d_T_hasOnlyLetters_10 : decode um_T_hasOnlyLetters.2.1 10 = .ok (.aload_n 0, 1) := by decide +kernel
theorem d_T_hasOnlyLetters_11 : decode um_T_hasOnlyLetters.2.1 11 = .ok (.getfield 9, 3) := by decide +kernel
theorem d_T_hasOnlyLetters_14 : decode um_T_hasOnlyLetters.2.1 14 = .ok (.iload_n 1, 1) := by decide +kernel
theorem d_T_hasOnlyLetters_15 : decode um_T_hasOnlyLetters.2.1 15 = .ok (.iaload, 1) := by decide +kernel
theorem d_T_hasOnlyLetters_16 : decode um_T_hasOnlyLetters.2.1 16 = .ok (.invokestatic 27, 3) := by decide +kernel
theorem d_T_hasOnlyLetters_19 : decode um_T_hasOnlyLetters.2.1 19 = .ok (.ifCond .ne 5, 3) := by decide +kernel
theorem d_T_hasOnlyLetters_22 : decode um_T_hasOnlyLetters.2.1 22 = .ok (.iconst 0, 1) := by decide +kernel
theorem d_T_hasOnlyLetters_23 : decode um_T_hasOnlyLetters.2.1 23 = .ok (.ireturn, 1) := by decide +kernel
theorem d_T_hasOnlyLetters_24 : decode um_T_hasOnlyLetters.2.1 24 = .ok (.iinc 1 1, 3) := by decide +kernel
theorem d_T_hasOnlyLetters_27 : decode um_T_hasOnlyLetters.2.1 27 = .ok (.goto (-25), 3) := by decide +kernel
theorem d_T_hasOnlyLetters_30 : decode um_T_hasOnlyLetters.2.1 30 = .ok (.iconst 1, 1) := by decide +kernel
theorem d_T_hasOnlyLetters_31 : decode um_T_hasOnlyLetters.2.1 31 = .ok (.ireturn, 1) := by decide +kernel
theorem d_T_onlyPlace_0 : decode um_T_onlyPlace.2.1 0 = .ok (.bipush (-3), 2) := by decide +kernel
theorem d_T_onlyPlace_2 : decode um_T_onlyPlace.2.1 2 = .ok (.istore 4, 2) := by decide +kernel
theorem d_T_onlyPlace_4 : decode um_T_onlyPlace.2.1 4 = .ok (.iload_n 2, 1) := by decide +kernel
theorem d_T_onlyPlace_5 : decode um_T_onlyPlace.2.1 5 = .ok (.istore 5, 2) := by decide +kernel
theorem d_T_onlyPlace_7 : decode um_T_onlyPlace.2.1 7 = .ok (.iload 5, 2) := by decide +kernel
theorem d_T_onlyPlace_9 : decode um_T_onlyPlace.2.1 9 = .ok (.iload_n 3, 1) := by decide +kernel
theorem d_T_onlyPlace_10 : decode um_T_onlyPlace.2.1 10 = .ok (.if_icmp .ge 34, 3) := by decide +kernel
theorem d_T_onlyPlace_13 : decode um_T_onlyPlace.2.1 13 = .ok (.aload_n 0, 1) := by decide +kernel
theorem d_T_onlyPlace_14 : decode um_T_onlyPlace.2.1 14 = .ok (.getfield 9, 3) := by decide +kernel
theorem d_T_onlyPlace_17 : decode um_T_onlyPlace.2.1 17 = .ok (.iload 5, 2) := by decide +kernel
theorem d_T_onlyPlace_19 : decode um_T_onlyPlace.2.1 19 = .ok (.iaload, 1) := by decide +kernel
theorem d_T_onlyPlace_20 : decode um_T_onlyPlace.2.1 20 = .ok (.iload_n 1, 1) := by decide +kernel
theorem d_T_onlyPlace_21 : decode um_T_onlyPlace.2.1 21 = .ok (.if_icmp .ne 17, 3) := by decide +kernel
theorem d_T_onlyPlace_24 : decode um_T_onlyPlace.2.1 24 = .ok (.iload 4, 2) := by decide +kernel
theorem d_T_onlyPlace_26 : decode um_T_onlyPlace.2.1 26 = .ok (.bipush (-3), 2) := by decide +kernel
theorem d_T_onlyPlace_28 : decode um_T_onlyPlace.2.1 28 = .ok (.if_icmp .eq 6, 3) := by decide +kernel
theorem d_T_onlyPlace_31 : decode um_T_onlyPlace.2.1 31 = .ok (.bipush (-3), 2) := by decide +kernel
theorem d_T_onlyPlace_33 : decode um_T_onlyPlace.2.1 33 = .ok (.ireturn, 1) := by decide +kernel
theorem d_T_onlyPlace_34 : decode um_T_onlyPlace.2.1 34 = .ok (.iload 5, 2) := by decide +kernel
theorem d_T_onlyPlace_36 : decode um_T_onlyPlace.2.1 36 = .ok (.istore 4, 2) := by decide +kernel
theorem d_T_onlyPlace_38 : decode um_T_onlyPlace.2.1 38 = .ok (.iinc 5 1, 3) := by decide +kernel
theorem d_T_onlyPlace_41 : decode um_T_onlyPlace.2.1 41 = .ok (.goto (-34), 3) := by decide +kernel
theorem d_T_onlyPlace_44 : decode um_T_onlyPlace.2.1 44 = .ok (.iload 4, 2) := by decide +kernel
theorem d_T_onlyPlace_46 : decode um_T_onlyPlace.2.1 46 = .ok (.ireturn, 1) := by decide +kernel
theorem d_C_init_0 : decode um_C_init.2.1 0 = .ok (.aload_n 0, 1) := by decide +kernel
theorem d_C_init_1 : decode um_C_init.2.1 1 = .ok (.invokespecial 3, 3) := by decide +kernel
theorem d_C_init_4 : decode um_C_init.2.1 4 = .ok (.aload_n 0, 1) := by decide +kernel
theorem d_C_init_5 : decode um_C_init.2.1 5 = .ok (.new 9, 3) := by decide +kernel
theorem d_C_init_8 : decode um_C_init.2.1 8 = .ok (.dup, 1) := by decide +kernel
theorem d_C_init_9 : decode um_C_init.2.1 9 = .ok (.invokespecial 11, 3) := by decide +kernel
theorem d_C_init_12 : decode um_C_init.2.1 12 = .ok (.putfield 12, 3) := by decide +kernel
theorem d_C_init_15 : decode um_C_init.2.1 15 = .ok (.aload_n 0, 1) := by decide +kernel
theorem d_C_init_16 : decode um_C_init.2.1 16 = .ok (.new 9, 3) := by decide +kernel
theorem d_C_init_19 : decode um_C_init.2.1 19 = .ok (.dup, 1) := by decide +kernel
theorem d_C_init_20 : decode um_C_init.2.1 20 = .ok (.invokespecial 11, 3) := by decide +kernel
theorem d_C_init_23 : decode um_C_init.2.1 23 = .ok (.putfield 18, 3) := by decide +kernel
theorem d_C_init_26 : decode um_C_init.2.1 26 = .ok (.aload_n 0, 1) := by decide +kernel
theorem d_C_init_27 : decode um_C_init.2.1 27 = .ok (.bipush 24, 2) := by decide +kernel
theorem d_C_init_29 : decode um_C_init.2.1 29 = .ok (.newarray .int, 2) := by decide +kernel
theorem d_C_init_31 : decode um_C_init.2.1 31 = .ok (.putfield 21, 3) := by decide +kernel
theorem d_C_init_34 : decode um_C_init.2.1 34 = .ok (.return_, 1) := by decide +kernel
theorem d_C_begin_0 : decode um_C_begin.2.1 0 = .ok (.aload_n 0, 1) := by decide +kernel
theorem d_C_begin_1 : decode um_C_begin.2.1 1 = .ok (.getfield 12, 3) := by decide +kernel
theorem d_C_begin_4 : decode um_C_begin.2.1 4 = .ok (.aload_n 1, 1) := by decide +kernel
theorem d_C_begin_5 : decode um_C_begin.2.1 5 = .ok (.invokevirtual 25, 3) := by decide +kernel
theorem d_C_begin_8 : decode um_C_begin.2.1 8 = .ok (.aload_n 0, 1) := by decide +kernel
theorem d_C_begin_9 : decode um_C_begin.2.1 9 = .ok (.getfield 18, 3) := by decide +kernel
theorem d_C_begin_12 : decode um_C_begin.2.1 12 = .ok (.aload_n 2, 1) := by decide +kernel
theorem d_C_begin_13 : decode um_C_begin.2.1 13 = .ok (.invokevirtual 25, 3) := by decide +kernel
theorem d_C_begin_16 : decode um_C_begin.2.1 16 = .ok (.aload_n 0, 1) := by decide +kernel
theorem d_C_begin_17 : decode um_C_begin.2.1 17 = .ok (.iconst 0, 1) := by decide +kernel
theorem d_C_begin_18 : decode um_C_begin.2.1 18 = .ok (.putfield 29, 3) := by decide +kernel
theorem d_C_begin_21 : decode um_C_begin.2.1 21 = .ok (.iconst 0, 1) := by decide +kernel
theorem d_C_begin_22 : decode um_C_begin.2.1 22 = .ok (.istore_n 3, 1) := by decide +kernel
theorem d_C_begin_23 : decode um_C_begin.2.1 23 = .ok (.iload_n 3, 1) := by decide +kernel
theorem d_C_begin_24 : decode um_C_begin.2.1 24 = .ok (.bipush 24, 2) := by decide +kernel
theorem d_C_begin_26 : decode um_C_begin.2.1 26 = .ok (.if_icmp .ge 17, 3) := by decide +kernel
theorem d_C_begin_29 : decode um_C_begin.2.1 29 = .ok (.aload_n 0, 1) := by decide +kernel
theorem d_C_begin_30 : decode um_C_begin.2.1 30 = .ok (.getfield 21, 3) := by decide +kernel
theorem d_C_begin_33 : decode um_C_begin.2.1 33 = .ok (.iload_n 3, 1) := by decide +kernel
theorem d_C_begin_34 : decode um_C_begin.2.1 34 = .ok (.bipush (-3), 2) := by decide +kernel
theorem d_C_begin_36 : decode um_C_begin.2.1 36 = .ok (.iastore, 1) := by decide +kernel
theorem d_C_begin_37 : decode um_C_begin.2.1 37 = .ok (.iinc 3 1, 3) := by decide +kernel
theorem d_C_begin_40 : decode um_C_begin.2.1 40 = .ok (.goto (-17), 3) := by decide +kernel
theorem d_C_begin_43 : decode um_C_begin.2.1 43 = .ok (.return_, 1) := by decide +kernel
theorem d_C_pair_0 : decode um_C_pair.2.1 0 = .ok (.aload_n 0, 1) := by decide +kernel
theorem d_C_pair_1 : decode um_C_pair.2.1 1 = .ok (.getfield 21, 3) := by decide +kernel
theorem d_C_pair_4 : decode um_C_pair.2.1 4 = .ok (.iload_n 1, 1) := by decide +kernel
theorem d_C_pair_5 : decode um_C_pair.2.1 5 = .ok (.iload_n 2, 1) := by decide +kernel
theorem d_C_pair_6 : decode um_C_pair.2.1 6 = .ok (.iastore, 1) := by decide +kernel
theorem d_C_pair_7 : decode um_C_pair.2.1 7 = .ok (.aload_n 0, 1) := by decide +kernel
theorem d_C_pair_8 : decode um_C_pair.2.1 8 = .ok (.dup, 1) := by decide +kernel
theorem d_C_pair_9 : decode um_C_pair.2.1 9 = .ok (.getfield 29, 3) := by decide +kernel
theorem d_C_pair_12 : decode um_C_pair.2.1 12 = .ok (.iconst 1, 1) := by decide +kernel
theorem d_C_pair_13 : decode um_C_pair.2.1 13 = .ok (.iadd, 1) := by decide +kernel
theorem d_C_pair_14 : decode um_C_pair.2.1 14 = .ok (.putfield 29, 3) := by decide +kernel
theorem d_C_pair_17 : decode um_C_pair.2.1 17 = .ok (.return_, 1) := by decide +kernel
theorem d_C_areEqual_0 : decode um_C_areEqual.2.1 0 = .ok (.aload_n 0, 1) := by decide +kernel
theorem d_C_areEqual_1 : decode um_C_areEqual.2.1 1 = .ok (.getfield 12, 3) := by decide +kernel
theorem d_C_areEqual_4 : decode um_C_areEqual.2.1 4 = .ok (.getfield 33, 3) := by decide +kernel
theorem d_C_areEqual_7 : decode um_C_areEqual.2.1 7 = .ok (.iload_n 1, 1) := by decide +kernel
theorem d_C_areEqual_8 : decode um_C_areEqual.2.1 8 = .ok (.iaload, 1) := by decide +kernel
theorem d_C_areEqual_9 : decode um_C_areEqual.2.1 9 = .ok (.aload_n 0, 1) := by decide +kernel
theorem d_C_areEqual_10 : decode um_C_areEqual.2.1 10 = .ok (.getfield 18, 3) := by decide +kernel
theorem d_C_areEqual_13 : decode um_C_areEqual.2.1 13 = .ok (.getfield 33, 3) := by decide +kernel
theorem d_C_areEqual_16 : decode um_C_areEqual.2.1 16 = .ok (.iload_n 2, 1) := by decide +kernel
theorem d_C_areEqual_17 : decode um_C_areEqual.2.1 17 = .ok (.iaload, 1) := by decide +kernel
theorem d_C_areEqual_18 : decode um_C_areEqual.2.1 18 = .ok (.if_icmp .ne 7, 3) := by decide +kernel
theorem d_C_areEqual_21 : decode um_C_areEqual.2.1 21 = .ok (.iconst 1, 1) := by decide +kernel
theorem d_C_areEqual_22 : decode um_C_areEqual.2.1 22 = .ok (.goto 4, 3) := by decide +kernel
theorem d_C_areEqual_25 : decode um_C_areEqual.2.1 25 = .ok (.iconst 0, 1) := by decide +kernel
theorem d_C_areEqual_26 : decode um_C_areEqual.2.1 26 = .ok (.ireturn, 1) := by decide +kernel
theorem d_C_partnerOf_0 : decode um_C_partnerOf.2.1 0 = .ok (.iload_n 1, 1) := by decide +kernel
theorem d_C_partnerOf_1 : decode um_C_partnerOf.2.1 1 = .ok (.ifCond .lt 23, 3) := by decide +kernel
theorem d_C_partnerOf_4 : decode um_C_partnerOf.2.1 4 = .ok (.iload_n 1, 1) := by decide +kernel
theorem d_C_partnerOf_5 : decode um_C_partnerOf.2.1 5 = .ok (.aload_n 0, 1) := by decide +kernel
theorem d_C_partnerOf_6 : decode um_C_partnerOf.2.1 6 = .ok (.getfield 12, 3) := by decide +kernel
theorem d_C_partnerOf_9 : decode um_C_partnerOf.2.1 9 = .ok (.getfield 36, 3) := by decide +kernel
theorem d_C_partnerOf_12 : decode um_C_partnerOf.2.1 12 = .ok (.if_icmp .ge 12, 3) := by decide +kernel
theorem d_C_partnerOf_15 : decode um_C_partnerOf.2.1 15 = .ok (.aload_n 0, 1) := by decide +kernel
theorem d_C_partnerOf_16 : decode um_C_partnerOf.2.1 16 = .ok (.getfield 21, 3) := by decide +kernel
theorem d_C_partnerOf_19 : decode um_C_partnerOf.2.1 19 = .ok (.iload_n 1, 1) := by decide +kernel
theorem d_C_partnerOf_20 : decode um_C_partnerOf.2.1 20 = .ok (.iaload, 1) := by decide +kernel
theorem d_C_partnerOf_21 : decode um_C_partnerOf.2.1 21 = .ok (.goto 5, 3) := by decide +kernel
theorem d_C_partnerOf_24 : decode um_C_partnerOf.2.1 24 = .ok (.bipush (-3), 2) := by decide +kernel
theorem d_C_partnerOf_26 : decode um_C_partnerOf.2.1 26 = .ok (.ireturn, 1) := by decide +kernel
theorem d_C_linesChanged_0 : decode um_C_linesChanged.2.1 0 = .ok (.aload_n 0, 1) := by decide +kernel
theorem d_C_linesChanged_1 : decode um_C_linesChanged.2.1 1 = .ok (.getfield 12, 3) := by decide +kernel
theorem d_C_linesChanged_4 : decode um_C_linesChanged.2.1 4 = .ok (.getfield 36, 3) := by decide +kernel
theorem d_C_linesChanged_7 : decode um_C_linesChanged.2.1 7 = .ok (.aload_n 0, 1) := by decide +kernel
theorem d_C_linesChanged_8 : decode um_C_linesChanged.2.1 8 = .ok (.getfield 18, 3) := by decide +kernel
theorem d_C_linesChanged_11 : decode um_C_linesChanged.2.1 11 = .ok (.getfield 36, 3) := by decide +kernel
theorem d_C_linesChanged_14 : decode um_C_linesChanged.2.1 14 = .ok (.iadd, 1) := by decide +kernel
theorem d_C_linesChanged_15 : decode um_C_linesChanged.2.1 15 = .ok (.iconst 2, 1) := by decide +kernel
theorem d_C_linesChanged_16 : decode um_C_linesChanged.2.1 16 = .ok (.aload_n 0, 1) := by decide +kernel
theorem d_C_linesChanged_17 : decode um_C_linesChanged.2.1 17 = .ok (.getfield 29, 3) := by decide +kernel
theorem d_C_linesChanged_20 : decode um_C_linesChanged.2.1 20 = .ok (.imul, 1) := by decide +kernel
theorem d_C_linesChanged_21 : decode um_C_linesChanged.2.1 21 = .ok (.isub, 1) := by decide +kernel
theorem d_C_linesChanged_22 : decode um_C_linesChanged.2.1 22 = .ok (.ireturn, 1) := by decide +kernel
theorem d_R_init_0 : decode um_R_init.2.1 0 = .ok (.aload_n 0, 1) := by decide +kernel
theorem d_R_init_1 : decode um_R_init.2.1 1 = .ok (.invokespecial 1, 3) := by decide +kernel
theorem d_R_init_4 : decode um_R_init.2.1 4 = .ok (.return_, 1) := by decide +kernel
theorem d_R_span_0 : decode um_R_span.2.1 0 = .ok (.aload_n 0, 1) := by decide +kernel
theorem d_R_span_1 : decode um_R_span.2.1 1 = .ok (.iload_n 1, 1) := by decide +kernel
theorem d_R_span_2 : decode um_R_span.2.1 2 = .ok (.putfield 7, 3) := by decide +kernel
theorem d_R_span_5 : decode um_R_span.2.1 5 = .ok (.aload_n 0, 1) := by decide +kernel
theorem d_R_span_6 : decode um_R_span.2.1 6 = .ok (.iload_n 2, 1) := by decide +kernel
theorem d_R_span_7 : decode um_R_span.2.1 7 = .ok (.putfield 13, 3) := by decide +kernel
theorem d_R_span_10 : decode um_R_span.2.1 10 = .ok (.aload_n 0, 1) := by decide +kernel
theorem d_R_span_11 : decode um_R_span.2.1 11 = .ok (.iload_n 3, 1) := by decide +kernel
theorem d_R_span_12 : decode um_R_span.2.1 12 = .ok (.putfield 16, 3) := by decide +kernel
theorem d_R_span_15 : decode um_R_span.2.1 15 = .ok (.aload_n 0, 1) := by decide +kernel
theorem d_R_span_16 : decode um_R_span.2.1 16 = .ok (.iload 4, 2) := by decide +kernel
theorem d_R_span_18 : decode um_R_span.2.1 18 = .ok (.putfield 19, 3) := by decide +kernel
theorem d_R_span_21 : decode um_R_span.2.1 21 = .ok (.return_, 1) := by decide +kernel
theorem d_S_init_0 : decode um_S_init.2.1 0 = .ok (.aload_n 0, 1) := by decide +kernel
theorem d_S_init_1 : decode um_S_init.2.1 1 = .ok (.invokespecial 3, 3) := by decide +kernel
theorem d_S_init_4 : decode um_S_init.2.1 4 = .ok (.aload_n 0, 1) := by decide +kernel
theorem d_S_init_5 : decode um_S_init.2.1 5 = .ok (.bipush 25, 2) := by decide +kernel
theorem d_S_init_7 : decode um_S_init.2.1 7 = .ok (.bipush 25, 2) := by decide +kernel
theorem d_S_init_9 : decode um_S_init.2.1 9 = .ok (.multianewarray 9 2, 4) := by decide +kernel
theorem d_S_init_13 : decode um_S_init.2.1 13 = .ok (.putfield 11, 3) := by decide +kernel
theorem d_S_init_16 : decode um_S_init.2.1 16 = .ok (.aload_n 0, 1) := by decide +kernel
theorem d_S_init_17 : decode um_S_init.2.1 17 = .ok (.new 16, 3) := by decide +kernel
theorem d_S_init_20 : decode um_S_init.2.1 20 = .ok (.dup, 1) := by decide +kernel
theorem d_S_init_21 : decode um_S_init.2.1 21 = .ok (.invokespecial 18, 3) := by decide +kernel
theorem d_S_init_24 : decode um_S_init.2.1 24 = .ok (.putfield 19, 3) := by decide +kernel
theorem d_S_init_27 : decode um_S_init.2.1 27 = .ok (.return_, 1) := by decide +kernel
theorem d_S_matchTexts_0 : decode um_S_matchTexts.2.1 0 = .ok (.aload_n 0, 1) := by decide +kernel
theorem d_S_matchTexts_1 : decode um_S_matchTexts.2.1 1 = .ok (.getfield 19, 3) := by decide +kernel
theorem d_S_matchTexts_4 : decode um_S_matchTexts.2.1 4 = .ok (.iconst 0, 1) := by decide +kernel
theorem d_S_matchTexts_5 : decode um_S_matchTexts.2.1 5 = .ok (.aload_n 1, 1) := by decide +kernel
theorem d_S_matchTexts_6 : decode um_S_matchTexts.2.1 6 = .ok (.getfield 23, 3) := by decide +kernel
theorem d_S_matchTexts_9 : decode um_S_matchTexts.2.1 9 = .ok (.getfield 29, 3) := by decide +kernel
theorem d_S_matchTexts_12 : decode um_S_matchTexts.2.1 12 = .ok (.iconst 0, 1) := by decide +kernel
theorem d_S_matchTexts_13 : decode um_S_matchTexts.2.1 13 = .ok (.aload_n 1, 1) := by decide +kernel
theorem d_S_matchTexts_14 : decode um_S_matchTexts.2.1 14 = .ok (.getfield 35, 3) := by decide +kernel
theorem d_S_matchTexts_17 : decode um_S_matchTexts.2.1 17 = .ok (.getfield 29, 3) := by decide +kernel
theorem d_S_matchTexts_20 : decode um_S_matchTexts.2.1 20 = .ok (.invokevirtual 38, 3) := by decide +kernel
theorem d_S_matchTexts_23 : decode um_S_matchTexts.2.1 23 = .ok (.aload_n 0, 1) := by decide +kernel
theorem d_S_matchTexts_24 : decode um_S_matchTexts.2.1 24 = .ok (.aload_n 1, 1) := by decide +kernel
theorem d_S_matchTexts_25 : decode um_S_matchTexts.2.1 25 = .ok (.aload_n 0, 1) := by decide +kernel
theorem d_S_matchTexts_26 : decode um_S_matchTexts.2.1 26 = .ok (.getfield 19, 3) := by decide +kernel
theorem d_S_matchTexts_29 : decode um_S_matchTexts.2.1 29 = .ok (.invokevirtual 42, 3) := by decide +kernel
theorem d_S_matchTexts_32 : decode um_S_matchTexts.2.1 32 = .ok (.return_, 1) := by decide +kernel
theorem d_S_matchRange_0 : decode um_S_matchRange.2.1 0 = .ok (.aload_n 0, 1) := by decide +kernel
theorem d_S_matchRange_1 : decode um_S_matchRange.2.1 1 = .ok (.aload_n 1, 1) := by decide +kernel
theorem d_S_matchRange_2 : decode um_S_matchRange.2.1 2 = .ok (.aload_n 2, 1) := by decide +kernel
theorem d_S_matchRange_3 : decode um_S_matchRange.2.1 3 = .ok (.invokevirtual 46, 3) := by decide +kernel
theorem d_S_matchRange_6 : decode um_S_matchRange.2.1 6 = .ok (.aload_n 2, 1) := by decide +kernel
theorem d_S_matchRange_7 : decode um_S_matchRange.2.1 7 = .ok (.getfield 49, 3) := by decide +kernel
theorem d_S_matchRange_10 : decode um_S_matchRange.2.1 10 = .ok (.istore_n 3, 1) := by decide +kernel
theorem d_S_matchRange_11 : decode um_S_matchRange.2.1 11 = .ok (.aload_n 2, 1) := by decide +kernel
theorem d_S_matchRange_12 : decode um_S_matchRange.2.1 12 = .ok (.getfield 51, 3) := by decide +kernel
theorem d_S_matchRange_15 : decode um_S_matchRange.2.1 15 = .ok (.istore 4, 2) := by decide +kernel
theorem d_S_matchRange_17 : decode um_S_matchRange.2.1 17 = .ok (.iload_n 3, 1) := by decide +kernel
theorem d_S_matchRange_18 : decode um_S_matchRange.2.1 18 = .ok (.aload_n 2, 1) := by decide +kernel
theorem d_S_matchRange_19 : decode um_S_matchRange.2.1 19 = .ok (.getfield 53, 3) := by decide +kernel
theorem d_S_matchRange_22 : decode um_S_matchRange.2.1 22 = .ok (.if_icmp .ge 75, 3) := by decide +kernel
theorem d_S_matchRange_25 : decode um_S_matchRange.2.1 25 = .ok (.iload 4, 2) := by decide +kernel
theorem d_S_matchRange_27 : decode um_S_matchRange.2.1 27 = .ok (.aload_n 2, 1) := by decide +kernel
theorem d_S_matchRange_28 : decode um_S_matchRange.2.1 28 = .ok (.getfield 56, 3) := by decide +kernel
theorem d_S_matchRange_31 : decode um_S_matchRange.2.1 31 = .ok (.if_icmp .ge 66, 3) := by decide +kernel
theorem d_S_matchRange_34 : decode um_S_matchRange.2.1 34 = .ok (.aload_n 1, 1) := by decide +kernel
theorem d_S_matchRange_35 : decode um_S_matchRange.2.1 35 = .ok (.iload_n 3, 1) := by decide +kernel
theorem d_S_matchRange_36 : decode um_S_matchRange.2.1 36 = .ok (.iload 4, 2) := by decide +kernel
theorem d_S_matchRange_38 : decode um_S_matchRange.2.1 38 = .ok (.invokevirtual 59, 3) := by decide +kernel
theorem d_S_matchRange_41 : decode um_S_matchRange.2.1 41 = .ok (.ifCond .eq 19, 3) := by decide +kernel
theorem d_S_matchRange_44 : decode um_S_matchRange.2.1 44 = .ok (.aload_n 1, 1) := by decide +kernel
theorem d_S_matchRange_45 : decode um_S_matchRange.2.1 45 = .ok (.iload_n 3, 1) := by decide +kernel
theorem d_S_matchRange_46 : decode um_S_matchRange.2.1 46 = .ok (.iload 4, 2) := by decide +kernel
theorem d_S_matchRange_48 : decode um_S_matchRange.2.1 48 = .ok (.invokevirtual 63, 3) := by decide +kernel
theorem d_S_matchRange_51 : decode um_S_matchRange.2.1 51 = .ok (.iinc 3 1, 3) := by decide +kernel
theorem d_S_matchRange_54 : decode um_S_matchRange.2.1 54 = .ok (.iinc 4 1, 3) := by decide +kernel
theorem d_S_matchRange_57 : decode um_S_matchRange.2.1 57 = .ok (.goto (-40), 3) := by decide +kernel
theorem d_S_matchRange_60 : decode um_S_matchRange.2.1 60 = .ok (.aload_n 0, 1) := by decide +kernel
theorem d_S_matchRange_61 : decode um_S_matchRange.2.1 61 = .ok (.getfield 11, 3) := by decide +kernel
theorem d_S_matchRange_64 : decode um_S_matchRange.2.1 64 = .ok (.iload_n 3, 1) := by decide +kernel
theorem d_S_matchRange_65 : decode um_S_matchRange.2.1 65 = .ok (.iconst 1, 1) := by decide +kernel
theorem d_S_matchRange_66 : decode um_S_matchRange.2.1 66 = .ok (.iadd, 1) := by decide +kernel
theorem d_S_matchRange_67 : decode um_S_matchRange.2.1 67 = .ok (.aaload, 1) := by decide +kernel
theorem d_S_matchRange_68 : decode um_S_matchRange.2.1 68 = .ok (.iload 4, 2) := by decide +kernel
theorem d_S_matchRange_70 : decode um_S_matchRange.2.1 70 = .ok (.iaload, 1) := by decide +kernel
theorem d_S_matchRange_71 : decode um_S_matchRange.2.1 71 = .ok (.aload_n 0, 1) := by decide +kernel
theorem d_S_matchRange_72 : decode um_S_matchRange.2.1 72 = .ok (.getfield 11, 3) := by decide +kernel
theorem d_S_matchRange_75 : decode um_S_matchRange.2.1 75 = .ok (.iload_n 3, 1) := by decide +kernel
theorem d_S_matchRange_76 : decode um_S_matchRange.2.1 76 = .ok (.aaload, 1) := by decide +kernel
theorem d_S_matchRange_77 : decode um_S_matchRange.2.1 77 = .ok (.iload 4, 2) := by decide +kernel
theorem d_S_matchRange_79 : decode um_S_matchRange.2.1 79 = .ok (.iconst 1, 1) := by decide +kernel
theorem d_S_matchRange_80 : decode um_S_matchRange.2.1 80 = .ok (.iadd, 1) := by decide +kernel
theorem d_S_matchRange_81 : decode um_S_matchRange.2.1 81 = .ok (.iaload, 1) := by decide +kernel
theorem d_S_matchRange_82 : decode um_S_matchRange.2.1 82 = .ok (.if_icmp .lt 9, 3) := by decide +kernel
theorem d_S_matchRange_85 : decode um_S_matchRange.2.1 85 = .ok (.iinc 3 1, 3) := by decide +kernel
theorem d_S_matchRange_88 : decode um_S_matchRange.2.1 88 = .ok (.goto (-71), 3) := by decide +kernel
theorem d_S_matchRange_91 : decode um_S_matchRange.2.1 91 = .ok (.iinc 4 1, 3) := by decide +kernel
theorem d_S_matchRange_94 : decode um_S_matchRange.2.1 94 = .ok (.goto (-77), 3) := by decide +kernel
theorem d_S_matchRange_97 : decode um_S_matchRange.2.1 97 = .ok (.return_, 1) := by decide +kernel
theorem d_S_countMost_0 : decode um_S_countMost.2.1 0 = .ok (.aload_n 2, 1) := by decide +kernel
theorem d_S_countMost_1 : decode um_S_countMost.2.1 1 = .ok (.getfield 53, 3) := by decide +kernel
theorem d_S_countMost_4 : decode um_S_countMost.2.1 4 = .ok (.istore_n 3, 1) := by decide +kernel
theorem d_S_countMost_5 : decode um_S_countMost.2.1 5 = .ok (.iload_n 3, 1) := by decide +kernel
theorem d_S_countMost_6 : decode um_S_countMost.2.1 6 = .ok (.aload_n 2, 1) := by decide +kernel
theorem d_S_countMost_7 : decode um_S_countMost.2.1 7 = .ok (.getfield 49, 3) := by decide +kernel
theorem d_S_countMost_10 : decode um_S_countMost.2.1 10 = .ok (.if_icmp .lt 131, 3) := by decide +kernel
theorem d_S_countMost_13 : decode um_S_countMost.2.1 13 = .ok (.aload_n 2, 1) := by decide +kernel
theorem d_S_countMost_14 : decode um_S_countMost.2.1 14 = .ok (.getfield 56, 3) := by decide +kernel
theorem d_S_countMost_17 : decode um_S_countMost.2.1 17 = .ok (.istore 4, 2) := by decide +kernel
theorem d_S_countMost_19 : decode um_S_countMost.2.1 19 = .ok (.iload 4, 2) := by decide +kernel
theorem d_S_countMost_21 : decode um_S_countMost.2.1 21 = .ok (.aload_n 2, 1) := by decide +kernel
theorem d_S_countMost_22 : decode um_S_countMost.2.1 22 = .ok (.getfield 51, 3) := by decide +kernel
theorem d_S_countMost_25 : decode um_S_countMost.2.1 25 = .ok (.if_icmp .lt 110, 3) := by decide +kernel
theorem d_S_countMost_28 : decode um_S_countMost.2.1 28 = .ok (.iload_n 3, 1) := by decide +kernel
theorem d_S_countMost_29 : decode um_S_countMost.2.1 29 = .ok (.aload_n 2, 1) := by decide +kernel
theorem d_S_countMost_30 : decode um_S_countMost.2.1 30 = .ok (.getfield 53, 3) := by decide +kernel
theorem d_S_countMost_33 : decode um_S_countMost.2.1 33 = .ok (.if_icmp .eq 12, 3) := by decide +kernel
theorem d_S_countMost_36 : decode um_S_countMost.2.1 36 = .ok (.iload 4, 2) := by decide +kernel
theorem d_S_countMost_38 : decode um_S_countMost.2.1 38 = .ok (.aload_n 2, 1) := by decide +kernel
theorem d_S_countMost_39 : decode um_S_countMost.2.1 39 = .ok (.getfield 56, 3) := by decide +kernel
theorem d_S_countMost_42 : decode um_S_countMost.2.1 42 = .ok (.if_icmp .ne 16, 3) := by decide +kernel
theorem d_S_countMost_45 : decode um_S_countMost.2.1 45 = .ok (.aload_n 0, 1) := by decide +kernel
theorem d_S_countMost_46 : decode um_S_countMost.2.1 46 = .ok (.getfield 11, 3) := by decide +kernel
theorem d_S_countMost_49 : decode um_S_countMost.2.1 49 = .ok (.iload_n 3, 1) := by decide +kernel
theorem d_S_countMost_50 : decode um_S_countMost.2.1 50 = .ok (.aaload, 1) := by decide +kernel
theorem d_S_countMost_51 : decode um_S_countMost.2.1 51 = .ok (.iload 4, 2) := by decide +kernel
theorem d_S_countMost_53 : decode um_S_countMost.2.1 53 = .ok (.iconst 0, 1) := by decide +kernel
theorem d_S_countMost_54 : decode um_S_countMost.2.1 54 = .ok (.iastore, 1) := by decide +kernel
theorem d_S_countMost_55 : decode um_S_countMost.2.1 55 = .ok (.goto 74, 3) := by decide +kernel
theorem d_S_countMost_58 : decode um_S_countMost.2.1 58 = .ok (.aload_n 1, 1) := by decide +kernel
theorem d_S_countMost_59 : decode um_S_countMost.2.1 59 = .ok (.iload_n 3, 1) := by decide +kernel
theorem d_S_countMost_60 : decode um_S_countMost.2.1 60 = .ok (.iload 4, 2) := by decide +kernel
theorem d_S_countMost_62 : decode um_S_countMost.2.1 62 = .ok (.invokevirtual 59, 3) := by decide +kernel
theorem d_S_countMost_65 : decode um_S_countMost.2.1 65 = .ok (.ifCond .eq 30, 3) := by decide +kernel
theorem d_S_countMost_68 : decode um_S_countMost.2.1 68 = .ok (.aload_n 0, 1) := by decide +kernel
theorem d_S_countMost_69 : decode um_S_countMost.2.1 69 = .ok (.getfield 11, 3) := by decide +kernel
theorem d_S_countMost_72 : decode um_S_countMost.2.1 72 = .ok (.iload_n 3, 1) := by decide +kernel
theorem d_S_countMost_73 : decode um_S_countMost.2.1 73 = .ok (.aaload, 1) := by decide +kernel
theorem d_S_countMost_74 : decode um_S_countMost.2.1 74 = .ok (.iload 4, 2) := by decide +kernel
theorem d_S_countMost_76 : decode um_S_countMost.2.1 76 = .ok (.aload_n 0, 1) := by decide +kernel
theorem d_S_countMost_77 : decode um_S_countMost.2.1 77 = .ok (.getfield 11, 3) := by decide +kernel
theorem d_S_countMost_80 : decode um_S_countMost.2.1 80 = .ok (.iload_n 3, 1) := by decide +kernel
theorem d_S_countMost_81 : decode um_S_countMost.2.1 81 = .ok (.iconst 1, 1) := by decide +kernel
theorem d_S_countMost_82 : decode um_S_countMost.2.1 82 = .ok (.iadd, 1) := by decide +kernel
theorem d_S_countMost_83 : decode um_S_countMost.2.1 83 = .ok (.aaload, 1) := by decide +kernel
theorem d_S_countMost_84 : decode um_S_countMost.2.1 84 = .ok (.iload 4, 2) := by decide +kernel
theorem d_S_countMost_86 : decode um_S_countMost.2.1 86 = .ok (.iconst 1, 1) := by decide +kernel
theorem d_S_countMost_87 : decode um_S_countMost.2.1 87 = .ok (.iadd, 1) := by decide +kernel
theorem d_S_countMost_88 : decode um_S_countMost.2.1 88 = .ok (.iaload, 1) := by decide +kernel
theorem d_S_countMost_89 : decode um_S_countMost.2.1 89 = .ok (.iconst 1, 1) := by decide +kernel
theorem d_S_countMost_90 : decode um_S_countMost.2.1 90 = .ok (.iadd, 1) := by decide +kernel
theorem d_S_countMost_91 : decode um_S_countMost.2.1 91 = .ok (.iastore, 1) := by decide +kernel
theorem d_S_countMost_92 : decode um_S_countMost.2.1 92 = .ok (.goto 37, 3) := by decide +kernel
theorem d_S_countMost_95 : decode um_S_countMost.2.1 95 = .ok (.aload_n 0, 1) := by decide +kernel
theorem d_S_countMost_96 : decode um_S_countMost.2.1 96 = .ok (.getfield 11, 3) := by decide +kernel
theorem d_S_countMost_99 : decode um_S_countMost.2.1 99 = .ok (.iload_n 3, 1) := by decide +kernel
theorem d_S_countMost_100 : decode um_S_countMost.2.1 100 = .ok (.aaload, 1) := by decide +kernel
theorem d_S_countMost_101 : decode um_S_countMost.2.1 101 = .ok (.iload 4, 2) := by decide +kernel
theorem d_S_countMost_103 : decode um_S_countMost.2.1 103 = .ok (.aload_n 0, 1) := by decide +kernel
theorem d_S_countMost_104 : decode um_S_countMost.2.1 104 = .ok (.getfield 11, 3) := by decide +kernel
theorem d_S_countMost_107 : decode um_S_countMost.2.1 107 = .ok (.iload_n 3, 1) := by decide +kernel
theorem d_S_countMost_108 : decode um_S_countMost.2.1 108 = .ok (.iconst 1, 1) := by decide +kernel
theorem d_S_countMost_109 : decode um_S_countMost.2.1 109 = .ok (.iadd, 1) := by decide +kernel
theorem d_S_countMost_110 : decode um_S_countMost.2.1 110 = .ok (.aaload, 1) := by decide +kernel
theorem d_S_countMost_111 : decode um_S_countMost.2.1 111 = .ok (.iload 4, 2) := by decide +kernel
theorem d_S_countMost_113 : decode um_S_countMost.2.1 113 = .ok (.iaload, 1) := by decide +kernel
theorem d_S_countMost_114 : decode um_S_countMost.2.1 114 = .ok (.aload_n 0, 1) := by decide +kernel
theorem d_S_countMost_115 : decode um_S_countMost.2.1 115 = .ok (.getfield 11, 3) := by decide +kernel
theorem d_S_countMost_118 : decode um_S_countMost.2.1 118 = .ok (.iload_n 3, 1) := by decide +kernel
theorem d_S_countMost_119 : decode um_S_countMost.2.1 119 = .ok (.aaload, 1) := by decide +kernel
theorem d_S_countMost_120 : decode um_S_countMost.2.1 120 = .ok (.iload 4, 2) := by decide +kernel
theorem d_S_countMost_122 : decode um_S_countMost.2.1 122 = .ok (.iconst 1, 1) := by decide +kernel
theorem d_S_countMost_123 : decode um_S_countMost.2.1 123 = .ok (.iadd, 1) := by decide +kernel
theorem d_S_countMost_124 : decode um_S_countMost.2.1 124 = .ok (.iaload, 1) := by decide +kernel
theorem d_S_countMost_125 : decode um_S_countMost.2.1 125 = .ok (.invokestatic 67, 3) := by decide +kernel
theorem d_S_countMost_128 : decode um_S_countMost.2.1 128 = .ok (.iastore, 1) := by decide +kernel
theorem d_S_countMost_129 : decode um_S_countMost.2.1 129 = .ok (.iinc 4 (-1), 3) := by decide +kernel
theorem d_S_countMost_132 : decode um_S_countMost.2.1 132 = .ok (.goto (-113), 3) := by decide +kernel
theorem d_S_countMost_135 : decode um_S_countMost.2.1 135 = .ok (.iinc 3 (-1), 3) := by decide +kernel
theorem d_S_countMost_138 : decode um_S_countMost.2.1 138 = .ok (.goto (-133), 3) := by decide +kernel
theorem d_S_countMost_141 : decode um_S_countMost.2.1 141 = .ok (.return_, 1) := by decide +kernel
theorem d_O_init_0 : decode um_O_init.2.1 0 = .ok (.aload_n 0, 1) := by decide +kernel
theorem d_O_init_1 : decode um_O_init.2.1 1 = .ok (.invokespecial 3, 3) := by decide +kernel
theorem d_O_init_4 : decode um_O_init.2.1 4 = .ok (.aload_n 0, 1) := by decide +kernel
theorem d_O_init_5 : decode um_O_init.2.1 5 = .ok (.bipush 49, 2) := by decide +kernel
theorem d_O_init_7 : decode um_O_init.2.1 7 = .ok (.anewarray 11, 3) := by decide +kernel
theorem d_O_init_10 : decode um_O_init.2.1 10 = .ok (.putfield 13, 3) := by decide +kernel
theorem d_O_init_13 : decode um_O_init.2.1 13 = .ok (.aload_n 0, 1) := by decide +kernel
theorem d_O_init_14 : decode um_O_init.2.1 14 = .ok (.bipush 24, 2) := by decide +kernel
theorem d_O_init_16 : decode um_O_init.2.1 16 = .ok (.newarray .int, 2) := by decide +kernel
theorem d_O_init_18 : decode um_O_init.2.1 18 = .ok (.putfield 17, 3) := by decide +kernel
theorem d_O_init_21 : decode um_O_init.2.1 21 = .ok (.aload_n 0, 1) := by decide +kernel
theorem d_O_init_22 : decode um_O_init.2.1 22 = .ok (.bipush 24, 2) := by decide +kernel
theorem d_O_init_24 : decode um_O_init.2.1 24 = .ok (.newarray .int, 2) := by decide +kernel
theorem d_O_init_26 : decode um_O_init.2.1 26 = .ok (.putfield 21, 3) := by decide +kernel
theorem d_O_init_29 : decode um_O_init.2.1 29 = .ok (.aload_n 0, 1) := by decide +kernel
theorem d_O_init_30 : decode um_O_init.2.1 30 = .ok (.bipush 24, 2) := by decide +kernel
theorem d_O_init_32 : decode um_O_init.2.1 32 = .ok (.newarray .int, 2) := by decide +kernel
theorem d_O_init_34 : decode um_O_init.2.1 34 = .ok (.putfield 24, 3) := by decide +kernel
theorem d_O_init_37 : decode um_O_init.2.1 37 = .ok (.aload_n 0, 1) := by decide +kernel
theorem d_O_init_38 : decode um_O_init.2.1 38 = .ok (.aload_n 1, 1) := by decide +kernel
theorem d_O_init_39 : decode um_O_init.2.1 39 = .ok (.putfield 27, 3) := by decide +kernel
theorem d_O_init_42 : decode um_O_init.2.1 42 = .ok (.iconst 0, 1) := by decide +kernel
theorem d_O_init_43 : decode um_O_init.2.1 43 = .ok (.istore_n 2, 1) := by decide +kernel
theorem d_O_init_44 : decode um_O_init.2.1 44 = .ok (.iload_n 2, 1) := by decide +kernel
theorem d_O_init_45 : decode um_O_init.2.1 45 = .ok (.bipush 49, 2) := by decide +kernel
theorem d_O_init_47 : decode um_O_init.2.1 47 = .ok (.if_icmp .ge 22, 3) := by decide +kernel
theorem d_O_init_50 : decode um_O_init.2.1 50 = .ok (.aload_n 0, 1) := by decide +kernel
theorem d_O_init_51 : decode um_O_init.2.1 51 = .ok (.getfield 13, 3) := by decide +kernel
theorem d_O_init_54 : decode um_O_init.2.1 54 = .ok (.iload_n 2, 1) := by decide +kernel
theorem d_O_init_55 : decode um_O_init.2.1 55 = .ok (.new 11, 3) := by decide +kernel
theorem d_O_init_58 : decode um_O_init.2.1 58 = .ok (.dup, 1) := by decide +kernel
theorem d_O_init_59 : decode um_O_init.2.1 59 = .ok (.invokespecial 31, 3) := by decide +kernel
theorem d_O_init_62 : decode um_O_init.2.1 62 = .ok (.aastore, 1) := by decide +kernel
theorem d_O_init_63 : decode um_O_init.2.1 63 = .ok (.iinc 2 1, 3) := by decide +kernel
theorem d_O_init_66 : decode um_O_init.2.1 66 = .ok (.goto (-22), 3) := by decide +kernel
theorem d_O_init_69 : decode um_O_init.2.1 69 = .ok (.return_, 1) := by decide +kernel
theorem d_O_matchTexts_0 : decode um_O_matchTexts.2.1 0 = .ok (.aload_n 0, 1) := by decide +kernel
theorem d_O_matchTexts_1 : decode um_O_matchTexts.2.1 1 = .ok (.iconst 0, 1) := by decide +kernel
theorem d_O_matchTexts_2 : decode um_O_matchTexts.2.1 2 = .ok (.putfield 32, 3) := by decide +kernel
theorem d_O_matchTexts_5 : decode um_O_matchTexts.2.1 5 = .ok (.aload_n 0, 1) := by decide +kernel
theorem d_O_matchTexts_6 : decode um_O_matchTexts.2.1 6 = .ok (.iconst 0, 1) := by decide +kernel
theorem d_O_matchTexts_7 : decode um_O_matchTexts.2.1 7 = .ok (.aload_n 1, 1) := by decide +kernel
theorem d_O_matchTexts_8 : decode um_O_matchTexts.2.1 8 = .ok (.getfield 36, 3) := by decide +kernel
theorem d_O_matchTexts_11 : decode um_O_matchTexts.2.1 11 = .ok (.getfield 42, 3) := by decide +kernel
theorem d_O_matchTexts_14 : decode um_O_matchTexts.2.1 14 = .ok (.iconst 0, 1) := by decide +kernel
theorem d_O_matchTexts_15 : decode um_O_matchTexts.2.1 15 = .ok (.aload_n 1, 1) := by decide +kernel
theorem d_O_matchTexts_16 : decode um_O_matchTexts.2.1 16 = .ok (.getfield 47, 3) := by decide +kernel
theorem d_O_matchTexts_19 : decode um_O_matchTexts.2.1 19 = .ok (.getfield 42, 3) := by decide +kernel
theorem d_O_matchTexts_22 : decode um_O_matchTexts.2.1 22 = .ok (.invokevirtual 50, 3) := by decide +kernel
theorem d_O_matchTexts_25 : decode um_O_matchTexts.2.1 25 = .ok (.iconst 0, 1) := by decide +kernel
theorem d_O_matchTexts_26 : decode um_O_matchTexts.2.1 26 = .ok (.istore_n 2, 1) := by decide +kernel
theorem d_O_matchTexts_27 : decode um_O_matchTexts.2.1 27 = .ok (.iload_n 2, 1) := by decide +kernel
theorem d_O_matchTexts_28 : decode um_O_matchTexts.2.1 28 = .ok (.aload_n 0, 1) := by decide +kernel
theorem d_O_matchTexts_29 : decode um_O_matchTexts.2.1 29 = .ok (.getfield 32, 3) := by decide +kernel
theorem d_O_matchTexts_32 : decode um_O_matchTexts.2.1 32 = .ok (.if_icmp .ge 26, 3) := by decide +kernel
theorem d_O_matchTexts_35 : decode um_O_matchTexts.2.1 35 = .ok (.iload_n 2, 1) := by decide +kernel
theorem d_O_matchTexts_36 : decode um_O_matchTexts.2.1 36 = .ok (.bipush 49, 2) := by decide +kernel
theorem d_O_matchTexts_38 : decode um_O_matchTexts.2.1 38 = .ok (.if_icmp .ge 20, 3) := by decide +kernel
theorem d_O_matchTexts_41 : decode um_O_matchTexts.2.1 41 = .ok (.aload_n 0, 1) := by decide +kernel
theorem d_O_matchTexts_42 : decode um_O_matchTexts.2.1 42 = .ok (.aload_n 1, 1) := by decide +kernel
theorem d_O_matchTexts_43 : decode um_O_matchTexts.2.1 43 = .ok (.aload_n 0, 1) := by decide +kernel
theorem d_O_matchTexts_44 : decode um_O_matchTexts.2.1 44 = .ok (.getfield 13, 3) := by decide +kernel
theorem d_O_matchTexts_47 : decode um_O_matchTexts.2.1 47 = .ok (.iload_n 2, 1) := by decide +kernel
theorem d_O_matchTexts_48 : decode um_O_matchTexts.2.1 48 = .ok (.aaload, 1) := by decide +kernel
theorem d_O_matchTexts_49 : decode um_O_matchTexts.2.1 49 = .ok (.invokevirtual 54, 3) := by decide +kernel
theorem d_O_matchTexts_52 : decode um_O_matchTexts.2.1 52 = .ok (.iinc 2 1, 3) := by decide +kernel
theorem d_O_matchTexts_55 : decode um_O_matchTexts.2.1 55 = .ok (.goto (-28), 3) := by decide +kernel
theorem d_O_matchTexts_58 : decode um_O_matchTexts.2.1 58 = .ok (.return_, 1) := by decide +kernel
theorem d_O_keepForLater_0 : decode um_O_keepForLater.2.1 0 = .ok (.iload_n 1, 1) := by decide +kernel
theorem d_O_keepForLater_1 : decode um_O_keepForLater.2.1 1 = .ok (.iload_n 2, 1) := by decide +kernel
theorem d_O_keepForLater_2 : decode um_O_keepForLater.2.1 2 = .ok (.if_icmp .ge 45, 3) := by decide +kernel
theorem d_O_keepForLater_5 : decode um_O_keepForLater.2.1 5 = .ok (.iload_n 3, 1) := by decide +kernel
theorem d_O_keepForLater_6 : decode um_O_keepForLater.2.1 6 = .ok (.iload 4, 2) := by decide +kernel
theorem d_O_keepForLater_8 : decode um_O_keepForLater.2.1 8 = .ok (.if_icmp .ge 39, 3) := by decide +kernel
theorem d_O_keepForLater_11 : decode um_O_keepForLater.2.1 11 = .ok (.aload_n 0, 1) := by decide +kernel
theorem d_O_keepForLater_12 : decode um_O_keepForLater.2.1 12 = .ok (.getfield 32, 3) := by decide +kernel
theorem d_O_keepForLater_15 : decode um_O_keepForLater.2.1 15 = .ok (.bipush 49, 2) := by decide +kernel
theorem d_O_keepForLater_17 : decode um_O_keepForLater.2.1 17 = .ok (.if_icmp .ge 30, 3) := by decide +kernel
theorem d_O_keepForLater_20 : decode um_O_keepForLater.2.1 20 = .ok (.aload_n 0, 1) := by decide +kernel
theorem d_O_keepForLater_21 : decode um_O_keepForLater.2.1 21 = .ok (.getfield 13, 3) := by decide +kernel
theorem d_O_keepForLater_24 : decode um_O_keepForLater.2.1 24 = .ok (.aload_n 0, 1) := by decide +kernel
theorem d_O_keepForLater_25 : decode um_O_keepForLater.2.1 25 = .ok (.getfield 32, 3) := by decide +kernel
theorem d_O_keepForLater_28 : decode um_O_keepForLater.2.1 28 = .ok (.aaload, 1) := by decide +kernel
theorem d_O_keepForLater_29 : decode um_O_keepForLater.2.1 29 = .ok (.iload_n 1, 1) := by decide +kernel
theorem d_O_keepForLater_30 : decode um_O_keepForLater.2.1 30 = .ok (.iload_n 2, 1) := by decide +kernel
theorem d_O_keepForLater_31 : decode um_O_keepForLater.2.1 31 = .ok (.iload_n 3, 1) := by decide +kernel
theorem d_O_keepForLater_32 : decode um_O_keepForLater.2.1 32 = .ok (.iload 4, 2) := by decide +kernel
theorem d_O_keepForLater_34 : decode um_O_keepForLater.2.1 34 = .ok (.invokevirtual 58, 3) := by decide +kernel
theorem d_O_keepForLater_37 : decode um_O_keepForLater.2.1 37 = .ok (.aload_n 0, 1) := by decide +kernel
theorem d_O_keepForLater_38 : decode um_O_keepForLater.2.1 38 = .ok (.dup, 1) := by decide +kernel
theorem d_O_keepForLater_39 : decode um_O_keepForLater.2.1 39 = .ok (.getfield 32, 3) := by decide +kernel
theorem d_O_keepForLater_42 : decode um_O_keepForLater.2.1 42 = .ok (.iconst 1, 1) := by decide +kernel
theorem d_O_keepForLater_43 : decode um_O_keepForLater.2.1 43 = .ok (.iadd, 1) := by decide +kernel
theorem d_O_keepForLater_44 : decode um_O_keepForLater.2.1 44 = .ok (.putfield 32, 3) := by decide +kernel
theorem d_O_keepForLater_47 : decode um_O_keepForLater.2.1 47 = .ok (.return_, 1) := by decide +kernel
theorem d_O_matchRange_0 : decode um_O_matchRange.2.1 0 = .ok (.aload_n 0, 1) := by decide +kernel
theorem d_O_matchRange_1 : decode um_O_matchRange.2.1 1 = .ok (.aload_n 1, 1) := by decide +kernel
theorem d_O_matchRange_2 : decode um_O_matchRange.2.1 2 = .ok (.aload_n 2, 1) := by decide +kernel
theorem d_O_matchRange_3 : decode um_O_matchRange.2.1 3 = .ok (.invokevirtual 61, 3) := by decide +kernel
theorem d_O_matchRange_6 : decode um_O_matchRange.2.1 6 = .ok (.aload_n 0, 1) := by decide +kernel
theorem d_O_matchRange_7 : decode um_O_matchRange.2.1 7 = .ok (.aload_n 1, 1) := by decide +kernel
theorem d_O_matchRange_8 : decode um_O_matchRange.2.1 8 = .ok (.aload_n 2, 1) := by decide +kernel
theorem d_O_matchRange_9 : decode um_O_matchRange.2.1 9 = .ok (.invokevirtual 64, 3) := by decide +kernel
theorem d_O_matchRange_12 : decode um_O_matchRange.2.1 12 = .ok (.aload_n 0, 1) := by decide +kernel
theorem d_O_matchRange_13 : decode um_O_matchRange.2.1 13 = .ok (.aload_n 1, 1) := by decide +kernel
theorem d_O_matchRange_14 : decode um_O_matchRange.2.1 14 = .ok (.aload_n 2, 1) := by decide +kernel
theorem d_O_matchRange_15 : decode um_O_matchRange.2.1 15 = .ok (.invokevirtual 67, 3) := by decide +kernel
theorem d_O_matchRange_18 : decode um_O_matchRange.2.1 18 = .ok (.aload_n 0, 1) := by decide +kernel
theorem d_O_matchRange_19 : decode um_O_matchRange.2.1 19 = .ok (.getfield 70, 3) := by decide +kernel
theorem d_O_matchRange_22 : decode um_O_matchRange.2.1 22 = .ok (.ifCond .ne 15, 3) := by decide +kernel
theorem d_O_matchRange_25 : decode um_O_matchRange.2.1 25 = .ok (.aload_n 0, 1) := by decide +kernel
theorem d_O_matchRange_26 : decode um_O_matchRange.2.1 26 = .ok (.getfield 27, 3) := by decide +kernel
theorem d_O_matchRange_29 : decode um_O_matchRange.2.1 29 = .ok (.aload_n 1, 1) := by decide +kernel
theorem d_O_matchRange_30 : decode um_O_matchRange.2.1 30 = .ok (.aload_n 2, 1) := by decide +kernel
theorem d_O_matchRange_31 : decode um_O_matchRange.2.1 31 = .ok (.invokevirtual 73, 3) := by decide +kernel
theorem d_O_matchRange_34 : decode um_O_matchRange.2.1 34 = .ok (.goto 13, 3) := by decide +kernel
theorem d_O_matchRange_37 : decode um_O_matchRange.2.1 37 = .ok (.aload_n 0, 1) := by decide +kernel
theorem d_O_matchRange_38 : decode um_O_matchRange.2.1 38 = .ok (.aload_n 1, 1) := by decide +kernel
theorem d_O_matchRange_39 : decode um_O_matchRange.2.1 39 = .ok (.aload_n 2, 1) := by decide +kernel
theorem d_O_matchRange_40 : decode um_O_matchRange.2.1 40 = .ok (.aload_n 0, 1) := by decide +kernel
theorem d_O_matchRange_41 : decode um_O_matchRange.2.1 41 = .ok (.invokevirtual 76, 3) := by decide +kernel
theorem d_O_matchRange_44 : decode um_O_matchRange.2.1 44 = .ok (.invokevirtual 80, 3) := by decide +kernel
theorem d_O_matchRange_47 : decode um_O_matchRange.2.1 47 = .ok (.return_, 1) := by decide +kernel
theorem d_O_matchBeginning_0 : decode um_O_matchBeginning.2.1 0 = .ok (.aload_n 2, 1) := by decide +kernel
theorem d_O_matchBeginning_1 : decode um_O_matchBeginning.2.1 1 = .ok (.getfield 84, 3) := by decide +kernel
theorem d_O_matchBeginning_4 : decode um_O_matchBeginning.2.1 4 = .ok (.aload_n 2, 1) := by decide +kernel
theorem d_O_matchBeginning_5 : decode um_O_matchBeginning.2.1 5 = .ok (.getfield 86, 3) := by decide +kernel
theorem d_O_matchBeginning_8 : decode um_O_matchBeginning.2.1 8 = .ok (.if_icmp .ge 64, 3) := by decide +kernel
theorem d_O_matchBeginning_11 : decode um_O_matchBeginning.2.1 11 = .ok (.aload_n 2, 1) := by decide +kernel
theorem d_O_matchBeginning_12 : decode um_O_matchBeginning.2.1 12 = .ok (.getfield 89, 3) := by decide +kernel
theorem d_O_matchBeginning_15 : decode um_O_matchBeginning.2.1 15 = .ok (.aload_n 2, 1) := by decide +kernel
theorem d_O_matchBeginning_16 : decode um_O_matchBeginning.2.1 16 = .ok (.getfield 91, 3) := by decide +kernel
theorem d_O_matchBeginning_19 : decode um_O_matchBeginning.2.1 19 = .ok (.if_icmp .ge 53, 3) := by decide +kernel
theorem d_O_matchBeginning_22 : decode um_O_matchBeginning.2.1 22 = .ok (.aload_n 1, 1) := by decide +kernel
theorem d_O_matchBeginning_23 : decode um_O_matchBeginning.2.1 23 = .ok (.aload_n 2, 1) := by decide +kernel
theorem d_O_matchBeginning_24 : decode um_O_matchBeginning.2.1 24 = .ok (.getfield 84, 3) := by decide +kernel
theorem d_O_matchBeginning_27 : decode um_O_matchBeginning.2.1 27 = .ok (.aload_n 2, 1) := by decide +kernel
theorem d_O_matchBeginning_28 : decode um_O_matchBeginning.2.1 28 = .ok (.getfield 89, 3) := by decide +kernel
theorem d_O_matchBeginning_31 : decode um_O_matchBeginning.2.1 31 = .ok (.invokevirtual 94, 3) := by decide +kernel
theorem d_O_matchBeginning_34 : decode um_O_matchBeginning.2.1 34 = .ok (.ifCond .eq 38, 3) := by decide +kernel
theorem d_O_matchBeginning_37 : decode um_O_matchBeginning.2.1 37 = .ok (.aload_n 1, 1) := by decide +kernel
theorem d_O_matchBeginning_38 : decode um_O_matchBeginning.2.1 38 = .ok (.aload_n 2, 1) := by decide +kernel
theorem d_O_matchBeginning_39 : decode um_O_matchBeginning.2.1 39 = .ok (.getfield 84, 3) := by decide +kernel
theorem d_O_matchBeginning_42 : decode um_O_matchBeginning.2.1 42 = .ok (.aload_n 2, 1) := by decide +kernel
theorem d_O_matchBeginning_43 : decode um_O_matchBeginning.2.1 43 = .ok (.getfield 89, 3) := by decide +kernel
theorem d_O_matchBeginning_46 : decode um_O_matchBeginning.2.1 46 = .ok (.invokevirtual 98, 3) := by decide +kernel
theorem d_O_matchBeginning_49 : decode um_O_matchBeginning.2.1 49 = .ok (.aload_n 2, 1) := by decide +kernel
theorem d_O_matchBeginning_50 : decode um_O_matchBeginning.2.1 50 = .ok (.dup, 1) := by decide +kernel
theorem d_O_matchBeginning_51 : decode um_O_matchBeginning.2.1 51 = .ok (.getfield 84, 3) := by decide +kernel
theorem d_O_matchBeginning_54 : decode um_O_matchBeginning.2.1 54 = .ok (.iconst 1, 1) := by decide +kernel
theorem d_O_matchBeginning_55 : decode um_O_matchBeginning.2.1 55 = .ok (.iadd, 1) := by decide +kernel
theorem d_O_matchBeginning_56 : decode um_O_matchBeginning.2.1 56 = .ok (.putfield 84, 3) := by decide +kernel
theorem d_O_matchBeginning_59 : decode um_O_matchBeginning.2.1 59 = .ok (.aload_n 2, 1) := by decide +kernel
theorem d_O_matchBeginning_60 : decode um_O_matchBeginning.2.1 60 = .ok (.dup, 1) := by decide +kernel
theorem d_O_matchBeginning_61 : decode um_O_matchBeginning.2.1 61 = .ok (.getfield 89, 3) := by decide +kernel
theorem d_O_matchBeginning_64 : decode um_O_matchBeginning.2.1 64 = .ok (.iconst 1, 1) := by decide +kernel
theorem d_O_matchBeginning_65 : decode um_O_matchBeginning.2.1 65 = .ok (.iadd, 1) := by decide +kernel
theorem d_O_matchBeginning_66 : decode um_O_matchBeginning.2.1 66 = .ok (.putfield 89, 3) := by decide +kernel
theorem d_O_matchBeginning_69 : decode um_O_matchBeginning.2.1 69 = .ok (.goto (-69), 3) := by decide +kernel
theorem d_O_matchBeginning_72 : decode um_O_matchBeginning.2.1 72 = .ok (.return_, 1) := by decide +kernel
theorem d_O_matchEnd_0 : decode um_O_matchEnd.2.1 0 = .ok (.aload_n 2, 1) := by decide +kernel
theorem d_O_matchEnd_1 : decode um_O_matchEnd.2.1 1 = .ok (.getfield 84, 3) := by decide +kernel
theorem d_O_matchEnd_4 : decode um_O_matchEnd.2.1 4 = .ok (.aload_n 2, 1) := by decide +kernel
theorem d_O_matchEnd_5 : decode um_O_matchEnd.2.1 5 = .ok (.getfield 86, 3) := by decide +kernel
theorem d_O_matchEnd_8 : decode um_O_matchEnd.2.1 8 = .ok (.if_icmp .ge 68, 3) := by decide +kernel
theorem d_O_matchEnd_11 : decode um_O_matchEnd.2.1 11 = .ok (.aload_n 2, 1) := by decide +kernel
theorem d_O_matchEnd_12 : decode um_O_matchEnd.2.1 12 = .ok (.getfield 89, 3) := by decide +kernel
theorem d_O_matchEnd_15 : decode um_O_matchEnd.2.1 15 = .ok (.aload_n 2, 1) := by decide +kernel
theorem d_O_matchEnd_16 : decode um_O_matchEnd.2.1 16 = .ok (.getfield 91, 3) := by decide +kernel
theorem d_O_matchEnd_19 : decode um_O_matchEnd.2.1 19 = .ok (.if_icmp .ge 57, 3) := by decide +kernel
theorem d_O_matchEnd_22 : decode um_O_matchEnd.2.1 22 = .ok (.aload_n 1, 1) := by decide +kernel
theorem d_O_matchEnd_23 : decode um_O_matchEnd.2.1 23 = .ok (.aload_n 2, 1) := by decide +kernel
theorem d_O_matchEnd_24 : decode um_O_matchEnd.2.1 24 = .ok (.getfield 86, 3) := by decide +kernel
theorem d_O_matchEnd_27 : decode um_O_matchEnd.2.1 27 = .ok (.iconst 1, 1) := by decide +kernel
theorem d_O_matchEnd_28 : decode um_O_matchEnd.2.1 28 = .ok (.isub, 1) := by decide +kernel
theorem d_O_matchEnd_29 : decode um_O_matchEnd.2.1 29 = .ok (.aload_n 2, 1) := by decide +kernel
theorem d_O_matchEnd_30 : decode um_O_matchEnd.2.1 30 = .ok (.getfield 91, 3) := by decide +kernel
theorem d_O_matchEnd_33 : decode um_O_matchEnd.2.1 33 = .ok (.iconst 1, 1) := by decide +kernel
theorem d_O_matchEnd_34 : decode um_O_matchEnd.2.1 34 = .ok (.isub, 1) := by decide +kernel
theorem d_O_matchEnd_35 : decode um_O_matchEnd.2.1 35 = .ok (.invokevirtual 94, 3) := by decide +kernel
theorem d_O_matchEnd_38 : decode um_O_matchEnd.2.1 38 = .ok (.ifCond .eq 38, 3) := by decide +kernel
theorem d_O_matchEnd_41 : decode um_O_matchEnd.2.1 41 = .ok (.aload_n 2, 1) := by decide +kernel
theorem d_O_matchEnd_42 : decode um_O_matchEnd.2.1 42 = .ok (.dup, 1) := by decide +kernel
theorem d_O_matchEnd_43 : decode um_O_matchEnd.2.1 43 = .ok (.getfield 86, 3) := by decide +kernel
theorem d_O_matchEnd_46 : decode um_O_matchEnd.2.1 46 = .ok (.iconst 1, 1) := by decide +kernel
theorem d_O_matchEnd_47 : decode um_O_matchEnd.2.1 47 = .ok (.isub, 1) := by decide +kernel
theorem d_O_matchEnd_48 : decode um_O_matchEnd.2.1 48 = .ok (.putfield 86, 3) := by decide +kernel
theorem d_O_matchEnd_51 : decode um_O_matchEnd.2.1 51 = .ok (.aload_n 2, 1) := by decide +kernel
theorem d_O_matchEnd_52 : decode um_O_matchEnd.2.1 52 = .ok (.dup, 1) := by decide +kernel
theorem d_O_matchEnd_53 : decode um_O_matchEnd.2.1 53 = .ok (.getfield 91, 3) := by decide +kernel
theorem d_O_matchEnd_56 : decode um_O_matchEnd.2.1 56 = .ok (.iconst 1, 1) := by decide +kernel
theorem d_O_matchEnd_57 : decode um_O_matchEnd.2.1 57 = .ok (.isub, 1) := by decide +kernel
theorem d_O_matchEnd_58 : decode um_O_matchEnd.2.1 58 = .ok (.putfield 91, 3) := by decide +kernel
theorem d_O_matchEnd_61 : decode um_O_matchEnd.2.1 61 = .ok (.aload_n 1, 1) := by decide +kernel
theorem d_O_matchEnd_62 : decode um_O_matchEnd.2.1 62 = .ok (.aload_n 2, 1) := by decide +kernel
theorem d_O_matchEnd_63 : decode um_O_matchEnd.2.1 63 = .ok (.getfield 86, 3) := by decide +kernel
theorem d_O_matchEnd_66 : decode um_O_matchEnd.2.1 66 = .ok (.aload_n 2, 1) := by decide +kernel
theorem d_O_matchEnd_67 : decode um_O_matchEnd.2.1 67 = .ok (.getfield 91, 3) := by decide +kernel
theorem d_O_matchEnd_70 : decode um_O_matchEnd.2.1 70 = .ok (.invokevirtual 98, 3) := by decide +kernel
theorem d_O_matchEnd_73 : decode um_O_matchEnd.2.1 73 = .ok (.goto (-73), 3) := by decide +kernel
theorem d_O_matchEnd_76 : decode um_O_matchEnd.2.1 76 = .ok (.return_, 1) := by decide +kernel
theorem d_O_findPairs_0 : decode um_O_findPairs.2.1 0 = .ok (.aload_n 0, 1) := by decide +kernel
theorem d_O_findPairs_1 : decode um_O_findPairs.2.1 1 = .ok (.iconst 0, 1) := by decide +kernel
theorem d_O_findPairs_2 : decode um_O_findPairs.2.1 2 = .ok (.putfield 70, 3) := by decide +kernel
theorem d_O_findPairs_5 : decode um_O_findPairs.2.1 5 = .ok (.aload_n 2, 1) := by decide +kernel
theorem d_O_findPairs_6 : decode um_O_findPairs.2.1 6 = .ok (.getfield 84, 3) := by decide +kernel
theorem d_O_findPairs_9 : decode um_O_findPairs.2.1 9 = .ok (.istore_n 3, 1) := by decide +kernel
theorem d_O_findPairs_10 : decode um_O_findPairs.2.1 10 = .ok (.iload_n 3, 1) := by decide +kernel
theorem d_O_findPairs_11 : decode um_O_findPairs.2.1 11 = .ok (.aload_n 2, 1) := by decide +kernel
theorem d_O_findPairs_12 : decode um_O_findPairs.2.1 12 = .ok (.getfield 86, 3) := by decide +kernel
theorem d_O_findPairs_15 : decode um_O_findPairs.2.1 15 = .ok (.if_icmp .ge 98, 3) := by decide +kernel
theorem d_O_findPairs_18 : decode um_O_findPairs.2.1 18 = .ok (.aload_n 1, 1) := by decide +kernel
theorem d_O_findPairs_19 : decode um_O_findPairs.2.1 19 = .ok (.getfield 36, 3) := by decide +kernel
theorem d_O_findPairs_22 : decode um_O_findPairs.2.1 22 = .ok (.getfield 102, 3) := by decide +kernel
theorem d_O_findPairs_25 : decode um_O_findPairs.2.1 25 = .ok (.iload_n 3, 1) := by decide +kernel
theorem d_O_findPairs_26 : decode um_O_findPairs.2.1 26 = .ok (.iaload, 1) := by decide +kernel
theorem d_O_findPairs_27 : decode um_O_findPairs.2.1 27 = .ok (.istore 4, 2) := by decide +kernel
theorem d_O_findPairs_29 : decode um_O_findPairs.2.1 29 = .ok (.aload_n 1, 1) := by decide +kernel
theorem d_O_findPairs_30 : decode um_O_findPairs.2.1 30 = .ok (.getfield 47, 3) := by decide +kernel
theorem d_O_findPairs_33 : decode um_O_findPairs.2.1 33 = .ok (.iload 4, 2) := by decide +kernel
theorem d_O_findPairs_35 : decode um_O_findPairs.2.1 35 = .ok (.aload_n 2, 1) := by decide +kernel
theorem d_O_findPairs_36 : decode um_O_findPairs.2.1 36 = .ok (.getfield 89, 3) := by decide +kernel
theorem d_O_findPairs_39 : decode um_O_findPairs.2.1 39 = .ok (.aload_n 2, 1) := by decide +kernel
theorem d_O_findPairs_40 : decode um_O_findPairs.2.1 40 = .ok (.getfield 91, 3) := by decide +kernel
theorem d_O_findPairs_43 : decode um_O_findPairs.2.1 43 = .ok (.invokevirtual 105, 3) := by decide +kernel
theorem d_O_findPairs_46 : decode um_O_findPairs.2.1 46 = .ok (.istore 5, 2) := by decide +kernel
theorem d_O_findPairs_48 : decode um_O_findPairs.2.1 48 = .ok (.iload 5, 2) := by decide +kernel
theorem d_O_findPairs_50 : decode um_O_findPairs.2.1 50 = .ok (.bipush (-3), 2) := by decide +kernel
theorem d_O_findPairs_52 : decode um_O_findPairs.2.1 52 = .ok (.if_icmp .eq 55, 3) := by decide +kernel
theorem d_O_findPairs_55 : decode um_O_findPairs.2.1 55 = .ok (.aload_n 1, 1) := by decide +kernel
theorem d_O_findPairs_56 : decode um_O_findPairs.2.1 56 = .ok (.getfield 36, 3) := by decide +kernel
theorem d_O_findPairs_59 : decode um_O_findPairs.2.1 59 = .ok (.iload 4, 2) := by decide +kernel
theorem d_O_findPairs_61 : decode um_O_findPairs.2.1 61 = .ok (.aload_n 2, 1) := by decide +kernel
theorem d_O_findPairs_62 : decode um_O_findPairs.2.1 62 = .ok (.getfield 84, 3) := by decide +kernel
theorem d_O_findPairs_65 : decode um_O_findPairs.2.1 65 = .ok (.aload_n 2, 1) := by decide +kernel
theorem d_O_findPairs_66 : decode um_O_findPairs.2.1 66 = .ok (.getfield 86, 3) := by decide +kernel
theorem d_O_findPairs_69 : decode um_O_findPairs.2.1 69 = .ok (.invokevirtual 105, 3) := by decide +kernel
theorem d_O_findPairs_72 : decode um_O_findPairs.2.1 72 = .ok (.iload_n 3, 1) := by decide +kernel
theorem d_O_findPairs_73 : decode um_O_findPairs.2.1 73 = .ok (.if_icmp .ne 34, 3) := by decide +kernel
theorem d_O_findPairs_76 : decode um_O_findPairs.2.1 76 = .ok (.aload_n 0, 1) := by decide +kernel
theorem d_O_findPairs_77 : decode um_O_findPairs.2.1 77 = .ok (.getfield 17, 3) := by decide +kernel
theorem d_O_findPairs_80 : decode um_O_findPairs.2.1 80 = .ok (.aload_n 0, 1) := by decide +kernel
theorem d_O_findPairs_81 : decode um_O_findPairs.2.1 81 = .ok (.getfield 70, 3) := by decide +kernel
theorem d_O_findPairs_84 : decode um_O_findPairs.2.1 84 = .ok (.iload_n 3, 1) := by decide +kernel
theorem d_O_findPairs_85 : decode um_O_findPairs.2.1 85 = .ok (.iastore, 1) := by decide +kernel
theorem d_O_findPairs_86 : decode um_O_findPairs.2.1 86 = .ok (.aload_n 0, 1) := by decide +kernel
theorem d_O_findPairs_87 : decode um_O_findPairs.2.1 87 = .ok (.getfield 21, 3) := by decide +kernel
theorem d_O_findPairs_90 : decode um_O_findPairs.2.1 90 = .ok (.aload_n 0, 1) := by decide +kernel
theorem d_O_findPairs_91 : decode um_O_findPairs.2.1 91 = .ok (.getfield 70, 3) := by decide +kernel
theorem d_O_findPairs_94 : decode um_O_findPairs.2.1 94 = .ok (.iload 5, 2) := by decide +kernel
theorem d_O_findPairs_96 : decode um_O_findPairs.2.1 96 = .ok (.iastore, 1) := by decide +kernel
theorem d_O_findPairs_97 : decode um_O_findPairs.2.1 97 = .ok (.aload_n 0, 1) := by decide +kernel
theorem d_O_findPairs_98 : decode um_O_findPairs.2.1 98 = .ok (.dup, 1) := by decide +kernel
theorem d_O_findPairs_99 : decode um_O_findPairs.2.1 99 = .ok (.getfield 70, 3) := by decide +kernel
theorem d_O_findPairs_102 : decode um_O_findPairs.2.1 102 = .ok (.iconst 1, 1) := by decide +kernel
theorem d_O_findPairs_103 : decode um_O_findPairs.2.1 103 = .ok (.iadd, 1) := by decide +kernel
theorem d_O_findPairs_104 : decode um_O_findPairs.2.1 104 = .ok (.putfield 70, 3) := by decide +kernel
theorem d_O_findPairs_107 : decode um_O_findPairs.2.1 107 = .ok (.iinc 3 1, 3) := by decide +kernel
theorem d_O_findPairs_110 : decode um_O_findPairs.2.1 110 = .ok (.goto (-100), 3) := by decide +kernel
theorem d_O_findPairs_113 : decode um_O_findPairs.2.1 113 = .ok (.return_, 1) := by decide +kernel
theorem d_O_rankPairs_0 : decode um_O_rankPairs.2.1 0 = .ok (.iconst 0, 1) := by decide +kernel
theorem d_O_rankPairs_1 : decode um_O_rankPairs.2.1 1 = .ok (.istore_n 1, 1) := by decide +kernel
theorem d_O_rankPairs_2 : decode um_O_rankPairs.2.1 2 = .ok (.iconst 0, 1) := by decide +kernel
theorem d_O_rankPairs_3 : decode um_O_rankPairs.2.1 3 = .ok (.istore_n 2, 1) := by decide +kernel
theorem d_O_rankPairs_4 : decode um_O_rankPairs.2.1 4 = .ok (.iload_n 2, 1) := by decide +kernel
theorem d_O_rankPairs_5 : decode um_O_rankPairs.2.1 5 = .ok (.aload_n 0, 1) := by decide +kernel
theorem d_O_rankPairs_6 : decode um_O_rankPairs.2.1 6 = .ok (.getfield 70, 3) := by decide +kernel
theorem d_O_rankPairs_9 : decode um_O_rankPairs.2.1 9 = .ok (.if_icmp .ge 74, 3) := by decide +kernel
theorem d_O_rankPairs_12 : decode um_O_rankPairs.2.1 12 = .ok (.iconst 0, 1) := by decide +kernel
theorem d_O_rankPairs_13 : decode um_O_rankPairs.2.1 13 = .ok (.istore_n 3, 1) := by decide +kernel
theorem d_O_rankPairs_14 : decode um_O_rankPairs.2.1 14 = .ok (.iconst 0, 1) := by decide +kernel
theorem d_O_rankPairs_15 : decode um_O_rankPairs.2.1 15 = .ok (.istore 4, 2) := by decide +kernel
theorem d_O_rankPairs_17 : decode um_O_rankPairs.2.1 17 = .ok (.iload 4, 2) := by decide +kernel
theorem d_O_rankPairs_19 : decode um_O_rankPairs.2.1 19 = .ok (.iload_n 2, 1) := by decide +kernel
theorem d_O_rankPairs_20 : decode um_O_rankPairs.2.1 20 = .ok (.if_icmp .ge 37, 3) := by decide +kernel
theorem d_O_rankPairs_23 : decode um_O_rankPairs.2.1 23 = .ok (.aload_n 0, 1) := by decide +kernel
theorem d_O_rankPairs_24 : decode um_O_rankPairs.2.1 24 = .ok (.getfield 21, 3) := by decide +kernel
theorem d_O_rankPairs_27 : decode um_O_rankPairs.2.1 27 = .ok (.iload 4, 2) := by decide +kernel
theorem d_O_rankPairs_29 : decode um_O_rankPairs.2.1 29 = .ok (.iaload, 1) := by decide +kernel
theorem d_O_rankPairs_30 : decode um_O_rankPairs.2.1 30 = .ok (.aload_n 0, 1) := by decide +kernel
theorem d_O_rankPairs_31 : decode um_O_rankPairs.2.1 31 = .ok (.getfield 21, 3) := by decide +kernel
theorem d_O_rankPairs_34 : decode um_O_rankPairs.2.1 34 = .ok (.iload_n 2, 1) := by decide +kernel
theorem d_O_rankPairs_35 : decode um_O_rankPairs.2.1 35 = .ok (.iaload, 1) := by decide +kernel
theorem d_O_rankPairs_36 : decode um_O_rankPairs.2.1 36 = .ok (.if_icmp .ge 15, 3) := by decide +kernel
theorem d_O_rankPairs_39 : decode um_O_rankPairs.2.1 39 = .ok (.iload_n 3, 1) := by decide +kernel
theorem d_O_rankPairs_40 : decode um_O_rankPairs.2.1 40 = .ok (.aload_n 0, 1) := by decide +kernel
theorem d_O_rankPairs_41 : decode um_O_rankPairs.2.1 41 = .ok (.getfield 24, 3) := by decide +kernel
theorem d_O_rankPairs_44 : decode um_O_rankPairs.2.1 44 = .ok (.iload 4, 2) := by decide +kernel
theorem d_O_rankPairs_46 : decode um_O_rankPairs.2.1 46 = .ok (.iaload, 1) := by decide +kernel
theorem d_O_rankPairs_47 : decode um_O_rankPairs.2.1 47 = .ok (.invokestatic 109, 3) := by decide +kernel
theorem d_O_rankPairs_50 : decode um_O_rankPairs.2.1 50 = .ok (.istore_n 3, 1) := by decide +kernel
theorem d_O_rankPairs_51 : decode um_O_rankPairs.2.1 51 = .ok (.iinc 4 1, 3) := by decide +kernel
theorem d_O_rankPairs_54 : decode um_O_rankPairs.2.1 54 = .ok (.goto (-37), 3) := by decide +kernel
theorem d_O_rankPairs_57 : decode um_O_rankPairs.2.1 57 = .ok (.aload_n 0, 1) := by decide +kernel
theorem d_O_rankPairs_58 : decode um_O_rankPairs.2.1 58 = .ok (.getfield 24, 3) := by decide +kernel
theorem d_O_rankPairs_61 : decode um_O_rankPairs.2.1 61 = .ok (.iload_n 2, 1) := by decide +kernel
theorem d_O_rankPairs_62 : decode um_O_rankPairs.2.1 62 = .ok (.iload_n 3, 1) := by decide +kernel
theorem d_O_rankPairs_63 : decode um_O_rankPairs.2.1 63 = .ok (.iconst 1, 1) := by decide +kernel
theorem d_O_rankPairs_64 : decode um_O_rankPairs.2.1 64 = .ok (.iadd, 1) := by decide +kernel
theorem d_O_rankPairs_65 : decode um_O_rankPairs.2.1 65 = .ok (.iastore, 1) := by decide +kernel
theorem d_O_rankPairs_66 : decode um_O_rankPairs.2.1 66 = .ok (.iload_n 1, 1) := by decide +kernel
theorem d_O_rankPairs_67 : decode um_O_rankPairs.2.1 67 = .ok (.aload_n 0, 1) := by decide +kernel
theorem d_O_rankPairs_68 : decode um_O_rankPairs.2.1 68 = .ok (.getfield 24, 3) := by decide +kernel
theorem d_O_rankPairs_71 : decode um_O_rankPairs.2.1 71 = .ok (.iload_n 2, 1) := by decide +kernel
theorem d_O_rankPairs_72 : decode um_O_rankPairs.2.1 72 = .ok (.iaload, 1) := by decide +kernel
theorem d_O_rankPairs_73 : decode um_O_rankPairs.2.1 73 = .ok (.invokestatic 109, 3) := by decide +kernel
theorem d_O_rankPairs_76 : decode um_O_rankPairs.2.1 76 = .ok (.istore_n 1, 1) := by decide +kernel
theorem d_O_rankPairs_77 : decode um_O_rankPairs.2.1 77 = .ok (.iinc 2 1, 3) := by decide +kernel
theorem d_O_rankPairs_80 : decode um_O_rankPairs.2.1 80 = .ok (.goto (-76), 3) := by decide +kernel
theorem d_O_rankPairs_83 : decode um_O_rankPairs.2.1 83 = .ok (.iload_n 1, 1) := by decide +kernel
theorem d_O_rankPairs_84 : decode um_O_rankPairs.2.1 84 = .ok (.ireturn, 1) := by decide +kernel
theorem d_O_matchAnchors_0 : decode um_O_matchAnchors.2.1 0 = .ok (.iload_n 3, 1) := by decide +kernel
theorem d_O_matchAnchors_1 : decode um_O_matchAnchors.2.1 1 = .ok (.istore 4, 2) := by decide +kernel
theorem d_O_matchAnchors_3 : decode um_O_matchAnchors.2.1 3 = .ok (.aload_n 2, 1) := by decide +kernel
theorem d_O_matchAnchors_4 : decode um_O_matchAnchors.2.1 4 = .ok (.getfield 86, 3) := by decide +kernel
theorem d_O_matchAnchors_7 : decode um_O_matchAnchors.2.1 7 = .ok (.istore 5, 2) := by decide +kernel
theorem d_O_matchAnchors_9 : decode um_O_matchAnchors.2.1 9 = .ok (.aload_n 2, 1) := by decide +kernel
theorem d_O_matchAnchors_10 : decode um_O_matchAnchors.2.1 10 = .ok (.getfield 91, 3) := by decide +kernel
theorem d_O_matchAnchors_13 : decode um_O_matchAnchors.2.1 13 = .ok (.istore 6, 2) := by decide +kernel
theorem d_O_matchAnchors_15 : decode um_O_matchAnchors.2.1 15 = .ok (.aload_n 0, 1) := by decide +kernel
theorem d_O_matchAnchors_16 : decode um_O_matchAnchors.2.1 16 = .ok (.getfield 70, 3) := by decide +kernel
theorem d_O_matchAnchors_19 : decode um_O_matchAnchors.2.1 19 = .ok (.iconst 1, 1) := by decide +kernel
theorem d_O_matchAnchors_20 : decode um_O_matchAnchors.2.1 20 = .ok (.isub, 1) := by decide +kernel
theorem d_O_matchAnchors_21 : decode um_O_matchAnchors.2.1 21 = .ok (.istore 7, 2) := by decide +kernel
theorem d_O_matchAnchors_23 : decode um_O_matchAnchors.2.1 23 = .ok (.iload 7, 2) := by decide +kernel
theorem d_O_matchAnchors_25 : decode um_O_matchAnchors.2.1 25 = .ok (.ifCond .lt 86, 3) := by decide +kernel
theorem d_O_matchAnchors_28 : decode um_O_matchAnchors.2.1 28 = .ok (.aload_n 0, 1) := by decide +kernel
theorem d_O_matchAnchors_29 : decode um_O_matchAnchors.2.1 29 = .ok (.getfield 24, 3) := by decide +kernel
theorem d_O_matchAnchors_32 : decode um_O_matchAnchors.2.1 32 = .ok (.iload 7, 2) := by decide +kernel
theorem d_O_matchAnchors_34 : decode um_O_matchAnchors.2.1 34 = .ok (.iaload, 1) := by decide +kernel
theorem d_O_matchAnchors_35 : decode um_O_matchAnchors.2.1 35 = .ok (.iload 4, 2) := by decide +kernel
theorem d_O_matchAnchors_37 : decode um_O_matchAnchors.2.1 37 = .ok (.if_icmp .ne 68, 3) := by decide +kernel
theorem d_O_matchAnchors_40 : decode um_O_matchAnchors.2.1 40 = .ok (.aload_n 1, 1) := by decide +kernel
theorem d_O_matchAnchors_41 : decode um_O_matchAnchors.2.1 41 = .ok (.aload_n 0, 1) := by decide +kernel
theorem d_O_matchAnchors_42 : decode um_O_matchAnchors.2.1 42 = .ok (.getfield 17, 3) := by decide +kernel
theorem d_O_matchAnchors_45 : decode um_O_matchAnchors.2.1 45 = .ok (.iload 7, 2) := by decide +kernel
theorem d_O_matchAnchors_47 : decode um_O_matchAnchors.2.1 47 = .ok (.iaload, 1) := by decide +kernel
theorem d_O_matchAnchors_48 : decode um_O_matchAnchors.2.1 48 = .ok (.aload_n 0, 1) := by decide +kernel
theorem d_O_matchAnchors_49 : decode um_O_matchAnchors.2.1 49 = .ok (.getfield 21, 3) := by decide +kernel
theorem d_O_matchAnchors_52 : decode um_O_matchAnchors.2.1 52 = .ok (.iload 7, 2) := by decide +kernel
theorem d_O_matchAnchors_54 : decode um_O_matchAnchors.2.1 54 = .ok (.iaload, 1) := by decide +kernel
theorem d_O_matchAnchors_55 : decode um_O_matchAnchors.2.1 55 = .ok (.invokevirtual 98, 3) := by decide +kernel
theorem d_O_matchAnchors_58 : decode um_O_matchAnchors.2.1 58 = .ok (.aload_n 0, 1) := by decide +kernel
theorem d_O_matchAnchors_59 : decode um_O_matchAnchors.2.1 59 = .ok (.aload_n 0, 1) := by decide +kernel
theorem d_O_matchAnchors_60 : decode um_O_matchAnchors.2.1 60 = .ok (.getfield 17, 3) := by decide +kernel
theorem d_O_matchAnchors_63 : decode um_O_matchAnchors.2.1 63 = .ok (.iload 7, 2) := by decide +kernel
theorem d_O_matchAnchors_65 : decode um_O_matchAnchors.2.1 65 = .ok (.iaload, 1) := by decide +kernel
theorem d_O_matchAnchors_66 : decode um_O_matchAnchors.2.1 66 = .ok (.iconst 1, 1) := by decide +kernel
theorem d_O_matchAnchors_67 : decode um_O_matchAnchors.2.1 67 = .ok (.iadd, 1) := by decide +kernel
theorem d_O_matchAnchors_68 : decode um_O_matchAnchors.2.1 68 = .ok (.iload 5, 2) := by decide +kernel
theorem d_O_matchAnchors_70 : decode um_O_matchAnchors.2.1 70 = .ok (.aload_n 0, 1) := by decide +kernel
theorem d_O_matchAnchors_71 : decode um_O_matchAnchors.2.1 71 = .ok (.getfield 21, 3) := by decide +kernel
theorem d_O_matchAnchors_74 : decode um_O_matchAnchors.2.1 74 = .ok (.iload 7, 2) := by decide +kernel
theorem d_O_matchAnchors_76 : decode um_O_matchAnchors.2.1 76 = .ok (.iaload, 1) := by decide +kernel
theorem d_O_matchAnchors_77 : decode um_O_matchAnchors.2.1 77 = .ok (.iconst 1, 1) := by decide +kernel
theorem d_O_matchAnchors_78 : decode um_O_matchAnchors.2.1 78 = .ok (.iadd, 1) := by decide +kernel
theorem d_O_matchAnchors_79 : decode um_O_matchAnchors.2.1 79 = .ok (.iload 6, 2) := by decide +kernel
theorem d_O_matchAnchors_81 : decode um_O_matchAnchors.2.1 81 = .ok (.invokevirtual 50, 3) := by decide +kernel
theorem d_O_matchAnchors_84 : decode um_O_matchAnchors.2.1 84 = .ok (.aload_n 0, 1) := by decide +kernel
theorem d_O_matchAnchors_85 : decode um_O_matchAnchors.2.1 85 = .ok (.getfield 17, 3) := by decide +kernel
theorem d_O_matchAnchors_88 : decode um_O_matchAnchors.2.1 88 = .ok (.iload 7, 2) := by decide +kernel
theorem d_O_matchAnchors_90 : decode um_O_matchAnchors.2.1 90 = .ok (.iaload, 1) := by decide +kernel
theorem d_O_matchAnchors_91 : decode um_O_matchAnchors.2.1 91 = .ok (.istore 5, 2) := by decide +kernel
theorem d_O_matchAnchors_93 : decode um_O_matchAnchors.2.1 93 = .ok (.aload_n 0, 1) := by decide +kernel
theorem d_O_matchAnchors_94 : decode um_O_matchAnchors.2.1 94 = .ok (.getfield 21, 3) := by decide +kernel
theorem d_O_matchAnchors_97 : decode um_O_matchAnchors.2.1 97 = .ok (.iload 7, 2) := by decide +kernel
theorem d_O_matchAnchors_99 : decode um_O_matchAnchors.2.1 99 = .ok (.iaload, 1) := by decide +kernel
theorem d_O_matchAnchors_100 : decode um_O_matchAnchors.2.1 100 = .ok (.istore 6, 2) := by decide +kernel
theorem d_O_matchAnchors_102 : decode um_O_matchAnchors.2.1 102 = .ok (.iinc 4 (-1), 3) := by decide +kernel
theorem d_O_matchAnchors_105 : decode um_O_matchAnchors.2.1 105 = .ok (.iinc 7 (-1), 3) := by decide +kernel
theorem d_O_matchAnchors_108 : decode um_O_matchAnchors.2.1 108 = .ok (.goto (-85), 3) := by decide +kernel
theorem d_O_matchAnchors_111 : decode um_O_matchAnchors.2.1 111 = .ok (.aload_n 0, 1) := by decide +kernel
theorem d_O_matchAnchors_112 : decode um_O_matchAnchors.2.1 112 = .ok (.aload_n 2, 1) := by decide +kernel
theorem d_O_matchAnchors_113 : decode um_O_matchAnchors.2.1 113 = .ok (.getfield 84, 3) := by decide +kernel
theorem d_O_matchAnchors_116 : decode um_O_matchAnchors.2.1 116 = .ok (.iload 5, 2) := by decide +kernel
theorem d_O_matchAnchors_118 : decode um_O_matchAnchors.2.1 118 = .ok (.aload_n 2, 1) := by decide +kernel
theorem d_O_matchAnchors_119 : decode um_O_matchAnchors.2.1 119 = .ok (.getfield 89, 3) := by decide +kernel
theorem d_O_matchAnchors_122 : decode um_O_matchAnchors.2.1 122 = .ok (.iload 6, 2) := by decide +kernel
theorem d_O_matchAnchors_124 : decode um_O_matchAnchors.2.1 124 = .ok (.invokevirtual 50, 3) := by decide +kernel
theorem d_O_matchAnchors_127 : decode um_O_matchAnchors.2.1 127 = .ok (.return_, 1) := by decide +kernel
theorem d_A_init_0 : decode um_A_init.2.1 0 = .ok (.aload_n 0, 1) := by decide +kernel
theorem d_A_init_1 : decode um_A_init.2.1 1 = .ok (.invokespecial 3, 3) := by decide +kernel
theorem d_A_init_4 : decode um_A_init.2.1 4 = .ok (.aload_n 0, 1) := by decide +kernel
theorem d_A_init_5 : decode um_A_init.2.1 5 = .ok (.sipush 900, 3) := by decide +kernel
theorem d_A_init_8 : decode um_A_init.2.1 8 = .ok (.newarray .int, 2) := by decide +kernel
theorem d_A_init_10 : decode um_A_init.2.1 10 = .ok (.putfield 9, 3) := by decide +kernel
theorem d_A_init_13 : decode um_A_init.2.1 13 = .ok (.return_, 1) := by decide +kernel
theorem d_A_append_0 : decode um_A_append.2.1 0 = .ok (.aload_n 0, 1) := by decide +kernel
theorem d_A_append_1 : decode um_A_append.2.1 1 = .ok (.getfield 15, 3) := by decide +kernel
theorem d_A_append_4 : decode um_A_append.2.1 4 = .ok (.sipush 900, 3) := by decide +kernel
theorem d_A_append_7 : decode um_A_append.2.1 7 = .ok (.if_icmp .ge 23, 3) := by decide +kernel
theorem d_A_append_10 : decode um_A_append.2.1 10 = .ok (.aload_n 0, 1) := by decide +kernel
theorem d_A_append_11 : decode um_A_append.2.1 11 = .ok (.getfield 9, 3) := by decide +kernel
theorem d_A_append_14 : decode um_A_append.2.1 14 = .ok (.aload_n 0, 1) := by decide +kernel
theorem d_A_append_15 : decode um_A_append.2.1 15 = .ok (.getfield 15, 3) := by decide +kernel
theorem d_A_append_18 : decode um_A_append.2.1 18 = .ok (.iload_n 1, 1) := by decide +kernel
theorem d_A_append_19 : decode um_A_append.2.1 19 = .ok (.iastore, 1) := by decide +kernel
theorem d_A_append_20 : decode um_A_append.2.1 20 = .ok (.aload_n 0, 1) := by decide +kernel
theorem d_A_append_21 : decode um_A_append.2.1 21 = .ok (.dup, 1) := by decide +kernel
theorem d_A_append_22 : decode um_A_append.2.1 22 = .ok (.getfield 15, 3) := by decide +kernel
theorem d_A_append_25 : decode um_A_append.2.1 25 = .ok (.iconst 1, 1) := by decide +kernel
theorem d_A_append_26 : decode um_A_append.2.1 26 = .ok (.iadd, 1) := by decide +kernel
theorem d_A_append_27 : decode um_A_append.2.1 27 = .ok (.putfield 15, 3) := by decide +kernel
theorem d_A_append_30 : decode um_A_append.2.1 30 = .ok (.return_, 1) := by decide +kernel
theorem d_A_appendNumber_0 : decode um_A_appendNumber.2.1 0 = .ok (.iload_n 1, 1) := by decide +kernel
theorem d_A_appendNumber_1 : decode um_A_appendNumber.2.1 1 = .ok (.bipush 10, 2) := by decide +kernel
theorem d_A_appendNumber_3 : decode um_A_appendNumber.2.1 3 = .ok (.if_icmp .lt 17, 3) := by decide +kernel
theorem d_A_appendNumber_6 : decode um_A_appendNumber.2.1 6 = .ok (.aload_n 0, 1) := by decide +kernel
theorem d_A_appendNumber_7 : decode um_A_appendNumber.2.1 7 = .ok (.bipush 48, 2) := by decide +kernel
theorem d_A_appendNumber_9 : decode um_A_appendNumber.2.1 9 = .ok (.iload_n 1, 1) := by decide +kernel
theorem d_A_appendNumber_10 : decode um_A_appendNumber.2.1 10 = .ok (.bipush 10, 2) := by decide +kernel
theorem d_A_appendNumber_12 : decode um_A_appendNumber.2.1 12 = .ok (.idiv, 1) := by decide +kernel
theorem d_A_appendNumber_13 : decode um_A_appendNumber.2.1 13 = .ok (.bipush 10, 2) := by decide +kernel
theorem d_A_appendNumber_15 : decode um_A_appendNumber.2.1 15 = .ok (.irem, 1) := by decide +kernel
theorem d_A_appendNumber_16 : decode um_A_appendNumber.2.1 16 = .ok (.iadd, 1) := by decide +kernel
theorem d_A_appendNumber_17 : decode um_A_appendNumber.2.1 17 = .ok (.invokevirtual 19, 3) := by decide +kernel
theorem d_A_appendNumber_20 : decode um_A_appendNumber.2.1 20 = .ok (.aload_n 0, 1) := by decide +kernel
theorem d_A_appendNumber_21 : decode um_A_appendNumber.2.1 21 = .ok (.bipush 48, 2) := by decide +kernel
theorem d_A_appendNumber_23 : decode um_A_appendNumber.2.1 23 = .ok (.iload_n 1, 1) := by decide +kernel
theorem d_A_appendNumber_24 : decode um_A_appendNumber.2.1 24 = .ok (.bipush 10, 2) := by decide +kernel
theorem d_A_appendNumber_26 : decode um_A_appendNumber.2.1 26 = .ok (.irem, 1) := by decide +kernel
theorem d_A_appendNumber_27 : decode um_A_appendNumber.2.1 27 = .ok (.iadd, 1) := by decide +kernel
theorem d_A_appendNumber_28 : decode um_A_appendNumber.2.1 28 = .ok (.invokevirtual 19, 3) := by decide +kernel
theorem d_A_appendNumber_31 : decode um_A_appendNumber.2.1 31 = .ok (.return_, 1) := by decide +kernel
theorem d_A_appendLine_0 : decode um_A_appendLine.2.1 0 = .ok (.aload_n 0, 1) := by decide +kernel
theorem d_A_appendLine_1 : decode um_A_appendLine.2.1 1 = .ok (.iload_n 1, 1) := by decide +kernel
theorem d_A_appendLine_2 : decode um_A_appendLine.2.1 2 = .ok (.invokevirtual 19, 3) := by decide +kernel
theorem d_A_appendLine_5 : decode um_A_appendLine.2.1 5 = .ok (.aload_n 0, 1) := by decide +kernel
theorem d_A_appendLine_6 : decode um_A_appendLine.2.1 6 = .ok (.iload_n 2, 1) := by decide +kernel
theorem d_A_appendLine_7 : decode um_A_appendLine.2.1 7 = .ok (.invokevirtual 19, 3) := by decide +kernel
theorem d_A_appendLine_10 : decode um_A_appendLine.2.1 10 = .ok (.aload_n 0, 1) := by decide +kernel
theorem d_A_appendLine_11 : decode um_A_appendLine.2.1 11 = .ok (.bipush 10, 2) := by decide +kernel
theorem d_A_appendLine_13 : decode um_A_appendLine.2.1 13 = .ok (.invokevirtual 19, 3) := by decide +kernel
theorem d_A_appendLine_16 : decode um_A_appendLine.2.1 16 = .ok (.return_, 1) := by decide +kernel
theorem d_W_init_0 : decode um_W_init.2.1 0 = .ok (.aload_n 0, 1) := by decide +kernel
theorem d_W_init_1 : decode um_W_init.2.1 1 = .ok (.invokespecial 3, 3) := by decide +kernel
theorem d_W_init_4 : decode um_W_init.2.1 4 = .ok (.aload_n 0, 1) := by decide +kernel
theorem d_W_init_5 : decode um_W_init.2.1 5 = .ok (.bipush 25, 2) := by decide +kernel
theorem d_W_init_7 : decode um_W_init.2.1 7 = .ok (.anewarray 11, 3) := by decide +kernel
theorem d_W_init_10 : decode um_W_init.2.1 10 = .ok (.putfield 13, 3) := by decide +kernel
theorem d_W_init_13 : decode um_W_init.2.1 13 = .ok (.aload_n 0, 1) := by decide +kernel
theorem d_W_init_14 : decode um_W_init.2.1 14 = .ok (.aload_n 1, 1) := by decide +kernel
theorem d_W_init_15 : decode um_W_init.2.1 15 = .ok (.putfield 17, 3) := by decide +kernel
theorem d_W_init_18 : decode um_W_init.2.1 18 = .ok (.aload_n 0, 1) := by decide +kernel
theorem d_W_init_19 : decode um_W_init.2.1 19 = .ok (.aload_n 2, 1) := by decide +kernel
theorem d_W_init_20 : decode um_W_init.2.1 20 = .ok (.putfield 21, 3) := by decide +kernel
theorem d_W_init_23 : decode um_W_init.2.1 23 = .ok (.iconst 0, 1) := by decide +kernel
theorem d_W_init_24 : decode um_W_init.2.1 24 = .ok (.istore_n 3, 1) := by decide +kernel
theorem d_W_init_25 : decode um_W_init.2.1 25 = .ok (.iload_n 3, 1) := by decide +kernel
theorem d_W_init_26 : decode um_W_init.2.1 26 = .ok (.bipush 25, 2) := by decide +kernel
theorem d_W_init_28 : decode um_W_init.2.1 28 = .ok (.if_icmp .ge 22, 3) := by decide +kernel
theorem d_W_init_31 : decode um_W_init.2.1 31 = .ok (.aload_n 0, 1) := by decide +kernel
theorem d_W_init_32 : decode um_W_init.2.1 32 = .ok (.getfield 13, 3) := by decide +kernel
theorem d_W_init_35 : decode um_W_init.2.1 35 = .ok (.iload_n 3, 1) := by decide +kernel
theorem d_W_init_36 : decode um_W_init.2.1 36 = .ok (.new 11, 3) := by decide +kernel
theorem d_W_init_39 : decode um_W_init.2.1 39 = .ok (.dup, 1) := by decide +kernel
theorem d_W_init_40 : decode um_W_init.2.1 40 = .ok (.invokespecial 25, 3) := by decide +kernel
theorem d_W_init_43 : decode um_W_init.2.1 43 = .ok (.aastore, 1) := by decide +kernel
theorem d_W_init_44 : decode um_W_init.2.1 44 = .ok (.iinc 3 1, 3) := by decide +kernel
theorem d_W_init_47 : decode um_W_init.2.1 47 = .ok (.goto (-22), 3) := by decide +kernel
theorem d_W_init_50 : decode um_W_init.2.1 50 = .ok (.return_, 1) := by decide +kernel
theorem d_W_writePatch_0 : decode um_W_writePatch.2.1 0 = .ok (.aload_n 0, 1) := by decide +kernel
theorem d_W_writePatch_1 : decode um_W_writePatch.2.1 1 = .ok (.invokevirtual 26, 3) := by decide +kernel
theorem d_W_writePatch_4 : decode um_W_writePatch.2.1 4 = .ok (.aload_n 0, 1) := by decide +kernel
theorem d_W_writePatch_5 : decode um_W_writePatch.2.1 5 = .ok (.getfield 21, 3) := by decide +kernel
theorem d_W_writePatch_8 : decode um_W_writePatch.2.1 8 = .ok (.iconst 0, 1) := by decide +kernel
theorem d_W_writePatch_9 : decode um_W_writePatch.2.1 9 = .ok (.putfield 29, 3) := by decide +kernel
theorem d_W_writePatch_12 : decode um_W_writePatch.2.1 12 = .ok (.iconst 0, 1) := by decide +kernel
theorem d_W_writePatch_13 : decode um_W_writePatch.2.1 13 = .ok (.istore_n 2, 1) := by decide +kernel
theorem d_W_writePatch_14 : decode um_W_writePatch.2.1 14 = .ok (.iconst 0, 1) := by decide +kernel
theorem d_W_writePatch_15 : decode um_W_writePatch.2.1 15 = .ok (.istore_n 3, 1) := by decide +kernel
theorem d_W_writePatch_16 : decode um_W_writePatch.2.1 16 = .ok (.iconst 0, 1) := by decide +kernel
theorem d_W_writePatch_17 : decode um_W_writePatch.2.1 17 = .ok (.istore 4, 2) := by decide +kernel
theorem d_W_writePatch_19 : decode um_W_writePatch.2.1 19 = .ok (.iload 4, 2) := by decide +kernel
theorem d_W_writePatch_21 : decode um_W_writePatch.2.1 21 = .ok (.aload_n 0, 1) := by decide +kernel
theorem d_W_writePatch_22 : decode um_W_writePatch.2.1 22 = .ok (.getfield 35, 3) := by decide +kernel
theorem d_W_writePatch_25 : decode um_W_writePatch.2.1 25 = .ok (.if_icmp .ge 60, 3) := by decide +kernel
theorem d_W_writePatch_28 : decode um_W_writePatch.2.1 28 = .ok (.iload 4, 2) := by decide +kernel
theorem d_W_writePatch_30 : decode um_W_writePatch.2.1 30 = .ok (.aload_n 0, 1) := by decide +kernel
theorem d_W_writePatch_31 : decode um_W_writePatch.2.1 31 = .ok (.getfield 35, 3) := by decide +kernel
theorem d_W_writePatch_34 : decode um_W_writePatch.2.1 34 = .ok (.iconst 1, 1) := by decide +kernel
theorem d_W_writePatch_35 : decode um_W_writePatch.2.1 35 = .ok (.isub, 1) := by decide +kernel
theorem d_W_writePatch_36 : decode um_W_writePatch.2.1 36 = .ok (.if_icmp .ne 7, 3) := by decide +kernel
theorem d_W_writePatch_39 : decode um_W_writePatch.2.1 39 = .ok (.iconst 1, 1) := by decide +kernel
theorem d_W_writePatch_40 : decode um_W_writePatch.2.1 40 = .ok (.goto 4, 3) := by decide +kernel
theorem d_W_writePatch_43 : decode um_W_writePatch.2.1 43 = .ok (.iconst 0, 1) := by decide +kernel
theorem d_W_writePatch_44 : decode um_W_writePatch.2.1 44 = .ok (.istore 5, 2) := by decide +kernel
theorem d_W_writePatch_46 : decode um_W_writePatch.2.1 46 = .ok (.iload 5, 2) := by decide +kernel
theorem d_W_writePatch_48 : decode um_W_writePatch.2.1 48 = .ok (.ifCond .ne 15, 3) := by decide +kernel
theorem d_W_writePatch_51 : decode um_W_writePatch.2.1 51 = .ok (.aload_n 0, 1) := by decide +kernel
theorem d_W_writePatch_52 : decode um_W_writePatch.2.1 52 = .ok (.iload 4, 2) := by decide +kernel
theorem d_W_writePatch_54 : decode um_W_writePatch.2.1 54 = .ok (.invokevirtual 38, 3) := by decide +kernel
theorem d_W_writePatch_57 : decode um_W_writePatch.2.1 57 = .ok (.iconst 2, 1) := by decide +kernel
theorem d_W_writePatch_58 : decode um_W_writePatch.2.1 58 = .ok (.iload_n 1, 1) := by decide +kernel
theorem d_W_writePatch_59 : decode um_W_writePatch.2.1 59 = .ok (.imul, 1) := by decide +kernel
theorem d_W_writePatch_60 : decode um_W_writePatch.2.1 60 = .ok (.if_icmp .le 19, 3) := by decide +kernel
theorem d_W_writePatch_63 : decode um_W_writePatch.2.1 63 = .ok (.aload_n 0, 1) := by decide +kernel
theorem d_W_writePatch_64 : decode um_W_writePatch.2.1 64 = .ok (.iload_n 3, 1) := by decide +kernel
theorem d_W_writePatch_65 : decode um_W_writePatch.2.1 65 = .ok (.iload 4, 2) := by decide +kernel
theorem d_W_writePatch_67 : decode um_W_writePatch.2.1 67 = .ok (.iload_n 1, 1) := by decide +kernel
theorem d_W_writePatch_68 : decode um_W_writePatch.2.1 68 = .ok (.invokevirtual 42, 3) := by decide +kernel
theorem d_W_writePatch_71 : decode um_W_writePatch.2.1 71 = .ok (.iinc 2 1, 3) := by decide +kernel
theorem d_W_writePatch_74 : decode um_W_writePatch.2.1 74 = .ok (.iload 4, 2) := by decide +kernel
theorem d_W_writePatch_76 : decode um_W_writePatch.2.1 76 = .ok (.iconst 1, 1) := by decide +kernel
theorem d_W_writePatch_77 : decode um_W_writePatch.2.1 77 = .ok (.iadd, 1) := by decide +kernel
theorem d_W_writePatch_78 : decode um_W_writePatch.2.1 78 = .ok (.istore_n 3, 1) := by decide +kernel
theorem d_W_writePatch_79 : decode um_W_writePatch.2.1 79 = .ok (.iinc 4 1, 3) := by decide +kernel
theorem d_W_writePatch_82 : decode um_W_writePatch.2.1 82 = .ok (.goto (-63), 3) := by decide +kernel
theorem d_W_writePatch_85 : decode um_W_writePatch.2.1 85 = .ok (.iload_n 2, 1) := by decide +kernel
theorem d_W_writePatch_86 : decode um_W_writePatch.2.1 86 = .ok (.ireturn, 1) := by decide +kernel
theorem d_W_findChanges_0 : decode um_W_findChanges.2.1 0 = .ok (.aload_n 0, 1) := by decide +kernel
theorem d_W_findChanges_1 : decode um_W_findChanges.2.1 1 = .ok (.iconst 0, 1) := by decide +kernel
theorem d_W_findChanges_2 : decode um_W_findChanges.2.1 2 = .ok (.putfield 35, 3) := by decide +kernel
theorem d_W_findChanges_5 : decode um_W_findChanges.2.1 5 = .ok (.iconst 0, 1) := by decide +kernel
theorem d_W_findChanges_6 : decode um_W_findChanges.2.1 6 = .ok (.istore_n 1, 1) := by decide +kernel
theorem d_W_findChanges_7 : decode um_W_findChanges.2.1 7 = .ok (.iconst 0, 1) := by decide +kernel
theorem d_W_findChanges_8 : decode um_W_findChanges.2.1 8 = .ok (.istore_n 2, 1) := by decide +kernel
theorem d_W_findChanges_9 : decode um_W_findChanges.2.1 9 = .ok (.iconst 0, 1) := by decide +kernel
theorem d_W_findChanges_10 : decode um_W_findChanges.2.1 10 = .ok (.istore_n 3, 1) := by decide +kernel
theorem d_W_findChanges_11 : decode um_W_findChanges.2.1 11 = .ok (.iload_n 3, 1) := by decide +kernel
theorem d_W_findChanges_12 : decode um_W_findChanges.2.1 12 = .ok (.aload_n 0, 1) := by decide +kernel
theorem d_W_findChanges_13 : decode um_W_findChanges.2.1 13 = .ok (.getfield 17, 3) := by decide +kernel
theorem d_W_findChanges_16 : decode um_W_findChanges.2.1 16 = .ok (.getfield 46, 3) := by decide +kernel
theorem d_W_findChanges_19 : decode um_W_findChanges.2.1 19 = .ok (.getfield 52, 3) := by decide +kernel
theorem d_W_findChanges_22 : decode um_W_findChanges.2.1 22 = .ok (.if_icmp .ge 44, 3) := by decide +kernel
theorem d_W_findChanges_25 : decode um_W_findChanges.2.1 25 = .ok (.aload_n 0, 1) := by decide +kernel
theorem d_W_findChanges_26 : decode um_W_findChanges.2.1 26 = .ok (.getfield 17, 3) := by decide +kernel
theorem d_W_findChanges_29 : decode um_W_findChanges.2.1 29 = .ok (.iload_n 3, 1) := by decide +kernel
theorem d_W_findChanges_30 : decode um_W_findChanges.2.1 30 = .ok (.invokevirtual 57, 3) := by decide +kernel
theorem d_W_findChanges_33 : decode um_W_findChanges.2.1 33 = .ok (.istore 4, 2) := by decide +kernel
theorem d_W_findChanges_35 : decode um_W_findChanges.2.1 35 = .ok (.iload 4, 2) := by decide +kernel
theorem d_W_findChanges_37 : decode um_W_findChanges.2.1 37 = .ok (.bipush (-3), 2) := by decide +kernel
theorem d_W_findChanges_39 : decode um_W_findChanges.2.1 39 = .ok (.if_icmp .eq 21, 3) := by decide +kernel
theorem d_W_findChanges_42 : decode um_W_findChanges.2.1 42 = .ok (.aload_n 0, 1) := by decide +kernel
theorem d_W_findChanges_43 : decode um_W_findChanges.2.1 43 = .ok (.iload_n 1, 1) := by decide +kernel
theorem d_W_findChanges_44 : decode um_W_findChanges.2.1 44 = .ok (.iload_n 3, 1) := by decide +kernel
theorem d_W_findChanges_45 : decode um_W_findChanges.2.1 45 = .ok (.iload_n 2, 1) := by decide +kernel
theorem d_W_findChanges_46 : decode um_W_findChanges.2.1 46 = .ok (.iload 4, 2) := by decide +kernel
theorem d_W_findChanges_48 : decode um_W_findChanges.2.1 48 = .ok (.invokevirtual 60, 3) := by decide +kernel
theorem d_W_findChanges_51 : decode um_W_findChanges.2.1 51 = .ok (.iload_n 3, 1) := by decide +kernel
theorem d_W_findChanges_52 : decode um_W_findChanges.2.1 52 = .ok (.iconst 1, 1) := by decide +kernel
theorem d_W_findChanges_53 : decode um_W_findChanges.2.1 53 = .ok (.iadd, 1) := by decide +kernel
theorem d_W_findChanges_54 : decode um_W_findChanges.2.1 54 = .ok (.istore_n 1, 1) := by decide +kernel
theorem d_W_findChanges_55 : decode um_W_findChanges.2.1 55 = .ok (.iload 4, 2) := by decide +kernel
theorem d_W_findChanges_57 : decode um_W_findChanges.2.1 57 = .ok (.iconst 1, 1) := by decide +kernel
theorem d_W_findChanges_58 : decode um_W_findChanges.2.1 58 = .ok (.iadd, 1) := by decide +kernel
theorem d_W_findChanges_59 : decode um_W_findChanges.2.1 59 = .ok (.istore_n 2, 1) := by decide +kernel
theorem d_W_findChanges_60 : decode um_W_findChanges.2.1 60 = .ok (.iinc 3 1, 3) := by decide +kernel
theorem d_W_findChanges_63 : decode um_W_findChanges.2.1 63 = .ok (.goto (-52), 3) := by decide +kernel
theorem d_W_findChanges_66 : decode um_W_findChanges.2.1 66 = .ok (.aload_n 0, 1) := by decide +kernel
theorem d_W_findChanges_67 : decode um_W_findChanges.2.1 67 = .ok (.iload_n 1, 1) := by decide +kernel
theorem d_W_findChanges_68 : decode um_W_findChanges.2.1 68 = .ok (.aload_n 0, 1) := by decide +kernel
theorem d_W_findChanges_69 : decode um_W_findChanges.2.1 69 = .ok (.getfield 17, 3) := by decide +kernel
theorem d_W_findChanges_72 : decode um_W_findChanges.2.1 72 = .ok (.getfield 46, 3) := by decide +kernel
theorem d_W_findChanges_75 : decode um_W_findChanges.2.1 75 = .ok (.getfield 52, 3) := by decide +kernel
theorem d_W_findChanges_78 : decode um_W_findChanges.2.1 78 = .ok (.iload_n 2, 1) := by decide +kernel
theorem d_W_findChanges_79 : decode um_W_findChanges.2.1 79 = .ok (.aload_n 0, 1) := by decide +kernel
theorem d_W_findChanges_80 : decode um_W_findChanges.2.1 80 = .ok (.getfield 17, 3) := by decide +kernel
theorem d_W_findChanges_83 : decode um_W_findChanges.2.1 83 = .ok (.getfield 64, 3) := by decide +kernel
theorem d_W_findChanges_86 : decode um_W_findChanges.2.1 86 = .ok (.getfield 52, 3) := by decide +kernel
theorem d_W_findChanges_89 : decode um_W_findChanges.2.1 89 = .ok (.invokevirtual 60, 3) := by decide +kernel
theorem d_W_findChanges_92 : decode um_W_findChanges.2.1 92 = .ok (.return_, 1) := by decide +kernel
theorem d_W_keepChange_0 : decode um_W_keepChange.2.1 0 = .ok (.iload_n 1, 1) := by decide +kernel
theorem d_W_keepChange_1 : decode um_W_keepChange.2.1 1 = .ok (.iload_n 2, 1) := by decide +kernel
theorem d_W_keepChange_2 : decode um_W_keepChange.2.1 2 = .ok (.if_icmp .lt 9, 3) := by decide +kernel
theorem d_W_keepChange_5 : decode um_W_keepChange.2.1 5 = .ok (.iload_n 3, 1) := by decide +kernel
theorem d_W_keepChange_6 : decode um_W_keepChange.2.1 6 = .ok (.iload 4, 2) := by decide +kernel
theorem d_W_keepChange_8 : decode um_W_keepChange.2.1 8 = .ok (.if_icmp .ge 39, 3) := by decide +kernel
theorem d_W_keepChange_11 : decode um_W_keepChange.2.1 11 = .ok (.aload_n 0, 1) := by decide +kernel
theorem d_W_keepChange_12 : decode um_W_keepChange.2.1 12 = .ok (.getfield 35, 3) := by decide +kernel
theorem d_W_keepChange_15 : decode um_W_keepChange.2.1 15 = .ok (.bipush 25, 2) := by decide +kernel
theorem d_W_keepChange_17 : decode um_W_keepChange.2.1 17 = .ok (.if_icmp .ge 30, 3) := by decide +kernel
theorem d_W_keepChange_20 : decode um_W_keepChange.2.1 20 = .ok (.aload_n 0, 1) := by decide +kernel
theorem d_W_keepChange_21 : decode um_W_keepChange.2.1 21 = .ok (.getfield 13, 3) := by decide +kernel
theorem d_W_keepChange_24 : decode um_W_keepChange.2.1 24 = .ok (.aload_n 0, 1) := by decide +kernel
theorem d_W_keepChange_25 : decode um_W_keepChange.2.1 25 = .ok (.getfield 35, 3) := by decide +kernel
theorem d_W_keepChange_28 : decode um_W_keepChange.2.1 28 = .ok (.aaload, 1) := by decide +kernel
theorem d_W_keepChange_29 : decode um_W_keepChange.2.1 29 = .ok (.iload_n 1, 1) := by decide +kernel
theorem d_W_keepChange_30 : decode um_W_keepChange.2.1 30 = .ok (.iload_n 2, 1) := by decide +kernel
theorem d_W_keepChange_31 : decode um_W_keepChange.2.1 31 = .ok (.iload_n 3, 1) := by decide +kernel
theorem d_W_keepChange_32 : decode um_W_keepChange.2.1 32 = .ok (.iload 4, 2) := by decide +kernel
theorem d_W_keepChange_34 : decode um_W_keepChange.2.1 34 = .ok (.invokevirtual 67, 3) := by decide +kernel
theorem d_W_keepChange_37 : decode um_W_keepChange.2.1 37 = .ok (.aload_n 0, 1) := by decide +kernel
theorem d_W_keepChange_38 : decode um_W_keepChange.2.1 38 = .ok (.dup, 1) := by decide +kernel
theorem d_W_keepChange_39 : decode um_W_keepChange.2.1 39 = .ok (.getfield 35, 3) := by decide +kernel
theorem d_W_keepChange_42 : decode um_W_keepChange.2.1 42 = .ok (.iconst 1, 1) := by decide +kernel
theorem d_W_keepChange_43 : decode um_W_keepChange.2.1 43 = .ok (.iadd, 1) := by decide +kernel
theorem d_W_keepChange_44 : decode um_W_keepChange.2.1 44 = .ok (.putfield 35, 3) := by decide +kernel
theorem d_W_keepChange_47 : decode um_W_keepChange.2.1 47 = .ok (.return_, 1) := by decide +kernel
theorem d_W_matchedBefore_0 : decode um_W_matchedBefore.2.1 0 = .ok (.aload_n 0, 1) := by decide +kernel
theorem d_W_matchedBefore_1 : decode um_W_matchedBefore.2.1 1 = .ok (.getfield 13, 3) := by decide +kernel
theorem d_W_matchedBefore_4 : decode um_W_matchedBefore.2.1 4 = .ok (.iload_n 1, 1) := by decide +kernel
theorem d_W_matchedBefore_5 : decode um_W_matchedBefore.2.1 5 = .ok (.aaload, 1) := by decide +kernel
theorem d_W_matchedBefore_6 : decode um_W_matchedBefore.2.1 6 = .ok (.getfield 70, 3) := by decide +kernel
theorem d_W_matchedBefore_9 : decode um_W_matchedBefore.2.1 9 = .ok (.iload_n 1, 1) := by decide +kernel
theorem d_W_matchedBefore_10 : decode um_W_matchedBefore.2.1 10 = .ok (.ifCond .le 17, 3) := by decide +kernel
theorem d_W_matchedBefore_13 : decode um_W_matchedBefore.2.1 13 = .ok (.aload_n 0, 1) := by decide +kernel
theorem d_W_matchedBefore_14 : decode um_W_matchedBefore.2.1 14 = .ok (.getfield 13, 3) := by decide +kernel
theorem d_W_matchedBefore_17 : decode um_W_matchedBefore.2.1 17 = .ok (.iload_n 1, 1) := by decide +kernel
theorem d_W_matchedBefore_18 : decode um_W_matchedBefore.2.1 18 = .ok (.iconst 1, 1) := by decide +kernel
theorem d_W_matchedBefore_19 : decode um_W_matchedBefore.2.1 19 = .ok (.isub, 1) := by decide +kernel
theorem d_W_matchedBefore_20 : decode um_W_matchedBefore.2.1 20 = .ok (.aaload, 1) := by decide +kernel
theorem d_W_matchedBefore_21 : decode um_W_matchedBefore.2.1 21 = .ok (.getfield 72, 3) := by decide +kernel
theorem d_W_matchedBefore_24 : decode um_W_matchedBefore.2.1 24 = .ok (.goto 4, 3) := by decide +kernel
theorem d_W_matchedBefore_27 : decode um_W_matchedBefore.2.1 27 = .ok (.iconst 0, 1) := by decide +kernel
theorem d_W_matchedBefore_28 : decode um_W_matchedBefore.2.1 28 = .ok (.isub, 1) := by decide +kernel
theorem d_W_matchedBefore_29 : decode um_W_matchedBefore.2.1 29 = .ok (.ireturn, 1) := by decide +kernel
theorem d_W_matchedBehind_0 : decode um_W_matchedBehind.2.1 0 = .ok (.iload_n 1, 1) := by decide +kernel
theorem d_W_matchedBehind_1 : decode um_W_matchedBehind.2.1 1 = .ok (.aload_n 0, 1) := by decide +kernel
theorem d_W_matchedBehind_2 : decode um_W_matchedBehind.2.1 2 = .ok (.getfield 35, 3) := by decide +kernel
theorem d_W_matchedBehind_5 : decode um_W_matchedBehind.2.1 5 = .ok (.iconst 1, 1) := by decide +kernel
theorem d_W_matchedBehind_6 : decode um_W_matchedBehind.2.1 6 = .ok (.isub, 1) := by decide +kernel
theorem d_W_matchedBehind_7 : decode um_W_matchedBehind.2.1 7 = .ok (.if_icmp .ne 7, 3) := by decide +kernel
theorem d_W_matchedBehind_10 : decode um_W_matchedBehind.2.1 10 = .ok (.iconst 1, 1) := by decide +kernel
theorem d_W_matchedBehind_11 : decode um_W_matchedBehind.2.1 11 = .ok (.goto 4, 3) := by decide +kernel
theorem d_W_matchedBehind_14 : decode um_W_matchedBehind.2.1 14 = .ok (.iconst 0, 1) := by decide +kernel
theorem d_W_matchedBehind_15 : decode um_W_matchedBehind.2.1 15 = .ok (.istore_n 2, 1) := by decide +kernel
theorem d_W_matchedBehind_16 : decode um_W_matchedBehind.2.1 16 = .ok (.iload_n 2, 1) := by decide +kernel
theorem d_W_matchedBehind_17 : decode um_W_matchedBehind.2.1 17 = .ok (.ifCond .eq 16, 3) := by decide +kernel
theorem d_W_matchedBehind_20 : decode um_W_matchedBehind.2.1 20 = .ok (.aload_n 0, 1) := by decide +kernel
theorem d_W_matchedBehind_21 : decode um_W_matchedBehind.2.1 21 = .ok (.getfield 17, 3) := by decide +kernel
theorem d_W_matchedBehind_24 : decode um_W_matchedBehind.2.1 24 = .ok (.getfield 46, 3) := by decide +kernel
theorem d_W_matchedBehind_27 : decode um_W_matchedBehind.2.1 27 = .ok (.getfield 52, 3) := by decide +kernel
theorem d_W_matchedBehind_30 : decode um_W_matchedBehind.2.1 30 = .ok (.goto 14, 3) := by decide +kernel
theorem d_W_matchedBehind_33 : decode um_W_matchedBehind.2.1 33 = .ok (.aload_n 0, 1) := by decide +kernel
theorem d_W_matchedBehind_34 : decode um_W_matchedBehind.2.1 34 = .ok (.getfield 13, 3) := by decide +kernel
theorem d_W_matchedBehind_37 : decode um_W_matchedBehind.2.1 37 = .ok (.iload_n 1, 1) := by decide +kernel
theorem d_W_matchedBehind_38 : decode um_W_matchedBehind.2.1 38 = .ok (.iconst 1, 1) := by decide +kernel
theorem d_W_matchedBehind_39 : decode um_W_matchedBehind.2.1 39 = .ok (.iadd, 1) := by decide +kernel
theorem d_W_matchedBehind_40 : decode um_W_matchedBehind.2.1 40 = .ok (.aaload, 1) := by decide +kernel
theorem d_W_matchedBehind_41 : decode um_W_matchedBehind.2.1 41 = .ok (.getfield 70, 3) := by decide +kernel
theorem d_W_matchedBehind_44 : decode um_W_matchedBehind.2.1 44 = .ok (.istore_n 3, 1) := by decide +kernel
theorem d_W_matchedBehind_45 : decode um_W_matchedBehind.2.1 45 = .ok (.iload_n 3, 1) := by decide +kernel
theorem d_W_matchedBehind_46 : decode um_W_matchedBehind.2.1 46 = .ok (.aload_n 0, 1) := by decide +kernel
theorem d_W_matchedBehind_47 : decode um_W_matchedBehind.2.1 47 = .ok (.getfield 13, 3) := by decide +kernel
theorem d_W_matchedBehind_50 : decode um_W_matchedBehind.2.1 50 = .ok (.iload_n 1, 1) := by decide +kernel
theorem d_W_matchedBehind_51 : decode um_W_matchedBehind.2.1 51 = .ok (.aaload, 1) := by decide +kernel
theorem d_W_matchedBehind_52 : decode um_W_matchedBehind.2.1 52 = .ok (.getfield 72, 3) := by decide +kernel
theorem d_W_matchedBehind_55 : decode um_W_matchedBehind.2.1 55 = .ok (.isub, 1) := by decide +kernel
theorem d_W_matchedBehind_56 : decode um_W_matchedBehind.2.1 56 = .ok (.ireturn, 1) := by decide +kernel
theorem d_W_writeHunk_0 : decode um_W_writeHunk.2.1 0 = .ok (.iload_n 3, 1) := by decide +kernel
theorem d_W_writeHunk_1 : decode um_W_writeHunk.2.1 1 = .ok (.aload_n 0, 1) := by decide +kernel
theorem d_W_writeHunk_2 : decode um_W_writeHunk.2.1 2 = .ok (.iload_n 1, 1) := by decide +kernel
theorem d_W_writeHunk_3 : decode um_W_writeHunk.2.1 3 = .ok (.invokevirtual 75, 3) := by decide +kernel
theorem d_W_writeHunk_6 : decode um_W_writeHunk.2.1 6 = .ok (.invokestatic 78, 3) := by decide +kernel
theorem d_W_writeHunk_9 : decode um_W_writeHunk.2.1 9 = .ok (.istore 4, 2) := by decide +kernel
theorem d_W_writeHunk_11 : decode um_W_writeHunk.2.1 11 = .ok (.iload_n 3, 1) := by decide +kernel
theorem d_W_writeHunk_12 : decode um_W_writeHunk.2.1 12 = .ok (.aload_n 0, 1) := by decide +kernel
theorem d_W_writeHunk_13 : decode um_W_writeHunk.2.1 13 = .ok (.iload_n 2, 1) := by decide +kernel
theorem d_W_writeHunk_14 : decode um_W_writeHunk.2.1 14 = .ok (.invokevirtual 38, 3) := by decide +kernel
theorem d_W_writeHunk_17 : decode um_W_writeHunk.2.1 17 = .ok (.invokestatic 78, 3) := by decide +kernel
theorem d_W_writeHunk_20 : decode um_W_writeHunk.2.1 20 = .ok (.istore 5, 2) := by decide +kernel
theorem d_W_writeHunk_22 : decode um_W_writeHunk.2.1 22 = .ok (.aload_n 0, 1) := by decide +kernel
theorem d_W_writeHunk_23 : decode um_W_writeHunk.2.1 23 = .ok (.getfield 13, 3) := by decide +kernel
theorem d_W_writeHunk_26 : decode um_W_writeHunk.2.1 26 = .ok (.iload_n 1, 1) := by decide +kernel
theorem d_W_writeHunk_27 : decode um_W_writeHunk.2.1 27 = .ok (.aaload, 1) := by decide +kernel
theorem d_W_writeHunk_28 : decode um_W_writeHunk.2.1 28 = .ok (.getfield 70, 3) := by decide +kernel
theorem d_W_writeHunk_31 : decode um_W_writeHunk.2.1 31 = .ok (.iload 4, 2) := by decide +kernel
theorem d_W_writeHunk_33 : decode um_W_writeHunk.2.1 33 = .ok (.isub, 1) := by decide +kernel
theorem d_W_writeHunk_34 : decode um_W_writeHunk.2.1 34 = .ok (.istore 6, 2) := by decide +kernel
theorem d_W_writeHunk_36 : decode um_W_writeHunk.2.1 36 = .ok (.aload_n 0, 1) := by decide +kernel
theorem d_W_writeHunk_37 : decode um_W_writeHunk.2.1 37 = .ok (.getfield 13, 3) := by decide +kernel
theorem d_W_writeHunk_40 : decode um_W_writeHunk.2.1 40 = .ok (.iload_n 1, 1) := by decide +kernel
theorem d_W_writeHunk_41 : decode um_W_writeHunk.2.1 41 = .ok (.aaload, 1) := by decide +kernel
theorem d_W_writeHunk_42 : decode um_W_writeHunk.2.1 42 = .ok (.getfield 84, 3) := by decide +kernel
theorem d_W_writeHunk_45 : decode um_W_writeHunk.2.1 45 = .ok (.iload 4, 2) := by decide +kernel
theorem d_W_writeHunk_47 : decode um_W_writeHunk.2.1 47 = .ok (.isub, 1) := by decide +kernel
theorem d_W_writeHunk_48 : decode um_W_writeHunk.2.1 48 = .ok (.istore 7, 2) := by decide +kernel
theorem d_W_writeHunk_50 : decode um_W_writeHunk.2.1 50 = .ok (.aload_n 0, 1) := by decide +kernel
theorem d_W_writeHunk_51 : decode um_W_writeHunk.2.1 51 = .ok (.iload 6, 2) := by decide +kernel
theorem d_W_writeHunk_53 : decode um_W_writeHunk.2.1 53 = .ok (.aload_n 0, 1) := by decide +kernel
theorem d_W_writeHunk_54 : decode um_W_writeHunk.2.1 54 = .ok (.getfield 13, 3) := by decide +kernel
theorem d_W_writeHunk_57 : decode um_W_writeHunk.2.1 57 = .ok (.iload_n 2, 1) := by decide +kernel
theorem d_W_writeHunk_58 : decode um_W_writeHunk.2.1 58 = .ok (.aaload, 1) := by decide +kernel
theorem d_W_writeHunk_59 : decode um_W_writeHunk.2.1 59 = .ok (.getfield 72, 3) := by decide +kernel
theorem d_W_writeHunk_62 : decode um_W_writeHunk.2.1 62 = .ok (.iload 5, 2) := by decide +kernel
theorem d_W_writeHunk_64 : decode um_W_writeHunk.2.1 64 = .ok (.iadd, 1) := by decide +kernel
theorem d_W_writeHunk_65 : decode um_W_writeHunk.2.1 65 = .ok (.iload 6, 2) := by decide +kernel
theorem d_W_writeHunk_67 : decode um_W_writeHunk.2.1 67 = .ok (.isub, 1) := by decide +kernel
theorem d_W_writeHunk_68 : decode um_W_writeHunk.2.1 68 = .ok (.iload 7, 2) := by decide +kernel
theorem d_W_writeHunk_70 : decode um_W_writeHunk.2.1 70 = .ok (.aload_n 0, 1) := by decide +kernel
theorem d_W_writeHunk_71 : decode um_W_writeHunk.2.1 71 = .ok (.getfield 13, 3) := by decide +kernel
theorem d_W_writeHunk_74 : decode um_W_writeHunk.2.1 74 = .ok (.iload_n 2, 1) := by decide +kernel
theorem d_W_writeHunk_75 : decode um_W_writeHunk.2.1 75 = .ok (.aaload, 1) := by decide +kernel
theorem d_W_writeHunk_76 : decode um_W_writeHunk.2.1 76 = .ok (.getfield 86, 3) := by decide +kernel
theorem d_W_writeHunk_79 : decode um_W_writeHunk.2.1 79 = .ok (.iload 5, 2) := by decide +kernel
theorem d_W_writeHunk_81 : decode um_W_writeHunk.2.1 81 = .ok (.iadd, 1) := by decide +kernel
theorem d_W_writeHunk_82 : decode um_W_writeHunk.2.1 82 = .ok (.iload 7, 2) := by decide +kernel
theorem d_W_writeHunk_84 : decode um_W_writeHunk.2.1 84 = .ok (.isub, 1) := by decide +kernel
theorem d_W_writeHunk_85 : decode um_W_writeHunk.2.1 85 = .ok (.invokevirtual 89, 3) := by decide +kernel
theorem d_W_writeHunk_88 : decode um_W_writeHunk.2.1 88 = .ok (.aload_n 0, 1) := by decide +kernel
theorem d_W_writeHunk_89 : decode um_W_writeHunk.2.1 89 = .ok (.bipush 32, 2) := by decide +kernel
theorem d_W_writeHunk_91 : decode um_W_writeHunk.2.1 91 = .ok (.aload_n 0, 1) := by decide +kernel
theorem d_W_writeHunk_92 : decode um_W_writeHunk.2.1 92 = .ok (.getfield 17, 3) := by decide +kernel
theorem d_W_writeHunk_95 : decode um_W_writeHunk.2.1 95 = .ok (.getfield 46, 3) := by decide +kernel
theorem d_W_writeHunk_98 : decode um_W_writeHunk.2.1 98 = .ok (.iload 6, 2) := by decide +kernel
theorem d_W_writeHunk_100 : decode um_W_writeHunk.2.1 100 = .ok (.aload_n 0, 1) := by decide +kernel
theorem d_W_writeHunk_101 : decode um_W_writeHunk.2.1 101 = .ok (.getfield 13, 3) := by decide +kernel
theorem d_W_writeHunk_104 : decode um_W_writeHunk.2.1 104 = .ok (.iload_n 1, 1) := by decide +kernel
theorem d_W_writeHunk_105 : decode um_W_writeHunk.2.1 105 = .ok (.aaload, 1) := by decide +kernel
theorem d_W_writeHunk_106 : decode um_W_writeHunk.2.1 106 = .ok (.getfield 70, 3) := by decide +kernel
theorem d_W_writeHunk_109 : decode um_W_writeHunk.2.1 109 = .ok (.invokevirtual 92, 3) := by decide +kernel
theorem d_W_writeHunk_112 : decode um_W_writeHunk.2.1 112 = .ok (.iload_n 1, 1) := by decide +kernel
theorem d_W_writeHunk_113 : decode um_W_writeHunk.2.1 113 = .ok (.istore 8, 2) := by decide +kernel
theorem d_W_writeHunk_115 : decode um_W_writeHunk.2.1 115 = .ok (.iload 8, 2) := by decide +kernel
theorem d_W_writeHunk_117 : decode um_W_writeHunk.2.1 117 = .ok (.iload_n 2, 1) := by decide +kernel
theorem d_W_writeHunk_118 : decode um_W_writeHunk.2.1 118 = .ok (.if_icmp .gt 109, 3) := by decide +kernel
theorem d_W_writeHunk_121 : decode um_W_writeHunk.2.1 121 = .ok (.aload_n 0, 1) := by decide +kernel
theorem d_W_writeHunk_122 : decode um_W_writeHunk.2.1 122 = .ok (.getfield 13, 3) := by decide +kernel
theorem d_W_writeHunk_125 : decode um_W_writeHunk.2.1 125 = .ok (.iload 8, 2) := by decide +kernel
theorem d_W_writeHunk_127 : decode um_W_writeHunk.2.1 127 = .ok (.aaload, 1) := by decide +kernel
theorem d_W_writeHunk_128 : decode um_W_writeHunk.2.1 128 = .ok (.astore 9, 2) := by decide +kernel
theorem d_W_writeHunk_130 : decode um_W_writeHunk.2.1 130 = .ok (.aload_n 0, 1) := by decide +kernel
theorem d_W_writeHunk_131 : decode um_W_writeHunk.2.1 131 = .ok (.bipush 45, 2) := by decide +kernel
theorem d_W_writeHunk_133 : decode um_W_writeHunk.2.1 133 = .ok (.aload_n 0, 1) := by decide +kernel
theorem d_W_writeHunk_134 : decode um_W_writeHunk.2.1 134 = .ok (.getfield 17, 3) := by decide +kernel
theorem d_W_writeHunk_137 : decode um_W_writeHunk.2.1 137 = .ok (.getfield 46, 3) := by decide +kernel
theorem d_W_writeHunk_140 : decode um_W_writeHunk.2.1 140 = .ok (.aload 9, 2) := by decide +kernel
theorem d_W_writeHunk_142 : decode um_W_writeHunk.2.1 142 = .ok (.getfield 70, 3) := by decide +kernel
theorem d_W_writeHunk_145 : decode um_W_writeHunk.2.1 145 = .ok (.aload 9, 2) := by decide +kernel
theorem d_W_writeHunk_147 : decode um_W_writeHunk.2.1 147 = .ok (.getfield 72, 3) := by decide +kernel
theorem d_W_writeHunk_150 : decode um_W_writeHunk.2.1 150 = .ok (.invokevirtual 92, 3) := by decide +kernel
theorem d_W_writeHunk_153 : decode um_W_writeHunk.2.1 153 = .ok (.aload_n 0, 1) := by decide +kernel
theorem d_W_writeHunk_154 : decode um_W_writeHunk.2.1 154 = .ok (.bipush 43, 2) := by decide +kernel
theorem d_W_writeHunk_156 : decode um_W_writeHunk.2.1 156 = .ok (.aload_n 0, 1) := by decide +kernel
theorem d_W_writeHunk_157 : decode um_W_writeHunk.2.1 157 = .ok (.getfield 17, 3) := by decide +kernel
theorem d_W_writeHunk_160 : decode um_W_writeHunk.2.1 160 = .ok (.getfield 64, 3) := by decide +kernel
theorem d_W_writeHunk_163 : decode um_W_writeHunk.2.1 163 = .ok (.aload 9, 2) := by decide +kernel
theorem d_W_writeHunk_165 : decode um_W_writeHunk.2.1 165 = .ok (.getfield 84, 3) := by decide +kernel
theorem d_W_writeHunk_168 : decode um_W_writeHunk.2.1 168 = .ok (.aload 9, 2) := by decide +kernel
theorem d_W_writeHunk_170 : decode um_W_writeHunk.2.1 170 = .ok (.getfield 86, 3) := by decide +kernel
theorem d_W_writeHunk_173 : decode um_W_writeHunk.2.1 173 = .ok (.invokevirtual 92, 3) := by decide +kernel
theorem d_W_writeHunk_176 : decode um_W_writeHunk.2.1 176 = .ok (.iload 8, 2) := by decide +kernel
theorem d_W_writeHunk_178 : decode um_W_writeHunk.2.1 178 = .ok (.iload_n 2, 1) := by decide +kernel
theorem d_W_writeHunk_179 : decode um_W_writeHunk.2.1 179 = .ok (.if_icmp .ne 8, 3) := by decide +kernel
theorem d_W_writeHunk_182 : decode um_W_writeHunk.2.1 182 = .ok (.iload 5, 2) := by decide +kernel
theorem d_W_writeHunk_184 : decode um_W_writeHunk.2.1 184 = .ok (.goto 9, 3) := by decide +kernel
theorem d_W_writeHunk_187 : decode um_W_writeHunk.2.1 187 = .ok (.aload_n 0, 1) := by decide +kernel
theorem d_W_writeHunk_188 : decode um_W_writeHunk.2.1 188 = .ok (.iload 8, 2) := by decide +kernel
theorem d_W_writeHunk_190 : decode um_W_writeHunk.2.1 190 = .ok (.invokevirtual 38, 3) := by decide +kernel
theorem d_W_writeHunk_193 : decode um_W_writeHunk.2.1 193 = .ok (.istore 10, 2) := by decide +kernel
theorem d_W_writeHunk_195 : decode um_W_writeHunk.2.1 195 = .ok (.aload_n 0, 1) := by decide +kernel
theorem d_W_writeHunk_196 : decode um_W_writeHunk.2.1 196 = .ok (.bipush 32, 2) := by decide +kernel
theorem d_W_writeHunk_198 : decode um_W_writeHunk.2.1 198 = .ok (.aload_n 0, 1) := by decide +kernel
theorem d_W_writeHunk_199 : decode um_W_writeHunk.2.1 199 = .ok (.getfield 17, 3) := by decide +kernel
theorem d_W_writeHunk_202 : decode um_W_writeHunk.2.1 202 = .ok (.getfield 46, 3) := by decide +kernel
theorem d_W_writeHunk_205 : decode um_W_writeHunk.2.1 205 = .ok (.aload 9, 2) := by decide +kernel
theorem d_W_writeHunk_207 : decode um_W_writeHunk.2.1 207 = .ok (.getfield 72, 3) := by decide +kernel
theorem d_W_writeHunk_210 : decode um_W_writeHunk.2.1 210 = .ok (.aload 9, 2) := by decide +kernel
theorem d_W_writeHunk_212 : decode um_W_writeHunk.2.1 212 = .ok (.getfield 72, 3) := by decide +kernel
theorem d_W_writeHunk_215 : decode um_W_writeHunk.2.1 215 = .ok (.iload 10, 2) := by decide +kernel
theorem d_W_writeHunk_217 : decode um_W_writeHunk.2.1 217 = .ok (.iadd, 1) := by decide +kernel
theorem d_W_writeHunk_218 : decode um_W_writeHunk.2.1 218 = .ok (.invokevirtual 92, 3) := by decide +kernel
theorem d_W_writeHunk_221 : decode um_W_writeHunk.2.1 221 = .ok (.iinc 8 1, 3) := by decide +kernel
theorem d_W_writeHunk_224 : decode um_W_writeHunk.2.1 224 = .ok (.goto (-109), 3) := by decide +kernel
theorem d_W_writeHunk_227 : decode um_W_writeHunk.2.1 227 = .ok (.return_, 1) := by decide +kernel
theorem d_W_writeHead_0 : decode um_W_writeHead.2.1 0 = .ok (.aload_n 0, 1) := by decide +kernel
theorem d_W_writeHead_1 : decode um_W_writeHead.2.1 1 = .ok (.getfield 21, 3) := by decide +kernel
theorem d_W_writeHead_4 : decode um_W_writeHead.2.1 4 = .ok (.bipush 64, 2) := by decide +kernel
theorem d_W_writeHead_6 : decode um_W_writeHead.2.1 6 = .ok (.invokevirtual 96, 3) := by decide +kernel
theorem d_W_writeHead_9 : decode um_W_writeHead.2.1 9 = .ok (.aload_n 0, 1) := by decide +kernel
theorem d_W_writeHead_10 : decode um_W_writeHead.2.1 10 = .ok (.getfield 21, 3) := by decide +kernel
theorem d_W_writeHead_13 : decode um_W_writeHead.2.1 13 = .ok (.iload_n 1, 1) := by decide +kernel
theorem d_W_writeHead_14 : decode um_W_writeHead.2.1 14 = .ok (.invokevirtual 100, 3) := by decide +kernel
theorem d_W_writeHead_17 : decode um_W_writeHead.2.1 17 = .ok (.aload_n 0, 1) := by decide +kernel
theorem d_W_writeHead_18 : decode um_W_writeHead.2.1 18 = .ok (.getfield 21, 3) := by decide +kernel
theorem d_W_writeHead_21 : decode um_W_writeHead.2.1 21 = .ok (.bipush 44, 2) := by decide +kernel
theorem d_W_writeHead_23 : decode um_W_writeHead.2.1 23 = .ok (.invokevirtual 96, 3) := by decide +kernel
theorem d_W_writeHead_26 : decode um_W_writeHead.2.1 26 = .ok (.aload_n 0, 1) := by decide +kernel
theorem d_W_writeHead_27 : decode um_W_writeHead.2.1 27 = .ok (.getfield 21, 3) := by decide +kernel
theorem d_W_writeHead_30 : decode um_W_writeHead.2.1 30 = .ok (.iload_n 2, 1) := by decide +kernel
theorem d_W_writeHead_31 : decode um_W_writeHead.2.1 31 = .ok (.invokevirtual 100, 3) := by decide +kernel
theorem d_W_writeHead_34 : decode um_W_writeHead.2.1 34 = .ok (.aload_n 0, 1) := by decide +kernel
theorem d_W_writeHead_35 : decode um_W_writeHead.2.1 35 = .ok (.getfield 21, 3) := by decide +kernel
theorem d_W_writeHead_38 : decode um_W_writeHead.2.1 38 = .ok (.bipush 32, 2) := by decide +kernel
theorem d_W_writeHead_40 : decode um_W_writeHead.2.1 40 = .ok (.invokevirtual 96, 3) := by decide +kernel
theorem d_W_writeHead_43 : decode um_W_writeHead.2.1 43 = .ok (.aload_n 0, 1) := by decide +kernel
theorem d_W_writeHead_44 : decode um_W_writeHead.2.1 44 = .ok (.getfield 21, 3) := by decide +kernel
theorem d_W_writeHead_47 : decode um_W_writeHead.2.1 47 = .ok (.iload_n 3, 1) := by decide +kernel
theorem d_W_writeHead_48 : decode um_W_writeHead.2.1 48 = .ok (.invokevirtual 100, 3) := by decide +kernel
theorem d_W_writeHead_51 : decode um_W_writeHead.2.1 51 = .ok (.aload_n 0, 1) := by decide +kernel
theorem d_W_writeHead_52 : decode um_W_writeHead.2.1 52 = .ok (.getfield 21, 3) := by decide +kernel
theorem d_W_writeHead_55 : decode um_W_writeHead.2.1 55 = .ok (.bipush 44, 2) := by decide +kernel
theorem d_W_writeHead_57 : decode um_W_writeHead.2.1 57 = .ok (.invokevirtual 96, 3) := by decide +kernel
theorem d_W_writeHead_60 : decode um_W_writeHead.2.1 60 = .ok (.aload_n 0, 1) := by decide +kernel
theorem d_W_writeHead_61 : decode um_W_writeHead.2.1 61 = .ok (.getfield 21, 3) := by decide +kernel
theorem d_W_writeHead_64 : decode um_W_writeHead.2.1 64 = .ok (.iload 4, 2) := by decide +kernel
theorem d_W_writeHead_66 : decode um_W_writeHead.2.1 66 = .ok (.invokevirtual 100, 3) := by decide +kernel
theorem d_W_writeHead_69 : decode um_W_writeHead.2.1 69 = .ok (.aload_n 0, 1) := by decide +kernel
theorem d_W_writeHead_70 : decode um_W_writeHead.2.1 70 = .ok (.getfield 21, 3) := by decide +kernel
theorem d_W_writeHead_73 : decode um_W_writeHead.2.1 73 = .ok (.bipush 10, 2) := by decide +kernel
theorem d_W_writeHead_75 : decode um_W_writeHead.2.1 75 = .ok (.invokevirtual 96, 3) := by decide +kernel
theorem d_W_writeHead_78 : decode um_W_writeHead.2.1 78 = .ok (.return_, 1) := by decide +kernel
theorem d_W_writeLines_0 : decode um_W_writeLines.2.1 0 = .ok (.iload_n 3, 1) := by decide +kernel
theorem d_W_writeLines_1 : decode um_W_writeLines.2.1 1 = .ok (.istore 5, 2) := by decide +kernel
theorem d_W_writeLines_3 : decode um_W_writeLines.2.1 3 = .ok (.iload 5, 2) := by decide +kernel
theorem d_W_writeLines_5 : decode um_W_writeLines.2.1 5 = .ok (.iload 4, 2) := by decide +kernel
theorem d_W_writeLines_7 : decode um_W_writeLines.2.1 7 = .ok (.if_icmp .ge 24, 3) := by decide +kernel
theorem d_W_writeLines_10 : decode um_W_writeLines.2.1 10 = .ok (.aload_n 0, 1) := by decide +kernel
theorem d_W_writeLines_11 : decode um_W_writeLines.2.1 11 = .ok (.getfield 21, 3) := by decide +kernel
theorem d_W_writeLines_14 : decode um_W_writeLines.2.1 14 = .ok (.iload_n 1, 1) := by decide +kernel
theorem d_W_writeLines_15 : decode um_W_writeLines.2.1 15 = .ok (.aload_n 2, 1) := by decide +kernel
theorem d_W_writeLines_16 : decode um_W_writeLines.2.1 16 = .ok (.getfield 103, 3) := by decide +kernel
theorem d_W_writeLines_19 : decode um_W_writeLines.2.1 19 = .ok (.iload 5, 2) := by decide +kernel
theorem d_W_writeLines_21 : decode um_W_writeLines.2.1 21 = .ok (.iaload, 1) := by decide +kernel
theorem d_W_writeLines_22 : decode um_W_writeLines.2.1 22 = .ok (.invokevirtual 107, 3) := by decide +kernel
theorem d_W_writeLines_25 : decode um_W_writeLines.2.1 25 = .ok (.iinc 5 1, 3) := by decide +kernel
theorem d_W_writeLines_28 : decode um_W_writeLines.2.1 28 = .ok (.goto (-25), 3) := by decide +kernel
theorem d_W_writeLines_31 : decode um_W_writeLines.2.1 31 = .ok (.return_, 1) := by decide +kernel
theorem d_D_init_0 : decode um_D_init.2.1 0 = .ok (.aload_n 0, 1) := by decide +kernel
theorem d_D_init_1 : decode um_D_init.2.1 1 = .ok (.invokespecial 3, 3) := by decide +kernel
theorem d_D_init_4 : decode um_D_init.2.1 4 = .ok (.aload_n 0, 1) := by decide +kernel
theorem d_D_init_5 : decode um_D_init.2.1 5 = .ok (.bipush 99, 2) := by decide +kernel
theorem d_D_init_7 : decode um_D_init.2.1 7 = .ok (.newarray .int, 2) := by decide +kernel
theorem d_D_init_9 : decode um_D_init.2.1 9 = .ok (.putfield 11, 3) := by decide +kernel
theorem d_D_init_12 : decode um_D_init.2.1 12 = .ok (.aload_n 0, 1) := by decide +kernel
theorem d_D_init_13 : decode um_D_init.2.1 13 = .ok (.bipush 99, 2) := by decide +kernel
theorem d_D_init_15 : decode um_D_init.2.1 15 = .ok (.newarray .int, 2) := by decide +kernel
theorem d_D_init_17 : decode um_D_init.2.1 17 = .ok (.putfield 15, 3) := by decide +kernel
theorem d_D_init_20 : decode um_D_init.2.1 20 = .ok (.aload_n 0, 1) := by decide +kernel
theorem d_D_init_21 : decode um_D_init.2.1 21 = .ok (.aload_n 1, 1) := by decide +kernel
theorem d_D_init_22 : decode um_D_init.2.1 22 = .ok (.putfield 18, 3) := by decide +kernel
theorem d_D_init_25 : decode um_D_init.2.1 25 = .ok (.return_, 1) := by decide +kernel
theorem d_D_placeOfFailure_0 : decode um_D_placeOfFailure.2.1 0 = .ok (.aload_n 0, 1) := by decide +kernel
theorem d_D_placeOfFailure_1 : decode um_D_placeOfFailure.2.1 1 = .ok (.invokevirtual 22, 3) := by decide +kernel
theorem d_D_placeOfFailure_4 : decode um_D_placeOfFailure.2.1 4 = .ok (.iconst 0, 1) := by decide +kernel
theorem d_D_placeOfFailure_5 : decode um_D_placeOfFailure.2.1 5 = .ok (.istore_n 1, 1) := by decide +kernel
theorem d_D_placeOfFailure_6 : decode um_D_placeOfFailure.2.1 6 = .ok (.iload_n 1, 1) := by decide +kernel
theorem d_D_placeOfFailure_7 : decode um_D_placeOfFailure.2.1 7 = .ok (.sipush 900, 3) := by decide +kernel
theorem d_D_placeOfFailure_10 : decode um_D_placeOfFailure.2.1 10 = .ok (.if_icmp .ge 28, 3) := by decide +kernel
theorem d_D_placeOfFailure_13 : decode um_D_placeOfFailure.2.1 13 = .ok (.aload_n 0, 1) := by decide +kernel
theorem d_D_placeOfFailure_14 : decode um_D_placeOfFailure.2.1 14 = .ok (.invokevirtual 25, 3) := by decide +kernel
theorem d_D_placeOfFailure_17 : decode um_D_placeOfFailure.2.1 17 = .ok (.ifCond .eq 21, 3) := by decide +kernel
theorem d_D_placeOfFailure_20 : decode um_D_placeOfFailure.2.1 20 = .ok (.aload_n 0, 1) := by decide +kernel
theorem d_D_placeOfFailure_21 : decode um_D_placeOfFailure.2.1 21 = .ok (.invokevirtual 29, 3) := by decide +kernel
theorem d_D_placeOfFailure_24 : decode um_D_placeOfFailure.2.1 24 = .ok (.ifCond .ne 8, 3) := by decide +kernel
theorem d_D_placeOfFailure_27 : decode um_D_placeOfFailure.2.1 27 = .ok (.aload_n 0, 1) := by decide +kernel
theorem d_D_placeOfFailure_28 : decode um_D_placeOfFailure.2.1 28 = .ok (.getfield 32, 3) := by decide +kernel
theorem d_D_placeOfFailure_31 : decode um_D_placeOfFailure.2.1 31 = .ok (.ireturn, 1) := by decide +kernel
theorem d_D_placeOfFailure_32 : decode um_D_placeOfFailure.2.1 32 = .ok (.iinc 1 1, 3) := by decide +kernel
theorem d_D_placeOfFailure_35 : decode um_D_placeOfFailure.2.1 35 = .ok (.goto (-29), 3) := by decide +kernel
theorem d_D_placeOfFailure_38 : decode um_D_placeOfFailure.2.1 38 = .ok (.iconst (-1), 1) := by decide +kernel
theorem d_D_placeOfFailure_39 : decode um_D_placeOfFailure.2.1 39 = .ok (.ireturn, 1) := by decide +kernel
theorem d_D_goToBeginning_0 : decode um_D_goToBeginning.2.1 0 = .ok (.aload_n 0, 1) := by decide +kernel
theorem d_D_goToBeginning_1 : decode um_D_goToBeginning.2.1 1 = .ok (.iconst 0, 1) := by decide +kernel
theorem d_D_goToBeginning_2 : decode um_D_goToBeginning.2.1 2 = .ok (.putfield 32, 3) := by decide +kernel
theorem d_D_goToBeginning_5 : decode um_D_goToBeginning.2.1 5 = .ok (.return_, 1) := by decide +kernel
theorem d_D_hasMore_0 : decode um_D_hasMore.2.1 0 = .ok (.aload_n 0, 1) := by decide +kernel
theorem d_D_hasMore_1 : decode um_D_hasMore.2.1 1 = .ok (.getfield 32, 3) := by decide +kernel
theorem d_D_hasMore_4 : decode um_D_hasMore.2.1 4 = .ok (.aload_n 0, 1) := by decide +kernel
theorem d_D_hasMore_5 : decode um_D_hasMore.2.1 5 = .ok (.getfield 18, 3) := by decide +kernel
theorem d_D_hasMore_8 : decode um_D_hasMore.2.1 8 = .ok (.getfield 36, 3) := by decide +kernel
theorem d_D_hasMore_11 : decode um_D_hasMore.2.1 11 = .ok (.if_icmp .ge 7, 3) := by decide +kernel
theorem d_D_hasMore_14 : decode um_D_hasMore.2.1 14 = .ok (.iconst 1, 1) := by decide +kernel
theorem d_D_hasMore_15 : decode um_D_hasMore.2.1 15 = .ok (.goto 4, 3) := by decide +kernel
theorem d_D_hasMore_18 : decode um_D_hasMore.2.1 18 = .ok (.iconst 0, 1) := by decide +kernel
theorem d_D_hasMore_19 : decode um_D_hasMore.2.1 19 = .ok (.ireturn, 1) := by decide +kernel
theorem d_D_takeHunk_0 : decode um_D_takeHunk.2.1 0 = .ok (.aload_n 0, 1) := by decide +kernel
theorem d_D_takeHunk_1 : decode um_D_takeHunk.2.1 1 = .ok (.invokevirtual 41, 3) := by decide +kernel
theorem d_D_takeHunk_4 : decode um_D_takeHunk.2.1 4 = .ok (.ifCond .eq 14, 3) := by decide +kernel
theorem d_D_takeHunk_7 : decode um_D_takeHunk.2.1 7 = .ok (.aload_n 0, 1) := by decide +kernel
theorem d_D_takeHunk_8 : decode um_D_takeHunk.2.1 8 = .ok (.invokevirtual 44, 3) := by decide +kernel
theorem d_D_takeHunk_11 : decode um_D_takeHunk.2.1 11 = .ok (.ifCond .eq 7, 3) := by decide +kernel
theorem d_D_takeHunk_14 : decode um_D_takeHunk.2.1 14 = .ok (.iconst 1, 1) := by decide +kernel
theorem d_D_takeHunk_15 : decode um_D_takeHunk.2.1 15 = .ok (.goto 4, 3) := by decide +kernel
theorem d_D_takeHunk_18 : decode um_D_takeHunk.2.1 18 = .ok (.iconst 0, 1) := by decide +kernel
theorem d_D_takeHunk_19 : decode um_D_takeHunk.2.1 19 = .ok (.ireturn, 1) := by decide +kernel
theorem d_D_takeHead_0 : decode um_D_takeHead.2.1 0 = .ok (.aload_n 0, 1) := by decide +kernel
theorem d_D_takeHead_1 : decode um_D_takeHead.2.1 1 = .ok (.bipush 64, 2) := by decide +kernel
theorem d_D_takeHead_3 : decode um_D_takeHead.2.1 3 = .ok (.invokevirtual 47, 3) := by decide +kernel
theorem d_D_takeHead_6 : decode um_D_takeHead.2.1 6 = .ok (.ifCond .ne 5, 3) := by decide +kernel
theorem d_D_takeHead_9 : decode um_D_takeHead.2.1 9 = .ok (.iconst 0, 1) := by decide +kernel
theorem d_D_takeHead_10 : decode um_D_takeHead.2.1 10 = .ok (.ireturn, 1) := by decide +kernel
theorem d_D_takeHead_11 : decode um_D_takeHead.2.1 11 = .ok (.aload_n 0, 1) := by decide +kernel
theorem d_D_takeHead_12 : decode um_D_takeHead.2.1 12 = .ok (.aload_n 0, 1) := by decide +kernel
theorem d_D_takeHead_13 : decode um_D_takeHead.2.1 13 = .ok (.invokevirtual 51, 3) := by decide +kernel
theorem d_D_takeHead_16 : decode um_D_takeHead.2.1 16 = .ok (.putfield 55, 3) := by decide +kernel
theorem d_D_takeHead_19 : decode um_D_takeHead.2.1 19 = .ok (.aload_n 0, 1) := by decide +kernel
theorem d_D_takeHead_20 : decode um_D_takeHead.2.1 20 = .ok (.getfield 55, 3) := by decide +kernel
theorem d_D_takeHead_23 : decode um_D_takeHead.2.1 23 = .ok (.iconst (-1), 1) := by decide +kernel
theorem d_D_takeHead_24 : decode um_D_takeHead.2.1 24 = .ok (.if_icmp .eq 12, 3) := by decide +kernel
theorem d_D_takeHead_27 : decode um_D_takeHead.2.1 27 = .ok (.aload_n 0, 1) := by decide +kernel
theorem d_D_takeHead_28 : decode um_D_takeHead.2.1 28 = .ok (.bipush 44, 2) := by decide +kernel
theorem d_D_takeHead_30 : decode um_D_takeHead.2.1 30 = .ok (.invokevirtual 47, 3) := by decide +kernel
theorem d_D_takeHead_33 : decode um_D_takeHead.2.1 33 = .ok (.ifCond .ne 5, 3) := by decide +kernel
theorem d_D_takeHead_36 : decode um_D_takeHead.2.1 36 = .ok (.iconst 0, 1) := by decide +kernel
theorem d_D_takeHead_37 : decode um_D_takeHead.2.1 37 = .ok (.ireturn, 1) := by decide +kernel
theorem d_D_takeHead_38 : decode um_D_takeHead.2.1 38 = .ok (.aload_n 0, 1) := by decide +kernel
theorem d_D_takeHead_39 : decode um_D_takeHead.2.1 39 = .ok (.aload_n 0, 1) := by decide +kernel
theorem d_D_takeHead_40 : decode um_D_takeHead.2.1 40 = .ok (.invokevirtual 51, 3) := by decide +kernel
theorem d_D_takeHead_43 : decode um_D_takeHead.2.1 43 = .ok (.putfield 58, 3) := by decide +kernel
theorem d_D_takeHead_46 : decode um_D_takeHead.2.1 46 = .ok (.aload_n 0, 1) := by decide +kernel
theorem d_D_takeHead_47 : decode um_D_takeHead.2.1 47 = .ok (.getfield 58, 3) := by decide +kernel
theorem d_D_takeHead_50 : decode um_D_takeHead.2.1 50 = .ok (.iconst (-1), 1) := by decide +kernel
theorem d_D_takeHead_51 : decode um_D_takeHead.2.1 51 = .ok (.if_icmp .eq 12, 3) := by decide +kernel
theorem d_D_takeHead_54 : decode um_D_takeHead.2.1 54 = .ok (.aload_n 0, 1) := by decide +kernel
theorem d_D_takeHead_55 : decode um_D_takeHead.2.1 55 = .ok (.bipush 32, 2) := by decide +kernel
theorem d_D_takeHead_57 : decode um_D_takeHead.2.1 57 = .ok (.invokevirtual 47, 3) := by decide +kernel
theorem d_D_takeHead_60 : decode um_D_takeHead.2.1 60 = .ok (.ifCond .ne 5, 3) := by decide +kernel
theorem d_D_takeHead_63 : decode um_D_takeHead.2.1 63 = .ok (.iconst 0, 1) := by decide +kernel
theorem d_D_takeHead_64 : decode um_D_takeHead.2.1 64 = .ok (.ireturn, 1) := by decide +kernel
theorem d_D_takeHead_65 : decode um_D_takeHead.2.1 65 = .ok (.aload_n 0, 1) := by decide +kernel
theorem d_D_takeHead_66 : decode um_D_takeHead.2.1 66 = .ok (.invokevirtual 51, 3) := by decide +kernel
theorem d_D_takeHead_69 : decode um_D_takeHead.2.1 69 = .ok (.iconst (-1), 1) := by decide +kernel
theorem d_D_takeHead_70 : decode um_D_takeHead.2.1 70 = .ok (.if_icmp .eq 12, 3) := by decide +kernel
theorem d_D_takeHead_73 : decode um_D_takeHead.2.1 73 = .ok (.aload_n 0, 1) := by decide +kernel
