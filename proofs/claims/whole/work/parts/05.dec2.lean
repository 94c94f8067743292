theorem d_D_takeHead_74 : decode um_D_takeHead.2.1 74 = .ok (.bipush 44, 2) := by decide +kernel
theorem d_D_takeHead_76 : decode um_D_takeHead.2.1 76 = .ok (.invokevirtual 47, 3) := by decide +kernel
theorem d_D_takeHead_79 : decode um_D_takeHead.2.1 79 = .ok (.ifCond .ne 5, 3) := by decide +kernel
theorem d_D_takeHead_82 : decode um_D_takeHead.2.1 82 = .ok (.iconst 0, 1) := by decide +kernel
theorem d_D_takeHead_83 : decode um_D_takeHead.2.1 83 = .ok (.ireturn, 1) := by decide +kernel
theorem d_D_takeHead_84 : decode um_D_takeHead.2.1 84 = .ok (.aload_n 0, 1) := by decide +kernel
theorem d_D_takeHead_85 : decode um_D_takeHead.2.1 85 = .ok (.aload_n 0, 1) := by decide +kernel
theorem d_D_takeHead_86 : decode um_D_takeHead.2.1 86 = .ok (.invokevirtual 51, 3) := by decide +kernel
theorem d_D_takeHead_89 : decode um_D_takeHead.2.1 89 = .ok (.putfield 61, 3) := by decide +kernel
theorem d_D_takeHead_92 : decode um_D_takeHead.2.1 92 = .ok (.aload_n 0, 1) := by decide +kernel
theorem d_D_takeHead_93 : decode um_D_takeHead.2.1 93 = .ok (.getfield 61, 3) := by decide +kernel
theorem d_D_takeHead_96 : decode um_D_takeHead.2.1 96 = .ok (.iconst (-1), 1) := by decide +kernel
theorem d_D_takeHead_97 : decode um_D_takeHead.2.1 97 = .ok (.if_icmp .ne 5, 3) := by decide +kernel
theorem d_D_takeHead_100 : decode um_D_takeHead.2.1 100 = .ok (.iconst 0, 1) := by decide +kernel
theorem d_D_takeHead_101 : decode um_D_takeHead.2.1 101 = .ok (.ireturn, 1) := by decide +kernel
theorem d_D_takeHead_102 : decode um_D_takeHead.2.1 102 = .ok (.aload_n 0, 1) := by decide +kernel
theorem d_D_takeHead_103 : decode um_D_takeHead.2.1 103 = .ok (.getfield 58, 3) := by decide +kernel
theorem d_D_takeHead_106 : decode um_D_takeHead.2.1 106 = .ok (.aload_n 0, 1) := by decide +kernel
theorem d_D_takeHead_107 : decode um_D_takeHead.2.1 107 = .ok (.getfield 61, 3) := by decide +kernel
theorem d_D_takeHead_110 : decode um_D_takeHead.2.1 110 = .ok (.iadd, 1) := by decide +kernel
theorem d_D_takeHead_111 : decode um_D_takeHead.2.1 111 = .ok (.ifCond .le 16, 3) := by decide +kernel
theorem d_D_takeHead_114 : decode um_D_takeHead.2.1 114 = .ok (.aload_n 0, 1) := by decide +kernel
theorem d_D_takeHead_115 : decode um_D_takeHead.2.1 115 = .ok (.bipush 10, 2) := by decide +kernel
theorem d_D_takeHead_117 : decode um_D_takeHead.2.1 117 = .ok (.invokevirtual 47, 3) := by decide +kernel
theorem d_D_takeHead_120 : decode um_D_takeHead.2.1 120 = .ok (.ifCond .eq 7, 3) := by decide +kernel
theorem d_D_takeHead_123 : decode um_D_takeHead.2.1 123 = .ok (.iconst 1, 1) := by decide +kernel
theorem d_D_takeHead_124 : decode um_D_takeHead.2.1 124 = .ok (.goto 4, 3) := by decide +kernel
theorem d_D_takeHead_127 : decode um_D_takeHead.2.1 127 = .ok (.iconst 0, 1) := by decide +kernel
theorem d_D_takeHead_128 : decode um_D_takeHead.2.1 128 = .ok (.ireturn, 1) := by decide +kernel
theorem d_D_takeLines_0 : decode um_D_takeLines.2.1 0 = .ok (.aload_n 0, 1) := by decide +kernel
theorem d_D_takeLines_1 : decode um_D_takeLines.2.1 1 = .ok (.iconst 0, 1) := by decide +kernel
theorem d_D_takeLines_2 : decode um_D_takeLines.2.1 2 = .ok (.putfield 64, 3) := by decide +kernel
theorem d_D_takeLines_5 : decode um_D_takeLines.2.1 5 = .ok (.aload_n 0, 1) := by decide +kernel
theorem d_D_takeLines_6 : decode um_D_takeLines.2.1 6 = .ok (.iconst 0, 1) := by decide +kernel
theorem d_D_takeLines_7 : decode um_D_takeLines.2.1 7 = .ok (.putfield 67, 3) := by decide +kernel
theorem d_D_takeLines_10 : decode um_D_takeLines.2.1 10 = .ok (.aload_n 0, 1) := by decide +kernel
theorem d_D_takeLines_11 : decode um_D_takeLines.2.1 11 = .ok (.getfield 58, 3) := by decide +kernel
theorem d_D_takeLines_14 : decode um_D_takeLines.2.1 14 = .ok (.aload_n 0, 1) := by decide +kernel
theorem d_D_takeLines_15 : decode um_D_takeLines.2.1 15 = .ok (.getfield 61, 3) := by decide +kernel
theorem d_D_takeLines_18 : decode um_D_takeLines.2.1 18 = .ok (.iadd, 1) := by decide +kernel
theorem d_D_takeLines_19 : decode um_D_takeLines.2.1 19 = .ok (.istore_n 1, 1) := by decide +kernel
theorem d_D_takeLines_20 : decode um_D_takeLines.2.1 20 = .ok (.iload_n 1, 1) := by decide +kernel
theorem d_D_takeLines_21 : decode um_D_takeLines.2.1 21 = .ok (.ifCond .le 25, 3) := by decide +kernel
theorem d_D_takeLines_24 : decode um_D_takeLines.2.1 24 = .ok (.aload_n 0, 1) := by decide +kernel
theorem d_D_takeLines_25 : decode um_D_takeLines.2.1 25 = .ok (.invokevirtual 70, 3) := by decide +kernel
theorem d_D_takeLines_28 : decode um_D_takeLines.2.1 28 = .ok (.ifCond .eq 18, 3) := by decide +kernel
theorem d_D_takeLines_31 : decode um_D_takeLines.2.1 31 = .ok (.aload_n 0, 1) := by decide +kernel
theorem d_D_takeLines_32 : decode um_D_takeLines.2.1 32 = .ok (.invokevirtual 73, 3) := by decide +kernel
theorem d_D_takeLines_35 : decode um_D_takeLines.2.1 35 = .ok (.ifCond .ne 5, 3) := by decide +kernel
theorem d_D_takeLines_38 : decode um_D_takeLines.2.1 38 = .ok (.iconst 0, 1) := by decide +kernel
theorem d_D_takeLines_39 : decode um_D_takeLines.2.1 39 = .ok (.ireturn, 1) := by decide +kernel
theorem d_D_takeLines_40 : decode um_D_takeLines.2.1 40 = .ok (.iinc 1 (-1), 3) := by decide +kernel
theorem d_D_takeLines_43 : decode um_D_takeLines.2.1 43 = .ok (.goto (-23), 3) := by decide +kernel
theorem d_D_takeLines_46 : decode um_D_takeLines.2.1 46 = .ok (.iconst 1, 1) := by decide +kernel
theorem d_D_takeLines_47 : decode um_D_takeLines.2.1 47 = .ok (.ireturn, 1) := by decide +kernel
theorem d_D_hasLinesDue_0 : decode um_D_hasLinesDue.2.1 0 = .ok (.aload_n 0, 1) := by decide +kernel
theorem d_D_hasLinesDue_1 : decode um_D_hasLinesDue.2.1 1 = .ok (.getfield 64, 3) := by decide +kernel
theorem d_D_hasLinesDue_4 : decode um_D_hasLinesDue.2.1 4 = .ok (.aload_n 0, 1) := by decide +kernel
theorem d_D_hasLinesDue_5 : decode um_D_hasLinesDue.2.1 5 = .ok (.getfield 58, 3) := by decide +kernel
theorem d_D_hasLinesDue_8 : decode um_D_hasLinesDue.2.1 8 = .ok (.if_icmp .lt 14, 3) := by decide +kernel
theorem d_D_hasLinesDue_11 : decode um_D_hasLinesDue.2.1 11 = .ok (.aload_n 0, 1) := by decide +kernel
theorem d_D_hasLinesDue_12 : decode um_D_hasLinesDue.2.1 12 = .ok (.getfield 67, 3) := by decide +kernel
theorem d_D_hasLinesDue_15 : decode um_D_hasLinesDue.2.1 15 = .ok (.aload_n 0, 1) := by decide +kernel
theorem d_D_hasLinesDue_16 : decode um_D_hasLinesDue.2.1 16 = .ok (.getfield 61, 3) := by decide +kernel
theorem d_D_hasLinesDue_19 : decode um_D_hasLinesDue.2.1 19 = .ok (.if_icmp .ge 7, 3) := by decide +kernel
theorem d_D_hasLinesDue_22 : decode um_D_hasLinesDue.2.1 22 = .ok (.iconst 1, 1) := by decide +kernel
theorem d_D_hasLinesDue_23 : decode um_D_hasLinesDue.2.1 23 = .ok (.goto 4, 3) := by decide +kernel
theorem d_D_hasLinesDue_26 : decode um_D_hasLinesDue.2.1 26 = .ok (.iconst 0, 1) := by decide +kernel
theorem d_D_hasLinesDue_27 : decode um_D_hasLinesDue.2.1 27 = .ok (.ireturn, 1) := by decide +kernel
theorem d_D_takeLine_0 : decode um_D_takeLine.2.1 0 = .ok (.aload_n 0, 1) := by decide +kernel
theorem d_D_takeLine_1 : decode um_D_takeLine.2.1 1 = .ok (.invokevirtual 76, 3) := by decide +kernel
theorem d_D_takeLine_4 : decode um_D_takeLine.2.1 4 = .ok (.istore_n 1, 1) := by decide +kernel
theorem d_D_takeLine_5 : decode um_D_takeLine.2.1 5 = .ok (.iload_n 1, 1) := by decide +kernel
theorem d_D_takeLine_6 : decode um_D_takeLine.2.1 6 = .ok (.bipush 32, 2) := by decide +kernel
theorem d_D_takeLine_8 : decode um_D_takeLine.2.1 8 = .ok (.if_icmp .eq 9, 3) := by decide +kernel
theorem d_D_takeLine_11 : decode um_D_takeLine.2.1 11 = .ok (.iload_n 1, 1) := by decide +kernel
theorem d_D_takeLine_12 : decode um_D_takeLine.2.1 12 = .ok (.bipush 45, 2) := by decide +kernel
theorem d_D_takeLine_14 : decode um_D_takeLine.2.1 14 = .ok (.if_icmp .ne 7, 3) := by decide +kernel
theorem d_D_takeLine_17 : decode um_D_takeLine.2.1 17 = .ok (.iconst 1, 1) := by decide +kernel
theorem d_D_takeLine_18 : decode um_D_takeLine.2.1 18 = .ok (.goto 4, 3) := by decide +kernel
theorem d_D_takeLine_21 : decode um_D_takeLine.2.1 21 = .ok (.iconst 0, 1) := by decide +kernel
theorem d_D_takeLine_22 : decode um_D_takeLine.2.1 22 = .ok (.istore_n 2, 1) := by decide +kernel
theorem d_D_takeLine_23 : decode um_D_takeLine.2.1 23 = .ok (.iload_n 1, 1) := by decide +kernel
theorem d_D_takeLine_24 : decode um_D_takeLine.2.1 24 = .ok (.bipush 32, 2) := by decide +kernel
theorem d_D_takeLine_26 : decode um_D_takeLine.2.1 26 = .ok (.if_icmp .eq 9, 3) := by decide +kernel
theorem d_D_takeLine_29 : decode um_D_takeLine.2.1 29 = .ok (.iload_n 1, 1) := by decide +kernel
theorem d_D_takeLine_30 : decode um_D_takeLine.2.1 30 = .ok (.bipush 43, 2) := by decide +kernel
theorem d_D_takeLine_32 : decode um_D_takeLine.2.1 32 = .ok (.if_icmp .ne 7, 3) := by decide +kernel
theorem d_D_takeLine_35 : decode um_D_takeLine.2.1 35 = .ok (.iconst 1, 1) := by decide +kernel
theorem d_D_takeLine_36 : decode um_D_takeLine.2.1 36 = .ok (.goto 4, 3) := by decide +kernel
theorem d_D_takeLine_39 : decode um_D_takeLine.2.1 39 = .ok (.iconst 0, 1) := by decide +kernel
theorem d_D_takeLine_40 : decode um_D_takeLine.2.1 40 = .ok (.istore_n 3, 1) := by decide +kernel
theorem d_D_takeLine_41 : decode um_D_takeLine.2.1 41 = .ok (.iload_n 2, 1) := by decide +kernel
theorem d_D_takeLine_42 : decode um_D_takeLine.2.1 42 = .ok (.ifCond .eq 14, 3) := by decide +kernel
theorem d_D_takeLine_45 : decode um_D_takeLine.2.1 45 = .ok (.aload_n 0, 1) := by decide +kernel
theorem d_D_takeLine_46 : decode um_D_takeLine.2.1 46 = .ok (.getfield 64, 3) := by decide +kernel
theorem d_D_takeLine_49 : decode um_D_takeLine.2.1 49 = .ok (.aload_n 0, 1) := by decide +kernel
theorem d_D_takeLine_50 : decode um_D_takeLine.2.1 50 = .ok (.getfield 58, 3) := by decide +kernel
theorem d_D_takeLine_53 : decode um_D_takeLine.2.1 53 = .ok (.if_icmp .ge 18, 3) := by decide +kernel
theorem d_D_takeLine_56 : decode um_D_takeLine.2.1 56 = .ok (.iload_n 3, 1) := by decide +kernel
theorem d_D_takeLine_57 : decode um_D_takeLine.2.1 57 = .ok (.ifCond .eq 18, 3) := by decide +kernel
theorem d_D_takeLine_60 : decode um_D_takeLine.2.1 60 = .ok (.aload_n 0, 1) := by decide +kernel
theorem d_D_takeLine_61 : decode um_D_takeLine.2.1 61 = .ok (.getfield 67, 3) := by decide +kernel
theorem d_D_takeLine_64 : decode um_D_takeLine.2.1 64 = .ok (.aload_n 0, 1) := by decide +kernel
theorem d_D_takeLine_65 : decode um_D_takeLine.2.1 65 = .ok (.getfield 61, 3) := by decide +kernel
theorem d_D_takeLine_68 : decode um_D_takeLine.2.1 68 = .ok (.if_icmp .lt 7, 3) := by decide +kernel
theorem d_D_takeLine_71 : decode um_D_takeLine.2.1 71 = .ok (.iconst 1, 1) := by decide +kernel
theorem d_D_takeLine_72 : decode um_D_takeLine.2.1 72 = .ok (.goto 4, 3) := by decide +kernel
theorem d_D_takeLine_75 : decode um_D_takeLine.2.1 75 = .ok (.iconst 0, 1) := by decide +kernel
theorem d_D_takeLine_76 : decode um_D_takeLine.2.1 76 = .ok (.istore 4, 2) := by decide +kernel
theorem d_D_takeLine_78 : decode um_D_takeLine.2.1 78 = .ok (.iload_n 2, 1) := by decide +kernel
theorem d_D_takeLine_79 : decode um_D_takeLine.2.1 79 = .ok (.ifCond .ne 7, 3) := by decide +kernel
theorem d_D_takeLine_82 : decode um_D_takeLine.2.1 82 = .ok (.iload_n 3, 1) := by decide +kernel
theorem d_D_takeLine_83 : decode um_D_takeLine.2.1 83 = .ok (.ifCond .eq 8, 3) := by decide +kernel
theorem d_D_takeLine_86 : decode um_D_takeLine.2.1 86 = .ok (.iload 4, 2) := by decide +kernel
theorem d_D_takeLine_88 : decode um_D_takeLine.2.1 88 = .ok (.ifCond .eq 5, 3) := by decide +kernel
theorem d_D_takeLine_91 : decode um_D_takeLine.2.1 91 = .ok (.iconst 0, 1) := by decide +kernel
theorem d_D_takeLine_92 : decode um_D_takeLine.2.1 92 = .ok (.ireturn, 1) := by decide +kernel
theorem d_D_takeLine_93 : decode um_D_takeLine.2.1 93 = .ok (.aload_n 0, 1) := by decide +kernel
theorem d_D_takeLine_94 : decode um_D_takeLine.2.1 94 = .ok (.dup, 1) := by decide +kernel
theorem d_D_takeLine_95 : decode um_D_takeLine.2.1 95 = .ok (.getfield 32, 3) := by decide +kernel
theorem d_D_takeLine_98 : decode um_D_takeLine.2.1 98 = .ok (.iconst 1, 1) := by decide +kernel
theorem d_D_takeLine_99 : decode um_D_takeLine.2.1 99 = .ok (.iadd, 1) := by decide +kernel
theorem d_D_takeLine_100 : decode um_D_takeLine.2.1 100 = .ok (.putfield 32, 3) := by decide +kernel
theorem d_D_takeLine_103 : decode um_D_takeLine.2.1 103 = .ok (.aload_n 0, 1) := by decide +kernel
theorem d_D_takeLine_104 : decode um_D_takeLine.2.1 104 = .ok (.invokevirtual 76, 3) := by decide +kernel
theorem d_D_takeLine_107 : decode um_D_takeLine.2.1 107 = .ok (.istore 5, 2) := by decide +kernel
theorem d_D_takeLine_109 : decode um_D_takeLine.2.1 109 = .ok (.iload 5, 2) := by decide +kernel
theorem d_D_takeLine_111 : decode um_D_takeLine.2.1 111 = .ok (.invokestatic 79, 3) := by decide +kernel
theorem d_D_takeLine_114 : decode um_D_takeLine.2.1 114 = .ok (.ifCond .ne 5, 3) := by decide +kernel
theorem d_D_takeLine_117 : decode um_D_takeLine.2.1 117 = .ok (.iconst 0, 1) := by decide +kernel
theorem d_D_takeLine_118 : decode um_D_takeLine.2.1 118 = .ok (.ireturn, 1) := by decide +kernel
theorem d_D_takeLine_119 : decode um_D_takeLine.2.1 119 = .ok (.aload_n 0, 1) := by decide +kernel
theorem d_D_takeLine_120 : decode um_D_takeLine.2.1 120 = .ok (.dup, 1) := by decide +kernel
theorem d_D_takeLine_121 : decode um_D_takeLine.2.1 121 = .ok (.getfield 32, 3) := by decide +kernel
theorem d_D_takeLine_124 : decode um_D_takeLine.2.1 124 = .ok (.iconst 1, 1) := by decide +kernel
theorem d_D_takeLine_125 : decode um_D_takeLine.2.1 125 = .ok (.iadd, 1) := by decide +kernel
theorem d_D_takeLine_126 : decode um_D_takeLine.2.1 126 = .ok (.putfield 32, 3) := by decide +kernel
theorem d_D_takeLine_129 : decode um_D_takeLine.2.1 129 = .ok (.iload_n 2, 1) := by decide +kernel
theorem d_D_takeLine_130 : decode um_D_takeLine.2.1 130 = .ok (.ifCond .eq 24, 3) := by decide +kernel
theorem d_D_takeLine_133 : decode um_D_takeLine.2.1 133 = .ok (.aload_n 0, 1) := by decide +kernel
theorem d_D_takeLine_134 : decode um_D_takeLine.2.1 134 = .ok (.getfield 11, 3) := by decide +kernel
theorem d_D_takeLine_137 : decode um_D_takeLine.2.1 137 = .ok (.aload_n 0, 1) := by decide +kernel
theorem d_D_takeLine_138 : decode um_D_takeLine.2.1 138 = .ok (.getfield 64, 3) := by decide +kernel
theorem d_D_takeLine_141 : decode um_D_takeLine.2.1 141 = .ok (.iload 5, 2) := by decide +kernel
theorem d_D_takeLine_143 : decode um_D_takeLine.2.1 143 = .ok (.iastore, 1) := by decide +kernel
theorem d_D_takeLine_144 : decode um_D_takeLine.2.1 144 = .ok (.aload_n 0, 1) := by decide +kernel
theorem d_D_takeLine_145 : decode um_D_takeLine.2.1 145 = .ok (.dup, 1) := by decide +kernel
theorem d_D_takeLine_146 : decode um_D_takeLine.2.1 146 = .ok (.getfield 64, 3) := by decide +kernel
theorem d_D_takeLine_149 : decode um_D_takeLine.2.1 149 = .ok (.iconst 1, 1) := by decide +kernel
theorem d_D_takeLine_150 : decode um_D_takeLine.2.1 150 = .ok (.iadd, 1) := by decide +kernel
theorem d_D_takeLine_151 : decode um_D_takeLine.2.1 151 = .ok (.putfield 64, 3) := by decide +kernel
theorem d_D_takeLine_154 : decode um_D_takeLine.2.1 154 = .ok (.iload_n 3, 1) := by decide +kernel
theorem d_D_takeLine_155 : decode um_D_takeLine.2.1 155 = .ok (.ifCond .eq 24, 3) := by decide +kernel
theorem d_D_takeLine_158 : decode um_D_takeLine.2.1 158 = .ok (.aload_n 0, 1) := by decide +kernel
theorem d_D_takeLine_159 : decode um_D_takeLine.2.1 159 = .ok (.getfield 15, 3) := by decide +kernel
theorem d_D_takeLine_162 : decode um_D_takeLine.2.1 162 = .ok (.aload_n 0, 1) := by decide +kernel
theorem d_D_takeLine_163 : decode um_D_takeLine.2.1 163 = .ok (.getfield 67, 3) := by decide +kernel
theorem d_D_takeLine_166 : decode um_D_takeLine.2.1 166 = .ok (.iload 5, 2) := by decide +kernel
theorem d_D_takeLine_168 : decode um_D_takeLine.2.1 168 = .ok (.iastore, 1) := by decide +kernel
theorem d_D_takeLine_169 : decode um_D_takeLine.2.1 169 = .ok (.aload_n 0, 1) := by decide +kernel
theorem d_D_takeLine_170 : decode um_D_takeLine.2.1 170 = .ok (.dup, 1) := by decide +kernel
theorem d_D_takeLine_171 : decode um_D_takeLine.2.1 171 = .ok (.getfield 67, 3) := by decide +kernel
theorem d_D_takeLine_174 : decode um_D_takeLine.2.1 174 = .ok (.iconst 1, 1) := by decide +kernel
theorem d_D_takeLine_175 : decode um_D_takeLine.2.1 175 = .ok (.iadd, 1) := by decide +kernel
theorem d_D_takeLine_176 : decode um_D_takeLine.2.1 176 = .ok (.putfield 67, 3) := by decide +kernel
theorem d_D_takeLine_179 : decode um_D_takeLine.2.1 179 = .ok (.aload_n 0, 1) := by decide +kernel
theorem d_D_takeLine_180 : decode um_D_takeLine.2.1 180 = .ok (.bipush 10, 2) := by decide +kernel
theorem d_D_takeLine_182 : decode um_D_takeLine.2.1 182 = .ok (.invokevirtual 47, 3) := by decide +kernel
theorem d_D_takeLine_185 : decode um_D_takeLine.2.1 185 = .ok (.ireturn, 1) := by decide +kernel
theorem d_D_takeSign_0 : decode um_D_takeSign.2.1 0 = .ok (.aload_n 0, 1) := by decide +kernel
theorem d_D_takeSign_1 : decode um_D_takeSign.2.1 1 = .ok (.invokevirtual 76, 3) := by decide +kernel
theorem d_D_takeSign_4 : decode um_D_takeSign.2.1 4 = .ok (.iload_n 1, 1) := by decide +kernel
theorem d_D_takeSign_5 : decode um_D_takeSign.2.1 5 = .ok (.if_icmp .eq 5, 3) := by decide +kernel
theorem d_D_takeSign_8 : decode um_D_takeSign.2.1 8 = .ok (.iconst 0, 1) := by decide +kernel
theorem d_D_takeSign_9 : decode um_D_takeSign.2.1 9 = .ok (.ireturn, 1) := by decide +kernel
theorem d_D_takeSign_10 : decode um_D_takeSign.2.1 10 = .ok (.aload_n 0, 1) := by decide +kernel
theorem d_D_takeSign_11 : decode um_D_takeSign.2.1 11 = .ok (.dup, 1) := by decide +kernel
theorem d_D_takeSign_12 : decode um_D_takeSign.2.1 12 = .ok (.getfield 32, 3) := by decide +kernel
theorem d_D_takeSign_15 : decode um_D_takeSign.2.1 15 = .ok (.iconst 1, 1) := by decide +kernel
theorem d_D_takeSign_16 : decode um_D_takeSign.2.1 16 = .ok (.iadd, 1) := by decide +kernel
theorem d_D_takeSign_17 : decode um_D_takeSign.2.1 17 = .ok (.putfield 32, 3) := by decide +kernel
theorem d_D_takeSign_20 : decode um_D_takeSign.2.1 20 = .ok (.iconst 1, 1) := by decide +kernel
theorem d_D_takeSign_21 : decode um_D_takeSign.2.1 21 = .ok (.ireturn, 1) := by decide +kernel
theorem d_D_takeNumber_0 : decode um_D_takeNumber.2.1 0 = .ok (.aload_n 0, 1) := by decide +kernel
theorem d_D_takeNumber_1 : decode um_D_takeNumber.2.1 1 = .ok (.invokevirtual 76, 3) := by decide +kernel
theorem d_D_takeNumber_4 : decode um_D_takeNumber.2.1 4 = .ok (.invokestatic 82, 3) := by decide +kernel
theorem d_D_takeNumber_7 : decode um_D_takeNumber.2.1 7 = .ok (.ifCond .ne 5, 3) := by decide +kernel
theorem d_D_takeNumber_10 : decode um_D_takeNumber.2.1 10 = .ok (.iconst (-1), 1) := by decide +kernel
theorem d_D_takeNumber_11 : decode um_D_takeNumber.2.1 11 = .ok (.ireturn, 1) := by decide +kernel
theorem d_D_takeNumber_12 : decode um_D_takeNumber.2.1 12 = .ok (.aload_n 0, 1) := by decide +kernel
theorem d_D_takeNumber_13 : decode um_D_takeNumber.2.1 13 = .ok (.invokevirtual 76, 3) := by decide +kernel
theorem d_D_takeNumber_16 : decode um_D_takeNumber.2.1 16 = .ok (.bipush 48, 2) := by decide +kernel
theorem d_D_takeNumber_18 : decode um_D_takeNumber.2.1 18 = .ok (.isub, 1) := by decide +kernel
theorem d_D_takeNumber_19 : decode um_D_takeNumber.2.1 19 = .ok (.istore_n 1, 1) := by decide +kernel
theorem d_D_takeNumber_20 : decode um_D_takeNumber.2.1 20 = .ok (.aload_n 0, 1) := by decide +kernel
theorem d_D_takeNumber_21 : decode um_D_takeNumber.2.1 21 = .ok (.dup, 1) := by decide +kernel
theorem d_D_takeNumber_22 : decode um_D_takeNumber.2.1 22 = .ok (.getfield 32, 3) := by decide +kernel
theorem d_D_takeNumber_25 : decode um_D_takeNumber.2.1 25 = .ok (.iconst 1, 1) := by decide +kernel
theorem d_D_takeNumber_26 : decode um_D_takeNumber.2.1 26 = .ok (.iadd, 1) := by decide +kernel
theorem d_D_takeNumber_27 : decode um_D_takeNumber.2.1 27 = .ok (.putfield 32, 3) := by decide +kernel
theorem d_D_takeNumber_30 : decode um_D_takeNumber.2.1 30 = .ok (.iload_n 1, 1) := by decide +kernel
theorem d_D_takeNumber_31 : decode um_D_takeNumber.2.1 31 = .ok (.ifCond .le 36, 3) := by decide +kernel
theorem d_D_takeNumber_34 : decode um_D_takeNumber.2.1 34 = .ok (.aload_n 0, 1) := by decide +kernel
theorem d_D_takeNumber_35 : decode um_D_takeNumber.2.1 35 = .ok (.invokevirtual 76, 3) := by decide +kernel
theorem d_D_takeNumber_38 : decode um_D_takeNumber.2.1 38 = .ok (.invokestatic 82, 3) := by decide +kernel
theorem d_D_takeNumber_41 : decode um_D_takeNumber.2.1 41 = .ok (.ifCond .eq 26, 3) := by decide +kernel
theorem d_D_takeNumber_44 : decode um_D_takeNumber.2.1 44 = .ok (.bipush 10, 2) := by decide +kernel
theorem d_D_takeNumber_46 : decode um_D_takeNumber.2.1 46 = .ok (.iload_n 1, 1) := by decide +kernel
theorem d_D_takeNumber_47 : decode um_D_takeNumber.2.1 47 = .ok (.imul, 1) := by decide +kernel
theorem d_D_takeNumber_48 : decode um_D_takeNumber.2.1 48 = .ok (.aload_n 0, 1) := by decide +kernel
theorem d_D_takeNumber_49 : decode um_D_takeNumber.2.1 49 = .ok (.invokevirtual 76, 3) := by decide +kernel
theorem d_D_takeNumber_52 : decode um_D_takeNumber.2.1 52 = .ok (.iadd, 1) := by decide +kernel
theorem d_D_takeNumber_53 : decode um_D_takeNumber.2.1 53 = .ok (.bipush 48, 2) := by decide +kernel
theorem d_D_takeNumber_55 : decode um_D_takeNumber.2.1 55 = .ok (.isub, 1) := by decide +kernel
theorem d_D_takeNumber_56 : decode um_D_takeNumber.2.1 56 = .ok (.istore_n 1, 1) := by decide +kernel
theorem d_D_takeNumber_57 : decode um_D_takeNumber.2.1 57 = .ok (.aload_n 0, 1) := by decide +kernel
theorem d_D_takeNumber_58 : decode um_D_takeNumber.2.1 58 = .ok (.dup, 1) := by decide +kernel
theorem d_D_takeNumber_59 : decode um_D_takeNumber.2.1 59 = .ok (.getfield 32, 3) := by decide +kernel
theorem d_D_takeNumber_62 : decode um_D_takeNumber.2.1 62 = .ok (.iconst 1, 1) := by decide +kernel
theorem d_D_takeNumber_63 : decode um_D_takeNumber.2.1 63 = .ok (.iadd, 1) := by decide +kernel
theorem d_D_takeNumber_64 : decode um_D_takeNumber.2.1 64 = .ok (.putfield 32, 3) := by decide +kernel
theorem d_D_takeNumber_67 : decode um_D_takeNumber.2.1 67 = .ok (.iload_n 1, 1) := by decide +kernel
theorem d_D_takeNumber_68 : decode um_D_takeNumber.2.1 68 = .ok (.ireturn, 1) := by decide +kernel
theorem d_D_here_0 : decode um_D_here.2.1 0 = .ok (.aload_n 0, 1) := by decide +kernel
theorem d_D_here_1 : decode um_D_here.2.1 1 = .ok (.getfield 32, 3) := by decide +kernel
theorem d_D_here_4 : decode um_D_here.2.1 4 = .ok (.aload_n 0, 1) := by decide +kernel
theorem d_D_here_5 : decode um_D_here.2.1 5 = .ok (.getfield 18, 3) := by decide +kernel
theorem d_D_here_8 : decode um_D_here.2.1 8 = .ok (.getfield 36, 3) := by decide +kernel
theorem d_D_here_11 : decode um_D_here.2.1 11 = .ok (.if_icmp .ge 18, 3) := by decide +kernel
theorem d_D_here_14 : decode um_D_here.2.1 14 = .ok (.aload_n 0, 1) := by decide +kernel
theorem d_D_here_15 : decode um_D_here.2.1 15 = .ok (.getfield 18, 3) := by decide +kernel
theorem d_D_here_18 : decode um_D_here.2.1 18 = .ok (.getfield 85, 3) := by decide +kernel
theorem d_D_here_21 : decode um_D_here.2.1 21 = .ok (.aload_n 0, 1) := by decide +kernel
theorem d_D_here_22 : decode um_D_here.2.1 22 = .ok (.getfield 32, 3) := by decide +kernel
theorem d_D_here_25 : decode um_D_here.2.1 25 = .ok (.iaload, 1) := by decide +kernel
theorem d_D_here_26 : decode um_D_here.2.1 26 = .ok (.goto 4, 3) := by decide +kernel
theorem d_D_here_29 : decode um_D_here.2.1 29 = .ok (.iconst (-1), 1) := by decide +kernel
theorem d_D_here_30 : decode um_D_here.2.1 30 = .ok (.ireturn, 1) := by decide +kernel
theorem d_D_isDigit_0 : decode um_D_isDigit.2.1 0 = .ok (.iload_n 0, 1) := by decide +kernel
theorem d_D_isDigit_1 : decode um_D_isDigit.2.1 1 = .ok (.bipush 48, 2) := by decide +kernel
theorem d_D_isDigit_3 : decode um_D_isDigit.2.1 3 = .ok (.if_icmp .lt 13, 3) := by decide +kernel
theorem d_D_isDigit_6 : decode um_D_isDigit.2.1 6 = .ok (.iload_n 0, 1) := by decide +kernel
theorem d_D_isDigit_7 : decode um_D_isDigit.2.1 7 = .ok (.bipush 57, 2) := by decide +kernel
theorem d_D_isDigit_9 : decode um_D_isDigit.2.1 9 = .ok (.if_icmp .gt 7, 3) := by decide +kernel
theorem d_D_isDigit_12 : decode um_D_isDigit.2.1 12 = .ok (.iconst 1, 1) := by decide +kernel
theorem d_D_isDigit_13 : decode um_D_isDigit.2.1 13 = .ok (.goto 4, 3) := by decide +kernel
theorem d_D_isDigit_16 : decode um_D_isDigit.2.1 16 = .ok (.iconst 0, 1) := by decide +kernel
theorem d_D_isDigit_17 : decode um_D_isDigit.2.1 17 = .ok (.ireturn, 1) := by decide +kernel
theorem d_F_init_0 : decode um_F_init.2.1 0 = .ok (.aload_n 0, 1) := by decide +kernel
theorem d_F_init_1 : decode um_F_init.2.1 1 = .ok (.invokespecial 3, 3) := by decide +kernel
theorem d_F_init_4 : decode um_F_init.2.1 4 = .ok (.aload_n 0, 1) := by decide +kernel
theorem d_F_init_5 : decode um_F_init.2.1 5 = .ok (.new 9, 3) := by decide +kernel
theorem d_F_init_8 : decode um_F_init.2.1 8 = .ok (.dup, 1) := by decide +kernel
theorem d_F_init_9 : decode um_F_init.2.1 9 = .ok (.invokespecial 11, 3) := by decide +kernel
theorem d_F_init_12 : decode um_F_init.2.1 12 = .ok (.putfield 12, 3) := by decide +kernel
theorem d_F_init_15 : decode um_F_init.2.1 15 = .ok (.aload_n 0, 1) := by decide +kernel
theorem d_F_init_16 : decode um_F_init.2.1 16 = .ok (.aload_n 1, 1) := by decide +kernel
theorem d_F_init_17 : decode um_F_init.2.1 17 = .ok (.putfield 18, 3) := by decide +kernel
theorem d_F_init_20 : decode um_F_init.2.1 20 = .ok (.return_, 1) := by decide +kernel
theorem d_F_patch_0 : decode um_F_patch.2.1 0 = .ok (.iconst 0, 1) := by decide +kernel
theorem d_F_patch_1 : decode um_F_patch.2.1 1 = .ok (.istore_n 2, 1) := by decide +kernel
theorem d_F_patch_2 : decode um_F_patch.2.1 2 = .ok (.iconst 0, 1) := by decide +kernel
theorem d_F_patch_3 : decode um_F_patch.2.1 3 = .ok (.istore_n 3, 1) := by decide +kernel
theorem d_F_patch_4 : decode um_F_patch.2.1 4 = .ok (.aload_n 1, 1) := by decide +kernel
theorem d_F_patch_5 : decode um_F_patch.2.1 5 = .ok (.getfield 22, 3) := by decide +kernel
theorem d_F_patch_8 : decode um_F_patch.2.1 8 = .ok (.istore 4, 2) := by decide +kernel
theorem d_F_patch_10 : decode um_F_patch.2.1 10 = .ok (.aload_n 0, 1) := by decide +kernel
theorem d_F_patch_11 : decode um_F_patch.2.1 11 = .ok (.getfield 12, 3) := by decide +kernel
theorem d_F_patch_14 : decode um_F_patch.2.1 14 = .ok (.iconst 0, 1) := by decide +kernel
theorem d_F_patch_15 : decode um_F_patch.2.1 15 = .ok (.putfield 22, 3) := by decide +kernel
theorem d_F_patch_18 : decode um_F_patch.2.1 18 = .ok (.aload_n 0, 1) := by decide +kernel
theorem d_F_patch_19 : decode um_F_patch.2.1 19 = .ok (.getfield 18, 3) := by decide +kernel
theorem d_F_patch_22 : decode um_F_patch.2.1 22 = .ok (.invokevirtual 26, 3) := by decide +kernel
theorem d_F_patch_25 : decode um_F_patch.2.1 25 = .ok (.iload_n 2, 1) := by decide +kernel
theorem d_F_patch_26 : decode um_F_patch.2.1 26 = .ok (.sipush 900, 3) := by decide +kernel
theorem d_F_patch_29 : decode um_F_patch.2.1 29 = .ok (.if_icmp .ge 102, 3) := by decide +kernel
theorem d_F_patch_32 : decode um_F_patch.2.1 32 = .ok (.aload_n 0, 1) := by decide +kernel
theorem d_F_patch_33 : decode um_F_patch.2.1 33 = .ok (.getfield 18, 3) := by decide +kernel
theorem d_F_patch_36 : decode um_F_patch.2.1 36 = .ok (.invokevirtual 31, 3) := by decide +kernel
theorem d_F_patch_39 : decode um_F_patch.2.1 39 = .ok (.ifCond .eq 92, 3) := by decide +kernel
theorem d_F_patch_42 : decode um_F_patch.2.1 42 = .ok (.aload_n 0, 1) := by decide +kernel
theorem d_F_patch_43 : decode um_F_patch.2.1 43 = .ok (.getfield 18, 3) := by decide +kernel
theorem d_F_patch_46 : decode um_F_patch.2.1 46 = .ok (.invokevirtual 35, 3) := by decide +kernel
theorem d_F_patch_49 : decode um_F_patch.2.1 49 = .ok (.ifCond .eq 82, 3) := by decide +kernel
theorem d_F_patch_52 : decode um_F_patch.2.1 52 = .ok (.aload_n 0, 1) := by decide +kernel
theorem d_F_patch_53 : decode um_F_patch.2.1 53 = .ok (.aload_n 1, 1) := by decide +kernel
theorem d_F_patch_54 : decode um_F_patch.2.1 54 = .ok (.iload_n 3, 1) := by decide +kernel
theorem d_F_patch_55 : decode um_F_patch.2.1 55 = .ok (.invokevirtual 38, 3) := by decide +kernel
theorem d_F_patch_58 : decode um_F_patch.2.1 58 = .ok (.istore 5, 2) := by decide +kernel
theorem d_F_patch_60 : decode um_F_patch.2.1 60 = .ok (.iload 4, 2) := by decide +kernel
theorem d_F_patch_62 : decode um_F_patch.2.1 62 = .ok (.aload_n 0, 1) := by decide +kernel
theorem d_F_patch_63 : decode um_F_patch.2.1 63 = .ok (.getfield 18, 3) := by decide +kernel
theorem d_F_patch_66 : decode um_F_patch.2.1 66 = .ok (.getfield 42, 3) := by decide +kernel
theorem d_F_patch_69 : decode um_F_patch.2.1 69 = .ok (.aload_n 0, 1) := by decide +kernel
theorem d_F_patch_70 : decode um_F_patch.2.1 70 = .ok (.getfield 18, 3) := by decide +kernel
theorem d_F_patch_73 : decode um_F_patch.2.1 73 = .ok (.getfield 45, 3) := by decide +kernel
theorem d_F_patch_76 : decode um_F_patch.2.1 76 = .ok (.isub, 1) := by decide +kernel
theorem d_F_patch_77 : decode um_F_patch.2.1 77 = .ok (.iadd, 1) := by decide +kernel
theorem d_F_patch_78 : decode um_F_patch.2.1 78 = .ok (.istore 4, 2) := by decide +kernel
theorem d_F_patch_80 : decode um_F_patch.2.1 80 = .ok (.iload 5, 2) := by decide +kernel
theorem d_F_patch_82 : decode um_F_patch.2.1 82 = .ok (.bipush (-3), 2) := by decide +kernel
theorem d_F_patch_84 : decode um_F_patch.2.1 84 = .ok (.if_icmp .eq 10, 3) := by decide +kernel
theorem d_F_patch_87 : decode um_F_patch.2.1 87 = .ok (.iload 4, 2) := by decide +kernel
theorem d_F_patch_89 : decode um_F_patch.2.1 89 = .ok (.bipush 24, 2) := by decide +kernel
theorem d_F_patch_91 : decode um_F_patch.2.1 91 = .ok (.if_icmp .le 8, 3) := by decide +kernel
theorem d_F_patch_94 : decode um_F_patch.2.1 94 = .ok (.bipush (-3), 2) := by decide +kernel
theorem d_F_patch_96 : decode um_F_patch.2.1 96 = .ok (.iload_n 2, 1) := by decide +kernel
theorem d_F_patch_97 : decode um_F_patch.2.1 97 = .ok (.isub, 1) := by decide +kernel
theorem d_F_patch_98 : decode um_F_patch.2.1 98 = .ok (.ireturn, 1) := by decide +kernel
theorem d_F_patch_99 : decode um_F_patch.2.1 99 = .ok (.aload_n 0, 1) := by decide +kernel
theorem d_F_patch_100 : decode um_F_patch.2.1 100 = .ok (.getfield 12, 3) := by decide +kernel
theorem d_F_patch_103 : decode um_F_patch.2.1 103 = .ok (.aload_n 1, 1) := by decide +kernel
theorem d_F_patch_104 : decode um_F_patch.2.1 104 = .ok (.iload_n 3, 1) := by decide +kernel
theorem d_F_patch_105 : decode um_F_patch.2.1 105 = .ok (.iload 5, 2) := by decide +kernel
theorem d_F_patch_107 : decode um_F_patch.2.1 107 = .ok (.invokevirtual 48, 3) := by decide +kernel
theorem d_F_patch_110 : decode um_F_patch.2.1 110 = .ok (.aload_n 0, 1) := by decide +kernel
theorem d_F_patch_111 : decode um_F_patch.2.1 111 = .ok (.invokevirtual 52, 3) := by decide +kernel
theorem d_F_patch_114 : decode um_F_patch.2.1 114 = .ok (.iload 5, 2) := by decide +kernel
theorem d_F_patch_116 : decode um_F_patch.2.1 116 = .ok (.aload_n 0, 1) := by decide +kernel
theorem d_F_patch_117 : decode um_F_patch.2.1 117 = .ok (.getfield 18, 3) := by decide +kernel
theorem d_F_patch_120 : decode um_F_patch.2.1 120 = .ok (.getfield 45, 3) := by decide +kernel
theorem d_F_patch_123 : decode um_F_patch.2.1 123 = .ok (.iadd, 1) := by decide +kernel
theorem d_F_patch_124 : decode um_F_patch.2.1 124 = .ok (.istore_n 3, 1) := by decide +kernel
theorem d_F_patch_125 : decode um_F_patch.2.1 125 = .ok (.iinc 2 1, 3) := by decide +kernel
theorem d_F_patch_128 : decode um_F_patch.2.1 128 = .ok (.goto (-103), 3) := by decide +kernel
theorem d_F_patch_131 : decode um_F_patch.2.1 131 = .ok (.aload_n 0, 1) := by decide +kernel
theorem d_F_patch_132 : decode um_F_patch.2.1 132 = .ok (.getfield 12, 3) := by decide +kernel
theorem d_F_patch_135 : decode um_F_patch.2.1 135 = .ok (.aload_n 1, 1) := by decide +kernel
theorem d_F_patch_136 : decode um_F_patch.2.1 136 = .ok (.iload_n 3, 1) := by decide +kernel
theorem d_F_patch_137 : decode um_F_patch.2.1 137 = .ok (.aload_n 1, 1) := by decide +kernel
theorem d_F_patch_138 : decode um_F_patch.2.1 138 = .ok (.getfield 22, 3) := by decide +kernel
theorem d_F_patch_141 : decode um_F_patch.2.1 141 = .ok (.invokevirtual 48, 3) := by decide +kernel
theorem d_F_patch_144 : decode um_F_patch.2.1 144 = .ok (.aload_n 1, 1) := by decide +kernel
theorem d_F_patch_145 : decode um_F_patch.2.1 145 = .ok (.aload_n 0, 1) := by decide +kernel
theorem d_F_patch_146 : decode um_F_patch.2.1 146 = .ok (.getfield 12, 3) := by decide +kernel
theorem d_F_patch_149 : decode um_F_patch.2.1 149 = .ok (.invokevirtual 55, 3) := by decide +kernel
theorem d_F_patch_152 : decode um_F_patch.2.1 152 = .ok (.iload_n 2, 1) := by decide +kernel
theorem d_F_patch_153 : decode um_F_patch.2.1 153 = .ok (.ireturn, 1) := by decide +kernel
theorem d_F_appendNewLines_0 : decode um_F_appendNewLines.2.1 0 = .ok (.iconst 0, 1) := by decide +kernel
theorem d_F_appendNewLines_1 : decode um_F_appendNewLines.2.1 1 = .ok (.istore_n 1, 1) := by decide +kernel
theorem d_F_appendNewLines_2 : decode um_F_appendNewLines.2.1 2 = .ok (.iload_n 1, 1) := by decide +kernel
theorem d_F_appendNewLines_3 : decode um_F_appendNewLines.2.1 3 = .ok (.aload_n 0, 1) := by decide +kernel
theorem d_F_appendNewLines_4 : decode um_F_appendNewLines.2.1 4 = .ok (.getfield 18, 3) := by decide +kernel
theorem d_F_appendNewLines_7 : decode um_F_appendNewLines.2.1 7 = .ok (.getfield 42, 3) := by decide +kernel
theorem d_F_appendNewLines_10 : decode um_F_appendNewLines.2.1 10 = .ok (.if_icmp .ge 25, 3) := by decide +kernel
theorem d_F_appendNewLines_13 : decode um_F_appendNewLines.2.1 13 = .ok (.aload_n 0, 1) := by decide +kernel
theorem d_F_appendNewLines_14 : decode um_F_appendNewLines.2.1 14 = .ok (.getfield 12, 3) := by decide +kernel
theorem d_F_appendNewLines_17 : decode um_F_appendNewLines.2.1 17 = .ok (.aload_n 0, 1) := by decide +kernel
theorem d_F_appendNewLines_18 : decode um_F_appendNewLines.2.1 18 = .ok (.getfield 18, 3) := by decide +kernel
theorem d_F_appendNewLines_21 : decode um_F_appendNewLines.2.1 21 = .ok (.getfield 59, 3) := by decide +kernel
theorem d_F_appendNewLines_24 : decode um_F_appendNewLines.2.1 24 = .ok (.iload_n 1, 1) := by decide +kernel
theorem d_F_appendNewLines_25 : decode um_F_appendNewLines.2.1 25 = .ok (.iaload, 1) := by decide +kernel
theorem d_F_appendNewLines_26 : decode um_F_appendNewLines.2.1 26 = .ok (.invokevirtual 63, 3) := by decide +kernel
theorem d_F_appendNewLines_29 : decode um_F_appendNewLines.2.1 29 = .ok (.iinc 1 1, 3) := by decide +kernel
theorem d_F_appendNewLines_32 : decode um_F_appendNewLines.2.1 32 = .ok (.goto (-30), 3) := by decide +kernel
theorem d_F_appendNewLines_35 : decode um_F_appendNewLines.2.1 35 = .ok (.return_, 1) := by decide +kernel
theorem d_F_nearestPlace_0 : decode um_F_nearestPlace.2.1 0 = .ok (.bipush (-3), 2) := by decide +kernel
theorem d_F_nearestPlace_2 : decode um_F_nearestPlace.2.1 2 = .ok (.istore_n 3, 1) := by decide +kernel
theorem d_F_nearestPlace_3 : decode um_F_nearestPlace.2.1 3 = .ok (.iload_n 2, 1) := by decide +kernel
theorem d_F_nearestPlace_4 : decode um_F_nearestPlace.2.1 4 = .ok (.istore 4, 2) := by decide +kernel
theorem d_F_nearestPlace_6 : decode um_F_nearestPlace.2.1 6 = .ok (.iload 4, 2) := by decide +kernel
theorem d_F_nearestPlace_8 : decode um_F_nearestPlace.2.1 8 = .ok (.aload_n 1, 1) := by decide +kernel
theorem d_F_nearestPlace_9 : decode um_F_nearestPlace.2.1 9 = .ok (.getfield 22, 3) := by decide +kernel
theorem d_F_nearestPlace_12 : decode um_F_nearestPlace.2.1 12 = .ok (.aload_n 0, 1) := by decide +kernel
theorem d_F_nearestPlace_13 : decode um_F_nearestPlace.2.1 13 = .ok (.getfield 18, 3) := by decide +kernel
theorem d_F_nearestPlace_16 : decode um_F_nearestPlace.2.1 16 = .ok (.getfield 45, 3) := by decide +kernel
theorem d_F_nearestPlace_19 : decode um_F_nearestPlace.2.1 19 = .ok (.isub, 1) := by decide +kernel
theorem d_F_nearestPlace_20 : decode um_F_nearestPlace.2.1 20 = .ok (.if_icmp .gt 54, 3) := by decide +kernel
theorem d_F_nearestPlace_23 : decode um_F_nearestPlace.2.1 23 = .ok (.iload_n 3, 1) := by decide +kernel
theorem d_F_nearestPlace_24 : decode um_F_nearestPlace.2.1 24 = .ok (.bipush (-3), 2) := by decide +kernel
theorem d_F_nearestPlace_26 : decode um_F_nearestPlace.2.1 26 = .ok (.if_icmp .eq 17, 3) := by decide +kernel
theorem d_F_nearestPlace_29 : decode um_F_nearestPlace.2.1 29 = .ok (.aload_n 0, 1) := by decide +kernel
theorem d_F_nearestPlace_30 : decode um_F_nearestPlace.2.1 30 = .ok (.iload 4, 2) := by decide +kernel
theorem d_F_nearestPlace_32 : decode um_F_nearestPlace.2.1 32 = .ok (.invokevirtual 67, 3) := by decide +kernel
theorem d_F_nearestPlace_35 : decode um_F_nearestPlace.2.1 35 = .ok (.aload_n 0, 1) := by decide +kernel
theorem d_F_nearestPlace_36 : decode um_F_nearestPlace.2.1 36 = .ok (.iload_n 3, 1) := by decide +kernel
theorem d_F_nearestPlace_37 : decode um_F_nearestPlace.2.1 37 = .ok (.invokevirtual 67, 3) := by decide +kernel
theorem d_F_nearestPlace_40 : decode um_F_nearestPlace.2.1 40 = .ok (.if_icmp .ge 7, 3) := by decide +kernel
theorem d_F_nearestPlace_43 : decode um_F_nearestPlace.2.1 43 = .ok (.iconst 1, 1) := by decide +kernel
theorem d_F_nearestPlace_44 : decode um_F_nearestPlace.2.1 44 = .ok (.goto 4, 3) := by decide +kernel
theorem d_F_nearestPlace_47 : decode um_F_nearestPlace.2.1 47 = .ok (.iconst 0, 1) := by decide +kernel
theorem d_F_nearestPlace_48 : decode um_F_nearestPlace.2.1 48 = .ok (.istore 5, 2) := by decide +kernel
theorem d_F_nearestPlace_50 : decode um_F_nearestPlace.2.1 50 = .ok (.iload 5, 2) := by decide +kernel
theorem d_F_nearestPlace_52 : decode um_F_nearestPlace.2.1 52 = .ok (.ifCond .eq 16, 3) := by decide +kernel
theorem d_F_nearestPlace_55 : decode um_F_nearestPlace.2.1 55 = .ok (.aload_n 0, 1) := by decide +kernel
theorem d_F_nearestPlace_56 : decode um_F_nearestPlace.2.1 56 = .ok (.aload_n 1, 1) := by decide +kernel
theorem d_F_nearestPlace_57 : decode um_F_nearestPlace.2.1 57 = .ok (.iload 4, 2) := by decide +kernel
theorem d_F_nearestPlace_59 : decode um_F_nearestPlace.2.1 59 = .ok (.invokevirtual 71, 3) := by decide +kernel
theorem d_F_nearestPlace_62 : decode um_F_nearestPlace.2.1 62 = .ok (.ifCond .eq 6, 3) := by decide +kernel
theorem d_F_nearestPlace_65 : decode um_F_nearestPlace.2.1 65 = .ok (.iload 4, 2) := by decide +kernel
theorem d_F_nearestPlace_67 : decode um_F_nearestPlace.2.1 67 = .ok (.istore_n 3, 1) := by decide +kernel
theorem d_F_nearestPlace_68 : decode um_F_nearestPlace.2.1 68 = .ok (.iinc 4 1, 3) := by decide +kernel
theorem d_F_nearestPlace_71 : decode um_F_nearestPlace.2.1 71 = .ok (.goto (-65), 3) := by decide +kernel
theorem d_F_nearestPlace_74 : decode um_F_nearestPlace.2.1 74 = .ok (.iload_n 3, 1) := by decide +kernel
theorem d_F_nearestPlace_75 : decode um_F_nearestPlace.2.1 75 = .ok (.ireturn, 1) := by decide +kernel
theorem d_F_distance_0 : decode um_F_distance.2.1 0 = .ok (.iload_n 1, 1) := by decide +kernel
theorem d_F_distance_1 : decode um_F_distance.2.1 1 = .ok (.aload_n 0, 1) := by decide +kernel
theorem d_F_distance_2 : decode um_F_distance.2.1 2 = .ok (.getfield 18, 3) := by decide +kernel
theorem d_F_distance_5 : decode um_F_distance.2.1 5 = .ok (.getfield 75, 3) := by decide +kernel
theorem d_F_distance_8 : decode um_F_distance.2.1 8 = .ok (.isub, 1) := by decide +kernel
theorem d_F_distance_9 : decode um_F_distance.2.1 9 = .ok (.invokestatic 78, 3) := by decide +kernel
theorem d_F_distance_12 : decode um_F_distance.2.1 12 = .ok (.ireturn, 1) := by decide +kernel
theorem d_F_fitsAt_0 : decode um_F_fitsAt.2.1 0 = .ok (.iconst 0, 1) := by decide +kernel
theorem d_F_fitsAt_1 : decode um_F_fitsAt.2.1 1 = .ok (.istore_n 3, 1) := by decide +kernel
theorem d_F_fitsAt_2 : decode um_F_fitsAt.2.1 2 = .ok (.iload_n 3, 1) := by decide +kernel
theorem d_F_fitsAt_3 : decode um_F_fitsAt.2.1 3 = .ok (.aload_n 0, 1) := by decide +kernel
theorem d_F_fitsAt_4 : decode um_F_fitsAt.2.1 4 = .ok (.getfield 18, 3) := by decide +kernel
theorem d_F_fitsAt_7 : decode um_F_fitsAt.2.1 7 = .ok (.getfield 45, 3) := by decide +kernel
theorem d_F_fitsAt_10 : decode um_F_fitsAt.2.1 10 = .ok (.if_icmp .ge 31, 3) := by decide +kernel
theorem d_F_fitsAt_13 : decode um_F_fitsAt.2.1 13 = .ok (.aload_n 1, 1) := by decide +kernel
theorem d_F_fitsAt_14 : decode um_F_fitsAt.2.1 14 = .ok (.getfield 83, 3) := by decide +kernel
theorem d_F_fitsAt_17 : decode um_F_fitsAt.2.1 17 = .ok (.iload_n 2, 1) := by decide +kernel
theorem d_F_fitsAt_18 : decode um_F_fitsAt.2.1 18 = .ok (.iload_n 3, 1) := by decide +kernel
theorem d_F_fitsAt_19 : decode um_F_fitsAt.2.1 19 = .ok (.iadd, 1) := by decide +kernel
theorem d_F_fitsAt_20 : decode um_F_fitsAt.2.1 20 = .ok (.iaload, 1) := by decide +kernel
theorem d_F_fitsAt_21 : decode um_F_fitsAt.2.1 21 = .ok (.aload_n 0, 1) := by decide +kernel
theorem d_F_fitsAt_22 : decode um_F_fitsAt.2.1 22 = .ok (.getfield 18, 3) := by decide +kernel
theorem d_F_fitsAt_25 : decode um_F_fitsAt.2.1 25 = .ok (.getfield 86, 3) := by decide +kernel
theorem d_F_fitsAt_28 : decode um_F_fitsAt.2.1 28 = .ok (.iload_n 3, 1) := by decide +kernel
theorem d_F_fitsAt_29 : decode um_F_fitsAt.2.1 29 = .ok (.iaload, 1) := by decide +kernel
theorem d_F_fitsAt_30 : decode um_F_fitsAt.2.1 30 = .ok (.if_icmp .eq 5, 3) := by decide +kernel
theorem d_F_fitsAt_33 : decode um_F_fitsAt.2.1 33 = .ok (.iconst 0, 1) := by decide +kernel
theorem d_F_fitsAt_34 : decode um_F_fitsAt.2.1 34 = .ok (.ireturn, 1) := by decide +kernel
theorem d_F_fitsAt_35 : decode um_F_fitsAt.2.1 35 = .ok (.iinc 3 1, 3) := by decide +kernel
theorem d_F_fitsAt_38 : decode um_F_fitsAt.2.1 38 = .ok (.goto (-36), 3) := by decide +kernel
theorem d_F_fitsAt_41 : decode um_F_fitsAt.2.1 41 = .ok (.iconst 1, 1) := by decide +kernel
theorem d_F_fitsAt_42 : decode um_F_fitsAt.2.1 42 = .ok (.ireturn, 1) := by decide +kernel
theorem d_Q_init_0 : decode um_Q_init.2.1 0 = .ok (.aload_n 0, 1) := by decide +kernel
theorem d_Q_init_1 : decode um_Q_init.2.1 1 = .ok (.invokespecial 1, 3) := by decide +kernel
theorem d_Q_init_4 : decode um_Q_init.2.1 4 = .ok (.aload_n 0, 1) := by decide +kernel
theorem d_Q_init_5 : decode um_Q_init.2.1 5 = .ok (.aload_n 1, 1) := by decide +kernel
theorem d_Q_init_6 : decode um_Q_init.2.1 6 = .ok (.putfield 7, 3) := by decide +kernel
theorem d_Q_init_9 : decode um_Q_init.2.1 9 = .ok (.return_, 1) := by decide +kernel
theorem d_Q_skipFirmLine_0 : decode um_Q_skipFirmLine.2.1 0 = .ok (.aload_n 0, 1) := by decide +kernel
theorem d_Q_skipFirmLine_1 : decode um_Q_skipFirmLine.2.1 1 = .ok (.aload_n 0, 1) := by decide +kernel
theorem d_Q_skipFirmLine_2 : decode um_Q_skipFirmLine.2.1 2 = .ok (.getfield 13, 3) := by decide +kernel
theorem d_Q_skipFirmLine_5 : decode um_Q_skipFirmLine.2.1 5 = .ok (.iconst 1, 1) := by decide +kernel
theorem d_Q_skipFirmLine_6 : decode um_Q_skipFirmLine.2.1 6 = .ok (.iadd, 1) := by decide +kernel
theorem d_Q_skipFirmLine_7 : decode um_Q_skipFirmLine.2.1 7 = .ok (.putfield 17, 3) := by decide +kernel
theorem d_Q_skipFirmLine_10 : decode um_Q_skipFirmLine.2.1 10 = .ok (.return_, 1) := by decide +kernel
theorem d_Q_isEqualTo_0 : decode um_Q_isEqualTo.2.1 0 = .ok (.aload_n 0, 1) := by decide +kernel
theorem d_Q_isEqualTo_1 : decode um_Q_isEqualTo.2.1 1 = .ok (.getfield 13, 3) := by decide +kernel
theorem d_Q_isEqualTo_4 : decode um_Q_isEqualTo.2.1 4 = .ok (.aload_n 0, 1) := by decide +kernel
theorem d_Q_isEqualTo_5 : decode um_Q_isEqualTo.2.1 5 = .ok (.getfield 17, 3) := by decide +kernel
theorem d_Q_isEqualTo_8 : decode um_Q_isEqualTo.2.1 8 = .ok (.isub, 1) := by decide +kernel
theorem d_Q_isEqualTo_9 : decode um_Q_isEqualTo.2.1 9 = .ok (.aload_n 1, 1) := by decide +kernel
theorem d_Q_isEqualTo_10 : decode um_Q_isEqualTo.2.1 10 = .ok (.getfield 13, 3) := by decide +kernel
theorem d_Q_isEqualTo_13 : decode um_Q_isEqualTo.2.1 13 = .ok (.aload_n 1, 1) := by decide +kernel
theorem d_Q_isEqualTo_14 : decode um_Q_isEqualTo.2.1 14 = .ok (.getfield 17, 3) := by decide +kernel
theorem d_Q_isEqualTo_17 : decode um_Q_isEqualTo.2.1 17 = .ok (.isub, 1) := by decide +kernel
theorem d_Q_isEqualTo_18 : decode um_Q_isEqualTo.2.1 18 = .ok (.if_icmp .eq 5, 3) := by decide +kernel
theorem d_Q_isEqualTo_21 : decode um_Q_isEqualTo.2.1 21 = .ok (.iconst 0, 1) := by decide +kernel
theorem d_Q_isEqualTo_22 : decode um_Q_isEqualTo.2.1 22 = .ok (.ireturn, 1) := by decide +kernel
theorem d_Q_isEqualTo_23 : decode um_Q_isEqualTo.2.1 23 = .ok (.aload_n 0, 1) := by decide +kernel
theorem d_Q_isEqualTo_24 : decode um_Q_isEqualTo.2.1 24 = .ok (.getfield 17, 3) := by decide +kernel
theorem d_Q_isEqualTo_27 : decode um_Q_isEqualTo.2.1 27 = .ok (.istore_n 2, 1) := by decide +kernel
theorem d_Q_isEqualTo_28 : decode um_Q_isEqualTo.2.1 28 = .ok (.iload_n 2, 1) := by decide +kernel
theorem d_Q_isEqualTo_29 : decode um_Q_isEqualTo.2.1 29 = .ok (.aload_n 0, 1) := by decide +kernel
theorem d_Q_isEqualTo_30 : decode um_Q_isEqualTo.2.1 30 = .ok (.getfield 13, 3) := by decide +kernel
theorem d_Q_isEqualTo_33 : decode um_Q_isEqualTo.2.1 33 = .ok (.if_icmp .ge 42, 3) := by decide +kernel
theorem d_Q_isEqualTo_36 : decode um_Q_isEqualTo.2.1 36 = .ok (.aload_n 0, 1) := by decide +kernel
theorem d_Q_isEqualTo_37 : decode um_Q_isEqualTo.2.1 37 = .ok (.getfield 7, 3) := by decide +kernel
theorem d_Q_isEqualTo_40 : decode um_Q_isEqualTo.2.1 40 = .ok (.getfield 20, 3) := by decide +kernel
theorem d_Q_isEqualTo_43 : decode um_Q_isEqualTo.2.1 43 = .ok (.iload_n 2, 1) := by decide +kernel
theorem d_Q_isEqualTo_44 : decode um_Q_isEqualTo.2.1 44 = .ok (.iaload, 1) := by decide +kernel
theorem d_Q_isEqualTo_45 : decode um_Q_isEqualTo.2.1 45 = .ok (.aload_n 1, 1) := by decide +kernel
theorem d_Q_isEqualTo_46 : decode um_Q_isEqualTo.2.1 46 = .ok (.getfield 7, 3) := by decide +kernel
theorem d_Q_isEqualTo_49 : decode um_Q_isEqualTo.2.1 49 = .ok (.getfield 20, 3) := by decide +kernel
theorem d_Q_isEqualTo_52 : decode um_Q_isEqualTo.2.1 52 = .ok (.aload_n 1, 1) := by decide +kernel
theorem d_Q_isEqualTo_53 : decode um_Q_isEqualTo.2.1 53 = .ok (.getfield 17, 3) := by decide +kernel
theorem d_Q_isEqualTo_56 : decode um_Q_isEqualTo.2.1 56 = .ok (.iload_n 2, 1) := by decide +kernel
theorem d_Q_isEqualTo_57 : decode um_Q_isEqualTo.2.1 57 = .ok (.iadd, 1) := by decide +kernel
theorem d_Q_isEqualTo_58 : decode um_Q_isEqualTo.2.1 58 = .ok (.aload_n 0, 1) := by decide +kernel
theorem d_Q_isEqualTo_59 : decode um_Q_isEqualTo.2.1 59 = .ok (.getfield 17, 3) := by decide +kernel
theorem d_Q_isEqualTo_62 : decode um_Q_isEqualTo.2.1 62 = .ok (.isub, 1) := by decide +kernel
theorem d_Q_isEqualTo_63 : decode um_Q_isEqualTo.2.1 63 = .ok (.iaload, 1) := by decide +kernel
theorem d_Q_isEqualTo_64 : decode um_Q_isEqualTo.2.1 64 = .ok (.if_icmp .eq 5, 3) := by decide +kernel
theorem d_Q_isEqualTo_67 : decode um_Q_isEqualTo.2.1 67 = .ok (.iconst 0, 1) := by decide +kernel
theorem d_Q_isEqualTo_68 : decode um_Q_isEqualTo.2.1 68 = .ok (.ireturn, 1) := by decide +kernel
theorem d_Q_isEqualTo_69 : decode um_Q_isEqualTo.2.1 69 = .ok (.iinc 2 1, 3) := by decide +kernel
theorem d_Q_isEqualTo_72 : decode um_Q_isEqualTo.2.1 72 = .ok (.goto (-44), 3) := by decide +kernel
theorem d_Q_isEqualTo_75 : decode um_Q_isEqualTo.2.1 75 = .ok (.iconst 1, 1) := by decide +kernel
theorem d_Q_isEqualTo_76 : decode um_Q_isEqualTo.2.1 76 = .ok (.ireturn, 1) := by decide +kernel
theorem d_G_init_0 : decode um_G_init.2.1 0 = .ok (.aload_n 0, 1) := by decide +kernel
theorem d_G_init_1 : decode um_G_init.2.1 1 = .ok (.invokespecial 3, 3) := by decide +kernel
theorem d_G_init_4 : decode um_G_init.2.1 4 = .ok (.aload_n 0, 1) := by decide +kernel
theorem d_G_init_5 : decode um_G_init.2.1 5 = .ok (.new 9, 3) := by decide +kernel
theorem d_G_init_8 : decode um_G_init.2.1 8 = .ok (.dup, 1) := by decide +kernel
theorem d_G_init_9 : decode um_G_init.2.1 9 = .ok (.invokespecial 11, 3) := by decide +kernel
theorem d_G_init_12 : decode um_G_init.2.1 12 = .ok (.putfield 12, 3) := by decide +kernel
theorem d_G_init_15 : decode um_G_init.2.1 15 = .ok (.aload_n 0, 1) := by decide +kernel
theorem d_G_init_16 : decode um_G_init.2.1 16 = .ok (.new 9, 3) := by decide +kernel
theorem d_G_init_19 : decode um_G_init.2.1 19 = .ok (.dup, 1) := by decide +kernel
theorem d_G_init_20 : decode um_G_init.2.1 20 = .ok (.invokespecial 11, 3) := by decide +kernel
theorem d_G_init_23 : decode um_G_init.2.1 23 = .ok (.putfield 18, 3) := by decide +kernel
theorem d_G_init_26 : decode um_G_init.2.1 26 = .ok (.aload_n 0, 1) := by decide +kernel
theorem d_G_init_27 : decode um_G_init.2.1 27 = .ok (.new 21, 3) := by decide +kernel
theorem d_G_init_30 : decode um_G_init.2.1 30 = .ok (.dup, 1) := by decide +kernel
theorem d_G_init_31 : decode um_G_init.2.1 31 = .ok (.aload_n 0, 1) := by decide +kernel
theorem d_G_init_32 : decode um_G_init.2.1 32 = .ok (.getfield 12, 3) := by decide +kernel
theorem d_G_init_35 : decode um_G_init.2.1 35 = .ok (.getfield 23, 3) := by decide +kernel
theorem d_G_init_38 : decode um_G_init.2.1 38 = .ok (.invokespecial 27, 3) := by decide +kernel
theorem d_G_init_41 : decode um_G_init.2.1 41 = .ok (.putfield 30, 3) := by decide +kernel
theorem d_G_init_44 : decode um_G_init.2.1 44 = .ok (.aload_n 0, 1) := by decide +kernel
theorem d_G_init_45 : decode um_G_init.2.1 45 = .ok (.new 21, 3) := by decide +kernel
theorem d_G_init_48 : decode um_G_init.2.1 48 = .ok (.dup, 1) := by decide +kernel
theorem d_G_init_49 : decode um_G_init.2.1 49 = .ok (.aload_n 0, 1) := by decide +kernel
theorem d_G_init_50 : decode um_G_init.2.1 50 = .ok (.getfield 12, 3) := by decide +kernel
theorem d_G_init_53 : decode um_G_init.2.1 53 = .ok (.getfield 34, 3) := by decide +kernel
theorem d_G_init_56 : decode um_G_init.2.1 56 = .ok (.invokespecial 27, 3) := by decide +kernel
theorem d_G_init_59 : decode um_G_init.2.1 59 = .ok (.putfield 37, 3) := by decide +kernel
theorem d_G_init_62 : decode um_G_init.2.1 62 = .ok (.aload_n 0, 1) := by decide +kernel
theorem d_G_init_63 : decode um_G_init.2.1 63 = .ok (.new 21, 3) := by decide +kernel
theorem d_G_init_66 : decode um_G_init.2.1 66 = .ok (.dup, 1) := by decide +kernel
theorem d_G_init_67 : decode um_G_init.2.1 67 = .ok (.aload_n 0, 1) := by decide +kernel
theorem d_G_init_68 : decode um_G_init.2.1 68 = .ok (.getfield 18, 3) := by decide +kernel
theorem d_G_init_71 : decode um_G_init.2.1 71 = .ok (.getfield 34, 3) := by decide +kernel
theorem d_G_init_74 : decode um_G_init.2.1 74 = .ok (.invokespecial 27, 3) := by decide +kernel
theorem d_G_init_77 : decode um_G_init.2.1 77 = .ok (.putfield 40, 3) := by decide +kernel
theorem d_G_init_80 : decode um_G_init.2.1 80 = .ok (.aload_n 0, 1) := by decide +kernel
theorem d_G_init_81 : decode um_G_init.2.1 81 = .ok (.new 43, 3) := by decide +kernel
theorem d_G_init_84 : decode um_G_init.2.1 84 = .ok (.dup, 1) := by decide +kernel
theorem d_G_init_85 : decode um_G_init.2.1 85 = .ok (.invokespecial 45, 3) := by decide +kernel
theorem d_G_init_88 : decode um_G_init.2.1 88 = .ok (.putfield 46, 3) := by decide +kernel
theorem d_G_init_91 : decode um_G_init.2.1 91 = .ok (.aload_n 0, 1) := by decide +kernel
theorem d_G_init_92 : decode um_G_init.2.1 92 = .ok (.aload_n 1, 1) := by decide +kernel
theorem d_G_init_93 : decode um_G_init.2.1 93 = .ok (.putfield 49, 3) := by decide +kernel
theorem d_G_init_96 : decode um_G_init.2.1 96 = .ok (.return_, 1) := by decide +kernel
theorem d_G_bringTogether_0 : decode um_G_bringTogether.2.1 0 = .ok (.aload_n 0, 1) := by decide +kernel
theorem d_G_bringTogether_1 : decode um_G_bringTogether.2.1 1 = .ok (.getfield 12, 3) := by decide +kernel
theorem d_G_bringTogether_4 : decode um_G_bringTogether.2.1 4 = .ok (.aload_n 1, 1) := by decide +kernel
theorem d_G_bringTogether_5 : decode um_G_bringTogether.2.1 5 = .ok (.aload_n 2, 1) := by decide +kernel
theorem d_G_bringTogether_6 : decode um_G_bringTogether.2.1 6 = .ok (.invokevirtual 53, 3) := by decide +kernel
theorem d_G_bringTogether_9 : decode um_G_bringTogether.2.1 9 = .ok (.aload_n 0, 1) := by decide +kernel
theorem d_G_bringTogether_10 : decode um_G_bringTogether.2.1 10 = .ok (.getfield 49, 3) := by decide +kernel
theorem d_G_bringTogether_13 : decode um_G_bringTogether.2.1 13 = .ok (.aload_n 0, 1) := by decide +kernel
theorem d_G_bringTogether_14 : decode um_G_bringTogether.2.1 14 = .ok (.getfield 12, 3) := by decide +kernel
theorem d_G_bringTogether_17 : decode um_G_bringTogether.2.1 17 = .ok (.invokevirtual 57, 3) := by decide +kernel
theorem d_G_bringTogether_20 : decode um_G_bringTogether.2.1 20 = .ok (.aload_n 0, 1) := by decide +kernel
theorem d_G_bringTogether_21 : decode um_G_bringTogether.2.1 21 = .ok (.getfield 18, 3) := by decide +kernel
theorem d_G_bringTogether_24 : decode um_G_bringTogether.2.1 24 = .ok (.aload_n 1, 1) := by decide +kernel
theorem d_G_bringTogether_25 : decode um_G_bringTogether.2.1 25 = .ok (.aload_n 3, 1) := by decide +kernel
theorem d_G_bringTogether_26 : decode um_G_bringTogether.2.1 26 = .ok (.invokevirtual 53, 3) := by decide +kernel
theorem d_G_bringTogether_29 : decode um_G_bringTogether.2.1 29 = .ok (.aload_n 0, 1) := by decide +kernel
theorem d_G_bringTogether_30 : decode um_G_bringTogether.2.1 30 = .ok (.getfield 49, 3) := by decide +kernel
theorem d_G_bringTogether_33 : decode um_G_bringTogether.2.1 33 = .ok (.aload_n 0, 1) := by decide +kernel
theorem d_G_bringTogether_34 : decode um_G_bringTogether.2.1 34 = .ok (.getfield 18, 3) := by decide +kernel
theorem d_G_bringTogether_37 : decode um_G_bringTogether.2.1 37 = .ok (.invokevirtual 57, 3) := by decide +kernel
theorem d_G_bringTogether_40 : decode um_G_bringTogether.2.1 40 = .ok (.aload_n 0, 1) := by decide +kernel
theorem d_G_bringTogether_41 : decode um_G_bringTogether.2.1 41 = .ok (.getfield 30, 3) := by decide +kernel
theorem d_G_bringTogether_44 : decode um_G_bringTogether.2.1 44 = .ok (.iconst 0, 1) := by decide +kernel
theorem d_G_bringTogether_45 : decode um_G_bringTogether.2.1 45 = .ok (.putfield 63, 3) := by decide +kernel
theorem d_G_bringTogether_48 : decode um_G_bringTogether.2.1 48 = .ok (.aload_n 0, 1) := by decide +kernel
theorem d_G_bringTogether_49 : decode um_G_bringTogether.2.1 49 = .ok (.getfield 37, 3) := by decide +kernel
theorem d_G_bringTogether_52 : decode um_G_bringTogether.2.1 52 = .ok (.iconst 0, 1) := by decide +kernel
theorem d_G_bringTogether_53 : decode um_G_bringTogether.2.1 53 = .ok (.putfield 63, 3) := by decide +kernel
theorem d_G_bringTogether_56 : decode um_G_bringTogether.2.1 56 = .ok (.aload_n 0, 1) := by decide +kernel
theorem d_G_bringTogether_57 : decode um_G_bringTogether.2.1 57 = .ok (.getfield 40, 3) := by decide +kernel
theorem d_G_bringTogether_60 : decode um_G_bringTogether.2.1 60 = .ok (.iconst 0, 1) := by decide +kernel
theorem d_G_bringTogether_61 : decode um_G_bringTogether.2.1 61 = .ok (.putfield 63, 3) := by decide +kernel
theorem d_G_bringTogether_64 : decode um_G_bringTogether.2.1 64 = .ok (.aload_n 0, 1) := by decide +kernel
theorem d_G_bringTogether_65 : decode um_G_bringTogether.2.1 65 = .ok (.getfield 46, 3) := by decide +kernel
theorem d_G_bringTogether_68 : decode um_G_bringTogether.2.1 68 = .ok (.iconst 0, 1) := by decide +kernel
theorem d_G_bringTogether_69 : decode um_G_bringTogether.2.1 69 = .ok (.putfield 67, 3) := by decide +kernel
theorem d_G_bringTogether_72 : decode um_G_bringTogether.2.1 72 = .ok (.aload_n 0, 1) := by decide +kernel
theorem d_G_bringTogether_73 : decode um_G_bringTogether.2.1 73 = .ok (.iconst 0, 1) := by decide +kernel
theorem d_G_bringTogether_74 : decode um_G_bringTogether.2.1 74 = .ok (.putfield 70, 3) := by decide +kernel
theorem d_G_bringTogether_77 : decode um_G_bringTogether.2.1 77 = .ok (.aload_n 0, 1) := by decide +kernel
theorem d_G_bringTogether_78 : decode um_G_bringTogether.2.1 78 = .ok (.iconst 0, 1) := by decide +kernel
theorem d_G_bringTogether_79 : decode um_G_bringTogether.2.1 79 = .ok (.putfield 73, 3) := by decide +kernel
theorem d_G_bringTogether_82 : decode um_G_bringTogether.2.1 82 = .ok (.iconst 0, 1) := by decide +kernel
theorem d_G_bringTogether_83 : decode um_G_bringTogether.2.1 83 = .ok (.istore 4, 2) := by decide +kernel
theorem d_G_bringTogether_85 : decode um_G_bringTogether.2.1 85 = .ok (.iload 4, 2) := by decide +kernel
theorem d_G_bringTogether_87 : decode um_G_bringTogether.2.1 87 = .ok (.aload_n 1, 1) := by decide +kernel
theorem d_G_bringTogether_88 : decode um_G_bringTogether.2.1 88 = .ok (.getfield 67, 3) := by decide +kernel
theorem d_G_bringTogether_91 : decode um_G_bringTogether.2.1 91 = .ok (.if_icmp .ge 72, 3) := by decide +kernel
theorem d_G_bringTogether_94 : decode um_G_bringTogether.2.1 94 = .ok (.aload_n 0, 1) := by decide +kernel
theorem d_G_bringTogether_95 : decode um_G_bringTogether.2.1 95 = .ok (.getfield 12, 3) := by decide +kernel
theorem d_G_bringTogether_98 : decode um_G_bringTogether.2.1 98 = .ok (.iload 4, 2) := by decide +kernel
theorem d_G_bringTogether_100 : decode um_G_bringTogether.2.1 100 = .ok (.invokevirtual 76, 3) := by decide +kernel
theorem d_G_bringTogether_103 : decode um_G_bringTogether.2.1 103 = .ok (.bipush (-3), 2) := by decide +kernel
theorem d_G_bringTogether_105 : decode um_G_bringTogether.2.1 105 = .ok (.if_icmp .eq 52, 3) := by decide +kernel
theorem d_G_bringTogether_108 : decode um_G_bringTogether.2.1 108 = .ok (.aload_n 0, 1) := by decide +kernel
theorem d_G_bringTogether_109 : decode um_G_bringTogether.2.1 109 = .ok (.getfield 18, 3) := by decide +kernel
theorem d_G_bringTogether_112 : decode um_G_bringTogether.2.1 112 = .ok (.iload 4, 2) := by decide +kernel
theorem d_G_bringTogether_114 : decode um_G_bringTogether.2.1 114 = .ok (.invokevirtual 76, 3) := by decide +kernel
theorem d_G_bringTogether_117 : decode um_G_bringTogether.2.1 117 = .ok (.bipush (-3), 2) := by decide +kernel
theorem d_G_bringTogether_119 : decode um_G_bringTogether.2.1 119 = .ok (.if_icmp .eq 38, 3) := by decide +kernel
theorem d_G_bringTogether_122 : decode um_G_bringTogether.2.1 122 = .ok (.aload_n 0, 1) := by decide +kernel
theorem d_G_bringTogether_123 : decode um_G_bringTogether.2.1 123 = .ok (.iload 4, 2) := by decide +kernel
theorem d_G_bringTogether_125 : decode um_G_bringTogether.2.1 125 = .ok (.aload_n 0, 1) := by decide +kernel
theorem d_G_bringTogether_126 : decode um_G_bringTogether.2.1 126 = .ok (.getfield 12, 3) := by decide +kernel
theorem d_G_bringTogether_129 : decode um_G_bringTogether.2.1 129 = .ok (.iload 4, 2) := by decide +kernel
theorem d_G_bringTogether_131 : decode um_G_bringTogether.2.1 131 = .ok (.invokevirtual 76, 3) := by decide +kernel
theorem d_G_bringTogether_134 : decode um_G_bringTogether.2.1 134 = .ok (.aload_n 0, 1) := by decide +kernel
theorem d_G_bringTogether_135 : decode um_G_bringTogether.2.1 135 = .ok (.getfield 18, 3) := by decide +kernel
theorem d_G_bringTogether_138 : decode um_G_bringTogether.2.1 138 = .ok (.iload 4, 2) := by decide +kernel
theorem d_G_bringTogether_140 : decode um_G_bringTogether.2.1 140 = .ok (.invokevirtual 76, 3) := by decide +kernel
theorem d_G_bringTogether_143 : decode um_G_bringTogether.2.1 143 = .ok (.invokevirtual 80, 3) := by decide +kernel
theorem d_G_bringTogether_146 : decode um_G_bringTogether.2.1 146 = .ok (.aload_n 0, 1) := by decide +kernel
theorem d_G_bringTogether_147 : decode um_G_bringTogether.2.1 147 = .ok (.aload_n 1, 1) := by decide +kernel
theorem d_G_bringTogether_148 : decode um_G_bringTogether.2.1 148 = .ok (.getfield 84, 3) := by decide +kernel
theorem d_G_bringTogether_151 : decode um_G_bringTogether.2.1 151 = .ok (.iload 4, 2) := by decide +kernel
theorem d_G_bringTogether_153 : decode um_G_bringTogether.2.1 153 = .ok (.iaload, 1) := by decide +kernel
theorem d_G_bringTogether_154 : decode um_G_bringTogether.2.1 154 = .ok (.invokevirtual 88, 3) := by decide +kernel
theorem d_G_bringTogether_157 : decode um_G_bringTogether.2.1 157 = .ok (.iinc 4 1, 3) := by decide +kernel
theorem d_G_bringTogether_160 : decode um_G_bringTogether.2.1 160 = .ok (.goto (-75), 3) := by decide +kernel
theorem d_G_bringTogether_163 : decode um_G_bringTogether.2.1 163 = .ok (.aload_n 0, 1) := by decide +kernel
theorem d_G_bringTogether_164 : decode um_G_bringTogether.2.1 164 = .ok (.aload_n 1, 1) := by decide +kernel
theorem d_G_bringTogether_165 : decode um_G_bringTogether.2.1 165 = .ok (.getfield 67, 3) := by decide +kernel
theorem d_G_bringTogether_168 : decode um_G_bringTogether.2.1 168 = .ok (.aload_n 2, 1) := by decide +kernel
theorem d_G_bringTogether_169 : decode um_G_bringTogether.2.1 169 = .ok (.getfield 67, 3) := by decide +kernel
theorem d_G_bringTogether_172 : decode um_G_bringTogether.2.1 172 = .ok (.aload_n 3, 1) := by decide +kernel
theorem d_G_bringTogether_173 : decode um_G_bringTogether.2.1 173 = .ok (.getfield 67, 3) := by decide +kernel
theorem d_G_bringTogether_176 : decode um_G_bringTogether.2.1 176 = .ok (.invokevirtual 80, 3) := by decide +kernel
theorem d_G_bringTogether_179 : decode um_G_bringTogether.2.1 179 = .ok (.aload_n 0, 1) := by decide +kernel
theorem d_G_bringTogether_180 : decode um_G_bringTogether.2.1 180 = .ok (.getfield 73, 3) := by decide +kernel
theorem d_G_bringTogether_183 : decode um_G_bringTogether.2.1 183 = .ok (.ireturn, 1) := by decide +kernel
theorem d_G_handOver_0 : decode um_G_handOver.2.1 0 = .ok (.aload_n 0, 1) := by decide +kernel
theorem d_G_handOver_1 : decode um_G_handOver.2.1 1 = .ok (.getfield 70, 3) := by decide +kernel
theorem d_G_handOver_4 : decode um_G_handOver.2.1 4 = .ok (.bipush 24, 2) := by decide +kernel
theorem d_G_handOver_6 : decode um_G_handOver.2.1 6 = .ok (.if_icmp .le 5, 3) := by decide +kernel
theorem d_G_handOver_9 : decode um_G_handOver.2.1 9 = .ok (.iconst 0, 1) := by decide +kernel
theorem d_G_handOver_10 : decode um_G_handOver.2.1 10 = .ok (.ireturn, 1) := by decide +kernel
theorem d_G_handOver_11 : decode um_G_handOver.2.1 11 = .ok (.aload_n 1, 1) := by decide +kernel
theorem d_G_handOver_12 : decode um_G_handOver.2.1 12 = .ok (.aload_n 0, 1) := by decide +kernel
theorem d_G_handOver_13 : decode um_G_handOver.2.1 13 = .ok (.getfield 46, 3) := by decide +kernel
theorem d_G_handOver_16 : decode um_G_handOver.2.1 16 = .ok (.invokevirtual 92, 3) := by decide +kernel
theorem d_G_handOver_19 : decode um_G_handOver.2.1 19 = .ok (.iconst 1, 1) := by decide +kernel
theorem d_G_handOver_20 : decode um_G_handOver.2.1 20 = .ok (.ireturn, 1) := by decide +kernel
theorem d_G_settleParts_0 : decode um_G_settleParts.2.1 0 = .ok (.aload_n 0, 1) := by decide +kernel
theorem d_G_settleParts_1 : decode um_G_settleParts.2.1 1 = .ok (.getfield 30, 3) := by decide +kernel
theorem d_G_settleParts_4 : decode um_G_settleParts.2.1 4 = .ok (.iload_n 1, 1) := by decide +kernel
theorem d_G_settleParts_5 : decode um_G_settleParts.2.1 5 = .ok (.putfield 95, 3) := by decide +kernel
theorem d_G_settleParts_8 : decode um_G_settleParts.2.1 8 = .ok (.aload_n 0, 1) := by decide +kernel
theorem d_G_settleParts_9 : decode um_G_settleParts.2.1 9 = .ok (.getfield 37, 3) := by decide +kernel
theorem d_G_settleParts_12 : decode um_G_settleParts.2.1 12 = .ok (.iload_n 2, 1) := by decide +kernel
theorem d_G_settleParts_13 : decode um_G_settleParts.2.1 13 = .ok (.putfield 95, 3) := by decide +kernel
theorem d_G_settleParts_16 : decode um_G_settleParts.2.1 16 = .ok (.aload_n 0, 1) := by decide +kernel
theorem d_G_settleParts_17 : decode um_G_settleParts.2.1 17 = .ok (.getfield 40, 3) := by decide +kernel
theorem d_G_settleParts_20 : decode um_G_settleParts.2.1 20 = .ok (.iload_n 3, 1) := by decide +kernel
theorem d_G_settleParts_21 : decode um_G_settleParts.2.1 21 = .ok (.putfield 95, 3) := by decide +kernel
theorem d_G_settleParts_24 : decode um_G_settleParts.2.1 24 = .ok (.aload_n 0, 1) := by decide +kernel
theorem d_G_settleParts_25 : decode um_G_settleParts.2.1 25 = .ok (.getfield 37, 3) := by decide +kernel
theorem d_G_settleParts_28 : decode um_G_settleParts.2.1 28 = .ok (.aload_n 0, 1) := by decide +kernel
theorem d_G_settleParts_29 : decode um_G_settleParts.2.1 29 = .ok (.getfield 30, 3) := by decide +kernel
theorem d_G_settleParts_32 : decode um_G_settleParts.2.1 32 = .ok (.invokevirtual 98, 3) := by decide +kernel
theorem d_G_settleParts_35 : decode um_G_settleParts.2.1 35 = .ok (.ifCond .eq 14, 3) := by decide +kernel
theorem d_G_settleParts_38 : decode um_G_settleParts.2.1 38 = .ok (.aload_n 0, 1) := by decide +kernel
theorem d_G_settleParts_39 : decode um_G_settleParts.2.1 39 = .ok (.aload_n 0, 1) := by decide +kernel
theorem d_G_settleParts_40 : decode um_G_settleParts.2.1 40 = .ok (.getfield 40, 3) := by decide +kernel
theorem d_G_settleParts_43 : decode um_G_settleParts.2.1 43 = .ok (.invokevirtual 102, 3) := by decide +kernel
theorem d_G_settleParts_46 : decode um_G_settleParts.2.1 46 = .ok (.goto 46, 3) := by decide +kernel
theorem d_G_settleParts_49 : decode um_G_settleParts.2.1 49 = .ok (.aload_n 0, 1) := by decide +kernel
theorem d_G_settleParts_50 : decode um_G_settleParts.2.1 50 = .ok (.getfield 40, 3) := by decide +kernel
theorem d_G_settleParts_53 : decode um_G_settleParts.2.1 53 = .ok (.aload_n 0, 1) := by decide +kernel
theorem d_G_settleParts_54 : decode um_G_settleParts.2.1 54 = .ok (.getfield 30, 3) := by decide +kernel
theorem d_G_settleParts_57 : decode um_G_settleParts.2.1 57 = .ok (.invokevirtual 98, 3) := by decide +kernel
theorem d_G_settleParts_60 : decode um_G_settleParts.2.1 60 = .ok (.ifCond .ne 17, 3) := by decide +kernel
theorem d_G_settleParts_63 : decode um_G_settleParts.2.1 63 = .ok (.aload_n 0, 1) := by decide +kernel
theorem d_G_settleParts_64 : decode um_G_settleParts.2.1 64 = .ok (.getfield 40, 3) := by decide +kernel
theorem d_G_settleParts_67 : decode um_G_settleParts.2.1 67 = .ok (.aload_n 0, 1) := by decide +kernel
theorem d_G_settleParts_68 : decode um_G_settleParts.2.1 68 = .ok (.getfield 37, 3) := by decide +kernel
theorem d_G_settleParts_71 : decode um_G_settleParts.2.1 71 = .ok (.invokevirtual 98, 3) := by decide +kernel
theorem d_G_settleParts_74 : decode um_G_settleParts.2.1 74 = .ok (.ifCond .eq 14, 3) := by decide +kernel
theorem d_G_settleParts_77 : decode um_G_settleParts.2.1 77 = .ok (.aload_n 0, 1) := by decide +kernel
theorem d_G_settleParts_78 : decode um_G_settleParts.2.1 78 = .ok (.aload_n 0, 1) := by decide +kernel
theorem d_G_settleParts_79 : decode um_G_settleParts.2.1 79 = .ok (.getfield 37, 3) := by decide +kernel
theorem d_G_settleParts_82 : decode um_G_settleParts.2.1 82 = .ok (.invokevirtual 102, 3) := by decide +kernel
theorem d_G_settleParts_85 : decode um_G_settleParts.2.1 85 = .ok (.goto 7, 3) := by decide +kernel
theorem d_G_settleParts_88 : decode um_G_settleParts.2.1 88 = .ok (.aload_n 0, 1) := by decide +kernel
theorem d_G_settleParts_89 : decode um_G_settleParts.2.1 89 = .ok (.invokevirtual 106, 3) := by decide +kernel
theorem d_G_settleParts_92 : decode um_G_settleParts.2.1 92 = .ok (.aload_n 0, 1) := by decide +kernel
theorem d_G_settleParts_93 : decode um_G_settleParts.2.1 93 = .ok (.getfield 30, 3) := by decide +kernel
theorem d_G_settleParts_96 : decode um_G_settleParts.2.1 96 = .ok (.invokevirtual 109, 3) := by decide +kernel
theorem d_G_settleParts_99 : decode um_G_settleParts.2.1 99 = .ok (.aload_n 0, 1) := by decide +kernel
theorem d_G_settleParts_100 : decode um_G_settleParts.2.1 100 = .ok (.getfield 37, 3) := by decide +kernel
theorem d_G_settleParts_103 : decode um_G_settleParts.2.1 103 = .ok (.invokevirtual 109, 3) := by decide +kernel
theorem d_G_settleParts_106 : decode um_G_settleParts.2.1 106 = .ok (.aload_n 0, 1) := by decide +kernel
theorem d_G_settleParts_107 : decode um_G_settleParts.2.1 107 = .ok (.getfield 40, 3) := by decide +kernel
theorem d_G_settleParts_110 : decode um_G_settleParts.2.1 110 = .ok (.invokevirtual 109, 3) := by decide +kernel
theorem d_G_settleParts_113 : decode um_G_settleParts.2.1 113 = .ok (.return_, 1) := by decide +kernel
theorem d_G_putConflict_0 : decode um_G_putConflict.2.1 0 = .ok (.aload_n 0, 1) := by decide +kernel
theorem d_G_putConflict_1 : decode um_G_putConflict.2.1 1 = .ok (.dup, 1) := by decide +kernel
theorem d_G_putConflict_2 : decode um_G_putConflict.2.1 2 = .ok (.getfield 73, 3) := by decide +kernel
theorem d_G_putConflict_5 : decode um_G_putConflict.2.1 5 = .ok (.iconst 1, 1) := by decide +kernel
theorem d_G_putConflict_6 : decode um_G_putConflict.2.1 6 = .ok (.iadd, 1) := by decide +kernel
theorem d_G_putConflict_7 : decode um_G_putConflict.2.1 7 = .ok (.putfield 73, 3) := by decide +kernel
theorem d_G_putConflict_10 : decode um_G_putConflict.2.1 10 = .ok (.aload_n 0, 1) := by decide +kernel
theorem d_G_putConflict_11 : decode um_G_putConflict.2.1 11 = .ok (.bipush 60, 2) := by decide +kernel
theorem d_G_putConflict_13 : decode um_G_putConflict.2.1 13 = .ok (.invokevirtual 88, 3) := by decide +kernel
theorem d_G_putConflict_16 : decode um_G_putConflict.2.1 16 = .ok (.aload_n 0, 1) := by decide +kernel
theorem d_G_putConflict_17 : decode um_G_putConflict.2.1 17 = .ok (.aload_n 0, 1) := by decide +kernel
theorem d_G_putConflict_18 : decode um_G_putConflict.2.1 18 = .ok (.getfield 37, 3) := by decide +kernel
theorem d_G_putConflict_21 : decode um_G_putConflict.2.1 21 = .ok (.invokevirtual 102, 3) := by decide +kernel
theorem d_G_putConflict_24 : decode um_G_putConflict.2.1 24 = .ok (.aload_n 0, 1) := by decide +kernel
theorem d_G_putConflict_25 : decode um_G_putConflict.2.1 25 = .ok (.bipush 61, 2) := by decide +kernel
theorem d_G_putConflict_27 : decode um_G_putConflict.2.1 27 = .ok (.invokevirtual 88, 3) := by decide +kernel
theorem d_G_putConflict_30 : decode um_G_putConflict.2.1 30 = .ok (.aload_n 0, 1) := by decide +kernel
theorem d_G_putConflict_31 : decode um_G_putConflict.2.1 31 = .ok (.aload_n 0, 1) := by decide +kernel
theorem d_G_putConflict_32 : decode um_G_putConflict.2.1 32 = .ok (.getfield 40, 3) := by decide +kernel
theorem d_G_putConflict_35 : decode um_G_putConflict.2.1 35 = .ok (.invokevirtual 102, 3) := by decide +kernel
theorem d_G_putConflict_38 : decode um_G_putConflict.2.1 38 = .ok (.aload_n 0, 1) := by decide +kernel
theorem d_G_putConflict_39 : decode um_G_putConflict.2.1 39 = .ok (.bipush 62, 2) := by decide +kernel
theorem d_G_putConflict_41 : decode um_G_putConflict.2.1 41 = .ok (.invokevirtual 88, 3) := by decide +kernel
theorem d_G_putConflict_44 : decode um_G_putConflict.2.1 44 = .ok (.return_, 1) := by decide +kernel
theorem d_G_putPart_0 : decode um_G_putPart.2.1 0 = .ok (.aload_n 1, 1) := by decide +kernel
theorem d_G_putPart_1 : decode um_G_putPart.2.1 1 = .ok (.getfield 63, 3) := by decide +kernel
theorem d_G_putPart_4 : decode um_G_putPart.2.1 4 = .ok (.istore_n 2, 1) := by decide +kernel
theorem d_G_putPart_5 : decode um_G_putPart.2.1 5 = .ok (.iload_n 2, 1) := by decide +kernel
theorem d_G_putPart_6 : decode um_G_putPart.2.1 6 = .ok (.aload_n 1, 1) := by decide +kernel
theorem d_G_putPart_7 : decode um_G_putPart.2.1 7 = .ok (.getfield 95, 3) := by decide +kernel
theorem d_G_putPart_10 : decode um_G_putPart.2.1 10 = .ok (.if_icmp .ge 22, 3) := by decide +kernel
theorem d_G_putPart_13 : decode um_G_putPart.2.1 13 = .ok (.aload_n 0, 1) := by decide +kernel
theorem d_G_putPart_14 : decode um_G_putPart.2.1 14 = .ok (.aload_n 1, 1) := by decide +kernel
theorem d_G_putPart_15 : decode um_G_putPart.2.1 15 = .ok (.getfield 112, 3) := by decide +kernel
theorem d_G_putPart_18 : decode um_G_putPart.2.1 18 = .ok (.getfield 84, 3) := by decide +kernel
theorem d_G_putPart_21 : decode um_G_putPart.2.1 21 = .ok (.iload_n 2, 1) := by decide +kernel
theorem d_G_putPart_22 : decode um_G_putPart.2.1 22 = .ok (.iaload, 1) := by decide +kernel
theorem d_G_putPart_23 : decode um_G_putPart.2.1 23 = .ok (.invokevirtual 88, 3) := by decide +kernel
theorem d_G_putPart_26 : decode um_G_putPart.2.1 26 = .ok (.iinc 2 1, 3) := by decide +kernel
theorem d_G_putPart_29 : decode um_G_putPart.2.1 29 = .ok (.goto (-24), 3) := by decide +kernel
theorem d_G_putPart_32 : decode um_G_putPart.2.1 32 = .ok (.return_, 1) := by decide +kernel
theorem d_G_put_0 : decode um_G_put.2.1 0 = .ok (.aload_n 0, 1) := by decide +kernel
theorem d_G_put_1 : decode um_G_put.2.1 1 = .ok (.getfield 46, 3) := by decide +kernel
theorem d_G_put_4 : decode um_G_put.2.1 4 = .ok (.iload_n 1, 1) := by decide +kernel
theorem d_G_put_5 : decode um_G_put.2.1 5 = .ok (.invokevirtual 115, 3) := by decide +kernel
theorem d_G_put_8 : decode um_G_put.2.1 8 = .ok (.aload_n 0, 1) := by decide +kernel
theorem d_G_put_9 : decode um_G_put.2.1 9 = .ok (.dup, 1) := by decide +kernel
theorem d_G_put_10 : decode um_G_put.2.1 10 = .ok (.getfield 70, 3) := by decide +kernel
theorem d_G_put_13 : decode um_G_put.2.1 13 = .ok (.iconst 1, 1) := by decide +kernel
theorem d_G_put_14 : decode um_G_put.2.1 14 = .ok (.iadd, 1) := by decide +kernel
theorem d_G_put_15 : decode um_G_put.2.1 15 = .ok (.putfield 70, 3) := by decide +kernel
theorem d_G_put_18 : decode um_G_put.2.1 18 = .ok (.return_, 1) := by decide +kernel
theorem d_M_init_0 : decode um_M_init.2.1 0 = .ok (.aload_n 0, 1) := by decide +kernel
theorem d_M_init_1 : decode um_M_init.2.1 1 = .ok (.invokespecial 1, 3) := by decide +kernel
theorem d_M_init_4 : decode um_M_init.2.1 4 = .ok (.aload_n 0, 1) := by decide +kernel
theorem d_M_init_5 : decode um_M_init.2.1 5 = .ok (.bipush 96, 2) := by decide +kernel
theorem d_M_init_7 : decode um_M_init.2.1 7 = .ok (.newarray .int, 2) := by decide +kernel
theorem d_M_init_9 : decode um_M_init.2.1 9 = .ok (.putfield 7, 3) := by decide +kernel
theorem d_M_init_12 : decode um_M_init.2.1 12 = .ok (.aload_n 0, 1) := by decide +kernel
theorem d_M_init_13 : decode um_M_init.2.1 13 = .ok (.iconst 4, 1) := by decide +kernel
theorem d_M_init_14 : decode um_M_init.2.1 14 = .ok (.newarray .int, 2) := by decide +kernel
theorem d_M_init_16 : decode um_M_init.2.1 16 = .ok (.putfield 13, 3) := by decide +kernel
theorem d_M_init_19 : decode um_M_init.2.1 19 = .ok (.aload_n 0, 1) := by decide +kernel
theorem d_M_init_20 : decode um_M_init.2.1 20 = .ok (.bipush 24, 2) := by decide +kernel
theorem d_M_init_22 : decode um_M_init.2.1 22 = .ok (.newarray .int, 2) := by decide +kernel
theorem d_M_init_24 : decode um_M_init.2.1 24 = .ok (.putfield 16, 3) := by decide +kernel
theorem d_M_init_27 : decode um_M_init.2.1 27 = .ok (.aload_n 0, 1) := by decide +kernel
theorem d_M_init_28 : decode um_M_init.2.1 28 = .ok (.bipush 24, 2) := by decide +kernel
theorem d_M_init_30 : decode um_M_init.2.1 30 = .ok (.newarray .int, 2) := by decide +kernel
theorem d_M_init_32 : decode um_M_init.2.1 32 = .ok (.putfield 19, 3) := by decide +kernel
theorem d_M_init_35 : decode um_M_init.2.1 35 = .ok (.aload_n 0, 1) := by decide +kernel
theorem d_M_init_36 : decode um_M_init.2.1 36 = .ok (.bipush 24, 2) := by decide +kernel
theorem d_M_init_38 : decode um_M_init.2.1 38 = .ok (.newarray .int, 2) := by decide +kernel
theorem d_M_init_40 : decode um_M_init.2.1 40 = .ok (.putfield 22, 3) := by decide +kernel
theorem d_M_init_43 : decode um_M_init.2.1 43 = .ok (.aload_n 0, 1) := by decide +kernel
theorem d_M_init_44 : decode um_M_init.2.1 44 = .ok (.sipush 625, 3) := by decide +kernel
theorem d_M_init_47 : decode um_M_init.2.1 47 = .ok (.newarray .int, 2) := by decide +kernel
theorem d_M_init_49 : decode um_M_init.2.1 49 = .ok (.putfield 25, 3) := by decide +kernel
theorem d_M_init_52 : decode um_M_init.2.1 52 = .ok (.aload_n 0, 1) := by decide +kernel
theorem d_M_init_53 : decode um_M_init.2.1 53 = .ok (.bipush 60, 2) := by decide +kernel
theorem d_M_init_55 : decode um_M_init.2.1 55 = .ok (.newarray .int, 2) := by decide +kernel
theorem d_M_init_57 : decode um_M_init.2.1 57 = .ok (.putfield 28, 3) := by decide +kernel
theorem d_M_init_60 : decode um_M_init.2.1 60 = .ok (.aload_n 0, 1) := by decide +kernel
theorem d_M_init_61 : decode um_M_init.2.1 61 = .ok (.bipush 60, 2) := by decide +kernel
theorem d_M_init_63 : decode um_M_init.2.1 63 = .ok (.newarray .int, 2) := by decide +kernel
theorem d_M_init_65 : decode um_M_init.2.1 65 = .ok (.putfield 31, 3) := by decide +kernel
theorem d_M_init_68 : decode um_M_init.2.1 68 = .ok (.aload_n 0, 1) := by decide +kernel
theorem d_M_init_69 : decode um_M_init.2.1 69 = .ok (.bipush 60, 2) := by decide +kernel
theorem d_M_init_71 : decode um_M_init.2.1 71 = .ok (.newarray .int, 2) := by decide +kernel
theorem d_M_init_73 : decode um_M_init.2.1 73 = .ok (.putfield 34, 3) := by decide +kernel
theorem d_M_init_76 : decode um_M_init.2.1 76 = .ok (.aload_n 0, 1) := by decide +kernel
theorem d_M_init_77 : decode um_M_init.2.1 77 = .ok (.bipush 60, 2) := by decide +kernel
theorem d_M_init_79 : decode um_M_init.2.1 79 = .ok (.newarray .int, 2) := by decide +kernel
theorem d_M_init_81 : decode um_M_init.2.1 81 = .ok (.putfield 37, 3) := by decide +kernel
theorem d_M_init_84 : decode um_M_init.2.1 84 = .ok (.aload_n 0, 1) := by decide +kernel
theorem d_M_init_85 : decode um_M_init.2.1 85 = .ok (.bipush 24, 2) := by decide +kernel
theorem d_M_init_87 : decode um_M_init.2.1 87 = .ok (.newarray .int, 2) := by decide +kernel
theorem d_M_init_89 : decode um_M_init.2.1 89 = .ok (.putfield 40, 3) := by decide +kernel
theorem d_M_init_92 : decode um_M_init.2.1 92 = .ok (.aload_n 0, 1) := by decide +kernel
theorem d_M_init_93 : decode um_M_init.2.1 93 = .ok (.bipush 24, 2) := by decide +kernel
theorem d_M_init_95 : decode um_M_init.2.1 95 = .ok (.newarray .int, 2) := by decide +kernel
theorem d_M_init_97 : decode um_M_init.2.1 97 = .ok (.putfield 43, 3) := by decide +kernel
theorem d_M_init_100 : decode um_M_init.2.1 100 = .ok (.aload_n 0, 1) := by decide +kernel
theorem d_M_init_101 : decode um_M_init.2.1 101 = .ok (.bipush 24, 2) := by decide +kernel
theorem d_M_init_103 : decode um_M_init.2.1 103 = .ok (.newarray .int, 2) := by decide +kernel
theorem d_M_init_105 : decode um_M_init.2.1 105 = .ok (.putfield 46, 3) := by decide +kernel
theorem d_M_init_108 : decode um_M_init.2.1 108 = .ok (.aload_n 0, 1) := by decide +kernel
theorem d_M_init_109 : decode um_M_init.2.1 109 = .ok (.bipush 24, 2) := by decide +kernel
theorem d_M_init_111 : decode um_M_init.2.1 111 = .ok (.newarray .int, 2) := by decide +kernel
theorem d_M_init_113 : decode um_M_init.2.1 113 = .ok (.putfield 49, 3) := by decide +kernel
theorem d_M_init_116 : decode um_M_init.2.1 116 = .ok (.aload_n 0, 1) := by decide +kernel
theorem d_M_init_117 : decode um_M_init.2.1 117 = .ok (.bipush 24, 2) := by decide +kernel
theorem d_M_init_119 : decode um_M_init.2.1 119 = .ok (.newarray .int, 2) := by decide +kernel
theorem d_M_init_121 : decode um_M_init.2.1 121 = .ok (.putfield 52, 3) := by decide +kernel
theorem d_M_init_124 : decode um_M_init.2.1 124 = .ok (.aload_n 0, 1) := by decide +kernel
theorem d_M_init_125 : decode um_M_init.2.1 125 = .ok (.bipush 48, 2) := by decide +kernel
theorem d_M_init_127 : decode um_M_init.2.1 127 = .ok (.newarray .int, 2) := by decide +kernel
theorem d_M_init_129 : decode um_M_init.2.1 129 = .ok (.putfield 55, 3) := by decide +kernel
theorem d_M_init_132 : decode um_M_init.2.1 132 = .ok (.aload_n 0, 1) := by decide +kernel
theorem d_M_init_133 : decode um_M_init.2.1 133 = .ok (.bipush 48, 2) := by decide +kernel
theorem d_M_init_135 : decode um_M_init.2.1 135 = .ok (.newarray .int, 2) := by decide +kernel
theorem d_M_init_137 : decode um_M_init.2.1 137 = .ok (.putfield 58, 3) := by decide +kernel
theorem d_M_init_140 : decode um_M_init.2.1 140 = .ok (.aload_n 0, 1) := by decide +kernel
theorem d_M_init_141 : decode um_M_init.2.1 141 = .ok (.sipush 900, 3) := by decide +kernel
theorem d_M_init_144 : decode um_M_init.2.1 144 = .ok (.newarray .int, 2) := by decide +kernel
theorem d_M_init_146 : decode um_M_init.2.1 146 = .ok (.putfield 61, 3) := by decide +kernel
theorem d_M_init_149 : decode um_M_init.2.1 149 = .ok (.aload_n 0, 1) := by decide +kernel
theorem d_M_init_150 : decode um_M_init.2.1 150 = .ok (.bipush 80, 2) := by decide +kernel
theorem d_M_init_152 : decode um_M_init.2.1 152 = .ok (.newarray .int, 2) := by decide +kernel
theorem d_M_init_154 : decode um_M_init.2.1 154 = .ok (.putfield 64, 3) := by decide +kernel
theorem d_M_init_157 : decode um_M_init.2.1 157 = .ok (.aload_n 0, 1) := by decide +kernel
theorem d_M_init_158 : decode um_M_init.2.1 158 = .ok (.bipush 80, 2) := by decide +kernel
theorem d_M_init_160 : decode um_M_init.2.1 160 = .ok (.newarray .int, 2) := by decide +kernel
theorem d_M_init_162 : decode um_M_init.2.1 162 = .ok (.putfield 67, 3) := by decide +kernel
theorem d_M_init_165 : decode um_M_init.2.1 165 = .ok (.aload_n 0, 1) := by decide +kernel
theorem d_M_init_166 : decode um_M_init.2.1 166 = .ok (.bipush 80, 2) := by decide +kernel
theorem d_M_init_168 : decode um_M_init.2.1 168 = .ok (.newarray .int, 2) := by decide +kernel
theorem d_M_init_170 : decode um_M_init.2.1 170 = .ok (.putfield 70, 3) := by decide +kernel
theorem d_M_init_173 : decode um_M_init.2.1 173 = .ok (.aload_n 0, 1) := by decide +kernel
theorem d_M_init_174 : decode um_M_init.2.1 174 = .ok (.bipush 80, 2) := by decide +kernel
theorem d_M_init_176 : decode um_M_init.2.1 176 = .ok (.newarray .int, 2) := by decide +kernel
theorem d_M_init_178 : decode um_M_init.2.1 178 = .ok (.putfield 73, 3) := by decide +kernel
theorem d_M_init_181 : decode um_M_init.2.1 181 = .ok (.aload_n 0, 1) := by decide +kernel
theorem d_M_init_182 : decode um_M_init.2.1 182 = .ok (.bipush 80, 2) := by decide +kernel
theorem d_M_init_184 : decode um_M_init.2.1 184 = .ok (.newarray .int, 2) := by decide +kernel
theorem d_M_init_186 : decode um_M_init.2.1 186 = .ok (.putfield 76, 3) := by decide +kernel
theorem d_M_init_189 : decode um_M_init.2.1 189 = .ok (.aload_n 0, 1) := by decide +kernel
theorem d_M_init_190 : decode um_M_init.2.1 190 = .ok (.bipush 80, 2) := by decide +kernel
theorem d_M_init_192 : decode um_M_init.2.1 192 = .ok (.newarray .int, 2) := by decide +kernel
theorem d_M_init_194 : decode um_M_init.2.1 194 = .ok (.putfield 79, 3) := by decide +kernel
theorem d_M_init_197 : decode um_M_init.2.1 197 = .ok (.aload_n 0, 1) := by decide +kernel
theorem d_M_init_198 : decode um_M_init.2.1 198 = .ok (.bipush 24, 2) := by decide +kernel
theorem d_M_init_200 : decode um_M_init.2.1 200 = .ok (.newarray .int, 2) := by decide +kernel
theorem d_M_init_202 : decode um_M_init.2.1 202 = .ok (.putfield 82, 3) := by decide +kernel
theorem d_M_init_205 : decode um_M_init.2.1 205 = .ok (.aload_n 0, 1) := by decide +kernel
theorem d_M_init_206 : decode um_M_init.2.1 206 = .ok (.bipush 24, 2) := by decide +kernel
theorem d_M_init_208 : decode um_M_init.2.1 208 = .ok (.newarray .int, 2) := by decide +kernel
theorem d_M_init_210 : decode um_M_init.2.1 210 = .ok (.putfield 85, 3) := by decide +kernel
theorem d_M_init_213 : decode um_M_init.2.1 213 = .ok (.return_, 1) := by decide +kernel
theorem d_M_within_0 : decode um_M_within.2.1 0 = .ok (.iload_n 0, 1) := by decide +kernel
theorem d_M_within_1 : decode um_M_within.2.1 1 = .ok (.iload_n 1, 1) := by decide +kernel
theorem d_M_within_2 : decode um_M_within.2.1 2 = .ok (.if_icmp .lt 12, 3) := by decide +kernel
theorem d_M_within_5 : decode um_M_within.2.1 5 = .ok (.iload_n 0, 1) := by decide +kernel
theorem d_M_within_6 : decode um_M_within.2.1 6 = .ok (.iload_n 2, 1) := by decide +kernel
theorem d_M_within_7 : decode um_M_within.2.1 7 = .ok (.if_icmp .gt 7, 3) := by decide +kernel
theorem d_M_within_10 : decode um_M_within.2.1 10 = .ok (.iconst 1, 1) := by decide +kernel
theorem d_M_within_11 : decode um_M_within.2.1 11 = .ok (.goto 4, 3) := by decide +kernel
theorem d_M_within_14 : decode um_M_within.2.1 14 = .ok (.iconst 0, 1) := by decide +kernel
theorem d_M_within_15 : decode um_M_within.2.1 15 = .ok (.ireturn, 1) := by decide +kernel
theorem d_M_isLetter_0 : decode um_M_isLetter.2.1 0 = .ok (.iload_n 0, 1) := by decide +kernel
theorem d_M_isLetter_1 : decode um_M_isLetter.2.1 1 = .ok (.bipush 97, 2) := by decide +kernel
theorem d_M_isLetter_3 : decode um_M_isLetter.2.1 3 = .ok (.bipush 122, 2) := by decide +kernel
theorem d_M_isLetter_5 : decode um_M_isLetter.2.1 5 = .ok (.invokestatic 88, 3) := by decide +kernel
theorem d_M_isLetter_8 : decode um_M_isLetter.2.1 8 = .ok (.ireturn, 1) := by decide +kernel
theorem d_M_add_0 : decode um_M_add.2.1 0 = .ok (.iload_n 1, 1) := by decide +kernel
theorem d_M_add_1 : decode um_M_add.2.1 1 = .ok (.iconst 0, 1) := by decide +kernel
theorem d_M_add_2 : decode um_M_add.2.1 2 = .ok (.iconst 3, 1) := by decide +kernel
theorem d_M_add_3 : decode um_M_add.2.1 3 = .ok (.invokestatic 88, 3) := by decide +kernel
theorem d_M_add_6 : decode um_M_add.2.1 6 = .ok (.ifCond .eq 18, 3) := by decide +kernel
theorem d_M_add_9 : decode um_M_add.2.1 9 = .ok (.iload 4, 2) := by decide +kernel
theorem d_M_add_11 : decode um_M_add.2.1 11 = .ok (.iconst 1, 1) := by decide +kernel
theorem d_M_add_12 : decode um_M_add.2.1 12 = .ok (.bipush 8, 2) := by decide +kernel
theorem d_M_add_14 : decode um_M_add.2.1 14 = .ok (.invokestatic 88, 3) := by decide +kernel
theorem d_M_add_17 : decode um_M_add.2.1 17 = .ok (.ifCond .eq 7, 3) := by decide +kernel
theorem d_M_add_20 : decode um_M_add.2.1 20 = .ok (.iconst 1, 1) := by decide +kernel
theorem d_M_add_21 : decode um_M_add.2.1 21 = .ok (.goto 4, 3) := by decide +kernel
theorem d_M_add_24 : decode um_M_add.2.1 24 = .ok (.iconst 0, 1) := by decide +kernel
theorem d_M_add_25 : decode um_M_add.2.1 25 = .ok (.istore 5, 2) := by decide +kernel
theorem d_M_add_27 : decode um_M_add.2.1 27 = .ok (.iconst 0, 1) := by decide +kernel
theorem d_M_add_28 : decode um_M_add.2.1 28 = .ok (.istore 6, 2) := by decide +kernel
theorem d_M_add_30 : decode um_M_add.2.1 30 = .ok (.iload 6, 2) := by decide +kernel
theorem d_M_add_32 : decode um_M_add.2.1 32 = .ok (.iload 4, 2) := by decide +kernel
theorem d_M_add_34 : decode um_M_add.2.1 34 = .ok (.if_icmp .ge 31, 3) := by decide +kernel
theorem d_M_add_37 : decode um_M_add.2.1 37 = .ok (.iload 5, 2) := by decide +kernel
theorem d_M_add_39 : decode um_M_add.2.1 39 = .ok (.ifCond .eq 26, 3) := by decide +kernel
theorem d_M_add_42 : decode um_M_add.2.1 42 = .ok (.lload_n 2, 1) := by decide +kernel
theorem d_M_add_43 : decode um_M_add.2.1 43 = .ok (.bipush 8, 2) := by decide +kernel
theorem d_M_add_45 : decode um_M_add.2.1 45 = .ok (.iload 6, 2) := by decide +kernel
theorem d_M_add_47 : decode um_M_add.2.1 47 = .ok (.imul, 1) := by decide +kernel
theorem d_M_add_48 : decode um_M_add.2.1 48 = .ok (.lshr, 1) := by decide +kernel
theorem d_M_add_49 : decode um_M_add.2.1 49 = .ok (.l2i, 1) := by decide +kernel
theorem d_M_add_50 : decode um_M_add.2.1 50 = .ok (.sipush 255, 3) := by decide +kernel
theorem d_M_add_53 : decode um_M_add.2.1 53 = .ok (.iand, 1) := by decide +kernel
theorem d_M_add_54 : decode um_M_add.2.1 54 = .ok (.invokestatic 92, 3) := by decide +kernel
theorem d_M_add_57 : decode um_M_add.2.1 57 = .ok (.istore 5, 2) := by decide +kernel
theorem d_M_add_59 : decode um_M_add.2.1 59 = .ok (.iinc 6 1, 3) := by decide +kernel
theorem d_M_add_62 : decode um_M_add.2.1 62 = .ok (.goto (-32), 3) := by decide +kernel
theorem d_M_add_65 : decode um_M_add.2.1 65 = .ok (.iload 5, 2) := by decide +kernel
theorem d_M_add_67 : decode um_M_add.2.1 67 = .ok (.ifCond .ne 5, 3) := by decide +kernel
theorem d_M_add_70 : decode um_M_add.2.1 70 = .ok (.iconst (-1), 1) := by decide +kernel
theorem d_M_add_71 : decode um_M_add.2.1 71 = .ok (.ireturn, 1) := by decide +kernel
theorem d_M_add_72 : decode um_M_add.2.1 72 = .ok (.aload_n 0, 1) := by decide +kernel
theorem d_M_add_73 : decode um_M_add.2.1 73 = .ok (.getfield 13, 3) := by decide +kernel
theorem d_M_add_76 : decode um_M_add.2.1 76 = .ok (.iload_n 1, 1) := by decide +kernel
theorem d_M_add_77 : decode um_M_add.2.1 77 = .ok (.iaload, 1) := by decide +kernel
theorem d_M_add_78 : decode um_M_add.2.1 78 = .ok (.iload 4, 2) := by decide +kernel
theorem d_M_add_80 : decode um_M_add.2.1 80 = .ok (.iadd, 1) := by decide +kernel
theorem d_M_add_81 : decode um_M_add.2.1 81 = .ok (.bipush 24, 2) := by decide +kernel
theorem d_M_add_83 : decode um_M_add.2.1 83 = .ok (.if_icmp .le 6, 3) := by decide +kernel
theorem d_M_add_86 : decode um_M_add.2.1 86 = .ok (.bipush (-2), 2) := by decide +kernel
theorem d_M_add_88 : decode um_M_add.2.1 88 = .ok (.ireturn, 1) := by decide +kernel
theorem d_M_add_89 : decode um_M_add.2.1 89 = .ok (.iload 4, 2) := by decide +kernel
theorem d_M_add_91 : decode um_M_add.2.1 91 = .ok (.iconst 1, 1) := by decide +kernel
theorem d_M_add_92 : decode um_M_add.2.1 92 = .ok (.isub, 1) := by decide +kernel
theorem d_M_add_93 : decode um_M_add.2.1 93 = .ok (.istore 6, 2) := by decide +kernel
theorem d_M_add_95 : decode um_M_add.2.1 95 = .ok (.iload 6, 2) := by decide +kernel
theorem d_M_add_97 : decode um_M_add.2.1 97 = .ok (.ifCond .lt 51, 3) := by decide +kernel
theorem d_M_add_100 : decode um_M_add.2.1 100 = .ok (.aload_n 0, 1) := by decide +kernel
theorem d_M_add_101 : decode um_M_add.2.1 101 = .ok (.getfield 7, 3) := by decide +kernel
theorem d_M_add_104 : decode um_M_add.2.1 104 = .ok (.bipush 24, 2) := by decide +kernel
theorem d_M_add_106 : decode um_M_add.2.1 106 = .ok (.iload_n 1, 1) := by decide +kernel
theorem d_M_add_107 : decode um_M_add.2.1 107 = .ok (.imul, 1) := by decide +kernel
theorem d_M_add_108 : decode um_M_add.2.1 108 = .ok (.aload_n 0, 1) := by decide +kernel
theorem d_M_add_109 : decode um_M_add.2.1 109 = .ok (.getfield 13, 3) := by decide +kernel
theorem d_M_add_112 : decode um_M_add.2.1 112 = .ok (.iload_n 1, 1) := by decide +kernel
theorem d_M_add_113 : decode um_M_add.2.1 113 = .ok (.iaload, 1) := by decide +kernel
theorem d_M_add_114 : decode um_M_add.2.1 114 = .ok (.iadd, 1) := by decide +kernel
theorem d_M_add_115 : decode um_M_add.2.1 115 = .ok (.lload_n 2, 1) := by decide +kernel
theorem d_M_add_116 : decode um_M_add.2.1 116 = .ok (.bipush 8, 2) := by decide +kernel
theorem d_M_add_118 : decode um_M_add.2.1 118 = .ok (.iload 6, 2) := by decide +kernel
theorem d_M_add_120 : decode um_M_add.2.1 120 = .ok (.imul, 1) := by decide +kernel
theorem d_M_add_121 : decode um_M_add.2.1 121 = .ok (.lshr, 1) := by decide +kernel
theorem d_M_add_122 : decode um_M_add.2.1 122 = .ok (.l2i, 1) := by decide +kernel
theorem d_M_add_123 : decode um_M_add.2.1 123 = .ok (.sipush 255, 3) := by decide +kernel
theorem d_M_add_126 : decode um_M_add.2.1 126 = .ok (.iand, 1) := by decide +kernel
theorem d_M_add_127 : decode um_M_add.2.1 127 = .ok (.iastore, 1) := by decide +kernel
theorem d_M_add_128 : decode um_M_add.2.1 128 = .ok (.aload_n 0, 1) := by decide +kernel
theorem d_M_add_129 : decode um_M_add.2.1 129 = .ok (.getfield 13, 3) := by decide +kernel
theorem d_M_add_132 : decode um_M_add.2.1 132 = .ok (.iload_n 1, 1) := by decide +kernel
theorem d_M_add_133 : decode um_M_add.2.1 133 = .ok (.aload_n 0, 1) := by decide +kernel
theorem d_M_add_134 : decode um_M_add.2.1 134 = .ok (.getfield 13, 3) := by decide +kernel
theorem d_M_add_137 : decode um_M_add.2.1 137 = .ok (.iload_n 1, 1) := by decide +kernel
theorem d_M_add_138 : decode um_M_add.2.1 138 = .ok (.iaload, 1) := by decide +kernel
theorem d_M_add_139 : decode um_M_add.2.1 139 = .ok (.iconst 1, 1) := by decide +kernel
theorem d_M_add_140 : decode um_M_add.2.1 140 = .ok (.iadd, 1) := by decide +kernel
theorem d_M_add_141 : decode um_M_add.2.1 141 = .ok (.iastore, 1) := by decide +kernel
theorem d_M_add_142 : decode um_M_add.2.1 142 = .ok (.iinc 6 (-1), 3) := by decide +kernel
theorem d_M_add_145 : decode um_M_add.2.1 145 = .ok (.goto (-50), 3) := by decide +kernel
theorem d_M_add_148 : decode um_M_add.2.1 148 = .ok (.aload_n 0, 1) := by decide +kernel
theorem d_M_add_149 : decode um_M_add.2.1 149 = .ok (.getfield 13, 3) := by decide +kernel
theorem d_M_add_152 : decode um_M_add.2.1 152 = .ok (.iload_n 1, 1) := by decide +kernel
theorem d_M_add_153 : decode um_M_add.2.1 153 = .ok (.iaload, 1) := by decide +kernel
theorem d_M_add_154 : decode um_M_add.2.1 154 = .ok (.ireturn, 1) := by decide +kernel
theorem d_M_clear_0 : decode um_M_clear.2.1 0 = .ok (.iload_n 1, 1) := by decide +kernel
theorem d_M_clear_1 : decode um_M_clear.2.1 1 = .ok (.iconst 0, 1) := by decide +kernel
theorem d_M_clear_2 : decode um_M_clear.2.1 2 = .ok (.iconst 3, 1) := by decide +kernel
theorem d_M_clear_3 : decode um_M_clear.2.1 3 = .ok (.invokestatic 88, 3) := by decide +kernel
theorem d_M_clear_6 : decode um_M_clear.2.1 6 = .ok (.ifCond .ne 5, 3) := by decide +kernel
theorem d_M_clear_9 : decode um_M_clear.2.1 9 = .ok (.iconst (-1), 1) := by decide +kernel
theorem d_M_clear_10 : decode um_M_clear.2.1 10 = .ok (.ireturn, 1) := by decide +kernel
theorem d_M_clear_11 : decode um_M_clear.2.1 11 = .ok (.aload_n 0, 1) := by decide +kernel
theorem d_M_clear_12 : decode um_M_clear.2.1 12 = .ok (.getfield 13, 3) := by decide +kernel
theorem d_M_clear_15 : decode um_M_clear.2.1 15 = .ok (.iload_n 1, 1) := by decide +kernel
theorem d_M_clear_16 : decode um_M_clear.2.1 16 = .ok (.iaload, 1) := by decide +kernel
theorem d_M_clear_17 : decode um_M_clear.2.1 17 = .ok (.istore_n 2, 1) := by decide +kernel
theorem d_M_clear_18 : decode um_M_clear.2.1 18 = .ok (.aload_n 0, 1) := by decide +kernel
theorem d_M_clear_19 : decode um_M_clear.2.1 19 = .ok (.getfield 13, 3) := by decide +kernel
theorem d_M_clear_22 : decode um_M_clear.2.1 22 = .ok (.iload_n 1, 1) := by decide +kernel
theorem d_M_clear_23 : decode um_M_clear.2.1 23 = .ok (.iconst 0, 1) := by decide +kernel
theorem d_M_clear_24 : decode um_M_clear.2.1 24 = .ok (.iastore, 1) := by decide +kernel
theorem d_M_clear_25 : decode um_M_clear.2.1 25 = .ok (.iload_n 2, 1) := by decide +kernel
theorem d_M_clear_26 : decode um_M_clear.2.1 26 = .ok (.ireturn, 1) := by decide +kernel
theorem d_M_size_0 : decode um_M_size.2.1 0 = .ok (.iload_n 1, 1) := by decide +kernel
theorem d_M_size_1 : decode um_M_size.2.1 1 = .ok (.iconst 0, 1) := by decide +kernel
theorem d_M_size_2 : decode um_M_size.2.1 2 = .ok (.iconst 3, 1) := by decide +kernel
theorem d_M_size_3 : decode um_M_size.2.1 3 = .ok (.invokestatic 88, 3) := by decide +kernel
theorem d_M_size_6 : decode um_M_size.2.1 6 = .ok (.ifCond .eq 12, 3) := by decide +kernel
theorem d_M_size_9 : decode um_M_size.2.1 9 = .ok (.aload_n 0, 1) := by decide +kernel
theorem d_M_size_10 : decode um_M_size.2.1 10 = .ok (.getfield 13, 3) := by decide +kernel
theorem d_M_size_13 : decode um_M_size.2.1 13 = .ok (.iload_n 1, 1) := by decide +kernel
theorem d_M_size_14 : decode um_M_size.2.1 14 = .ok (.iaload, 1) := by decide +kernel
theorem d_M_size_15 : decode um_M_size.2.1 15 = .ok (.goto 4, 3) := by decide +kernel
theorem d_M_size_18 : decode um_M_size.2.1 18 = .ok (.iconst (-1), 1) := by decide +kernel
theorem d_M_size_19 : decode um_M_size.2.1 19 = .ok (.ireturn, 1) := by decide +kernel
theorem d_M_line_0 : decode um_M_line.2.1 0 = .ok (.iload_n 1, 1) := by decide +kernel
theorem d_M_line_1 : decode um_M_line.2.1 1 = .ok (.iconst 0, 1) := by decide +kernel
theorem d_M_line_2 : decode um_M_line.2.1 2 = .ok (.iconst 3, 1) := by decide +kernel
theorem d_M_line_3 : decode um_M_line.2.1 3 = .ok (.invokestatic 88, 3) := by decide +kernel
theorem d_M_line_6 : decode um_M_line.2.1 6 = .ok (.ifCond .ne 7, 3) := by decide +kernel
theorem d_M_line_9 : decode um_M_line.2.1 9 = .ok (.iconst (-1), 1) := by decide +kernel
theorem d_M_line_10 : decode um_M_line.2.1 10 = .ok (.goto 35, 3) := by decide +kernel
theorem d_M_line_13 : decode um_M_line.2.1 13 = .ok (.iload_n 2, 1) := by decide +kernel
theorem d_M_line_14 : decode um_M_line.2.1 14 = .ok (.iconst 0, 1) := by decide +kernel
theorem d_M_line_15 : decode um_M_line.2.1 15 = .ok (.aload_n 0, 1) := by decide +kernel
theorem d_M_line_16 : decode um_M_line.2.1 16 = .ok (.getfield 13, 3) := by decide +kernel
theorem d_M_line_19 : decode um_M_line.2.1 19 = .ok (.iload_n 1, 1) := by decide +kernel
theorem d_M_line_20 : decode um_M_line.2.1 20 = .ok (.iaload, 1) := by decide +kernel
theorem d_M_line_21 : decode um_M_line.2.1 21 = .ok (.iconst 1, 1) := by decide +kernel
theorem d_M_line_22 : decode um_M_line.2.1 22 = .ok (.isub, 1) := by decide +kernel
theorem d_M_line_23 : decode um_M_line.2.1 23 = .ok (.invokestatic 88, 3) := by decide +kernel
theorem d_M_line_26 : decode um_M_line.2.1 26 = .ok (.ifCond .eq 17, 3) := by decide +kernel
theorem d_M_line_29 : decode um_M_line.2.1 29 = .ok (.aload_n 0, 1) := by decide +kernel
theorem d_M_line_30 : decode um_M_line.2.1 30 = .ok (.getfield 7, 3) := by decide +kernel
theorem d_M_line_33 : decode um_M_line.2.1 33 = .ok (.bipush 24, 2) := by decide +kernel
theorem d_M_line_35 : decode um_M_line.2.1 35 = .ok (.iload_n 1, 1) := by decide +kernel
theorem d_M_line_36 : decode um_M_line.2.1 36 = .ok (.imul, 1) := by decide +kernel
theorem d_M_line_37 : decode um_M_line.2.1 37 = .ok (.iload_n 2, 1) := by decide +kernel
theorem d_M_line_38 : decode um_M_line.2.1 38 = .ok (.iadd, 1) := by decide +kernel
theorem d_M_line_39 : decode um_M_line.2.1 39 = .ok (.iaload, 1) := by decide +kernel
theorem d_M_line_40 : decode um_M_line.2.1 40 = .ok (.goto 5, 3) := by decide +kernel
theorem d_M_line_43 : decode um_M_line.2.1 43 = .ok (.bipush (-3), 2) := by decide +kernel
theorem d_M_line_45 : decode um_M_line.2.1 45 = .ok (.ireturn, 1) := by decide +kernel
theorem d_M_allLetters_0 : decode um_M_allLetters.2.1 0 = .ok (.iconst 1, 1) := by decide +kernel
theorem d_M_allLetters_1 : decode um_M_allLetters.2.1 1 = .ok (.istore_n 2, 1) := by decide +kernel
theorem d_M_allLetters_2 : decode um_M_allLetters.2.1 2 = .ok (.iconst 0, 1) := by decide +kernel
theorem d_M_allLetters_3 : decode um_M_allLetters.2.1 3 = .ok (.istore_n 3, 1) := by decide +kernel
theorem d_M_allLetters_4 : decode um_M_allLetters.2.1 4 = .ok (.iload_n 3, 1) := by decide +kernel
theorem d_M_allLetters_5 : decode um_M_allLetters.2.1 5 = .ok (.aload_n 0, 1) := by decide +kernel
theorem d_M_allLetters_6 : decode um_M_allLetters.2.1 6 = .ok (.getfield 13, 3) := by decide +kernel
theorem d_M_allLetters_9 : decode um_M_allLetters.2.1 9 = .ok (.iload_n 1, 1) := by decide +kernel
theorem d_M_allLetters_10 : decode um_M_allLetters.2.1 10 = .ok (.iaload, 1) := by decide +kernel
theorem d_M_allLetters_11 : decode um_M_allLetters.2.1 11 = .ok (.if_icmp .ge 36, 3) := by decide +kernel
theorem d_M_allLetters_14 : decode um_M_allLetters.2.1 14 = .ok (.iload_n 2, 1) := by decide +kernel
theorem d_M_allLetters_15 : decode um_M_allLetters.2.1 15 = .ok (.ifCond .eq 24, 3) := by decide +kernel
theorem d_M_allLetters_18 : decode um_M_allLetters.2.1 18 = .ok (.aload_n 0, 1) := by decide +kernel
theorem d_M_allLetters_19 : decode um_M_allLetters.2.1 19 = .ok (.getfield 7, 3) := by decide +kernel
theorem d_M_allLetters_22 : decode um_M_allLetters.2.1 22 = .ok (.bipush 24, 2) := by decide +kernel
theorem d_M_allLetters_24 : decode um_M_allLetters.2.1 24 = .ok (.iload_n 1, 1) := by decide +kernel
theorem d_M_allLetters_25 : decode um_M_allLetters.2.1 25 = .ok (.imul, 1) := by decide +kernel
theorem d_M_allLetters_26 : decode um_M_allLetters.2.1 26 = .ok (.iload_n 3, 1) := by decide +kernel
theorem d_M_allLetters_27 : decode um_M_allLetters.2.1 27 = .ok (.iadd, 1) := by decide +kernel
theorem d_M_allLetters_28 : decode um_M_allLetters.2.1 28 = .ok (.iaload, 1) := by decide +kernel
theorem d_M_allLetters_29 : decode um_M_allLetters.2.1 29 = .ok (.invokestatic 92, 3) := by decide +kernel
theorem d_M_allLetters_32 : decode um_M_allLetters.2.1 32 = .ok (.ifCond .eq 7, 3) := by decide +kernel
theorem d_M_allLetters_35 : decode um_M_allLetters.2.1 35 = .ok (.iconst 1, 1) := by decide +kernel
theorem d_M_allLetters_36 : decode um_M_allLetters.2.1 36 = .ok (.goto 4, 3) := by decide +kernel
theorem d_M_allLetters_39 : decode um_M_allLetters.2.1 39 = .ok (.iconst 0, 1) := by decide +kernel
theorem d_M_allLetters_40 : decode um_M_allLetters.2.1 40 = .ok (.istore_n 2, 1) := by decide +kernel
theorem d_M_allLetters_41 : decode um_M_allLetters.2.1 41 = .ok (.iinc 3 1, 3) := by decide +kernel
theorem d_M_allLetters_44 : decode um_M_allLetters.2.1 44 = .ok (.goto (-40), 3) := by decide +kernel
theorem d_M_allLetters_47 : decode um_M_allLetters.2.1 47 = .ok (.iload_n 2, 1) := by decide +kernel
theorem d_M_allLetters_48 : decode um_M_allLetters.2.1 48 = .ok (.ireturn, 1) := by decide +kernel
theorem d_M_take_0 : decode um_M_take.2.1 0 = .ok (.aload_n 0, 1) := by decide +kernel
theorem d_M_take_1 : decode um_M_take.2.1 1 = .ok (.aload_n 0, 1) := by decide +kernel
theorem d_M_take_2 : decode um_M_take.2.1 2 = .ok (.getfield 13, 3) := by decide +kernel
theorem d_M_take_5 : decode um_M_take.2.1 5 = .ok (.iload_n 1, 1) := by decide +kernel
theorem d_M_take_6 : decode um_M_take.2.1 6 = .ok (.iaload, 1) := by decide +kernel
theorem d_M_take_7 : decode um_M_take.2.1 7 = .ok (.putfield 96, 3) := by decide +kernel
theorem d_M_take_10 : decode um_M_take.2.1 10 = .ok (.aload_n 0, 1) := by decide +kernel
theorem d_M_take_11 : decode um_M_take.2.1 11 = .ok (.aload_n 0, 1) := by decide +kernel
theorem d_M_take_12 : decode um_M_take.2.1 12 = .ok (.getfield 13, 3) := by decide +kernel
theorem d_M_take_15 : decode um_M_take.2.1 15 = .ok (.iload_n 2, 1) := by decide +kernel
theorem d_M_take_16 : decode um_M_take.2.1 16 = .ok (.iaload, 1) := by decide +kernel
theorem d_M_take_17 : decode um_M_take.2.1 17 = .ok (.putfield 100, 3) := by decide +kernel
theorem d_M_take_20 : decode um_M_take.2.1 20 = .ok (.iconst 0, 1) := by decide +kernel
theorem d_M_take_21 : decode um_M_take.2.1 21 = .ok (.istore_n 3, 1) := by decide +kernel
theorem d_M_take_22 : decode um_M_take.2.1 22 = .ok (.iload_n 3, 1) := by decide +kernel
theorem d_M_take_23 : decode um_M_take.2.1 23 = .ok (.aload_n 0, 1) := by decide +kernel
theorem d_M_take_24 : decode um_M_take.2.1 24 = .ok (.getfield 96, 3) := by decide +kernel
theorem d_M_take_27 : decode um_M_take.2.1 27 = .ok (.if_icmp .ge 33, 3) := by decide +kernel
theorem d_M_take_30 : decode um_M_take.2.1 30 = .ok (.aload_n 0, 1) := by decide +kernel
theorem d_M_take_31 : decode um_M_take.2.1 31 = .ok (.getfield 16, 3) := by decide +kernel
theorem d_M_take_34 : decode um_M_take.2.1 34 = .ok (.iload_n 3, 1) := by decide +kernel
theorem d_M_take_35 : decode um_M_take.2.1 35 = .ok (.aload_n 0, 1) := by decide +kernel
theorem d_M_take_36 : decode um_M_take.2.1 36 = .ok (.getfield 7, 3) := by decide +kernel
theorem d_M_take_39 : decode um_M_take.2.1 39 = .ok (.bipush 24, 2) := by decide +kernel
theorem d_M_take_41 : decode um_M_take.2.1 41 = .ok (.iload_n 1, 1) := by decide +kernel
theorem d_M_take_42 : decode um_M_take.2.1 42 = .ok (.imul, 1) := by decide +kernel
theorem d_M_take_43 : decode um_M_take.2.1 43 = .ok (.iload_n 3, 1) := by decide +kernel
theorem d_M_take_44 : decode um_M_take.2.1 44 = .ok (.iadd, 1) := by decide +kernel
theorem d_M_take_45 : decode um_M_take.2.1 45 = .ok (.iaload, 1) := by decide +kernel
theorem d_M_take_46 : decode um_M_take.2.1 46 = .ok (.iastore, 1) := by decide +kernel
theorem d_M_take_47 : decode um_M_take.2.1 47 = .ok (.aload_n 0, 1) := by decide +kernel
theorem d_M_take_48 : decode um_M_take.2.1 48 = .ok (.getfield 22, 3) := by decide +kernel
theorem d_M_take_51 : decode um_M_take.2.1 51 = .ok (.iload_n 3, 1) := by decide +kernel
theorem d_M_take_52 : decode um_M_take.2.1 52 = .ok (.iconst (-1), 1) := by decide +kernel
theorem d_M_take_53 : decode um_M_take.2.1 53 = .ok (.iastore, 1) := by decide +kernel
theorem d_M_take_54 : decode um_M_take.2.1 54 = .ok (.iinc 3 1, 3) := by decide +kernel
theorem d_M_take_57 : decode um_M_take.2.1 57 = .ok (.goto (-35), 3) := by decide +kernel
theorem d_M_take_60 : decode um_M_take.2.1 60 = .ok (.iconst 0, 1) := by decide +kernel
theorem d_M_take_61 : decode um_M_take.2.1 61 = .ok (.istore_n 3, 1) := by decide +kernel
theorem d_M_take_62 : decode um_M_take.2.1 62 = .ok (.iload_n 3, 1) := by decide +kernel
theorem d_M_take_63 : decode um_M_take.2.1 63 = .ok (.aload_n 0, 1) := by decide +kernel
theorem d_M_take_64 : decode um_M_take.2.1 64 = .ok (.getfield 100, 3) := by decide +kernel
theorem d_M_take_67 : decode um_M_take.2.1 67 = .ok (.if_icmp .ge 26, 3) := by decide +kernel
theorem d_M_take_70 : decode um_M_take.2.1 70 = .ok (.aload_n 0, 1) := by decide +kernel
theorem d_M_take_71 : decode um_M_take.2.1 71 = .ok (.getfield 19, 3) := by decide +kernel
theorem d_M_take_74 : decode um_M_take.2.1 74 = .ok (.iload_n 3, 1) := by decide +kernel
theorem d_M_take_75 : decode um_M_take.2.1 75 = .ok (.aload_n 0, 1) := by decide +kernel
theorem d_M_take_76 : decode um_M_take.2.1 76 = .ok (.getfield 7, 3) := by decide +kernel
theorem d_M_take_79 : decode um_M_take.2.1 79 = .ok (.bipush 24, 2) := by decide +kernel
theorem d_M_take_81 : decode um_M_take.2.1 81 = .ok (.iload_n 2, 1) := by decide +kernel
theorem d_M_take_82 : decode um_M_take.2.1 82 = .ok (.imul, 1) := by decide +kernel
theorem d_M_take_83 : decode um_M_take.2.1 83 = .ok (.iload_n 3, 1) := by decide +kernel
theorem d_M_take_84 : decode um_M_take.2.1 84 = .ok (.iadd, 1) := by decide +kernel
theorem d_M_take_85 : decode um_M_take.2.1 85 = .ok (.iaload, 1) := by decide +kernel
theorem d_M_take_86 : decode um_M_take.2.1 86 = .ok (.iastore, 1) := by decide +kernel
theorem d_M_take_87 : decode um_M_take.2.1 87 = .ok (.iinc 3 1, 3) := by decide +kernel
theorem d_M_take_90 : decode um_M_take.2.1 90 = .ok (.goto (-28), 3) := by decide +kernel
theorem d_M_take_93 : decode um_M_take.2.1 93 = .ok (.return_, 1) := by decide +kernel
theorem d_M_compareShort_0 : decode um_M_compareShort.2.1 0 = .ok (.iload_n 2, 1) := by decide +kernel
theorem d_M_compareShort_1 : decode um_M_compareShort.2.1 1 = .ok (.istore 5, 2) := by decide +kernel
theorem d_M_compareShort_3 : decode um_M_compareShort.2.1 3 = .ok (.iload 5, 2) := by decide +kernel
theorem d_M_compareShort_5 : decode um_M_compareShort.2.1 5 = .ok (.iload_n 1, 1) := by decide +kernel
theorem d_M_compareShort_6 : decode um_M_compareShort.2.1 6 = .ok (.if_icmp .lt 164, 3) := by decide +kernel
theorem d_M_compareShort_9 : decode um_M_compareShort.2.1 9 = .ok (.iload 4, 2) := by decide +kernel
theorem d_M_compareShort_11 : decode um_M_compareShort.2.1 11 = .ok (.istore 6, 2) := by decide +kernel
theorem d_M_compareShort_13 : decode um_M_compareShort.2.1 13 = .ok (.iload 6, 2) := by decide +kernel
theorem d_M_compareShort_15 : decode um_M_compareShort.2.1 15 = .ok (.iload_n 3, 1) := by decide +kernel
theorem d_M_compareShort_16 : decode um_M_compareShort.2.1 16 = .ok (.if_icmp .lt 148, 3) := by decide +kernel
theorem d_M_compareShort_19 : decode um_M_compareShort.2.1 19 = .ok (.iconst 0, 1) := by decide +kernel
theorem d_M_compareShort_20 : decode um_M_compareShort.2.1 20 = .ok (.istore 7, 2) := by decide +kernel
theorem d_M_compareShort_22 : decode um_M_compareShort.2.1 22 = .ok (.iload 5, 2) := by decide +kernel
theorem d_M_compareShort_24 : decode um_M_compareShort.2.1 24 = .ok (.iload_n 2, 1) := by decide +kernel
theorem d_M_compareShort_25 : decode um_M_compareShort.2.1 25 = .ok (.if_icmp .ge 118, 3) := by decide +kernel
theorem d_M_compareShort_28 : decode um_M_compareShort.2.1 28 = .ok (.iload 6, 2) := by decide +kernel
theorem d_M_compareShort_30 : decode um_M_compareShort.2.1 30 = .ok (.iload 4, 2) := by decide +kernel
theorem d_M_compareShort_32 : decode um_M_compareShort.2.1 32 = .ok (.if_icmp .ge 111, 3) := by decide +kernel
theorem d_M_compareShort_35 : decode um_M_compareShort.2.1 35 = .ok (.aload_n 0, 1) := by decide +kernel
theorem d_M_compareShort_36 : decode um_M_compareShort.2.1 36 = .ok (.getfield 25, 3) := by decide +kernel
theorem d_M_compareShort_39 : decode um_M_compareShort.2.1 39 = .ok (.bipush 25, 2) := by decide +kernel
theorem d_M_compareShort_41 : decode um_M_compareShort.2.1 41 = .ok (.iload 5, 2) := by decide +kernel
theorem d_M_compareShort_43 : decode um_M_compareShort.2.1 43 = .ok (.imul, 1) := by decide +kernel
theorem d_M_compareShort_44 : decode um_M_compareShort.2.1 44 = .ok (.bipush 25, 2) := by decide +kernel
theorem d_M_compareShort_46 : decode um_M_compareShort.2.1 46 = .ok (.iadd, 1) := by decide +kernel
theorem d_M_compareShort_47 : decode um_M_compareShort.2.1 47 = .ok (.iload 6, 2) := by decide +kernel
theorem d_M_compareShort_49 : decode um_M_compareShort.2.1 49 = .ok (.iadd, 1) := by decide +kernel
theorem d_M_compareShort_50 : decode um_M_compareShort.2.1 50 = .ok (.iaload, 1) := by decide +kernel
theorem d_M_compareShort_51 : decode um_M_compareShort.2.1 51 = .ok (.istore 8, 2) := by decide +kernel
theorem d_M_compareShort_53 : decode um_M_compareShort.2.1 53 = .ok (.aload_n 0, 1) := by decide +kernel
theorem d_M_compareShort_54 : decode um_M_compareShort.2.1 54 = .ok (.getfield 25, 3) := by decide +kernel
theorem d_M_compareShort_57 : decode um_M_compareShort.2.1 57 = .ok (.bipush 25, 2) := by decide +kernel
theorem d_M_compareShort_59 : decode um_M_compareShort.2.1 59 = .ok (.iload 5, 2) := by decide +kernel
theorem d_M_compareShort_61 : decode um_M_compareShort.2.1 61 = .ok (.imul, 1) := by decide +kernel
theorem d_M_compareShort_62 : decode um_M_compareShort.2.1 62 = .ok (.iload 6, 2) := by decide +kernel
theorem d_M_compareShort_64 : decode um_M_compareShort.2.1 64 = .ok (.iadd, 1) := by decide +kernel
theorem d_M_compareShort_65 : decode um_M_compareShort.2.1 65 = .ok (.iconst 1, 1) := by decide +kernel
theorem d_M_compareShort_66 : decode um_M_compareShort.2.1 66 = .ok (.iadd, 1) := by decide +kernel
theorem d_M_compareShort_67 : decode um_M_compareShort.2.1 67 = .ok (.iaload, 1) := by decide +kernel
theorem d_M_compareShort_68 : decode um_M_compareShort.2.1 68 = .ok (.istore 9, 2) := by decide +kernel
theorem d_M_compareShort_70 : decode um_M_compareShort.2.1 70 = .ok (.aload_n 0, 1) := by decide +kernel
theorem d_M_compareShort_71 : decode um_M_compareShort.2.1 71 = .ok (.getfield 16, 3) := by decide +kernel
theorem d_M_compareShort_74 : decode um_M_compareShort.2.1 74 = .ok (.iload 5, 2) := by decide +kernel
theorem d_M_compareShort_76 : decode um_M_compareShort.2.1 76 = .ok (.iaload, 1) := by decide +kernel
theorem d_M_compareShort_77 : decode um_M_compareShort.2.1 77 = .ok (.aload_n 0, 1) := by decide +kernel
theorem d_M_compareShort_78 : decode um_M_compareShort.2.1 78 = .ok (.getfield 19, 3) := by decide +kernel
theorem d_M_compareShort_81 : decode um_M_compareShort.2.1 81 = .ok (.iload 6, 2) := by decide +kernel
theorem d_M_compareShort_83 : decode um_M_compareShort.2.1 83 = .ok (.iaload, 1) := by decide +kernel
theorem d_M_compareShort_84 : decode um_M_compareShort.2.1 84 = .ok (.if_icmp .ne 24, 3) := by decide +kernel
theorem d_M_compareShort_87 : decode um_M_compareShort.2.1 87 = .ok (.aload_n 0, 1) := by decide +kernel
theorem d_M_compareShort_88 : decode um_M_compareShort.2.1 88 = .ok (.getfield 25, 3) := by decide +kernel
theorem d_M_compareShort_91 : decode um_M_compareShort.2.1 91 = .ok (.bipush 25, 2) := by decide +kernel
theorem d_M_compareShort_93 : decode um_M_compareShort.2.1 93 = .ok (.iload 5, 2) := by decide +kernel
theorem d_M_compareShort_95 : decode um_M_compareShort.2.1 95 = .ok (.imul, 1) := by decide +kernel
theorem d_M_compareShort_96 : decode um_M_compareShort.2.1 96 = .ok (.bipush 26, 2) := by decide +kernel
theorem d_M_compareShort_98 : decode um_M_compareShort.2.1 98 = .ok (.iadd, 1) := by decide +kernel
theorem d_M_compareShort_99 : decode um_M_compareShort.2.1 99 = .ok (.iload 6, 2) := by decide +kernel
theorem d_M_compareShort_101 : decode um_M_compareShort.2.1 101 = .ok (.iadd, 1) := by decide +kernel
theorem d_M_compareShort_102 : decode um_M_compareShort.2.1 102 = .ok (.iaload, 1) := by decide +kernel
theorem d_M_compareShort_103 : decode um_M_compareShort.2.1 103 = .ok (.iconst 1, 1) := by decide +kernel
theorem d_M_compareShort_104 : decode um_M_compareShort.2.1 104 = .ok (.iadd, 1) := by decide +kernel
theorem d_M_compareShort_105 : decode um_M_compareShort.2.1 105 = .ok (.goto 4, 3) := by decide +kernel
theorem d_M_compareShort_108 : decode um_M_compareShort.2.1 108 = .ok (.iconst 0, 1) := by decide +kernel
theorem d_M_compareShort_109 : decode um_M_compareShort.2.1 109 = .ok (.istore 10, 2) := by decide +kernel
theorem d_M_compareShort_111 : decode um_M_compareShort.2.1 111 = .ok (.iload 8, 2) := by decide +kernel
theorem d_M_compareShort_113 : decode um_M_compareShort.2.1 113 = .ok (.iload 9, 2) := by decide +kernel
theorem d_M_compareShort_115 : decode um_M_compareShort.2.1 115 = .ok (.if_icmp .le 8, 3) := by decide +kernel
theorem d_M_compareShort_118 : decode um_M_compareShort.2.1 118 = .ok (.iload 8, 2) := by decide +kernel
theorem d_M_compareShort_120 : decode um_M_compareShort.2.1 120 = .ok (.goto 5, 3) := by decide +kernel
theorem d_M_compareShort_123 : decode um_M_compareShort.2.1 123 = .ok (.iload 9, 2) := by decide +kernel
theorem d_M_compareShort_125 : decode um_M_compareShort.2.1 125 = .ok (.istore 7, 2) := by decide +kernel
theorem d_M_compareShort_127 : decode um_M_compareShort.2.1 127 = .ok (.iload 10, 2) := by decide +kernel
theorem d_M_compareShort_129 : decode um_M_compareShort.2.1 129 = .ok (.iload 7, 2) := by decide +kernel
theorem d_M_compareShort_131 : decode um_M_compareShort.2.1 131 = .ok (.if_icmp .le 8, 3) := by decide +kernel
theorem d_M_compareShort_134 : decode um_M_compareShort.2.1 134 = .ok (.iload 10, 2) := by decide +kernel
theorem d_M_compareShort_136 : decode um_M_compareShort.2.1 136 = .ok (.goto 5, 3) := by decide +kernel
theorem d_M_compareShort_139 : decode um_M_compareShort.2.1 139 = .ok (.iload 7, 2) := by decide +kernel
theorem d_M_compareShort_141 : decode um_M_compareShort.2.1 141 = .ok (.istore 7, 2) := by decide +kernel
theorem d_M_compareShort_143 : decode um_M_compareShort.2.1 143 = .ok (.aload_n 0, 1) := by decide +kernel
theorem d_M_compareShort_144 : decode um_M_compareShort.2.1 144 = .ok (.getfield 25, 3) := by decide +kernel
theorem d_M_compareShort_147 : decode um_M_compareShort.2.1 147 = .ok (.bipush 25, 2) := by decide +kernel
theorem d_M_compareShort_149 : decode um_M_compareShort.2.1 149 = .ok (.iload 5, 2) := by decide +kernel
theorem d_M_compareShort_151 : decode um_M_compareShort.2.1 151 = .ok (.imul, 1) := by decide +kernel
theorem d_M_compareShort_152 : decode um_M_compareShort.2.1 152 = .ok (.iload 6, 2) := by decide +kernel
theorem d_M_compareShort_154 : decode um_M_compareShort.2.1 154 = .ok (.iadd, 1) := by decide +kernel
theorem d_M_compareShort_155 : decode um_M_compareShort.2.1 155 = .ok (.iload 7, 2) := by decide +kernel
theorem d_M_compareShort_157 : decode um_M_compareShort.2.1 157 = .ok (.iastore, 1) := by decide +kernel
theorem d_M_compareShort_158 : decode um_M_compareShort.2.1 158 = .ok (.iinc 6 (-1), 3) := by decide +kernel
theorem d_M_compareShort_161 : decode um_M_compareShort.2.1 161 = .ok (.goto (-148), 3) := by decide +kernel
theorem d_M_compareShort_164 : decode um_M_compareShort.2.1 164 = .ok (.iinc 5 (-1), 3) := by decide +kernel
theorem d_M_compareShort_167 : decode um_M_compareShort.2.1 167 = .ok (.goto (-164), 3) := by decide +kernel
theorem d_M_compareShort_170 : decode um_M_compareShort.2.1 170 = .ok (.iload_n 1, 1) := by decide +kernel
theorem d_M_compareShort_171 : decode um_M_compareShort.2.1 171 = .ok (.istore 5, 2) := by decide +kernel
theorem d_M_compareShort_173 : decode um_M_compareShort.2.1 173 = .ok (.iload_n 3, 1) := by decide +kernel
theorem d_M_compareShort_174 : decode um_M_compareShort.2.1 174 = .ok (.istore 6, 2) := by decide +kernel
theorem d_M_compareShort_176 : decode um_M_compareShort.2.1 176 = .ok (.iload 5, 2) := by decide +kernel
theorem d_M_compareShort_178 : decode um_M_compareShort.2.1 178 = .ok (.iload_n 2, 1) := by decide +kernel
theorem d_M_compareShort_179 : decode um_M_compareShort.2.1 179 = .ok (.if_icmp .ge 91, 3) := by decide +kernel
theorem d_M_compareShort_182 : decode um_M_compareShort.2.1 182 = .ok (.iload 6, 2) := by decide +kernel
theorem d_M_compareShort_184 : decode um_M_compareShort.2.1 184 = .ok (.iload 4, 2) := by decide +kernel
theorem d_M_compareShort_186 : decode um_M_compareShort.2.1 186 = .ok (.if_icmp .ge 84, 3) := by decide +kernel
theorem d_M_compareShort_189 : decode um_M_compareShort.2.1 189 = .ok (.aload_n 0, 1) := by decide +kernel
theorem d_M_compareShort_190 : decode um_M_compareShort.2.1 190 = .ok (.getfield 16, 3) := by decide +kernel
theorem d_M_compareShort_193 : decode um_M_compareShort.2.1 193 = .ok (.iload 5, 2) := by decide +kernel
theorem d_M_compareShort_195 : decode um_M_compareShort.2.1 195 = .ok (.iaload, 1) := by decide +kernel
theorem d_M_compareShort_196 : decode um_M_compareShort.2.1 196 = .ok (.aload_n 0, 1) := by decide +kernel
theorem d_M_compareShort_197 : decode um_M_compareShort.2.1 197 = .ok (.getfield 19, 3) := by decide +kernel
theorem d_M_compareShort_200 : decode um_M_compareShort.2.1 200 = .ok (.iload 6, 2) := by decide +kernel
theorem d_M_compareShort_202 : decode um_M_compareShort.2.1 202 = .ok (.iaload, 1) := by decide +kernel
theorem d_M_compareShort_203 : decode um_M_compareShort.2.1 203 = .ok (.if_icmp .ne 21, 3) := by decide +kernel
theorem d_M_compareShort_206 : decode um_M_compareShort.2.1 206 = .ok (.aload_n 0, 1) := by decide +kernel
theorem d_M_compareShort_207 : decode um_M_compareShort.2.1 207 = .ok (.getfield 22, 3) := by decide +kernel
theorem d_M_compareShort_210 : decode um_M_compareShort.2.1 210 = .ok (.iload 5, 2) := by decide +kernel
theorem d_M_compareShort_212 : decode um_M_compareShort.2.1 212 = .ok (.iload 6, 2) := by decide +kernel
theorem d_M_compareShort_214 : decode um_M_compareShort.2.1 214 = .ok (.iastore, 1) := by decide +kernel
theorem d_M_compareShort_215 : decode um_M_compareShort.2.1 215 = .ok (.iinc 5 1, 3) := by decide +kernel
theorem d_M_compareShort_218 : decode um_M_compareShort.2.1 218 = .ok (.iinc 6 1, 3) := by decide +kernel
theorem d_M_compareShort_221 : decode um_M_compareShort.2.1 221 = .ok (.goto (-45), 3) := by decide +kernel
theorem d_M_compareShort_224 : decode um_M_compareShort.2.1 224 = .ok (.aload_n 0, 1) := by decide +kernel
theorem d_M_compareShort_225 : decode um_M_compareShort.2.1 225 = .ok (.getfield 25, 3) := by decide +kernel
theorem d_M_compareShort_228 : decode um_M_compareShort.2.1 228 = .ok (.bipush 25, 2) := by decide +kernel
theorem d_M_compareShort_230 : decode um_M_compareShort.2.1 230 = .ok (.iload 5, 2) := by decide +kernel
theorem d_M_compareShort_232 : decode um_M_compareShort.2.1 232 = .ok (.imul, 1) := by decide +kernel
theorem d_M_compareShort_233 : decode um_M_compareShort.2.1 233 = .ok (.bipush 25, 2) := by decide +kernel
theorem d_M_compareShort_235 : decode um_M_compareShort.2.1 235 = .ok (.iadd, 1) := by decide +kernel
theorem d_M_compareShort_236 : decode um_M_compareShort.2.1 236 = .ok (.iload 6, 2) := by decide +kernel
theorem d_M_compareShort_238 : decode um_M_compareShort.2.1 238 = .ok (.iadd, 1) := by decide +kernel
theorem d_M_compareShort_239 : decode um_M_compareShort.2.1 239 = .ok (.iaload, 1) := by decide +kernel
theorem d_M_compareShort_240 : decode um_M_compareShort.2.1 240 = .ok (.aload_n 0, 1) := by decide +kernel
theorem d_M_compareShort_241 : decode um_M_compareShort.2.1 241 = .ok (.getfield 25, 3) := by decide +kernel
theorem d_M_compareShort_244 : decode um_M_compareShort.2.1 244 = .ok (.bipush 25, 2) := by decide +kernel
theorem d_M_compareShort_246 : decode um_M_compareShort.2.1 246 = .ok (.iload 5, 2) := by decide +kernel
theorem d_M_compareShort_248 : decode um_M_compareShort.2.1 248 = .ok (.imul, 1) := by decide +kernel
theorem d_M_compareShort_249 : decode um_M_compareShort.2.1 249 = .ok (.iload 6, 2) := by decide +kernel
theorem d_M_compareShort_251 : decode um_M_compareShort.2.1 251 = .ok (.iadd, 1) := by decide +kernel
theorem d_M_compareShort_252 : decode um_M_compareShort.2.1 252 = .ok (.iconst 1, 1) := by decide +kernel
theorem d_M_compareShort_253 : decode um_M_compareShort.2.1 253 = .ok (.iadd, 1) := by decide +kernel
theorem d_M_compareShort_254 : decode um_M_compareShort.2.1 254 = .ok (.iaload, 1) := by decide +kernel
theorem d_M_compareShort_255 : decode um_M_compareShort.2.1 255 = .ok (.if_icmp .lt 9, 3) := by decide +kernel
theorem d_M_compareShort_258 : decode um_M_compareShort.2.1 258 = .ok (.iinc 5 1, 3) := by decide +kernel
theorem d_M_compareShort_261 : decode um_M_compareShort.2.1 261 = .ok (.goto (-85), 3) := by decide +kernel
theorem d_M_compareShort_264 : decode um_M_compareShort.2.1 264 = .ok (.iinc 6 1, 3) := by decide +kernel
theorem d_M_compareShort_267 : decode um_M_compareShort.2.1 267 = .ok (.goto (-91), 3) := by decide +kernel
theorem d_M_compareShort_270 : decode um_M_compareShort.2.1 270 = .ok (.return_, 1) := by decide +kernel
theorem d_M_await_0 : decode um_M_await.2.1 0 = .ok (.aload_n 0, 1) := by decide +kernel
theorem d_M_await_1 : decode um_M_await.2.1 1 = .ok (.getfield 28, 3) := by decide +kernel
theorem d_M_await_4 : decode um_M_await.2.1 4 = .ok (.aload_n 0, 1) := by decide +kernel
theorem d_M_await_5 : decode um_M_await.2.1 5 = .ok (.getfield 103, 3) := by decide +kernel
theorem d_M_await_8 : decode um_M_await.2.1 8 = .ok (.iload_n 1, 1) := by decide +kernel
theorem d_M_await_9 : decode um_M_await.2.1 9 = .ok (.iastore, 1) := by decide +kernel
theorem d_M_await_10 : decode um_M_await.2.1 10 = .ok (.aload_n 0, 1) := by decide +kernel
theorem d_M_await_11 : decode um_M_await.2.1 11 = .ok (.getfield 31, 3) := by decide +kernel
theorem d_M_await_14 : decode um_M_await.2.1 14 = .ok (.aload_n 0, 1) := by decide +kernel
theorem d_M_await_15 : decode um_M_await.2.1 15 = .ok (.getfield 103, 3) := by decide +kernel
theorem d_M_await_18 : decode um_M_await.2.1 18 = .ok (.iload_n 2, 1) := by decide +kernel
theorem d_M_await_19 : decode um_M_await.2.1 19 = .ok (.iastore, 1) := by decide +kernel
theorem d_M_await_20 : decode um_M_await.2.1 20 = .ok (.aload_n 0, 1) := by decide +kernel
theorem d_M_await_21 : decode um_M_await.2.1 21 = .ok (.getfield 34, 3) := by decide +kernel
theorem d_M_await_24 : decode um_M_await.2.1 24 = .ok (.aload_n 0, 1) := by decide +kernel
theorem d_M_await_25 : decode um_M_await.2.1 25 = .ok (.getfield 103, 3) := by decide +kernel
theorem d_M_await_28 : decode um_M_await.2.1 28 = .ok (.iload_n 3, 1) := by decide +kernel
theorem d_M_await_29 : decode um_M_await.2.1 29 = .ok (.iastore, 1) := by decide +kernel
theorem d_M_await_30 : decode um_M_await.2.1 30 = .ok (.aload_n 0, 1) := by decide +kernel
theorem d_M_await_31 : decode um_M_await.2.1 31 = .ok (.getfield 37, 3) := by decide +kernel
theorem d_M_await_34 : decode um_M_await.2.1 34 = .ok (.aload_n 0, 1) := by decide +kernel
theorem d_M_await_35 : decode um_M_await.2.1 35 = .ok (.getfield 103, 3) := by decide +kernel
theorem d_M_await_38 : decode um_M_await.2.1 38 = .ok (.iload 4, 2) := by decide +kernel
theorem d_M_await_40 : decode um_M_await.2.1 40 = .ok (.iastore, 1) := by decide +kernel
theorem d_M_await_41 : decode um_M_await.2.1 41 = .ok (.aload_n 0, 1) := by decide +kernel
theorem d_M_await_42 : decode um_M_await.2.1 42 = .ok (.dup, 1) := by decide +kernel
theorem d_M_await_43 : decode um_M_await.2.1 43 = .ok (.getfield 103, 3) := by decide +kernel
theorem d_M_await_46 : decode um_M_await.2.1 46 = .ok (.iconst 1, 1) := by decide +kernel
theorem d_M_await_47 : decode um_M_await.2.1 47 = .ok (.iadd, 1) := by decide +kernel
theorem d_M_await_48 : decode um_M_await.2.1 48 = .ok (.putfield 103, 3) := by decide +kernel
theorem d_M_await_51 : decode um_M_await.2.1 51 = .ok (.return_, 1) := by decide +kernel
theorem d_M_partner_0 : decode um_M_partner.2.1 0 = .ok (.iconst 0, 1) := by decide +kernel
theorem d_M_partner_1 : decode um_M_partner.2.1 1 = .ok (.istore 6, 2) := by decide +kernel
theorem d_M_partner_3 : decode um_M_partner.2.1 3 = .ok (.iload_n 2, 1) := by decide +kernel
theorem d_M_partner_4 : decode um_M_partner.2.1 4 = .ok (.istore 7, 2) := by decide +kernel
theorem d_M_partner_6 : decode um_M_partner.2.1 6 = .ok (.iload 7, 2) := by decide +kernel
theorem d_M_partner_8 : decode um_M_partner.2.1 8 = .ok (.iload_n 3, 1) := by decide +kernel
theorem d_M_partner_9 : decode um_M_partner.2.1 9 = .ok (.if_icmp .ge 36, 3) := by decide +kernel
theorem d_M_partner_12 : decode um_M_partner.2.1 12 = .ok (.aload_n 0, 1) := by decide +kernel
theorem d_M_partner_13 : decode um_M_partner.2.1 13 = .ok (.getfield 16, 3) := by decide +kernel
theorem d_M_partner_16 : decode um_M_partner.2.1 16 = .ok (.iload 7, 2) := by decide +kernel
theorem d_M_partner_18 : decode um_M_partner.2.1 18 = .ok (.iaload, 1) := by decide +kernel
theorem d_M_partner_19 : decode um_M_partner.2.1 19 = .ok (.aload_n 0, 1) := by decide +kernel
theorem d_M_partner_20 : decode um_M_partner.2.1 20 = .ok (.getfield 16, 3) := by decide +kernel
theorem d_M_partner_23 : decode um_M_partner.2.1 23 = .ok (.iload_n 1, 1) := by decide +kernel
theorem d_M_partner_24 : decode um_M_partner.2.1 24 = .ok (.iaload, 1) := by decide +kernel
theorem d_M_partner_25 : decode um_M_partner.2.1 25 = .ok (.if_icmp .ne 10, 3) := by decide +kernel
theorem d_M_partner_28 : decode um_M_partner.2.1 28 = .ok (.iload 6, 2) := by decide +kernel
theorem d_M_partner_30 : decode um_M_partner.2.1 30 = .ok (.iconst 1, 1) := by decide +kernel
theorem d_M_partner_31 : decode um_M_partner.2.1 31 = .ok (.iadd, 1) := by decide +kernel
theorem d_M_partner_32 : decode um_M_partner.2.1 32 = .ok (.goto 5, 3) := by decide +kernel
theorem d_M_partner_35 : decode um_M_partner.2.1 35 = .ok (.iload 6, 2) := by decide +kernel
theorem d_M_partner_37 : decode um_M_partner.2.1 37 = .ok (.istore 6, 2) := by decide +kernel
theorem d_M_partner_39 : decode um_M_partner.2.1 39 = .ok (.iinc 7 1, 3) := by decide +kernel
theorem d_M_partner_42 : decode um_M_partner.2.1 42 = .ok (.goto (-36), 3) := by decide +kernel
theorem d_M_partner_45 : decode um_M_partner.2.1 45 = .ok (.iconst 0, 1) := by decide +kernel
theorem d_M_partner_46 : decode um_M_partner.2.1 46 = .ok (.istore 7, 2) := by decide +kernel
theorem d_M_partner_48 : decode um_M_partner.2.1 48 = .ok (.iconst (-1), 1) := by decide +kernel
theorem d_M_partner_49 : decode um_M_partner.2.1 49 = .ok (.istore 8, 2) := by decide +kernel
theorem d_M_partner_51 : decode um_M_partner.2.1 51 = .ok (.iload 4, 2) := by decide +kernel
theorem d_M_partner_53 : decode um_M_partner.2.1 53 = .ok (.istore 9, 2) := by decide +kernel
theorem d_M_partner_55 : decode um_M_partner.2.1 55 = .ok (.iload 9, 2) := by decide +kernel
theorem d_M_partner_57 : decode um_M_partner.2.1 57 = .ok (.iload 5, 2) := by decide +kernel
theorem d_M_partner_59 : decode um_M_partner.2.1 59 = .ok (.if_icmp .ge 61, 3) := by decide +kernel
theorem d_M_partner_62 : decode um_M_partner.2.1 62 = .ok (.aload_n 0, 1) := by decide +kernel
theorem d_M_partner_63 : decode um_M_partner.2.1 63 = .ok (.getfield 19, 3) := by decide +kernel
theorem d_M_partner_66 : decode um_M_partner.2.1 66 = .ok (.iload 9, 2) := by decide +kernel
theorem d_M_partner_68 : decode um_M_partner.2.1 68 = .ok (.iaload, 1) := by decide +kernel
theorem d_M_partner_69 : decode um_M_partner.2.1 69 = .ok (.aload_n 0, 1) := by decide +kernel
theorem d_M_partner_70 : decode um_M_partner.2.1 70 = .ok (.getfield 16, 3) := by decide +kernel
theorem d_M_partner_73 : decode um_M_partner.2.1 73 = .ok (.iload_n 1, 1) := by decide +kernel
theorem d_M_partner_74 : decode um_M_partner.2.1 74 = .ok (.iaload, 1) := by decide +kernel
theorem d_M_partner_75 : decode um_M_partner.2.1 75 = .ok (.if_icmp .ne 10, 3) := by decide +kernel
theorem d_M_partner_78 : decode um_M_partner.2.1 78 = .ok (.iload 7, 2) := by decide +kernel
theorem d_M_partner_80 : decode um_M_partner.2.1 80 = .ok (.iconst 1, 1) := by decide +kernel
theorem d_M_partner_81 : decode um_M_partner.2.1 81 = .ok (.iadd, 1) := by decide +kernel
theorem d_M_partner_82 : decode um_M_partner.2.1 82 = .ok (.goto 5, 3) := by decide +kernel
theorem d_M_partner_85 : decode um_M_partner.2.1 85 = .ok (.iload 7, 2) := by decide +kernel
theorem d_M_partner_87 : decode um_M_partner.2.1 87 = .ok (.istore 7, 2) := by decide +kernel
theorem d_M_partner_89 : decode um_M_partner.2.1 89 = .ok (.aload_n 0, 1) := by decide +kernel
theorem d_M_partner_90 : decode um_M_partner.2.1 90 = .ok (.getfield 19, 3) := by decide +kernel
theorem d_M_partner_93 : decode um_M_partner.2.1 93 = .ok (.iload 9, 2) := by decide +kernel
theorem d_M_partner_95 : decode um_M_partner.2.1 95 = .ok (.iaload, 1) := by decide +kernel
theorem d_M_partner_96 : decode um_M_partner.2.1 96 = .ok (.aload_n 0, 1) := by decide +kernel
theorem d_M_partner_97 : decode um_M_partner.2.1 97 = .ok (.getfield 16, 3) := by decide +kernel
theorem d_M_partner_100 : decode um_M_partner.2.1 100 = .ok (.iload_n 1, 1) := by decide +kernel
theorem d_M_partner_101 : decode um_M_partner.2.1 101 = .ok (.iaload, 1) := by decide +kernel
theorem d_M_partner_102 : decode um_M_partner.2.1 102 = .ok (.if_icmp .ne 8, 3) := by decide +kernel
theorem d_M_partner_105 : decode um_M_partner.2.1 105 = .ok (.iload 9, 2) := by decide +kernel
theorem d_M_partner_107 : decode um_M_partner.2.1 107 = .ok (.goto 5, 3) := by decide +kernel
theorem d_M_partner_110 : decode um_M_partner.2.1 110 = .ok (.iload 8, 2) := by decide +kernel
theorem d_M_partner_112 : decode um_M_partner.2.1 112 = .ok (.istore 8, 2) := by decide +kernel
theorem d_M_partner_114 : decode um_M_partner.2.1 114 = .ok (.iinc 9 1, 3) := by decide +kernel
theorem d_M_partner_117 : decode um_M_partner.2.1 117 = .ok (.goto (-62), 3) := by decide +kernel
theorem d_M_partner_120 : decode um_M_partner.2.1 120 = .ok (.iload 6, 2) := by decide +kernel
theorem d_M_partner_122 : decode um_M_partner.2.1 122 = .ok (.iconst 1, 1) := by decide +kernel
theorem d_M_partner_123 : decode um_M_partner.2.1 123 = .ok (.if_icmp .ne 14, 3) := by decide +kernel
theorem d_M_partner_126 : decode um_M_partner.2.1 126 = .ok (.iload 7, 2) := by decide +kernel
theorem d_M_partner_128 : decode um_M_partner.2.1 128 = .ok (.iconst 1, 1) := by decide +kernel
theorem d_M_partner_129 : decode um_M_partner.2.1 129 = .ok (.if_icmp .ne 8, 3) := by decide +kernel
theorem d_M_partner_132 : decode um_M_partner.2.1 132 = .ok (.iload 8, 2) := by decide +kernel
theorem d_M_partner_134 : decode um_M_partner.2.1 134 = .ok (.goto 4, 3) := by decide +kernel
theorem d_M_partner_137 : decode um_M_partner.2.1 137 = .ok (.iconst (-1), 1) := by decide +kernel
theorem d_M_partner_138 : decode um_M_partner.2.1 138 = .ok (.ireturn, 1) := by decide +kernel
theorem d_M_findRanks_0 : decode um_M_findRanks.2.1 0 = .ok (.iconst 0, 1) := by decide +kernel
theorem d_M_findRanks_1 : decode um_M_findRanks.2.1 1 = .ok (.istore 5, 2) := by decide +kernel
theorem d_M_findRanks_3 : decode um_M_findRanks.2.1 3 = .ok (.iload_n 1, 1) := by decide +kernel
theorem d_M_findRanks_4 : decode um_M_findRanks.2.1 4 = .ok (.istore 6, 2) := by decide +kernel
theorem d_M_findRanks_6 : decode um_M_findRanks.2.1 6 = .ok (.iload 6, 2) := by decide +kernel
theorem d_M_findRanks_8 : decode um_M_findRanks.2.1 8 = .ok (.iload_n 2, 1) := by decide +kernel
theorem d_M_findRanks_9 : decode um_M_findRanks.2.1 9 = .ok (.if_icmp .ge 148, 3) := by decide +kernel
theorem d_M_findRanks_12 : decode um_M_findRanks.2.1 12 = .ok (.aload_n 0, 1) := by decide +kernel
theorem d_M_findRanks_13 : decode um_M_findRanks.2.1 13 = .ok (.getfield 40, 3) := by decide +kernel
theorem d_M_findRanks_16 : decode um_M_findRanks.2.1 16 = .ok (.iload 6, 2) := by decide +kernel
theorem d_M_findRanks_18 : decode um_M_findRanks.2.1 18 = .ok (.aload_n 0, 1) := by decide +kernel
theorem d_M_findRanks_19 : decode um_M_findRanks.2.1 19 = .ok (.iload 6, 2) := by decide +kernel
theorem d_M_findRanks_21 : decode um_M_findRanks.2.1 21 = .ok (.iload_n 1, 1) := by decide +kernel
theorem d_M_findRanks_22 : decode um_M_findRanks.2.1 22 = .ok (.iload_n 2, 1) := by decide +kernel
theorem d_M_findRanks_23 : decode um_M_findRanks.2.1 23 = .ok (.iload_n 3, 1) := by decide +kernel
theorem d_M_findRanks_24 : decode um_M_findRanks.2.1 24 = .ok (.iload 4, 2) := by decide +kernel
theorem d_M_findRanks_26 : decode um_M_findRanks.2.1 26 = .ok (.invokevirtual 106, 3) := by decide +kernel
theorem d_M_findRanks_29 : decode um_M_findRanks.2.1 29 = .ok (.iastore, 1) := by decide +kernel
theorem d_M_findRanks_30 : decode um_M_findRanks.2.1 30 = .ok (.aload_n 0, 1) := by decide +kernel
theorem d_M_findRanks_31 : decode um_M_findRanks.2.1 31 = .ok (.getfield 43, 3) := by decide +kernel
theorem d_M_findRanks_34 : decode um_M_findRanks.2.1 34 = .ok (.iload 6, 2) := by decide +kernel
theorem d_M_findRanks_36 : decode um_M_findRanks.2.1 36 = .ok (.iconst 0, 1) := by decide +kernel
theorem d_M_findRanks_37 : decode um_M_findRanks.2.1 37 = .ok (.iastore, 1) := by decide +kernel
theorem d_M_findRanks_38 : decode um_M_findRanks.2.1 38 = .ok (.aload_n 0, 1) := by decide +kernel
theorem d_M_findRanks_39 : decode um_M_findRanks.2.1 39 = .ok (.getfield 40, 3) := by decide +kernel
theorem d_M_findRanks_42 : decode um_M_findRanks.2.1 42 = .ok (.iload 6, 2) := by decide +kernel
theorem d_M_findRanks_44 : decode um_M_findRanks.2.1 44 = .ok (.iaload, 1) := by decide +kernel
theorem d_M_findRanks_45 : decode um_M_findRanks.2.1 45 = .ok (.ifCond .lt 106, 3) := by decide +kernel
theorem d_M_findRanks_48 : decode um_M_findRanks.2.1 48 = .ok (.iconst 0, 1) := by decide +kernel
theorem d_M_findRanks_49 : decode um_M_findRanks.2.1 49 = .ok (.istore 7, 2) := by decide +kernel
theorem d_M_findRanks_51 : decode um_M_findRanks.2.1 51 = .ok (.iload_n 1, 1) := by decide +kernel
theorem d_M_findRanks_52 : decode um_M_findRanks.2.1 52 = .ok (.istore 8, 2) := by decide +kernel
theorem d_M_findRanks_54 : decode um_M_findRanks.2.1 54 = .ok (.iload 8, 2) := by decide +kernel
theorem d_M_findRanks_56 : decode um_M_findRanks.2.1 56 = .ok (.iload 6, 2) := by decide +kernel
theorem d_M_findRanks_58 : decode um_M_findRanks.2.1 58 = .ok (.if_icmp .ge 62, 3) := by decide +kernel
theorem d_M_findRanks_61 : decode um_M_findRanks.2.1 61 = .ok (.aload_n 0, 1) := by decide +kernel
theorem d_M_findRanks_62 : decode um_M_findRanks.2.1 62 = .ok (.getfield 40, 3) := by decide +kernel
theorem d_M_findRanks_65 : decode um_M_findRanks.2.1 65 = .ok (.iload 8, 2) := by decide +kernel
theorem d_M_findRanks_67 : decode um_M_findRanks.2.1 67 = .ok (.iaload, 1) := by decide +kernel
theorem d_M_findRanks_68 : decode um_M_findRanks.2.1 68 = .ok (.ifCond .lt 42, 3) := by decide +kernel
theorem d_M_findRanks_71 : decode um_M_findRanks.2.1 71 = .ok (.aload_n 0, 1) := by decide +kernel
theorem d_M_findRanks_72 : decode um_M_findRanks.2.1 72 = .ok (.getfield 40, 3) := by decide +kernel
theorem d_M_findRanks_75 : decode um_M_findRanks.2.1 75 = .ok (.iload 8, 2) := by decide +kernel
theorem d_M_findRanks_77 : decode um_M_findRanks.2.1 77 = .ok (.iaload, 1) := by decide +kernel
theorem d_M_findRanks_78 : decode um_M_findRanks.2.1 78 = .ok (.aload_n 0, 1) := by decide +kernel
theorem d_M_findRanks_79 : decode um_M_findRanks.2.1 79 = .ok (.getfield 40, 3) := by decide +kernel
theorem d_M_findRanks_82 : decode um_M_findRanks.2.1 82 = .ok (.iload 6, 2) := by decide +kernel
theorem d_M_findRanks_84 : decode um_M_findRanks.2.1 84 = .ok (.iaload, 1) := by decide +kernel
theorem d_M_findRanks_85 : decode um_M_findRanks.2.1 85 = .ok (.if_icmp .ge 25, 3) := by decide +kernel
theorem d_M_findRanks_88 : decode um_M_findRanks.2.1 88 = .ok (.aload_n 0, 1) := by decide +kernel
theorem d_M_findRanks_89 : decode um_M_findRanks.2.1 89 = .ok (.getfield 43, 3) := by decide +kernel
theorem d_M_findRanks_92 : decode um_M_findRanks.2.1 92 = .ok (.iload 8, 2) := by decide +kernel
theorem d_M_findRanks_94 : decode um_M_findRanks.2.1 94 = .ok (.iaload, 1) := by decide +kernel
theorem d_M_findRanks_95 : decode um_M_findRanks.2.1 95 = .ok (.iload 7, 2) := by decide +kernel
theorem d_M_findRanks_97 : decode um_M_findRanks.2.1 97 = .ok (.if_icmp .le 13, 3) := by decide +kernel
theorem d_M_findRanks_100 : decode um_M_findRanks.2.1 100 = .ok (.aload_n 0, 1) := by decide +kernel
theorem d_M_findRanks_101 : decode um_M_findRanks.2.1 101 = .ok (.getfield 43, 3) := by decide +kernel
theorem d_M_findRanks_104 : decode um_M_findRanks.2.1 104 = .ok (.iload 8, 2) := by decide +kernel
theorem d_M_findRanks_106 : decode um_M_findRanks.2.1 106 = .ok (.iaload, 1) := by decide +kernel
theorem d_M_findRanks_107 : decode um_M_findRanks.2.1 107 = .ok (.goto 5, 3) := by decide +kernel
theorem d_M_findRanks_110 : decode um_M_findRanks.2.1 110 = .ok (.iload 7, 2) := by decide +kernel
theorem d_M_findRanks_112 : decode um_M_findRanks.2.1 112 = .ok (.istore 7, 2) := by decide +kernel
theorem d_M_findRanks_114 : decode um_M_findRanks.2.1 114 = .ok (.iinc 8 1, 3) := by decide +kernel
theorem d_M_findRanks_117 : decode um_M_findRanks.2.1 117 = .ok (.goto (-63), 3) := by decide +kernel
theorem d_M_findRanks_120 : decode um_M_findRanks.2.1 120 = .ok (.aload_n 0, 1) := by decide +kernel
theorem d_M_findRanks_121 : decode um_M_findRanks.2.1 121 = .ok (.getfield 43, 3) := by decide +kernel
theorem d_M_findRanks_124 : decode um_M_findRanks.2.1 124 = .ok (.iload 6, 2) := by decide +kernel
theorem d_M_findRanks_126 : decode um_M_findRanks.2.1 126 = .ok (.iload 7, 2) := by decide +kernel
theorem d_M_findRanks_128 : decode um_M_findRanks.2.1 128 = .ok (.iconst 1, 1) := by decide +kernel
theorem d_M_findRanks_129 : decode um_M_findRanks.2.1 129 = .ok (.iadd, 1) := by decide +kernel
theorem d_M_findRanks_130 : decode um_M_findRanks.2.1 130 = .ok (.iastore, 1) := by decide +kernel
theorem d_M_findRanks_131 : decode um_M_findRanks.2.1 131 = .ok (.iload 7, 2) := by decide +kernel
theorem d_M_findRanks_133 : decode um_M_findRanks.2.1 133 = .ok (.iconst 1, 1) := by decide +kernel
theorem d_M_findRanks_134 : decode um_M_findRanks.2.1 134 = .ok (.iadd, 1) := by decide +kernel
theorem d_M_findRanks_135 : decode um_M_findRanks.2.1 135 = .ok (.iload 5, 2) := by decide +kernel
theorem d_M_findRanks_137 : decode um_M_findRanks.2.1 137 = .ok (.if_icmp .le 10, 3) := by decide +kernel
theorem d_M_findRanks_140 : decode um_M_findRanks.2.1 140 = .ok (.iload 7, 2) := by decide +kernel
theorem d_M_findRanks_142 : decode um_M_findRanks.2.1 142 = .ok (.iconst 1, 1) := by decide +kernel
theorem d_M_findRanks_143 : decode um_M_findRanks.2.1 143 = .ok (.iadd, 1) := by decide +kernel
theorem d_M_findRanks_144 : decode um_M_findRanks.2.1 144 = .ok (.goto 5, 3) := by decide +kernel
theorem d_M_findRanks_147 : decode um_M_findRanks.2.1 147 = .ok (.iload 5, 2) := by decide +kernel
theorem d_M_findRanks_149 : decode um_M_findRanks.2.1 149 = .ok (.istore 5, 2) := by decide +kernel
theorem d_M_findRanks_151 : decode um_M_findRanks.2.1 151 = .ok (.iinc 6 1, 3) := by decide +kernel
theorem d_M_findRanks_154 : decode um_M_findRanks.2.1 154 = .ok (.goto (-148), 3) := by decide +kernel
theorem d_M_findRanks_157 : decode um_M_findRanks.2.1 157 = .ok (.iload 5, 2) := by decide +kernel
theorem d_M_findRanks_159 : decode um_M_findRanks.2.1 159 = .ok (.ireturn, 1) := by decide +kernel
theorem d_M_standOut_0 : decode um_M_standOut.2.1 0 = .ok (.iload_n 1, 1) := by decide +kernel
theorem d_M_standOut_1 : decode um_M_standOut.2.1 1 = .ok (.istore 5, 2) := by decide +kernel
theorem d_M_standOut_3 : decode um_M_standOut.2.1 3 = .ok (.iload_n 3, 1) := by decide +kernel
theorem d_M_standOut_4 : decode um_M_standOut.2.1 4 = .ok (.istore 6, 2) := by decide +kernel
theorem d_M_standOut_6 : decode um_M_standOut.2.1 6 = .ok (.iload 5, 2) := by decide +kernel
theorem d_M_standOut_8 : decode um_M_standOut.2.1 8 = .ok (.iload_n 2, 1) := by decide +kernel
theorem d_M_standOut_9 : decode um_M_standOut.2.1 9 = .ok (.if_icmp .ge 45, 3) := by decide +kernel
theorem d_M_standOut_12 : decode um_M_standOut.2.1 12 = .ok (.iload 6, 2) := by decide +kernel
theorem d_M_standOut_14 : decode um_M_standOut.2.1 14 = .ok (.iload 4, 2) := by decide +kernel
theorem d_M_standOut_16 : decode um_M_standOut.2.1 16 = .ok (.if_icmp .ge 38, 3) := by decide +kernel
theorem d_M_standOut_19 : decode um_M_standOut.2.1 19 = .ok (.aload_n 0, 1) := by decide +kernel
theorem d_M_standOut_20 : decode um_M_standOut.2.1 20 = .ok (.getfield 16, 3) := by decide +kernel
theorem d_M_standOut_23 : decode um_M_standOut.2.1 23 = .ok (.iload 5, 2) := by decide +kernel
theorem d_M_standOut_25 : decode um_M_standOut.2.1 25 = .ok (.iaload, 1) := by decide +kernel
theorem d_M_standOut_26 : decode um_M_standOut.2.1 26 = .ok (.aload_n 0, 1) := by decide +kernel
theorem d_M_standOut_27 : decode um_M_standOut.2.1 27 = .ok (.getfield 19, 3) := by decide +kernel
theorem d_M_standOut_30 : decode um_M_standOut.2.1 30 = .ok (.iload 6, 2) := by decide +kernel
theorem d_M_standOut_32 : decode um_M_standOut.2.1 32 = .ok (.iaload, 1) := by decide +kernel
theorem d_M_standOut_33 : decode um_M_standOut.2.1 33 = .ok (.if_icmp .ne 21, 3) := by decide +kernel
theorem d_M_standOut_36 : decode um_M_standOut.2.1 36 = .ok (.aload_n 0, 1) := by decide +kernel
theorem d_M_standOut_37 : decode um_M_standOut.2.1 37 = .ok (.getfield 22, 3) := by decide +kernel
theorem d_M_standOut_40 : decode um_M_standOut.2.1 40 = .ok (.iload 5, 2) := by decide +kernel
theorem d_M_standOut_42 : decode um_M_standOut.2.1 42 = .ok (.iload 6, 2) := by decide +kernel
theorem d_M_standOut_44 : decode um_M_standOut.2.1 44 = .ok (.iastore, 1) := by decide +kernel
theorem d_M_standOut_45 : decode um_M_standOut.2.1 45 = .ok (.iinc 5 1, 3) := by decide +kernel
theorem d_M_standOut_48 : decode um_M_standOut.2.1 48 = .ok (.iinc 6 1, 3) := by decide +kernel
theorem d_M_standOut_51 : decode um_M_standOut.2.1 51 = .ok (.goto (-45), 3) := by decide +kernel
theorem d_M_standOut_54 : decode um_M_standOut.2.1 54 = .ok (.iload_n 2, 1) := by decide +kernel
theorem d_M_standOut_55 : decode um_M_standOut.2.1 55 = .ok (.istore 7, 2) := by decide +kernel
theorem d_M_standOut_57 : decode um_M_standOut.2.1 57 = .ok (.iload 4, 2) := by decide +kernel
theorem d_M_standOut_59 : decode um_M_standOut.2.1 59 = .ok (.istore 8, 2) := by decide +kernel
theorem d_M_standOut_61 : decode um_M_standOut.2.1 61 = .ok (.iload 7, 2) := by decide +kernel
theorem d_M_standOut_63 : decode um_M_standOut.2.1 63 = .ok (.iload 5, 2) := by decide +kernel
theorem d_M_standOut_65 : decode um_M_standOut.2.1 65 = .ok (.if_icmp .le 49, 3) := by decide +kernel
theorem d_M_standOut_68 : decode um_M_standOut.2.1 68 = .ok (.iload 8, 2) := by decide +kernel
theorem d_M_standOut_70 : decode um_M_standOut.2.1 70 = .ok (.iload 6, 2) := by decide +kernel
theorem d_M_standOut_72 : decode um_M_standOut.2.1 72 = .ok (.if_icmp .le 42, 3) := by decide +kernel
theorem d_M_standOut_75 : decode um_M_standOut.2.1 75 = .ok (.aload_n 0, 1) := by decide +kernel
theorem d_M_standOut_76 : decode um_M_standOut.2.1 76 = .ok (.getfield 16, 3) := by decide +kernel
theorem d_M_standOut_79 : decode um_M_standOut.2.1 79 = .ok (.iload 7, 2) := by decide +kernel
theorem d_M_standOut_81 : decode um_M_standOut.2.1 81 = .ok (.iconst 1, 1) := by decide +kernel
theorem d_M_standOut_82 : decode um_M_standOut.2.1 82 = .ok (.isub, 1) := by decide +kernel
theorem d_M_standOut_83 : decode um_M_standOut.2.1 83 = .ok (.iaload, 1) := by decide +kernel
theorem d_M_standOut_84 : decode um_M_standOut.2.1 84 = .ok (.aload_n 0, 1) := by decide +kernel
theorem d_M_standOut_85 : decode um_M_standOut.2.1 85 = .ok (.getfield 19, 3) := by decide +kernel
theorem d_M_standOut_88 : decode um_M_standOut.2.1 88 = .ok (.iload 8, 2) := by decide +kernel
theorem d_M_standOut_90 : decode um_M_standOut.2.1 90 = .ok (.iconst 1, 1) := by decide +kernel
theorem d_M_standOut_91 : decode um_M_standOut.2.1 91 = .ok (.isub, 1) := by decide +kernel
theorem d_M_standOut_92 : decode um_M_standOut.2.1 92 = .ok (.iaload, 1) := by decide +kernel
theorem d_M_standOut_93 : decode um_M_standOut.2.1 93 = .ok (.if_icmp .ne 21, 3) := by decide +kernel
theorem d_M_standOut_96 : decode um_M_standOut.2.1 96 = .ok (.iinc 7 (-1), 3) := by decide +kernel
theorem d_M_standOut_99 : decode um_M_standOut.2.1 99 = .ok (.iinc 8 (-1), 3) := by decide +kernel
theorem d_M_standOut_102 : decode um_M_standOut.2.1 102 = .ok (.aload_n 0, 1) := by decide +kernel
theorem d_M_standOut_103 : decode um_M_standOut.2.1 103 = .ok (.getfield 22, 3) := by decide +kernel
theorem d_M_standOut_106 : decode um_M_standOut.2.1 106 = .ok (.iload 7, 2) := by decide +kernel
theorem d_M_standOut_108 : decode um_M_standOut.2.1 108 = .ok (.iload 8, 2) := by decide +kernel
theorem d_M_standOut_110 : decode um_M_standOut.2.1 110 = .ok (.iastore, 1) := by decide +kernel
theorem d_M_standOut_111 : decode um_M_standOut.2.1 111 = .ok (.goto (-50), 3) := by decide +kernel
theorem d_M_standOut_114 : decode um_M_standOut.2.1 114 = .ok (.aload_n 0, 1) := by decide +kernel
theorem d_M_standOut_115 : decode um_M_standOut.2.1 115 = .ok (.iload 5, 2) := by decide +kernel
theorem d_M_standOut_117 : decode um_M_standOut.2.1 117 = .ok (.iload 7, 2) := by decide +kernel
theorem d_M_standOut_119 : decode um_M_standOut.2.1 119 = .ok (.iload 6, 2) := by decide +kernel
theorem d_M_standOut_121 : decode um_M_standOut.2.1 121 = .ok (.iload 8, 2) := by decide +kernel
theorem d_M_standOut_123 : decode um_M_standOut.2.1 123 = .ok (.invokevirtual 110, 3) := by decide +kernel
theorem d_M_standOut_126 : decode um_M_standOut.2.1 126 = .ok (.istore 9, 2) := by decide +kernel
theorem d_M_standOut_128 : decode um_M_standOut.2.1 128 = .ok (.iload 9, 2) := by decide +kernel
theorem d_M_standOut_130 : decode um_M_standOut.2.1 130 = .ok (.ifCond .ne 16, 3) := by decide +kernel
theorem d_M_standOut_133 : decode um_M_standOut.2.1 133 = .ok (.aload_n 0, 1) := by decide +kernel
theorem d_M_standOut_134 : decode um_M_standOut.2.1 134 = .ok (.iload 5, 2) := by decide +kernel
theorem d_M_standOut_136 : decode um_M_standOut.2.1 136 = .ok (.iload 7, 2) := by decide +kernel
theorem d_M_standOut_138 : decode um_M_standOut.2.1 138 = .ok (.iload 6, 2) := by decide +kernel
theorem d_M_standOut_140 : decode um_M_standOut.2.1 140 = .ok (.iload 8, 2) := by decide +kernel
theorem d_M_standOut_142 : decode um_M_standOut.2.1 142 = .ok (.invokevirtual 114, 3) := by decide +kernel
theorem d_M_standOut_145 : decode um_M_standOut.2.1 145 = .ok (.return_, 1) := by decide +kernel
theorem d_M_standOut_146 : decode um_M_standOut.2.1 146 = .ok (.iload 7, 2) := by decide +kernel
theorem d_M_standOut_148 : decode um_M_standOut.2.1 148 = .ok (.istore 10, 2) := by decide +kernel
theorem d_M_standOut_150 : decode um_M_standOut.2.1 150 = .ok (.iload 8, 2) := by decide +kernel
theorem d_M_standOut_152 : decode um_M_standOut.2.1 152 = .ok (.istore 11, 2) := by decide +kernel
theorem d_M_standOut_154 : decode um_M_standOut.2.1 154 = .ok (.iload 7, 2) := by decide +kernel
theorem d_M_standOut_156 : decode um_M_standOut.2.1 156 = .ok (.iconst 1, 1) := by decide +kernel
theorem d_M_standOut_157 : decode um_M_standOut.2.1 157 = .ok (.isub, 1) := by decide +kernel
theorem d_M_standOut_158 : decode um_M_standOut.2.1 158 = .ok (.istore 12, 2) := by decide +kernel
theorem d_M_standOut_160 : decode um_M_standOut.2.1 160 = .ok (.iload 12, 2) := by decide +kernel
theorem d_M_standOut_162 : decode um_M_standOut.2.1 162 = .ok (.iload 5, 2) := by decide +kernel
theorem d_M_standOut_164 : decode um_M_standOut.2.1 164 = .ok (.if_icmp .lt 77, 3) := by decide +kernel
theorem d_M_standOut_167 : decode um_M_standOut.2.1 167 = .ok (.aload_n 0, 1) := by decide +kernel
theorem d_M_standOut_168 : decode um_M_standOut.2.1 168 = .ok (.getfield 43, 3) := by decide +kernel
theorem d_M_standOut_171 : decode um_M_standOut.2.1 171 = .ok (.iload 12, 2) := by decide +kernel
theorem d_M_standOut_173 : decode um_M_standOut.2.1 173 = .ok (.iaload, 1) := by decide +kernel
theorem d_M_standOut_174 : decode um_M_standOut.2.1 174 = .ok (.iload 9, 2) := by decide +kernel
theorem d_M_standOut_176 : decode um_M_standOut.2.1 176 = .ok (.if_icmp .ne 59, 3) := by decide +kernel
theorem d_M_standOut_179 : decode um_M_standOut.2.1 179 = .ok (.iload 9, 2) := by decide +kernel
theorem d_M_standOut_181 : decode um_M_standOut.2.1 181 = .ok (.ifCond .le 54, 3) := by decide +kernel
theorem d_M_standOut_184 : decode um_M_standOut.2.1 184 = .ok (.aload_n 0, 1) := by decide +kernel
theorem d_M_standOut_185 : decode um_M_standOut.2.1 185 = .ok (.getfield 22, 3) := by decide +kernel
theorem d_M_standOut_188 : decode um_M_standOut.2.1 188 = .ok (.iload 12, 2) := by decide +kernel
theorem d_M_standOut_190 : decode um_M_standOut.2.1 190 = .ok (.aload_n 0, 1) := by decide +kernel
theorem d_M_standOut_191 : decode um_M_standOut.2.1 191 = .ok (.getfield 40, 3) := by decide +kernel
theorem d_M_standOut_194 : decode um_M_standOut.2.1 194 = .ok (.iload 12, 2) := by decide +kernel
theorem d_M_standOut_196 : decode um_M_standOut.2.1 196 = .ok (.iaload, 1) := by decide +kernel
theorem d_M_standOut_197 : decode um_M_standOut.2.1 197 = .ok (.iastore, 1) := by decide +kernel
theorem d_M_standOut_198 : decode um_M_standOut.2.1 198 = .ok (.aload_n 0, 1) := by decide +kernel
theorem d_M_standOut_199 : decode um_M_standOut.2.1 199 = .ok (.iload 12, 2) := by decide +kernel
theorem d_M_standOut_201 : decode um_M_standOut.2.1 201 = .ok (.iconst 1, 1) := by decide +kernel
theorem d_M_standOut_202 : decode um_M_standOut.2.1 202 = .ok (.iadd, 1) := by decide +kernel
theorem d_M_standOut_203 : decode um_M_standOut.2.1 203 = .ok (.iload 10, 2) := by decide +kernel
theorem d_M_standOut_205 : decode um_M_standOut.2.1 205 = .ok (.aload_n 0, 1) := by decide +kernel
theorem d_M_standOut_206 : decode um_M_standOut.2.1 206 = .ok (.getfield 40, 3) := by decide +kernel
theorem d_M_standOut_209 : decode um_M_standOut.2.1 209 = .ok (.iload 12, 2) := by decide +kernel
theorem d_M_standOut_211 : decode um_M_standOut.2.1 211 = .ok (.iaload, 1) := by decide +kernel
theorem d_M_standOut_212 : decode um_M_standOut.2.1 212 = .ok (.iconst 1, 1) := by decide +kernel
theorem d_M_standOut_213 : decode um_M_standOut.2.1 213 = .ok (.iadd, 1) := by decide +kernel
theorem d_M_standOut_214 : decode um_M_standOut.2.1 214 = .ok (.iload 11, 2) := by decide +kernel
theorem d_M_standOut_216 : decode um_M_standOut.2.1 216 = .ok (.invokevirtual 118, 3) := by decide +kernel
theorem d_M_standOut_219 : decode um_M_standOut.2.1 219 = .ok (.iload 12, 2) := by decide +kernel
theorem d_M_standOut_221 : decode um_M_standOut.2.1 221 = .ok (.istore 10, 2) := by decide +kernel
theorem d_M_standOut_223 : decode um_M_standOut.2.1 223 = .ok (.aload_n 0, 1) := by decide +kernel
theorem d_M_standOut_224 : decode um_M_standOut.2.1 224 = .ok (.getfield 40, 3) := by decide +kernel
theorem d_M_standOut_227 : decode um_M_standOut.2.1 227 = .ok (.iload 12, 2) := by decide +kernel
theorem d_M_standOut_229 : decode um_M_standOut.2.1 229 = .ok (.iaload, 1) := by decide +kernel
theorem d_M_standOut_230 : decode um_M_standOut.2.1 230 = .ok (.istore 11, 2) := by decide +kernel
theorem d_M_standOut_232 : decode um_M_standOut.2.1 232 = .ok (.iinc 9 (-1), 3) := by decide +kernel
theorem d_M_standOut_235 : decode um_M_standOut.2.1 235 = .ok (.iinc 12 (-1), 3) := by decide +kernel
theorem d_M_standOut_238 : decode um_M_standOut.2.1 238 = .ok (.goto (-78), 3) := by decide +kernel
theorem d_M_standOut_241 : decode um_M_standOut.2.1 241 = .ok (.aload_n 0, 1) := by decide +kernel
theorem d_M_standOut_242 : decode um_M_standOut.2.1 242 = .ok (.iload 5, 2) := by decide +kernel
theorem d_M_standOut_244 : decode um_M_standOut.2.1 244 = .ok (.iload 10, 2) := by decide +kernel
theorem d_M_standOut_246 : decode um_M_standOut.2.1 246 = .ok (.iload 6, 2) := by decide +kernel
theorem d_M_standOut_248 : decode um_M_standOut.2.1 248 = .ok (.iload 11, 2) := by decide +kernel
theorem d_M_standOut_250 : decode um_M_standOut.2.1 250 = .ok (.invokevirtual 118, 3) := by decide +kernel
theorem d_M_standOut_253 : decode um_M_standOut.2.1 253 = .ok (.return_, 1) := by decide +kernel
theorem d_M_compareAll_0 : decode um_M_compareAll.2.1 0 = .ok (.iload_n 1, 1) := by decide +kernel
theorem d_M_compareAll_1 : decode um_M_compareAll.2.1 1 = .ok (.ifCond .ne 18, 3) := by decide +kernel
theorem d_M_compareAll_4 : decode um_M_compareAll.2.1 4 = .ok (.aload_n 0, 1) := by decide +kernel
theorem d_M_compareAll_5 : decode um_M_compareAll.2.1 5 = .ok (.iconst 0, 1) := by decide +kernel
theorem d_M_compareAll_6 : decode um_M_compareAll.2.1 6 = .ok (.aload_n 0, 1) := by decide +kernel
theorem d_M_compareAll_7 : decode um_M_compareAll.2.1 7 = .ok (.getfield 96, 3) := by decide +kernel
theorem d_M_compareAll_10 : decode um_M_compareAll.2.1 10 = .ok (.iconst 0, 1) := by decide +kernel
theorem d_M_compareAll_11 : decode um_M_compareAll.2.1 11 = .ok (.aload_n 0, 1) := by decide +kernel
theorem d_M_compareAll_12 : decode um_M_compareAll.2.1 12 = .ok (.getfield 100, 3) := by decide +kernel
theorem d_M_compareAll_15 : decode um_M_compareAll.2.1 15 = .ok (.invokevirtual 114, 3) := by decide +kernel
theorem d_M_compareAll_18 : decode um_M_compareAll.2.1 18 = .ok (.return_, 1) := by decide +kernel
theorem d_M_compareAll_19 : decode um_M_compareAll.2.1 19 = .ok (.aload_n 0, 1) := by decide +kernel
theorem d_M_compareAll_20 : decode um_M_compareAll.2.1 20 = .ok (.iconst 0, 1) := by decide +kernel
theorem d_M_compareAll_21 : decode um_M_compareAll.2.1 21 = .ok (.putfield 103, 3) := by decide +kernel
theorem d_M_compareAll_24 : decode um_M_compareAll.2.1 24 = .ok (.aload_n 0, 1) := by decide +kernel
theorem d_M_compareAll_25 : decode um_M_compareAll.2.1 25 = .ok (.iconst 0, 1) := by decide +kernel
theorem d_M_compareAll_26 : decode um_M_compareAll.2.1 26 = .ok (.aload_n 0, 1) := by decide +kernel
theorem d_M_compareAll_27 : decode um_M_compareAll.2.1 27 = .ok (.getfield 96, 3) := by decide +kernel
theorem d_M_compareAll_30 : decode um_M_compareAll.2.1 30 = .ok (.iconst 0, 1) := by decide +kernel
theorem d_M_compareAll_31 : decode um_M_compareAll.2.1 31 = .ok (.aload_n 0, 1) := by decide +kernel
theorem d_M_compareAll_32 : decode um_M_compareAll.2.1 32 = .ok (.getfield 100, 3) := by decide +kernel
theorem d_M_compareAll_35 : decode um_M_compareAll.2.1 35 = .ok (.invokevirtual 118, 3) := by decide +kernel
theorem d_M_compareAll_38 : decode um_M_compareAll.2.1 38 = .ok (.aload_n 0, 1) := by decide +kernel
theorem d_M_compareAll_39 : decode um_M_compareAll.2.1 39 = .ok (.getfield 103, 3) := by decide +kernel
theorem d_M_compareAll_42 : decode um_M_compareAll.2.1 42 = .ok (.ifCond .le 56, 3) := by decide +kernel
theorem d_M_compareAll_45 : decode um_M_compareAll.2.1 45 = .ok (.aload_n 0, 1) := by decide +kernel
theorem d_M_compareAll_46 : decode um_M_compareAll.2.1 46 = .ok (.dup, 1) := by decide +kernel
theorem d_M_compareAll_47 : decode um_M_compareAll.2.1 47 = .ok (.getfield 103, 3) := by decide +kernel
theorem d_M_compareAll_50 : decode um_M_compareAll.2.1 50 = .ok (.iconst 1, 1) := by decide +kernel
theorem d_M_compareAll_51 : decode um_M_compareAll.2.1 51 = .ok (.isub, 1) := by decide +kernel
theorem d_M_compareAll_52 : decode um_M_compareAll.2.1 52 = .ok (.putfield 103, 3) := by decide +kernel
theorem d_M_compareAll_55 : decode um_M_compareAll.2.1 55 = .ok (.aload_n 0, 1) := by decide +kernel
theorem d_M_compareAll_56 : decode um_M_compareAll.2.1 56 = .ok (.aload_n 0, 1) := by decide +kernel
theorem d_M_compareAll_57 : decode um_M_compareAll.2.1 57 = .ok (.getfield 28, 3) := by decide +kernel
theorem d_M_compareAll_60 : decode um_M_compareAll.2.1 60 = .ok (.aload_n 0, 1) := by decide +kernel
theorem d_M_compareAll_61 : decode um_M_compareAll.2.1 61 = .ok (.getfield 103, 3) := by decide +kernel
theorem d_M_compareAll_64 : decode um_M_compareAll.2.1 64 = .ok (.iaload, 1) := by decide +kernel
theorem d_M_compareAll_65 : decode um_M_compareAll.2.1 65 = .ok (.aload_n 0, 1) := by decide +kernel
theorem d_M_compareAll_66 : decode um_M_compareAll.2.1 66 = .ok (.getfield 31, 3) := by decide +kernel
theorem d_M_compareAll_69 : decode um_M_compareAll.2.1 69 = .ok (.aload_n 0, 1) := by decide +kernel
theorem d_M_compareAll_70 : decode um_M_compareAll.2.1 70 = .ok (.getfield 103, 3) := by decide +kernel
theorem d_M_compareAll_73 : decode um_M_compareAll.2.1 73 = .ok (.iaload, 1) := by decide +kernel
theorem d_M_compareAll_74 : decode um_M_compareAll.2.1 74 = .ok (.aload_n 0, 1) := by decide +kernel
theorem d_M_compareAll_75 : decode um_M_compareAll.2.1 75 = .ok (.getfield 34, 3) := by decide +kernel
theorem d_M_compareAll_78 : decode um_M_compareAll.2.1 78 = .ok (.aload_n 0, 1) := by decide +kernel
theorem d_M_compareAll_79 : decode um_M_compareAll.2.1 79 = .ok (.getfield 103, 3) := by decide +kernel
theorem d_M_compareAll_82 : decode um_M_compareAll.2.1 82 = .ok (.iaload, 1) := by decide +kernel
theorem d_M_compareAll_83 : decode um_M_compareAll.2.1 83 = .ok (.aload_n 0, 1) := by decide +kernel
theorem d_M_compareAll_84 : decode um_M_compareAll.2.1 84 = .ok (.getfield 37, 3) := by decide +kernel
theorem d_M_compareAll_87 : decode um_M_compareAll.2.1 87 = .ok (.aload_n 0, 1) := by decide +kernel
theorem d_M_compareAll_88 : decode um_M_compareAll.2.1 88 = .ok (.getfield 103, 3) := by decide +kernel
theorem d_M_compareAll_91 : decode um_M_compareAll.2.1 91 = .ok (.iaload, 1) := by decide +kernel
theorem d_M_compareAll_92 : decode um_M_compareAll.2.1 92 = .ok (.invokevirtual 121, 3) := by decide +kernel
theorem d_M_compareAll_95 : decode um_M_compareAll.2.1 95 = .ok (.goto (-57), 3) := by decide +kernel
theorem d_M_compareAll_98 : decode um_M_compareAll.2.1 98 = .ok (.return_, 1) := by decide +kernel
theorem d_M_compare_0 : decode um_M_compare.2.1 0 = .ok (.iload_n 1, 1) := by decide +kernel
theorem d_M_compare_1 : decode um_M_compare.2.1 1 = .ok (.iconst 0, 1) := by decide +kernel
theorem d_M_compare_2 : decode um_M_compare.2.1 2 = .ok (.iconst 3, 1) := by decide +kernel
theorem d_M_compare_3 : decode um_M_compare.2.1 3 = .ok (.invokestatic 88, 3) := by decide +kernel
theorem d_M_compare_6 : decode um_M_compare.2.1 6 = .ok (.ifCond .eq 21, 3) := by decide +kernel
theorem d_M_compare_9 : decode um_M_compare.2.1 9 = .ok (.iload_n 2, 1) := by decide +kernel
theorem d_M_compare_10 : decode um_M_compare.2.1 10 = .ok (.iconst 0, 1) := by decide +kernel
theorem d_M_compare_11 : decode um_M_compare.2.1 11 = .ok (.iconst 3, 1) := by decide +kernel
theorem d_M_compare_12 : decode um_M_compare.2.1 12 = .ok (.invokestatic 88, 3) := by decide +kernel
theorem d_M_compare_15 : decode um_M_compare.2.1 15 = .ok (.ifCond .eq 12, 3) := by decide +kernel
theorem d_M_compare_18 : decode um_M_compare.2.1 18 = .ok (.iload_n 3, 1) := by decide +kernel
theorem d_M_compare_19 : decode um_M_compare.2.1 19 = .ok (.iconst 0, 1) := by decide +kernel
theorem d_M_compare_20 : decode um_M_compare.2.1 20 = .ok (.iconst 1, 1) := by decide +kernel
theorem d_M_compare_21 : decode um_M_compare.2.1 21 = .ok (.invokestatic 88, 3) := by decide +kernel
theorem d_M_compare_24 : decode um_M_compare.2.1 24 = .ok (.ifCond .ne 5, 3) := by decide +kernel
theorem d_M_compare_27 : decode um_M_compare.2.1 27 = .ok (.iconst (-1), 1) := by decide +kernel
theorem d_M_compare_28 : decode um_M_compare.2.1 28 = .ok (.ireturn, 1) := by decide +kernel
theorem d_M_compare_29 : decode um_M_compare.2.1 29 = .ok (.aload_n 0, 1) := by decide +kernel
theorem d_M_compare_30 : decode um_M_compare.2.1 30 = .ok (.iload_n 1, 1) := by decide +kernel
theorem d_M_compare_31 : decode um_M_compare.2.1 31 = .ok (.invokevirtual 124, 3) := by decide +kernel
theorem d_M_compare_34 : decode um_M_compare.2.1 34 = .ok (.ifCond .eq 11, 3) := by decide +kernel
theorem d_M_compare_37 : decode um_M_compare.2.1 37 = .ok (.aload_n 0, 1) := by decide +kernel
theorem d_M_compare_38 : decode um_M_compare.2.1 38 = .ok (.iload_n 2, 1) := by decide +kernel
theorem d_M_compare_39 : decode um_M_compare.2.1 39 = .ok (.invokevirtual 124, 3) := by decide +kernel
theorem d_M_compare_42 : decode um_M_compare.2.1 42 = .ok (.ifCond .ne 6, 3) := by decide +kernel
theorem d_M_compare_45 : decode um_M_compare.2.1 45 = .ok (.bipush (-3), 2) := by decide +kernel
theorem d_M_compare_47 : decode um_M_compare.2.1 47 = .ok (.ireturn, 1) := by decide +kernel
theorem d_M_compare_48 : decode um_M_compare.2.1 48 = .ok (.aload_n 0, 1) := by decide +kernel
theorem d_M_compare_49 : decode um_M_compare.2.1 49 = .ok (.iload_n 1, 1) := by decide +kernel
theorem d_M_compare_50 : decode um_M_compare.2.1 50 = .ok (.iload_n 2, 1) := by decide +kernel
theorem d_M_compare_51 : decode um_M_compare.2.1 51 = .ok (.invokevirtual 127, 3) := by decide +kernel
theorem d_M_compare_54 : decode um_M_compare.2.1 54 = .ok (.aload_n 0, 1) := by decide +kernel
theorem d_M_compare_55 : decode um_M_compare.2.1 55 = .ok (.iload_n 3, 1) := by decide +kernel
theorem d_M_compare_56 : decode um_M_compare.2.1 56 = .ok (.invokevirtual 131, 3) := by decide +kernel
theorem d_M_compare_59 : decode um_M_compare.2.1 59 = .ok (.aload_n 0, 1) := by decide +kernel
theorem d_M_compare_60 : decode um_M_compare.2.1 60 = .ok (.iconst 1, 1) := by decide +kernel
theorem d_M_compare_61 : decode um_M_compare.2.1 61 = .ok (.putfield 135, 3) := by decide +kernel
theorem d_M_compare_64 : decode um_M_compare.2.1 64 = .ok (.aload_n 0, 1) := by decide +kernel
theorem d_M_compare_65 : decode um_M_compare.2.1 65 = .ok (.aload_n 0, 1) := by decide +kernel
theorem d_M_compare_66 : decode um_M_compare.2.1 66 = .ok (.getfield 96, 3) := by decide +kernel
theorem d_M_compare_69 : decode um_M_compare.2.1 69 = .ok (.putfield 139, 3) := by decide +kernel
theorem d_M_compare_72 : decode um_M_compare.2.1 72 = .ok (.aload_n 0, 1) := by decide +kernel
theorem d_M_compare_73 : decode um_M_compare.2.1 73 = .ok (.aload_n 0, 1) := by decide +kernel
theorem d_M_compare_74 : decode um_M_compare.2.1 74 = .ok (.getfield 100, 3) := by decide +kernel
theorem d_M_compare_77 : decode um_M_compare.2.1 77 = .ok (.putfield 142, 3) := by decide +kernel
theorem d_M_compare_80 : decode um_M_compare.2.1 80 = .ok (.iconst 0, 1) := by decide +kernel
theorem d_M_compare_81 : decode um_M_compare.2.1 81 = .ok (.istore 4, 2) := by decide +kernel
theorem d_M_compare_83 : decode um_M_compare.2.1 83 = .ok (.iconst 0, 1) := by decide +kernel
theorem d_M_compare_84 : decode um_M_compare.2.1 84 = .ok (.istore 5, 2) := by decide +kernel
theorem d_M_compare_86 : decode um_M_compare.2.1 86 = .ok (.iload 5, 2) := by decide +kernel
theorem d_M_compare_88 : decode um_M_compare.2.1 88 = .ok (.aload_n 0, 1) := by decide +kernel
theorem d_M_compare_89 : decode um_M_compare.2.1 89 = .ok (.getfield 96, 3) := by decide +kernel
theorem d_M_compare_92 : decode um_M_compare.2.1 92 = .ok (.if_icmp .ge 58, 3) := by decide +kernel
theorem d_M_compare_95 : decode um_M_compare.2.1 95 = .ok (.aload_n 0, 1) := by decide +kernel
theorem d_M_compare_96 : decode um_M_compare.2.1 96 = .ok (.getfield 46, 3) := by decide +kernel
theorem d_M_compare_99 : decode um_M_compare.2.1 99 = .ok (.iload 5, 2) := by decide +kernel
theorem d_M_compare_101 : decode um_M_compare.2.1 101 = .ok (.aload_n 0, 1) := by decide +kernel
theorem d_M_compare_102 : decode um_M_compare.2.1 102 = .ok (.getfield 16, 3) := by decide +kernel
theorem d_M_compare_105 : decode um_M_compare.2.1 105 = .ok (.iload 5, 2) := by decide +kernel
theorem d_M_compare_107 : decode um_M_compare.2.1 107 = .ok (.iaload, 1) := by decide +kernel
theorem d_M_compare_108 : decode um_M_compare.2.1 108 = .ok (.iastore, 1) := by decide +kernel
theorem d_M_compare_109 : decode um_M_compare.2.1 109 = .ok (.aload_n 0, 1) := by decide +kernel
theorem d_M_compare_110 : decode um_M_compare.2.1 110 = .ok (.getfield 52, 3) := by decide +kernel
theorem d_M_compare_113 : decode um_M_compare.2.1 113 = .ok (.iload 5, 2) := by decide +kernel
theorem d_M_compare_115 : decode um_M_compare.2.1 115 = .ok (.aload_n 0, 1) := by decide +kernel
theorem d_M_compare_116 : decode um_M_compare.2.1 116 = .ok (.getfield 22, 3) := by decide +kernel
theorem d_M_compare_119 : decode um_M_compare.2.1 119 = .ok (.iload 5, 2) := by decide +kernel
theorem d_M_compare_121 : decode um_M_compare.2.1 121 = .ok (.iaload, 1) := by decide +kernel
theorem d_M_compare_122 : decode um_M_compare.2.1 122 = .ok (.iastore, 1) := by decide +kernel
theorem d_M_compare_123 : decode um_M_compare.2.1 123 = .ok (.aload_n 0, 1) := by decide +kernel
theorem d_M_compare_124 : decode um_M_compare.2.1 124 = .ok (.getfield 22, 3) := by decide +kernel
theorem d_M_compare_127 : decode um_M_compare.2.1 127 = .ok (.iload 5, 2) := by decide +kernel
theorem d_M_compare_129 : decode um_M_compare.2.1 129 = .ok (.iaload, 1) := by decide +kernel
theorem d_M_compare_130 : decode um_M_compare.2.1 130 = .ok (.ifCond .lt 10, 3) := by decide +kernel
theorem d_M_compare_133 : decode um_M_compare.2.1 133 = .ok (.iload 4, 2) := by decide +kernel
theorem d_M_compare_135 : decode um_M_compare.2.1 135 = .ok (.iconst 1, 1) := by decide +kernel
theorem d_M_compare_136 : decode um_M_compare.2.1 136 = .ok (.iadd, 1) := by decide +kernel
theorem d_M_compare_137 : decode um_M_compare.2.1 137 = .ok (.goto 5, 3) := by decide +kernel
theorem d_M_compare_140 : decode um_M_compare.2.1 140 = .ok (.iload 4, 2) := by decide +kernel
theorem d_M_compare_142 : decode um_M_compare.2.1 142 = .ok (.istore 4, 2) := by decide +kernel
theorem d_M_compare_144 : decode um_M_compare.2.1 144 = .ok (.iinc 5 1, 3) := by decide +kernel
theorem d_M_compare_147 : decode um_M_compare.2.1 147 = .ok (.goto (-61), 3) := by decide +kernel
theorem d_M_compare_150 : decode um_M_compare.2.1 150 = .ok (.iconst 0, 1) := by decide +kernel
theorem d_M_compare_151 : decode um_M_compare.2.1 151 = .ok (.istore 5, 2) := by decide +kernel
theorem d_M_compare_153 : decode um_M_compare.2.1 153 = .ok (.iload 5, 2) := by decide +kernel
theorem d_M_compare_155 : decode um_M_compare.2.1 155 = .ok (.aload_n 0, 1) := by decide +kernel
theorem d_M_compare_156 : decode um_M_compare.2.1 156 = .ok (.getfield 100, 3) := by decide +kernel
