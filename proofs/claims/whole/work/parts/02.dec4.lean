theorem dX8_isSignBehind_0 : decode cX8_isSignBehind 0 = .ok (.iload_n 2, 1) := by decide +kernel
theorem dX8_isSignBehind_1 : decode cX8_isSignBehind 1 = .ok (.ifCond .ne 5, 3) := by decide +kernel
theorem dX8_isSignBehind_4 : decode cX8_isSignBehind 4 = .ok (.iconst 0, 1) := by decide +kernel
theorem dX8_isSignBehind_5 : decode cX8_isSignBehind 5 = .ok (.ireturn, 1) := by decide +kernel
theorem dX8_isSignBehind_6 : decode cX8_isSignBehind 6 = .ok (.aload_n 0, 1) := by decide +kernel
theorem dX8_isSignBehind_7 : decode cX8_isSignBehind 7 = .ok (.getfield 19, 3) := by decide +kernel
theorem dX8_isSignBehind_10 : decode cX8_isSignBehind 10 = .ok (.iload_n 1, 1) := by decide +kernel
theorem dX8_isSignBehind_11 : decode cX8_isSignBehind 11 = .ok (.iaload, 1) := by decide +kernel
theorem dX8_isSignBehind_12 : decode cX8_isSignBehind 12 = .ok (.ifCond .ne 17, 3) := by decide +kernel
theorem dX8_isSignBehind_15 : decode cX8_isSignBehind 15 = .ok (.iload_n 2, 1) := by decide +kernel
theorem dX8_isSignBehind_16 : decode cX8_isSignBehind 16 = .ok (.iconst 3, 1) := by decide +kernel
theorem dX8_isSignBehind_17 : decode cX8_isSignBehind 17 = .ok (.irem, 1) := by decide +kernel
theorem dX8_isSignBehind_18 : decode cX8_isSignBehind 18 = .ok (.ifCond .ne 7, 3) := by decide +kernel
theorem dX8_isSignBehind_21 : decode cX8_isSignBehind 21 = .ok (.iconst 1, 1) := by decide +kernel
theorem dX8_isSignBehind_22 : decode cX8_isSignBehind 22 = .ok (.goto 24, 3) := by decide +kernel
theorem dX8_isSignBehind_25 : decode cX8_isSignBehind 25 = .ok (.iconst 0, 1) := by decide +kernel
theorem dX8_isSignBehind_26 : decode cX8_isSignBehind 26 = .ok (.goto 20, 3) := by decide +kernel
theorem dX8_isSignBehind_29 : decode cX8_isSignBehind 29 = .ok (.iload_n 2, 1) := by decide +kernel
theorem dX8_isSignBehind_30 : decode cX8_isSignBehind 30 = .ok (.iconst 3, 1) := by decide +kernel
theorem dX8_isSignBehind_31 : decode cX8_isSignBehind 31 = .ok (.if_icmp .lt 14, 3) := by decide +kernel
theorem dX8_isSignBehind_34 : decode cX8_isSignBehind 34 = .ok (.iload_n 2, 1) := by decide +kernel
theorem dX8_isSignBehind_35 : decode cX8_isSignBehind 35 = .ok (.iconst 2, 1) := by decide +kernel
theorem dX8_isSignBehind_36 : decode cX8_isSignBehind 36 = .ok (.irem, 1) := by decide +kernel
theorem dX8_isSignBehind_37 : decode cX8_isSignBehind 37 = .ok (.iconst 1, 1) := by decide +kernel
theorem dX8_isSignBehind_38 : decode cX8_isSignBehind 38 = .ok (.if_icmp .ne 7, 3) := by decide +kernel
theorem dX8_isSignBehind_41 : decode cX8_isSignBehind 41 = .ok (.iconst 1, 1) := by decide +kernel
theorem dX8_isSignBehind_42 : decode cX8_isSignBehind 42 = .ok (.goto 4, 3) := by decide +kernel
theorem dX8_isSignBehind_45 : decode cX8_isSignBehind 45 = .ok (.iconst 0, 1) := by decide +kernel
theorem dX8_isSignBehind_46 : decode cX8_isSignBehind 46 = .ok (.ireturn, 1) := by decide +kernel
theorem dX8_putNumber_0 : decode cX8_putNumber 0 = .ok (.iconst 0, 1) := by decide +kernel
theorem dX8_putNumber_1 : decode cX8_putNumber 1 = .ok (.istore 5, 2) := by decide +kernel
theorem dX8_putNumber_3 : decode cX8_putNumber 3 = .ok (.iload 5, 2) := by decide +kernel
theorem dX8_putNumber_5 : decode cX8_putNumber 5 = .ok (.iload_n 2, 1) := by decide +kernel
theorem dX8_putNumber_6 : decode cX8_putNumber 6 = .ok (.if_icmp .ge 60, 3) := by decide +kernel
theorem dX8_putNumber_9 : decode cX8_putNumber 9 = .ok (.aload_n 0, 1) := by decide +kernel
theorem dX8_putNumber_10 : decode cX8_putNumber 10 = .ok (.iload 5, 2) := by decide +kernel
theorem dX8_putNumber_12 : decode cX8_putNumber 12 = .ok (.ifCond .ne 13, 3) := by decide +kernel
theorem dX8_putNumber_15 : decode cX8_putNumber 15 = .ok (.iload_n 2, 1) := by decide +kernel
theorem dX8_putNumber_16 : decode cX8_putNumber 16 = .ok (.iconst 1, 1) := by decide +kernel
theorem dX8_putNumber_17 : decode cX8_putNumber 17 = .ok (.if_icmp .le 8, 3) := by decide +kernel
theorem dX8_putNumber_20 : decode cX8_putNumber 20 = .ok (.bipush (-2), 2) := by decide +kernel
theorem dX8_putNumber_22 : decode cX8_putNumber 22 = .ok (.goto 4, 3) := by decide +kernel
theorem dX8_putNumber_25 : decode cX8_putNumber 25 = .ok (.iconst (-1), 1) := by decide +kernel
theorem dX8_putNumber_26 : decode cX8_putNumber 26 = .ok (.iconst 1, 1) := by decide +kernel
theorem dX8_putNumber_27 : decode cX8_putNumber 27 = .ok (.invokevirtual 104, 3) := by decide +kernel
theorem dX8_putNumber_30 : decode cX8_putNumber 30 = .ok (.iload 4, 2) := by decide +kernel
theorem dX8_putNumber_32 : decode cX8_putNumber 32 = .ok (.ifCond .eq 28, 3) := by decide +kernel
theorem dX8_putNumber_35 : decode cX8_putNumber 35 = .ok (.aload_n 0, 1) := by decide +kernel
theorem dX8_putNumber_36 : decode cX8_putNumber 36 = .ok (.iload_n 1, 1) := by decide +kernel
theorem dX8_putNumber_37 : decode cX8_putNumber 37 = .ok (.iload_n 2, 1) := by decide +kernel
theorem dX8_putNumber_38 : decode cX8_putNumber 38 = .ok (.iconst 1, 1) := by decide +kernel
theorem dX8_putNumber_39 : decode cX8_putNumber 39 = .ok (.isub, 1) := by decide +kernel
theorem dX8_putNumber_40 : decode cX8_putNumber 40 = .ok (.iload 5, 2) := by decide +kernel
theorem dX8_putNumber_42 : decode cX8_putNumber 42 = .ok (.isub, 1) := by decide +kernel
theorem dX8_putNumber_43 : decode cX8_putNumber 43 = .ok (.invokevirtual 108, 3) := by decide +kernel
theorem dX8_putNumber_46 : decode cX8_putNumber 46 = .ok (.ifCond .eq 14, 3) := by decide +kernel
theorem dX8_putNumber_49 : decode cX8_putNumber 49 = .ok (.aload_n 0, 1) := by decide +kernel
theorem dX8_putNumber_50 : decode cX8_putNumber 50 = .ok (.aload_n 0, 1) := by decide +kernel
theorem dX8_putNumber_51 : decode cX8_putNumber 51 = .ok (.getfield 16, 3) := by decide +kernel
theorem dX8_putNumber_54 : decode cX8_putNumber 54 = .ok (.iload_n 1, 1) := by decide +kernel
theorem dX8_putNumber_55 : decode cX8_putNumber 55 = .ok (.iaload, 1) := by decide +kernel
theorem dX8_putNumber_56 : decode cX8_putNumber 56 = .ok (.iconst 0, 1) := by decide +kernel
theorem dX8_putNumber_57 : decode cX8_putNumber 57 = .ok (.invokevirtual 104, 3) := by decide +kernel
theorem dX8_putNumber_60 : decode cX8_putNumber 60 = .ok (.iinc 5 1, 3) := by decide +kernel
theorem dX8_putNumber_63 : decode cX8_putNumber 63 = .ok (.goto (-60), 3) := by decide +kernel
theorem dX8_putNumber_66 : decode cX8_putNumber 66 = .ok (.iload_n 3, 1) := by decide +kernel
theorem dX8_putNumber_67 : decode cX8_putNumber 67 = .ok (.ifCond .le 14, 3) := by decide +kernel
theorem dX8_putNumber_70 : decode cX8_putNumber 70 = .ok (.aload_n 0, 1) := by decide +kernel
theorem dX8_putNumber_71 : decode cX8_putNumber 71 = .ok (.aload_n 0, 1) := by decide +kernel
theorem dX8_putNumber_72 : decode cX8_putNumber 72 = .ok (.getfield 13, 3) := by decide +kernel
theorem dX8_putNumber_75 : decode cX8_putNumber 75 = .ok (.iload_n 1, 1) := by decide +kernel
theorem dX8_putNumber_76 : decode cX8_putNumber 76 = .ok (.iaload, 1) := by decide +kernel
theorem dX8_putNumber_77 : decode cX8_putNumber 77 = .ok (.iconst 0, 1) := by decide +kernel
theorem dX8_putNumber_78 : decode cX8_putNumber 78 = .ok (.invokevirtual 104, 3) := by decide +kernel
theorem dX8_putNumber_81 : decode cX8_putNumber 81 = .ok (.iconst 0, 1) := by decide +kernel
theorem dX8_putNumber_82 : decode cX8_putNumber 82 = .ok (.istore 5, 2) := by decide +kernel
theorem dX8_putNumber_84 : decode cX8_putNumber 84 = .ok (.iload 5, 2) := by decide +kernel
theorem dX8_putNumber_86 : decode cX8_putNumber 86 = .ok (.iload_n 3, 1) := by decide +kernel
theorem dX8_putNumber_87 : decode cX8_putNumber 87 = .ok (.if_icmp .ge 15, 3) := by decide +kernel
theorem dX8_putNumber_90 : decode cX8_putNumber 90 = .ok (.aload_n 0, 1) := by decide +kernel
theorem dX8_putNumber_91 : decode cX8_putNumber 91 = .ok (.iconst (-1), 1) := by decide +kernel
theorem dX8_putNumber_92 : decode cX8_putNumber 92 = .ok (.iconst 2, 1) := by decide +kernel
theorem dX8_putNumber_93 : decode cX8_putNumber 93 = .ok (.invokevirtual 104, 3) := by decide +kernel
theorem dX8_putNumber_96 : decode cX8_putNumber 96 = .ok (.iinc 5 1, 3) := by decide +kernel
theorem dX8_putNumber_99 : decode cX8_putNumber 99 = .ok (.goto (-15), 3) := by decide +kernel
theorem dX8_putNumber_102 : decode cX8_putNumber 102 = .ok (.return_, 1) := by decide +kernel
theorem dX8_putAmount_0 : decode cX8_putAmount 0 = .ok (.aload_n 0, 1) := by decide +kernel
theorem dX8_putAmount_1 : decode cX8_putAmount 1 = .ok (.iconst 0, 1) := by decide +kernel
theorem dX8_putAmount_2 : decode cX8_putAmount 2 = .ok (.putfield 101, 3) := by decide +kernel
theorem dX8_putAmount_5 : decode cX8_putAmount 5 = .ok (.iload 6, 2) := by decide +kernel
theorem dX8_putAmount_7 : decode cX8_putAmount 7 = .ok (.iconst 1, 1) := by decide +kernel
theorem dX8_putAmount_8 : decode cX8_putAmount 8 = .ok (.iand, 1) := by decide +kernel
theorem dX8_putAmount_9 : decode cX8_putAmount 9 = .ok (.ifCond .eq 7, 3) := by decide +kernel
theorem dX8_putAmount_12 : decode cX8_putAmount 12 = .ok (.iconst 1, 1) := by decide +kernel
theorem dX8_putAmount_13 : decode cX8_putAmount 13 = .ok (.goto 4, 3) := by decide +kernel
theorem dX8_putAmount_16 : decode cX8_putAmount 16 = .ok (.iconst 0, 1) := by decide +kernel
theorem dX8_putAmount_17 : decode cX8_putAmount 17 = .ok (.istore 7, 2) := by decide +kernel
theorem dX8_putAmount_19 : decode cX8_putAmount 19 = .ok (.iload 6, 2) := by decide +kernel
theorem dX8_putAmount_21 : decode cX8_putAmount 21 = .ok (.iconst 2, 1) := by decide +kernel
theorem dX8_putAmount_22 : decode cX8_putAmount 22 = .ok (.iand, 1) := by decide +kernel
theorem dX8_putAmount_23 : decode cX8_putAmount 23 = .ok (.ifCond .eq 7, 3) := by decide +kernel
theorem dX8_putAmount_26 : decode cX8_putAmount 26 = .ok (.iconst 1, 1) := by decide +kernel
theorem dX8_putAmount_27 : decode cX8_putAmount 27 = .ok (.goto 4, 3) := by decide +kernel
theorem dX8_putAmount_30 : decode cX8_putAmount 30 = .ok (.iconst 0, 1) := by decide +kernel
theorem dX8_putAmount_31 : decode cX8_putAmount 31 = .ok (.istore 8, 2) := by decide +kernel
theorem dX8_putAmount_33 : decode cX8_putAmount 33 = .ok (.iload 7, 2) := by decide +kernel
theorem dX8_putAmount_35 : decode cX8_putAmount 35 = .ok (.ifCond .eq 34, 3) := by decide +kernel
theorem dX8_putAmount_38 : decode cX8_putAmount 38 = .ok (.aload_n 0, 1) := by decide +kernel
theorem dX8_putAmount_39 : decode cX8_putAmount 39 = .ok (.getfield 22, 3) := by decide +kernel
theorem dX8_putAmount_42 : decode cX8_putAmount 42 = .ok (.iload_n 1, 1) := by decide +kernel
theorem dX8_putAmount_43 : decode cX8_putAmount 43 = .ok (.iaload, 1) := by decide +kernel
theorem dX8_putAmount_44 : decode cX8_putAmount 44 = .ok (.iconst 1, 1) := by decide +kernel
theorem dX8_putAmount_45 : decode cX8_putAmount 45 = .ok (.if_icmp .eq 24, 3) := by decide +kernel
theorem dX8_putAmount_48 : decode cX8_putAmount 48 = .ok (.aload_n 0, 1) := by decide +kernel
theorem dX8_putAmount_49 : decode cX8_putAmount 49 = .ok (.aload_n 0, 1) := by decide +kernel
theorem dX8_putAmount_50 : decode cX8_putAmount 50 = .ok (.getfield 22, 3) := by decide +kernel
theorem dX8_putAmount_53 : decode cX8_putAmount 53 = .ok (.iload_n 1, 1) := by decide +kernel
theorem dX8_putAmount_54 : decode cX8_putAmount 54 = .ok (.iaload, 1) := by decide +kernel
theorem dX8_putAmount_55 : decode cX8_putAmount 55 = .ok (.ifCond .ne 8, 3) := by decide +kernel
theorem dX8_putAmount_58 : decode cX8_putAmount 58 = .ok (.bipush 45, 2) := by decide +kernel
theorem dX8_putAmount_60 : decode cX8_putAmount 60 = .ok (.goto 5, 3) := by decide +kernel
theorem dX8_putAmount_63 : decode cX8_putAmount 63 = .ok (.bipush 40, 2) := by decide +kernel
theorem dX8_putAmount_65 : decode cX8_putAmount 65 = .ok (.iconst 0, 1) := by decide +kernel
theorem dX8_putAmount_66 : decode cX8_putAmount 66 = .ok (.invokevirtual 104, 3) := by decide +kernel
theorem dX8_putAmount_69 : decode cX8_putAmount 69 = .ok (.iload_n 2, 1) := by decide +kernel
theorem dX8_putAmount_70 : decode cX8_putAmount 70 = .ok (.iconst 1, 1) := by decide +kernel
theorem dX8_putAmount_71 : decode cX8_putAmount 71 = .ok (.if_icmp .ne 29, 3) := by decide +kernel
theorem dX8_putAmount_74 : decode cX8_putAmount 74 = .ok (.aload_n 0, 1) := by decide +kernel
theorem dX8_putAmount_75 : decode cX8_putAmount 75 = .ok (.getfield 28, 3) := by decide +kernel
theorem dX8_putAmount_78 : decode cX8_putAmount 78 = .ok (.iload_n 1, 1) := by decide +kernel
theorem dX8_putAmount_79 : decode cX8_putAmount 79 = .ok (.baload, 1) := by decide +kernel
theorem dX8_putAmount_80 : decode cX8_putAmount 80 = .ok (.ifCond .ne 20, 3) := by decide +kernel
theorem dX8_putAmount_83 : decode cX8_putAmount 83 = .ok (.aload_n 0, 1) := by decide +kernel
theorem dX8_putAmount_84 : decode cX8_putAmount 84 = .ok (.iload_n 1, 1) := by decide +kernel
theorem dX8_putAmount_85 : decode cX8_putAmount 85 = .ok (.invokevirtual 112, 3) := by decide +kernel
theorem dX8_putAmount_88 : decode cX8_putAmount 88 = .ok (.iload 8, 2) := by decide +kernel
theorem dX8_putAmount_90 : decode cX8_putAmount 90 = .ok (.ifCond .eq 10, 3) := by decide +kernel
theorem dX8_putAmount_93 : decode cX8_putAmount 93 = .ok (.aload_n 0, 1) := by decide +kernel
theorem dX8_putAmount_94 : decode cX8_putAmount 94 = .ok (.bipush 32, 2) := by decide +kernel
theorem dX8_putAmount_96 : decode cX8_putAmount 96 = .ok (.iconst 0, 1) := by decide +kernel
theorem dX8_putAmount_97 : decode cX8_putAmount 97 = .ok (.invokevirtual 104, 3) := by decide +kernel
theorem dX8_putAmount_100 : decode cX8_putAmount 100 = .ok (.aload_n 0, 1) := by decide +kernel
theorem dX8_putAmount_101 : decode cX8_putAmount 101 = .ok (.iload_n 1, 1) := by decide +kernel
theorem dX8_putAmount_102 : decode cX8_putAmount 102 = .ok (.iload_n 3, 1) := by decide +kernel
theorem dX8_putAmount_103 : decode cX8_putAmount 103 = .ok (.iload 4, 2) := by decide +kernel
theorem dX8_putAmount_105 : decode cX8_putAmount 105 = .ok (.iload 5, 2) := by decide +kernel
theorem dX8_putAmount_107 : decode cX8_putAmount 107 = .ok (.invokevirtual 116, 3) := by decide +kernel
theorem dX8_putAmount_110 : decode cX8_putAmount 110 = .ok (.iload_n 2, 1) := by decide +kernel
theorem dX8_putAmount_111 : decode cX8_putAmount 111 = .ok (.iconst 1, 1) := by decide +kernel
theorem dX8_putAmount_112 : decode cX8_putAmount 112 = .ok (.if_icmp .ne 29, 3) := by decide +kernel
theorem dX8_putAmount_115 : decode cX8_putAmount 115 = .ok (.aload_n 0, 1) := by decide +kernel
theorem dX8_putAmount_116 : decode cX8_putAmount 116 = .ok (.getfield 28, 3) := by decide +kernel
theorem dX8_putAmount_119 : decode cX8_putAmount 119 = .ok (.iload_n 1, 1) := by decide +kernel
theorem dX8_putAmount_120 : decode cX8_putAmount 120 = .ok (.baload, 1) := by decide +kernel
theorem dX8_putAmount_121 : decode cX8_putAmount 121 = .ok (.ifCond .eq 20, 3) := by decide +kernel
theorem dX8_putAmount_124 : decode cX8_putAmount 124 = .ok (.iload 8, 2) := by decide +kernel
theorem dX8_putAmount_126 : decode cX8_putAmount 126 = .ok (.ifCond .eq 10, 3) := by decide +kernel
theorem dX8_putAmount_129 : decode cX8_putAmount 129 = .ok (.aload_n 0, 1) := by decide +kernel
theorem dX8_putAmount_130 : decode cX8_putAmount 130 = .ok (.bipush 32, 2) := by decide +kernel
theorem dX8_putAmount_132 : decode cX8_putAmount 132 = .ok (.iconst 0, 1) := by decide +kernel
theorem dX8_putAmount_133 : decode cX8_putAmount 133 = .ok (.invokevirtual 104, 3) := by decide +kernel
theorem dX8_putAmount_136 : decode cX8_putAmount 136 = .ok (.aload_n 0, 1) := by decide +kernel
theorem dX8_putAmount_137 : decode cX8_putAmount 137 = .ok (.iload_n 1, 1) := by decide +kernel
theorem dX8_putAmount_138 : decode cX8_putAmount 138 = .ok (.invokevirtual 112, 3) := by decide +kernel
theorem dX8_putAmount_141 : decode cX8_putAmount 141 = .ok (.iload 7, 2) := by decide +kernel
theorem dX8_putAmount_143 : decode cX8_putAmount 143 = .ok (.ifCond .eq 34, 3) := by decide +kernel
theorem dX8_putAmount_146 : decode cX8_putAmount 146 = .ok (.aload_n 0, 1) := by decide +kernel
theorem dX8_putAmount_147 : decode cX8_putAmount 147 = .ok (.getfield 22, 3) := by decide +kernel
theorem dX8_putAmount_150 : decode cX8_putAmount 150 = .ok (.iload_n 1, 1) := by decide +kernel
theorem dX8_putAmount_151 : decode cX8_putAmount 151 = .ok (.iaload, 1) := by decide +kernel
theorem dX8_putAmount_152 : decode cX8_putAmount 152 = .ok (.ifCond .eq 25, 3) := by decide +kernel
theorem dX8_putAmount_155 : decode cX8_putAmount 155 = .ok (.aload_n 0, 1) := by decide +kernel
theorem dX8_putAmount_156 : decode cX8_putAmount 156 = .ok (.aload_n 0, 1) := by decide +kernel
theorem dX8_putAmount_157 : decode cX8_putAmount 157 = .ok (.getfield 22, 3) := by decide +kernel
theorem dX8_putAmount_160 : decode cX8_putAmount 160 = .ok (.iload_n 1, 1) := by decide +kernel
theorem dX8_putAmount_161 : decode cX8_putAmount 161 = .ok (.iaload, 1) := by decide +kernel
theorem dX8_putAmount_162 : decode cX8_putAmount 162 = .ok (.iconst 1, 1) := by decide +kernel
theorem dX8_putAmount_163 : decode cX8_putAmount 163 = .ok (.if_icmp .ne 8, 3) := by decide +kernel
theorem dX8_putAmount_166 : decode cX8_putAmount 166 = .ok (.bipush 45, 2) := by decide +kernel
theorem dX8_putAmount_168 : decode cX8_putAmount 168 = .ok (.goto 5, 3) := by decide +kernel
theorem dX8_putAmount_171 : decode cX8_putAmount 171 = .ok (.bipush 41, 2) := by decide +kernel
theorem dX8_putAmount_173 : decode cX8_putAmount 173 = .ok (.iconst 0, 1) := by decide +kernel
theorem dX8_putAmount_174 : decode cX8_putAmount 174 = .ok (.invokevirtual 104, 3) := by decide +kernel
theorem dX8_putAmount_177 : decode cX8_putAmount 177 = .ok (.return_, 1) := by decide +kernel
theorem dX8_matched_0 : decode cX8_matched 0 = .ok (.iload_n 1, 1) := by decide +kernel
theorem dX8_matched_1 : decode cX8_matched 1 = .ok (.aload_n 0, 1) := by decide +kernel
theorem dX8_matched_2 : decode cX8_matched 2 = .ok (.getfield 101, 3) := by decide +kernel
theorem dX8_matched_5 : decode cX8_matched 5 = .ok (.if_icmp .le 5, 3) := by decide +kernel
theorem dX8_matched_8 : decode cX8_matched 8 = .ok (.iconst 0, 1) := by decide +kernel
theorem dX8_matched_9 : decode cX8_matched 9 = .ok (.ireturn, 1) := by decide +kernel
theorem dX8_matched_10 : decode cX8_matched 10 = .ok (.iconst 0, 1) := by decide +kernel
theorem dX8_matched_11 : decode cX8_matched 11 = .ok (.istore_n 2, 1) := by decide +kernel
theorem dX8_matched_12 : decode cX8_matched 12 = .ok (.iload_n 2, 1) := by decide +kernel
theorem dX8_matched_13 : decode cX8_matched 13 = .ok (.iload_n 1, 1) := by decide +kernel
theorem dX8_matched_14 : decode cX8_matched 14 = .ok (.if_icmp .ge 76, 3) := by decide +kernel
theorem dX8_matched_17 : decode cX8_matched 17 = .ok (.aload_n 0, 1) := by decide +kernel
theorem dX8_matched_18 : decode cX8_matched 18 = .ok (.getfield 70, 3) := by decide +kernel
theorem dX8_matched_21 : decode cX8_matched 21 = .ok (.iload_n 2, 1) := by decide +kernel
theorem dX8_matched_22 : decode cX8_matched 22 = .ok (.iaload, 1) := by decide +kernel
theorem dX8_matched_23 : decode cX8_matched 23 = .ok (.ifCond .lt 26, 3) := by decide +kernel
theorem dX8_matched_26 : decode cX8_matched 26 = .ok (.aload_n 0, 1) := by decide +kernel
theorem dX8_matched_27 : decode cX8_matched 27 = .ok (.getfield 67, 3) := by decide +kernel
theorem dX8_matched_30 : decode cX8_matched 30 = .ok (.iload_n 2, 1) := by decide +kernel
theorem dX8_matched_31 : decode cX8_matched 31 = .ok (.iaload, 1) := by decide +kernel
theorem dX8_matched_32 : decode cX8_matched 32 = .ok (.aload_n 0, 1) := by decide +kernel
theorem dX8_matched_33 : decode cX8_matched 33 = .ok (.getfield 70, 3) := by decide +kernel
theorem dX8_matched_36 : decode cX8_matched 36 = .ok (.iload_n 2, 1) := by decide +kernel
theorem dX8_matched_37 : decode cX8_matched 37 = .ok (.iaload, 1) := by decide +kernel
theorem dX8_matched_38 : decode cX8_matched 38 = .ok (.if_icmp .ne 7, 3) := by decide +kernel
theorem dX8_matched_41 : decode cX8_matched 41 = .ok (.iconst 1, 1) := by decide +kernel
theorem dX8_matched_42 : decode cX8_matched 42 = .ok (.goto 35, 3) := by decide +kernel
theorem dX8_matched_45 : decode cX8_matched 45 = .ok (.iconst 0, 1) := by decide +kernel
theorem dX8_matched_46 : decode cX8_matched 46 = .ok (.goto 31, 3) := by decide +kernel
theorem dX8_matched_49 : decode cX8_matched 49 = .ok (.aload_n 0, 1) := by decide +kernel
theorem dX8_matched_50 : decode cX8_matched 50 = .ok (.getfield 67, 3) := by decide +kernel
theorem dX8_matched_53 : decode cX8_matched 53 = .ok (.iload_n 2, 1) := by decide +kernel
theorem dX8_matched_54 : decode cX8_matched 54 = .ok (.iaload, 1) := by decide +kernel
theorem dX8_matched_55 : decode cX8_matched 55 = .ok (.aload_n 0, 1) := by decide +kernel
theorem dX8_matched_56 : decode cX8_matched 56 = .ok (.getfield 70, 3) := by decide +kernel
theorem dX8_matched_59 : decode cX8_matched 59 = .ok (.iload_n 2, 1) := by decide +kernel
theorem dX8_matched_60 : decode cX8_matched 60 = .ok (.iaload, 1) := by decide +kernel
theorem dX8_matched_61 : decode cX8_matched 61 = .ok (.iconst (-1), 1) := by decide +kernel
theorem dX8_matched_62 : decode cX8_matched 62 = .ok (.if_icmp .ne 8, 3) := by decide +kernel
theorem dX8_matched_65 : decode cX8_matched 65 = .ok (.bipush 48, 2) := by decide +kernel
theorem dX8_matched_67 : decode cX8_matched 67 = .ok (.goto 5, 3) := by decide +kernel
theorem dX8_matched_70 : decode cX8_matched 70 = .ok (.bipush 49, 2) := by decide +kernel
theorem dX8_matched_72 : decode cX8_matched 72 = .ok (.bipush 57, 2) := by decide +kernel
theorem dX8_matched_74 : decode cX8_matched 74 = .ok (.invokestatic 94, 3) := by decide +kernel
theorem dX8_matched_77 : decode cX8_matched 77 = .ok (.istore_n 3, 1) := by decide +kernel
theorem dX8_matched_78 : decode cX8_matched 78 = .ok (.iload_n 3, 1) := by decide +kernel
theorem dX8_matched_79 : decode cX8_matched 79 = .ok (.ifCond .ne 5, 3) := by decide +kernel
theorem dX8_matched_82 : decode cX8_matched 82 = .ok (.iconst 0, 1) := by decide +kernel
theorem dX8_matched_83 : decode cX8_matched 83 = .ok (.ireturn, 1) := by decide +kernel
theorem dX8_matched_84 : decode cX8_matched 84 = .ok (.iinc 2 1, 3) := by decide +kernel
theorem dX8_matched_87 : decode cX8_matched 87 = .ok (.goto (-75), 3) := by decide +kernel
theorem dX8_matched_90 : decode cX8_matched 90 = .ok (.iload_n 1, 1) := by decide +kernel
theorem dX8_matched_91 : decode cX8_matched 91 = .ok (.aload_n 0, 1) := by decide +kernel
theorem dX8_matched_92 : decode cX8_matched 92 = .ok (.getfield 101, 3) := by decide +kernel
theorem dX8_matched_95 : decode cX8_matched 95 = .ok (.if_icmp .ne 7, 3) := by decide +kernel
theorem dX8_matched_98 : decode cX8_matched 98 = .ok (.iconst 2, 1) := by decide +kernel
theorem dX8_matched_99 : decode cX8_matched 99 = .ok (.goto 4, 3) := by decide +kernel
theorem dX8_matched_102 : decode cX8_matched 102 = .ok (.iconst 1, 1) := by decide +kernel
theorem dX8_matched_103 : decode cX8_matched 103 = .ok (.ireturn, 1) := by decide +kernel
theorem dX8_findValue_0 : decode cX8_findValue 0 = .ok (.lconst 0, 1) := by decide +kernel
theorem dX8_findValue_1 : decode cX8_findValue 1 = .ok (.lstore_n 2, 1) := by decide +kernel
theorem dX8_findValue_2 : decode cX8_findValue 2 = .ok (.ldc2_w 120, 3) := by decide +kernel
theorem dX8_findValue_5 : decode cX8_findValue 5 = .ok (.lstore 4, 2) := by decide +kernel
theorem dX8_findValue_7 : decode cX8_findValue 7 = .ok (.iconst 0, 1) := by decide +kernel
theorem dX8_findValue_8 : decode cX8_findValue 8 = .ok (.istore 6, 2) := by decide +kernel
theorem dX8_findValue_10 : decode cX8_findValue 10 = .ok (.iload 6, 2) := by decide +kernel
theorem dX8_findValue_12 : decode cX8_findValue 12 = .ok (.aload_n 0, 1) := by decide +kernel
theorem dX8_findValue_13 : decode cX8_findValue 13 = .ok (.getfield 101, 3) := by decide +kernel
theorem dX8_findValue_16 : decode cX8_findValue 16 = .ok (.if_icmp .ge 38, 3) := by decide +kernel
theorem dX8_findValue_19 : decode cX8_findValue 19 = .ok (.aload_n 0, 1) := by decide +kernel
theorem dX8_findValue_20 : decode cX8_findValue 20 = .ok (.getfield 73, 3) := by decide +kernel
theorem dX8_findValue_23 : decode cX8_findValue 23 = .ok (.iload 6, 2) := by decide +kernel
theorem dX8_findValue_25 : decode cX8_findValue 25 = .ok (.iaload, 1) := by decide +kernel
theorem dX8_findValue_26 : decode cX8_findValue 26 = .ok (.iconst 1, 1) := by decide +kernel
theorem dX8_findValue_27 : decode cX8_findValue 27 = .ok (.if_icmp .ne 21, 3) := by decide +kernel
theorem dX8_findValue_30 : decode cX8_findValue 30 = .ok (.ldc2_w 122, 3) := by decide +kernel
theorem dX8_findValue_33 : decode cX8_findValue 33 = .ok (.lload_n 2, 1) := by decide +kernel
theorem dX8_findValue_34 : decode cX8_findValue 34 = .ok (.lmul, 1) := by decide +kernel
theorem dX8_findValue_35 : decode cX8_findValue 35 = .ok (.aload_n 0, 1) := by decide +kernel
theorem dX8_findValue_36 : decode cX8_findValue 36 = .ok (.getfield 67, 3) := by decide +kernel
theorem dX8_findValue_39 : decode cX8_findValue 39 = .ok (.iload 6, 2) := by decide +kernel
theorem dX8_findValue_41 : decode cX8_findValue 41 = .ok (.iaload, 1) := by decide +kernel
theorem dX8_findValue_42 : decode cX8_findValue 42 = .ok (.bipush 48, 2) := by decide +kernel
theorem dX8_findValue_44 : decode cX8_findValue 44 = .ok (.isub, 1) := by decide +kernel
theorem dX8_findValue_45 : decode cX8_findValue 45 = .ok (.i2l, 1) := by decide +kernel
theorem dX8_findValue_46 : decode cX8_findValue 46 = .ok (.ladd, 1) := by decide +kernel
theorem dX8_findValue_47 : decode cX8_findValue 47 = .ok (.lstore_n 2, 1) := by decide +kernel
theorem dX8_findValue_48 : decode cX8_findValue 48 = .ok (.iinc 6 1, 3) := by decide +kernel
theorem dX8_findValue_51 : decode cX8_findValue 51 = .ok (.goto (-41), 3) := by decide +kernel
theorem dX8_findValue_54 : decode cX8_findValue 54 = .ok (.lload_n 2, 1) := by decide +kernel
theorem dX8_findValue_55 : decode cX8_findValue 55 = .ok (.ldc2_w 120, 3) := by decide +kernel
theorem dX8_findValue_58 : decode cX8_findValue 58 = .ok (.lmul, 1) := by decide +kernel
theorem dX8_findValue_59 : decode cX8_findValue 59 = .ok (.lstore_n 2, 1) := by decide +kernel
theorem dX8_findValue_60 : decode cX8_findValue 60 = .ok (.iconst 0, 1) := by decide +kernel
theorem dX8_findValue_61 : decode cX8_findValue 61 = .ok (.istore 6, 2) := by decide +kernel
theorem dX8_findValue_63 : decode cX8_findValue 63 = .ok (.iload 6, 2) := by decide +kernel
theorem dX8_findValue_65 : decode cX8_findValue 65 = .ok (.aload_n 0, 1) := by decide +kernel
theorem dX8_findValue_66 : decode cX8_findValue 66 = .ok (.getfield 101, 3) := by decide +kernel
theorem dX8_findValue_69 : decode cX8_findValue 69 = .ok (.if_icmp .ge 45, 3) := by decide +kernel
theorem dX8_findValue_72 : decode cX8_findValue 72 = .ok (.aload_n 0, 1) := by decide +kernel
theorem dX8_findValue_73 : decode cX8_findValue 73 = .ok (.getfield 73, 3) := by decide +kernel
theorem dX8_findValue_76 : decode cX8_findValue 76 = .ok (.iload 6, 2) := by decide +kernel
theorem dX8_findValue_78 : decode cX8_findValue 78 = .ok (.iaload, 1) := by decide +kernel
theorem dX8_findValue_79 : decode cX8_findValue 79 = .ok (.iconst 2, 1) := by decide +kernel
theorem dX8_findValue_80 : decode cX8_findValue 80 = .ok (.if_icmp .ne 28, 3) := by decide +kernel
theorem dX8_findValue_83 : decode cX8_findValue 83 = .ok (.lload 4, 2) := by decide +kernel
theorem dX8_findValue_85 : decode cX8_findValue 85 = .ok (.ldc2_w 122, 3) := by decide +kernel
theorem dX8_findValue_88 : decode cX8_findValue 88 = .ok (.ldiv, 1) := by decide +kernel
theorem dX8_findValue_89 : decode cX8_findValue 89 = .ok (.lstore 4, 2) := by decide +kernel
theorem dX8_findValue_91 : decode cX8_findValue 91 = .ok (.lload_n 2, 1) := by decide +kernel
theorem dX8_findValue_92 : decode cX8_findValue 92 = .ok (.lload 4, 2) := by decide +kernel
theorem dX8_findValue_94 : decode cX8_findValue 94 = .ok (.aload_n 0, 1) := by decide +kernel
theorem dX8_findValue_95 : decode cX8_findValue 95 = .ok (.getfield 67, 3) := by decide +kernel
theorem dX8_findValue_98 : decode cX8_findValue 98 = .ok (.iload 6, 2) := by decide +kernel
theorem dX8_findValue_100 : decode cX8_findValue 100 = .ok (.iaload, 1) := by decide +kernel
theorem dX8_findValue_101 : decode cX8_findValue 101 = .ok (.bipush 48, 2) := by decide +kernel
theorem dX8_findValue_103 : decode cX8_findValue 103 = .ok (.isub, 1) := by decide +kernel
theorem dX8_findValue_104 : decode cX8_findValue 104 = .ok (.i2l, 1) := by decide +kernel
theorem dX8_findValue_105 : decode cX8_findValue 105 = .ok (.lmul, 1) := by decide +kernel
theorem dX8_findValue_106 : decode cX8_findValue 106 = .ok (.ladd, 1) := by decide +kernel
theorem dX8_findValue_107 : decode cX8_findValue 107 = .ok (.lstore_n 2, 1) := by decide +kernel
theorem dX8_findValue_108 : decode cX8_findValue 108 = .ok (.iinc 6 1, 3) := by decide +kernel
theorem dX8_findValue_111 : decode cX8_findValue 111 = .ok (.goto (-48), 3) := by decide +kernel
theorem dX8_findValue_114 : decode cX8_findValue 114 = .ok (.aload_n 0, 1) := by decide +kernel
theorem dX8_findValue_115 : decode cX8_findValue 115 = .ok (.iload_n 1, 1) := by decide +kernel
theorem dX8_findValue_116 : decode cX8_findValue 116 = .ok (.ifCond .eq 8, 3) := by decide +kernel
theorem dX8_findValue_119 : decode cX8_findValue 119 = .ok (.lload_n 2, 1) := by decide +kernel
theorem dX8_findValue_120 : decode cX8_findValue 120 = .ok (.lneg, 1) := by decide +kernel
theorem dX8_findValue_121 : decode cX8_findValue 121 = .ok (.goto 4, 3) := by decide +kernel
theorem dX8_findValue_124 : decode cX8_findValue 124 = .ok (.lload_n 2, 1) := by decide +kernel
theorem dX8_findValue_125 : decode cX8_findValue 125 = .ok (.putfield 124, 3) := by decide +kernel
theorem dX8_findValue_128 : decode cX8_findValue 128 = .ok (.return_, 1) := by decide +kernel
theorem dX8_amount_0 : decode cX8_amount 0 = .ok (.iconst 0, 1) := by decide +kernel
theorem dX8_amount_1 : decode cX8_amount 1 = .ok (.istore 4, 2) := by decide +kernel
theorem dX8_amount_3 : decode cX8_amount 3 = .ok (.iload_n 2, 1) := by decide +kernel
theorem dX8_amount_4 : decode cX8_amount 4 = .ok (.iconst 1, 1) := by decide +kernel
theorem dX8_amount_5 : decode cX8_amount 5 = .ok (.if_icmp .ne 7, 3) := by decide +kernel
theorem dX8_amount_8 : decode cX8_amount 8 = .ok (.iconst 4, 1) := by decide +kernel
theorem dX8_amount_9 : decode cX8_amount 9 = .ok (.goto 4, 3) := by decide +kernel
theorem dX8_amount_12 : decode cX8_amount 12 = .ok (.iconst 2, 1) := by decide +kernel
theorem dX8_amount_13 : decode cX8_amount 13 = .ok (.istore 5, 2) := by decide +kernel
theorem dX8_amount_15 : decode cX8_amount 15 = .ok (.iconst 1, 1) := by decide +kernel
theorem dX8_amount_16 : decode cX8_amount 16 = .ok (.istore 6, 2) := by decide +kernel
theorem dX8_amount_18 : decode cX8_amount 18 = .ok (.iload 6, 2) := by decide +kernel
theorem dX8_amount_20 : decode cX8_amount 20 = .ok (.bipush 9, 2) := by decide +kernel
theorem dX8_amount_22 : decode cX8_amount 22 = .ok (.if_icmp .gt 144, 3) := by decide +kernel
theorem dX8_amount_25 : decode cX8_amount 25 = .ok (.iconst 0, 1) := by decide +kernel
theorem dX8_amount_26 : decode cX8_amount 26 = .ok (.istore 7, 2) := by decide +kernel
theorem dX8_amount_28 : decode cX8_amount 28 = .ok (.iload 7, 2) := by decide +kernel
theorem dX8_amount_30 : decode cX8_amount 30 = .ok (.bipush 6, 2) := by decide +kernel
theorem dX8_amount_32 : decode cX8_amount 32 = .ok (.if_icmp .gt 128, 3) := by decide +kernel
theorem dX8_amount_35 : decode cX8_amount 35 = .ok (.iconst 0, 1) := by decide +kernel
theorem dX8_amount_36 : decode cX8_amount 36 = .ok (.istore 8, 2) := by decide +kernel
theorem dX8_amount_38 : decode cX8_amount 38 = .ok (.iload 8, 2) := by decide +kernel
theorem dX8_amount_40 : decode cX8_amount 40 = .ok (.iconst 2, 1) := by decide +kernel
theorem dX8_amount_41 : decode cX8_amount 41 = .ok (.iload 5, 2) := by decide +kernel
theorem dX8_amount_43 : decode cX8_amount 43 = .ok (.imul, 1) := by decide +kernel
theorem dX8_amount_44 : decode cX8_amount 44 = .ok (.if_icmp .ge 110, 3) := by decide +kernel
theorem dX8_amount_47 : decode cX8_amount 47 = .ok (.iload 8, 2) := by decide +kernel
theorem dX8_amount_49 : decode cX8_amount 49 = .ok (.iload 5, 2) := by decide +kernel
theorem dX8_amount_51 : decode cX8_amount 51 = .ok (.if_icmp .lt 7, 3) := by decide +kernel
theorem dX8_amount_54 : decode cX8_amount 54 = .ok (.iconst 1, 1) := by decide +kernel
theorem dX8_amount_55 : decode cX8_amount 55 = .ok (.goto 4, 3) := by decide +kernel
theorem dX8_amount_58 : decode cX8_amount 58 = .ok (.iconst 0, 1) := by decide +kernel
theorem dX8_amount_59 : decode cX8_amount 59 = .ok (.istore 9, 2) := by decide +kernel
theorem dX8_amount_61 : decode cX8_amount 61 = .ok (.iload 9, 2) := by decide +kernel
theorem dX8_amount_63 : decode cX8_amount 63 = .ok (.ifCond .eq 21, 3) := by decide +kernel
theorem dX8_amount_66 : decode cX8_amount 66 = .ok (.iload 6, 2) := by decide +kernel
theorem dX8_amount_68 : decode cX8_amount 68 = .ok (.iconst 4, 1) := by decide +kernel
theorem dX8_amount_69 : decode cX8_amount 69 = .ok (.if_icmp .lt 79, 3) := by decide +kernel
theorem dX8_amount_72 : decode cX8_amount 72 = .ok (.aload_n 0, 1) := by decide +kernel
theorem dX8_amount_73 : decode cX8_amount 73 = .ok (.getfield 16, 3) := by decide +kernel
theorem dX8_amount_76 : decode cX8_amount 76 = .ok (.iload_n 1, 1) := by decide +kernel
theorem dX8_amount_77 : decode cX8_amount 77 = .ok (.iaload, 1) := by decide +kernel
theorem dX8_amount_78 : decode cX8_amount 78 = .ok (.ifCond .ne 6, 3) := by decide +kernel
theorem dX8_amount_81 : decode cX8_amount 81 = .ok (.goto 67, 3) := by decide +kernel
theorem dX8_amount_84 : decode cX8_amount 84 = .ok (.aload_n 0, 1) := by decide +kernel
theorem dX8_amount_85 : decode cX8_amount 85 = .ok (.iload_n 1, 1) := by decide +kernel
theorem dX8_amount_86 : decode cX8_amount 86 = .ok (.iload_n 2, 1) := by decide +kernel
theorem dX8_amount_87 : decode cX8_amount 87 = .ok (.iload 6, 2) := by decide +kernel
theorem dX8_amount_89 : decode cX8_amount 89 = .ok (.iload 7, 2) := by decide +kernel
theorem dX8_amount_91 : decode cX8_amount 91 = .ok (.iload 9, 2) := by decide +kernel
theorem dX8_amount_93 : decode cX8_amount 93 = .ok (.iload 8, 2) := by decide +kernel
theorem dX8_amount_95 : decode cX8_amount 95 = .ok (.iload 5, 2) := by decide +kernel
theorem dX8_amount_97 : decode cX8_amount 97 = .ok (.irem, 1) := by decide +kernel
theorem dX8_amount_98 : decode cX8_amount 98 = .ok (.invokevirtual 128, 3) := by decide +kernel
theorem dX8_amount_101 : decode cX8_amount 101 = .ok (.aload_n 0, 1) := by decide +kernel
theorem dX8_amount_102 : decode cX8_amount 102 = .ok (.iload_n 3, 1) := by decide +kernel
theorem dX8_amount_103 : decode cX8_amount 103 = .ok (.invokevirtual 132, 3) := by decide +kernel
theorem dX8_amount_106 : decode cX8_amount 106 = .ok (.istore 10, 2) := by decide +kernel
theorem dX8_amount_108 : decode cX8_amount 108 = .ok (.iload 10, 2) := by decide +kernel
theorem dX8_amount_110 : decode cX8_amount 110 = .ok (.iconst 2, 1) := by decide +kernel
theorem dX8_amount_111 : decode cX8_amount 111 = .ok (.if_icmp .ne 21, 3) := by decide +kernel
theorem dX8_amount_114 : decode cX8_amount 114 = .ok (.aload_n 0, 1) := by decide +kernel
theorem dX8_amount_115 : decode cX8_amount 115 = .ok (.iload 8, 2) := by decide +kernel
theorem dX8_amount_117 : decode cX8_amount 117 = .ok (.iconst 1, 1) := by decide +kernel
theorem dX8_amount_118 : decode cX8_amount 118 = .ok (.iand, 1) := by decide +kernel
theorem dX8_amount_119 : decode cX8_amount 119 = .ok (.ifCond .eq 7, 3) := by decide +kernel
theorem dX8_amount_122 : decode cX8_amount 122 = .ok (.iconst 1, 1) := by decide +kernel
theorem dX8_amount_123 : decode cX8_amount 123 = .ok (.goto 4, 3) := by decide +kernel
theorem dX8_amount_126 : decode cX8_amount 126 = .ok (.iconst 0, 1) := by decide +kernel
theorem dX8_amount_127 : decode cX8_amount 127 = .ok (.invokevirtual 136, 3) := by decide +kernel
theorem dX8_amount_130 : decode cX8_amount 130 = .ok (.iconst 2, 1) := by decide +kernel
theorem dX8_amount_131 : decode cX8_amount 131 = .ok (.ireturn, 1) := by decide +kernel
theorem dX8_amount_132 : decode cX8_amount 132 = .ok (.iload 10, 2) := by decide +kernel
theorem dX8_amount_134 : decode cX8_amount 134 = .ok (.iload 4, 2) := by decide +kernel
theorem dX8_amount_136 : decode cX8_amount 136 = .ok (.if_icmp .le 8, 3) := by decide +kernel
theorem dX8_amount_139 : decode cX8_amount 139 = .ok (.iload 10, 2) := by decide +kernel
theorem dX8_amount_141 : decode cX8_amount 141 = .ok (.goto 5, 3) := by decide +kernel
theorem dX8_amount_144 : decode cX8_amount 144 = .ok (.iload 4, 2) := by decide +kernel
theorem dX8_amount_146 : decode cX8_amount 146 = .ok (.istore 4, 2) := by decide +kernel
theorem dX8_amount_148 : decode cX8_amount 148 = .ok (.iinc 8 1, 3) := by decide +kernel
theorem dX8_amount_151 : decode cX8_amount 151 = .ok (.goto (-113), 3) := by decide +kernel
theorem dX8_amount_154 : decode cX8_amount 154 = .ok (.iinc 7 1, 3) := by decide +kernel
theorem dX8_amount_157 : decode cX8_amount 157 = .ok (.goto (-129), 3) := by decide +kernel
theorem dX8_amount_160 : decode cX8_amount 160 = .ok (.iinc 6 1, 3) := by decide +kernel
theorem dX8_amount_163 : decode cX8_amount 163 = .ok (.goto (-145), 3) := by decide +kernel
theorem dX8_amount_166 : decode cX8_amount 166 = .ok (.iload 4, 2) := by decide +kernel
theorem dX8_amount_168 : decode cX8_amount 168 = .ok (.ireturn, 1) := by decide +kernel
theorem dX8_isLeap_0 : decode cX8_isLeap 0 = .ok (.iload_n 0, 1) := by decide +kernel
theorem dX8_isLeap_1 : decode cX8_isLeap 1 = .ok (.iconst 4, 1) := by decide +kernel
theorem dX8_isLeap_2 : decode cX8_isLeap 2 = .ok (.irem, 1) := by decide +kernel
theorem dX8_isLeap_3 : decode cX8_isLeap 3 = .ok (.ifCond .ne 22, 3) := by decide +kernel
theorem dX8_isLeap_6 : decode cX8_isLeap 6 = .ok (.iload_n 0, 1) := by decide +kernel
theorem dX8_isLeap_7 : decode cX8_isLeap 7 = .ok (.bipush 100, 2) := by decide +kernel
theorem dX8_isLeap_9 : decode cX8_isLeap 9 = .ok (.irem, 1) := by decide +kernel
theorem dX8_isLeap_10 : decode cX8_isLeap 10 = .ok (.ifCond .ne 11, 3) := by decide +kernel
theorem dX8_isLeap_13 : decode cX8_isLeap 13 = .ok (.iload_n 0, 1) := by decide +kernel
theorem dX8_isLeap_14 : decode cX8_isLeap 14 = .ok (.sipush 400, 3) := by decide +kernel
theorem dX8_isLeap_17 : decode cX8_isLeap 17 = .ok (.irem, 1) := by decide +kernel
theorem dX8_isLeap_18 : decode cX8_isLeap 18 = .ok (.ifCond .ne 7, 3) := by decide +kernel
theorem dX8_isLeap_21 : decode cX8_isLeap 21 = .ok (.iconst 1, 1) := by decide +kernel
theorem dX8_isLeap_22 : decode cX8_isLeap 22 = .ok (.goto 4, 3) := by decide +kernel
theorem dX8_isLeap_25 : decode cX8_isLeap 25 = .ok (.iconst 0, 1) := by decide +kernel
theorem dX8_isLeap_26 : decode cX8_isLeap 26 = .ok (.ireturn, 1) := by decide +kernel
theorem dX8_daysOf_0 : decode cX8_daysOf 0 = .ok (.iload_n 0, 1) := by decide +kernel
theorem dX8_daysOf_1 : decode cX8_daysOf 1 = .ok (.iconst 2, 1) := by decide +kernel
theorem dX8_daysOf_2 : decode cX8_daysOf 2 = .ok (.if_icmp .ne 20, 3) := by decide +kernel
theorem dX8_daysOf_5 : decode cX8_daysOf 5 = .ok (.iload_n 1, 1) := by decide +kernel
theorem dX8_daysOf_6 : decode cX8_daysOf 6 = .ok (.invokestatic 140, 3) := by decide +kernel
theorem dX8_daysOf_9 : decode cX8_daysOf 9 = .ok (.ifCond .eq 8, 3) := by decide +kernel
theorem dX8_daysOf_12 : decode cX8_daysOf 12 = .ok (.bipush 29, 2) := by decide +kernel
theorem dX8_daysOf_14 : decode cX8_daysOf 14 = .ok (.goto 38, 3) := by decide +kernel
theorem dX8_daysOf_17 : decode cX8_daysOf 17 = .ok (.bipush 28, 2) := by decide +kernel
theorem dX8_daysOf_19 : decode cX8_daysOf 19 = .ok (.goto 33, 3) := by decide +kernel
theorem dX8_daysOf_22 : decode cX8_daysOf 22 = .ok (.iload_n 0, 1) := by decide +kernel
theorem dX8_daysOf_23 : decode cX8_daysOf 23 = .ok (.iconst 4, 1) := by decide +kernel
theorem dX8_daysOf_24 : decode cX8_daysOf 24 = .ok (.if_icmp .eq 21, 3) := by decide +kernel
theorem dX8_daysOf_27 : decode cX8_daysOf 27 = .ok (.iload_n 0, 1) := by decide +kernel
theorem dX8_daysOf_28 : decode cX8_daysOf 28 = .ok (.bipush 6, 2) := by decide +kernel
theorem dX8_daysOf_30 : decode cX8_daysOf 30 = .ok (.if_icmp .eq 15, 3) := by decide +kernel
theorem dX8_daysOf_33 : decode cX8_daysOf 33 = .ok (.iload_n 0, 1) := by decide +kernel
theorem dX8_daysOf_34 : decode cX8_daysOf 34 = .ok (.bipush 9, 2) := by decide +kernel
theorem dX8_daysOf_36 : decode cX8_daysOf 36 = .ok (.if_icmp .eq 9, 3) := by decide +kernel
theorem dX8_daysOf_39 : decode cX8_daysOf 39 = .ok (.iload_n 0, 1) := by decide +kernel
theorem dX8_daysOf_40 : decode cX8_daysOf 40 = .ok (.bipush 11, 2) := by decide +kernel
theorem dX8_daysOf_42 : decode cX8_daysOf 42 = .ok (.if_icmp .ne 8, 3) := by decide +kernel
theorem dX8_daysOf_45 : decode cX8_daysOf 45 = .ok (.bipush 30, 2) := by decide +kernel
theorem dX8_daysOf_47 : decode cX8_daysOf 47 = .ok (.goto 5, 3) := by decide +kernel
theorem dX8_daysOf_50 : decode cX8_daysOf 50 = .ok (.bipush 31, 2) := by decide +kernel
theorem dX8_daysOf_52 : decode cX8_daysOf 52 = .ok (.ireturn, 1) := by decide +kernel
theorem dX8_dayNumber_0 : decode cX8_dayNumber 0 = .ok (.iload_n 2, 1) := by decide +kernel
theorem dX8_dayNumber_1 : decode cX8_dayNumber 1 = .ok (.iconst 1, 1) := by decide +kernel
theorem dX8_dayNumber_2 : decode cX8_dayNumber 2 = .ok (.isub, 1) := by decide +kernel
theorem dX8_dayNumber_3 : decode cX8_dayNumber 3 = .ok (.i2l, 1) := by decide +kernel
theorem dX8_dayNumber_4 : decode cX8_dayNumber 4 = .ok (.lstore_n 3, 1) := by decide +kernel
theorem dX8_dayNumber_5 : decode cX8_dayNumber 5 = .ok (.ldc2_w 144, 3) := by decide +kernel
theorem dX8_dayNumber_8 : decode cX8_dayNumber 8 = .ok (.lload_n 3, 1) := by decide +kernel
theorem dX8_dayNumber_9 : decode cX8_dayNumber 9 = .ok (.lmul, 1) := by decide +kernel
theorem dX8_dayNumber_10 : decode cX8_dayNumber 10 = .ok (.lload_n 3, 1) := by decide +kernel
theorem dX8_dayNumber_11 : decode cX8_dayNumber 11 = .ok (.ldc2_w 146, 3) := by decide +kernel
theorem dX8_dayNumber_14 : decode cX8_dayNumber 14 = .ok (.ldiv, 1) := by decide +kernel
theorem dX8_dayNumber_15 : decode cX8_dayNumber 15 = .ok (.ladd, 1) := by decide +kernel
theorem dX8_dayNumber_16 : decode cX8_dayNumber 16 = .ok (.lload_n 3, 1) := by decide +kernel
theorem dX8_dayNumber_17 : decode cX8_dayNumber 17 = .ok (.ldc2_w 148, 3) := by decide +kernel
theorem dX8_dayNumber_20 : decode cX8_dayNumber 20 = .ok (.ldiv, 1) := by decide +kernel
theorem dX8_dayNumber_21 : decode cX8_dayNumber 21 = .ok (.lsub, 1) := by decide +kernel
theorem dX8_dayNumber_22 : decode cX8_dayNumber 22 = .ok (.lload_n 3, 1) := by decide +kernel
theorem dX8_dayNumber_23 : decode cX8_dayNumber 23 = .ok (.ldc2_w 150, 3) := by decide +kernel
theorem dX8_dayNumber_26 : decode cX8_dayNumber 26 = .ok (.ldiv, 1) := by decide +kernel
theorem dX8_dayNumber_27 : decode cX8_dayNumber 27 = .ok (.ladd, 1) := by decide +kernel
theorem dX8_dayNumber_28 : decode cX8_dayNumber 28 = .ok (.lstore 5, 2) := by decide +kernel
theorem dX8_dayNumber_30 : decode cX8_dayNumber 30 = .ok (.iconst 1, 1) := by decide +kernel
theorem dX8_dayNumber_31 : decode cX8_dayNumber 31 = .ok (.istore 7, 2) := by decide +kernel
theorem dX8_dayNumber_33 : decode cX8_dayNumber 33 = .ok (.iload 7, 2) := by decide +kernel
theorem dX8_dayNumber_35 : decode cX8_dayNumber 35 = .ok (.iload_n 1, 1) := by decide +kernel
theorem dX8_dayNumber_36 : decode cX8_dayNumber 36 = .ok (.if_icmp .ge 21, 3) := by decide +kernel
theorem dX8_dayNumber_39 : decode cX8_dayNumber 39 = .ok (.lload 5, 2) := by decide +kernel
theorem dX8_dayNumber_41 : decode cX8_dayNumber 41 = .ok (.iload 7, 2) := by decide +kernel
theorem dX8_dayNumber_43 : decode cX8_dayNumber 43 = .ok (.iload_n 2, 1) := by decide +kernel
theorem dX8_dayNumber_44 : decode cX8_dayNumber 44 = .ok (.invokestatic 152, 3) := by decide +kernel
theorem dX8_dayNumber_47 : decode cX8_dayNumber 47 = .ok (.i2l, 1) := by decide +kernel
theorem dX8_dayNumber_48 : decode cX8_dayNumber 48 = .ok (.ladd, 1) := by decide +kernel
theorem dX8_dayNumber_49 : decode cX8_dayNumber 49 = .ok (.lstore 5, 2) := by decide +kernel
theorem dX8_dayNumber_51 : decode cX8_dayNumber 51 = .ok (.iinc 7 1, 3) := by decide +kernel
theorem dX8_dayNumber_54 : decode cX8_dayNumber 54 = .ok (.goto (-21), 3) := by decide +kernel
theorem dX8_dayNumber_57 : decode cX8_dayNumber 57 = .ok (.lload 5, 2) := by decide +kernel
theorem dX8_dayNumber_59 : decode cX8_dayNumber 59 = .ok (.iload_n 0, 1) := by decide +kernel
theorem dX8_dayNumber_60 : decode cX8_dayNumber 60 = .ok (.i2l, 1) := by decide +kernel
theorem dX8_dayNumber_61 : decode cX8_dayNumber 61 = .ok (.ladd, 1) := by decide +kernel
theorem dX8_dayNumber_62 : decode cX8_dayNumber 62 = .ok (.lconst 1, 1) := by decide +kernel
theorem dX8_dayNumber_63 : decode cX8_dayNumber 63 = .ok (.lsub, 1) := by decide +kernel
theorem dX8_dayNumber_64 : decode cX8_dayNumber 64 = .ok (.lreturn, 1) := by decide +kernel
theorem dX8_begins_0 : decode cX8_begins 0 = .ok (.iload_n 2, 1) := by decide +kernel
theorem dX8_begins_1 : decode cX8_begins 1 = .ok (.iconst 4, 1) := by decide +kernel
theorem dX8_begins_2 : decode cX8_begins 2 = .ok (.if_icmp .ne 9, 3) := by decide +kernel
theorem dX8_begins_5 : decode cX8_begins 5 = .ok (.sipush 1000, 3) := by decide +kernel
theorem dX8_begins_8 : decode cX8_begins 8 = .ok (.goto 14, 3) := by decide +kernel
theorem dX8_begins_11 : decode cX8_begins 11 = .ok (.iload_n 2, 1) := by decide +kernel
theorem dX8_begins_12 : decode cX8_begins 12 = .ok (.iconst 2, 1) := by decide +kernel
theorem dX8_begins_13 : decode cX8_begins 13 = .ok (.if_icmp .ne 8, 3) := by decide +kernel
theorem dX8_begins_16 : decode cX8_begins 16 = .ok (.bipush 10, 2) := by decide +kernel
theorem dX8_begins_18 : decode cX8_begins 18 = .ok (.goto 4, 3) := by decide +kernel
theorem dX8_begins_21 : decode cX8_begins 21 = .ok (.iconst 1, 1) := by decide +kernel
theorem dX8_begins_22 : decode cX8_begins 22 = .ok (.istore 5, 2) := by decide +kernel
theorem dX8_begins_24 : decode cX8_begins 24 = .ok (.iconst 0, 1) := by decide +kernel
theorem dX8_begins_25 : decode cX8_begins 25 = .ok (.istore 6, 2) := by decide +kernel
theorem dX8_begins_27 : decode cX8_begins 27 = .ok (.iload 6, 2) := by decide +kernel
theorem dX8_begins_29 : decode cX8_begins 29 = .ok (.iload_n 2, 1) := by decide +kernel
theorem dX8_begins_30 : decode cX8_begins 30 = .ok (.if_icmp .ge 49, 3) := by decide +kernel
theorem dX8_begins_33 : decode cX8_begins 33 = .ok (.iload_n 3, 1) := by decide +kernel
theorem dX8_begins_34 : decode cX8_begins 34 = .ok (.iload 6, 2) := by decide +kernel
theorem dX8_begins_36 : decode cX8_begins 36 = .ok (.iadd, 1) := by decide +kernel
theorem dX8_begins_37 : decode cX8_begins 37 = .ok (.iload 4, 2) := by decide +kernel
theorem dX8_begins_39 : decode cX8_begins 39 = .ok (.if_icmp .ge 40, 3) := by decide +kernel
theorem dX8_begins_42 : decode cX8_begins 42 = .ok (.aload_n 0, 1) := by decide +kernel
theorem dX8_begins_43 : decode cX8_begins 43 = .ok (.getfield 67, 3) := by decide +kernel
theorem dX8_begins_46 : decode cX8_begins 46 = .ok (.iload_n 3, 1) := by decide +kernel
theorem dX8_begins_47 : decode cX8_begins 47 = .ok (.iload 6, 2) := by decide +kernel
theorem dX8_begins_49 : decode cX8_begins 49 = .ok (.iadd, 1) := by decide +kernel
theorem dX8_begins_50 : decode cX8_begins 50 = .ok (.iaload, 1) := by decide +kernel
theorem dX8_begins_51 : decode cX8_begins 51 = .ok (.bipush 48, 2) := by decide +kernel
theorem dX8_begins_53 : decode cX8_begins 53 = .ok (.iload_n 1, 1) := by decide +kernel
theorem dX8_begins_54 : decode cX8_begins 54 = .ok (.iload 5, 2) := by decide +kernel
theorem dX8_begins_56 : decode cX8_begins 56 = .ok (.idiv, 1) := by decide +kernel
theorem dX8_begins_57 : decode cX8_begins 57 = .ok (.bipush 10, 2) := by decide +kernel
theorem dX8_begins_59 : decode cX8_begins 59 = .ok (.irem, 1) := by decide +kernel
theorem dX8_begins_60 : decode cX8_begins 60 = .ok (.iadd, 1) := by decide +kernel
theorem dX8_begins_61 : decode cX8_begins 61 = .ok (.if_icmp .eq 5, 3) := by decide +kernel
theorem dX8_begins_64 : decode cX8_begins 64 = .ok (.iconst 0, 1) := by decide +kernel
theorem dX8_begins_65 : decode cX8_begins 65 = .ok (.ireturn, 1) := by decide +kernel
theorem dX8_begins_66 : decode cX8_begins 66 = .ok (.iload 5, 2) := by decide +kernel
theorem dX8_begins_68 : decode cX8_begins 68 = .ok (.bipush 10, 2) := by decide +kernel
theorem dX8_begins_70 : decode cX8_begins 70 = .ok (.idiv, 1) := by decide +kernel
theorem dX8_begins_71 : decode cX8_begins 71 = .ok (.istore 5, 2) := by decide +kernel
theorem dX8_begins_73 : decode cX8_begins 73 = .ok (.iinc 6 1, 3) := by decide +kernel
theorem dX8_begins_76 : decode cX8_begins 76 = .ok (.goto (-49), 3) := by decide +kernel
theorem dX8_begins_79 : decode cX8_begins 79 = .ok (.iconst 1, 1) := by decide +kernel
theorem dX8_begins_80 : decode cX8_begins 80 = .ok (.ireturn, 1) := by decide +kernel
theorem dX8_isSign_0 : decode cX8_isSign 0 = .ok (.iload_n 2, 1) := by decide +kernel
theorem dX8_isSign_1 : decode cX8_isSign 1 = .ok (.iload_n 3, 1) := by decide +kernel
theorem dX8_isSign_2 : decode cX8_isSign 2 = .ok (.if_icmp .ge 18, 3) := by decide +kernel
theorem dX8_isSign_5 : decode cX8_isSign 5 = .ok (.aload_n 0, 1) := by decide +kernel
theorem dX8_isSign_6 : decode cX8_isSign 6 = .ok (.getfield 67, 3) := by decide +kernel
theorem dX8_isSign_9 : decode cX8_isSign 9 = .ok (.iload_n 2, 1) := by decide +kernel
theorem dX8_isSign_10 : decode cX8_isSign 10 = .ok (.iaload, 1) := by decide +kernel
theorem dX8_isSign_11 : decode cX8_isSign 11 = .ok (.aload_n 0, 1) := by decide +kernel
theorem dX8_isSign_12 : decode cX8_isSign 12 = .ok (.getfield 35, 3) := by decide +kernel
theorem dX8_isSign_15 : decode cX8_isSign 15 = .ok (.iload_n 1, 1) := by decide +kernel
theorem dX8_isSign_16 : decode cX8_isSign 16 = .ok (.iaload, 1) := by decide +kernel
theorem dX8_isSign_17 : decode cX8_isSign 17 = .ok (.if_icmp .ne 7, 3) := by decide +kernel
theorem dX8_isSign_20 : decode cX8_isSign 20 = .ok (.iconst 1, 1) := by decide +kernel
theorem dX8_isSign_21 : decode cX8_isSign 21 = .ok (.goto 4, 3) := by decide +kernel
theorem dX8_isSign_24 : decode cX8_isSign 24 = .ok (.iconst 0, 1) := by decide +kernel
theorem dX8_isSign_25 : decode cX8_isSign 25 = .ok (.ireturn, 1) := by decide +kernel
theorem dX8_someDay_0 : decode cX8_someDay 0 = .ok (.iload_n 2, 1) := by decide +kernel
theorem dX8_someDay_1 : decode cX8_someDay 1 = .ok (.iload_n 3, 1) := by decide +kernel
theorem dX8_someDay_2 : decode cX8_someDay 2 = .ok (.iadd, 1) := by decide +kernel
theorem dX8_someDay_3 : decode cX8_someDay 3 = .ok (.bipush 6, 2) := by decide +kernel
theorem dX8_someDay_5 : decode cX8_someDay 5 = .ok (.iadd, 1) := by decide +kernel
theorem dX8_someDay_6 : decode cX8_someDay 6 = .ok (.istore 5, 2) := by decide +kernel
theorem dX8_someDay_8 : decode cX8_someDay 8 = .ok (.aload_n 0, 1) := by decide +kernel
theorem dX8_someDay_9 : decode cX8_someDay 9 = .ok (.getfield 32, 3) := by decide +kernel
theorem dX8_someDay_12 : decode cX8_someDay 12 = .ok (.iload_n 1, 1) := by decide +kernel
theorem dX8_someDay_13 : decode cX8_someDay 13 = .ok (.iaload, 1) := by decide +kernel
theorem dX8_someDay_14 : decode cX8_someDay 14 = .ok (.iconst 2, 1) := by decide +kernel
theorem dX8_someDay_15 : decode cX8_someDay 15 = .ok (.if_icmp .ne 7, 3) := by decide +kernel
theorem dX8_someDay_18 : decode cX8_someDay 18 = .ok (.iconst 0, 1) := by decide +kernel
theorem dX8_someDay_19 : decode cX8_someDay 19 = .ok (.goto 8, 3) := by decide +kernel
theorem dX8_someDay_22 : decode cX8_someDay 22 = .ok (.iload_n 2, 1) := by decide +kernel
theorem dX8_someDay_23 : decode cX8_someDay 23 = .ok (.iload_n 3, 1) := by decide +kernel
theorem dX8_someDay_24 : decode cX8_someDay 24 = .ok (.iadd, 1) := by decide +kernel
theorem dX8_someDay_25 : decode cX8_someDay 25 = .ok (.iconst 2, 1) := by decide +kernel
theorem dX8_someDay_26 : decode cX8_someDay 26 = .ok (.iadd, 1) := by decide +kernel
theorem dX8_someDay_27 : decode cX8_someDay 27 = .ok (.istore 6, 2) := by decide +kernel
theorem dX8_someDay_29 : decode cX8_someDay 29 = .ok (.aload_n 0, 1) := by decide +kernel
theorem dX8_someDay_30 : decode cX8_someDay 30 = .ok (.getfield 32, 3) := by decide +kernel
theorem dX8_someDay_33 : decode cX8_someDay 33 = .ok (.iload_n 1, 1) := by decide +kernel
theorem dX8_someDay_34 : decode cX8_someDay 34 = .ok (.iaload, 1) := by decide +kernel
theorem dX8_someDay_35 : decode cX8_someDay 35 = .ok (.ifCond .ne 7, 3) := by decide +kernel
theorem dX8_someDay_38 : decode cX8_someDay 38 = .ok (.iconst 0, 1) := by decide +kernel
theorem dX8_someDay_39 : decode cX8_someDay 39 = .ok (.goto 23, 3) := by decide +kernel
theorem dX8_someDay_42 : decode cX8_someDay 42 = .ok (.aload_n 0, 1) := by decide +kernel
theorem dX8_someDay_43 : decode cX8_someDay 43 = .ok (.getfield 32, 3) := by decide +kernel
theorem dX8_someDay_46 : decode cX8_someDay 46 = .ok (.iload_n 1, 1) := by decide +kernel
theorem dX8_someDay_47 : decode cX8_someDay 47 = .ok (.iaload, 1) := by decide +kernel
theorem dX8_someDay_48 : decode cX8_someDay 48 = .ok (.iconst 1, 1) := by decide +kernel
theorem dX8_someDay_49 : decode cX8_someDay 49 = .ok (.if_icmp .ne 9, 3) := by decide +kernel
theorem dX8_someDay_52 : decode cX8_someDay 52 = .ok (.iload_n 3, 1) := by decide +kernel
theorem dX8_someDay_53 : decode cX8_someDay 53 = .ok (.iconst 1, 1) := by decide +kernel
theorem dX8_someDay_54 : decode cX8_someDay 54 = .ok (.iadd, 1) := by decide +kernel
theorem dX8_someDay_55 : decode cX8_someDay 55 = .ok (.goto 7, 3) := by decide +kernel
theorem dX8_someDay_58 : decode cX8_someDay 58 = .ok (.iload_n 3, 1) := by decide +kernel
theorem dX8_someDay_59 : decode cX8_someDay 59 = .ok (.bipush 6, 2) := by decide +kernel
theorem dX8_someDay_61 : decode cX8_someDay 61 = .ok (.iadd, 1) := by decide +kernel
theorem dX8_someDay_62 : decode cX8_someDay 62 = .ok (.istore 7, 2) := by decide +kernel
theorem dX8_someDay_64 : decode cX8_someDay 64 = .ok (.aload_n 0, 1) := by decide +kernel
theorem dX8_someDay_65 : decode cX8_someDay 65 = .ok (.getfield 32, 3) := by decide +kernel
theorem dX8_someDay_68 : decode cX8_someDay 68 = .ok (.iload_n 1, 1) := by decide +kernel
theorem dX8_someDay_69 : decode cX8_someDay 69 = .ok (.iaload, 1) := by decide +kernel
theorem dX8_someDay_70 : decode cX8_someDay 70 = .ok (.ifCond .ne 9, 3) := by decide +kernel
theorem dX8_someDay_73 : decode cX8_someDay 73 = .ok (.iload_n 2, 1) := by decide +kernel
theorem dX8_someDay_74 : decode cX8_someDay 74 = .ok (.iconst 1, 1) := by decide +kernel
theorem dX8_someDay_75 : decode cX8_someDay 75 = .ok (.iadd, 1) := by decide +kernel
theorem dX8_someDay_76 : decode cX8_someDay 76 = .ok (.goto 18, 3) := by decide +kernel
theorem dX8_someDay_79 : decode cX8_someDay 79 = .ok (.aload_n 0, 1) := by decide +kernel
theorem dX8_someDay_80 : decode cX8_someDay 80 = .ok (.getfield 32, 3) := by decide +kernel
theorem dX8_someDay_83 : decode cX8_someDay 83 = .ok (.iload_n 1, 1) := by decide +kernel
theorem dX8_someDay_84 : decode cX8_someDay 84 = .ok (.iaload, 1) := by decide +kernel
theorem dX8_someDay_85 : decode cX8_someDay 85 = .ok (.iconst 1, 1) := by decide +kernel
theorem dX8_someDay_86 : decode cX8_someDay 86 = .ok (.if_icmp .ne 7, 3) := by decide +kernel
theorem dX8_someDay_89 : decode cX8_someDay 89 = .ok (.iconst 0, 1) := by decide +kernel
theorem dX8_someDay_90 : decode cX8_someDay 90 = .ok (.goto 4, 3) := by decide +kernel
theorem dX8_someDay_93 : decode cX8_someDay 93 = .ok (.iconst 5, 1) := by decide +kernel
theorem dX8_someDay_94 : decode cX8_someDay 94 = .ok (.istore 8, 2) := by decide +kernel
theorem dX8_someDay_96 : decode cX8_someDay 96 = .ok (.aload_n 0, 1) := by decide +kernel
theorem dX8_someDay_97 : decode cX8_someDay 97 = .ok (.getfield 32, 3) := by decide +kernel
theorem dX8_someDay_100 : decode cX8_someDay 100 = .ok (.iload_n 1, 1) := by decide +kernel
theorem dX8_someDay_101 : decode cX8_someDay 101 = .ok (.iaload, 1) := by decide +kernel
theorem dX8_someDay_102 : decode cX8_someDay 102 = .ok (.iconst 2, 1) := by decide +kernel
theorem dX8_someDay_103 : decode cX8_someDay 103 = .ok (.if_icmp .ne 7, 3) := by decide +kernel
theorem dX8_someDay_106 : decode cX8_someDay 106 = .ok (.iconst 4, 1) := by decide +kernel
theorem dX8_someDay_107 : decode cX8_someDay 107 = .ok (.goto 17, 3) := by decide +kernel
theorem dX8_someDay_110 : decode cX8_someDay 110 = .ok (.aload_n 0, 1) := by decide +kernel
theorem dX8_someDay_111 : decode cX8_someDay 111 = .ok (.getfield 32, 3) := by decide +kernel
theorem dX8_someDay_114 : decode cX8_someDay 114 = .ok (.iload_n 1, 1) := by decide +kernel
theorem dX8_someDay_115 : decode cX8_someDay 115 = .ok (.iaload, 1) := by decide +kernel
theorem dX8_someDay_116 : decode cX8_someDay 116 = .ok (.ifCond .ne 7, 3) := by decide +kernel
theorem dX8_someDay_119 : decode cX8_someDay 119 = .ok (.iload_n 2, 1) := by decide +kernel
theorem dX8_someDay_120 : decode cX8_someDay 120 = .ok (.goto 4, 3) := by decide +kernel
theorem dX8_someDay_123 : decode cX8_someDay 123 = .ok (.iload_n 3, 1) := by decide +kernel
theorem dX8_someDay_124 : decode cX8_someDay 124 = .ok (.istore 9, 2) := by decide +kernel
theorem dX8_someDay_126 : decode cX8_someDay 126 = .ok (.aload_n 0, 1) := by decide +kernel
theorem dX8_someDay_127 : decode cX8_someDay 127 = .ok (.getfield 32, 3) := by decide +kernel
theorem dX8_someDay_130 : decode cX8_someDay 130 = .ok (.iload_n 1, 1) := by decide +kernel
theorem dX8_someDay_131 : decode cX8_someDay 131 = .ok (.iaload, 1) := by decide +kernel
theorem dX8_someDay_132 : decode cX8_someDay 132 = .ok (.iconst 2, 1) := by decide +kernel
theorem dX8_someDay_133 : decode cX8_someDay 133 = .ok (.if_icmp .ne 9, 3) := by decide +kernel
theorem dX8_someDay_136 : decode cX8_someDay 136 = .ok (.iload_n 3, 1) := by decide +kernel
theorem dX8_someDay_137 : decode cX8_someDay 137 = .ok (.iconst 5, 1) := by decide +kernel
theorem dX8_someDay_138 : decode cX8_someDay 138 = .ok (.iadd, 1) := by decide +kernel
theorem dX8_someDay_139 : decode cX8_someDay 139 = .ok (.goto 8, 3) := by decide +kernel
theorem dX8_someDay_142 : decode cX8_someDay 142 = .ok (.iload_n 2, 1) := by decide +kernel
theorem dX8_someDay_143 : decode cX8_someDay 143 = .ok (.iload_n 3, 1) := by decide +kernel
theorem dX8_someDay_144 : decode cX8_someDay 144 = .ok (.iadd, 1) := by decide +kernel
theorem dX8_someDay_145 : decode cX8_someDay 145 = .ok (.iconst 1, 1) := by decide +kernel
theorem dX8_someDay_146 : decode cX8_someDay 146 = .ok (.iadd, 1) := by decide +kernel
theorem dX8_someDay_147 : decode cX8_someDay 147 = .ok (.istore 10, 2) := by decide +kernel
theorem dX8_someDay_149 : decode cX8_someDay 149 = .ok (.iload 4, 2) := by decide +kernel
theorem dX8_someDay_151 : decode cX8_someDay 151 = .ok (.iload 5, 2) := by decide +kernel
theorem dX8_someDay_153 : decode cX8_someDay 153 = .ok (.if_icmp .gt 27, 3) := by decide +kernel
theorem dX8_someDay_156 : decode cX8_someDay 156 = .ok (.aload_n 0, 1) := by decide +kernel
theorem dX8_someDay_157 : decode cX8_someDay 157 = .ok (.iload_n 1, 1) := by decide +kernel
theorem dX8_someDay_158 : decode cX8_someDay 158 = .ok (.iload 9, 2) := by decide +kernel
theorem dX8_someDay_160 : decode cX8_someDay 160 = .ok (.iload 4, 2) := by decide +kernel
theorem dX8_someDay_162 : decode cX8_someDay 162 = .ok (.invokevirtual 156, 3) := by decide +kernel
theorem dX8_someDay_165 : decode cX8_someDay 165 = .ok (.ifCond .eq 15, 3) := by decide +kernel
theorem dX8_someDay_168 : decode cX8_someDay 168 = .ok (.aload_n 0, 1) := by decide +kernel
theorem dX8_someDay_169 : decode cX8_someDay 169 = .ok (.iload_n 1, 1) := by decide +kernel
theorem dX8_someDay_170 : decode cX8_someDay 170 = .ok (.iload 10, 2) := by decide +kernel
theorem dX8_someDay_172 : decode cX8_someDay 172 = .ok (.iload 4, 2) := by decide +kernel
theorem dX8_someDay_174 : decode cX8_someDay 174 = .ok (.invokevirtual 156, 3) := by decide +kernel
theorem dX8_someDay_177 : decode cX8_someDay 177 = .ok (.ifCond .ne 5, 3) := by decide +kernel
theorem dX8_someDay_180 : decode cX8_someDay 180 = .ok (.iconst 0, 1) := by decide +kernel
theorem dX8_someDay_181 : decode cX8_someDay 181 = .ok (.ireturn, 1) := by decide +kernel
theorem dX8_someDay_182 : decode cX8_someDay 182 = .ok (.iconst 0, 1) := by decide +kernel
theorem dX8_someDay_183 : decode cX8_someDay 183 = .ok (.istore 11, 2) := by decide +kernel
theorem dX8_someDay_185 : decode cX8_someDay 185 = .ok (.iconst 0, 1) := by decide +kernel
theorem dX8_someDay_186 : decode cX8_someDay 186 = .ok (.istore 12, 2) := by decide +kernel
theorem dX8_someDay_188 : decode cX8_someDay 188 = .ok (.iconst 1, 1) := by decide +kernel
theorem dX8_someDay_189 : decode cX8_someDay 189 = .ok (.istore 13, 2) := by decide +kernel
theorem dX8_someDay_191 : decode cX8_someDay 191 = .ok (.iload 13, 2) := by decide +kernel
theorem dX8_someDay_193 : decode cX8_someDay 193 = .ok (.sipush 9999, 3) := by decide +kernel
theorem dX8_someDay_196 : decode cX8_someDay 196 = .ok (.if_icmp .gt 59, 3) := by decide +kernel
theorem dX8_someDay_199 : decode cX8_someDay 199 = .ok (.aload_n 0, 1) := by decide +kernel
theorem dX8_someDay_200 : decode cX8_someDay 200 = .ok (.iload 13, 2) := by decide +kernel
theorem dX8_someDay_202 : decode cX8_someDay 202 = .ok (.iconst 4, 1) := by decide +kernel
theorem dX8_someDay_203 : decode cX8_someDay 203 = .ok (.iload 6, 2) := by decide +kernel
theorem dX8_someDay_205 : decode cX8_someDay 205 = .ok (.iload 4, 2) := by decide +kernel
theorem dX8_someDay_207 : decode cX8_someDay 207 = .ok (.invokevirtual 159, 3) := by decide +kernel
theorem dX8_someDay_210 : decode cX8_someDay 210 = .ok (.ifCond .eq 39, 3) := by decide +kernel
theorem dX8_someDay_213 : decode cX8_someDay 213 = .ok (.iload 11, 2) := by decide +kernel
theorem dX8_someDay_215 : decode cX8_someDay 215 = .ok (.ifCond .ne 8, 3) := by decide +kernel
theorem dX8_someDay_218 : decode cX8_someDay 218 = .ok (.iload 13, 2) := by decide +kernel
theorem dX8_someDay_220 : decode cX8_someDay 220 = .ok (.goto 5, 3) := by decide +kernel
theorem dX8_someDay_223 : decode cX8_someDay 223 = .ok (.iload 11, 2) := by decide +kernel
theorem dX8_someDay_225 : decode cX8_someDay 225 = .ok (.istore 11, 2) := by decide +kernel
theorem dX8_someDay_227 : decode cX8_someDay 227 = .ok (.iload 12, 2) := by decide +kernel
theorem dX8_someDay_229 : decode cX8_someDay 229 = .ok (.ifCond .ne 16, 3) := by decide +kernel
theorem dX8_someDay_232 : decode cX8_someDay 232 = .ok (.iload 13, 2) := by decide +kernel
theorem dX8_someDay_234 : decode cX8_someDay 234 = .ok (.invokestatic 140, 3) := by decide +kernel
theorem dX8_someDay_237 : decode cX8_someDay 237 = .ok (.ifCond .eq 8, 3) := by decide +kernel
theorem dX8_someDay_240 : decode cX8_someDay 240 = .ok (.iload 13, 2) := by decide +kernel
theorem dX8_someDay_242 : decode cX8_someDay 242 = .ok (.goto 5, 3) := by decide +kernel
theorem dX8_someDay_245 : decode cX8_someDay 245 = .ok (.iload 12, 2) := by decide +kernel
theorem dX8_someDay_247 : decode cX8_someDay 247 = .ok (.istore 12, 2) := by decide +kernel
theorem dX8_someDay_249 : decode cX8_someDay 249 = .ok (.iinc 13 1, 3) := by decide +kernel
theorem dX8_someDay_252 : decode cX8_someDay 252 = .ok (.goto (-61), 3) := by decide +kernel
theorem dX8_someDay_255 : decode cX8_someDay 255 = .ok (.iconst 0, 1) := by decide +kernel
theorem dX8_someDay_256 : decode cX8_someDay 256 = .ok (.istore 13, 2) := by decide +kernel
theorem dX8_someDay_258 : decode cX8_someDay 258 = .ok (.iconst 1, 1) := by decide +kernel
theorem dX8_someDay_259 : decode cX8_someDay 259 = .ok (.istore 14, 2) := by decide +kernel
theorem dX8_someDay_261 : decode cX8_someDay 261 = .ok (.iload 14, 2) := by decide +kernel
theorem dX8_someDay_263 : decode cX8_someDay 263 = .ok (.iload_n 3, 1) := by decide +kernel
theorem dX8_someDay_264 : decode cX8_someDay 264 = .ok (.iconst 1, 1) := by decide +kernel
theorem dX8_someDay_265 : decode cX8_someDay 265 = .ok (.if_icmp .ne 8, 3) := by decide +kernel
theorem dX8_someDay_268 : decode cX8_someDay 268 = .ok (.bipush 9, 2) := by decide +kernel
theorem dX8_someDay_270 : decode cX8_someDay 270 = .ok (.goto 5, 3) := by decide +kernel
theorem dX8_someDay_273 : decode cX8_someDay 273 = .ok (.bipush 12, 2) := by decide +kernel
theorem dX8_someDay_275 : decode cX8_someDay 275 = .ok (.if_icmp .gt 131, 3) := by decide +kernel
theorem dX8_someDay_278 : decode cX8_someDay 278 = .ok (.iconst 1, 1) := by decide +kernel
theorem dX8_someDay_279 : decode cX8_someDay 279 = .ok (.istore 15, 2) := by decide +kernel
theorem dX8_someDay_281 : decode cX8_someDay 281 = .ok (.iload 15, 2) := by decide +kernel
theorem dX8_someDay_283 : decode cX8_someDay 283 = .ok (.iload_n 2, 1) := by decide +kernel
theorem dX8_someDay_284 : decode cX8_someDay 284 = .ok (.iconst 1, 1) := by decide +kernel
theorem dX8_someDay_285 : decode cX8_someDay 285 = .ok (.if_icmp .ne 8, 3) := by decide +kernel
theorem dX8_someDay_288 : decode cX8_someDay 288 = .ok (.bipush 9, 2) := by decide +kernel
theorem dX8_someDay_290 : decode cX8_someDay 290 = .ok (.goto 5, 3) := by decide +kernel
theorem dX8_someDay_293 : decode cX8_someDay 293 = .ok (.bipush 31, 2) := by decide +kernel
theorem dX8_someDay_295 : decode cX8_someDay 295 = .ok (.if_icmp .gt 105, 3) := by decide +kernel
theorem dX8_someDay_298 : decode cX8_someDay 298 = .ok (.iload 15, 2) := by decide +kernel
theorem dX8_someDay_300 : decode cX8_someDay 300 = .ok (.iload 14, 2) := by decide +kernel
theorem dX8_someDay_302 : decode cX8_someDay 302 = .ok (.iconst 1, 1) := by decide +kernel
theorem dX8_someDay_303 : decode cX8_someDay 303 = .ok (.invokestatic 152, 3) := by decide +kernel
theorem dX8_someDay_306 : decode cX8_someDay 306 = .ok (.if_icmp .gt 8, 3) := by decide +kernel
theorem dX8_someDay_309 : decode cX8_someDay 309 = .ok (.iload 11, 2) := by decide +kernel
theorem dX8_someDay_311 : decode cX8_someDay 311 = .ok (.goto 20, 3) := by decide +kernel
theorem dX8_someDay_314 : decode cX8_someDay 314 = .ok (.iload 15, 2) := by decide +kernel
theorem dX8_someDay_316 : decode cX8_someDay 316 = .ok (.iload 14, 2) := by decide +kernel
theorem dX8_someDay_318 : decode cX8_someDay 318 = .ok (.iconst 4, 1) := by decide +kernel
theorem dX8_someDay_319 : decode cX8_someDay 319 = .ok (.invokestatic 152, 3) := by decide +kernel
theorem dX8_someDay_322 : decode cX8_someDay 322 = .ok (.if_icmp .gt 8, 3) := by decide +kernel
theorem dX8_someDay_325 : decode cX8_someDay 325 = .ok (.iload 12, 2) := by decide +kernel
theorem dX8_someDay_327 : decode cX8_someDay 327 = .ok (.goto 4, 3) := by decide +kernel
theorem dX8_someDay_330 : decode cX8_someDay 330 = .ok (.iconst 0, 1) := by decide +kernel
theorem dX8_someDay_331 : decode cX8_someDay 331 = .ok (.istore 16, 2) := by decide +kernel
theorem dX8_someDay_333 : decode cX8_someDay 333 = .ok (.iload 16, 2) := by decide +kernel
theorem dX8_someDay_335 : decode cX8_someDay 335 = .ok (.ifCond .eq 59, 3) := by decide +kernel
theorem dX8_someDay_338 : decode cX8_someDay 338 = .ok (.aload_n 0, 1) := by decide +kernel
theorem dX8_someDay_339 : decode cX8_someDay 339 = .ok (.iload 14, 2) := by decide +kernel
theorem dX8_someDay_341 : decode cX8_someDay 341 = .ok (.iload_n 3, 1) := by decide +kernel
theorem dX8_someDay_342 : decode cX8_someDay 342 = .ok (.iload 8, 2) := by decide +kernel
theorem dX8_someDay_344 : decode cX8_someDay 344 = .ok (.iload 4, 2) := by decide +kernel
theorem dX8_someDay_346 : decode cX8_someDay 346 = .ok (.invokevirtual 159, 3) := by decide +kernel
theorem dX8_someDay_349 : decode cX8_someDay 349 = .ok (.ifCond .eq 45, 3) := by decide +kernel
theorem dX8_someDay_352 : decode cX8_someDay 352 = .ok (.aload_n 0, 1) := by decide +kernel
theorem dX8_someDay_353 : decode cX8_someDay 353 = .ok (.iload 15, 2) := by decide +kernel
theorem dX8_someDay_355 : decode cX8_someDay 355 = .ok (.iload_n 2, 1) := by decide +kernel
theorem dX8_someDay_356 : decode cX8_someDay 356 = .ok (.iload 7, 2) := by decide +kernel
theorem dX8_someDay_358 : decode cX8_someDay 358 = .ok (.iload 4, 2) := by decide +kernel
theorem dX8_someDay_360 : decode cX8_someDay 360 = .ok (.invokevirtual 159, 3) := by decide +kernel
theorem dX8_someDay_363 : decode cX8_someDay 363 = .ok (.ifCond .ne 6, 3) := by decide +kernel
theorem dX8_someDay_366 : decode cX8_someDay 366 = .ok (.goto 28, 3) := by decide +kernel
theorem dX8_someDay_369 : decode cX8_someDay 369 = .ok (.iload 4, 2) := by decide +kernel
theorem dX8_someDay_371 : decode cX8_someDay 371 = .ok (.iload 5, 2) := by decide +kernel
theorem dX8_someDay_373 : decode cX8_someDay 373 = .ok (.if_icmp .ne 18, 3) := by decide +kernel
theorem dX8_someDay_376 : decode cX8_someDay 376 = .ok (.aload_n 0, 1) := by decide +kernel
theorem dX8_someDay_377 : decode cX8_someDay 377 = .ok (.iload 15, 2) := by decide +kernel
theorem dX8_someDay_379 : decode cX8_someDay 379 = .ok (.iload 14, 2) := by decide +kernel
theorem dX8_someDay_381 : decode cX8_someDay 381 = .ok (.iload 16, 2) := by decide +kernel
theorem dX8_someDay_383 : decode cX8_someDay 383 = .ok (.invokestatic 163, 3) := by decide +kernel
theorem dX8_someDay_386 : decode cX8_someDay 386 = .ok (.putfield 124, 3) := by decide +kernel
theorem dX8_someDay_389 : decode cX8_someDay 389 = .ok (.iconst 2, 1) := by decide +kernel
theorem dX8_someDay_390 : decode cX8_someDay 390 = .ok (.ireturn, 1) := by decide +kernel
theorem dX8_someDay_391 : decode cX8_someDay 391 = .ok (.iconst 1, 1) := by decide +kernel
theorem dX8_someDay_392 : decode cX8_someDay 392 = .ok (.istore 13, 2) := by decide +kernel
theorem dX8_someDay_394 : decode cX8_someDay 394 = .ok (.iinc 15 1, 3) := by decide +kernel
theorem dX8_someDay_397 : decode cX8_someDay 397 = .ok (.goto (-116), 3) := by decide +kernel
theorem dX8_someDay_400 : decode cX8_someDay 400 = .ok (.iinc 14 1, 3) := by decide +kernel
theorem dX8_someDay_403 : decode cX8_someDay 403 = .ok (.goto (-142), 3) := by decide +kernel
theorem dX8_someDay_406 : decode cX8_someDay 406 = .ok (.iload 13, 2) := by decide +kernel
theorem dX8_someDay_408 : decode cX8_someDay 408 = .ok (.ireturn, 1) := by decide +kernel
theorem dX8_held_0 : decode cX8_held 0 = .ok (.iload_n 2, 1) := by decide +kernel
theorem dX8_held_1 : decode cX8_held 1 = .ok (.iconst 2, 1) := by decide +kernel
theorem dX8_held_2 : decode cX8_held 2 = .ok (.if_icmp .ge 11, 3) := by decide +kernel
theorem dX8_held_5 : decode cX8_held 5 = .ok (.aload_n 0, 1) := by decide +kernel
theorem dX8_held_6 : decode cX8_held 6 = .ok (.iload_n 1, 1) := by decide +kernel
theorem dX8_held_7 : decode cX8_held 7 = .ok (.iload_n 2, 1) := by decide +kernel
theorem dX8_held_8 : decode cX8_held 8 = .ok (.iload_n 3, 1) := by decide +kernel
theorem dX8_held_9 : decode cX8_held 9 = .ok (.invokevirtual 167, 3) := by decide +kernel
theorem dX8_held_12 : decode cX8_held 12 = .ok (.ireturn, 1) := by decide +kernel
theorem dX8_held_13 : decode cX8_held 13 = .ok (.iconst 0, 1) := by decide +kernel
theorem dX8_held_14 : decode cX8_held 14 = .ok (.istore 4, 2) := by decide +kernel
theorem dX8_held_16 : decode cX8_held 16 = .ok (.iconst 1, 1) := by decide +kernel
theorem dX8_held_17 : decode cX8_held 17 = .ok (.istore 5, 2) := by decide +kernel
theorem dX8_held_19 : decode cX8_held 19 = .ok (.iload 5, 2) := by decide +kernel
theorem dX8_held_21 : decode cX8_held 21 = .ok (.iconst 2, 1) := by decide +kernel
theorem dX8_held_22 : decode cX8_held 22 = .ok (.if_icmp .gt 60, 3) := by decide +kernel
theorem dX8_held_25 : decode cX8_held 25 = .ok (.iconst 1, 1) := by decide +kernel
theorem dX8_held_26 : decode cX8_held 26 = .ok (.istore 6, 2) := by decide +kernel
theorem dX8_held_28 : decode cX8_held 28 = .ok (.iload 6, 2) := by decide +kernel
theorem dX8_held_30 : decode cX8_held 30 = .ok (.iconst 2, 1) := by decide +kernel
theorem dX8_held_31 : decode cX8_held 31 = .ok (.if_icmp .gt 45, 3) := by decide +kernel
theorem dX8_held_34 : decode cX8_held 34 = .ok (.aload_n 0, 1) := by decide +kernel
theorem dX8_held_35 : decode cX8_held 35 = .ok (.iload_n 1, 1) := by decide +kernel
theorem dX8_held_36 : decode cX8_held 36 = .ok (.iload 5, 2) := by decide +kernel
theorem dX8_held_38 : decode cX8_held 38 = .ok (.iload 6, 2) := by decide +kernel
theorem dX8_held_40 : decode cX8_held 40 = .ok (.iload_n 3, 1) := by decide +kernel
theorem dX8_held_41 : decode cX8_held 41 = .ok (.invokevirtual 171, 3) := by decide +kernel
theorem dX8_held_44 : decode cX8_held 44 = .ok (.istore 7, 2) := by decide +kernel
theorem dX8_held_46 : decode cX8_held 46 = .ok (.iload 7, 2) := by decide +kernel
theorem dX8_held_48 : decode cX8_held 48 = .ok (.iconst 2, 1) := by decide +kernel
theorem dX8_held_49 : decode cX8_held 49 = .ok (.if_icmp .ne 5, 3) := by decide +kernel
theorem dX8_held_52 : decode cX8_held 52 = .ok (.iconst 2, 1) := by decide +kernel
theorem dX8_held_53 : decode cX8_held 53 = .ok (.ireturn, 1) := by decide +kernel
theorem dX8_held_54 : decode cX8_held 54 = .ok (.iload 7, 2) := by decide +kernel
theorem dX8_held_56 : decode cX8_held 56 = .ok (.iload 4, 2) := by decide +kernel
theorem dX8_held_58 : decode cX8_held 58 = .ok (.if_icmp .le 8, 3) := by decide +kernel
theorem dX8_held_61 : decode cX8_held 61 = .ok (.iload 7, 2) := by decide +kernel
theorem dX8_held_63 : decode cX8_held 63 = .ok (.goto 5, 3) := by decide +kernel
theorem dX8_held_66 : decode cX8_held 66 = .ok (.iload 4, 2) := by decide +kernel
theorem dX8_held_68 : decode cX8_held 68 = .ok (.istore 4, 2) := by decide +kernel
theorem dX8_held_70 : decode cX8_held 70 = .ok (.iinc 6 1, 3) := by decide +kernel
theorem dX8_held_73 : decode cX8_held 73 = .ok (.goto (-45), 3) := by decide +kernel
theorem dX8_held_76 : decode cX8_held 76 = .ok (.iinc 5 1, 3) := by decide +kernel
theorem dX8_held_79 : decode cX8_held 79 = .ok (.goto (-60), 3) := by decide +kernel
theorem dX8_held_82 : decode cX8_held 82 = .ok (.iload 4, 2) := by decide +kernel
theorem dX8_held_84 : decode cX8_held 84 = .ok (.ireturn, 1) := by decide +kernel
theorem dX8_countsNow_0 : decode cX8_countsNow 0 = .ok (.aload_n 0, 1) := by decide +kernel
theorem dX8_countsNow_1 : decode cX8_countsNow 1 = .ok (.iload_n 1, 1) := by decide +kernel
theorem dX8_countsNow_2 : decode cX8_countsNow 2 = .ok (.iload_n 2, 1) := by decide +kernel
theorem dX8_countsNow_3 : decode cX8_countsNow 3 = .ok (.aload_n 0, 1) := by decide +kernel
theorem dX8_countsNow_4 : decode cX8_countsNow 4 = .ok (.getfield 98, 3) := by decide +kernel
theorem dX8_countsNow_7 : decode cX8_countsNow 7 = .ok (.invokevirtual 175, 3) := by decide +kernel
theorem dX8_countsNow_10 : decode cX8_countsNow 10 = .ok (.iconst 2, 1) := by decide +kernel
theorem dX8_countsNow_11 : decode cX8_countsNow 11 = .ok (.if_icmp .ne 35, 3) := by decide +kernel
theorem dX8_countsNow_14 : decode cX8_countsNow 14 = .ok (.aload_n 0, 1) := by decide +kernel
theorem dX8_countsNow_15 : decode cX8_countsNow 15 = .ok (.getfield 124, 3) := by decide +kernel
theorem dX8_countsNow_18 : decode cX8_countsNow 18 = .ok (.aload_n 0, 1) := by decide +kernel
theorem dX8_countsNow_19 : decode cX8_countsNow 19 = .ok (.getfield 44, 3) := by decide +kernel
theorem dX8_countsNow_22 : decode cX8_countsNow 22 = .ok (.iload_n 2, 1) := by decide +kernel
theorem dX8_countsNow_23 : decode cX8_countsNow 23 = .ok (.laload, 1) := by decide +kernel
theorem dX8_countsNow_24 : decode cX8_countsNow 24 = .ok (.lcmp, 1) := by decide +kernel
theorem dX8_countsNow_25 : decode cX8_countsNow 25 = .ok (.ifCond .lt 21, 3) := by decide +kernel
theorem dX8_countsNow_28 : decode cX8_countsNow 28 = .ok (.aload_n 0, 1) := by decide +kernel
theorem dX8_countsNow_29 : decode cX8_countsNow 29 = .ok (.getfield 124, 3) := by decide +kernel
theorem dX8_countsNow_32 : decode cX8_countsNow 32 = .ok (.aload_n 0, 1) := by decide +kernel
theorem dX8_countsNow_33 : decode cX8_countsNow 33 = .ok (.getfield 48, 3) := by decide +kernel
theorem dX8_countsNow_36 : decode cX8_countsNow 36 = .ok (.iload_n 2, 1) := by decide +kernel
theorem dX8_countsNow_37 : decode cX8_countsNow 37 = .ok (.laload, 1) := by decide +kernel
theorem dX8_countsNow_38 : decode cX8_countsNow 38 = .ok (.lcmp, 1) := by decide +kernel
theorem dX8_countsNow_39 : decode cX8_countsNow 39 = .ok (.ifCond .gt 7, 3) := by decide +kernel
theorem dX8_countsNow_42 : decode cX8_countsNow 42 = .ok (.iconst 1, 1) := by decide +kernel
theorem dX8_countsNow_43 : decode cX8_countsNow 43 = .ok (.goto 4, 3) := by decide +kernel
theorem dX8_countsNow_46 : decode cX8_countsNow 46 = .ok (.iconst 0, 1) := by decide +kernel
theorem dX8_countsNow_47 : decode cX8_countsNow 47 = .ok (.ireturn, 1) := by decide +kernel
theorem dX8_value_0 : decode cX8_value 0 = .ok (.aload_n 0, 1) := by decide +kernel
theorem dX8_value_1 : decode cX8_value 1 = .ok (.iconst 0, 1) := by decide +kernel
theorem dX8_value_2 : decode cX8_value 2 = .ok (.putfield 86, 3) := by decide +kernel
theorem dX8_value_5 : decode cX8_value 5 = .ok (.aload_n 0, 1) := by decide +kernel
theorem dX8_value_6 : decode cX8_value 6 = .ok (.iload_n 1, 1) := by decide +kernel
theorem dX8_value_7 : decode cX8_value 7 = .ok (.invokevirtual 178, 3) := by decide +kernel
theorem dX8_value_10 : decode cX8_value 10 = .ok (.ifCond .eq 12, 3) := by decide +kernel
theorem dX8_value_13 : decode cX8_value 13 = .ok (.iload_n 2, 1) := by decide +kernel
theorem dX8_value_14 : decode cX8_value 14 = .ok (.iconst 0, 1) := by decide +kernel
theorem dX8_value_15 : decode cX8_value 15 = .ok (.iconst 2, 1) := by decide +kernel
theorem dX8_value_16 : decode cX8_value 16 = .ok (.invokestatic 94, 3) := by decide +kernel
theorem dX8_value_19 : decode cX8_value 19 = .ok (.ifCond .ne 7, 3) := by decide +kernel
theorem dX8_value_22 : decode cX8_value 22 = .ok (.ldc2_w 82, 3) := by decide +kernel
theorem dX8_value_25 : decode cX8_value 25 = .ok (.lreturn, 1) := by decide +kernel
theorem dX8_value_26 : decode cX8_value 26 = .ok (.aload_n 0, 1) := by decide +kernel
theorem dX8_value_27 : decode cX8_value 27 = .ok (.invokevirtual 181, 3) := by decide +kernel
theorem dX8_value_30 : decode cX8_value 30 = .ok (.aload_n 0, 1) := by decide +kernel
theorem dX8_value_31 : decode cX8_value 31 = .ok (.iload_n 1, 1) := by decide +kernel
theorem dX8_value_32 : decode cX8_value 32 = .ok (.iload_n 2, 1) := by decide +kernel
theorem dX8_value_33 : decode cX8_value 33 = .ok (.invokevirtual 184, 3) := by decide +kernel
theorem dX8_value_36 : decode cX8_value 36 = .ok (.ifCond .eq 10, 3) := by decide +kernel
theorem dX8_value_39 : decode cX8_value 39 = .ok (.aload_n 0, 1) := by decide +kernel
theorem dX8_value_40 : decode cX8_value 40 = .ok (.getfield 124, 3) := by decide +kernel
theorem dX8_value_43 : decode cX8_value 43 = .ok (.goto 6, 3) := by decide +kernel
theorem dX8_value_46 : decode cX8_value 46 = .ok (.ldc2_w 82, 3) := by decide +kernel
theorem dX8_value_49 : decode cX8_value 49 = .ok (.lreturn, 1) := by decide +kernel
theorem dX8_open_0 : decode cX8_open 0 = .ok (.aload_n 0, 1) := by decide +kernel
theorem dX8_open_1 : decode cX8_open 1 = .ok (.iconst 0, 1) := by decide +kernel
theorem dX8_open_2 : decode cX8_open 2 = .ok (.putfield 86, 3) := by decide +kernel
theorem dX8_open_5 : decode cX8_open 5 = .ok (.aload_n 0, 1) := by decide +kernel
theorem dX8_open_6 : decode cX8_open 6 = .ok (.invokevirtual 181, 3) := by decide +kernel
theorem dX8_open_9 : decode cX8_open 9 = .ok (.aload_n 0, 1) := by decide +kernel
theorem dX8_open_10 : decode cX8_open 10 = .ok (.iload_n 1, 1) := by decide +kernel
theorem dX8_open_11 : decode cX8_open 11 = .ok (.invokevirtual 178, 3) := by decide +kernel
theorem dX8_open_14 : decode cX8_open 14 = .ok (.ifCond .eq 30, 3) := by decide +kernel
theorem dX8_open_17 : decode cX8_open 17 = .ok (.iload_n 2, 1) := by decide +kernel
theorem dX8_open_18 : decode cX8_open 18 = .ok (.iconst 0, 1) := by decide +kernel
theorem dX8_open_19 : decode cX8_open 19 = .ok (.iconst 2, 1) := by decide +kernel
theorem dX8_open_20 : decode cX8_open 20 = .ok (.invokestatic 94, 3) := by decide +kernel
theorem dX8_open_23 : decode cX8_open 23 = .ok (.ifCond .eq 21, 3) := by decide +kernel
theorem dX8_open_26 : decode cX8_open 26 = .ok (.aload_n 0, 1) := by decide +kernel
theorem dX8_open_27 : decode cX8_open 27 = .ok (.iload_n 1, 1) := by decide +kernel
theorem dX8_open_28 : decode cX8_open 28 = .ok (.iload_n 2, 1) := by decide +kernel
theorem dX8_open_29 : decode cX8_open 29 = .ok (.aload_n 0, 1) := by decide +kernel
theorem dX8_open_30 : decode cX8_open 30 = .ok (.getfield 98, 3) := by decide +kernel
theorem dX8_open_33 : decode cX8_open 33 = .ok (.invokevirtual 175, 3) := by decide +kernel
theorem dX8_open_36 : decode cX8_open 36 = .ok (.iconst 1, 1) := by decide +kernel
theorem dX8_open_37 : decode cX8_open 37 = .ok (.if_icmp .ne 7, 3) := by decide +kernel
theorem dX8_open_40 : decode cX8_open 40 = .ok (.iconst 1, 1) := by decide +kernel
theorem dX8_open_41 : decode cX8_open 41 = .ok (.goto 4, 3) := by decide +kernel
theorem dX8_open_44 : decode cX8_open 44 = .ok (.iconst 0, 1) := by decide +kernel
theorem dX8_open_45 : decode cX8_open 45 = .ok (.ireturn, 1) := by decide +kernel
