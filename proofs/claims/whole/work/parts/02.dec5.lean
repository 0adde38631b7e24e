theorem dX8_good_0 : decode cX8_good 0 = .ok (.aload_n 0, 1) := by decide +kernel
theorem dX8_good_1 : decode cX8_good 1 = .ok (.iconst 0, 1) := by decide +kernel
theorem dX8_good_2 : decode cX8_good 2 = .ok (.putfield 86, 3) := by decide +kernel
theorem dX8_good_5 : decode cX8_good 5 = .ok (.aload_n 0, 1) := by decide +kernel
theorem dX8_good_6 : decode cX8_good 6 = .ok (.iload_n 1, 1) := by decide +kernel
theorem dX8_good_7 : decode cX8_good 7 = .ok (.invokevirtual 178, 3) := by decide +kernel
theorem dX8_good_10 : decode cX8_good 10 = .ok (.ifCond .eq 12, 3) := by decide +kernel
theorem dX8_good_13 : decode cX8_good 13 = .ok (.iload_n 2, 1) := by decide +kernel
theorem dX8_good_14 : decode cX8_good 14 = .ok (.iconst 0, 1) := by decide +kernel
theorem dX8_good_15 : decode cX8_good 15 = .ok (.iconst 2, 1) := by decide +kernel
theorem dX8_good_16 : decode cX8_good 16 = .ok (.invokestatic 94, 3) := by decide +kernel
theorem dX8_good_19 : decode cX8_good 19 = .ok (.ifCond .ne 5, 3) := by decide +kernel
theorem dX8_good_22 : decode cX8_good 22 = .ok (.iconst (-1), 1) := by decide +kernel
theorem dX8_good_23 : decode cX8_good 23 = .ok (.ireturn, 1) := by decide +kernel
theorem dX8_good_24 : decode cX8_good 24 = .ok (.aload_n 0, 1) := by decide +kernel
theorem dX8_good_25 : decode cX8_good 25 = .ok (.invokevirtual 181, 3) := by decide +kernel
theorem dX8_good_28 : decode cX8_good 28 = .ok (.iconst 0, 1) := by decide +kernel
theorem dX8_good_29 : decode cX8_good 29 = .ok (.istore_n 3, 1) := by decide +kernel
theorem dX8_good_30 : decode cX8_good 30 = .ok (.iload_n 3, 1) := by decide +kernel
theorem dX8_good_31 : decode cX8_good 31 = .ok (.aload_n 0, 1) := by decide +kernel
theorem dX8_good_32 : decode cX8_good 32 = .ok (.getfield 98, 3) := by decide +kernel
theorem dX8_good_35 : decode cX8_good 35 = .ok (.if_icmp .ge 21, 3) := by decide +kernel
theorem dX8_good_38 : decode cX8_good 38 = .ok (.aload_n 0, 1) := by decide +kernel
theorem dX8_good_39 : decode cX8_good 39 = .ok (.iload_n 1, 1) := by decide +kernel
theorem dX8_good_40 : decode cX8_good 40 = .ok (.iload_n 2, 1) := by decide +kernel
theorem dX8_good_41 : decode cX8_good 41 = .ok (.iload_n 3, 1) := by decide +kernel
theorem dX8_good_42 : decode cX8_good 42 = .ok (.iconst 1, 1) := by decide +kernel
theorem dX8_good_43 : decode cX8_good 43 = .ok (.iadd, 1) := by decide +kernel
theorem dX8_good_44 : decode cX8_good 44 = .ok (.invokevirtual 175, 3) := by decide +kernel
theorem dX8_good_47 : decode cX8_good 47 = .ok (.ifCond .le 9, 3) := by decide +kernel
theorem dX8_good_50 : decode cX8_good 50 = .ok (.iinc 3 1, 3) := by decide +kernel
theorem dX8_good_53 : decode cX8_good 53 = .ok (.goto (-23), 3) := by decide +kernel
theorem dX8_good_56 : decode cX8_good 56 = .ok (.iload_n 3, 1) := by decide +kernel
theorem dX8_good_57 : decode cX8_good 57 = .ok (.ireturn, 1) := by decide +kernel
theorem dX8_state_0 : decode cX8_state 0 = .ok (.aload_n 0, 1) := by decide +kernel
theorem dX8_state_1 : decode cX8_state 1 = .ok (.iconst 0, 1) := by decide +kernel
theorem dX8_state_2 : decode cX8_state 2 = .ok (.putfield 86, 3) := by decide +kernel
theorem dX8_state_5 : decode cX8_state 5 = .ok (.iload_n 2, 1) := by decide +kernel
theorem dX8_state_6 : decode cX8_state 6 = .ok (.iconst 0, 1) := by decide +kernel
theorem dX8_state_7 : decode cX8_state 7 = .ok (.iconst 2, 1) := by decide +kernel
theorem dX8_state_8 : decode cX8_state 8 = .ok (.invokestatic 94, 3) := by decide +kernel
theorem dX8_state_11 : decode cX8_state 11 = .ok (.ifCond .ne 5, 3) := by decide +kernel
theorem dX8_state_14 : decode cX8_state 14 = .ok (.iconst (-1), 1) := by decide +kernel
theorem dX8_state_15 : decode cX8_state 15 = .ok (.ireturn, 1) := by decide +kernel
theorem dX8_state_16 : decode cX8_state 16 = .ok (.aload_n 0, 1) := by decide +kernel
theorem dX8_state_17 : decode cX8_state 17 = .ok (.invokevirtual 181, 3) := by decide +kernel
theorem dX8_state_20 : decode cX8_state 20 = .ok (.iconst 0, 1) := by decide +kernel
theorem dX8_state_21 : decode cX8_state 21 = .ok (.istore_n 3, 1) := by decide +kernel
theorem dX8_state_22 : decode cX8_state 22 = .ok (.iconst 0, 1) := by decide +kernel
theorem dX8_state_23 : decode cX8_state 23 = .ok (.istore 4, 2) := by decide +kernel
theorem dX8_state_25 : decode cX8_state 25 = .ok (.iconst 0, 1) := by decide +kernel
theorem dX8_state_26 : decode cX8_state 26 = .ok (.istore 5, 2) := by decide +kernel
theorem dX8_state_28 : decode cX8_state 28 = .ok (.lconst 0, 1) := by decide +kernel
theorem dX8_state_29 : decode cX8_state 29 = .ok (.lstore 6, 2) := by decide +kernel
theorem dX8_state_31 : decode cX8_state 31 = .ok (.iconst 0, 1) := by decide +kernel
theorem dX8_state_32 : decode cX8_state 32 = .ok (.istore 8, 2) := by decide +kernel
theorem dX8_state_34 : decode cX8_state 34 = .ok (.iload 8, 2) := by decide +kernel
theorem dX8_state_36 : decode cX8_state 36 = .ok (.aload_n 0, 1) := by decide +kernel
theorem dX8_state_37 : decode cX8_state 37 = .ok (.getfield 7, 3) := by decide +kernel
theorem dX8_state_40 : decode cX8_state 40 = .ok (.iconst 0, 1) := by decide +kernel
theorem dX8_state_41 : decode cX8_state 41 = .ok (.iaload, 1) := by decide +kernel
theorem dX8_state_42 : decode cX8_state 42 = .ok (.if_icmp .ge 140, 3) := by decide +kernel
theorem dX8_state_45 : decode cX8_state 45 = .ok (.iload_n 1, 1) := by decide +kernel
theorem dX8_state_46 : decode cX8_state 46 = .ok (.iload 8, 2) := by decide +kernel
theorem dX8_state_48 : decode cX8_state 48 = .ok (.ishr, 1) := by decide +kernel
theorem dX8_state_49 : decode cX8_state 49 = .ok (.iconst 1, 1) := by decide +kernel
theorem dX8_state_50 : decode cX8_state 50 = .ok (.iand, 1) := by decide +kernel
theorem dX8_state_51 : decode cX8_state 51 = .ok (.ifCond .ne 6, 3) := by decide +kernel
theorem dX8_state_54 : decode cX8_state 54 = .ok (.goto 122, 3) := by decide +kernel
theorem dX8_state_57 : decode cX8_state 57 = .ok (.aload_n 0, 1) := by decide +kernel
theorem dX8_state_58 : decode cX8_state 58 = .ok (.iload 8, 2) := by decide +kernel
theorem dX8_state_60 : decode cX8_state 60 = .ok (.iload_n 2, 1) := by decide +kernel
theorem dX8_state_61 : decode cX8_state 61 = .ok (.aload_n 0, 1) := by decide +kernel
theorem dX8_state_62 : decode cX8_state 62 = .ok (.getfield 98, 3) := by decide +kernel
theorem dX8_state_65 : decode cX8_state 65 = .ok (.invokevirtual 175, 3) := by decide +kernel
theorem dX8_state_68 : decode cX8_state 68 = .ok (.istore 9, 2) := by decide +kernel
theorem dX8_state_70 : decode cX8_state 70 = .ok (.iload 9, 2) := by decide +kernel
theorem dX8_state_72 : decode cX8_state 72 = .ok (.iconst 2, 1) := by decide +kernel
theorem dX8_state_73 : decode cX8_state 73 = .ok (.if_icmp .ne 35, 3) := by decide +kernel
theorem dX8_state_76 : decode cX8_state 76 = .ok (.aload_n 0, 1) := by decide +kernel
theorem dX8_state_77 : decode cX8_state 77 = .ok (.getfield 124, 3) := by decide +kernel
theorem dX8_state_80 : decode cX8_state 80 = .ok (.aload_n 0, 1) := by decide +kernel
theorem dX8_state_81 : decode cX8_state 81 = .ok (.getfield 44, 3) := by decide +kernel
theorem dX8_state_84 : decode cX8_state 84 = .ok (.iload_n 2, 1) := by decide +kernel
theorem dX8_state_85 : decode cX8_state 85 = .ok (.laload, 1) := by decide +kernel
theorem dX8_state_86 : decode cX8_state 86 = .ok (.lcmp, 1) := by decide +kernel
theorem dX8_state_87 : decode cX8_state 87 = .ok (.ifCond .lt 21, 3) := by decide +kernel
theorem dX8_state_90 : decode cX8_state 90 = .ok (.aload_n 0, 1) := by decide +kernel
theorem dX8_state_91 : decode cX8_state 91 = .ok (.getfield 124, 3) := by decide +kernel
theorem dX8_state_94 : decode cX8_state 94 = .ok (.aload_n 0, 1) := by decide +kernel
theorem dX8_state_95 : decode cX8_state 95 = .ok (.getfield 48, 3) := by decide +kernel
theorem dX8_state_98 : decode cX8_state 98 = .ok (.iload_n 2, 1) := by decide +kernel
theorem dX8_state_99 : decode cX8_state 99 = .ok (.laload, 1) := by decide +kernel
theorem dX8_state_100 : decode cX8_state 100 = .ok (.lcmp, 1) := by decide +kernel
theorem dX8_state_101 : decode cX8_state 101 = .ok (.ifCond .gt 7, 3) := by decide +kernel
theorem dX8_state_104 : decode cX8_state 104 = .ok (.iconst 1, 1) := by decide +kernel
theorem dX8_state_105 : decode cX8_state 105 = .ok (.goto 4, 3) := by decide +kernel
theorem dX8_state_108 : decode cX8_state 108 = .ok (.iconst 0, 1) := by decide +kernel
theorem dX8_state_109 : decode cX8_state 109 = .ok (.istore 10, 2) := by decide +kernel
theorem dX8_state_111 : decode cX8_state 111 = .ok (.iload 5, 2) := by decide +kernel
theorem dX8_state_113 : decode cX8_state 113 = .ok (.ifCond .ne 8, 3) := by decide +kernel
theorem dX8_state_116 : decode cX8_state 116 = .ok (.iload 9, 2) := by decide +kernel
theorem dX8_state_118 : decode cX8_state 118 = .ok (.ifCond .le 7, 3) := by decide +kernel
theorem dX8_state_121 : decode cX8_state 121 = .ok (.iconst 1, 1) := by decide +kernel
theorem dX8_state_122 : decode cX8_state 122 = .ok (.goto 4, 3) := by decide +kernel
theorem dX8_state_125 : decode cX8_state 125 = .ok (.iconst 0, 1) := by decide +kernel
theorem dX8_state_126 : decode cX8_state 126 = .ok (.istore 5, 2) := by decide +kernel
theorem dX8_state_128 : decode cX8_state 128 = .ok (.iload 10, 2) := by decide +kernel
theorem dX8_state_130 : decode cX8_state 130 = .ok (.ifCond .eq 46, 3) := by decide +kernel
theorem dX8_state_133 : decode cX8_state 133 = .ok (.iload 4, 2) := by decide +kernel
theorem dX8_state_135 : decode cX8_state 135 = .ok (.ifCond .ne 17, 3) := by decide +kernel
theorem dX8_state_138 : decode cX8_state 138 = .ok (.iload_n 3, 1) := by decide +kernel
theorem dX8_state_139 : decode cX8_state 139 = .ok (.ifCond .eq 17, 3) := by decide +kernel
theorem dX8_state_142 : decode cX8_state 142 = .ok (.aload_n 0, 1) := by decide +kernel
theorem dX8_state_143 : decode cX8_state 143 = .ok (.getfield 124, 3) := by decide +kernel
theorem dX8_state_146 : decode cX8_state 146 = .ok (.lload 6, 2) := by decide +kernel
theorem dX8_state_148 : decode cX8_state 148 = .ok (.lcmp, 1) := by decide +kernel
theorem dX8_state_149 : decode cX8_state 149 = .ok (.ifCond .eq 7, 3) := by decide +kernel
theorem dX8_state_152 : decode cX8_state 152 = .ok (.iconst 1, 1) := by decide +kernel
theorem dX8_state_153 : decode cX8_state 153 = .ok (.goto 4, 3) := by decide +kernel
theorem dX8_state_156 : decode cX8_state 156 = .ok (.iconst 0, 1) := by decide +kernel
theorem dX8_state_157 : decode cX8_state 157 = .ok (.istore 4, 2) := by decide +kernel
theorem dX8_state_159 : decode cX8_state 159 = .ok (.iload_n 3, 1) := by decide +kernel
theorem dX8_state_160 : decode cX8_state 160 = .ok (.ifCond .eq 8, 3) := by decide +kernel
theorem dX8_state_163 : decode cX8_state 163 = .ok (.lload 6, 2) := by decide +kernel
theorem dX8_state_165 : decode cX8_state 165 = .ok (.goto 7, 3) := by decide +kernel
theorem dX8_state_168 : decode cX8_state 168 = .ok (.aload_n 0, 1) := by decide +kernel
theorem dX8_state_169 : decode cX8_state 169 = .ok (.getfield 124, 3) := by decide +kernel
theorem dX8_state_172 : decode cX8_state 172 = .ok (.lstore 6, 2) := by decide +kernel
theorem dX8_state_174 : decode cX8_state 174 = .ok (.iconst 1, 1) := by decide +kernel
theorem dX8_state_175 : decode cX8_state 175 = .ok (.istore_n 3, 1) := by decide +kernel
theorem dX8_state_176 : decode cX8_state 176 = .ok (.iinc 8 1, 3) := by decide +kernel
theorem dX8_state_179 : decode cX8_state 179 = .ok (.goto (-145), 3) := by decide +kernel
theorem dX8_state_182 : decode cX8_state 182 = .ok (.iload_n 3, 1) := by decide +kernel
theorem dX8_state_183 : decode cX8_state 183 = .ok (.ifCond .eq 16, 3) := by decide +kernel
theorem dX8_state_186 : decode cX8_state 186 = .ok (.iload 4, 2) := by decide +kernel
theorem dX8_state_188 : decode cX8_state 188 = .ok (.ifCond .eq 7, 3) := by decide +kernel
theorem dX8_state_191 : decode cX8_state 191 = .ok (.iconst 2, 1) := by decide +kernel
theorem dX8_state_192 : decode cX8_state 192 = .ok (.goto 17, 3) := by decide +kernel
theorem dX8_state_195 : decode cX8_state 195 = .ok (.iconst 0, 1) := by decide +kernel
theorem dX8_state_196 : decode cX8_state 196 = .ok (.goto 13, 3) := by decide +kernel
theorem dX8_state_199 : decode cX8_state 199 = .ok (.iload 5, 2) := by decide +kernel
theorem dX8_state_201 : decode cX8_state 201 = .ok (.ifCond .eq 7, 3) := by decide +kernel
theorem dX8_state_204 : decode cX8_state 204 = .ok (.iconst 1, 1) := by decide +kernel
theorem dX8_state_205 : decode cX8_state 205 = .ok (.goto 4, 3) := by decide +kernel
theorem dX8_state_208 : decode cX8_state 208 = .ok (.iconst 3, 1) := by decide +kernel
theorem dX8_state_209 : decode cX8_state 209 = .ok (.ireturn, 1) := by decide +kernel
theorem dX8_say_0 : decode cX8_say 0 = .ok (.aload_n 0, 1) := by decide +kernel
theorem dX8_say_1 : decode cX8_say 1 = .ok (.getfield 76, 3) := by decide +kernel
theorem dX8_say_4 : decode cX8_say 4 = .ok (.aload_n 0, 1) := by decide +kernel
theorem dX8_say_5 : decode cX8_say 5 = .ok (.getfield 187, 3) := by decide +kernel
theorem dX8_say_8 : decode cX8_say 8 = .ok (.iload_n 1, 1) := by decide +kernel
theorem dX8_say_9 : decode cX8_say 9 = .ok (.iastore, 1) := by decide +kernel
theorem dX8_say_10 : decode cX8_say 10 = .ok (.aload_n 0, 1) := by decide +kernel
theorem dX8_say_11 : decode cX8_say 11 = .ok (.dup, 1) := by decide +kernel
theorem dX8_say_12 : decode cX8_say 12 = .ok (.getfield 187, 3) := by decide +kernel
theorem dX8_say_15 : decode cX8_say 15 = .ok (.iconst 1, 1) := by decide +kernel
theorem dX8_say_16 : decode cX8_say 16 = .ok (.iadd, 1) := by decide +kernel
theorem dX8_say_17 : decode cX8_say 17 = .ok (.putfield 187, 3) := by decide +kernel
theorem dX8_say_20 : decode cX8_say 20 = .ok (.return_, 1) := by decide +kernel
theorem dX8_sayMark_0 : decode cX8_sayMark 0 = .ok (.aload_n 0, 1) := by decide +kernel
theorem dX8_sayMark_1 : decode cX8_sayMark 1 = .ok (.aload_n 0, 1) := by decide +kernel
theorem dX8_sayMark_2 : decode cX8_sayMark 2 = .ok (.getfield 25, 3) := by decide +kernel
theorem dX8_sayMark_5 : decode cX8_sayMark 5 = .ok (.iload_n 1, 1) := by decide +kernel
theorem dX8_sayMark_6 : decode cX8_sayMark 6 = .ok (.iaload, 1) := by decide +kernel
theorem dX8_sayMark_7 : decode cX8_sayMark 7 = .ok (.bipush 16, 2) := by decide +kernel
theorem dX8_sayMark_9 : decode cX8_sayMark 9 = .ok (.ishr, 1) := by decide +kernel
theorem dX8_sayMark_10 : decode cX8_sayMark 10 = .ok (.sipush 255, 3) := by decide +kernel
theorem dX8_sayMark_13 : decode cX8_sayMark 13 = .ok (.iand, 1) := by decide +kernel
theorem dX8_sayMark_14 : decode cX8_sayMark 14 = .ok (.invokevirtual 190, 3) := by decide +kernel
theorem dX8_sayMark_17 : decode cX8_sayMark 17 = .ok (.aload_n 0, 1) := by decide +kernel
theorem dX8_sayMark_18 : decode cX8_sayMark 18 = .ok (.aload_n 0, 1) := by decide +kernel
theorem dX8_sayMark_19 : decode cX8_sayMark 19 = .ok (.getfield 25, 3) := by decide +kernel
theorem dX8_sayMark_22 : decode cX8_sayMark 22 = .ok (.iload_n 1, 1) := by decide +kernel
theorem dX8_sayMark_23 : decode cX8_sayMark 23 = .ok (.iaload, 1) := by decide +kernel
theorem dX8_sayMark_24 : decode cX8_sayMark 24 = .ok (.bipush 8, 2) := by decide +kernel
theorem dX8_sayMark_26 : decode cX8_sayMark 26 = .ok (.ishr, 1) := by decide +kernel
theorem dX8_sayMark_27 : decode cX8_sayMark 27 = .ok (.sipush 255, 3) := by decide +kernel
theorem dX8_sayMark_30 : decode cX8_sayMark 30 = .ok (.iand, 1) := by decide +kernel
theorem dX8_sayMark_31 : decode cX8_sayMark 31 = .ok (.invokevirtual 190, 3) := by decide +kernel
theorem dX8_sayMark_34 : decode cX8_sayMark 34 = .ok (.aload_n 0, 1) := by decide +kernel
theorem dX8_sayMark_35 : decode cX8_sayMark 35 = .ok (.aload_n 0, 1) := by decide +kernel
theorem dX8_sayMark_36 : decode cX8_sayMark 36 = .ok (.getfield 25, 3) := by decide +kernel
theorem dX8_sayMark_39 : decode cX8_sayMark 39 = .ok (.iload_n 1, 1) := by decide +kernel
theorem dX8_sayMark_40 : decode cX8_sayMark 40 = .ok (.iaload, 1) := by decide +kernel
theorem dX8_sayMark_41 : decode cX8_sayMark 41 = .ok (.sipush 255, 3) := by decide +kernel
theorem dX8_sayMark_44 : decode cX8_sayMark 44 = .ok (.iand, 1) := by decide +kernel
theorem dX8_sayMark_45 : decode cX8_sayMark 45 = .ok (.invokevirtual 190, 3) := by decide +kernel
theorem dX8_sayMark_48 : decode cX8_sayMark 48 = .ok (.return_, 1) := by decide +kernel
theorem dX8_sayDigits_0 : decode cX8_sayDigits 0 = .ok (.iconst 1, 1) := by decide +kernel
theorem dX8_sayDigits_1 : decode cX8_sayDigits 1 = .ok (.istore_n 3, 1) := by decide +kernel
theorem dX8_sayDigits_2 : decode cX8_sayDigits 2 = .ok (.iconst 1, 1) := by decide +kernel
theorem dX8_sayDigits_3 : decode cX8_sayDigits 3 = .ok (.istore 4, 2) := by decide +kernel
theorem dX8_sayDigits_5 : decode cX8_sayDigits 5 = .ok (.iload 4, 2) := by decide +kernel
theorem dX8_sayDigits_7 : decode cX8_sayDigits 7 = .ok (.iload_n 2, 1) := by decide +kernel
theorem dX8_sayDigits_8 : decode cX8_sayDigits 8 = .ok (.if_icmp .ge 14, 3) := by decide +kernel
theorem dX8_sayDigits_11 : decode cX8_sayDigits 11 = .ok (.iload_n 3, 1) := by decide +kernel
theorem dX8_sayDigits_12 : decode cX8_sayDigits 12 = .ok (.bipush 10, 2) := by decide +kernel
theorem dX8_sayDigits_14 : decode cX8_sayDigits 14 = .ok (.imul, 1) := by decide +kernel
theorem dX8_sayDigits_15 : decode cX8_sayDigits 15 = .ok (.istore_n 3, 1) := by decide +kernel
theorem dX8_sayDigits_16 : decode cX8_sayDigits 16 = .ok (.iinc 4 1, 3) := by decide +kernel
theorem dX8_sayDigits_19 : decode cX8_sayDigits 19 = .ok (.goto (-14), 3) := by decide +kernel
theorem dX8_sayDigits_22 : decode cX8_sayDigits 22 = .ok (.iconst 0, 1) := by decide +kernel
theorem dX8_sayDigits_23 : decode cX8_sayDigits 23 = .ok (.istore 4, 2) := by decide +kernel
theorem dX8_sayDigits_25 : decode cX8_sayDigits 25 = .ok (.iload 4, 2) := by decide +kernel
theorem dX8_sayDigits_27 : decode cX8_sayDigits 27 = .ok (.iload_n 2, 1) := by decide +kernel
theorem dX8_sayDigits_28 : decode cX8_sayDigits 28 = .ok (.if_icmp .ge 27, 3) := by decide +kernel
theorem dX8_sayDigits_31 : decode cX8_sayDigits 31 = .ok (.aload_n 0, 1) := by decide +kernel
theorem dX8_sayDigits_32 : decode cX8_sayDigits 32 = .ok (.bipush 48, 2) := by decide +kernel
theorem dX8_sayDigits_34 : decode cX8_sayDigits 34 = .ok (.iload_n 1, 1) := by decide +kernel
theorem dX8_sayDigits_35 : decode cX8_sayDigits 35 = .ok (.iload_n 3, 1) := by decide +kernel
theorem dX8_sayDigits_36 : decode cX8_sayDigits 36 = .ok (.idiv, 1) := by decide +kernel
theorem dX8_sayDigits_37 : decode cX8_sayDigits 37 = .ok (.bipush 10, 2) := by decide +kernel
theorem dX8_sayDigits_39 : decode cX8_sayDigits 39 = .ok (.irem, 1) := by decide +kernel
theorem dX8_sayDigits_40 : decode cX8_sayDigits 40 = .ok (.iadd, 1) := by decide +kernel
theorem dX8_sayDigits_41 : decode cX8_sayDigits 41 = .ok (.invokevirtual 190, 3) := by decide +kernel
theorem dX8_sayDigits_44 : decode cX8_sayDigits 44 = .ok (.iload_n 3, 1) := by decide +kernel
theorem dX8_sayDigits_45 : decode cX8_sayDigits 45 = .ok (.bipush 10, 2) := by decide +kernel
theorem dX8_sayDigits_47 : decode cX8_sayDigits 47 = .ok (.idiv, 1) := by decide +kernel
theorem dX8_sayDigits_48 : decode cX8_sayDigits 48 = .ok (.istore_n 3, 1) := by decide +kernel
theorem dX8_sayDigits_49 : decode cX8_sayDigits 49 = .ok (.iinc 4 1, 3) := by decide +kernel
theorem dX8_sayDigits_52 : decode cX8_sayDigits 52 = .ok (.goto (-27), 3) := by decide +kernel
theorem dX8_sayDigits_55 : decode cX8_sayDigits 55 = .ok (.return_, 1) := by decide +kernel
theorem dX8_makeAmount_0 : decode cX8_makeAmount 0 = .ok (.iload 5, 2) := by decide +kernel
theorem dX8_makeAmount_2 : decode cX8_makeAmount 2 = .ok (.iconst 0, 1) := by decide +kernel
theorem dX8_makeAmount_3 : decode cX8_makeAmount 3 = .ok (.bipush 6, 2) := by decide +kernel
theorem dX8_makeAmount_5 : decode cX8_makeAmount 5 = .ok (.invokestatic 94, 3) := by decide +kernel
theorem dX8_makeAmount_8 : decode cX8_makeAmount 8 = .ok (.ifCond .eq 19, 3) := by decide +kernel
theorem dX8_makeAmount_11 : decode cX8_makeAmount 11 = .ok (.lload_n 3, 1) := by decide +kernel
theorem dX8_makeAmount_12 : decode cX8_makeAmount 12 = .ok (.ldc2_w 193, 3) := by decide +kernel
theorem dX8_makeAmount_15 : decode cX8_makeAmount 15 = .ok (.lcmp, 1) := by decide +kernel
theorem dX8_makeAmount_16 : decode cX8_makeAmount 16 = .ok (.ifCond .gt 11, 3) := by decide +kernel
theorem dX8_makeAmount_19 : decode cX8_makeAmount 19 = .ok (.lload_n 3, 1) := by decide +kernel
theorem dX8_makeAmount_20 : decode cX8_makeAmount 20 = .ok (.ldc2_w 195, 3) := by decide +kernel
theorem dX8_makeAmount_23 : decode cX8_makeAmount 23 = .ok (.lcmp, 1) := by decide +kernel
theorem dX8_makeAmount_24 : decode cX8_makeAmount 24 = .ok (.ifCond .ge 5, 3) := by decide +kernel
theorem dX8_makeAmount_27 : decode cX8_makeAmount 27 = .ok (.iconst 0, 1) := by decide +kernel
theorem dX8_makeAmount_28 : decode cX8_makeAmount 28 = .ok (.ireturn, 1) := by decide +kernel
theorem dX8_makeAmount_29 : decode cX8_makeAmount 29 = .ok (.lconst 1, 1) := by decide +kernel
theorem dX8_makeAmount_30 : decode cX8_makeAmount 30 = .ok (.lstore 6, 2) := by decide +kernel
theorem dX8_makeAmount_32 : decode cX8_makeAmount 32 = .ok (.iload 5, 2) := by decide +kernel
theorem dX8_makeAmount_34 : decode cX8_makeAmount 34 = .ok (.istore 8, 2) := by decide +kernel
theorem dX8_makeAmount_36 : decode cX8_makeAmount 36 = .ok (.iload 8, 2) := by decide +kernel
theorem dX8_makeAmount_38 : decode cX8_makeAmount 38 = .ok (.bipush 6, 2) := by decide +kernel
theorem dX8_makeAmount_40 : decode cX8_makeAmount 40 = .ok (.if_icmp .ge 17, 3) := by decide +kernel
theorem dX8_makeAmount_43 : decode cX8_makeAmount 43 = .ok (.lload 6, 2) := by decide +kernel
theorem dX8_makeAmount_45 : decode cX8_makeAmount 45 = .ok (.ldc2_w 122, 3) := by decide +kernel
theorem dX8_makeAmount_48 : decode cX8_makeAmount 48 = .ok (.lmul, 1) := by decide +kernel
theorem dX8_makeAmount_49 : decode cX8_makeAmount 49 = .ok (.lstore 6, 2) := by decide +kernel
theorem dX8_makeAmount_51 : decode cX8_makeAmount 51 = .ok (.iinc 8 1, 3) := by decide +kernel
theorem dX8_makeAmount_54 : decode cX8_makeAmount 54 = .ok (.goto (-18), 3) := by decide +kernel
theorem dX8_makeAmount_57 : decode cX8_makeAmount 57 = .ok (.lload_n 3, 1) := by decide +kernel
theorem dX8_makeAmount_58 : decode cX8_makeAmount 58 = .ok (.lconst 0, 1) := by decide +kernel
theorem dX8_makeAmount_59 : decode cX8_makeAmount 59 = .ok (.lcmp, 1) := by decide +kernel
theorem dX8_makeAmount_60 : decode cX8_makeAmount 60 = .ok (.ifCond .ge 8, 3) := by decide +kernel
theorem dX8_makeAmount_63 : decode cX8_makeAmount 63 = .ok (.lload_n 3, 1) := by decide +kernel
theorem dX8_makeAmount_64 : decode cX8_makeAmount 64 = .ok (.lneg, 1) := by decide +kernel
theorem dX8_makeAmount_65 : decode cX8_makeAmount 65 = .ok (.goto 4, 3) := by decide +kernel
theorem dX8_makeAmount_68 : decode cX8_makeAmount 68 = .ok (.lload_n 3, 1) := by decide +kernel
theorem dX8_makeAmount_69 : decode cX8_makeAmount 69 = .ok (.lstore 8, 2) := by decide +kernel
theorem dX8_makeAmount_71 : decode cX8_makeAmount 71 = .ok (.lload 8, 2) := by decide +kernel
theorem dX8_makeAmount_73 : decode cX8_makeAmount 73 = .ok (.lload 6, 2) := by decide +kernel
theorem dX8_makeAmount_75 : decode cX8_makeAmount 75 = .ok (.ldc2_w 197, 3) := by decide +kernel
theorem dX8_makeAmount_78 : decode cX8_makeAmount 78 = .ok (.ldiv, 1) := by decide +kernel
theorem dX8_makeAmount_79 : decode cX8_makeAmount 79 = .ok (.ladd, 1) := by decide +kernel
theorem dX8_makeAmount_80 : decode cX8_makeAmount 80 = .ok (.lload 6, 2) := by decide +kernel
theorem dX8_makeAmount_82 : decode cX8_makeAmount 82 = .ok (.ldiv, 1) := by decide +kernel
theorem dX8_makeAmount_83 : decode cX8_makeAmount 83 = .ok (.lload 6, 2) := by decide +kernel
theorem dX8_makeAmount_85 : decode cX8_makeAmount 85 = .ok (.lmul, 1) := by decide +kernel
theorem dX8_makeAmount_86 : decode cX8_makeAmount 86 = .ok (.lstore 8, 2) := by decide +kernel
theorem dX8_makeAmount_88 : decode cX8_makeAmount 88 = .ok (.lload 8, 2) := by decide +kernel
theorem dX8_makeAmount_90 : decode cX8_makeAmount 90 = .ok (.ldc2_w 193, 3) := by decide +kernel
theorem dX8_makeAmount_93 : decode cX8_makeAmount 93 = .ok (.lcmp, 1) := by decide +kernel
theorem dX8_makeAmount_94 : decode cX8_makeAmount 94 = .ok (.ifCond .le 5, 3) := by decide +kernel
theorem dX8_makeAmount_97 : decode cX8_makeAmount 97 = .ok (.iconst 0, 1) := by decide +kernel
theorem dX8_makeAmount_98 : decode cX8_makeAmount 98 = .ok (.ireturn, 1) := by decide +kernel
theorem dX8_makeAmount_99 : decode cX8_makeAmount 99 = .ok (.lload_n 3, 1) := by decide +kernel
theorem dX8_makeAmount_100 : decode cX8_makeAmount 100 = .ok (.lconst 0, 1) := by decide +kernel
theorem dX8_makeAmount_101 : decode cX8_makeAmount 101 = .ok (.lcmp, 1) := by decide +kernel
theorem dX8_makeAmount_102 : decode cX8_makeAmount 102 = .ok (.ifCond .ge 14, 3) := by decide +kernel
theorem dX8_makeAmount_105 : decode cX8_makeAmount 105 = .ok (.lload 8, 2) := by decide +kernel
theorem dX8_makeAmount_107 : decode cX8_makeAmount 107 = .ok (.lconst 0, 1) := by decide +kernel
theorem dX8_makeAmount_108 : decode cX8_makeAmount 108 = .ok (.lcmp, 1) := by decide +kernel
theorem dX8_makeAmount_109 : decode cX8_makeAmount 109 = .ok (.ifCond .le 7, 3) := by decide +kernel
theorem dX8_makeAmount_112 : decode cX8_makeAmount 112 = .ok (.iconst 1, 1) := by decide +kernel
theorem dX8_makeAmount_113 : decode cX8_makeAmount 113 = .ok (.goto 4, 3) := by decide +kernel
theorem dX8_makeAmount_116 : decode cX8_makeAmount 116 = .ok (.iconst 0, 1) := by decide +kernel
theorem dX8_makeAmount_117 : decode cX8_makeAmount 117 = .ok (.istore 10, 2) := by decide +kernel
theorem dX8_makeAmount_119 : decode cX8_makeAmount 119 = .ok (.lload 8, 2) := by decide +kernel
theorem dX8_makeAmount_121 : decode cX8_makeAmount 121 = .ok (.ldc2_w 120, 3) := by decide +kernel
theorem dX8_makeAmount_124 : decode cX8_makeAmount 124 = .ok (.ldiv, 1) := by decide +kernel
theorem dX8_makeAmount_125 : decode cX8_makeAmount 125 = .ok (.l2i, 1) := by decide +kernel
theorem dX8_makeAmount_126 : decode cX8_makeAmount 126 = .ok (.istore 11, 2) := by decide +kernel
theorem dX8_makeAmount_128 : decode cX8_makeAmount 128 = .ok (.lload 8, 2) := by decide +kernel
theorem dX8_makeAmount_130 : decode cX8_makeAmount 130 = .ok (.ldc2_w 120, 3) := by decide +kernel
theorem dX8_makeAmount_133 : decode cX8_makeAmount 133 = .ok (.lrem, 1) := by decide +kernel
theorem dX8_makeAmount_134 : decode cX8_makeAmount 134 = .ok (.l2i, 1) := by decide +kernel
theorem dX8_makeAmount_135 : decode cX8_makeAmount 135 = .ok (.istore 12, 2) := by decide +kernel
theorem dX8_makeAmount_137 : decode cX8_makeAmount 137 = .ok (.iconst 1, 1) := by decide +kernel
theorem dX8_makeAmount_138 : decode cX8_makeAmount 138 = .ok (.istore 13, 2) := by decide +kernel
theorem dX8_makeAmount_140 : decode cX8_makeAmount 140 = .ok (.iload 11, 2) := by decide +kernel
theorem dX8_makeAmount_142 : decode cX8_makeAmount 142 = .ok (.bipush 10, 2) := by decide +kernel
theorem dX8_makeAmount_144 : decode cX8_makeAmount 144 = .ok (.idiv, 1) := by decide +kernel
theorem dX8_makeAmount_145 : decode cX8_makeAmount 145 = .ok (.istore 14, 2) := by decide +kernel
theorem dX8_makeAmount_147 : decode cX8_makeAmount 147 = .ok (.iload 14, 2) := by decide +kernel
theorem dX8_makeAmount_149 : decode cX8_makeAmount 149 = .ok (.ifCond .le 16, 3) := by decide +kernel
theorem dX8_makeAmount_152 : decode cX8_makeAmount 152 = .ok (.iinc 13 1, 3) := by decide +kernel
theorem dX8_makeAmount_155 : decode cX8_makeAmount 155 = .ok (.iload 14, 2) := by decide +kernel
theorem dX8_makeAmount_157 : decode cX8_makeAmount 157 = .ok (.bipush 10, 2) := by decide +kernel
theorem dX8_makeAmount_159 : decode cX8_makeAmount 159 = .ok (.idiv, 1) := by decide +kernel
theorem dX8_makeAmount_160 : decode cX8_makeAmount 160 = .ok (.istore 14, 2) := by decide +kernel
theorem dX8_makeAmount_162 : decode cX8_makeAmount 162 = .ok (.goto (-15), 3) := by decide +kernel
theorem dX8_makeAmount_165 : decode cX8_makeAmount 165 = .ok (.iload 10, 2) := by decide +kernel
theorem dX8_makeAmount_167 : decode cX8_makeAmount 167 = .ok (.ifCond .eq 33, 3) := by decide +kernel
theorem dX8_makeAmount_170 : decode cX8_makeAmount 170 = .ok (.aload_n 0, 1) := by decide +kernel
theorem dX8_makeAmount_171 : decode cX8_makeAmount 171 = .ok (.getfield 22, 3) := by decide +kernel
theorem dX8_makeAmount_174 : decode cX8_makeAmount 174 = .ok (.iload_n 1, 1) := by decide +kernel
theorem dX8_makeAmount_175 : decode cX8_makeAmount 175 = .ok (.iaload, 1) := by decide +kernel
theorem dX8_makeAmount_176 : decode cX8_makeAmount 176 = .ok (.iconst 1, 1) := by decide +kernel
theorem dX8_makeAmount_177 : decode cX8_makeAmount 177 = .ok (.if_icmp .eq 23, 3) := by decide +kernel
theorem dX8_makeAmount_180 : decode cX8_makeAmount 180 = .ok (.aload_n 0, 1) := by decide +kernel
theorem dX8_makeAmount_181 : decode cX8_makeAmount 181 = .ok (.aload_n 0, 1) := by decide +kernel
theorem dX8_makeAmount_182 : decode cX8_makeAmount 182 = .ok (.getfield 22, 3) := by decide +kernel
theorem dX8_makeAmount_185 : decode cX8_makeAmount 185 = .ok (.iload_n 1, 1) := by decide +kernel
theorem dX8_makeAmount_186 : decode cX8_makeAmount 186 = .ok (.iaload, 1) := by decide +kernel
theorem dX8_makeAmount_187 : decode cX8_makeAmount 187 = .ok (.ifCond .ne 8, 3) := by decide +kernel
theorem dX8_makeAmount_190 : decode cX8_makeAmount 190 = .ok (.bipush 45, 2) := by decide +kernel
theorem dX8_makeAmount_192 : decode cX8_makeAmount 192 = .ok (.goto 5, 3) := by decide +kernel
theorem dX8_makeAmount_195 : decode cX8_makeAmount 195 = .ok (.bipush 40, 2) := by decide +kernel
theorem dX8_makeAmount_197 : decode cX8_makeAmount 197 = .ok (.invokevirtual 190, 3) := by decide +kernel
theorem dX8_makeAmount_200 : decode cX8_makeAmount 200 = .ok (.iload_n 2, 1) := by decide +kernel
theorem dX8_makeAmount_201 : decode cX8_makeAmount 201 = .ok (.iconst 1, 1) := by decide +kernel
theorem dX8_makeAmount_202 : decode cX8_makeAmount 202 = .ok (.if_icmp .ne 17, 3) := by decide +kernel
theorem dX8_makeAmount_205 : decode cX8_makeAmount 205 = .ok (.aload_n 0, 1) := by decide +kernel
theorem dX8_makeAmount_206 : decode cX8_makeAmount 206 = .ok (.getfield 28, 3) := by decide +kernel
theorem dX8_makeAmount_209 : decode cX8_makeAmount 209 = .ok (.iload_n 1, 1) := by decide +kernel
theorem dX8_makeAmount_210 : decode cX8_makeAmount 210 = .ok (.baload, 1) := by decide +kernel
theorem dX8_makeAmount_211 : decode cX8_makeAmount 211 = .ok (.ifCond .ne 8, 3) := by decide +kernel
theorem dX8_makeAmount_214 : decode cX8_makeAmount 214 = .ok (.aload_n 0, 1) := by decide +kernel
theorem dX8_makeAmount_215 : decode cX8_makeAmount 215 = .ok (.iload_n 1, 1) := by decide +kernel
theorem dX8_makeAmount_216 : decode cX8_makeAmount 216 = .ok (.invokevirtual 199, 3) := by decide +kernel
theorem dX8_makeAmount_219 : decode cX8_makeAmount 219 = .ok (.iconst 1, 1) := by decide +kernel
theorem dX8_makeAmount_220 : decode cX8_makeAmount 220 = .ok (.istore 14, 2) := by decide +kernel
theorem dX8_makeAmount_222 : decode cX8_makeAmount 222 = .ok (.iconst 1, 1) := by decide +kernel
theorem dX8_makeAmount_223 : decode cX8_makeAmount 223 = .ok (.istore 15, 2) := by decide +kernel
theorem dX8_makeAmount_225 : decode cX8_makeAmount 225 = .ok (.iload 15, 2) := by decide +kernel
theorem dX8_makeAmount_227 : decode cX8_makeAmount 227 = .ok (.iload 13, 2) := by decide +kernel
theorem dX8_makeAmount_229 : decode cX8_makeAmount 229 = .ok (.if_icmp .ge 16, 3) := by decide +kernel
theorem dX8_makeAmount_232 : decode cX8_makeAmount 232 = .ok (.iload 14, 2) := by decide +kernel
theorem dX8_makeAmount_234 : decode cX8_makeAmount 234 = .ok (.bipush 10, 2) := by decide +kernel
theorem dX8_makeAmount_236 : decode cX8_makeAmount 236 = .ok (.imul, 1) := by decide +kernel
theorem dX8_makeAmount_237 : decode cX8_makeAmount 237 = .ok (.istore 14, 2) := by decide +kernel
theorem dX8_makeAmount_239 : decode cX8_makeAmount 239 = .ok (.iinc 15 1, 3) := by decide +kernel
theorem dX8_makeAmount_242 : decode cX8_makeAmount 242 = .ok (.goto (-17), 3) := by decide +kernel
theorem dX8_makeAmount_245 : decode cX8_makeAmount 245 = .ok (.iconst 0, 1) := by decide +kernel
theorem dX8_makeAmount_246 : decode cX8_makeAmount 246 = .ok (.istore 15, 2) := by decide +kernel
theorem dX8_makeAmount_248 : decode cX8_makeAmount 248 = .ok (.iload 15, 2) := by decide +kernel
theorem dX8_makeAmount_250 : decode cX8_makeAmount 250 = .ok (.iload 13, 2) := by decide +kernel
theorem dX8_makeAmount_252 : decode cX8_makeAmount 252 = .ok (.if_icmp .ge 71, 3) := by decide +kernel
theorem dX8_makeAmount_255 : decode cX8_makeAmount 255 = .ok (.aload_n 0, 1) := by decide +kernel
theorem dX8_makeAmount_256 : decode cX8_makeAmount 256 = .ok (.bipush 48, 2) := by decide +kernel
theorem dX8_makeAmount_258 : decode cX8_makeAmount 258 = .ok (.iload 11, 2) := by decide +kernel
theorem dX8_makeAmount_260 : decode cX8_makeAmount 260 = .ok (.iload 14, 2) := by decide +kernel
theorem dX8_makeAmount_262 : decode cX8_makeAmount 262 = .ok (.idiv, 1) := by decide +kernel
theorem dX8_makeAmount_263 : decode cX8_makeAmount 263 = .ok (.bipush 10, 2) := by decide +kernel
theorem dX8_makeAmount_265 : decode cX8_makeAmount 265 = .ok (.irem, 1) := by decide +kernel
theorem dX8_makeAmount_266 : decode cX8_makeAmount 266 = .ok (.iadd, 1) := by decide +kernel
theorem dX8_makeAmount_267 : decode cX8_makeAmount 267 = .ok (.invokevirtual 190, 3) := by decide +kernel
theorem dX8_makeAmount_270 : decode cX8_makeAmount 270 = .ok (.iload 14, 2) := by decide +kernel
theorem dX8_makeAmount_272 : decode cX8_makeAmount 272 = .ok (.bipush 10, 2) := by decide +kernel
theorem dX8_makeAmount_274 : decode cX8_makeAmount 274 = .ok (.idiv, 1) := by decide +kernel
theorem dX8_makeAmount_275 : decode cX8_makeAmount 275 = .ok (.istore 14, 2) := by decide +kernel
theorem dX8_makeAmount_277 : decode cX8_makeAmount 277 = .ok (.aload_n 0, 1) := by decide +kernel
theorem dX8_makeAmount_278 : decode cX8_makeAmount 278 = .ok (.getfield 16, 3) := by decide +kernel
theorem dX8_makeAmount_281 : decode cX8_makeAmount 281 = .ok (.iload_n 1, 1) := by decide +kernel
theorem dX8_makeAmount_282 : decode cX8_makeAmount 282 = .ok (.iaload, 1) := by decide +kernel
theorem dX8_makeAmount_283 : decode cX8_makeAmount 283 = .ok (.ifCond .eq 34, 3) := by decide +kernel
theorem dX8_makeAmount_286 : decode cX8_makeAmount 286 = .ok (.iload 13, 2) := by decide +kernel
theorem dX8_makeAmount_288 : decode cX8_makeAmount 288 = .ok (.iconst 3, 1) := by decide +kernel
theorem dX8_makeAmount_289 : decode cX8_makeAmount 289 = .ok (.if_icmp .le 28, 3) := by decide +kernel
theorem dX8_makeAmount_292 : decode cX8_makeAmount 292 = .ok (.aload_n 0, 1) := by decide +kernel
theorem dX8_makeAmount_293 : decode cX8_makeAmount 293 = .ok (.iload_n 1, 1) := by decide +kernel
theorem dX8_makeAmount_294 : decode cX8_makeAmount 294 = .ok (.iload 13, 2) := by decide +kernel
theorem dX8_makeAmount_296 : decode cX8_makeAmount 296 = .ok (.iconst 1, 1) := by decide +kernel
theorem dX8_makeAmount_297 : decode cX8_makeAmount 297 = .ok (.isub, 1) := by decide +kernel
theorem dX8_makeAmount_298 : decode cX8_makeAmount 298 = .ok (.iload 15, 2) := by decide +kernel
theorem dX8_makeAmount_300 : decode cX8_makeAmount 300 = .ok (.isub, 1) := by decide +kernel
theorem dX8_makeAmount_301 : decode cX8_makeAmount 301 = .ok (.invokevirtual 108, 3) := by decide +kernel
theorem dX8_makeAmount_304 : decode cX8_makeAmount 304 = .ok (.ifCond .eq 13, 3) := by decide +kernel
theorem dX8_makeAmount_307 : decode cX8_makeAmount 307 = .ok (.aload_n 0, 1) := by decide +kernel
theorem dX8_makeAmount_308 : decode cX8_makeAmount 308 = .ok (.aload_n 0, 1) := by decide +kernel
theorem dX8_makeAmount_309 : decode cX8_makeAmount 309 = .ok (.getfield 16, 3) := by decide +kernel
theorem dX8_makeAmount_312 : decode cX8_makeAmount 312 = .ok (.iload_n 1, 1) := by decide +kernel
theorem dX8_makeAmount_313 : decode cX8_makeAmount 313 = .ok (.iaload, 1) := by decide +kernel
theorem dX8_makeAmount_314 : decode cX8_makeAmount 314 = .ok (.invokevirtual 190, 3) := by decide +kernel
theorem dX8_makeAmount_317 : decode cX8_makeAmount 317 = .ok (.iinc 15 1, 3) := by decide +kernel
theorem dX8_makeAmount_320 : decode cX8_makeAmount 320 = .ok (.goto (-72), 3) := by decide +kernel
theorem dX8_makeAmount_323 : decode cX8_makeAmount 323 = .ok (.iload 5, 2) := by decide +kernel
theorem dX8_makeAmount_325 : decode cX8_makeAmount 325 = .ok (.ifCond .le 51, 3) := by decide +kernel
theorem dX8_makeAmount_328 : decode cX8_makeAmount 328 = .ok (.aload_n 0, 1) := by decide +kernel
theorem dX8_makeAmount_329 : decode cX8_makeAmount 329 = .ok (.aload_n 0, 1) := by decide +kernel
theorem dX8_makeAmount_330 : decode cX8_makeAmount 330 = .ok (.getfield 13, 3) := by decide +kernel
theorem dX8_makeAmount_333 : decode cX8_makeAmount 333 = .ok (.iload_n 1, 1) := by decide +kernel
theorem dX8_makeAmount_334 : decode cX8_makeAmount 334 = .ok (.iaload, 1) := by decide +kernel
theorem dX8_makeAmount_335 : decode cX8_makeAmount 335 = .ok (.invokevirtual 190, 3) := by decide +kernel
theorem dX8_makeAmount_338 : decode cX8_makeAmount 338 = .ok (.iconst 0, 1) := by decide +kernel
theorem dX8_makeAmount_339 : decode cX8_makeAmount 339 = .ok (.istore 15, 2) := by decide +kernel
theorem dX8_makeAmount_341 : decode cX8_makeAmount 341 = .ok (.iload 15, 2) := by decide +kernel
theorem dX8_makeAmount_343 : decode cX8_makeAmount 343 = .ok (.iload 5, 2) := by decide +kernel
theorem dX8_makeAmount_345 : decode cX8_makeAmount 345 = .ok (.if_icmp .ge 31, 3) := by decide +kernel
theorem dX8_makeAmount_348 : decode cX8_makeAmount 348 = .ok (.aload_n 0, 1) := by decide +kernel
theorem dX8_makeAmount_349 : decode cX8_makeAmount 349 = .ok (.bipush 48, 2) := by decide +kernel
theorem dX8_makeAmount_351 : decode cX8_makeAmount 351 = .ok (.iload 12, 2) := by decide +kernel
theorem dX8_makeAmount_353 : decode cX8_makeAmount 353 = .ok (.ldc 202, 2) := by decide +kernel
theorem dX8_makeAmount_355 : decode cX8_makeAmount 355 = .ok (.idiv, 1) := by decide +kernel
theorem dX8_makeAmount_356 : decode cX8_makeAmount 356 = .ok (.iadd, 1) := by decide +kernel
theorem dX8_makeAmount_357 : decode cX8_makeAmount 357 = .ok (.invokevirtual 190, 3) := by decide +kernel
theorem dX8_makeAmount_360 : decode cX8_makeAmount 360 = .ok (.iload 12, 2) := by decide +kernel
theorem dX8_makeAmount_362 : decode cX8_makeAmount 362 = .ok (.ldc 202, 2) := by decide +kernel
theorem dX8_makeAmount_364 : decode cX8_makeAmount 364 = .ok (.irem, 1) := by decide +kernel
theorem dX8_makeAmount_365 : decode cX8_makeAmount 365 = .ok (.bipush 10, 2) := by decide +kernel
theorem dX8_makeAmount_367 : decode cX8_makeAmount 367 = .ok (.imul, 1) := by decide +kernel
theorem dX8_makeAmount_368 : decode cX8_makeAmount 368 = .ok (.istore 12, 2) := by decide +kernel
theorem dX8_makeAmount_370 : decode cX8_makeAmount 370 = .ok (.iinc 15 1, 3) := by decide +kernel
theorem dX8_makeAmount_373 : decode cX8_makeAmount 373 = .ok (.goto (-32), 3) := by decide +kernel
theorem dX8_makeAmount_376 : decode cX8_makeAmount 376 = .ok (.iload_n 2, 1) := by decide +kernel
theorem dX8_makeAmount_377 : decode cX8_makeAmount 377 = .ok (.iconst 1, 1) := by decide +kernel
theorem dX8_makeAmount_378 : decode cX8_makeAmount 378 = .ok (.if_icmp .ne 23, 3) := by decide +kernel
theorem dX8_makeAmount_381 : decode cX8_makeAmount 381 = .ok (.aload_n 0, 1) := by decide +kernel
theorem dX8_makeAmount_382 : decode cX8_makeAmount 382 = .ok (.getfield 28, 3) := by decide +kernel
theorem dX8_makeAmount_385 : decode cX8_makeAmount 385 = .ok (.iload_n 1, 1) := by decide +kernel
theorem dX8_makeAmount_386 : decode cX8_makeAmount 386 = .ok (.baload, 1) := by decide +kernel
theorem dX8_makeAmount_387 : decode cX8_makeAmount 387 = .ok (.ifCond .eq 14, 3) := by decide +kernel
theorem dX8_makeAmount_390 : decode cX8_makeAmount 390 = .ok (.aload_n 0, 1) := by decide +kernel
theorem dX8_makeAmount_391 : decode cX8_makeAmount 391 = .ok (.bipush 32, 2) := by decide +kernel
theorem dX8_makeAmount_393 : decode cX8_makeAmount 393 = .ok (.invokevirtual 190, 3) := by decide +kernel
theorem dX8_makeAmount_396 : decode cX8_makeAmount 396 = .ok (.aload_n 0, 1) := by decide +kernel
theorem dX8_makeAmount_397 : decode cX8_makeAmount 397 = .ok (.iload_n 1, 1) := by decide +kernel
theorem dX8_makeAmount_398 : decode cX8_makeAmount 398 = .ok (.invokevirtual 199, 3) := by decide +kernel
theorem dX8_makeAmount_401 : decode cX8_makeAmount 401 = .ok (.iload 10, 2) := by decide +kernel
theorem dX8_makeAmount_403 : decode cX8_makeAmount 403 = .ok (.ifCond .eq 33, 3) := by decide +kernel
theorem dX8_makeAmount_406 : decode cX8_makeAmount 406 = .ok (.aload_n 0, 1) := by decide +kernel
theorem dX8_makeAmount_407 : decode cX8_makeAmount 407 = .ok (.getfield 22, 3) := by decide +kernel
theorem dX8_makeAmount_410 : decode cX8_makeAmount 410 = .ok (.iload_n 1, 1) := by decide +kernel
theorem dX8_makeAmount_411 : decode cX8_makeAmount 411 = .ok (.iaload, 1) := by decide +kernel
theorem dX8_makeAmount_412 : decode cX8_makeAmount 412 = .ok (.ifCond .eq 24, 3) := by decide +kernel
theorem dX8_makeAmount_415 : decode cX8_makeAmount 415 = .ok (.aload_n 0, 1) := by decide +kernel
theorem dX8_makeAmount_416 : decode cX8_makeAmount 416 = .ok (.aload_n 0, 1) := by decide +kernel
theorem dX8_makeAmount_417 : decode cX8_makeAmount 417 = .ok (.getfield 22, 3) := by decide +kernel
theorem dX8_makeAmount_420 : decode cX8_makeAmount 420 = .ok (.iload_n 1, 1) := by decide +kernel
theorem dX8_makeAmount_421 : decode cX8_makeAmount 421 = .ok (.iaload, 1) := by decide +kernel
theorem dX8_makeAmount_422 : decode cX8_makeAmount 422 = .ok (.iconst 1, 1) := by decide +kernel
theorem dX8_makeAmount_423 : decode cX8_makeAmount 423 = .ok (.if_icmp .ne 8, 3) := by decide +kernel
theorem dX8_makeAmount_426 : decode cX8_makeAmount 426 = .ok (.bipush 45, 2) := by decide +kernel
theorem dX8_makeAmount_428 : decode cX8_makeAmount 428 = .ok (.goto 5, 3) := by decide +kernel
theorem dX8_makeAmount_431 : decode cX8_makeAmount 431 = .ok (.bipush 41, 2) := by decide +kernel
theorem dX8_makeAmount_433 : decode cX8_makeAmount 433 = .ok (.invokevirtual 190, 3) := by decide +kernel
theorem dX8_makeAmount_436 : decode cX8_makeAmount 436 = .ok (.iconst 1, 1) := by decide +kernel
theorem dX8_makeAmount_437 : decode cX8_makeAmount 437 = .ok (.ireturn, 1) := by decide +kernel
theorem dX8_makeDay_0 : decode cX8_makeDay 0 = .ok (.lload_n 2, 1) := by decide +kernel
theorem dX8_makeDay_1 : decode cX8_makeDay 1 = .ok (.lconst 0, 1) := by decide +kernel
theorem dX8_makeDay_2 : decode cX8_makeDay 2 = .ok (.lcmp, 1) := by decide +kernel
theorem dX8_makeDay_3 : decode cX8_makeDay 3 = .ok (.ifCond .lt 18, 3) := by decide +kernel
theorem dX8_makeDay_6 : decode cX8_makeDay 6 = .ok (.lload_n 2, 1) := by decide +kernel
theorem dX8_makeDay_7 : decode cX8_makeDay 7 = .ok (.bipush 31, 2) := by decide +kernel
theorem dX8_makeDay_9 : decode cX8_makeDay 9 = .ok (.bipush 12, 2) := by decide +kernel
theorem dX8_makeDay_11 : decode cX8_makeDay 11 = .ok (.sipush 9999, 3) := by decide +kernel
theorem dX8_makeDay_14 : decode cX8_makeDay 14 = .ok (.invokestatic 163, 3) := by decide +kernel
theorem dX8_makeDay_17 : decode cX8_makeDay 17 = .ok (.lcmp, 1) := by decide +kernel
theorem dX8_makeDay_18 : decode cX8_makeDay 18 = .ok (.ifCond .le 5, 3) := by decide +kernel
theorem dX8_makeDay_21 : decode cX8_makeDay 21 = .ok (.iconst 0, 1) := by decide +kernel
theorem dX8_makeDay_22 : decode cX8_makeDay 22 = .ok (.ireturn, 1) := by decide +kernel
theorem dX8_makeDay_23 : decode cX8_makeDay 23 = .ok (.lload_n 2, 1) := by decide +kernel
theorem dX8_makeDay_24 : decode cX8_makeDay 24 = .ok (.ldc2_w 203, 3) := by decide +kernel
theorem dX8_makeDay_27 : decode cX8_makeDay 27 = .ok (.ldiv, 1) := by decide +kernel
theorem dX8_makeDay_28 : decode cX8_makeDay 28 = .ok (.l2i, 1) := by decide +kernel
theorem dX8_makeDay_29 : decode cX8_makeDay 29 = .ok (.iconst 1, 1) := by decide +kernel
theorem dX8_makeDay_30 : decode cX8_makeDay 30 = .ok (.iadd, 1) := by decide +kernel
theorem dX8_makeDay_31 : decode cX8_makeDay 31 = .ok (.istore 4, 2) := by decide +kernel
theorem dX8_makeDay_33 : decode cX8_makeDay 33 = .ok (.iload 4, 2) := by decide +kernel
theorem dX8_makeDay_35 : decode cX8_makeDay 35 = .ok (.sipush 9999, 3) := by decide +kernel
theorem dX8_makeDay_38 : decode cX8_makeDay 38 = .ok (.if_icmp .ge 23, 3) := by decide +kernel
theorem dX8_makeDay_41 : decode cX8_makeDay 41 = .ok (.iconst 1, 1) := by decide +kernel
theorem dX8_makeDay_42 : decode cX8_makeDay 42 = .ok (.iconst 1, 1) := by decide +kernel
theorem dX8_makeDay_43 : decode cX8_makeDay 43 = .ok (.iload 4, 2) := by decide +kernel
theorem dX8_makeDay_45 : decode cX8_makeDay 45 = .ok (.iconst 1, 1) := by decide +kernel
theorem dX8_makeDay_46 : decode cX8_makeDay 46 = .ok (.iadd, 1) := by decide +kernel
theorem dX8_makeDay_47 : decode cX8_makeDay 47 = .ok (.invokestatic 163, 3) := by decide +kernel
theorem dX8_makeDay_50 : decode cX8_makeDay 50 = .ok (.lload_n 2, 1) := by decide +kernel
theorem dX8_makeDay_51 : decode cX8_makeDay 51 = .ok (.lcmp, 1) := by decide +kernel
theorem dX8_makeDay_52 : decode cX8_makeDay 52 = .ok (.ifCond .gt 9, 3) := by decide +kernel
theorem dX8_makeDay_55 : decode cX8_makeDay 55 = .ok (.iinc 4 1, 3) := by decide +kernel
theorem dX8_makeDay_58 : decode cX8_makeDay 58 = .ok (.goto (-25), 3) := by decide +kernel
theorem dX8_makeDay_61 : decode cX8_makeDay 61 = .ok (.iconst 1, 1) := by decide +kernel
theorem dX8_makeDay_62 : decode cX8_makeDay 62 = .ok (.istore 5, 2) := by decide +kernel
theorem dX8_makeDay_64 : decode cX8_makeDay 64 = .ok (.iload 5, 2) := by decide +kernel
theorem dX8_makeDay_66 : decode cX8_makeDay 66 = .ok (.bipush 12, 2) := by decide +kernel
theorem dX8_makeDay_68 : decode cX8_makeDay 68 = .ok (.if_icmp .ge 24, 3) := by decide +kernel
theorem dX8_makeDay_71 : decode cX8_makeDay 71 = .ok (.iconst 1, 1) := by decide +kernel
theorem dX8_makeDay_72 : decode cX8_makeDay 72 = .ok (.iload 5, 2) := by decide +kernel
theorem dX8_makeDay_74 : decode cX8_makeDay 74 = .ok (.iconst 1, 1) := by decide +kernel
theorem dX8_makeDay_75 : decode cX8_makeDay 75 = .ok (.iadd, 1) := by decide +kernel
theorem dX8_makeDay_76 : decode cX8_makeDay 76 = .ok (.iload 4, 2) := by decide +kernel
theorem dX8_makeDay_78 : decode cX8_makeDay 78 = .ok (.invokestatic 163, 3) := by decide +kernel
theorem dX8_makeDay_81 : decode cX8_makeDay 81 = .ok (.lload_n 2, 1) := by decide +kernel
theorem dX8_makeDay_82 : decode cX8_makeDay 82 = .ok (.lcmp, 1) := by decide +kernel
theorem dX8_makeDay_83 : decode cX8_makeDay 83 = .ok (.ifCond .gt 9, 3) := by decide +kernel
theorem dX8_makeDay_86 : decode cX8_makeDay 86 = .ok (.iinc 5 1, 3) := by decide +kernel
theorem dX8_makeDay_89 : decode cX8_makeDay 89 = .ok (.goto (-25), 3) := by decide +kernel
theorem dX8_makeDay_92 : decode cX8_makeDay 92 = .ok (.lload_n 2, 1) := by decide +kernel
theorem dX8_makeDay_93 : decode cX8_makeDay 93 = .ok (.iconst 1, 1) := by decide +kernel
theorem dX8_makeDay_94 : decode cX8_makeDay 94 = .ok (.iload 5, 2) := by decide +kernel
theorem dX8_makeDay_96 : decode cX8_makeDay 96 = .ok (.iload 4, 2) := by decide +kernel
theorem dX8_makeDay_98 : decode cX8_makeDay 98 = .ok (.invokestatic 163, 3) := by decide +kernel
theorem dX8_makeDay_101 : decode cX8_makeDay 101 = .ok (.lsub, 1) := by decide +kernel
theorem dX8_makeDay_102 : decode cX8_makeDay 102 = .ok (.l2i, 1) := by decide +kernel
theorem dX8_makeDay_103 : decode cX8_makeDay 103 = .ok (.iconst 1, 1) := by decide +kernel
theorem dX8_makeDay_104 : decode cX8_makeDay 104 = .ok (.iadd, 1) := by decide +kernel
theorem dX8_makeDay_105 : decode cX8_makeDay 105 = .ok (.istore 6, 2) := by decide +kernel
theorem dX8_makeDay_107 : decode cX8_makeDay 107 = .ok (.aload_n 0, 1) := by decide +kernel
theorem dX8_makeDay_108 : decode cX8_makeDay 108 = .ok (.getfield 32, 3) := by decide +kernel
theorem dX8_makeDay_111 : decode cX8_makeDay 111 = .ok (.iload_n 1, 1) := by decide +kernel
theorem dX8_makeDay_112 : decode cX8_makeDay 112 = .ok (.iaload, 1) := by decide +kernel
theorem dX8_makeDay_113 : decode cX8_makeDay 113 = .ok (.iconst 2, 1) := by decide +kernel
theorem dX8_makeDay_114 : decode cX8_makeDay 114 = .ok (.if_icmp .ne 46, 3) := by decide +kernel
theorem dX8_makeDay_117 : decode cX8_makeDay 117 = .ok (.aload_n 0, 1) := by decide +kernel
theorem dX8_makeDay_118 : decode cX8_makeDay 118 = .ok (.iload 4, 2) := by decide +kernel
theorem dX8_makeDay_120 : decode cX8_makeDay 120 = .ok (.iconst 4, 1) := by decide +kernel
theorem dX8_makeDay_121 : decode cX8_makeDay 121 = .ok (.invokevirtual 205, 3) := by decide +kernel
theorem dX8_makeDay_124 : decode cX8_makeDay 124 = .ok (.aload_n 0, 1) := by decide +kernel
theorem dX8_makeDay_125 : decode cX8_makeDay 125 = .ok (.aload_n 0, 1) := by decide +kernel
theorem dX8_makeDay_126 : decode cX8_makeDay 126 = .ok (.getfield 35, 3) := by decide +kernel
theorem dX8_makeDay_129 : decode cX8_makeDay 129 = .ok (.iload_n 1, 1) := by decide +kernel
theorem dX8_makeDay_130 : decode cX8_makeDay 130 = .ok (.iaload, 1) := by decide +kernel
theorem dX8_makeDay_131 : decode cX8_makeDay 131 = .ok (.invokevirtual 190, 3) := by decide +kernel
theorem dX8_makeDay_134 : decode cX8_makeDay 134 = .ok (.aload_n 0, 1) := by decide +kernel
theorem dX8_makeDay_135 : decode cX8_makeDay 135 = .ok (.iload 5, 2) := by decide +kernel
theorem dX8_makeDay_137 : decode cX8_makeDay 137 = .ok (.iconst 2, 1) := by decide +kernel
theorem dX8_makeDay_138 : decode cX8_makeDay 138 = .ok (.invokevirtual 205, 3) := by decide +kernel
theorem dX8_makeDay_141 : decode cX8_makeDay 141 = .ok (.aload_n 0, 1) := by decide +kernel
theorem dX8_makeDay_142 : decode cX8_makeDay 142 = .ok (.aload_n 0, 1) := by decide +kernel
theorem dX8_makeDay_143 : decode cX8_makeDay 143 = .ok (.getfield 35, 3) := by decide +kernel
theorem dX8_makeDay_146 : decode cX8_makeDay 146 = .ok (.iload_n 1, 1) := by decide +kernel
theorem dX8_makeDay_147 : decode cX8_makeDay 147 = .ok (.iaload, 1) := by decide +kernel
theorem dX8_makeDay_148 : decode cX8_makeDay 148 = .ok (.invokevirtual 190, 3) := by decide +kernel
theorem dX8_makeDay_151 : decode cX8_makeDay 151 = .ok (.aload_n 0, 1) := by decide +kernel
theorem dX8_makeDay_152 : decode cX8_makeDay 152 = .ok (.iload 6, 2) := by decide +kernel
theorem dX8_makeDay_154 : decode cX8_makeDay 154 = .ok (.iconst 2, 1) := by decide +kernel
theorem dX8_makeDay_155 : decode cX8_makeDay 155 = .ok (.invokevirtual 205, 3) := by decide +kernel
theorem dX8_makeDay_158 : decode cX8_makeDay 158 = .ok (.iconst 1, 1) := by decide +kernel
theorem dX8_makeDay_159 : decode cX8_makeDay 159 = .ok (.ireturn, 1) := by decide +kernel
theorem dX8_makeDay_160 : decode cX8_makeDay 160 = .ok (.aload_n 0, 1) := by decide +kernel
theorem dX8_makeDay_161 : decode cX8_makeDay 161 = .ok (.aload_n 0, 1) := by decide +kernel
theorem dX8_makeDay_162 : decode cX8_makeDay 162 = .ok (.getfield 32, 3) := by decide +kernel
theorem dX8_makeDay_165 : decode cX8_makeDay 165 = .ok (.iload_n 1, 1) := by decide +kernel
theorem dX8_makeDay_166 : decode cX8_makeDay 166 = .ok (.iaload, 1) := by decide +kernel
theorem dX8_makeDay_167 : decode cX8_makeDay 167 = .ok (.ifCond .ne 8, 3) := by decide +kernel
theorem dX8_makeDay_170 : decode cX8_makeDay 170 = .ok (.iload 6, 2) := by decide +kernel
theorem dX8_makeDay_172 : decode cX8_makeDay 172 = .ok (.goto 5, 3) := by decide +kernel
theorem dX8_makeDay_175 : decode cX8_makeDay 175 = .ok (.iload 5, 2) := by decide +kernel
theorem dX8_makeDay_177 : decode cX8_makeDay 177 = .ok (.iconst 2, 1) := by decide +kernel
theorem dX8_makeDay_178 : decode cX8_makeDay 178 = .ok (.invokevirtual 205, 3) := by decide +kernel
theorem dX8_makeDay_181 : decode cX8_makeDay 181 = .ok (.aload_n 0, 1) := by decide +kernel
theorem dX8_makeDay_182 : decode cX8_makeDay 182 = .ok (.aload_n 0, 1) := by decide +kernel
theorem dX8_makeDay_183 : decode cX8_makeDay 183 = .ok (.getfield 35, 3) := by decide +kernel
theorem dX8_makeDay_186 : decode cX8_makeDay 186 = .ok (.iload_n 1, 1) := by decide +kernel
theorem dX8_makeDay_187 : decode cX8_makeDay 187 = .ok (.iaload, 1) := by decide +kernel
theorem dX8_makeDay_188 : decode cX8_makeDay 188 = .ok (.invokevirtual 190, 3) := by decide +kernel
theorem dX8_makeDay_191 : decode cX8_makeDay 191 = .ok (.aload_n 0, 1) := by decide +kernel
theorem dX8_makeDay_192 : decode cX8_makeDay 192 = .ok (.aload_n 0, 1) := by decide +kernel
theorem dX8_makeDay_193 : decode cX8_makeDay 193 = .ok (.getfield 32, 3) := by decide +kernel
theorem dX8_makeDay_196 : decode cX8_makeDay 196 = .ok (.iload_n 1, 1) := by decide +kernel
theorem dX8_makeDay_197 : decode cX8_makeDay 197 = .ok (.iaload, 1) := by decide +kernel
theorem dX8_makeDay_198 : decode cX8_makeDay 198 = .ok (.ifCond .ne 8, 3) := by decide +kernel
theorem dX8_makeDay_201 : decode cX8_makeDay 201 = .ok (.iload 5, 2) := by decide +kernel
theorem dX8_makeDay_203 : decode cX8_makeDay 203 = .ok (.goto 5, 3) := by decide +kernel
theorem dX8_makeDay_206 : decode cX8_makeDay 206 = .ok (.iload 6, 2) := by decide +kernel
theorem dX8_makeDay_208 : decode cX8_makeDay 208 = .ok (.iconst 2, 1) := by decide +kernel
theorem dX8_makeDay_209 : decode cX8_makeDay 209 = .ok (.invokevirtual 205, 3) := by decide +kernel
theorem dX8_makeDay_212 : decode cX8_makeDay 212 = .ok (.aload_n 0, 1) := by decide +kernel
theorem dX8_makeDay_213 : decode cX8_makeDay 213 = .ok (.aload_n 0, 1) := by decide +kernel
theorem dX8_makeDay_214 : decode cX8_makeDay 214 = .ok (.getfield 35, 3) := by decide +kernel
theorem dX8_makeDay_217 : decode cX8_makeDay 217 = .ok (.iload_n 1, 1) := by decide +kernel
theorem dX8_makeDay_218 : decode cX8_makeDay 218 = .ok (.iaload, 1) := by decide +kernel
theorem dX8_makeDay_219 : decode cX8_makeDay 219 = .ok (.invokevirtual 190, 3) := by decide +kernel
theorem dX8_makeDay_222 : decode cX8_makeDay 222 = .ok (.aload_n 0, 1) := by decide +kernel
theorem dX8_makeDay_223 : decode cX8_makeDay 223 = .ok (.iload 4, 2) := by decide +kernel
theorem dX8_makeDay_225 : decode cX8_makeDay 225 = .ok (.iconst 4, 1) := by decide +kernel
theorem dX8_makeDay_226 : decode cX8_makeDay 226 = .ok (.invokevirtual 205, 3) := by decide +kernel
theorem dX8_makeDay_229 : decode cX8_makeDay 229 = .ok (.iconst 1, 1) := by decide +kernel
theorem dX8_makeDay_230 : decode cX8_makeDay 230 = .ok (.ireturn, 1) := by decide +kernel
theorem dX8_make_0 : decode cX8_make 0 = .ok (.aload_n 0, 1) := by decide +kernel
theorem dX8_make_1 : decode cX8_make 1 = .ok (.iconst 0, 1) := by decide +kernel
theorem dX8_make_2 : decode cX8_make 2 = .ok (.putfield 187, 3) := by decide +kernel
theorem dX8_make_5 : decode cX8_make 5 = .ok (.aload_n 0, 1) := by decide +kernel
theorem dX8_make_6 : decode cX8_make 6 = .ok (.iload_n 1, 1) := by decide +kernel
theorem dX8_make_7 : decode cX8_make 7 = .ok (.invokevirtual 178, 3) := by decide +kernel
theorem dX8_make_10 : decode cX8_make 10 = .ok (.ifCond .eq 45, 3) := by decide +kernel
theorem dX8_make_13 : decode cX8_make 13 = .ok (.iload_n 2, 1) := by decide +kernel
theorem dX8_make_14 : decode cX8_make 14 = .ok (.iconst 0, 1) := by decide +kernel
theorem dX8_make_15 : decode cX8_make 15 = .ok (.iconst 2, 1) := by decide +kernel
theorem dX8_make_16 : decode cX8_make 16 = .ok (.invokestatic 94, 3) := by decide +kernel
theorem dX8_make_19 : decode cX8_make 19 = .ok (.ifCond .eq 36, 3) := by decide +kernel
theorem dX8_make_22 : decode cX8_make 22 = .ok (.iload_n 2, 1) := by decide +kernel
theorem dX8_make_23 : decode cX8_make 23 = .ok (.iconst 2, 1) := by decide +kernel
theorem dX8_make_24 : decode cX8_make 24 = .ok (.if_icmp .ne 15, 3) := by decide +kernel
theorem dX8_make_27 : decode cX8_make 27 = .ok (.aload_n 0, 1) := by decide +kernel
theorem dX8_make_28 : decode cX8_make 28 = .ok (.iload_n 1, 1) := by decide +kernel
theorem dX8_make_29 : decode cX8_make 29 = .ok (.lload_n 3, 1) := by decide +kernel
theorem dX8_make_30 : decode cX8_make 30 = .ok (.invokevirtual 208, 3) := by decide +kernel
theorem dX8_make_33 : decode cX8_make 33 = .ok (.ifCond .eq 22, 3) := by decide +kernel
theorem dX8_make_36 : decode cX8_make 36 = .ok (.goto 15, 3) := by decide +kernel
theorem dX8_make_39 : decode cX8_make 39 = .ok (.aload_n 0, 1) := by decide +kernel
theorem dX8_make_40 : decode cX8_make 40 = .ok (.iload_n 1, 1) := by decide +kernel
theorem dX8_make_41 : decode cX8_make 41 = .ok (.iload_n 2, 1) := by decide +kernel
theorem dX8_make_42 : decode cX8_make 42 = .ok (.lload_n 3, 1) := by decide +kernel
theorem dX8_make_43 : decode cX8_make 43 = .ok (.iload 5, 2) := by decide +kernel
theorem dX8_make_45 : decode cX8_make 45 = .ok (.invokevirtual 212, 3) := by decide +kernel
theorem dX8_make_48 : decode cX8_make 48 = .ok (.ifCond .eq 7, 3) := by decide +kernel
theorem dX8_make_51 : decode cX8_make 51 = .ok (.iconst 1, 1) := by decide +kernel
theorem dX8_make_52 : decode cX8_make 52 = .ok (.goto 4, 3) := by decide +kernel
theorem dX8_make_55 : decode cX8_make 55 = .ok (.iconst 0, 1) := by decide +kernel
theorem dX8_make_56 : decode cX8_make 56 = .ok (.ireturn, 1) := by decide +kernel
theorem dX8_keep_0 : decode cX8_keep 0 = .ok (.aload_n 0, 1) := by decide +kernel
theorem dX8_keep_1 : decode cX8_keep 1 = .ok (.getfield 61, 3) := by decide +kernel
theorem dX8_keep_4 : decode cX8_keep 4 = .ok (.iconst 0, 1) := by decide +kernel
theorem dX8_keep_5 : decode cX8_keep 5 = .ok (.aload_n 0, 1) := by decide +kernel
theorem dX8_keep_6 : decode cX8_keep 6 = .ok (.getfield 187, 3) := by decide +kernel
theorem dX8_keep_9 : decode cX8_keep 9 = .ok (.iastore, 1) := by decide +kernel
theorem dX8_keep_10 : decode cX8_keep 10 = .ok (.iconst 0, 1) := by decide +kernel
theorem dX8_keep_11 : decode cX8_keep 11 = .ok (.istore_n 1, 1) := by decide +kernel
theorem dX8_keep_12 : decode cX8_keep 12 = .ok (.iload_n 1, 1) := by decide +kernel
theorem dX8_keep_13 : decode cX8_keep 13 = .ok (.aload_n 0, 1) := by decide +kernel
theorem dX8_keep_14 : decode cX8_keep 14 = .ok (.getfield 187, 3) := by decide +kernel
theorem dX8_keep_17 : decode cX8_keep 17 = .ok (.if_icmp .ge 21, 3) := by decide +kernel
theorem dX8_keep_20 : decode cX8_keep 20 = .ok (.aload_n 0, 1) := by decide +kernel
theorem dX8_keep_21 : decode cX8_keep 21 = .ok (.getfield 64, 3) := by decide +kernel
theorem dX8_keep_24 : decode cX8_keep 24 = .ok (.iload_n 1, 1) := by decide +kernel
theorem dX8_keep_25 : decode cX8_keep 25 = .ok (.aload_n 0, 1) := by decide +kernel
theorem dX8_keep_26 : decode cX8_keep 26 = .ok (.getfield 76, 3) := by decide +kernel
theorem dX8_keep_29 : decode cX8_keep 29 = .ok (.iload_n 1, 1) := by decide +kernel
theorem dX8_keep_30 : decode cX8_keep 30 = .ok (.iaload, 1) := by decide +kernel
theorem dX8_keep_31 : decode cX8_keep 31 = .ok (.iastore, 1) := by decide +kernel
theorem dX8_keep_32 : decode cX8_keep 32 = .ok (.iinc 1 1, 3) := by decide +kernel
theorem dX8_keep_35 : decode cX8_keep 35 = .ok (.goto (-23), 3) := by decide +kernel
theorem dX8_keep_38 : decode cX8_keep 38 = .ok (.aload_n 0, 1) := by decide +kernel
theorem dX8_keep_39 : decode cX8_keep 39 = .ok (.getfield 187, 3) := by decide +kernel
theorem dX8_keep_42 : decode cX8_keep 42 = .ok (.ireturn, 1) := by decide +kernel
theorem dX8_show_0 : decode cX8_show 0 = .ok (.aload_n 0, 1) := by decide +kernel
theorem dX8_show_1 : decode cX8_show 1 = .ok (.iconst 0, 1) := by decide +kernel
theorem dX8_show_2 : decode cX8_show 2 = .ok (.putfield 86, 3) := by decide +kernel
theorem dX8_show_5 : decode cX8_show 5 = .ok (.aload_n 0, 1) := by decide +kernel
theorem dX8_show_6 : decode cX8_show 6 = .ok (.iload_n 1, 1) := by decide +kernel
theorem dX8_show_7 : decode cX8_show 7 = .ok (.iload_n 2, 1) := by decide +kernel
theorem dX8_show_8 : decode cX8_show 8 = .ok (.lload_n 3, 1) := by decide +kernel
theorem dX8_show_9 : decode cX8_show 9 = .ok (.iload 5, 2) := by decide +kernel
theorem dX8_show_11 : decode cX8_show 11 = .ok (.invokevirtual 216, 3) := by decide +kernel
theorem dX8_show_14 : decode cX8_show 14 = .ok (.ifCond .eq 10, 3) := by decide +kernel
theorem dX8_show_17 : decode cX8_show 17 = .ok (.aload_n 0, 1) := by decide +kernel
theorem dX8_show_18 : decode cX8_show 18 = .ok (.invokevirtual 219, 3) := by decide +kernel
theorem dX8_show_21 : decode cX8_show 21 = .ok (.goto 4, 3) := by decide +kernel
theorem dX8_show_24 : decode cX8_show 24 = .ok (.iconst (-1), 1) := by decide +kernel
theorem dX8_show_25 : decode cX8_show 25 = .ok (.ireturn, 1) := by decide +kernel
theorem dX8_sayWord_0 : decode cX8_sayWord 0 = .ok (.aload_n 0, 1) := by decide +kernel
theorem dX8_sayWord_1 : decode cX8_sayWord 1 = .ok (.getfield 187, 3) := by decide +kernel
theorem dX8_sayWord_4 : decode cX8_sayWord 4 = .ok (.ifCond .le 9, 3) := by decide +kernel
theorem dX8_sayWord_7 : decode cX8_sayWord 7 = .ok (.aload_n 0, 1) := by decide +kernel
theorem dX8_sayWord_8 : decode cX8_sayWord 8 = .ok (.bipush 32, 2) := by decide +kernel
theorem dX8_sayWord_10 : decode cX8_sayWord 10 = .ok (.invokevirtual 190, 3) := by decide +kernel
theorem dX8_sayWord_13 : decode cX8_sayWord 13 = .ok (.bipush 56, 2) := by decide +kernel
theorem dX8_sayWord_15 : decode cX8_sayWord 15 = .ok (.istore_n 3, 1) := by decide +kernel
theorem dX8_sayWord_16 : decode cX8_sayWord 16 = .ok (.iload_n 3, 1) := by decide +kernel
theorem dX8_sayWord_17 : decode cX8_sayWord 17 = .ok (.ifCond .lt 30, 3) := by decide +kernel
theorem dX8_sayWord_20 : decode cX8_sayWord 20 = .ok (.lload_n 1, 1) := by decide +kernel
theorem dX8_sayWord_21 : decode cX8_sayWord 21 = .ok (.iload_n 3, 1) := by decide +kernel
theorem dX8_sayWord_22 : decode cX8_sayWord 22 = .ok (.lshr, 1) := by decide +kernel
theorem dX8_sayWord_23 : decode cX8_sayWord 23 = .ok (.ldc2_w 223, 3) := by decide +kernel
theorem dX8_sayWord_26 : decode cX8_sayWord 26 = .ok (.land, 1) := by decide +kernel
theorem dX8_sayWord_27 : decode cX8_sayWord 27 = .ok (.l2i, 1) := by decide +kernel
theorem dX8_sayWord_28 : decode cX8_sayWord 28 = .ok (.istore 4, 2) := by decide +kernel
theorem dX8_sayWord_30 : decode cX8_sayWord 30 = .ok (.iload 4, 2) := by decide +kernel
theorem dX8_sayWord_32 : decode cX8_sayWord 32 = .ok (.ifCond .eq 9, 3) := by decide +kernel
theorem dX8_sayWord_35 : decode cX8_sayWord 35 = .ok (.aload_n 0, 1) := by decide +kernel
theorem dX8_sayWord_36 : decode cX8_sayWord 36 = .ok (.iload 4, 2) := by decide +kernel
theorem dX8_sayWord_38 : decode cX8_sayWord 38 = .ok (.invokevirtual 190, 3) := by decide +kernel
theorem dX8_sayWord_41 : decode cX8_sayWord 41 = .ok (.iinc 3 (-8), 3) := by decide +kernel
theorem dX8_sayWord_44 : decode cX8_sayWord 44 = .ok (.goto (-28), 3) := by decide +kernel
theorem dX8_sayWord_47 : decode cX8_sayWord 47 = .ok (.return_, 1) := by decide +kernel
theorem dX8_sayBelow20_0 : decode cX8_sayBelow20 0 = .ok (.iload_n 1, 1) := by decide +kernel
theorem dX8_sayBelow20_1 : decode cX8_sayBelow20 1 = .ok (.tableswitch 287 1 19 #[91, 101, 111, 121, 131, 141, 151, 161, 171, 181, 191, 201, 211, 221, 231, 241, 251, 267, 277], 91) := by decide +kernel
theorem dX8_sayBelow20_92 : decode cX8_sayBelow20 92 = .ok (.aload_n 0, 1) := by decide +kernel
theorem dX8_sayBelow20_93 : decode cX8_sayBelow20 93 = .ok (.ldc2_w 225, 3) := by decide +kernel
theorem dX8_sayBelow20_96 : decode cX8_sayBelow20 96 = .ok (.invokevirtual 227, 3) := by decide +kernel
theorem dX8_sayBelow20_99 : decode cX8_sayBelow20 99 = .ok (.goto 189, 3) := by decide +kernel
theorem dX8_sayBelow20_102 : decode cX8_sayBelow20 102 = .ok (.aload_n 0, 1) := by decide +kernel
theorem dX8_sayBelow20_103 : decode cX8_sayBelow20 103 = .ok (.ldc2_w 231, 3) := by decide +kernel
theorem dX8_sayBelow20_106 : decode cX8_sayBelow20 106 = .ok (.invokevirtual 227, 3) := by decide +kernel
theorem dX8_sayBelow20_109 : decode cX8_sayBelow20 109 = .ok (.goto 179, 3) := by decide +kernel
theorem dX8_sayBelow20_112 : decode cX8_sayBelow20 112 = .ok (.aload_n 0, 1) := by decide +kernel
theorem dX8_sayBelow20_113 : decode cX8_sayBelow20 113 = .ok (.ldc2_w 233, 3) := by decide +kernel
theorem dX8_sayBelow20_116 : decode cX8_sayBelow20 116 = .ok (.invokevirtual 227, 3) := by decide +kernel
theorem dX8_sayBelow20_119 : decode cX8_sayBelow20 119 = .ok (.goto 169, 3) := by decide +kernel
theorem dX8_sayBelow20_122 : decode cX8_sayBelow20 122 = .ok (.aload_n 0, 1) := by decide +kernel
theorem dX8_sayBelow20_123 : decode cX8_sayBelow20 123 = .ok (.ldc2_w 235, 3) := by decide +kernel
theorem dX8_sayBelow20_126 : decode cX8_sayBelow20 126 = .ok (.invokevirtual 227, 3) := by decide +kernel
theorem dX8_sayBelow20_129 : decode cX8_sayBelow20 129 = .ok (.goto 159, 3) := by decide +kernel
theorem dX8_sayBelow20_132 : decode cX8_sayBelow20 132 = .ok (.aload_n 0, 1) := by decide +kernel
theorem dX8_sayBelow20_133 : decode cX8_sayBelow20 133 = .ok (.ldc2_w 237, 3) := by decide +kernel
theorem dX8_sayBelow20_136 : decode cX8_sayBelow20 136 = .ok (.invokevirtual 227, 3) := by decide +kernel
theorem dX8_sayBelow20_139 : decode cX8_sayBelow20 139 = .ok (.goto 149, 3) := by decide +kernel
theorem dX8_sayBelow20_142 : decode cX8_sayBelow20 142 = .ok (.aload_n 0, 1) := by decide +kernel
theorem dX8_sayBelow20_143 : decode cX8_sayBelow20 143 = .ok (.ldc2_w 239, 3) := by decide +kernel
theorem dX8_sayBelow20_146 : decode cX8_sayBelow20 146 = .ok (.invokevirtual 227, 3) := by decide +kernel
theorem dX8_sayBelow20_149 : decode cX8_sayBelow20 149 = .ok (.goto 139, 3) := by decide +kernel
theorem dX8_sayBelow20_152 : decode cX8_sayBelow20 152 = .ok (.aload_n 0, 1) := by decide +kernel
theorem dX8_sayBelow20_153 : decode cX8_sayBelow20 153 = .ok (.ldc2_w 241, 3) := by decide +kernel
theorem dX8_sayBelow20_156 : decode cX8_sayBelow20 156 = .ok (.invokevirtual 227, 3) := by decide +kernel
theorem dX8_sayBelow20_159 : decode cX8_sayBelow20 159 = .ok (.goto 129, 3) := by decide +kernel
theorem dX8_sayBelow20_162 : decode cX8_sayBelow20 162 = .ok (.aload_n 0, 1) := by decide +kernel
theorem dX8_sayBelow20_163 : decode cX8_sayBelow20 163 = .ok (.ldc2_w 243, 3) := by decide +kernel
theorem dX8_sayBelow20_166 : decode cX8_sayBelow20 166 = .ok (.invokevirtual 227, 3) := by decide +kernel
theorem dX8_sayBelow20_169 : decode cX8_sayBelow20 169 = .ok (.goto 119, 3) := by decide +kernel
theorem dX8_sayBelow20_172 : decode cX8_sayBelow20 172 = .ok (.aload_n 0, 1) := by decide +kernel
theorem dX8_sayBelow20_173 : decode cX8_sayBelow20 173 = .ok (.ldc2_w 245, 3) := by decide +kernel
theorem dX8_sayBelow20_176 : decode cX8_sayBelow20 176 = .ok (.invokevirtual 227, 3) := by decide +kernel
theorem dX8_sayBelow20_179 : decode cX8_sayBelow20 179 = .ok (.goto 109, 3) := by decide +kernel
theorem dX8_sayBelow20_182 : decode cX8_sayBelow20 182 = .ok (.aload_n 0, 1) := by decide +kernel
theorem dX8_sayBelow20_183 : decode cX8_sayBelow20 183 = .ok (.ldc2_w 247, 3) := by decide +kernel
theorem dX8_sayBelow20_186 : decode cX8_sayBelow20 186 = .ok (.invokevirtual 227, 3) := by decide +kernel
theorem dX8_sayBelow20_189 : decode cX8_sayBelow20 189 = .ok (.goto 99, 3) := by decide +kernel
theorem dX8_sayBelow20_192 : decode cX8_sayBelow20 192 = .ok (.aload_n 0, 1) := by decide +kernel
theorem dX8_sayBelow20_193 : decode cX8_sayBelow20 193 = .ok (.ldc2_w 249, 3) := by decide +kernel
theorem dX8_sayBelow20_196 : decode cX8_sayBelow20 196 = .ok (.invokevirtual 227, 3) := by decide +kernel
theorem dX8_sayBelow20_199 : decode cX8_sayBelow20 199 = .ok (.goto 89, 3) := by decide +kernel
theorem dX8_sayBelow20_202 : decode cX8_sayBelow20 202 = .ok (.aload_n 0, 1) := by decide +kernel
theorem dX8_sayBelow20_203 : decode cX8_sayBelow20 203 = .ok (.ldc2_w 251, 3) := by decide +kernel
theorem dX8_sayBelow20_206 : decode cX8_sayBelow20 206 = .ok (.invokevirtual 227, 3) := by decide +kernel
theorem dX8_sayBelow20_209 : decode cX8_sayBelow20 209 = .ok (.goto 79, 3) := by decide +kernel
theorem dX8_sayBelow20_212 : decode cX8_sayBelow20 212 = .ok (.aload_n 0, 1) := by decide +kernel
theorem dX8_sayBelow20_213 : decode cX8_sayBelow20 213 = .ok (.ldc2_w 253, 3) := by decide +kernel
theorem dX8_sayBelow20_216 : decode cX8_sayBelow20 216 = .ok (.invokevirtual 227, 3) := by decide +kernel
theorem dX8_sayBelow20_219 : decode cX8_sayBelow20 219 = .ok (.goto 69, 3) := by decide +kernel
theorem dX8_sayBelow20_222 : decode cX8_sayBelow20 222 = .ok (.aload_n 0, 1) := by decide +kernel
theorem dX8_sayBelow20_223 : decode cX8_sayBelow20 223 = .ok (.ldc2_w 255, 3) := by decide +kernel
theorem dX8_sayBelow20_226 : decode cX8_sayBelow20 226 = .ok (.invokevirtual 227, 3) := by decide +kernel
theorem dX8_sayBelow20_229 : decode cX8_sayBelow20 229 = .ok (.goto 59, 3) := by decide +kernel
theorem dX8_sayBelow20_232 : decode cX8_sayBelow20 232 = .ok (.aload_n 0, 1) := by decide +kernel
theorem dX8_sayBelow20_233 : decode cX8_sayBelow20 233 = .ok (.ldc2_w 257, 3) := by decide +kernel
theorem dX8_sayBelow20_236 : decode cX8_sayBelow20 236 = .ok (.invokevirtual 227, 3) := by decide +kernel
theorem dX8_sayBelow20_239 : decode cX8_sayBelow20 239 = .ok (.goto 49, 3) := by decide +kernel
theorem dX8_sayBelow20_242 : decode cX8_sayBelow20 242 = .ok (.aload_n 0, 1) := by decide +kernel
theorem dX8_sayBelow20_243 : decode cX8_sayBelow20 243 = .ok (.ldc2_w 259, 3) := by decide +kernel
theorem dX8_sayBelow20_246 : decode cX8_sayBelow20 246 = .ok (.invokevirtual 227, 3) := by decide +kernel
theorem dX8_sayBelow20_249 : decode cX8_sayBelow20 249 = .ok (.goto 39, 3) := by decide +kernel
theorem dX8_sayBelow20_252 : decode cX8_sayBelow20 252 = .ok (.aload_n 0, 1) := by decide +kernel
theorem dX8_sayBelow20_253 : decode cX8_sayBelow20 253 = .ok (.ldc2_w 261, 3) := by decide +kernel
theorem dX8_sayBelow20_256 : decode cX8_sayBelow20 256 = .ok (.invokevirtual 227, 3) := by decide +kernel
theorem dX8_sayBelow20_259 : decode cX8_sayBelow20 259 = .ok (.aload_n 0, 1) := by decide +kernel
theorem dX8_sayBelow20_260 : decode cX8_sayBelow20 260 = .ok (.bipush 110, 2) := by decide +kernel
theorem dX8_sayBelow20_262 : decode cX8_sayBelow20 262 = .ok (.invokevirtual 190, 3) := by decide +kernel
theorem dX8_sayBelow20_265 : decode cX8_sayBelow20 265 = .ok (.goto 23, 3) := by decide +kernel
theorem dX8_sayBelow20_268 : decode cX8_sayBelow20 268 = .ok (.aload_n 0, 1) := by decide +kernel
theorem dX8_sayBelow20_269 : decode cX8_sayBelow20 269 = .ok (.ldc2_w 263, 3) := by decide +kernel
theorem dX8_sayBelow20_272 : decode cX8_sayBelow20 272 = .ok (.invokevirtual 227, 3) := by decide +kernel
theorem dX8_sayBelow20_275 : decode cX8_sayBelow20 275 = .ok (.goto 13, 3) := by decide +kernel
theorem dX8_sayBelow20_278 : decode cX8_sayBelow20 278 = .ok (.aload_n 0, 1) := by decide +kernel
theorem dX8_sayBelow20_279 : decode cX8_sayBelow20 279 = .ok (.ldc2_w 265, 3) := by decide +kernel
theorem dX8_sayBelow20_282 : decode cX8_sayBelow20 282 = .ok (.invokevirtual 227, 3) := by decide +kernel
theorem dX8_sayBelow20_285 : decode cX8_sayBelow20 285 = .ok (.goto 3, 3) := by decide +kernel
theorem dX8_sayBelow20_288 : decode cX8_sayBelow20 288 = .ok (.return_, 1) := by decide +kernel
theorem dX8_sayTens_0 : decode cX8_sayTens 0 = .ok (.iload_n 1, 1) := by decide +kernel
theorem dX8_sayTens_1 : decode cX8_sayTens 1 = .ok (.tableswitch 127 2 9 #[47, 57, 67, 77, 87, 97, 107, 117], 47) := by decide +kernel
theorem dX8_sayTens_48 : decode cX8_sayTens 48 = .ok (.aload_n 0, 1) := by decide +kernel
theorem dX8_sayTens_49 : decode cX8_sayTens 49 = .ok (.ldc2_w 267, 3) := by decide +kernel
theorem dX8_sayTens_52 : decode cX8_sayTens 52 = .ok (.invokevirtual 227, 3) := by decide +kernel
theorem dX8_sayTens_55 : decode cX8_sayTens 55 = .ok (.goto 73, 3) := by decide +kernel
theorem dX8_sayTens_58 : decode cX8_sayTens 58 = .ok (.aload_n 0, 1) := by decide +kernel
theorem dX8_sayTens_59 : decode cX8_sayTens 59 = .ok (.ldc2_w 269, 3) := by decide +kernel
theorem dX8_sayTens_62 : decode cX8_sayTens 62 = .ok (.invokevirtual 227, 3) := by decide +kernel
theorem dX8_sayTens_65 : decode cX8_sayTens 65 = .ok (.goto 63, 3) := by decide +kernel
theorem dX8_sayTens_68 : decode cX8_sayTens 68 = .ok (.aload_n 0, 1) := by decide +kernel
theorem dX8_sayTens_69 : decode cX8_sayTens 69 = .ok (.ldc2_w 271, 3) := by decide +kernel
theorem dX8_sayTens_72 : decode cX8_sayTens 72 = .ok (.invokevirtual 227, 3) := by decide +kernel
theorem dX8_sayTens_75 : decode cX8_sayTens 75 = .ok (.goto 53, 3) := by decide +kernel
theorem dX8_sayTens_78 : decode cX8_sayTens 78 = .ok (.aload_n 0, 1) := by decide +kernel
theorem dX8_sayTens_79 : decode cX8_sayTens 79 = .ok (.ldc2_w 273, 3) := by decide +kernel
theorem dX8_sayTens_82 : decode cX8_sayTens 82 = .ok (.invokevirtual 227, 3) := by decide +kernel
theorem dX8_sayTens_85 : decode cX8_sayTens 85 = .ok (.goto 43, 3) := by decide +kernel
theorem dX8_sayTens_88 : decode cX8_sayTens 88 = .ok (.aload_n 0, 1) := by decide +kernel
theorem dX8_sayTens_89 : decode cX8_sayTens 89 = .ok (.ldc2_w 275, 3) := by decide +kernel
theorem dX8_sayTens_92 : decode cX8_sayTens 92 = .ok (.invokevirtual 227, 3) := by decide +kernel
theorem dX8_sayTens_95 : decode cX8_sayTens 95 = .ok (.goto 33, 3) := by decide +kernel
theorem dX8_sayTens_98 : decode cX8_sayTens 98 = .ok (.aload_n 0, 1) := by decide +kernel
theorem dX8_sayTens_99 : decode cX8_sayTens 99 = .ok (.ldc2_w 277, 3) := by decide +kernel
theorem dX8_sayTens_102 : decode cX8_sayTens 102 = .ok (.invokevirtual 227, 3) := by decide +kernel
theorem dX8_sayTens_105 : decode cX8_sayTens 105 = .ok (.goto 23, 3) := by decide +kernel
theorem dX8_sayTens_108 : decode cX8_sayTens 108 = .ok (.aload_n 0, 1) := by decide +kernel
theorem dX8_sayTens_109 : decode cX8_sayTens 109 = .ok (.ldc2_w 279, 3) := by decide +kernel
theorem dX8_sayTens_112 : decode cX8_sayTens 112 = .ok (.invokevirtual 227, 3) := by decide +kernel
theorem dX8_sayTens_115 : decode cX8_sayTens 115 = .ok (.goto 13, 3) := by decide +kernel
theorem dX8_sayTens_118 : decode cX8_sayTens 118 = .ok (.aload_n 0, 1) := by decide +kernel
theorem dX8_sayTens_119 : decode cX8_sayTens 119 = .ok (.ldc2_w 281, 3) := by decide +kernel
theorem dX8_sayTens_122 : decode cX8_sayTens 122 = .ok (.invokevirtual 227, 3) := by decide +kernel
theorem dX8_sayTens_125 : decode cX8_sayTens 125 = .ok (.goto 3, 3) := by decide +kernel
theorem dX8_sayTens_128 : decode cX8_sayTens 128 = .ok (.return_, 1) := by decide +kernel
theorem dX8_sayBelow1000_0 : decode cX8_sayBelow1000 0 = .ok (.iload_n 1, 1) := by decide +kernel
theorem dX8_sayBelow1000_1 : decode cX8_sayBelow1000 1 = .ok (.bipush 99, 2) := by decide +kernel
theorem dX8_sayBelow1000_3 : decode cX8_sayBelow1000 3 = .ok (.if_icmp .le 18, 3) := by decide +kernel
theorem dX8_sayBelow1000_6 : decode cX8_sayBelow1000 6 = .ok (.aload_n 0, 1) := by decide +kernel
theorem dX8_sayBelow1000_7 : decode cX8_sayBelow1000 7 = .ok (.iload_n 1, 1) := by decide +kernel
theorem dX8_sayBelow1000_8 : decode cX8_sayBelow1000 8 = .ok (.bipush 100, 2) := by decide +kernel
theorem dX8_sayBelow1000_10 : decode cX8_sayBelow1000 10 = .ok (.idiv, 1) := by decide +kernel
theorem dX8_sayBelow1000_11 : decode cX8_sayBelow1000 11 = .ok (.invokevirtual 283, 3) := by decide +kernel
theorem dX8_sayBelow1000_14 : decode cX8_sayBelow1000 14 = .ok (.aload_n 0, 1) := by decide +kernel
theorem dX8_sayBelow1000_15 : decode cX8_sayBelow1000 15 = .ok (.ldc2_w 286, 3) := by decide +kernel
theorem dX8_sayBelow1000_18 : decode cX8_sayBelow1000 18 = .ok (.invokevirtual 227, 3) := by decide +kernel
theorem dX8_sayBelow1000_21 : decode cX8_sayBelow1000 21 = .ok (.iload_n 1, 1) := by decide +kernel
theorem dX8_sayBelow1000_22 : decode cX8_sayBelow1000 22 = .ok (.bipush 100, 2) := by decide +kernel
theorem dX8_sayBelow1000_24 : decode cX8_sayBelow1000 24 = .ok (.irem, 1) := by decide +kernel
theorem dX8_sayBelow1000_25 : decode cX8_sayBelow1000 25 = .ok (.istore_n 2, 1) := by decide +kernel
theorem dX8_sayBelow1000_26 : decode cX8_sayBelow1000 26 = .ok (.iload_n 2, 1) := by decide +kernel
theorem dX8_sayBelow1000_27 : decode cX8_sayBelow1000 27 = .ok (.bipush 20, 2) := by decide +kernel
theorem dX8_sayBelow1000_29 : decode cX8_sayBelow1000 29 = .ok (.if_icmp .ge 11, 3) := by decide +kernel
theorem dX8_sayBelow1000_32 : decode cX8_sayBelow1000 32 = .ok (.aload_n 0, 1) := by decide +kernel
theorem dX8_sayBelow1000_33 : decode cX8_sayBelow1000 33 = .ok (.iload_n 2, 1) := by decide +kernel
theorem dX8_sayBelow1000_34 : decode cX8_sayBelow1000 34 = .ok (.invokevirtual 283, 3) := by decide +kernel
theorem dX8_sayBelow1000_37 : decode cX8_sayBelow1000 37 = .ok (.goto 19, 3) := by decide +kernel
theorem dX8_sayBelow1000_40 : decode cX8_sayBelow1000 40 = .ok (.aload_n 0, 1) := by decide +kernel
theorem dX8_sayBelow1000_41 : decode cX8_sayBelow1000 41 = .ok (.iload_n 2, 1) := by decide +kernel
theorem dX8_sayBelow1000_42 : decode cX8_sayBelow1000 42 = .ok (.bipush 10, 2) := by decide +kernel
theorem dX8_sayBelow1000_44 : decode cX8_sayBelow1000 44 = .ok (.idiv, 1) := by decide +kernel
theorem dX8_sayBelow1000_45 : decode cX8_sayBelow1000 45 = .ok (.invokevirtual 288, 3) := by decide +kernel
theorem dX8_sayBelow1000_48 : decode cX8_sayBelow1000 48 = .ok (.aload_n 0, 1) := by decide +kernel
theorem dX8_sayBelow1000_49 : decode cX8_sayBelow1000 49 = .ok (.iload_n 2, 1) := by decide +kernel
theorem dX8_sayBelow1000_50 : decode cX8_sayBelow1000 50 = .ok (.bipush 10, 2) := by decide +kernel
theorem dX8_sayBelow1000_52 : decode cX8_sayBelow1000 52 = .ok (.irem, 1) := by decide +kernel
theorem dX8_sayBelow1000_53 : decode cX8_sayBelow1000 53 = .ok (.invokevirtual 283, 3) := by decide +kernel
theorem dX8_sayBelow1000_56 : decode cX8_sayBelow1000 56 = .ok (.return_, 1) := by decide +kernel
theorem dX8_makeWords_0 : decode cX8_makeWords 0 = .ok (.aload_n 0, 1) := by decide +kernel
theorem dX8_makeWords_1 : decode cX8_makeWords 1 = .ok (.iconst 0, 1) := by decide +kernel
theorem dX8_makeWords_2 : decode cX8_makeWords 2 = .ok (.putfield 187, 3) := by decide +kernel
theorem dX8_makeWords_5 : decode cX8_makeWords 5 = .ok (.iload_n 1, 1) := by decide +kernel
theorem dX8_makeWords_6 : decode cX8_makeWords 6 = .ok (.ifCond .ne 10, 3) := by decide +kernel
theorem dX8_makeWords_9 : decode cX8_makeWords 9 = .ok (.aload_n 0, 1) := by decide +kernel
theorem dX8_makeWords_10 : decode cX8_makeWords 10 = .ok (.ldc2_w 291, 3) := by decide +kernel
theorem dX8_makeWords_13 : decode cX8_makeWords 13 = .ok (.invokevirtual 227, 3) := by decide +kernel
theorem dX8_makeWords_16 : decode cX8_makeWords 16 = .ok (.iload_n 1, 1) := by decide +kernel
theorem dX8_makeWords_17 : decode cX8_makeWords 17 = .ok (.ldc_w 293, 3) := by decide +kernel
theorem dX8_makeWords_20 : decode cX8_makeWords 20 = .ok (.if_icmp .le 19, 3) := by decide +kernel
theorem dX8_makeWords_23 : decode cX8_makeWords 23 = .ok (.aload_n 0, 1) := by decide +kernel
theorem dX8_makeWords_24 : decode cX8_makeWords 24 = .ok (.iload_n 1, 1) := by decide +kernel
theorem dX8_makeWords_25 : decode cX8_makeWords 25 = .ok (.ldc_w 294, 3) := by decide +kernel
theorem dX8_makeWords_28 : decode cX8_makeWords 28 = .ok (.idiv, 1) := by decide +kernel
theorem dX8_makeWords_29 : decode cX8_makeWords 29 = .ok (.invokevirtual 295, 3) := by decide +kernel
theorem dX8_makeWords_32 : decode cX8_makeWords 32 = .ok (.aload_n 0, 1) := by decide +kernel
theorem dX8_makeWords_33 : decode cX8_makeWords 33 = .ok (.ldc2_w 298, 3) := by decide +kernel
theorem dX8_makeWords_36 : decode cX8_makeWords 36 = .ok (.invokevirtual 227, 3) := by decide +kernel
theorem dX8_makeWords_39 : decode cX8_makeWords 39 = .ok (.iload_n 1, 1) := by decide +kernel
theorem dX8_makeWords_40 : decode cX8_makeWords 40 = .ok (.sipush 1000, 3) := by decide +kernel
theorem dX8_makeWords_43 : decode cX8_makeWords 43 = .ok (.idiv, 1) := by decide +kernel
theorem dX8_makeWords_44 : decode cX8_makeWords 44 = .ok (.sipush 1000, 3) := by decide +kernel
theorem dX8_makeWords_47 : decode cX8_makeWords 47 = .ok (.irem, 1) := by decide +kernel
theorem dX8_makeWords_48 : decode cX8_makeWords 48 = .ok (.ifCond .le 23, 3) := by decide +kernel
theorem dX8_makeWords_51 : decode cX8_makeWords 51 = .ok (.aload_n 0, 1) := by decide +kernel
theorem dX8_makeWords_52 : decode cX8_makeWords 52 = .ok (.iload_n 1, 1) := by decide +kernel
theorem dX8_makeWords_53 : decode cX8_makeWords 53 = .ok (.sipush 1000, 3) := by decide +kernel
theorem dX8_makeWords_56 : decode cX8_makeWords 56 = .ok (.idiv, 1) := by decide +kernel
theorem dX8_makeWords_57 : decode cX8_makeWords 57 = .ok (.sipush 1000, 3) := by decide +kernel
theorem dX8_makeWords_60 : decode cX8_makeWords 60 = .ok (.irem, 1) := by decide +kernel
theorem dX8_makeWords_61 : decode cX8_makeWords 61 = .ok (.invokevirtual 295, 3) := by decide +kernel
theorem dX8_makeWords_64 : decode cX8_makeWords 64 = .ok (.aload_n 0, 1) := by decide +kernel
theorem dX8_makeWords_65 : decode cX8_makeWords 65 = .ok (.ldc2_w 300, 3) := by decide +kernel
theorem dX8_makeWords_68 : decode cX8_makeWords 68 = .ok (.invokevirtual 227, 3) := by decide +kernel
theorem dX8_makeWords_71 : decode cX8_makeWords 71 = .ok (.aload_n 0, 1) := by decide +kernel
theorem dX8_makeWords_72 : decode cX8_makeWords 72 = .ok (.iload_n 1, 1) := by decide +kernel
theorem dX8_makeWords_73 : decode cX8_makeWords 73 = .ok (.sipush 1000, 3) := by decide +kernel
theorem dX8_makeWords_76 : decode cX8_makeWords 76 = .ok (.irem, 1) := by decide +kernel
theorem dX8_makeWords_77 : decode cX8_makeWords 77 = .ok (.invokevirtual 295, 3) := by decide +kernel
theorem dX8_makeWords_80 : decode cX8_makeWords 80 = .ok (.return_, 1) := by decide +kernel
theorem dX8_words_0 : decode cX8_words 0 = .ok (.aload_n 0, 1) := by decide +kernel
theorem dX8_words_1 : decode cX8_words 1 = .ok (.iconst 0, 1) := by decide +kernel
theorem dX8_words_2 : decode cX8_words 2 = .ok (.putfield 86, 3) := by decide +kernel
theorem dX8_words_5 : decode cX8_words 5 = .ok (.iload_n 1, 1) := by decide +kernel
theorem dX8_words_6 : decode cX8_words 6 = .ok (.iconst 0, 1) := by decide +kernel
theorem dX8_words_7 : decode cX8_words 7 = .ok (.ldc_w 302, 3) := by decide +kernel
theorem dX8_words_10 : decode cX8_words 10 = .ok (.invokestatic 94, 3) := by decide +kernel
theorem dX8_words_13 : decode cX8_words 13 = .ok (.ifCond .ne 5, 3) := by decide +kernel
theorem dX8_words_16 : decode cX8_words 16 = .ok (.iconst (-1), 1) := by decide +kernel
theorem dX8_words_17 : decode cX8_words 17 = .ok (.ireturn, 1) := by decide +kernel
theorem dX8_words_18 : decode cX8_words 18 = .ok (.aload_n 0, 1) := by decide +kernel
theorem dX8_words_19 : decode cX8_words 19 = .ok (.iload_n 1, 1) := by decide +kernel
theorem dX8_words_20 : decode cX8_words 20 = .ok (.invokevirtual 303, 3) := by decide +kernel
theorem dX8_words_23 : decode cX8_words 23 = .ok (.aload_n 0, 1) := by decide +kernel
theorem dX8_words_24 : decode cX8_words 24 = .ok (.invokevirtual 219, 3) := by decide +kernel
theorem dX8_words_27 : decode cX8_words 27 = .ok (.ireturn, 1) := by decide +kernel
