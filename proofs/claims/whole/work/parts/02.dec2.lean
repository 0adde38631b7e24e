theorem dX6_writeAmount_0 : decode cX6_writeAmount 0 = .ok (.lload_n 3, 1) := by decide +kernel
theorem dX6_writeAmount_1 : decode cX6_writeAmount 1 = .ok (.lconst 0, 1) := by decide +kernel
theorem dX6_writeAmount_2 : decode cX6_writeAmount 2 = .ok (.lcmp, 1) := by decide +kernel
theorem dX6_writeAmount_3 : decode cX6_writeAmount 3 = .ok (.ifCond .ge 7, 3) := by decide +kernel
theorem dX6_writeAmount_6 : decode cX6_writeAmount 6 = .ok (.iconst 1, 1) := by decide +kernel
theorem dX6_writeAmount_7 : decode cX6_writeAmount 7 = .ok (.goto 4, 3) := by decide +kernel
theorem dX6_writeAmount_10 : decode cX6_writeAmount 10 = .ok (.iconst 0, 1) := by decide +kernel
theorem dX6_writeAmount_11 : decode cX6_writeAmount 11 = .ok (.istore 6, 2) := by decide +kernel
theorem dX6_writeAmount_13 : decode cX6_writeAmount 13 = .ok (.aload_n 0, 1) := by decide +kernel
theorem dX6_writeAmount_14 : decode cX6_writeAmount 14 = .ok (.invokevirtual 19, 3) := by decide +kernel
theorem dX6_writeAmount_17 : decode cX6_writeAmount 17 = .ok (.iload 6, 2) := by decide +kernel
theorem dX6_writeAmount_19 : decode cX6_writeAmount 19 = .ok (.ifCond .eq 19, 3) := by decide +kernel
theorem dX6_writeAmount_22 : decode cX6_writeAmount 22 = .ok (.aload_n 1, 1) := by decide +kernel
theorem dX6_writeAmount_23 : decode cX6_writeAmount 23 = .ok (.invokevirtual 24, 3) := by decide +kernel
theorem dX6_writeAmount_26 : decode cX6_writeAmount 26 = .ok (.iconst (-1), 1) := by decide +kernel
theorem dX6_writeAmount_27 : decode cX6_writeAmount 27 = .ok (.if_icmp .eq 11, 3) := by decide +kernel
theorem dX6_writeAmount_30 : decode cX6_writeAmount 30 = .ok (.aload_n 0, 1) := by decide +kernel
theorem dX6_writeAmount_31 : decode cX6_writeAmount 31 = .ok (.aload_n 1, 1) := by decide +kernel
theorem dX6_writeAmount_32 : decode cX6_writeAmount 32 = .ok (.invokevirtual 24, 3) := by decide +kernel
theorem dX6_writeAmount_35 : decode cX6_writeAmount 35 = .ok (.invokevirtual 30, 3) := by decide +kernel
theorem dX6_writeAmount_38 : decode cX6_writeAmount 38 = .ok (.iload_n 2, 1) := by decide +kernel
theorem dX6_writeAmount_39 : decode cX6_writeAmount 39 = .ok (.ifCond .eq 15, 3) := by decide +kernel
theorem dX6_writeAmount_42 : decode cX6_writeAmount 42 = .ok (.aload_n 1, 1) := by decide +kernel
theorem dX6_writeAmount_43 : decode cX6_writeAmount 43 = .ok (.getfield 34, 3) := by decide +kernel
theorem dX6_writeAmount_46 : decode cX6_writeAmount 46 = .ok (.ifCond .ne 8, 3) := by decide +kernel
theorem dX6_writeAmount_49 : decode cX6_writeAmount 49 = .ok (.aload_n 0, 1) := by decide +kernel
theorem dX6_writeAmount_50 : decode cX6_writeAmount 50 = .ok (.aload_n 1, 1) := by decide +kernel
theorem dX6_writeAmount_51 : decode cX6_writeAmount 51 = .ok (.invokestatic 38, 3) := by decide +kernel
theorem dX6_writeAmount_54 : decode cX6_writeAmount 54 = .ok (.aload_n 0, 1) := by decide +kernel
theorem dX6_writeAmount_55 : decode cX6_writeAmount 55 = .ok (.aload_n 1, 1) := by decide +kernel
theorem dX6_writeAmount_56 : decode cX6_writeAmount 56 = .ok (.lload_n 3, 1) := by decide +kernel
theorem dX6_writeAmount_57 : decode cX6_writeAmount 57 = .ok (.invokestatic 9, 3) := by decide +kernel
theorem dX6_writeAmount_60 : decode cX6_writeAmount 60 = .ok (.iload 5, 2) := by decide +kernel
theorem dX6_writeAmount_62 : decode cX6_writeAmount 62 = .ok (.invokestatic 44, 3) := by decide +kernel
theorem dX6_writeAmount_65 : decode cX6_writeAmount 65 = .ok (.iload_n 2, 1) := by decide +kernel
theorem dX6_writeAmount_66 : decode cX6_writeAmount 66 = .ok (.ifCond .eq 21, 3) := by decide +kernel
theorem dX6_writeAmount_69 : decode cX6_writeAmount 69 = .ok (.aload_n 1, 1) := by decide +kernel
theorem dX6_writeAmount_70 : decode cX6_writeAmount 70 = .ok (.getfield 34, 3) := by decide +kernel
theorem dX6_writeAmount_73 : decode cX6_writeAmount 73 = .ok (.ifCond .eq 14, 3) := by decide +kernel
theorem dX6_writeAmount_76 : decode cX6_writeAmount 76 = .ok (.aload_n 0, 1) := by decide +kernel
theorem dX6_writeAmount_77 : decode cX6_writeAmount 77 = .ok (.bipush 32, 2) := by decide +kernel
theorem dX6_writeAmount_79 : decode cX6_writeAmount 79 = .ok (.invokevirtual 30, 3) := by decide +kernel
theorem dX6_writeAmount_82 : decode cX6_writeAmount 82 = .ok (.aload_n 0, 1) := by decide +kernel
theorem dX6_writeAmount_83 : decode cX6_writeAmount 83 = .ok (.aload_n 1, 1) := by decide +kernel
theorem dX6_writeAmount_84 : decode cX6_writeAmount 84 = .ok (.invokestatic 38, 3) := by decide +kernel
theorem dX6_writeAmount_87 : decode cX6_writeAmount 87 = .ok (.iload 6, 2) := by decide +kernel
theorem dX6_writeAmount_89 : decode cX6_writeAmount 89 = .ok (.ifCond .eq 19, 3) := by decide +kernel
theorem dX6_writeAmount_92 : decode cX6_writeAmount 92 = .ok (.aload_n 1, 1) := by decide +kernel
theorem dX6_writeAmount_93 : decode cX6_writeAmount 93 = .ok (.invokevirtual 48, 3) := by decide +kernel
theorem dX6_writeAmount_96 : decode cX6_writeAmount 96 = .ok (.iconst (-1), 1) := by decide +kernel
theorem dX6_writeAmount_97 : decode cX6_writeAmount 97 = .ok (.if_icmp .eq 11, 3) := by decide +kernel
theorem dX6_writeAmount_100 : decode cX6_writeAmount 100 = .ok (.aload_n 0, 1) := by decide +kernel
theorem dX6_writeAmount_101 : decode cX6_writeAmount 101 = .ok (.aload_n 1, 1) := by decide +kernel
theorem dX6_writeAmount_102 : decode cX6_writeAmount 102 = .ok (.invokevirtual 48, 3) := by decide +kernel
theorem dX6_writeAmount_105 : decode cX6_writeAmount 105 = .ok (.invokevirtual 30, 3) := by decide +kernel
theorem dX6_writeAmount_108 : decode cX6_writeAmount 108 = .ok (.return_, 1) := by decide +kernel
theorem dX6_addMark_0 : decode cX6_addMark 0 = .ok (.iconst 0, 1) := by decide +kernel
theorem dX6_addMark_1 : decode cX6_addMark 1 = .ok (.istore_n 2, 1) := by decide +kernel
theorem dX6_addMark_2 : decode cX6_addMark 2 = .ok (.iload_n 2, 1) := by decide +kernel
theorem dX6_addMark_3 : decode cX6_addMark 3 = .ok (.iconst 3, 1) := by decide +kernel
theorem dX6_addMark_4 : decode cX6_addMark 4 = .ok (.if_icmp .ge 18, 3) := by decide +kernel
theorem dX6_addMark_7 : decode cX6_addMark 7 = .ok (.aload_n 0, 1) := by decide +kernel
theorem dX6_addMark_8 : decode cX6_addMark 8 = .ok (.aload_n 1, 1) := by decide +kernel
theorem dX6_addMark_9 : decode cX6_addMark 9 = .ok (.iload_n 2, 1) := by decide +kernel
theorem dX6_addMark_10 : decode cX6_addMark 10 = .ok (.invokevirtual 51, 3) := by decide +kernel
theorem dX6_addMark_13 : decode cX6_addMark 13 = .ok (.invokevirtual 30, 3) := by decide +kernel
theorem dX6_addMark_16 : decode cX6_addMark 16 = .ok (.iinc 2 1, 3) := by decide +kernel
theorem dX6_addMark_19 : decode cX6_addMark 19 = .ok (.goto (-17), 3) := by decide +kernel
theorem dX6_addMark_22 : decode cX6_addMark 22 = .ok (.return_, 1) := by decide +kernel
theorem dX6_addNumber_0 : decode cX6_addNumber 0 = .ok (.bipush 14, 2) := by decide +kernel
theorem dX6_addNumber_2 : decode cX6_addNumber 2 = .ok (.istore 5, 2) := by decide +kernel
theorem dX6_addNumber_4 : decode cX6_addNumber 4 = .ok (.iload 5, 2) := by decide +kernel
theorem dX6_addNumber_6 : decode cX6_addNumber 6 = .ok (.bipush 6, 2) := by decide +kernel
theorem dX6_addNumber_8 : decode cX6_addNumber 8 = .ok (.if_icmp .le 18, 3) := by decide +kernel
theorem dX6_addNumber_11 : decode cX6_addNumber 11 = .ok (.lload_n 2, 1) := by decide +kernel
theorem dX6_addNumber_12 : decode cX6_addNumber 12 = .ok (.iload 5, 2) := by decide +kernel
theorem dX6_addNumber_14 : decode cX6_addNumber 14 = .ok (.invokestatic 55, 3) := by decide +kernel
theorem dX6_addNumber_17 : decode cX6_addNumber 17 = .ok (.ifCond .ne 9, 3) := by decide +kernel
theorem dX6_addNumber_20 : decode cX6_addNumber 20 = .ok (.iinc 5 (-1), 3) := by decide +kernel
theorem dX6_addNumber_23 : decode cX6_addNumber 23 = .ok (.goto (-19), 3) := by decide +kernel
theorem dX6_addNumber_26 : decode cX6_addNumber 26 = .ok (.iload 5, 2) := by decide +kernel
theorem dX6_addNumber_28 : decode cX6_addNumber 28 = .ok (.istore 6, 2) := by decide +kernel
theorem dX6_addNumber_30 : decode cX6_addNumber 30 = .ok (.iload 6, 2) := by decide +kernel
theorem dX6_addNumber_32 : decode cX6_addNumber 32 = .ok (.bipush 6, 2) := by decide +kernel
theorem dX6_addNumber_34 : decode cX6_addNumber 34 = .ok (.if_icmp .lt 42, 3) := by decide +kernel
theorem dX6_addNumber_37 : decode cX6_addNumber 37 = .ok (.aload_n 0, 1) := by decide +kernel
theorem dX6_addNumber_38 : decode cX6_addNumber 38 = .ok (.bipush 48, 2) := by decide +kernel
theorem dX6_addNumber_40 : decode cX6_addNumber 40 = .ok (.lload_n 2, 1) := by decide +kernel
theorem dX6_addNumber_41 : decode cX6_addNumber 41 = .ok (.iload 6, 2) := by decide +kernel
theorem dX6_addNumber_43 : decode cX6_addNumber 43 = .ok (.invokestatic 55, 3) := by decide +kernel
theorem dX6_addNumber_46 : decode cX6_addNumber 46 = .ok (.iadd, 1) := by decide +kernel
theorem dX6_addNumber_47 : decode cX6_addNumber 47 = .ok (.invokevirtual 30, 3) := by decide +kernel
theorem dX6_addNumber_50 : decode cX6_addNumber 50 = .ok (.aload_n 1, 1) := by decide +kernel
theorem dX6_addNumber_51 : decode cX6_addNumber 51 = .ok (.iload 6, 2) := by decide +kernel
theorem dX6_addNumber_53 : decode cX6_addNumber 53 = .ok (.bipush 6, 2) := by decide +kernel
theorem dX6_addNumber_55 : decode cX6_addNumber 55 = .ok (.isub, 1) := by decide +kernel
theorem dX6_addNumber_56 : decode cX6_addNumber 56 = .ok (.invokevirtual 59, 3) := by decide +kernel
theorem dX6_addNumber_59 : decode cX6_addNumber 59 = .ok (.ifCond .eq 11, 3) := by decide +kernel
theorem dX6_addNumber_62 : decode cX6_addNumber 62 = .ok (.aload_n 0, 1) := by decide +kernel
theorem dX6_addNumber_63 : decode cX6_addNumber 63 = .ok (.aload_n 1, 1) := by decide +kernel
theorem dX6_addNumber_64 : decode cX6_addNumber 64 = .ok (.getfield 63, 3) := by decide +kernel
theorem dX6_addNumber_67 : decode cX6_addNumber 67 = .ok (.invokevirtual 30, 3) := by decide +kernel
theorem dX6_addNumber_70 : decode cX6_addNumber 70 = .ok (.iinc 6 (-1), 3) := by decide +kernel
theorem dX6_addNumber_73 : decode cX6_addNumber 73 = .ok (.goto (-43), 3) := by decide +kernel
theorem dX6_addNumber_76 : decode cX6_addNumber 76 = .ok (.iload 4, 2) := by decide +kernel
theorem dX6_addNumber_78 : decode cX6_addNumber 78 = .ok (.ifCond .le 11, 3) := by decide +kernel
theorem dX6_addNumber_81 : decode cX6_addNumber 81 = .ok (.aload_n 0, 1) := by decide +kernel
theorem dX6_addNumber_82 : decode cX6_addNumber 82 = .ok (.aload_n 1, 1) := by decide +kernel
theorem dX6_addNumber_83 : decode cX6_addNumber 83 = .ok (.getfield 67, 3) := by decide +kernel
theorem dX6_addNumber_86 : decode cX6_addNumber 86 = .ok (.invokevirtual 30, 3) := by decide +kernel
theorem dX6_addNumber_89 : decode cX6_addNumber 89 = .ok (.iconst 5, 1) := by decide +kernel
theorem dX6_addNumber_90 : decode cX6_addNumber 90 = .ok (.istore 6, 2) := by decide +kernel
theorem dX6_addNumber_92 : decode cX6_addNumber 92 = .ok (.iload 6, 2) := by decide +kernel
theorem dX6_addNumber_94 : decode cX6_addNumber 94 = .ok (.bipush 6, 2) := by decide +kernel
theorem dX6_addNumber_96 : decode cX6_addNumber 96 = .ok (.iload 4, 2) := by decide +kernel
theorem dX6_addNumber_98 : decode cX6_addNumber 98 = .ok (.isub, 1) := by decide +kernel
theorem dX6_addNumber_99 : decode cX6_addNumber 99 = .ok (.if_icmp .lt 22, 3) := by decide +kernel
theorem dX6_addNumber_102 : decode cX6_addNumber 102 = .ok (.aload_n 0, 1) := by decide +kernel
theorem dX6_addNumber_103 : decode cX6_addNumber 103 = .ok (.bipush 48, 2) := by decide +kernel
theorem dX6_addNumber_105 : decode cX6_addNumber 105 = .ok (.lload_n 2, 1) := by decide +kernel
theorem dX6_addNumber_106 : decode cX6_addNumber 106 = .ok (.iload 6, 2) := by decide +kernel
theorem dX6_addNumber_108 : decode cX6_addNumber 108 = .ok (.invokestatic 55, 3) := by decide +kernel
theorem dX6_addNumber_111 : decode cX6_addNumber 111 = .ok (.iadd, 1) := by decide +kernel
theorem dX6_addNumber_112 : decode cX6_addNumber 112 = .ok (.invokevirtual 30, 3) := by decide +kernel
theorem dX6_addNumber_115 : decode cX6_addNumber 115 = .ok (.iinc 6 (-1), 3) := by decide +kernel
theorem dX6_addNumber_118 : decode cX6_addNumber 118 = .ok (.goto (-26), 3) := by decide +kernel
theorem dX6_addNumber_121 : decode cX6_addNumber 121 = .ok (.return_, 1) := by decide +kernel
theorem dX6_writeDay_0 : decode cX6_writeDay 0 = .ok (.iload_n 2, 1) := by decide +kernel
theorem dX6_writeDay_1 : decode cX6_writeDay 1 = .ok (.invokestatic 70, 3) := by decide +kernel
theorem dX6_writeDay_4 : decode cX6_writeDay 4 = .ok (.istore_n 3, 1) := by decide +kernel
theorem dX6_writeDay_5 : decode cX6_writeDay 5 = .ok (.iload_n 3, 1) := by decide +kernel
theorem dX6_writeDay_6 : decode cX6_writeDay 6 = .ok (.invokestatic 75, 3) := by decide +kernel
theorem dX6_writeDay_9 : decode cX6_writeDay 9 = .ok (.istore 4, 2) := by decide +kernel
theorem dX6_writeDay_11 : decode cX6_writeDay 11 = .ok (.iload_n 2, 1) := by decide +kernel
theorem dX6_writeDay_12 : decode cX6_writeDay 12 = .ok (.iload_n 3, 1) := by decide +kernel
theorem dX6_writeDay_13 : decode cX6_writeDay 13 = .ok (.invokestatic 78, 3) := by decide +kernel
theorem dX6_writeDay_16 : decode cX6_writeDay 16 = .ok (.isub, 1) := by decide +kernel
theorem dX6_writeDay_17 : decode cX6_writeDay 17 = .ok (.istore 5, 2) := by decide +kernel
theorem dX6_writeDay_19 : decode cX6_writeDay 19 = .ok (.iconst 1, 1) := by decide +kernel
theorem dX6_writeDay_20 : decode cX6_writeDay 20 = .ok (.istore 6, 2) := by decide +kernel
theorem dX6_writeDay_22 : decode cX6_writeDay 22 = .ok (.iload 6, 2) := by decide +kernel
theorem dX6_writeDay_24 : decode cX6_writeDay 24 = .ok (.bipush 12, 2) := by decide +kernel
theorem dX6_writeDay_26 : decode cX6_writeDay 26 = .ok (.if_icmp .ge 33, 3) := by decide +kernel
theorem dX6_writeDay_29 : decode cX6_writeDay 29 = .ok (.iload 5, 2) := by decide +kernel
theorem dX6_writeDay_31 : decode cX6_writeDay 31 = .ok (.iload 6, 2) := by decide +kernel
theorem dX6_writeDay_33 : decode cX6_writeDay 33 = .ok (.iload 4, 2) := by decide +kernel
theorem dX6_writeDay_35 : decode cX6_writeDay 35 = .ok (.invokestatic 81, 3) := by decide +kernel
theorem dX6_writeDay_38 : decode cX6_writeDay 38 = .ok (.if_icmp .lt 21, 3) := by decide +kernel
theorem dX6_writeDay_41 : decode cX6_writeDay 41 = .ok (.iload 5, 2) := by decide +kernel
theorem dX6_writeDay_43 : decode cX6_writeDay 43 = .ok (.iload 6, 2) := by decide +kernel
theorem dX6_writeDay_45 : decode cX6_writeDay 45 = .ok (.iload 4, 2) := by decide +kernel
theorem dX6_writeDay_47 : decode cX6_writeDay 47 = .ok (.invokestatic 81, 3) := by decide +kernel
theorem dX6_writeDay_50 : decode cX6_writeDay 50 = .ok (.isub, 1) := by decide +kernel
theorem dX6_writeDay_51 : decode cX6_writeDay 51 = .ok (.istore 5, 2) := by decide +kernel
theorem dX6_writeDay_53 : decode cX6_writeDay 53 = .ok (.iinc 6 1, 3) := by decide +kernel
theorem dX6_writeDay_56 : decode cX6_writeDay 56 = .ok (.goto (-34), 3) := by decide +kernel
theorem dX6_writeDay_59 : decode cX6_writeDay 59 = .ok (.aload_n 0, 1) := by decide +kernel
theorem dX6_writeDay_60 : decode cX6_writeDay 60 = .ok (.invokevirtual 19, 3) := by decide +kernel
theorem dX6_writeDay_63 : decode cX6_writeDay 63 = .ok (.iconst 0, 1) := by decide +kernel
theorem dX6_writeDay_64 : decode cX6_writeDay 64 = .ok (.istore 7, 2) := by decide +kernel
theorem dX6_writeDay_66 : decode cX6_writeDay 66 = .ok (.iload 7, 2) := by decide +kernel
theorem dX6_writeDay_68 : decode cX6_writeDay 68 = .ok (.iconst 3, 1) := by decide +kernel
theorem dX6_writeDay_69 : decode cX6_writeDay 69 = .ok (.if_icmp .ge 65, 3) := by decide +kernel
theorem dX6_writeDay_72 : decode cX6_writeDay 72 = .ok (.iload 7, 2) := by decide +kernel
theorem dX6_writeDay_74 : decode cX6_writeDay 74 = .ok (.ifCond .le 11, 3) := by decide +kernel
theorem dX6_writeDay_77 : decode cX6_writeDay 77 = .ok (.aload_n 0, 1) := by decide +kernel
theorem dX6_writeDay_78 : decode cX6_writeDay 78 = .ok (.aload_n 1, 1) := by decide +kernel
theorem dX6_writeDay_79 : decode cX6_writeDay 79 = .ok (.invokevirtual 85, 3) := by decide +kernel
theorem dX6_writeDay_82 : decode cX6_writeDay 82 = .ok (.invokevirtual 30, 3) := by decide +kernel
theorem dX6_writeDay_85 : decode cX6_writeDay 85 = .ok (.aload_n 1, 1) := by decide +kernel
theorem dX6_writeDay_86 : decode cX6_writeDay 86 = .ok (.iload 7, 2) := by decide +kernel
theorem dX6_writeDay_88 : decode cX6_writeDay 88 = .ok (.invokevirtual 88, 3) := by decide +kernel
theorem dX6_writeDay_91 : decode cX6_writeDay 91 = .ok (.istore 8, 2) := by decide +kernel
theorem dX6_writeDay_93 : decode cX6_writeDay 93 = .ok (.iload 8, 2) := by decide +kernel
theorem dX6_writeDay_95 : decode cX6_writeDay 95 = .ok (.iconst 2, 1) := by decide +kernel
theorem dX6_writeDay_96 : decode cX6_writeDay 96 = .ok (.if_icmp .ne 12, 3) := by decide +kernel
theorem dX6_writeDay_99 : decode cX6_writeDay 99 = .ok (.aload_n 0, 1) := by decide +kernel
theorem dX6_writeDay_100 : decode cX6_writeDay 100 = .ok (.iload_n 3, 1) := by decide +kernel
theorem dX6_writeDay_101 : decode cX6_writeDay 101 = .ok (.iconst 4, 1) := by decide +kernel
theorem dX6_writeDay_102 : decode cX6_writeDay 102 = .ok (.invokevirtual 91, 3) := by decide +kernel
theorem dX6_writeDay_105 : decode cX6_writeDay 105 = .ok (.goto 23, 3) := by decide +kernel
theorem dX6_writeDay_108 : decode cX6_writeDay 108 = .ok (.aload_n 0, 1) := by decide +kernel
theorem dX6_writeDay_109 : decode cX6_writeDay 109 = .ok (.iload 8, 2) := by decide +kernel
theorem dX6_writeDay_111 : decode cX6_writeDay 111 = .ok (.iconst 1, 1) := by decide +kernel
theorem dX6_writeDay_112 : decode cX6_writeDay 112 = .ok (.if_icmp .ne 8, 3) := by decide +kernel
theorem dX6_writeDay_115 : decode cX6_writeDay 115 = .ok (.iload 6, 2) := by decide +kernel
theorem dX6_writeDay_117 : decode cX6_writeDay 117 = .ok (.goto 7, 3) := by decide +kernel
theorem dX6_writeDay_120 : decode cX6_writeDay 120 = .ok (.iload 5, 2) := by decide +kernel
theorem dX6_writeDay_122 : decode cX6_writeDay 122 = .ok (.iconst 1, 1) := by decide +kernel
theorem dX6_writeDay_123 : decode cX6_writeDay 123 = .ok (.iadd, 1) := by decide +kernel
theorem dX6_writeDay_124 : decode cX6_writeDay 124 = .ok (.iconst 2, 1) := by decide +kernel
theorem dX6_writeDay_125 : decode cX6_writeDay 125 = .ok (.invokevirtual 91, 3) := by decide +kernel
theorem dX6_writeDay_128 : decode cX6_writeDay 128 = .ok (.iinc 7 1, 3) := by decide +kernel
theorem dX6_writeDay_131 : decode cX6_writeDay 131 = .ok (.goto (-65), 3) := by decide +kernel
theorem dX6_writeDay_134 : decode cX6_writeDay 134 = .ok (.return_, 1) := by decide +kernel
theorem dX7_init_0 : decode cX7_init 0 = .ok (.aload_n 0, 1) := by decide +kernel
theorem dX7_init_1 : decode cX7_init 1 = .ok (.invokespecial 1, 3) := by decide +kernel
theorem dX7_init_4 : decode cX7_init 4 = .ok (.aload_n 0, 1) := by decide +kernel
theorem dX7_init_5 : decode cX7_init 5 = .ok (.new 7, 3) := by decide +kernel
theorem dX7_init_8 : decode cX7_init 8 = .ok (.dup, 1) := by decide +kernel
theorem dX7_init_9 : decode cX7_init 9 = .ok (.invokespecial 9, 3) := by decide +kernel
theorem dX7_init_12 : decode cX7_init 12 = .ok (.putfield 10, 3) := by decide +kernel
theorem dX7_init_15 : decode cX7_init 15 = .ok (.aload_n 0, 1) := by decide +kernel
theorem dX7_init_16 : decode cX7_init 16 = .ok (.iconst 3, 1) := by decide +kernel
theorem dX7_init_17 : decode cX7_init 17 = .ok (.anewarray 7, 3) := by decide +kernel
theorem dX7_init_20 : decode cX7_init 20 = .ok (.putfield 16, 3) := by decide +kernel
theorem dX7_init_23 : decode cX7_init 23 = .ok (.aload_n 0, 1) := by decide +kernel
theorem dX7_init_24 : decode cX7_init 24 = .ok (.new 20, 3) := by decide +kernel
theorem dX7_init_27 : decode cX7_init 27 = .ok (.dup, 1) := by decide +kernel
theorem dX7_init_28 : decode cX7_init 28 = .ok (.invokespecial 22, 3) := by decide +kernel
theorem dX7_init_31 : decode cX7_init 31 = .ok (.putfield 23, 3) := by decide +kernel
theorem dX7_init_34 : decode cX7_init 34 = .ok (.aload_n 0, 1) := by decide +kernel
theorem dX7_init_35 : decode cX7_init 35 = .ok (.new 27, 3) := by decide +kernel
theorem dX7_init_38 : decode cX7_init 38 = .ok (.dup, 1) := by decide +kernel
theorem dX7_init_39 : decode cX7_init 39 = .ok (.bipush 100, 2) := by decide +kernel
theorem dX7_init_41 : decode cX7_init 41 = .ok (.invokespecial 29, 3) := by decide +kernel
theorem dX7_init_44 : decode cX7_init 44 = .ok (.putfield 32, 3) := by decide +kernel
theorem dX7_init_47 : decode cX7_init 47 = .ok (.return_, 1) := by decide +kernel
theorem dX7_land_0 : decode cX7_land 0 = .ok (.aload_n 0, 1) := by decide +kernel
theorem dX7_land_1 : decode cX7_land 1 = .ok (.getfield 10, 3) := by decide +kernel
theorem dX7_land_4 : decode cX7_land 4 = .ok (.getfield 36, 3) := by decide +kernel
theorem dX7_land_7 : decode cX7_land 7 = .ok (.bipush 6, 2) := by decide +kernel
theorem dX7_land_9 : decode cX7_land 9 = .ok (.if_icmp .ge 32, 3) := by decide +kernel
theorem dX7_land_12 : decode cX7_land 12 = .ok (.iload_n 1, 1) := by decide +kernel
theorem dX7_land_13 : decode cX7_land 13 = .ok (.iload_n 2, 1) := by decide +kernel
theorem dX7_land_14 : decode cX7_land 14 = .ok (.iload_n 3, 1) := by decide +kernel
theorem dX7_land_15 : decode cX7_land 15 = .ok (.iload 4, 2) := by decide +kernel
theorem dX7_land_17 : decode cX7_land 17 = .ok (.invokestatic 40, 3) := by decide +kernel
theorem dX7_land_20 : decode cX7_land 20 = .ok (.ifCond .eq 21, 3) := by decide +kernel
theorem dX7_land_23 : decode cX7_land 23 = .ok (.iload 5, 2) := by decide +kernel
theorem dX7_land_25 : decode cX7_land 25 = .ok (.invokestatic 46, 3) := by decide +kernel
theorem dX7_land_28 : decode cX7_land 28 = .ok (.ifCond .eq 13, 3) := by decide +kernel
theorem dX7_land_31 : decode cX7_land 31 = .ok (.iload 7, 2) := by decide +kernel
theorem dX7_land_33 : decode cX7_land 33 = .ok (.iload 8, 2) := by decide +kernel
theorem dX7_land_35 : decode cX7_land 35 = .ok (.invokestatic 50, 3) := by decide +kernel
theorem dX7_land_38 : decode cX7_land 38 = .ok (.ifCond .ne 5, 3) := by decide +kernel
theorem dX7_land_41 : decode cX7_land 41 = .ok (.iconst (-1), 1) := by decide +kernel
theorem dX7_land_42 : decode cX7_land 42 = .ok (.ireturn, 1) := by decide +kernel
theorem dX7_land_43 : decode cX7_land 43 = .ok (.new 41, 3) := by decide +kernel
theorem dX7_land_46 : decode cX7_land 46 = .ok (.dup, 1) := by decide +kernel
theorem dX7_land_47 : decode cX7_land 47 = .ok (.iload_n 1, 1) := by decide +kernel
theorem dX7_land_48 : decode cX7_land 48 = .ok (.iload_n 2, 1) := by decide +kernel
theorem dX7_land_49 : decode cX7_land 49 = .ok (.iload_n 3, 1) := by decide +kernel
theorem dX7_land_50 : decode cX7_land 50 = .ok (.iload 4, 2) := by decide +kernel
theorem dX7_land_52 : decode cX7_land 52 = .ok (.iload 5, 2) := by decide +kernel
theorem dX7_land_54 : decode cX7_land 54 = .ok (.iload 6, 2) := by decide +kernel
theorem dX7_land_56 : decode cX7_land 56 = .ok (.invokespecial 54, 3) := by decide +kernel
theorem dX7_land_59 : decode cX7_land 59 = .ok (.astore 9, 2) := by decide +kernel
theorem dX7_land_61 : decode cX7_land 61 = .ok (.aload 9, 2) := by decide +kernel
theorem dX7_land_63 : decode cX7_land 63 = .ok (.iload 7, 2) := by decide +kernel
theorem dX7_land_65 : decode cX7_land 65 = .ok (.iload 8, 2) := by decide +kernel
theorem dX7_land_67 : decode cX7_land 67 = .ok (.invokevirtual 57, 3) := by decide +kernel
theorem dX7_land_70 : decode cX7_land 70 = .ok (.aload_n 0, 1) := by decide +kernel
theorem dX7_land_71 : decode cX7_land 71 = .ok (.getfield 10, 3) := by decide +kernel
theorem dX7_land_74 : decode cX7_land 74 = .ok (.aload 9, 2) := by decide +kernel
theorem dX7_land_76 : decode cX7_land 76 = .ok (.invokevirtual 61, 3) := by decide +kernel
theorem dX7_land_79 : decode cX7_land 79 = .ok (.ireturn, 1) := by decide +kernel
theorem dX7_key_0 : decode cX7_key 0 = .ok (.iload_n 1, 1) := by decide +kernel
theorem dX7_key_1 : decode cX7_key 1 = .ok (.ifCond .lt 25, 3) := by decide +kernel
theorem dX7_key_4 : decode cX7_key 4 = .ok (.iload_n 1, 1) := by decide +kernel
theorem dX7_key_5 : decode cX7_key 5 = .ok (.sipush 255, 3) := by decide +kernel
theorem dX7_key_8 : decode cX7_key 8 = .ok (.if_icmp .gt 18, 3) := by decide +kernel
theorem dX7_key_11 : decode cX7_key 11 = .ok (.aload_n 0, 1) := by decide +kernel
theorem dX7_key_12 : decode cX7_key 12 = .ok (.getfield 10, 3) := by decide +kernel
theorem dX7_key_15 : decode cX7_key 15 = .ok (.getfield 65, 3) := by decide +kernel
theorem dX7_key_18 : decode cX7_key 18 = .ok (.invokevirtual 68, 3) := by decide +kernel
theorem dX7_key_21 : decode cX7_key 21 = .ok (.bipush 60, 2) := by decide +kernel
theorem dX7_key_23 : decode cX7_key 23 = .ok (.if_icmp .lt 5, 3) := by decide +kernel
theorem dX7_key_26 : decode cX7_key 26 = .ok (.iconst (-1), 1) := by decide +kernel
theorem dX7_key_27 : decode cX7_key 27 = .ok (.ireturn, 1) := by decide +kernel
theorem dX7_key_28 : decode cX7_key 28 = .ok (.aload_n 0, 1) := by decide +kernel
theorem dX7_key_29 : decode cX7_key 29 = .ok (.getfield 10, 3) := by decide +kernel
theorem dX7_key_32 : decode cX7_key 32 = .ok (.getfield 65, 3) := by decide +kernel
theorem dX7_key_35 : decode cX7_key 35 = .ok (.iload_n 1, 1) := by decide +kernel
theorem dX7_key_36 : decode cX7_key 36 = .ok (.invokevirtual 72, 3) := by decide +kernel
theorem dX7_key_39 : decode cX7_key 39 = .ok (.aload_n 0, 1) := by decide +kernel
theorem dX7_key_40 : decode cX7_key 40 = .ok (.getfield 10, 3) := by decide +kernel
theorem dX7_key_43 : decode cX7_key 43 = .ok (.getfield 65, 3) := by decide +kernel
theorem dX7_key_46 : decode cX7_key 46 = .ok (.invokevirtual 68, 3) := by decide +kernel
theorem dX7_key_49 : decode cX7_key 49 = .ok (.ireturn, 1) := by decide +kernel
theorem dX7_keys_0 : decode cX7_keys 0 = .ok (.iconst 0, 1) := by decide +kernel
theorem dX7_keys_1 : decode cX7_keys 1 = .ok (.istore_n 2, 1) := by decide +kernel
theorem dX7_keys_2 : decode cX7_keys 2 = .ok (.iload_n 2, 1) := by decide +kernel
theorem dX7_keys_3 : decode cX7_keys 3 = .ok (.iconst 4, 1) := by decide +kernel
theorem dX7_keys_4 : decode cX7_keys 4 = .ok (.if_icmp .ge 17, 3) := by decide +kernel
theorem dX7_keys_7 : decode cX7_keys 7 = .ok (.iload_n 1, 1) := by decide +kernel
theorem dX7_keys_8 : decode cX7_keys 8 = .ok (.iload_n 2, 1) := by decide +kernel
theorem dX7_keys_9 : decode cX7_keys 9 = .ok (.invokestatic 75, 3) := by decide +kernel
theorem dX7_keys_12 : decode cX7_keys 12 = .ok (.ifCond .eq 9, 3) := by decide +kernel
theorem dX7_keys_15 : decode cX7_keys 15 = .ok (.iinc 2 1, 3) := by decide +kernel
theorem dX7_keys_18 : decode cX7_keys 18 = .ok (.goto (-16), 3) := by decide +kernel
theorem dX7_keys_21 : decode cX7_keys 21 = .ok (.aload_n 0, 1) := by decide +kernel
theorem dX7_keys_22 : decode cX7_keys 22 = .ok (.getfield 10, 3) := by decide +kernel
theorem dX7_keys_25 : decode cX7_keys 25 = .ok (.getfield 65, 3) := by decide +kernel
theorem dX7_keys_28 : decode cX7_keys 28 = .ok (.invokevirtual 68, 3) := by decide +kernel
theorem dX7_keys_31 : decode cX7_keys 31 = .ok (.iload_n 2, 1) := by decide +kernel
theorem dX7_keys_32 : decode cX7_keys 32 = .ok (.iadd, 1) := by decide +kernel
theorem dX7_keys_33 : decode cX7_keys 33 = .ok (.bipush 60, 2) := by decide +kernel
theorem dX7_keys_35 : decode cX7_keys 35 = .ok (.if_icmp .le 5, 3) := by decide +kernel
theorem dX7_keys_38 : decode cX7_keys 38 = .ok (.iconst (-1), 1) := by decide +kernel
theorem dX7_keys_39 : decode cX7_keys 39 = .ok (.ireturn, 1) := by decide +kernel
theorem dX7_keys_40 : decode cX7_keys 40 = .ok (.iconst 0, 1) := by decide +kernel
theorem dX7_keys_41 : decode cX7_keys 41 = .ok (.istore_n 3, 1) := by decide +kernel
theorem dX7_keys_42 : decode cX7_keys 42 = .ok (.iload_n 3, 1) := by decide +kernel
theorem dX7_keys_43 : decode cX7_keys 43 = .ok (.iload_n 2, 1) := by decide +kernel
theorem dX7_keys_44 : decode cX7_keys 44 = .ok (.if_icmp .ge 24, 3) := by decide +kernel
theorem dX7_keys_47 : decode cX7_keys 47 = .ok (.aload_n 0, 1) := by decide +kernel
theorem dX7_keys_48 : decode cX7_keys 48 = .ok (.getfield 10, 3) := by decide +kernel
theorem dX7_keys_51 : decode cX7_keys 51 = .ok (.getfield 65, 3) := by decide +kernel
theorem dX7_keys_54 : decode cX7_keys 54 = .ok (.iload_n 1, 1) := by decide +kernel
theorem dX7_keys_55 : decode cX7_keys 55 = .ok (.iload_n 3, 1) := by decide +kernel
theorem dX7_keys_56 : decode cX7_keys 56 = .ok (.invokestatic 75, 3) := by decide +kernel
theorem dX7_keys_59 : decode cX7_keys 59 = .ok (.invokevirtual 72, 3) := by decide +kernel
theorem dX7_keys_62 : decode cX7_keys 62 = .ok (.iinc 3 1, 3) := by decide +kernel
theorem dX7_keys_65 : decode cX7_keys 65 = .ok (.goto (-23), 3) := by decide +kernel
theorem dX7_keys_68 : decode cX7_keys 68 = .ok (.aload_n 0, 1) := by decide +kernel
theorem dX7_keys_69 : decode cX7_keys 69 = .ok (.getfield 10, 3) := by decide +kernel
theorem dX7_keys_72 : decode cX7_keys 72 = .ok (.getfield 65, 3) := by decide +kernel
theorem dX7_keys_75 : decode cX7_keys 75 = .ok (.invokevirtual 68, 3) := by decide +kernel
theorem dX7_keys_78 : decode cX7_keys 78 = .ok (.ireturn, 1) := by decide +kernel
theorem dX7_undo_0 : decode cX7_undo 0 = .ok (.iload_n 1, 1) := by decide +kernel
theorem dX7_undo_1 : decode cX7_undo 1 = .ok (.ifCond .lt 17, 3) := by decide +kernel
theorem dX7_undo_4 : decode cX7_undo 4 = .ok (.iload_n 1, 1) := by decide +kernel
theorem dX7_undo_5 : decode cX7_undo 5 = .ok (.aload_n 0, 1) := by decide +kernel
theorem dX7_undo_6 : decode cX7_undo 6 = .ok (.getfield 10, 3) := by decide +kernel
theorem dX7_undo_9 : decode cX7_undo 9 = .ok (.getfield 65, 3) := by decide +kernel
theorem dX7_undo_12 : decode cX7_undo 12 = .ok (.invokevirtual 68, 3) := by decide +kernel
theorem dX7_undo_15 : decode cX7_undo 15 = .ok (.if_icmp .le 5, 3) := by decide +kernel
theorem dX7_undo_18 : decode cX7_undo 18 = .ok (.iconst (-1), 1) := by decide +kernel
theorem dX7_undo_19 : decode cX7_undo 19 = .ok (.ireturn, 1) := by decide +kernel
theorem dX7_undo_20 : decode cX7_undo 20 = .ok (.aload_n 0, 1) := by decide +kernel
theorem dX7_undo_21 : decode cX7_undo 21 = .ok (.getfield 10, 3) := by decide +kernel
theorem dX7_undo_24 : decode cX7_undo 24 = .ok (.getfield 65, 3) := by decide +kernel
theorem dX7_undo_27 : decode cX7_undo 27 = .ok (.iload_n 1, 1) := by decide +kernel
theorem dX7_undo_28 : decode cX7_undo 28 = .ok (.invokevirtual 79, 3) := by decide +kernel
theorem dX7_undo_31 : decode cX7_undo 31 = .ok (.aload_n 0, 1) := by decide +kernel
theorem dX7_undo_32 : decode cX7_undo 32 = .ok (.getfield 10, 3) := by decide +kernel
theorem dX7_undo_35 : decode cX7_undo 35 = .ok (.getfield 65, 3) := by decide +kernel
theorem dX7_undo_38 : decode cX7_undo 38 = .ok (.invokevirtual 68, 3) := by decide +kernel
theorem dX7_undo_41 : decode cX7_undo 41 = .ok (.ireturn, 1) := by decide +kernel
theorem dX7_bounds_0 : decode cX7_bounds 0 = .ok (.iload_n 1, 1) := by decide +kernel
theorem dX7_bounds_1 : decode cX7_bounds 1 = .ok (.invokestatic 82, 3) := by decide +kernel
theorem dX7_bounds_4 : decode cX7_bounds 4 = .ok (.ifCond .eq 10, 3) := by decide +kernel
theorem dX7_bounds_7 : decode cX7_bounds 7 = .ok (.lload_n 2, 1) := by decide +kernel
theorem dX7_bounds_8 : decode cX7_bounds 8 = .ok (.lload 4, 2) := by decide +kernel
theorem dX7_bounds_10 : decode cX7_bounds 10 = .ok (.lcmp, 1) := by decide +kernel
theorem dX7_bounds_11 : decode cX7_bounds 11 = .ok (.ifCond .le 5, 3) := by decide +kernel
theorem dX7_bounds_14 : decode cX7_bounds 14 = .ok (.iconst 0, 1) := by decide +kernel
theorem dX7_bounds_15 : decode cX7_bounds 15 = .ok (.ireturn, 1) := by decide +kernel
theorem dX7_bounds_16 : decode cX7_bounds 16 = .ok (.aload_n 0, 1) := by decide +kernel
theorem dX7_bounds_17 : decode cX7_bounds 17 = .ok (.getfield 10, 3) := by decide +kernel
theorem dX7_bounds_20 : decode cX7_bounds 20 = .ok (.iload_n 1, 1) := by decide +kernel
theorem dX7_bounds_21 : decode cX7_bounds 21 = .ok (.lload_n 2, 1) := by decide +kernel
theorem dX7_bounds_22 : decode cX7_bounds 22 = .ok (.lload 4, 2) := by decide +kernel
theorem dX7_bounds_24 : decode cX7_bounds 24 = .ok (.invokevirtual 85, 3) := by decide +kernel
theorem dX7_bounds_27 : decode cX7_bounds 27 = .ok (.iconst 1, 1) := by decide +kernel
theorem dX7_bounds_28 : decode cX7_bounds 28 = .ok (.ireturn, 1) := by decide +kernel
theorem dX7_value_0 : decode cX7_value 0 = .ok (.aload_n 0, 1) := by decide +kernel
theorem dX7_value_1 : decode cX7_value 1 = .ok (.getfield 10, 3) := by decide +kernel
theorem dX7_value_4 : decode cX7_value 4 = .ok (.iload_n 1, 1) := by decide +kernel
theorem dX7_value_5 : decode cX7_value 5 = .ok (.invokevirtual 89, 3) := by decide +kernel
theorem dX7_value_8 : decode cX7_value 8 = .ok (.astore_n 3, 1) := by decide +kernel
theorem dX7_value_9 : decode cX7_value 9 = .ok (.aload_n 3, 1) := by decide +kernel
theorem dX7_value_10 : decode cX7_value 10 = .ok (.ifnull 10, 3) := by decide +kernel
theorem dX7_value_13 : decode cX7_value 13 = .ok (.iload_n 2, 1) := by decide +kernel
theorem dX7_value_14 : decode cX7_value 14 = .ok (.invokestatic 82, 3) := by decide +kernel
theorem dX7_value_17 : decode cX7_value 17 = .ok (.ifCond .ne 7, 3) := by decide +kernel
theorem dX7_value_20 : decode cX7_value 20 = .ok (.ldc2_w 93, 3) := by decide +kernel
theorem dX7_value_23 : decode cX7_value 23 = .ok (.lreturn, 1) := by decide +kernel
theorem dX7_value_24 : decode cX7_value 24 = .ok (.aload_n 0, 1) := by decide +kernel
theorem dX7_value_25 : decode cX7_value 25 = .ok (.aload_n 0, 1) := by decide +kernel
theorem dX7_value_26 : decode cX7_value 26 = .ok (.getfield 10, 3) := by decide +kernel
theorem dX7_value_29 : decode cX7_value 29 = .ok (.getfield 65, 3) := by decide +kernel
theorem dX7_value_32 : decode cX7_value 32 = .ok (.invokevirtual 68, 3) := by decide +kernel
theorem dX7_value_35 : decode cX7_value 35 = .ok (.aload_n 3, 1) := by decide +kernel
theorem dX7_value_36 : decode cX7_value 36 = .ok (.iload_n 2, 1) := by decide +kernel
theorem dX7_value_37 : decode cX7_value 37 = .ok (.invokevirtual 95, 3) := by decide +kernel
theorem dX7_value_40 : decode cX7_value 40 = .ok (.istore 4, 2) := by decide +kernel
theorem dX7_value_42 : decode cX7_value 42 = .ok (.aload_n 0, 1) := by decide +kernel
theorem dX7_value_43 : decode cX7_value 43 = .ok (.iload 4, 2) := by decide +kernel
theorem dX7_value_45 : decode cX7_value 45 = .ok (.iload_n 2, 1) := by decide +kernel
theorem dX7_value_46 : decode cX7_value 46 = .ok (.invokevirtual 99, 3) := by decide +kernel
theorem dX7_value_49 : decode cX7_value 49 = .ok (.lreturn, 1) := by decide +kernel
theorem dX7_open_0 : decode cX7_open 0 = .ok (.aload_n 0, 1) := by decide +kernel
theorem dX7_open_1 : decode cX7_open 1 = .ok (.getfield 10, 3) := by decide +kernel
theorem dX7_open_4 : decode cX7_open 4 = .ok (.iload_n 1, 1) := by decide +kernel
theorem dX7_open_5 : decode cX7_open 5 = .ok (.invokevirtual 89, 3) := by decide +kernel
theorem dX7_open_8 : decode cX7_open 8 = .ok (.astore_n 3, 1) := by decide +kernel
theorem dX7_open_9 : decode cX7_open 9 = .ok (.aload_n 3, 1) := by decide +kernel
theorem dX7_open_10 : decode cX7_open 10 = .ok (.ifnull 34, 3) := by decide +kernel
theorem dX7_open_13 : decode cX7_open 13 = .ok (.iload_n 2, 1) := by decide +kernel
theorem dX7_open_14 : decode cX7_open 14 = .ok (.invokestatic 82, 3) := by decide +kernel
theorem dX7_open_17 : decode cX7_open 17 = .ok (.ifCond .eq 27, 3) := by decide +kernel
theorem dX7_open_20 : decode cX7_open 20 = .ok (.aload_n 0, 1) := by decide +kernel
theorem dX7_open_21 : decode cX7_open 21 = .ok (.aload_n 0, 1) := by decide +kernel
theorem dX7_open_22 : decode cX7_open 22 = .ok (.getfield 10, 3) := by decide +kernel
theorem dX7_open_25 : decode cX7_open 25 = .ok (.getfield 65, 3) := by decide +kernel
theorem dX7_open_28 : decode cX7_open 28 = .ok (.invokevirtual 68, 3) := by decide +kernel
theorem dX7_open_31 : decode cX7_open 31 = .ok (.aload_n 3, 1) := by decide +kernel
theorem dX7_open_32 : decode cX7_open 32 = .ok (.iload_n 2, 1) := by decide +kernel
theorem dX7_open_33 : decode cX7_open 33 = .ok (.invokevirtual 95, 3) := by decide +kernel
theorem dX7_open_36 : decode cX7_open 36 = .ok (.iconst 1, 1) := by decide +kernel
theorem dX7_open_37 : decode cX7_open 37 = .ok (.if_icmp .ne 7, 3) := by decide +kernel
theorem dX7_open_40 : decode cX7_open 40 = .ok (.iconst 1, 1) := by decide +kernel
theorem dX7_open_41 : decode cX7_open 41 = .ok (.goto 4, 3) := by decide +kernel
theorem dX7_open_44 : decode cX7_open 44 = .ok (.iconst 0, 1) := by decide +kernel
theorem dX7_open_45 : decode cX7_open 45 = .ok (.ireturn, 1) := by decide +kernel
theorem dX7_good_0 : decode cX7_good 0 = .ok (.aload_n 0, 1) := by decide +kernel
theorem dX7_good_1 : decode cX7_good 1 = .ok (.getfield 10, 3) := by decide +kernel
theorem dX7_good_4 : decode cX7_good 4 = .ok (.iload_n 1, 1) := by decide +kernel
theorem dX7_good_5 : decode cX7_good 5 = .ok (.invokevirtual 89, 3) := by decide +kernel
theorem dX7_good_8 : decode cX7_good 8 = .ok (.astore_n 3, 1) := by decide +kernel
theorem dX7_good_9 : decode cX7_good 9 = .ok (.aload_n 3, 1) := by decide +kernel
theorem dX7_good_10 : decode cX7_good 10 = .ok (.ifnull 10, 3) := by decide +kernel
theorem dX7_good_13 : decode cX7_good 13 = .ok (.iload_n 2, 1) := by decide +kernel
theorem dX7_good_14 : decode cX7_good 14 = .ok (.invokestatic 82, 3) := by decide +kernel
theorem dX7_good_17 : decode cX7_good 17 = .ok (.ifCond .ne 5, 3) := by decide +kernel
theorem dX7_good_20 : decode cX7_good 20 = .ok (.iconst (-1), 1) := by decide +kernel
theorem dX7_good_21 : decode cX7_good 21 = .ok (.ireturn, 1) := by decide +kernel
theorem dX7_good_22 : decode cX7_good 22 = .ok (.iconst 0, 1) := by decide +kernel
theorem dX7_good_23 : decode cX7_good 23 = .ok (.istore 4, 2) := by decide +kernel
theorem dX7_good_25 : decode cX7_good 25 = .ok (.iload 4, 2) := by decide +kernel
theorem dX7_good_27 : decode cX7_good 27 = .ok (.aload_n 0, 1) := by decide +kernel
theorem dX7_good_28 : decode cX7_good 28 = .ok (.getfield 10, 3) := by decide +kernel
theorem dX7_good_31 : decode cX7_good 31 = .ok (.getfield 65, 3) := by decide +kernel
theorem dX7_good_34 : decode cX7_good 34 = .ok (.invokevirtual 68, 3) := by decide +kernel
theorem dX7_good_37 : decode cX7_good 37 = .ok (.if_icmp .ge 23, 3) := by decide +kernel
theorem dX7_good_40 : decode cX7_good 40 = .ok (.aload_n 0, 1) := by decide +kernel
theorem dX7_good_41 : decode cX7_good 41 = .ok (.iload 4, 2) := by decide +kernel
theorem dX7_good_43 : decode cX7_good 43 = .ok (.iconst 1, 1) := by decide +kernel
theorem dX7_good_44 : decode cX7_good 44 = .ok (.iadd, 1) := by decide +kernel
theorem dX7_good_45 : decode cX7_good 45 = .ok (.aload_n 3, 1) := by decide +kernel
theorem dX7_good_46 : decode cX7_good 46 = .ok (.iload_n 2, 1) := by decide +kernel
theorem dX7_good_47 : decode cX7_good 47 = .ok (.invokevirtual 95, 3) := by decide +kernel
theorem dX7_good_50 : decode cX7_good 50 = .ok (.iconst 2, 1) := by decide +kernel
theorem dX7_good_51 : decode cX7_good 51 = .ok (.if_icmp .eq 9, 3) := by decide +kernel
theorem dX7_good_54 : decode cX7_good 54 = .ok (.iinc 4 1, 3) := by decide +kernel
theorem dX7_good_57 : decode cX7_good 57 = .ok (.goto (-32), 3) := by decide +kernel
theorem dX7_good_60 : decode cX7_good 60 = .ok (.iload 4, 2) := by decide +kernel
theorem dX7_good_62 : decode cX7_good 62 = .ok (.ireturn, 1) := by decide +kernel
theorem dX7_state_0 : decode cX7_state 0 = .ok (.iload_n 2, 1) := by decide +kernel
theorem dX7_state_1 : decode cX7_state 1 = .ok (.invokestatic 82, 3) := by decide +kernel
theorem dX7_state_4 : decode cX7_state 4 = .ok (.ifCond .ne 5, 3) := by decide +kernel
theorem dX7_state_7 : decode cX7_state 7 = .ok (.iconst (-1), 1) := by decide +kernel
theorem dX7_state_8 : decode cX7_state 8 = .ok (.ireturn, 1) := by decide +kernel
theorem dX7_state_9 : decode cX7_state 9 = .ok (.iconst 0, 1) := by decide +kernel
theorem dX7_state_10 : decode cX7_state 10 = .ok (.istore_n 3, 1) := by decide +kernel
theorem dX7_state_11 : decode cX7_state 11 = .ok (.iconst 1, 1) := by decide +kernel
theorem dX7_state_12 : decode cX7_state 12 = .ok (.istore 4, 2) := by decide +kernel
theorem dX7_state_14 : decode cX7_state 14 = .ok (.iconst 0, 1) := by decide +kernel
theorem dX7_state_15 : decode cX7_state 15 = .ok (.istore 5, 2) := by decide +kernel
theorem dX7_state_17 : decode cX7_state 17 = .ok (.lconst 0, 1) := by decide +kernel
theorem dX7_state_18 : decode cX7_state 18 = .ok (.lstore 6, 2) := by decide +kernel
theorem dX7_state_20 : decode cX7_state 20 = .ok (.iconst 0, 1) := by decide +kernel
theorem dX7_state_21 : decode cX7_state 21 = .ok (.istore 8, 2) := by decide +kernel
theorem dX7_state_23 : decode cX7_state 23 = .ok (.iload 8, 2) := by decide +kernel
theorem dX7_state_25 : decode cX7_state 25 = .ok (.bipush 6, 2) := by decide +kernel
theorem dX7_state_27 : decode cX7_state 27 = .ok (.if_icmp .ge 134, 3) := by decide +kernel
theorem dX7_state_30 : decode cX7_state 30 = .ok (.iload_n 1, 1) := by decide +kernel
theorem dX7_state_31 : decode cX7_state 31 = .ok (.iload 8, 2) := by decide +kernel
theorem dX7_state_33 : decode cX7_state 33 = .ok (.ishr, 1) := by decide +kernel
theorem dX7_state_34 : decode cX7_state 34 = .ok (.iconst 1, 1) := by decide +kernel
theorem dX7_state_35 : decode cX7_state 35 = .ok (.iand, 1) := by decide +kernel
theorem dX7_state_36 : decode cX7_state 36 = .ok (.iconst 1, 1) := by decide +kernel
theorem dX7_state_37 : decode cX7_state 37 = .ok (.if_icmp .ne 15, 3) := by decide +kernel
theorem dX7_state_40 : decode cX7_state 40 = .ok (.aload_n 0, 1) := by decide +kernel
theorem dX7_state_41 : decode cX7_state 41 = .ok (.getfield 10, 3) := by decide +kernel
theorem dX7_state_44 : decode cX7_state 44 = .ok (.iload 8, 2) := by decide +kernel
theorem dX7_state_46 : decode cX7_state 46 = .ok (.invokevirtual 89, 3) := by decide +kernel
theorem dX7_state_49 : decode cX7_state 49 = .ok (.goto 4, 3) := by decide +kernel
theorem dX7_state_52 : decode cX7_state 52 = .ok (.aconst_null, 1) := by decide +kernel
theorem dX7_state_53 : decode cX7_state 53 = .ok (.astore 9, 2) := by decide +kernel
theorem dX7_state_55 : decode cX7_state 55 = .ok (.aload 9, 2) := by decide +kernel
theorem dX7_state_57 : decode cX7_state 57 = .ok (.ifnonnull 7, 3) := by decide +kernel
theorem dX7_state_60 : decode cX7_state 60 = .ok (.iconst 2, 1) := by decide +kernel
theorem dX7_state_61 : decode cX7_state 61 = .ok (.goto 20, 3) := by decide +kernel
theorem dX7_state_64 : decode cX7_state 64 = .ok (.aload_n 0, 1) := by decide +kernel
theorem dX7_state_65 : decode cX7_state 65 = .ok (.aload_n 0, 1) := by decide +kernel
theorem dX7_state_66 : decode cX7_state 66 = .ok (.getfield 10, 3) := by decide +kernel
theorem dX7_state_69 : decode cX7_state 69 = .ok (.getfield 65, 3) := by decide +kernel
theorem dX7_state_72 : decode cX7_state 72 = .ok (.invokevirtual 68, 3) := by decide +kernel
theorem dX7_state_75 : decode cX7_state 75 = .ok (.aload 9, 2) := by decide +kernel
theorem dX7_state_77 : decode cX7_state 77 = .ok (.iload_n 2, 1) := by decide +kernel
theorem dX7_state_78 : decode cX7_state 78 = .ok (.invokevirtual 95, 3) := by decide +kernel
theorem dX7_state_81 : decode cX7_state 81 = .ok (.istore 10, 2) := by decide +kernel
theorem dX7_state_83 : decode cX7_state 83 = .ok (.aload_n 0, 1) := by decide +kernel
theorem dX7_state_84 : decode cX7_state 84 = .ok (.iload 10, 2) := by decide +kernel
theorem dX7_state_86 : decode cX7_state 86 = .ok (.iload_n 2, 1) := by decide +kernel
theorem dX7_state_87 : decode cX7_state 87 = .ok (.invokevirtual 99, 3) := by decide +kernel
theorem dX7_state_90 : decode cX7_state 90 = .ok (.lstore 11, 2) := by decide +kernel
theorem dX7_state_92 : decode cX7_state 92 = .ok (.lload 11, 2) := by decide +kernel
theorem dX7_state_94 : decode cX7_state 94 = .ok (.ldc2_w 93, 3) := by decide +kernel
theorem dX7_state_97 : decode cX7_state 97 = .ok (.lcmp, 1) := by decide +kernel
theorem dX7_state_98 : decode cX7_state 98 = .ok (.ifCond .ne 24, 3) := by decide +kernel
theorem dX7_state_101 : decode cX7_state 101 = .ok (.iload 5, 2) := by decide +kernel
theorem dX7_state_103 : decode cX7_state 103 = .ok (.ifCond .ne 9, 3) := by decide +kernel
theorem dX7_state_106 : decode cX7_state 106 = .ok (.iload 10, 2) := by decide +kernel
theorem dX7_state_108 : decode cX7_state 108 = .ok (.iconst 2, 1) := by decide +kernel
theorem dX7_state_109 : decode cX7_state 109 = .ok (.if_icmp .eq 7, 3) := by decide +kernel
theorem dX7_state_112 : decode cX7_state 112 = .ok (.iconst 1, 1) := by decide +kernel
theorem dX7_state_113 : decode cX7_state 113 = .ok (.goto 4, 3) := by decide +kernel
theorem dX7_state_116 : decode cX7_state 116 = .ok (.iconst 0, 1) := by decide +kernel
theorem dX7_state_117 : decode cX7_state 117 = .ok (.istore 5, 2) := by decide +kernel
theorem dX7_state_119 : decode cX7_state 119 = .ok (.goto 36, 3) := by decide +kernel
theorem dX7_state_122 : decode cX7_state 122 = .ok (.iload_n 3, 1) := by decide +kernel
theorem dX7_state_123 : decode cX7_state 123 = .ok (.ifCond .eq 26, 3) := by decide +kernel
theorem dX7_state_126 : decode cX7_state 126 = .ok (.iload 4, 2) := by decide +kernel
theorem dX7_state_128 : decode cX7_state 128 = .ok (.ifCond .eq 15, 3) := by decide +kernel
theorem dX7_state_131 : decode cX7_state 131 = .ok (.lload 11, 2) := by decide +kernel
theorem dX7_state_133 : decode cX7_state 133 = .ok (.lload 6, 2) := by decide +kernel
theorem dX7_state_135 : decode cX7_state 135 = .ok (.lcmp, 1) := by decide +kernel
theorem dX7_state_136 : decode cX7_state 136 = .ok (.ifCond .ne 7, 3) := by decide +kernel
theorem dX7_state_139 : decode cX7_state 139 = .ok (.iconst 1, 1) := by decide +kernel
theorem dX7_state_140 : decode cX7_state 140 = .ok (.goto 4, 3) := by decide +kernel
theorem dX7_state_143 : decode cX7_state 143 = .ok (.iconst 0, 1) := by decide +kernel
theorem dX7_state_144 : decode cX7_state 144 = .ok (.istore 4, 2) := by decide +kernel
theorem dX7_state_146 : decode cX7_state 146 = .ok (.goto 9, 3) := by decide +kernel
theorem dX7_state_149 : decode cX7_state 149 = .ok (.iconst 1, 1) := by decide +kernel
theorem dX7_state_150 : decode cX7_state 150 = .ok (.istore_n 3, 1) := by decide +kernel
theorem dX7_state_151 : decode cX7_state 151 = .ok (.lload 11, 2) := by decide +kernel
theorem dX7_state_153 : decode cX7_state 153 = .ok (.lstore 6, 2) := by decide +kernel
theorem dX7_state_155 : decode cX7_state 155 = .ok (.iinc 8 1, 3) := by decide +kernel
theorem dX7_state_158 : decode cX7_state 158 = .ok (.goto (-135), 3) := by decide +kernel
theorem dX7_state_161 : decode cX7_state 161 = .ok (.iload_n 3, 1) := by decide +kernel
theorem dX7_state_162 : decode cX7_state 162 = .ok (.ifCond .eq 14, 3) := by decide +kernel
theorem dX7_state_165 : decode cX7_state 165 = .ok (.iload 4, 2) := by decide +kernel
theorem dX7_state_167 : decode cX7_state 167 = .ok (.ifCond .eq 7, 3) := by decide +kernel
theorem dX7_state_170 : decode cX7_state 170 = .ok (.iconst 0, 1) := by decide +kernel
theorem dX7_state_171 : decode cX7_state 171 = .ok (.goto 4, 3) := by decide +kernel
theorem dX7_state_174 : decode cX7_state 174 = .ok (.iconst 2, 1) := by decide +kernel
theorem dX7_state_175 : decode cX7_state 175 = .ok (.ireturn, 1) := by decide +kernel
theorem dX7_state_176 : decode cX7_state 176 = .ok (.iload 5, 2) := by decide +kernel
theorem dX7_state_178 : decode cX7_state 178 = .ok (.ifCond .eq 7, 3) := by decide +kernel
theorem dX7_state_181 : decode cX7_state 181 = .ok (.iconst 1, 1) := by decide +kernel
theorem dX7_state_182 : decode cX7_state 182 = .ok (.goto 4, 3) := by decide +kernel
theorem dX7_state_185 : decode cX7_state 185 = .ok (.iconst 3, 1) := by decide +kernel
theorem dX7_state_186 : decode cX7_state 186 = .ok (.ireturn, 1) := by decide +kernel
theorem dX7_show_0 : decode cX7_show 0 = .ok (.aload_n 0, 1) := by decide +kernel
theorem dX7_show_1 : decode cX7_show 1 = .ok (.getfield 10, 3) := by decide +kernel
theorem dX7_show_4 : decode cX7_show 4 = .ok (.getfield 103, 3) := by decide +kernel
theorem dX7_show_7 : decode cX7_show 7 = .ok (.aload_n 0, 1) := by decide +kernel
theorem dX7_show_8 : decode cX7_show 8 = .ok (.getfield 10, 3) := by decide +kernel
theorem dX7_show_11 : decode cX7_show 11 = .ok (.iload_n 1, 1) := by decide +kernel
theorem dX7_show_12 : decode cX7_show 12 = .ok (.invokevirtual 89, 3) := by decide +kernel
theorem dX7_show_15 : decode cX7_show 15 = .ok (.iload_n 2, 1) := by decide +kernel
theorem dX7_show_16 : decode cX7_show 16 = .ok (.lload_n 3, 1) := by decide +kernel
theorem dX7_show_17 : decode cX7_show 17 = .ok (.iload 5, 2) := by decide +kernel
theorem dX7_show_19 : decode cX7_show 19 = .ok (.invokestatic 106, 3) := by decide +kernel
theorem dX7_show_22 : decode cX7_show 22 = .ok (.ireturn, 1) := by decide +kernel
theorem dX7_words_0 : decode cX7_words 0 = .ok (.iload_n 1, 1) := by decide +kernel
theorem dX7_words_1 : decode cX7_words 1 = .ok (.ifCond .lt 9, 3) := by decide +kernel
theorem dX7_words_4 : decode cX7_words 4 = .ok (.iload_n 1, 1) := by decide +kernel
theorem dX7_words_5 : decode cX7_words 5 = .ok (.ldc 110, 2) := by decide +kernel
theorem dX7_words_7 : decode cX7_words 7 = .ok (.if_icmp .le 5, 3) := by decide +kernel
theorem dX7_words_10 : decode cX7_words 10 = .ok (.iconst (-1), 1) := by decide +kernel
theorem dX7_words_11 : decode cX7_words 11 = .ok (.ireturn, 1) := by decide +kernel
theorem dX7_words_12 : decode cX7_words 12 = .ok (.aload_n 0, 1) := by decide +kernel
theorem dX7_words_13 : decode cX7_words 13 = .ok (.getfield 10, 3) := by decide +kernel
theorem dX7_words_16 : decode cX7_words 16 = .ok (.getfield 103, 3) := by decide +kernel
theorem dX7_words_19 : decode cX7_words 19 = .ok (.iload_n 1, 1) := by decide +kernel
theorem dX7_words_20 : decode cX7_words 20 = .ok (.invokestatic 111, 3) := by decide +kernel
theorem dX7_words_23 : decode cX7_words 23 = .ok (.aload_n 0, 1) := by decide +kernel
theorem dX7_words_24 : decode cX7_words 24 = .ok (.getfield 10, 3) := by decide +kernel
theorem dX7_words_27 : decode cX7_words 27 = .ok (.getfield 103, 3) := by decide +kernel
theorem dX7_words_30 : decode cX7_words 30 = .ok (.invokevirtual 68, 3) := by decide +kernel
theorem dX7_words_33 : decode cX7_words 33 = .ok (.ireturn, 1) := by decide +kernel
theorem dX7_shown_0 : decode cX7_shown 0 = .ok (.aload_n 0, 1) := by decide +kernel
theorem dX7_shown_1 : decode cX7_shown 1 = .ok (.getfield 10, 3) := by decide +kernel
theorem dX7_shown_4 : decode cX7_shown 4 = .ok (.getfield 103, 3) := by decide +kernel
theorem dX7_shown_7 : decode cX7_shown 7 = .ok (.iload_n 1, 1) := by decide +kernel
theorem dX7_shown_8 : decode cX7_shown 8 = .ok (.invokevirtual 117, 3) := by decide +kernel
theorem dX7_shown_11 : decode cX7_shown 11 = .ok (.ireturn, 1) := by decide +kernel
theorem dX7_take_0 : decode cX7_take 0 = .ok (.aload_n 0, 1) := by decide +kernel
theorem dX7_take_1 : decode cX7_take 1 = .ok (.getfield 10, 3) := by decide +kernel
theorem dX7_take_4 : decode cX7_take 4 = .ok (.getfield 103, 3) := by decide +kernel
theorem dX7_take_7 : decode cX7_take 7 = .ok (.invokevirtual 68, 3) := by decide +kernel
theorem dX7_take_10 : decode cX7_take 10 = .ok (.istore_n 1, 1) := by decide +kernel
theorem dX7_take_11 : decode cX7_take 11 = .ok (.iload_n 1, 1) := by decide +kernel
theorem dX7_take_12 : decode cX7_take 12 = .ok (.ifCond .eq 9, 3) := by decide +kernel
theorem dX7_take_15 : decode cX7_take 15 = .ok (.iload_n 1, 1) := by decide +kernel
theorem dX7_take_16 : decode cX7_take 16 = .ok (.bipush 60, 2) := by decide +kernel
theorem dX7_take_18 : decode cX7_take 18 = .ok (.if_icmp .le 5, 3) := by decide +kernel
theorem dX7_take_21 : decode cX7_take 21 = .ok (.iconst (-1), 1) := by decide +kernel
theorem dX7_take_22 : decode cX7_take 22 = .ok (.ireturn, 1) := by decide +kernel
theorem dX7_take_23 : decode cX7_take 23 = .ok (.aload_n 0, 1) := by decide +kernel
theorem dX7_take_24 : decode cX7_take 24 = .ok (.getfield 10, 3) := by decide +kernel
theorem dX7_take_27 : decode cX7_take 27 = .ok (.getfield 65, 3) := by decide +kernel
theorem dX7_take_30 : decode cX7_take 30 = .ok (.aload_n 0, 1) := by decide +kernel
theorem dX7_take_31 : decode cX7_take 31 = .ok (.getfield 10, 3) := by decide +kernel
theorem dX7_take_34 : decode cX7_take 34 = .ok (.getfield 103, 3) := by decide +kernel
theorem dX7_take_37 : decode cX7_take 37 = .ok (.invokevirtual 121, 3) := by decide +kernel
theorem dX7_take_40 : decode cX7_take 40 = .ok (.iload_n 1, 1) := by decide +kernel
theorem dX7_take_41 : decode cX7_take 41 = .ok (.ireturn, 1) := by decide +kernel
theorem dX7_spoken_0 : decode cX7_spoken 0 = .ok (.aload_n 0, 1) := by decide +kernel
theorem dX7_spoken_1 : decode cX7_spoken 1 = .ok (.getfield 10, 3) := by decide +kernel
theorem dX7_spoken_4 : decode cX7_spoken 4 = .ok (.getfield 65, 3) := by decide +kernel
theorem dX7_spoken_7 : decode cX7_spoken 7 = .ok (.invokestatic 125, 3) := by decide +kernel
theorem dX7_spoken_10 : decode cX7_spoken 10 = .ok (.istore_n 1, 1) := by decide +kernel
theorem dX7_spoken_11 : decode cX7_spoken 11 = .ok (.iload_n 1, 1) := by decide +kernel
theorem dX7_spoken_12 : decode cX7_spoken 12 = .ok (.ifCond .lt 9, 3) := by decide +kernel
theorem dX7_spoken_15 : decode cX7_spoken 15 = .ok (.iload_n 1, 1) := by decide +kernel
theorem dX7_spoken_16 : decode cX7_spoken 16 = .ok (.ldc 110, 2) := by decide +kernel
theorem dX7_spoken_18 : decode cX7_spoken 18 = .ok (.if_icmp .le 5, 3) := by decide +kernel
theorem dX7_spoken_21 : decode cX7_spoken 21 = .ok (.iconst (-1), 1) := by decide +kernel
theorem dX7_spoken_22 : decode cX7_spoken 22 = .ok (.ireturn, 1) := by decide +kernel
theorem dX7_spoken_23 : decode cX7_spoken 23 = .ok (.aload_n 0, 1) := by decide +kernel
theorem dX7_spoken_24 : decode cX7_spoken 24 = .ok (.getfield 32, 3) := by decide +kernel
theorem dX7_spoken_27 : decode cX7_spoken 27 = .ok (.iload_n 1, 1) := by decide +kernel
theorem dX7_spoken_28 : decode cX7_spoken 28 = .ok (.invokestatic 111, 3) := by decide +kernel
theorem dX7_spoken_31 : decode cX7_spoken 31 = .ok (.aload_n 0, 1) := by decide +kernel
theorem dX7_spoken_32 : decode cX7_spoken 32 = .ok (.getfield 32, 3) := by decide +kernel
theorem dX7_spoken_35 : decode cX7_spoken 35 = .ok (.aload_n 0, 1) := by decide +kernel
theorem dX7_spoken_36 : decode cX7_spoken 36 = .ok (.getfield 10, 3) := by decide +kernel
theorem dX7_spoken_39 : decode cX7_spoken 39 = .ok (.getfield 65, 3) := by decide +kernel
theorem dX7_spoken_42 : decode cX7_spoken 42 = .ok (.invokevirtual 129, 3) := by decide +kernel
theorem dX7_spoken_45 : decode cX7_spoken 45 = .ok (.ifCond .eq 7, 3) := by decide +kernel
theorem dX7_spoken_48 : decode cX7_spoken 48 = .ok (.iload_n 1, 1) := by decide +kernel
theorem dX7_spoken_49 : decode cX7_spoken 49 = .ok (.goto 4, 3) := by decide +kernel
theorem dX7_spoken_52 : decode cX7_spoken 52 = .ok (.iconst (-1), 1) := by decide +kernel
theorem dX7_spoken_53 : decode cX7_spoken 53 = .ok (.ireturn, 1) := by decide +kernel
theorem dX7_other_0 : decode cX7_other 0 = .ok (.aload_n 0, 1) := by decide +kernel
theorem dX7_other_1 : decode cX7_other 1 = .ok (.getfield 10, 3) := by decide +kernel
theorem dX7_other_4 : decode cX7_other 4 = .ok (.iload_n 2, 1) := by decide +kernel
theorem dX7_other_5 : decode cX7_other 5 = .ok (.invokevirtual 89, 3) := by decide +kernel
theorem dX7_other_8 : decode cX7_other 8 = .ok (.astore 7, 2) := by decide +kernel
theorem dX7_other_10 : decode cX7_other 10 = .ok (.aload_n 0, 1) := by decide +kernel
theorem dX7_other_11 : decode cX7_other 11 = .ok (.getfield 32, 3) := by decide +kernel
theorem dX7_other_14 : decode cX7_other 14 = .ok (.aload_n 0, 1) := by decide +kernel
theorem dX7_other_15 : decode cX7_other 15 = .ok (.getfield 10, 3) := by decide +kernel
theorem dX7_other_18 : decode cX7_other 18 = .ok (.iload_n 1, 1) := by decide +kernel
theorem dX7_other_19 : decode cX7_other 19 = .ok (.invokevirtual 89, 3) := by decide +kernel
theorem dX7_other_22 : decode cX7_other 22 = .ok (.iload_n 3, 1) := by decide +kernel
theorem dX7_other_23 : decode cX7_other 23 = .ok (.lload 4, 2) := by decide +kernel
theorem dX7_other_25 : decode cX7_other 25 = .ok (.iload 6, 2) := by decide +kernel
theorem dX7_other_27 : decode cX7_other 27 = .ok (.invokestatic 106, 3) := by decide +kernel
theorem dX7_other_30 : decode cX7_other 30 = .ok (.istore 8, 2) := by decide +kernel
theorem dX7_other_32 : decode cX7_other 32 = .ok (.aload 7, 2) := by decide +kernel
theorem dX7_other_34 : decode cX7_other 34 = .ok (.ifnull 9, 3) := by decide +kernel
theorem dX7_other_37 : decode cX7_other 37 = .ok (.iload 8, 2) := by decide +kernel
theorem dX7_other_39 : decode cX7_other 39 = .ok (.iconst (-1), 1) := by decide +kernel
theorem dX7_other_40 : decode cX7_other 40 = .ok (.if_icmp .ne 7, 3) := by decide +kernel
theorem dX7_other_43 : decode cX7_other 43 = .ok (.ldc2_w 93, 3) := by decide +kernel
theorem dX7_other_46 : decode cX7_other 46 = .ok (.lreturn, 1) := by decide +kernel
theorem dX7_other_47 : decode cX7_other 47 = .ok (.aload_n 0, 1) := by decide +kernel
theorem dX7_other_48 : decode cX7_other 48 = .ok (.getfield 23, 3) := by decide +kernel
theorem dX7_other_51 : decode cX7_other 51 = .ok (.aload_n 0, 1) := by decide +kernel
theorem dX7_other_52 : decode cX7_other 52 = .ok (.getfield 32, 3) := by decide +kernel
theorem dX7_other_55 : decode cX7_other 55 = .ok (.getfield 133, 3) := by decide +kernel
theorem dX7_other_58 : decode cX7_other 58 = .ok (.iconst 0, 1) := by decide +kernel
theorem dX7_other_59 : decode cX7_other 59 = .ok (.iload 8, 2) := by decide +kernel
theorem dX7_other_61 : decode cX7_other 61 = .ok (.aload 7, 2) := by decide +kernel
theorem dX7_other_63 : decode cX7_other 63 = .ok (.iload_n 3, 1) := by decide +kernel
theorem dX7_other_64 : decode cX7_other 64 = .ok (.invokevirtual 137, 3) := by decide +kernel
theorem dX7_other_67 : decode cX7_other 67 = .ok (.istore 9, 2) := by decide +kernel
theorem dX7_other_69 : decode cX7_other 69 = .ok (.iload 9, 2) := by decide +kernel
theorem dX7_other_71 : decode cX7_other 71 = .ok (.ifCond .ne 13, 3) := by decide +kernel
theorem dX7_other_74 : decode cX7_other 74 = .ok (.aload_n 0, 1) := by decide +kernel
theorem dX7_other_75 : decode cX7_other 75 = .ok (.getfield 23, 3) := by decide +kernel
theorem dX7_other_78 : decode cX7_other 78 = .ok (.getfield 141, 3) := by decide +kernel
theorem dX7_other_81 : decode cX7_other 81 = .ok (.goto 6, 3) := by decide +kernel
theorem dX7_other_84 : decode cX7_other 84 = .ok (.ldc2_w 93, 3) := by decide +kernel
theorem dX7_other_87 : decode cX7_other 87 = .ok (.lreturn, 1) := by decide +kernel
theorem dX7_row_0 : decode cX7_row 0 = .ok (.aload_n 0, 1) := by decide +kernel
theorem dX7_row_1 : decode cX7_row 1 = .ok (.getfield 10, 3) := by decide +kernel
theorem dX7_row_4 : decode cX7_row 4 = .ok (.invokevirtual 145, 3) := by decide +kernel
theorem dX7_row_7 : decode cX7_row 7 = .ok (.ireturn, 1) := by decide +kernel
theorem dX7_clear_0 : decode cX7_clear 0 = .ok (.aload_n 0, 1) := by decide +kernel
theorem dX7_clear_1 : decode cX7_clear 1 = .ok (.getfield 10, 3) := by decide +kernel
theorem dX7_clear_4 : decode cX7_clear 4 = .ok (.iconst 0, 1) := by decide +kernel
theorem dX7_clear_5 : decode cX7_clear 5 = .ok (.putfield 148, 3) := by decide +kernel
theorem dX7_clear_8 : decode cX7_clear 8 = .ok (.return_, 1) := by decide +kernel
theorem dX7_fit_0 : decode cX7_fit 0 = .ok (.iload_n 1, 1) := by decide +kernel
theorem dX7_fit_1 : decode cX7_fit 1 = .ok (.invokestatic 82, 3) := by decide +kernel
theorem dX7_fit_4 : decode cX7_fit 4 = .ok (.ifCond .ne 5, 3) := by decide +kernel
theorem dX7_fit_7 : decode cX7_fit 7 = .ok (.iconst (-1), 1) := by decide +kernel
theorem dX7_fit_8 : decode cX7_fit 8 = .ok (.ireturn, 1) := by decide +kernel
theorem dX7_fit_9 : decode cX7_fit 9 = .ok (.iconst 1, 1) := by decide +kernel
theorem dX7_fit_10 : decode cX7_fit 10 = .ok (.aload_n 0, 1) := by decide +kernel
theorem dX7_fit_11 : decode cX7_fit 11 = .ok (.getfield 10, 3) := by decide +kernel
theorem dX7_fit_14 : decode cX7_fit 14 = .ok (.getfield 36, 3) := by decide +kernel
theorem dX7_fit_17 : decode cX7_fit 17 = .ok (.ishl, 1) := by decide +kernel
theorem dX7_fit_18 : decode cX7_fit 18 = .ok (.iconst 1, 1) := by decide +kernel
theorem dX7_fit_19 : decode cX7_fit 19 = .ok (.isub, 1) := by decide +kernel
theorem dX7_fit_20 : decode cX7_fit 20 = .ok (.istore_n 2, 1) := by decide +kernel
theorem dX7_fit_21 : decode cX7_fit 21 = .ok (.iconst 0, 1) := by decide +kernel
theorem dX7_fit_22 : decode cX7_fit 22 = .ok (.istore_n 3, 1) := by decide +kernel
theorem dX7_fit_23 : decode cX7_fit 23 = .ok (.iload_n 3, 1) := by decide +kernel
theorem dX7_fit_24 : decode cX7_fit 24 = .ok (.aload_n 0, 1) := by decide +kernel
theorem dX7_fit_25 : decode cX7_fit 25 = .ok (.getfield 10, 3) := by decide +kernel
theorem dX7_fit_28 : decode cX7_fit 28 = .ok (.getfield 36, 3) := by decide +kernel
theorem dX7_fit_31 : decode cX7_fit 31 = .ok (.if_icmp .ge 78, 3) := by decide +kernel
theorem dX7_fit_34 : decode cX7_fit 34 = .ok (.aload_n 0, 1) := by decide +kernel
theorem dX7_fit_35 : decode cX7_fit 35 = .ok (.getfield 10, 3) := by decide +kernel
theorem dX7_fit_38 : decode cX7_fit 38 = .ok (.iload_n 3, 1) := by decide +kernel
theorem dX7_fit_39 : decode cX7_fit 39 = .ok (.invokevirtual 89, 3) := by decide +kernel
theorem dX7_fit_42 : decode cX7_fit 42 = .ok (.astore 4, 2) := by decide +kernel
theorem dX7_fit_44 : decode cX7_fit 44 = .ok (.iconst 1, 1) := by decide +kernel
theorem dX7_fit_45 : decode cX7_fit 45 = .ok (.iload_n 3, 1) := by decide +kernel
theorem dX7_fit_46 : decode cX7_fit 46 = .ok (.ishl, 1) := by decide +kernel
theorem dX7_fit_47 : decode cX7_fit 47 = .ok (.istore 5, 2) := by decide +kernel
theorem dX7_fit_49 : decode cX7_fit 49 = .ok (.iconst 0, 1) := by decide +kernel
theorem dX7_fit_50 : decode cX7_fit 50 = .ok (.istore 6, 2) := by decide +kernel
theorem dX7_fit_52 : decode cX7_fit 52 = .ok (.iload 6, 2) := by decide +kernel
theorem dX7_fit_54 : decode cX7_fit 54 = .ok (.aload_n 0, 1) := by decide +kernel
theorem dX7_fit_55 : decode cX7_fit 55 = .ok (.getfield 10, 3) := by decide +kernel
theorem dX7_fit_58 : decode cX7_fit 58 = .ok (.getfield 148, 3) := by decide +kernel
theorem dX7_fit_61 : decode cX7_fit 61 = .ok (.if_icmp .ge 42, 3) := by decide +kernel
theorem dX7_fit_64 : decode cX7_fit 64 = .ok (.aload 4, 2) := by decide +kernel
theorem dX7_fit_66 : decode cX7_fit 66 = .ok (.ifnull 37, 3) := by decide +kernel
theorem dX7_fit_69 : decode cX7_fit 69 = .ok (.iload_n 2, 1) := by decide +kernel
theorem dX7_fit_70 : decode cX7_fit 70 = .ok (.iload 5, 2) := by decide +kernel
theorem dX7_fit_72 : decode cX7_fit 72 = .ok (.iand, 1) := by decide +kernel
theorem dX7_fit_73 : decode cX7_fit 73 = .ok (.ifCond .eq 30, 3) := by decide +kernel
theorem dX7_fit_76 : decode cX7_fit 76 = .ok (.aload_n 0, 1) := by decide +kernel
theorem dX7_fit_77 : decode cX7_fit 77 = .ok (.iload 6, 2) := by decide +kernel
theorem dX7_fit_79 : decode cX7_fit 79 = .ok (.aload 4, 2) := by decide +kernel
theorem dX7_fit_81 : decode cX7_fit 81 = .ok (.iload_n 1, 1) := by decide +kernel
theorem dX7_fit_82 : decode cX7_fit 82 = .ok (.invokevirtual 151, 3) := by decide +kernel
theorem dX7_fit_85 : decode cX7_fit 85 = .ok (.ldc2_w 93, 3) := by decide +kernel
theorem dX7_fit_88 : decode cX7_fit 88 = .ok (.lcmp, 1) := by decide +kernel
theorem dX7_fit_89 : decode cX7_fit 89 = .ok (.ifCond .ne 8, 3) := by decide +kernel
theorem dX7_fit_92 : decode cX7_fit 92 = .ok (.iload_n 2, 1) := by decide +kernel
theorem dX7_fit_93 : decode cX7_fit 93 = .ok (.iload 5, 2) := by decide +kernel
theorem dX7_fit_95 : decode cX7_fit 95 = .ok (.isub, 1) := by decide +kernel
theorem dX7_fit_96 : decode cX7_fit 96 = .ok (.istore_n 2, 1) := by decide +kernel
theorem dX7_fit_97 : decode cX7_fit 97 = .ok (.iinc 6 1, 3) := by decide +kernel
theorem dX7_fit_100 : decode cX7_fit 100 = .ok (.goto (-48), 3) := by decide +kernel
theorem dX7_fit_103 : decode cX7_fit 103 = .ok (.iinc 3 1, 3) := by decide +kernel
theorem dX7_fit_106 : decode cX7_fit 106 = .ok (.goto (-83), 3) := by decide +kernel
theorem dX7_fit_109 : decode cX7_fit 109 = .ok (.iload_n 2, 1) := by decide +kernel
theorem dX7_fit_110 : decode cX7_fit 110 = .ok (.ireturn, 1) := by decide +kernel
theorem dX7_misfit_0 : decode cX7_misfit 0 = .ok (.aload_n 0, 1) := by decide +kernel
theorem dX7_misfit_1 : decode cX7_misfit 1 = .ok (.getfield 10, 3) := by decide +kernel
theorem dX7_misfit_4 : decode cX7_misfit 4 = .ok (.iload_n 1, 1) := by decide +kernel
theorem dX7_misfit_5 : decode cX7_misfit 5 = .ok (.invokevirtual 89, 3) := by decide +kernel
theorem dX7_misfit_8 : decode cX7_misfit 8 = .ok (.astore_n 3, 1) := by decide +kernel
theorem dX7_misfit_9 : decode cX7_misfit 9 = .ok (.aload_n 3, 1) := by decide +kernel
theorem dX7_misfit_10 : decode cX7_misfit 10 = .ok (.ifnull 10, 3) := by decide +kernel
theorem dX7_misfit_13 : decode cX7_misfit 13 = .ok (.iload_n 2, 1) := by decide +kernel
theorem dX7_misfit_14 : decode cX7_misfit 14 = .ok (.invokestatic 82, 3) := by decide +kernel
theorem dX7_misfit_17 : decode cX7_misfit 17 = .ok (.ifCond .ne 5, 3) := by decide +kernel
theorem dX7_misfit_20 : decode cX7_misfit 20 = .ok (.iconst (-1), 1) := by decide +kernel
theorem dX7_misfit_21 : decode cX7_misfit 21 = .ok (.ireturn, 1) := by decide +kernel
theorem dX7_misfit_22 : decode cX7_misfit 22 = .ok (.iconst 0, 1) := by decide +kernel
theorem dX7_misfit_23 : decode cX7_misfit 23 = .ok (.istore 4, 2) := by decide +kernel
theorem dX7_misfit_25 : decode cX7_misfit 25 = .ok (.iload 4, 2) := by decide +kernel
theorem dX7_misfit_27 : decode cX7_misfit 27 = .ok (.aload_n 0, 1) := by decide +kernel
theorem dX7_misfit_28 : decode cX7_misfit 28 = .ok (.getfield 10, 3) := by decide +kernel
theorem dX7_misfit_31 : decode cX7_misfit 31 = .ok (.getfield 148, 3) := by decide +kernel
theorem dX7_misfit_34 : decode cX7_misfit 34 = .ok (.if_icmp .ge 27, 3) := by decide +kernel
theorem dX7_misfit_37 : decode cX7_misfit 37 = .ok (.aload_n 0, 1) := by decide +kernel
theorem dX7_misfit_38 : decode cX7_misfit 38 = .ok (.iload 4, 2) := by decide +kernel
theorem dX7_misfit_40 : decode cX7_misfit 40 = .ok (.aload_n 3, 1) := by decide +kernel
theorem dX7_misfit_41 : decode cX7_misfit 41 = .ok (.iload_n 2, 1) := by decide +kernel
theorem dX7_misfit_42 : decode cX7_misfit 42 = .ok (.invokevirtual 151, 3) := by decide +kernel
theorem dX7_misfit_45 : decode cX7_misfit 45 = .ok (.ldc2_w 93, 3) := by decide +kernel
theorem dX7_misfit_48 : decode cX7_misfit 48 = .ok (.lcmp, 1) := by decide +kernel
theorem dX7_misfit_49 : decode cX7_misfit 49 = .ok (.ifCond .ne 6, 3) := by decide +kernel
theorem dX7_misfit_52 : decode cX7_misfit 52 = .ok (.iload 4, 2) := by decide +kernel
theorem dX7_misfit_54 : decode cX7_misfit 54 = .ok (.ireturn, 1) := by decide +kernel
theorem dX7_misfit_55 : decode cX7_misfit 55 = .ok (.iinc 4 1, 3) := by decide +kernel
theorem dX7_misfit_58 : decode cX7_misfit 58 = .ok (.goto (-33), 3) := by decide +kernel
theorem dX7_misfit_61 : decode cX7_misfit 61 = .ok (.iconst (-1), 1) := by decide +kernel
theorem dX7_misfit_62 : decode cX7_misfit 62 = .ok (.ireturn, 1) := by decide +kernel
theorem dX7_sum_0 : decode cX7_sum 0 = .ok (.aload_n 0, 1) := by decide +kernel
theorem dX7_sum_1 : decode cX7_sum 1 = .ok (.getfield 10, 3) := by decide +kernel
theorem dX7_sum_4 : decode cX7_sum 4 = .ok (.iload_n 1, 1) := by decide +kernel
theorem dX7_sum_5 : decode cX7_sum 5 = .ok (.invokevirtual 89, 3) := by decide +kernel
theorem dX7_sum_8 : decode cX7_sum 8 = .ok (.astore_n 3, 1) := by decide +kernel
theorem dX7_sum_9 : decode cX7_sum 9 = .ok (.aload_n 3, 1) := by decide +kernel
theorem dX7_sum_10 : decode cX7_sum 10 = .ok (.ifnull 12, 3) := by decide +kernel
theorem dX7_sum_13 : decode cX7_sum 13 = .ok (.iload_n 2, 1) := by decide +kernel
theorem dX7_sum_14 : decode cX7_sum 14 = .ok (.ifCond .eq 12, 3) := by decide +kernel
theorem dX7_sum_17 : decode cX7_sum 17 = .ok (.iload_n 2, 1) := by decide +kernel
theorem dX7_sum_18 : decode cX7_sum 18 = .ok (.iconst 1, 1) := by decide +kernel
theorem dX7_sum_19 : decode cX7_sum 19 = .ok (.if_icmp .eq 7, 3) := by decide +kernel
theorem dX7_sum_22 : decode cX7_sum 22 = .ok (.ldc2_w 93, 3) := by decide +kernel
theorem dX7_sum_25 : decode cX7_sum 25 = .ok (.lreturn, 1) := by decide +kernel
theorem dX7_sum_26 : decode cX7_sum 26 = .ok (.lconst 0, 1) := by decide +kernel
theorem dX7_sum_27 : decode cX7_sum 27 = .ok (.lstore 4, 2) := by decide +kernel
theorem dX7_sum_29 : decode cX7_sum 29 = .ok (.iconst 0, 1) := by decide +kernel
theorem dX7_sum_30 : decode cX7_sum 30 = .ok (.istore 6, 2) := by decide +kernel
theorem dX7_sum_32 : decode cX7_sum 32 = .ok (.iload 6, 2) := by decide +kernel
theorem dX7_sum_34 : decode cX7_sum 34 = .ok (.aload_n 0, 1) := by decide +kernel
theorem dX7_sum_35 : decode cX7_sum 35 = .ok (.getfield 10, 3) := by decide +kernel
theorem dX7_sum_38 : decode cX7_sum 38 = .ok (.getfield 148, 3) := by decide +kernel
theorem dX7_sum_41 : decode cX7_sum 41 = .ok (.if_icmp .ge 39, 3) := by decide +kernel
theorem dX7_sum_44 : decode cX7_sum 44 = .ok (.aload_n 0, 1) := by decide +kernel
theorem dX7_sum_45 : decode cX7_sum 45 = .ok (.iload 6, 2) := by decide +kernel
theorem dX7_sum_47 : decode cX7_sum 47 = .ok (.aload_n 3, 1) := by decide +kernel
theorem dX7_sum_48 : decode cX7_sum 48 = .ok (.iload_n 2, 1) := by decide +kernel
theorem dX7_sum_49 : decode cX7_sum 49 = .ok (.invokevirtual 151, 3) := by decide +kernel
theorem dX7_sum_52 : decode cX7_sum 52 = .ok (.lstore 7, 2) := by decide +kernel
theorem dX7_sum_54 : decode cX7_sum 54 = .ok (.lload 7, 2) := by decide +kernel
theorem dX7_sum_56 : decode cX7_sum 56 = .ok (.ldc2_w 93, 3) := by decide +kernel
theorem dX7_sum_59 : decode cX7_sum 59 = .ok (.lcmp, 1) := by decide +kernel
theorem dX7_sum_60 : decode cX7_sum 60 = .ok (.ifCond .ne 7, 3) := by decide +kernel
theorem dX7_sum_63 : decode cX7_sum 63 = .ok (.ldc2_w 93, 3) := by decide +kernel
theorem dX7_sum_66 : decode cX7_sum 66 = .ok (.lreturn, 1) := by decide +kernel
theorem dX7_sum_67 : decode cX7_sum 67 = .ok (.lload 4, 2) := by decide +kernel
theorem dX7_sum_69 : decode cX7_sum 69 = .ok (.lload 7, 2) := by decide +kernel
theorem dX7_sum_71 : decode cX7_sum 71 = .ok (.ladd, 1) := by decide +kernel
theorem dX7_sum_72 : decode cX7_sum 72 = .ok (.lstore 4, 2) := by decide +kernel
theorem dX7_sum_74 : decode cX7_sum 74 = .ok (.iinc 6 1, 3) := by decide +kernel
theorem dX7_sum_77 : decode cX7_sum 77 = .ok (.goto (-45), 3) := by decide +kernel
theorem dX7_sum_80 : decode cX7_sum 80 = .ok (.lload 4, 2) := by decide +kernel
theorem dX7_sum_82 : decode cX7_sum 82 = .ok (.lreturn, 1) := by decide +kernel
theorem dX7_count_0 : decode cX7_count 0 = .ok (.iload_n 1, 1) := by decide +kernel
theorem dX7_count_1 : decode cX7_count 1 = .ok (.tableswitch 69 0 3 #[31, 39, 50, 58], 31) := by decide +kernel
theorem dX7_count_32 : decode cX7_count 32 = .ok (.aload_n 0, 1) := by decide +kernel
theorem dX7_count_33 : decode cX7_count 33 = .ok (.getfield 10, 3) := by decide +kernel
theorem dX7_count_36 : decode cX7_count 36 = .ok (.getfield 36, 3) := by decide +kernel
theorem dX7_count_39 : decode cX7_count 39 = .ok (.ireturn, 1) := by decide +kernel
theorem dX7_count_40 : decode cX7_count 40 = .ok (.aload_n 0, 1) := by decide +kernel
theorem dX7_count_41 : decode cX7_count 41 = .ok (.getfield 10, 3) := by decide +kernel
theorem dX7_count_44 : decode cX7_count 44 = .ok (.getfield 65, 3) := by decide +kernel
theorem dX7_count_47 : decode cX7_count 47 = .ok (.invokevirtual 68, 3) := by decide +kernel
theorem dX7_count_50 : decode cX7_count 50 = .ok (.ireturn, 1) := by decide +kernel
theorem dX7_count_51 : decode cX7_count 51 = .ok (.aload_n 0, 1) := by decide +kernel
theorem dX7_count_52 : decode cX7_count 52 = .ok (.getfield 10, 3) := by decide +kernel
theorem dX7_count_55 : decode cX7_count 55 = .ok (.getfield 148, 3) := by decide +kernel
theorem dX7_count_58 : decode cX7_count 58 = .ok (.ireturn, 1) := by decide +kernel
theorem dX7_count_59 : decode cX7_count 59 = .ok (.aload_n 0, 1) := by decide +kernel
theorem dX7_count_60 : decode cX7_count 60 = .ok (.getfield 10, 3) := by decide +kernel
theorem dX7_count_63 : decode cX7_count 63 = .ok (.getfield 103, 3) := by decide +kernel
theorem dX7_count_66 : decode cX7_count 66 = .ok (.invokevirtual 68, 3) := by decide +kernel
theorem dX7_count_69 : decode cX7_count 69 = .ok (.ireturn, 1) := by decide +kernel
theorem dX7_count_70 : decode cX7_count 70 = .ok (.iconst (-1), 1) := by decide +kernel
theorem dX7_count_71 : decode cX7_count 71 = .ok (.ireturn, 1) := by decide +kernel
theorem dX7_image_0 : decode cX7_image 0 = .ok (.iload_n 1, 1) := by decide +kernel
theorem dX7_image_1 : decode cX7_image 1 = .ok (.ifCond .lt 8, 3) := by decide +kernel
theorem dX7_image_4 : decode cX7_image 4 = .ok (.iload_n 1, 1) := by decide +kernel
theorem dX7_image_5 : decode cX7_image 5 = .ok (.iconst 3, 1) := by decide +kernel
theorem dX7_image_6 : decode cX7_image 6 = .ok (.if_icmp .lt 5, 3) := by decide +kernel
theorem dX7_image_9 : decode cX7_image 9 = .ok (.iconst 0, 1) := by decide +kernel
theorem dX7_image_10 : decode cX7_image 10 = .ok (.ireturn, 1) := by decide +kernel
theorem dX7_image_11 : decode cX7_image 11 = .ok (.aload_n 0, 1) := by decide +kernel
theorem dX7_image_12 : decode cX7_image 12 = .ok (.getfield 16, 3) := by decide +kernel
theorem dX7_image_15 : decode cX7_image 15 = .ok (.iload_n 1, 1) := by decide +kernel
theorem dX7_image_16 : decode cX7_image 16 = .ok (.aaload, 1) := by decide +kernel
theorem dX7_image_17 : decode cX7_image 17 = .ok (.ifnonnull 16, 3) := by decide +kernel
theorem dX7_image_20 : decode cX7_image 20 = .ok (.aload_n 0, 1) := by decide +kernel
theorem dX7_image_21 : decode cX7_image 21 = .ok (.getfield 16, 3) := by decide +kernel
theorem dX7_image_24 : decode cX7_image 24 = .ok (.iload_n 1, 1) := by decide +kernel
theorem dX7_image_25 : decode cX7_image 25 = .ok (.new 7, 3) := by decide +kernel
theorem dX7_image_28 : decode cX7_image 28 = .ok (.dup, 1) := by decide +kernel
theorem dX7_image_29 : decode cX7_image 29 = .ok (.invokespecial 9, 3) := by decide +kernel
theorem dX7_image_32 : decode cX7_image 32 = .ok (.aastore, 1) := by decide +kernel
theorem dX7_image_33 : decode cX7_image 33 = .ok (.aload_n 0, 1) := by decide +kernel
theorem dX7_image_34 : decode cX7_image 34 = .ok (.getfield 16, 3) := by decide +kernel
theorem dX7_image_37 : decode cX7_image 37 = .ok (.iload_n 1, 1) := by decide +kernel
theorem dX7_image_38 : decode cX7_image 38 = .ok (.aaload, 1) := by decide +kernel
theorem dX7_image_39 : decode cX7_image 39 = .ok (.aload_n 0, 1) := by decide +kernel
theorem dX7_image_40 : decode cX7_image 40 = .ok (.getfield 10, 3) := by decide +kernel
theorem dX7_image_43 : decode cX7_image 43 = .ok (.invokevirtual 155, 3) := by decide +kernel
theorem dX7_image_46 : decode cX7_image 46 = .ok (.iconst 1, 1) := by decide +kernel
theorem dX7_image_47 : decode cX7_image 47 = .ok (.ireturn, 1) := by decide +kernel
theorem dX7_again_0 : decode cX7_again 0 = .ok (.iload_n 1, 1) := by decide +kernel
theorem dX7_again_1 : decode cX7_again 1 = .ok (.ifCond .lt 17, 3) := by decide +kernel
theorem dX7_again_4 : decode cX7_again 4 = .ok (.iload_n 1, 1) := by decide +kernel
theorem dX7_again_5 : decode cX7_again 5 = .ok (.iconst 3, 1) := by decide +kernel
theorem dX7_again_6 : decode cX7_again 6 = .ok (.if_icmp .ge 12, 3) := by decide +kernel
theorem dX7_again_9 : decode cX7_again 9 = .ok (.aload_n 0, 1) := by decide +kernel
theorem dX7_again_10 : decode cX7_again 10 = .ok (.getfield 16, 3) := by decide +kernel
theorem dX7_again_13 : decode cX7_again 13 = .ok (.iload_n 1, 1) := by decide +kernel
theorem dX7_again_14 : decode cX7_again 14 = .ok (.aaload, 1) := by decide +kernel
theorem dX7_again_15 : decode cX7_again 15 = .ok (.ifnonnull 5, 3) := by decide +kernel
theorem dX7_again_18 : decode cX7_again 18 = .ok (.iconst 0, 1) := by decide +kernel
theorem dX7_again_19 : decode cX7_again 19 = .ok (.ireturn, 1) := by decide +kernel
theorem dX7_again_20 : decode cX7_again 20 = .ok (.aload_n 0, 1) := by decide +kernel
theorem dX7_again_21 : decode cX7_again 21 = .ok (.getfield 10, 3) := by decide +kernel
theorem dX7_again_24 : decode cX7_again 24 = .ok (.aload_n 0, 1) := by decide +kernel
theorem dX7_again_25 : decode cX7_again 25 = .ok (.getfield 16, 3) := by decide +kernel
theorem dX7_again_28 : decode cX7_again 28 = .ok (.iload_n 1, 1) := by decide +kernel
theorem dX7_again_29 : decode cX7_again 29 = .ok (.aaload, 1) := by decide +kernel
theorem dX7_again_30 : decode cX7_again 30 = .ok (.invokevirtual 155, 3) := by decide +kernel
theorem dX7_again_33 : decode cX7_again 33 = .ok (.iconst 1, 1) := by decide +kernel
theorem dX7_again_34 : decode cX7_again 34 = .ok (.ireturn, 1) := by decide +kernel
theorem dX7_isKind_0 : decode cX7_isKind 0 = .ok (.iload_n 0, 1) := by decide +kernel
theorem dX7_isKind_1 : decode cX7_isKind 1 = .ok (.ifCond .lt 12, 3) := by decide +kernel
theorem dX7_isKind_4 : decode cX7_isKind 4 = .ok (.iload_n 0, 1) := by decide +kernel
theorem dX7_isKind_5 : decode cX7_isKind 5 = .ok (.iconst 3, 1) := by decide +kernel
theorem dX7_isKind_6 : decode cX7_isKind 6 = .ok (.if_icmp .ge 7, 3) := by decide +kernel
theorem dX7_isKind_9 : decode cX7_isKind 9 = .ok (.iconst 1, 1) := by decide +kernel
theorem dX7_isKind_10 : decode cX7_isKind 10 = .ok (.goto 4, 3) := by decide +kernel
theorem dX7_isKind_13 : decode cX7_isKind 13 = .ok (.iconst 0, 1) := by decide +kernel
theorem dX7_isKind_14 : decode cX7_isKind 14 = .ok (.ireturn, 1) := by decide +kernel
theorem dX7_isDigit_0 : decode cX7_isDigit 0 = .ok (.iload_n 0, 1) := by decide +kernel
theorem dX7_isDigit_1 : decode cX7_isDigit 1 = .ok (.bipush 48, 2) := by decide +kernel
theorem dX7_isDigit_3 : decode cX7_isDigit 3 = .ok (.if_icmp .lt 13, 3) := by decide +kernel
theorem dX7_isDigit_6 : decode cX7_isDigit 6 = .ok (.iload_n 0, 1) := by decide +kernel
theorem dX7_isDigit_7 : decode cX7_isDigit 7 = .ok (.bipush 57, 2) := by decide +kernel
theorem dX7_isDigit_9 : decode cX7_isDigit 9 = .ok (.if_icmp .gt 7, 3) := by decide +kernel
theorem dX7_isDigit_12 : decode cX7_isDigit 12 = .ok (.iconst 1, 1) := by decide +kernel
theorem dX7_isDigit_13 : decode cX7_isDigit 13 = .ok (.goto 4, 3) := by decide +kernel
theorem dX7_isDigit_16 : decode cX7_isDigit 16 = .ok (.iconst 0, 1) := by decide +kernel
theorem dX7_isDigit_17 : decode cX7_isDigit 17 = .ok (.ireturn, 1) := by decide +kernel
