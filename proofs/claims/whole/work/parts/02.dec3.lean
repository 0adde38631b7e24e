theorem dX7_byteOf_0 : decode cX7_byteOf 0 = .ok (.iload_n 0, 1) := by decide +kernel
theorem dX7_byteOf_1 : decode cX7_byteOf 1 = .ok (.bipush 24, 2) := by decide +kernel
theorem dX7_byteOf_3 : decode cX7_byteOf 3 = .ok (.bipush 8, 2) := by decide +kernel
theorem dX7_byteOf_5 : decode cX7_byteOf 5 = .ok (.iload_n 1, 1) := by decide +kernel
theorem dX7_byteOf_6 : decode cX7_byteOf 6 = .ok (.imul, 1) := by decide +kernel
theorem dX7_byteOf_7 : decode cX7_byteOf 7 = .ok (.isub, 1) := by decide +kernel
theorem dX7_byteOf_8 : decode cX7_byteOf 8 = .ok (.iushr, 1) := by decide +kernel
theorem dX7_byteOf_9 : decode cX7_byteOf 9 = .ok (.sipush 255, 3) := by decide +kernel
theorem dX7_byteOf_12 : decode cX7_byteOf 12 = .ok (.iand, 1) := by decide +kernel
theorem dX7_byteOf_13 : decode cX7_byteOf 13 = .ok (.ireturn, 1) := by decide +kernel
theorem dX7_readLine_0 : decode cX7_readLine 0 = .ok (.aload_n 0, 1) := by decide +kernel
theorem dX7_readLine_1 : decode cX7_readLine 1 = .ok (.getfield 23, 3) := by decide +kernel
theorem dX7_readLine_4 : decode cX7_readLine 4 = .ok (.aload_n 0, 1) := by decide +kernel
theorem dX7_readLine_5 : decode cX7_readLine 5 = .ok (.getfield 10, 3) := by decide +kernel
theorem dX7_readLine_8 : decode cX7_readLine 8 = .ok (.getfield 65, 3) := by decide +kernel
theorem dX7_readLine_11 : decode cX7_readLine 11 = .ok (.getfield 133, 3) := by decide +kernel
theorem dX7_readLine_14 : decode cX7_readLine 14 = .ok (.iconst 0, 1) := by decide +kernel
theorem dX7_readLine_15 : decode cX7_readLine 15 = .ok (.iload_n 1, 1) := by decide +kernel
theorem dX7_readLine_16 : decode cX7_readLine 16 = .ok (.aload_n 2, 1) := by decide +kernel
theorem dX7_readLine_17 : decode cX7_readLine 17 = .ok (.iload_n 3, 1) := by decide +kernel
theorem dX7_readLine_18 : decode cX7_readLine 18 = .ok (.invokevirtual 137, 3) := by decide +kernel
theorem dX7_readLine_21 : decode cX7_readLine 21 = .ok (.ireturn, 1) := by decide +kernel
theorem dX7_countedValue_0 : decode cX7_countedValue 0 = .ok (.iload_n 1, 1) := by decide +kernel
theorem dX7_countedValue_1 : decode cX7_countedValue 1 = .ok (.ifCond .ne 31, 3) := by decide +kernel
theorem dX7_countedValue_4 : decode cX7_countedValue 4 = .ok (.aload_n 0, 1) := by decide +kernel
theorem dX7_countedValue_5 : decode cX7_countedValue 5 = .ok (.getfield 10, 3) := by decide +kernel
theorem dX7_countedValue_8 : decode cX7_countedValue 8 = .ok (.iload_n 2, 1) := by decide +kernel
theorem dX7_countedValue_9 : decode cX7_countedValue 9 = .ok (.aload_n 0, 1) := by decide +kernel
theorem dX7_countedValue_10 : decode cX7_countedValue 10 = .ok (.getfield 23, 3) := by decide +kernel
theorem dX7_countedValue_13 : decode cX7_countedValue 13 = .ok (.getfield 141, 3) := by decide +kernel
theorem dX7_countedValue_16 : decode cX7_countedValue 16 = .ok (.invokevirtual 158, 3) := by decide +kernel
theorem dX7_countedValue_19 : decode cX7_countedValue 19 = .ok (.ifCond .eq 13, 3) := by decide +kernel
theorem dX7_countedValue_22 : decode cX7_countedValue 22 = .ok (.aload_n 0, 1) := by decide +kernel
theorem dX7_countedValue_23 : decode cX7_countedValue 23 = .ok (.getfield 23, 3) := by decide +kernel
theorem dX7_countedValue_26 : decode cX7_countedValue 26 = .ok (.getfield 141, 3) := by decide +kernel
theorem dX7_countedValue_29 : decode cX7_countedValue 29 = .ok (.goto 6, 3) := by decide +kernel
theorem dX7_countedValue_32 : decode cX7_countedValue 32 = .ok (.ldc2_w 93, 3) := by decide +kernel
theorem dX7_countedValue_35 : decode cX7_countedValue 35 = .ok (.lreturn, 1) := by decide +kernel
theorem dX7_rowValue_0 : decode cX7_rowValue 0 = .ok (.aload_n 0, 1) := by decide +kernel
theorem dX7_rowValue_1 : decode cX7_rowValue 1 = .ok (.getfield 10, 3) := by decide +kernel
theorem dX7_rowValue_4 : decode cX7_rowValue 4 = .ok (.iload_n 1, 1) := by decide +kernel
theorem dX7_rowValue_5 : decode cX7_rowValue 5 = .ok (.invokevirtual 162, 3) := by decide +kernel
theorem dX7_rowValue_8 : decode cX7_rowValue 8 = .ok (.istore 4, 2) := by decide +kernel
theorem dX7_rowValue_10 : decode cX7_rowValue 10 = .ok (.aload_n 0, 1) := by decide +kernel
theorem dX7_rowValue_11 : decode cX7_rowValue 11 = .ok (.getfield 23, 3) := by decide +kernel
theorem dX7_rowValue_14 : decode cX7_rowValue 14 = .ok (.aload_n 0, 1) := by decide +kernel
theorem dX7_rowValue_15 : decode cX7_rowValue 15 = .ok (.getfield 10, 3) := by decide +kernel
theorem dX7_rowValue_18 : decode cX7_rowValue 18 = .ok (.getfield 165, 3) := by decide +kernel
theorem dX7_rowValue_21 : decode cX7_rowValue 21 = .ok (.iload 4, 2) := by decide +kernel
theorem dX7_rowValue_23 : decode cX7_rowValue 23 = .ok (.iload 4, 2) := by decide +kernel
theorem dX7_rowValue_25 : decode cX7_rowValue 25 = .ok (.aload_n 0, 1) := by decide +kernel
theorem dX7_rowValue_26 : decode cX7_rowValue 26 = .ok (.getfield 10, 3) := by decide +kernel
theorem dX7_rowValue_29 : decode cX7_rowValue 29 = .ok (.iload_n 1, 1) := by decide +kernel
theorem dX7_rowValue_30 : decode cX7_rowValue 30 = .ok (.invokevirtual 168, 3) := by decide +kernel
theorem dX7_rowValue_33 : decode cX7_rowValue 33 = .ok (.iadd, 1) := by decide +kernel
theorem dX7_rowValue_34 : decode cX7_rowValue 34 = .ok (.aload_n 2, 1) := by decide +kernel
theorem dX7_rowValue_35 : decode cX7_rowValue 35 = .ok (.iload_n 3, 1) := by decide +kernel
theorem dX7_rowValue_36 : decode cX7_rowValue 36 = .ok (.invokevirtual 137, 3) := by decide +kernel
theorem dX7_rowValue_39 : decode cX7_rowValue 39 = .ok (.istore 5, 2) := by decide +kernel
theorem dX7_rowValue_41 : decode cX7_rowValue 41 = .ok (.aload_n 0, 1) := by decide +kernel
theorem dX7_rowValue_42 : decode cX7_rowValue 42 = .ok (.iload 5, 2) := by decide +kernel
theorem dX7_rowValue_44 : decode cX7_rowValue 44 = .ok (.iload_n 3, 1) := by decide +kernel
theorem dX7_rowValue_45 : decode cX7_rowValue 45 = .ok (.invokevirtual 99, 3) := by decide +kernel
theorem dX7_rowValue_48 : decode cX7_rowValue 48 = .ok (.lreturn, 1) := by decide +kernel
theorem dX7_writeValue_0 : decode cX7_writeValue 0 = .ok (.aload_n 1, 1) := by decide +kernel
theorem dX7_writeValue_1 : decode cX7_writeValue 1 = .ok (.ifnonnull 5, 3) := by decide +kernel
theorem dX7_writeValue_4 : decode cX7_writeValue 4 = .ok (.iconst (-1), 1) := by decide +kernel
theorem dX7_writeValue_5 : decode cX7_writeValue 5 = .ok (.ireturn, 1) := by decide +kernel
theorem dX7_writeValue_6 : decode cX7_writeValue 6 = .ok (.iload_n 2, 1) := by decide +kernel
theorem dX7_writeValue_7 : decode cX7_writeValue 7 = .ok (.iconst 2, 1) := by decide +kernel
theorem dX7_writeValue_8 : decode cX7_writeValue 8 = .ok (.if_icmp .ne 31, 3) := by decide +kernel
theorem dX7_writeValue_11 : decode cX7_writeValue 11 = .ok (.lload_n 3, 1) := by decide +kernel
theorem dX7_writeValue_12 : decode cX7_writeValue 12 = .ok (.lconst 0, 1) := by decide +kernel
theorem dX7_writeValue_13 : decode cX7_writeValue 13 = .ok (.lcmp, 1) := by decide +kernel
theorem dX7_writeValue_14 : decode cX7_writeValue 14 = .ok (.ifCond .lt 11, 3) := by decide +kernel
theorem dX7_writeValue_17 : decode cX7_writeValue 17 = .ok (.lload_n 3, 1) := by decide +kernel
theorem dX7_writeValue_18 : decode cX7_writeValue 18 = .ok (.ldc2_w 173, 3) := by decide +kernel
theorem dX7_writeValue_21 : decode cX7_writeValue 21 = .ok (.lcmp, 1) := by decide +kernel
theorem dX7_writeValue_22 : decode cX7_writeValue 22 = .ok (.ifCond .le 5, 3) := by decide +kernel
theorem dX7_writeValue_25 : decode cX7_writeValue 25 = .ok (.iconst (-1), 1) := by decide +kernel
theorem dX7_writeValue_26 : decode cX7_writeValue 26 = .ok (.ireturn, 1) := by decide +kernel
theorem dX7_writeValue_27 : decode cX7_writeValue 27 = .ok (.aload_n 0, 1) := by decide +kernel
theorem dX7_writeValue_28 : decode cX7_writeValue 28 = .ok (.aload_n 1, 1) := by decide +kernel
theorem dX7_writeValue_29 : decode cX7_writeValue 29 = .ok (.lload_n 3, 1) := by decide +kernel
theorem dX7_writeValue_30 : decode cX7_writeValue 30 = .ok (.l2i, 1) := by decide +kernel
theorem dX7_writeValue_31 : decode cX7_writeValue 31 = .ok (.invokestatic 175, 3) := by decide +kernel
theorem dX7_writeValue_34 : decode cX7_writeValue 34 = .ok (.aload_n 0, 1) := by decide +kernel
theorem dX7_writeValue_35 : decode cX7_writeValue 35 = .ok (.invokevirtual 68, 3) := by decide +kernel
theorem dX7_writeValue_38 : decode cX7_writeValue 38 = .ok (.ireturn, 1) := by decide +kernel
theorem dX7_writeValue_39 : decode cX7_writeValue 39 = .ok (.iload_n 2, 1) := by decide +kernel
theorem dX7_writeValue_40 : decode cX7_writeValue 40 = .ok (.ifCond .eq 8, 3) := by decide +kernel
theorem dX7_writeValue_43 : decode cX7_writeValue 43 = .ok (.iload_n 2, 1) := by decide +kernel
theorem dX7_writeValue_44 : decode cX7_writeValue 44 = .ok (.iconst 1, 1) := by decide +kernel
theorem dX7_writeValue_45 : decode cX7_writeValue 45 = .ok (.if_icmp .ne 22, 3) := by decide +kernel
theorem dX7_writeValue_48 : decode cX7_writeValue 48 = .ok (.iload 5, 2) := by decide +kernel
theorem dX7_writeValue_50 : decode cX7_writeValue 50 = .ok (.ifCond .lt 17, 3) := by decide +kernel
theorem dX7_writeValue_53 : decode cX7_writeValue 53 = .ok (.iload 5, 2) := by decide +kernel
theorem dX7_writeValue_55 : decode cX7_writeValue 55 = .ok (.bipush 6, 2) := by decide +kernel
theorem dX7_writeValue_57 : decode cX7_writeValue 57 = .ok (.if_icmp .gt 10, 3) := by decide +kernel
theorem dX7_writeValue_60 : decode cX7_writeValue 60 = .ok (.lload_n 3, 1) := by decide +kernel
theorem dX7_writeValue_61 : decode cX7_writeValue 61 = .ok (.invokestatic 181, 3) := by decide +kernel
theorem dX7_writeValue_64 : decode cX7_writeValue 64 = .ok (.ifCond .ne 5, 3) := by decide +kernel
theorem dX7_writeValue_67 : decode cX7_writeValue 67 = .ok (.iconst (-1), 1) := by decide +kernel
theorem dX7_writeValue_68 : decode cX7_writeValue 68 = .ok (.ireturn, 1) := by decide +kernel
theorem dX7_writeValue_69 : decode cX7_writeValue 69 = .ok (.lload_n 3, 1) := by decide +kernel
theorem dX7_writeValue_70 : decode cX7_writeValue 70 = .ok (.iload 5, 2) := by decide +kernel
theorem dX7_writeValue_72 : decode cX7_writeValue 72 = .ok (.invokestatic 185, 3) := by decide +kernel
theorem dX7_writeValue_75 : decode cX7_writeValue 75 = .ok (.lstore 6, 2) := by decide +kernel
theorem dX7_writeValue_77 : decode cX7_writeValue 77 = .ok (.lload 6, 2) := by decide +kernel
theorem dX7_writeValue_79 : decode cX7_writeValue 79 = .ok (.invokestatic 181, 3) := by decide +kernel
theorem dX7_writeValue_82 : decode cX7_writeValue 82 = .ok (.ifCond .ne 5, 3) := by decide +kernel
theorem dX7_writeValue_85 : decode cX7_writeValue 85 = .ok (.iconst (-1), 1) := by decide +kernel
theorem dX7_writeValue_86 : decode cX7_writeValue 86 = .ok (.ireturn, 1) := by decide +kernel
theorem dX7_writeValue_87 : decode cX7_writeValue 87 = .ok (.aload_n 0, 1) := by decide +kernel
theorem dX7_writeValue_88 : decode cX7_writeValue 88 = .ok (.aload_n 1, 1) := by decide +kernel
theorem dX7_writeValue_89 : decode cX7_writeValue 89 = .ok (.iload_n 2, 1) := by decide +kernel
theorem dX7_writeValue_90 : decode cX7_writeValue 90 = .ok (.iconst 1, 1) := by decide +kernel
theorem dX7_writeValue_91 : decode cX7_writeValue 91 = .ok (.if_icmp .ne 7, 3) := by decide +kernel
theorem dX7_writeValue_94 : decode cX7_writeValue 94 = .ok (.iconst 1, 1) := by decide +kernel
theorem dX7_writeValue_95 : decode cX7_writeValue 95 = .ok (.goto 4, 3) := by decide +kernel
theorem dX7_writeValue_98 : decode cX7_writeValue 98 = .ok (.iconst 0, 1) := by decide +kernel
theorem dX7_writeValue_99 : decode cX7_writeValue 99 = .ok (.lload 6, 2) := by decide +kernel
theorem dX7_writeValue_101 : decode cX7_writeValue 101 = .ok (.iload 5, 2) := by decide +kernel
theorem dX7_writeValue_103 : decode cX7_writeValue 103 = .ok (.invokestatic 189, 3) := by decide +kernel
theorem dX7_writeValue_106 : decode cX7_writeValue 106 = .ok (.aload_n 0, 1) := by decide +kernel
theorem dX7_writeValue_107 : decode cX7_writeValue 107 = .ok (.invokevirtual 68, 3) := by decide +kernel
theorem dX7_writeValue_110 : decode cX7_writeValue 110 = .ok (.ireturn, 1) := by decide +kernel
theorem dX7_isAmount_0 : decode cX7_isAmount 0 = .ok (.lload_n 0, 1) := by decide +kernel
theorem dX7_isAmount_1 : decode cX7_isAmount 1 = .ok (.ldc2_w 193, 3) := by decide +kernel
theorem dX7_isAmount_4 : decode cX7_isAmount 4 = .ok (.lcmp, 1) := by decide +kernel
theorem dX7_isAmount_5 : decode cX7_isAmount 5 = .ok (.ifCond .lt 15, 3) := by decide +kernel
theorem dX7_isAmount_8 : decode cX7_isAmount 8 = .ok (.lload_n 0, 1) := by decide +kernel
theorem dX7_isAmount_9 : decode cX7_isAmount 9 = .ok (.ldc2_w 195, 3) := by decide +kernel
theorem dX7_isAmount_12 : decode cX7_isAmount 12 = .ok (.lcmp, 1) := by decide +kernel
theorem dX7_isAmount_13 : decode cX7_isAmount 13 = .ok (.ifCond .gt 7, 3) := by decide +kernel
theorem dX7_isAmount_16 : decode cX7_isAmount 16 = .ok (.iconst 1, 1) := by decide +kernel
theorem dX7_isAmount_17 : decode cX7_isAmount 17 = .ok (.goto 4, 3) := by decide +kernel
theorem dX7_isAmount_20 : decode cX7_isAmount 20 = .ok (.iconst 0, 1) := by decide +kernel
theorem dX7_isAmount_21 : decode cX7_isAmount 21 = .ok (.ireturn, 1) := by decide +kernel
theorem dX8_init_0 : decode cX8_init 0 = .ok (.aload_n 0, 1) := by decide +kernel
theorem dX8_init_1 : decode cX8_init 1 = .ok (.invokespecial 1, 3) := by decide +kernel
theorem dX8_init_4 : decode cX8_init 4 = .ok (.aload_n 0, 1) := by decide +kernel
theorem dX8_init_5 : decode cX8_init 5 = .ok (.iconst 4, 1) := by decide +kernel
theorem dX8_init_6 : decode cX8_init 6 = .ok (.newarray .int, 2) := by decide +kernel
theorem dX8_init_8 : decode cX8_init 8 = .ok (.putfield 7, 3) := by decide +kernel
theorem dX8_init_11 : decode cX8_init 11 = .ok (.aload_n 0, 1) := by decide +kernel
theorem dX8_init_12 : decode cX8_init 12 = .ok (.bipush 24, 2) := by decide +kernel
theorem dX8_init_14 : decode cX8_init 14 = .ok (.newarray .int, 2) := by decide +kernel
theorem dX8_init_16 : decode cX8_init 16 = .ok (.putfield 13, 3) := by decide +kernel
theorem dX8_init_19 : decode cX8_init 19 = .ok (.aload_n 0, 1) := by decide +kernel
theorem dX8_init_20 : decode cX8_init 20 = .ok (.bipush 24, 2) := by decide +kernel
theorem dX8_init_22 : decode cX8_init 22 = .ok (.newarray .int, 2) := by decide +kernel
theorem dX8_init_24 : decode cX8_init 24 = .ok (.putfield 16, 3) := by decide +kernel
theorem dX8_init_27 : decode cX8_init 27 = .ok (.aload_n 0, 1) := by decide +kernel
theorem dX8_init_28 : decode cX8_init 28 = .ok (.bipush 24, 2) := by decide +kernel
theorem dX8_init_30 : decode cX8_init 30 = .ok (.newarray .int, 2) := by decide +kernel
theorem dX8_init_32 : decode cX8_init 32 = .ok (.putfield 19, 3) := by decide +kernel
theorem dX8_init_35 : decode cX8_init 35 = .ok (.aload_n 0, 1) := by decide +kernel
theorem dX8_init_36 : decode cX8_init 36 = .ok (.bipush 24, 2) := by decide +kernel
theorem dX8_init_38 : decode cX8_init 38 = .ok (.newarray .int, 2) := by decide +kernel
theorem dX8_init_40 : decode cX8_init 40 = .ok (.putfield 22, 3) := by decide +kernel
theorem dX8_init_43 : decode cX8_init 43 = .ok (.aload_n 0, 1) := by decide +kernel
theorem dX8_init_44 : decode cX8_init 44 = .ok (.bipush 24, 2) := by decide +kernel
theorem dX8_init_46 : decode cX8_init 46 = .ok (.newarray .int, 2) := by decide +kernel
theorem dX8_init_48 : decode cX8_init 48 = .ok (.putfield 25, 3) := by decide +kernel
theorem dX8_init_51 : decode cX8_init 51 = .ok (.aload_n 0, 1) := by decide +kernel
theorem dX8_init_52 : decode cX8_init 52 = .ok (.bipush 24, 2) := by decide +kernel
theorem dX8_init_54 : decode cX8_init 54 = .ok (.newarray .boolean, 2) := by decide +kernel
theorem dX8_init_56 : decode cX8_init 56 = .ok (.putfield 28, 3) := by decide +kernel
theorem dX8_init_59 : decode cX8_init 59 = .ok (.aload_n 0, 1) := by decide +kernel
theorem dX8_init_60 : decode cX8_init 60 = .ok (.bipush 24, 2) := by decide +kernel
theorem dX8_init_62 : decode cX8_init 62 = .ok (.newarray .int, 2) := by decide +kernel
theorem dX8_init_64 : decode cX8_init 64 = .ok (.putfield 32, 3) := by decide +kernel
theorem dX8_init_67 : decode cX8_init 67 = .ok (.aload_n 0, 1) := by decide +kernel
theorem dX8_init_68 : decode cX8_init 68 = .ok (.bipush 24, 2) := by decide +kernel
theorem dX8_init_70 : decode cX8_init 70 = .ok (.newarray .int, 2) := by decide +kernel
theorem dX8_init_72 : decode cX8_init 72 = .ok (.putfield 35, 3) := by decide +kernel
theorem dX8_init_75 : decode cX8_init 75 = .ok (.aload_n 0, 1) := by decide +kernel
theorem dX8_init_76 : decode cX8_init 76 = .ok (.iconst 4, 1) := by decide +kernel
theorem dX8_init_77 : decode cX8_init 77 = .ok (.newarray .int, 2) := by decide +kernel
theorem dX8_init_79 : decode cX8_init 79 = .ok (.putfield 38, 3) := by decide +kernel
theorem dX8_init_82 : decode cX8_init 82 = .ok (.aload_n 0, 1) := by decide +kernel
theorem dX8_init_83 : decode cX8_init 83 = .ok (.sipush 240, 3) := by decide +kernel
theorem dX8_init_86 : decode cX8_init 86 = .ok (.newarray .int, 2) := by decide +kernel
theorem dX8_init_88 : decode cX8_init 88 = .ok (.putfield 41, 3) := by decide +kernel
theorem dX8_init_91 : decode cX8_init 91 = .ok (.aload_n 0, 1) := by decide +kernel
theorem dX8_init_92 : decode cX8_init 92 = .ok (.bipush 12, 2) := by decide +kernel
theorem dX8_init_94 : decode cX8_init 94 = .ok (.newarray .long, 2) := by decide +kernel
theorem dX8_init_96 : decode cX8_init 96 = .ok (.putfield 44, 3) := by decide +kernel
theorem dX8_init_99 : decode cX8_init 99 = .ok (.aload_n 0, 1) := by decide +kernel
theorem dX8_init_100 : decode cX8_init 100 = .ok (.bipush 12, 2) := by decide +kernel
theorem dX8_init_102 : decode cX8_init 102 = .ok (.newarray .long, 2) := by decide +kernel
theorem dX8_init_104 : decode cX8_init 104 = .ok (.putfield 48, 3) := by decide +kernel
theorem dX8_init_107 : decode cX8_init 107 = .ok (.aload_n 0, 1) := by decide +kernel
theorem dX8_init_108 : decode cX8_init 108 = .ok (.iconst 4, 1) := by decide +kernel
theorem dX8_init_109 : decode cX8_init 109 = .ok (.newarray .int, 2) := by decide +kernel
theorem dX8_init_111 : decode cX8_init 111 = .ok (.putfield 51, 3) := by decide +kernel
theorem dX8_init_114 : decode cX8_init 114 = .ok (.aload_n 0, 1) := by decide +kernel
theorem dX8_init_115 : decode cX8_init 115 = .ok (.bipush 120, 2) := by decide +kernel
theorem dX8_init_117 : decode cX8_init 117 = .ok (.newarray .int, 2) := by decide +kernel
theorem dX8_init_119 : decode cX8_init 119 = .ok (.putfield 54, 3) := by decide +kernel
theorem dX8_init_122 : decode cX8_init 122 = .ok (.aload_n 0, 1) := by decide +kernel
theorem dX8_init_123 : decode cX8_init 123 = .ok (.sipush 7200, 3) := by decide +kernel
theorem dX8_init_126 : decode cX8_init 126 = .ok (.newarray .byte, 2) := by decide +kernel
theorem dX8_init_128 : decode cX8_init 128 = .ok (.putfield 57, 3) := by decide +kernel
theorem dX8_init_131 : decode cX8_init 131 = .ok (.aload_n 0, 1) := by decide +kernel
theorem dX8_init_132 : decode cX8_init 132 = .ok (.iconst 4, 1) := by decide +kernel
theorem dX8_init_133 : decode cX8_init 133 = .ok (.newarray .int, 2) := by decide +kernel
theorem dX8_init_135 : decode cX8_init 135 = .ok (.putfield 61, 3) := by decide +kernel
theorem dX8_init_138 : decode cX8_init 138 = .ok (.aload_n 0, 1) := by decide +kernel
theorem dX8_init_139 : decode cX8_init 139 = .ok (.sipush 640, 3) := by decide +kernel
theorem dX8_init_142 : decode cX8_init 142 = .ok (.newarray .int, 2) := by decide +kernel
theorem dX8_init_144 : decode cX8_init 144 = .ok (.putfield 64, 3) := by decide +kernel
theorem dX8_init_147 : decode cX8_init 147 = .ok (.aload_n 0, 1) := by decide +kernel
theorem dX8_init_148 : decode cX8_init 148 = .ok (.sipush 200, 3) := by decide +kernel
theorem dX8_init_151 : decode cX8_init 151 = .ok (.newarray .int, 2) := by decide +kernel
theorem dX8_init_153 : decode cX8_init 153 = .ok (.putfield 67, 3) := by decide +kernel
theorem dX8_init_156 : decode cX8_init 156 = .ok (.aload_n 0, 1) := by decide +kernel
theorem dX8_init_157 : decode cX8_init 157 = .ok (.bipush 64, 2) := by decide +kernel
theorem dX8_init_159 : decode cX8_init 159 = .ok (.newarray .int, 2) := by decide +kernel
theorem dX8_init_161 : decode cX8_init 161 = .ok (.putfield 70, 3) := by decide +kernel
theorem dX8_init_164 : decode cX8_init 164 = .ok (.aload_n 0, 1) := by decide +kernel
theorem dX8_init_165 : decode cX8_init 165 = .ok (.bipush 64, 2) := by decide +kernel
theorem dX8_init_167 : decode cX8_init 167 = .ok (.newarray .int, 2) := by decide +kernel
theorem dX8_init_169 : decode cX8_init 169 = .ok (.putfield 73, 3) := by decide +kernel
theorem dX8_init_172 : decode cX8_init 172 = .ok (.aload_n 0, 1) := by decide +kernel
theorem dX8_init_173 : decode cX8_init 173 = .ok (.sipush 160, 3) := by decide +kernel
theorem dX8_init_176 : decode cX8_init 176 = .ok (.newarray .int, 2) := by decide +kernel
theorem dX8_init_178 : decode cX8_init 178 = .ok (.putfield 76, 3) := by decide +kernel
theorem dX8_init_181 : decode cX8_init 181 = .ok (.aload_n 0, 1) := by decide +kernel
theorem dX8_init_182 : decode cX8_init 182 = .ok (.iconst 3, 1) := by decide +kernel
theorem dX8_init_183 : decode cX8_init 183 = .ok (.newarray .boolean, 2) := by decide +kernel
theorem dX8_init_185 : decode cX8_init 185 = .ok (.putfield 79, 3) := by decide +kernel
theorem dX8_init_188 : decode cX8_init 188 = .ok (.iconst 0, 1) := by decide +kernel
theorem dX8_init_189 : decode cX8_init 189 = .ok (.istore_n 1, 1) := by decide +kernel
theorem dX8_init_190 : decode cX8_init 190 = .ok (.iload_n 1, 1) := by decide +kernel
theorem dX8_init_191 : decode cX8_init 191 = .ok (.iconst 3, 1) := by decide +kernel
theorem dX8_init_192 : decode cX8_init 192 = .ok (.if_icmp .ge 27, 3) := by decide +kernel
theorem dX8_init_195 : decode cX8_init 195 = .ok (.aload_n 0, 1) := by decide +kernel
theorem dX8_init_196 : decode cX8_init 196 = .ok (.getfield 44, 3) := by decide +kernel
theorem dX8_init_199 : decode cX8_init 199 = .ok (.iload_n 1, 1) := by decide +kernel
theorem dX8_init_200 : decode cX8_init 200 = .ok (.ldc2_w 82, 3) := by decide +kernel
theorem dX8_init_203 : decode cX8_init 203 = .ok (.lastore, 1) := by decide +kernel
theorem dX8_init_204 : decode cX8_init 204 = .ok (.aload_n 0, 1) := by decide +kernel
theorem dX8_init_205 : decode cX8_init 205 = .ok (.getfield 48, 3) := by decide +kernel
theorem dX8_init_208 : decode cX8_init 208 = .ok (.iload_n 1, 1) := by decide +kernel
theorem dX8_init_209 : decode cX8_init 209 = .ok (.ldc2_w 84, 3) := by decide +kernel
theorem dX8_init_212 : decode cX8_init 212 = .ok (.lastore, 1) := by decide +kernel
theorem dX8_init_213 : decode cX8_init 213 = .ok (.iinc 1 1, 3) := by decide +kernel
theorem dX8_init_216 : decode cX8_init 216 = .ok (.goto (-26), 3) := by decide +kernel
theorem dX8_init_219 : decode cX8_init 219 = .ok (.return_, 1) := by decide +kernel
theorem dX8_in_0 : decode cX8_in 0 = .ok (.iload_n 0, 1) := by decide +kernel
theorem dX8_in_1 : decode cX8_in 1 = .ok (.iload_n 1, 1) := by decide +kernel
theorem dX8_in_2 : decode cX8_in 2 = .ok (.if_icmp .lt 12, 3) := by decide +kernel
theorem dX8_in_5 : decode cX8_in 5 = .ok (.iload_n 0, 1) := by decide +kernel
theorem dX8_in_6 : decode cX8_in 6 = .ok (.iload_n 2, 1) := by decide +kernel
theorem dX8_in_7 : decode cX8_in 7 = .ok (.if_icmp .gt 7, 3) := by decide +kernel
theorem dX8_in_10 : decode cX8_in 10 = .ok (.iconst 1, 1) := by decide +kernel
theorem dX8_in_11 : decode cX8_in 11 = .ok (.goto 4, 3) := by decide +kernel
theorem dX8_in_14 : decode cX8_in 14 = .ok (.iconst 0, 1) := by decide +kernel
theorem dX8_in_15 : decode cX8_in 15 = .ok (.ireturn, 1) := by decide +kernel
theorem dX8_move_0 : decode cX8_move 0 = .ok (.iconst 0, 1) := by decide +kernel
theorem dX8_move_1 : decode cX8_move 1 = .ok (.istore 4, 2) := by decide +kernel
theorem dX8_move_3 : decode cX8_move 3 = .ok (.iload 4, 2) := by decide +kernel
theorem dX8_move_5 : decode cX8_move 5 = .ok (.iload_n 1, 1) := by decide +kernel
theorem dX8_move_6 : decode cX8_move 6 = .ok (.if_icmp .ge 25, 3) := by decide +kernel
theorem dX8_move_9 : decode cX8_move 9 = .ok (.aload_n 0, 1) := by decide +kernel
theorem dX8_move_10 : decode cX8_move 10 = .ok (.iload_n 1, 1) := by decide +kernel
theorem dX8_move_11 : decode cX8_move 11 = .ok (.iload_n 3, 1) := by decide +kernel
theorem dX8_move_12 : decode cX8_move 12 = .ok (.imul, 1) := by decide +kernel
theorem dX8_move_13 : decode cX8_move 13 = .ok (.iload 4, 2) := by decide +kernel
theorem dX8_move_15 : decode cX8_move 15 = .ok (.iadd, 1) := by decide +kernel
theorem dX8_move_16 : decode cX8_move 16 = .ok (.aload_n 0, 1) := by decide +kernel
theorem dX8_move_17 : decode cX8_move 17 = .ok (.iload_n 1, 1) := by decide +kernel
theorem dX8_move_18 : decode cX8_move 18 = .ok (.iload_n 2, 1) := by decide +kernel
theorem dX8_move_19 : decode cX8_move 19 = .ok (.imul, 1) := by decide +kernel
theorem dX8_move_20 : decode cX8_move 20 = .ok (.iload 4, 2) := by decide +kernel
theorem dX8_move_22 : decode cX8_move 22 = .ok (.iadd, 1) := by decide +kernel
theorem dX8_move_23 : decode cX8_move 23 = .ok (.iaload, 1) := by decide +kernel
theorem dX8_move_24 : decode cX8_move 24 = .ok (.iastore, 1) := by decide +kernel
theorem dX8_move_25 : decode cX8_move 25 = .ok (.iinc 4 1, 3) := by decide +kernel
theorem dX8_move_28 : decode cX8_move 28 = .ok (.goto (-25), 3) := by decide +kernel
theorem dX8_move_31 : decode cX8_move 31 = .ok (.return_, 1) := by decide +kernel
theorem dX8_copy_0 : decode cX8_copy 0 = .ok (.aload_n 0, 1) := by decide +kernel
theorem dX8_copy_1 : decode cX8_copy 1 = .ok (.getfield 7, 3) := by decide +kernel
theorem dX8_copy_4 : decode cX8_copy 4 = .ok (.iconst 1, 1) := by decide +kernel
theorem dX8_copy_5 : decode cX8_copy 5 = .ok (.iload_n 1, 1) := by decide +kernel
theorem dX8_copy_6 : decode cX8_copy 6 = .ok (.iload_n 2, 1) := by decide +kernel
theorem dX8_copy_7 : decode cX8_copy 7 = .ok (.invokestatic 90, 3) := by decide +kernel
theorem dX8_copy_10 : decode cX8_copy 10 = .ok (.aload_n 0, 1) := by decide +kernel
theorem dX8_copy_11 : decode cX8_copy 11 = .ok (.getfield 13, 3) := by decide +kernel
theorem dX8_copy_14 : decode cX8_copy 14 = .ok (.bipush 6, 2) := by decide +kernel
theorem dX8_copy_16 : decode cX8_copy 16 = .ok (.iload_n 1, 1) := by decide +kernel
theorem dX8_copy_17 : decode cX8_copy 17 = .ok (.iload_n 2, 1) := by decide +kernel
theorem dX8_copy_18 : decode cX8_copy 18 = .ok (.invokestatic 90, 3) := by decide +kernel
theorem dX8_copy_21 : decode cX8_copy 21 = .ok (.aload_n 0, 1) := by decide +kernel
theorem dX8_copy_22 : decode cX8_copy 22 = .ok (.getfield 16, 3) := by decide +kernel
theorem dX8_copy_25 : decode cX8_copy 25 = .ok (.bipush 6, 2) := by decide +kernel
theorem dX8_copy_27 : decode cX8_copy 27 = .ok (.iload_n 1, 1) := by decide +kernel
theorem dX8_copy_28 : decode cX8_copy 28 = .ok (.iload_n 2, 1) := by decide +kernel
theorem dX8_copy_29 : decode cX8_copy 29 = .ok (.invokestatic 90, 3) := by decide +kernel
theorem dX8_copy_32 : decode cX8_copy 32 = .ok (.aload_n 0, 1) := by decide +kernel
theorem dX8_copy_33 : decode cX8_copy 33 = .ok (.getfield 19, 3) := by decide +kernel
theorem dX8_copy_36 : decode cX8_copy 36 = .ok (.bipush 6, 2) := by decide +kernel
theorem dX8_copy_38 : decode cX8_copy 38 = .ok (.iload_n 1, 1) := by decide +kernel
theorem dX8_copy_39 : decode cX8_copy 39 = .ok (.iload_n 2, 1) := by decide +kernel
theorem dX8_copy_40 : decode cX8_copy 40 = .ok (.invokestatic 90, 3) := by decide +kernel
theorem dX8_copy_43 : decode cX8_copy 43 = .ok (.aload_n 0, 1) := by decide +kernel
theorem dX8_copy_44 : decode cX8_copy 44 = .ok (.getfield 22, 3) := by decide +kernel
theorem dX8_copy_47 : decode cX8_copy 47 = .ok (.bipush 6, 2) := by decide +kernel
theorem dX8_copy_49 : decode cX8_copy 49 = .ok (.iload_n 1, 1) := by decide +kernel
theorem dX8_copy_50 : decode cX8_copy 50 = .ok (.iload_n 2, 1) := by decide +kernel
theorem dX8_copy_51 : decode cX8_copy 51 = .ok (.invokestatic 90, 3) := by decide +kernel
theorem dX8_copy_54 : decode cX8_copy 54 = .ok (.aload_n 0, 1) := by decide +kernel
theorem dX8_copy_55 : decode cX8_copy 55 = .ok (.getfield 25, 3) := by decide +kernel
theorem dX8_copy_58 : decode cX8_copy 58 = .ok (.bipush 6, 2) := by decide +kernel
theorem dX8_copy_60 : decode cX8_copy 60 = .ok (.iload_n 1, 1) := by decide +kernel
theorem dX8_copy_61 : decode cX8_copy 61 = .ok (.iload_n 2, 1) := by decide +kernel
theorem dX8_copy_62 : decode cX8_copy 62 = .ok (.invokestatic 90, 3) := by decide +kernel
theorem dX8_copy_65 : decode cX8_copy 65 = .ok (.aload_n 0, 1) := by decide +kernel
theorem dX8_copy_66 : decode cX8_copy 66 = .ok (.getfield 32, 3) := by decide +kernel
theorem dX8_copy_69 : decode cX8_copy 69 = .ok (.bipush 6, 2) := by decide +kernel
theorem dX8_copy_71 : decode cX8_copy 71 = .ok (.iload_n 1, 1) := by decide +kernel
theorem dX8_copy_72 : decode cX8_copy 72 = .ok (.iload_n 2, 1) := by decide +kernel
theorem dX8_copy_73 : decode cX8_copy 73 = .ok (.invokestatic 90, 3) := by decide +kernel
theorem dX8_copy_76 : decode cX8_copy 76 = .ok (.aload_n 0, 1) := by decide +kernel
theorem dX8_copy_77 : decode cX8_copy 77 = .ok (.getfield 35, 3) := by decide +kernel
theorem dX8_copy_80 : decode cX8_copy 80 = .ok (.bipush 6, 2) := by decide +kernel
theorem dX8_copy_82 : decode cX8_copy 82 = .ok (.iload_n 1, 1) := by decide +kernel
theorem dX8_copy_83 : decode cX8_copy 83 = .ok (.iload_n 2, 1) := by decide +kernel
theorem dX8_copy_84 : decode cX8_copy 84 = .ok (.invokestatic 90, 3) := by decide +kernel
theorem dX8_copy_87 : decode cX8_copy 87 = .ok (.aload_n 0, 1) := by decide +kernel
theorem dX8_copy_88 : decode cX8_copy 88 = .ok (.getfield 38, 3) := by decide +kernel
theorem dX8_copy_91 : decode cX8_copy 91 = .ok (.iconst 1, 1) := by decide +kernel
theorem dX8_copy_92 : decode cX8_copy 92 = .ok (.iload_n 1, 1) := by decide +kernel
theorem dX8_copy_93 : decode cX8_copy 93 = .ok (.iload_n 2, 1) := by decide +kernel
theorem dX8_copy_94 : decode cX8_copy 94 = .ok (.invokestatic 90, 3) := by decide +kernel
theorem dX8_copy_97 : decode cX8_copy 97 = .ok (.aload_n 0, 1) := by decide +kernel
theorem dX8_copy_98 : decode cX8_copy 98 = .ok (.getfield 41, 3) := by decide +kernel
theorem dX8_copy_101 : decode cX8_copy 101 = .ok (.bipush 60, 2) := by decide +kernel
theorem dX8_copy_103 : decode cX8_copy 103 = .ok (.iload_n 1, 1) := by decide +kernel
theorem dX8_copy_104 : decode cX8_copy 104 = .ok (.iload_n 2, 1) := by decide +kernel
theorem dX8_copy_105 : decode cX8_copy 105 = .ok (.invokestatic 90, 3) := by decide +kernel
theorem dX8_copy_108 : decode cX8_copy 108 = .ok (.aload_n 0, 1) := by decide +kernel
theorem dX8_copy_109 : decode cX8_copy 109 = .ok (.getfield 51, 3) := by decide +kernel
theorem dX8_copy_112 : decode cX8_copy 112 = .ok (.iconst 1, 1) := by decide +kernel
theorem dX8_copy_113 : decode cX8_copy 113 = .ok (.iload_n 1, 1) := by decide +kernel
theorem dX8_copy_114 : decode cX8_copy 114 = .ok (.iload_n 2, 1) := by decide +kernel
theorem dX8_copy_115 : decode cX8_copy 115 = .ok (.invokestatic 90, 3) := by decide +kernel
theorem dX8_copy_118 : decode cX8_copy 118 = .ok (.aload_n 0, 1) := by decide +kernel
theorem dX8_copy_119 : decode cX8_copy 119 = .ok (.getfield 54, 3) := by decide +kernel
theorem dX8_copy_122 : decode cX8_copy 122 = .ok (.bipush 30, 2) := by decide +kernel
theorem dX8_copy_124 : decode cX8_copy 124 = .ok (.iload_n 1, 1) := by decide +kernel
theorem dX8_copy_125 : decode cX8_copy 125 = .ok (.iload_n 2, 1) := by decide +kernel
theorem dX8_copy_126 : decode cX8_copy 126 = .ok (.invokestatic 90, 3) := by decide +kernel
theorem dX8_copy_129 : decode cX8_copy 129 = .ok (.aload_n 0, 1) := by decide +kernel
theorem dX8_copy_130 : decode cX8_copy 130 = .ok (.getfield 61, 3) := by decide +kernel
theorem dX8_copy_133 : decode cX8_copy 133 = .ok (.iconst 1, 1) := by decide +kernel
theorem dX8_copy_134 : decode cX8_copy 134 = .ok (.iload_n 1, 1) := by decide +kernel
theorem dX8_copy_135 : decode cX8_copy 135 = .ok (.iload_n 2, 1) := by decide +kernel
theorem dX8_copy_136 : decode cX8_copy 136 = .ok (.invokestatic 90, 3) := by decide +kernel
theorem dX8_copy_139 : decode cX8_copy 139 = .ok (.aload_n 0, 1) := by decide +kernel
theorem dX8_copy_140 : decode cX8_copy 140 = .ok (.getfield 64, 3) := by decide +kernel
theorem dX8_copy_143 : decode cX8_copy 143 = .ok (.sipush 160, 3) := by decide +kernel
theorem dX8_copy_146 : decode cX8_copy 146 = .ok (.iload_n 1, 1) := by decide +kernel
theorem dX8_copy_147 : decode cX8_copy 147 = .ok (.iload_n 2, 1) := by decide +kernel
theorem dX8_copy_148 : decode cX8_copy 148 = .ok (.invokestatic 90, 3) := by decide +kernel
theorem dX8_copy_151 : decode cX8_copy 151 = .ok (.iconst 0, 1) := by decide +kernel
theorem dX8_copy_152 : decode cX8_copy 152 = .ok (.istore_n 3, 1) := by decide +kernel
theorem dX8_copy_153 : decode cX8_copy 153 = .ok (.iload_n 3, 1) := by decide +kernel
theorem dX8_copy_154 : decode cX8_copy 154 = .ok (.bipush 6, 2) := by decide +kernel
theorem dX8_copy_156 : decode cX8_copy 156 = .ok (.if_icmp .ge 31, 3) := by decide +kernel
theorem dX8_copy_159 : decode cX8_copy 159 = .ok (.aload_n 0, 1) := by decide +kernel
theorem dX8_copy_160 : decode cX8_copy 160 = .ok (.getfield 28, 3) := by decide +kernel
theorem dX8_copy_163 : decode cX8_copy 163 = .ok (.bipush 6, 2) := by decide +kernel
theorem dX8_copy_165 : decode cX8_copy 165 = .ok (.iload_n 2, 1) := by decide +kernel
theorem dX8_copy_166 : decode cX8_copy 166 = .ok (.imul, 1) := by decide +kernel
theorem dX8_copy_167 : decode cX8_copy 167 = .ok (.iload_n 3, 1) := by decide +kernel
theorem dX8_copy_168 : decode cX8_copy 168 = .ok (.iadd, 1) := by decide +kernel
theorem dX8_copy_169 : decode cX8_copy 169 = .ok (.aload_n 0, 1) := by decide +kernel
theorem dX8_copy_170 : decode cX8_copy 170 = .ok (.getfield 28, 3) := by decide +kernel
theorem dX8_copy_173 : decode cX8_copy 173 = .ok (.bipush 6, 2) := by decide +kernel
theorem dX8_copy_175 : decode cX8_copy 175 = .ok (.iload_n 1, 1) := by decide +kernel
theorem dX8_copy_176 : decode cX8_copy 176 = .ok (.imul, 1) := by decide +kernel
theorem dX8_copy_177 : decode cX8_copy 177 = .ok (.iload_n 3, 1) := by decide +kernel
theorem dX8_copy_178 : decode cX8_copy 178 = .ok (.iadd, 1) := by decide +kernel
theorem dX8_copy_179 : decode cX8_copy 179 = .ok (.baload, 1) := by decide +kernel
theorem dX8_copy_180 : decode cX8_copy 180 = .ok (.bastore, 1) := by decide +kernel
theorem dX8_copy_181 : decode cX8_copy 181 = .ok (.iinc 3 1, 3) := by decide +kernel
theorem dX8_copy_184 : decode cX8_copy 184 = .ok (.goto (-31), 3) := by decide +kernel
theorem dX8_copy_187 : decode cX8_copy 187 = .ok (.iconst 0, 1) := by decide +kernel
theorem dX8_copy_188 : decode cX8_copy 188 = .ok (.istore_n 3, 1) := by decide +kernel
theorem dX8_copy_189 : decode cX8_copy 189 = .ok (.iload_n 3, 1) := by decide +kernel
theorem dX8_copy_190 : decode cX8_copy 190 = .ok (.iconst 3, 1) := by decide +kernel
theorem dX8_copy_191 : decode cX8_copy 191 = .ok (.if_icmp .ge 49, 3) := by decide +kernel
theorem dX8_copy_194 : decode cX8_copy 194 = .ok (.aload_n 0, 1) := by decide +kernel
theorem dX8_copy_195 : decode cX8_copy 195 = .ok (.getfield 44, 3) := by decide +kernel
theorem dX8_copy_198 : decode cX8_copy 198 = .ok (.iconst 3, 1) := by decide +kernel
theorem dX8_copy_199 : decode cX8_copy 199 = .ok (.iload_n 2, 1) := by decide +kernel
theorem dX8_copy_200 : decode cX8_copy 200 = .ok (.imul, 1) := by decide +kernel
theorem dX8_copy_201 : decode cX8_copy 201 = .ok (.iload_n 3, 1) := by decide +kernel
theorem dX8_copy_202 : decode cX8_copy 202 = .ok (.iadd, 1) := by decide +kernel
theorem dX8_copy_203 : decode cX8_copy 203 = .ok (.aload_n 0, 1) := by decide +kernel
theorem dX8_copy_204 : decode cX8_copy 204 = .ok (.getfield 44, 3) := by decide +kernel
theorem dX8_copy_207 : decode cX8_copy 207 = .ok (.iconst 3, 1) := by decide +kernel
theorem dX8_copy_208 : decode cX8_copy 208 = .ok (.iload_n 1, 1) := by decide +kernel
theorem dX8_copy_209 : decode cX8_copy 209 = .ok (.imul, 1) := by decide +kernel
theorem dX8_copy_210 : decode cX8_copy 210 = .ok (.iload_n 3, 1) := by decide +kernel
theorem dX8_copy_211 : decode cX8_copy 211 = .ok (.iadd, 1) := by decide +kernel
theorem dX8_copy_212 : decode cX8_copy 212 = .ok (.laload, 1) := by decide +kernel
theorem dX8_copy_213 : decode cX8_copy 213 = .ok (.lastore, 1) := by decide +kernel
theorem dX8_copy_214 : decode cX8_copy 214 = .ok (.aload_n 0, 1) := by decide +kernel
theorem dX8_copy_215 : decode cX8_copy 215 = .ok (.getfield 48, 3) := by decide +kernel
theorem dX8_copy_218 : decode cX8_copy 218 = .ok (.iconst 3, 1) := by decide +kernel
theorem dX8_copy_219 : decode cX8_copy 219 = .ok (.iload_n 2, 1) := by decide +kernel
theorem dX8_copy_220 : decode cX8_copy 220 = .ok (.imul, 1) := by decide +kernel
theorem dX8_copy_221 : decode cX8_copy 221 = .ok (.iload_n 3, 1) := by decide +kernel
theorem dX8_copy_222 : decode cX8_copy 222 = .ok (.iadd, 1) := by decide +kernel
theorem dX8_copy_223 : decode cX8_copy 223 = .ok (.aload_n 0, 1) := by decide +kernel
theorem dX8_copy_224 : decode cX8_copy 224 = .ok (.getfield 48, 3) := by decide +kernel
theorem dX8_copy_227 : decode cX8_copy 227 = .ok (.iconst 3, 1) := by decide +kernel
theorem dX8_copy_228 : decode cX8_copy 228 = .ok (.iload_n 1, 1) := by decide +kernel
theorem dX8_copy_229 : decode cX8_copy 229 = .ok (.imul, 1) := by decide +kernel
theorem dX8_copy_230 : decode cX8_copy 230 = .ok (.iload_n 3, 1) := by decide +kernel
theorem dX8_copy_231 : decode cX8_copy 231 = .ok (.iadd, 1) := by decide +kernel
theorem dX8_copy_232 : decode cX8_copy 232 = .ok (.laload, 1) := by decide +kernel
theorem dX8_copy_233 : decode cX8_copy 233 = .ok (.lastore, 1) := by decide +kernel
theorem dX8_copy_234 : decode cX8_copy 234 = .ok (.iinc 3 1, 3) := by decide +kernel
theorem dX8_copy_237 : decode cX8_copy 237 = .ok (.goto (-48), 3) := by decide +kernel
theorem dX8_copy_240 : decode cX8_copy 240 = .ok (.iconst 0, 1) := by decide +kernel
theorem dX8_copy_241 : decode cX8_copy 241 = .ok (.istore_n 3, 1) := by decide +kernel
theorem dX8_copy_242 : decode cX8_copy 242 = .ok (.iload_n 3, 1) := by decide +kernel
theorem dX8_copy_243 : decode cX8_copy 243 = .ok (.sipush 1800, 3) := by decide +kernel
theorem dX8_copy_246 : decode cX8_copy 246 = .ok (.if_icmp .ge 33, 3) := by decide +kernel
theorem dX8_copy_249 : decode cX8_copy 249 = .ok (.aload_n 0, 1) := by decide +kernel
theorem dX8_copy_250 : decode cX8_copy 250 = .ok (.getfield 57, 3) := by decide +kernel
theorem dX8_copy_253 : decode cX8_copy 253 = .ok (.sipush 1800, 3) := by decide +kernel
theorem dX8_copy_256 : decode cX8_copy 256 = .ok (.iload_n 2, 1) := by decide +kernel
theorem dX8_copy_257 : decode cX8_copy 257 = .ok (.imul, 1) := by decide +kernel
theorem dX8_copy_258 : decode cX8_copy 258 = .ok (.iload_n 3, 1) := by decide +kernel
theorem dX8_copy_259 : decode cX8_copy 259 = .ok (.iadd, 1) := by decide +kernel
theorem dX8_copy_260 : decode cX8_copy 260 = .ok (.aload_n 0, 1) := by decide +kernel
theorem dX8_copy_261 : decode cX8_copy 261 = .ok (.getfield 57, 3) := by decide +kernel
theorem dX8_copy_264 : decode cX8_copy 264 = .ok (.sipush 1800, 3) := by decide +kernel
theorem dX8_copy_267 : decode cX8_copy 267 = .ok (.iload_n 1, 1) := by decide +kernel
theorem dX8_copy_268 : decode cX8_copy 268 = .ok (.imul, 1) := by decide +kernel
theorem dX8_copy_269 : decode cX8_copy 269 = .ok (.iload_n 3, 1) := by decide +kernel
theorem dX8_copy_270 : decode cX8_copy 270 = .ok (.iadd, 1) := by decide +kernel
theorem dX8_copy_271 : decode cX8_copy 271 = .ok (.baload, 1) := by decide +kernel
theorem dX8_copy_272 : decode cX8_copy 272 = .ok (.bastore, 1) := by decide +kernel
theorem dX8_copy_273 : decode cX8_copy 273 = .ok (.iinc 3 1, 3) := by decide +kernel
theorem dX8_copy_276 : decode cX8_copy 276 = .ok (.goto (-34), 3) := by decide +kernel
theorem dX8_copy_279 : decode cX8_copy 279 = .ok (.return_, 1) := by decide +kernel
theorem dX8_isLand_0 : decode cX8_isLand 0 = .ok (.iload_n 1, 1) := by decide +kernel
theorem dX8_isLand_1 : decode cX8_isLand 1 = .ok (.iconst 0, 1) := by decide +kernel
theorem dX8_isLand_2 : decode cX8_isLand 2 = .ok (.aload_n 0, 1) := by decide +kernel
theorem dX8_isLand_3 : decode cX8_isLand 3 = .ok (.getfield 7, 3) := by decide +kernel
theorem dX8_isLand_6 : decode cX8_isLand 6 = .ok (.iconst 0, 1) := by decide +kernel
theorem dX8_isLand_7 : decode cX8_isLand 7 = .ok (.iaload, 1) := by decide +kernel
theorem dX8_isLand_8 : decode cX8_isLand 8 = .ok (.iconst 1, 1) := by decide +kernel
theorem dX8_isLand_9 : decode cX8_isLand 9 = .ok (.isub, 1) := by decide +kernel
theorem dX8_isLand_10 : decode cX8_isLand 10 = .ok (.invokestatic 94, 3) := by decide +kernel
theorem dX8_isLand_13 : decode cX8_isLand 13 = .ok (.ireturn, 1) := by decide +kernel
theorem dX8_land_0 : decode cX8_land 0 = .ok (.aload_n 0, 1) := by decide +kernel
theorem dX8_land_1 : decode cX8_land 1 = .ok (.iconst 0, 1) := by decide +kernel
theorem dX8_land_2 : decode cX8_land 2 = .ok (.putfield 86, 3) := by decide +kernel
theorem dX8_land_5 : decode cX8_land 5 = .ok (.iload_n 1, 1) := by decide +kernel
theorem dX8_land_6 : decode cX8_land 6 = .ok (.bipush 44, 2) := by decide +kernel
theorem dX8_land_8 : decode cX8_land 8 = .ok (.if_icmp .eq 9, 3) := by decide +kernel
theorem dX8_land_11 : decode cX8_land 11 = .ok (.iload_n 1, 1) := by decide +kernel
theorem dX8_land_12 : decode cX8_land 12 = .ok (.bipush 46, 2) := by decide +kernel
theorem dX8_land_14 : decode cX8_land 14 = .ok (.if_icmp .ne 61, 3) := by decide +kernel
theorem dX8_land_17 : decode cX8_land 17 = .ok (.iload_n 2, 1) := by decide +kernel
theorem dX8_land_18 : decode cX8_land 18 = .ok (.bipush 44, 2) := by decide +kernel
theorem dX8_land_20 : decode cX8_land 20 = .ok (.if_icmp .eq 25, 3) := by decide +kernel
theorem dX8_land_23 : decode cX8_land 23 = .ok (.iload_n 2, 1) := by decide +kernel
theorem dX8_land_24 : decode cX8_land 24 = .ok (.bipush 46, 2) := by decide +kernel
theorem dX8_land_26 : decode cX8_land 26 = .ok (.if_icmp .eq 19, 3) := by decide +kernel
theorem dX8_land_29 : decode cX8_land 29 = .ok (.iload_n 2, 1) := by decide +kernel
theorem dX8_land_30 : decode cX8_land 30 = .ok (.bipush 32, 2) := by decide +kernel
theorem dX8_land_32 : decode cX8_land 32 = .ok (.if_icmp .eq 13, 3) := by decide +kernel
theorem dX8_land_35 : decode cX8_land 35 = .ok (.iload_n 2, 1) := by decide +kernel
theorem dX8_land_36 : decode cX8_land 36 = .ok (.bipush 39, 2) := by decide +kernel
theorem dX8_land_38 : decode cX8_land 38 = .ok (.if_icmp .eq 7, 3) := by decide +kernel
theorem dX8_land_41 : decode cX8_land 41 = .ok (.iload_n 2, 1) := by decide +kernel
theorem dX8_land_42 : decode cX8_land 42 = .ok (.ifCond .ne 33, 3) := by decide +kernel
theorem dX8_land_45 : decode cX8_land 45 = .ok (.iload_n 2, 1) := by decide +kernel
theorem dX8_land_46 : decode cX8_land 46 = .ok (.iload_n 1, 1) := by decide +kernel
theorem dX8_land_47 : decode cX8_land 47 = .ok (.if_icmp .eq 28, 3) := by decide +kernel
theorem dX8_land_50 : decode cX8_land 50 = .ok (.iload 8, 2) := by decide +kernel
theorem dX8_land_52 : decode cX8_land 52 = .ok (.bipush 47, 2) := by decide +kernel
theorem dX8_land_54 : decode cX8_land 54 = .ok (.if_icmp .eq 17, 3) := by decide +kernel
theorem dX8_land_57 : decode cX8_land 57 = .ok (.iload 8, 2) := by decide +kernel
theorem dX8_land_59 : decode cX8_land 59 = .ok (.bipush 46, 2) := by decide +kernel
theorem dX8_land_61 : decode cX8_land 61 = .ok (.if_icmp .eq 10, 3) := by decide +kernel
theorem dX8_land_64 : decode cX8_land 64 = .ok (.iload 8, 2) := by decide +kernel
theorem dX8_land_66 : decode cX8_land 66 = .ok (.bipush 45, 2) := by decide +kernel
theorem dX8_land_68 : decode cX8_land 68 = .ok (.if_icmp .ne 7, 3) := by decide +kernel
theorem dX8_land_71 : decode cX8_land 71 = .ok (.iconst 1, 1) := by decide +kernel
theorem dX8_land_72 : decode cX8_land 72 = .ok (.goto 4, 3) := by decide +kernel
theorem dX8_land_75 : decode cX8_land 75 = .ok (.iconst 0, 1) := by decide +kernel
theorem dX8_land_76 : decode cX8_land 76 = .ok (.istore 9, 2) := by decide +kernel
theorem dX8_land_78 : decode cX8_land 78 = .ok (.iload 5, 2) := by decide +kernel
theorem dX8_land_80 : decode cX8_land 80 = .ok (.bipush 24, 2) := by decide +kernel
theorem dX8_land_82 : decode cX8_land 82 = .ok (.ishr, 1) := by decide +kernel
theorem dX8_land_83 : decode cX8_land 83 = .ok (.ifCond .ne 61, 3) := by decide +kernel
theorem dX8_land_86 : decode cX8_land 86 = .ok (.iload 5, 2) := by decide +kernel
theorem dX8_land_88 : decode cX8_land 88 = .ok (.bipush 16, 2) := by decide +kernel
theorem dX8_land_90 : decode cX8_land 90 = .ok (.ishr, 1) := by decide +kernel
theorem dX8_land_91 : decode cX8_land 91 = .ok (.sipush 255, 3) := by decide +kernel
theorem dX8_land_94 : decode cX8_land 94 = .ok (.iand, 1) := by decide +kernel
theorem dX8_land_95 : decode cX8_land 95 = .ok (.bipush 65, 2) := by decide +kernel
theorem dX8_land_97 : decode cX8_land 97 = .ok (.bipush 90, 2) := by decide +kernel
theorem dX8_land_99 : decode cX8_land 99 = .ok (.invokestatic 94, 3) := by decide +kernel
theorem dX8_land_102 : decode cX8_land 102 = .ok (.ifCond .eq 42, 3) := by decide +kernel
theorem dX8_land_105 : decode cX8_land 105 = .ok (.iload 5, 2) := by decide +kernel
theorem dX8_land_107 : decode cX8_land 107 = .ok (.bipush 8, 2) := by decide +kernel
theorem dX8_land_109 : decode cX8_land 109 = .ok (.ishr, 1) := by decide +kernel
theorem dX8_land_110 : decode cX8_land 110 = .ok (.sipush 255, 3) := by decide +kernel
theorem dX8_land_113 : decode cX8_land 113 = .ok (.iand, 1) := by decide +kernel
theorem dX8_land_114 : decode cX8_land 114 = .ok (.bipush 65, 2) := by decide +kernel
theorem dX8_land_116 : decode cX8_land 116 = .ok (.bipush 90, 2) := by decide +kernel
theorem dX8_land_118 : decode cX8_land 118 = .ok (.invokestatic 94, 3) := by decide +kernel
theorem dX8_land_121 : decode cX8_land 121 = .ok (.ifCond .eq 23, 3) := by decide +kernel
theorem dX8_land_124 : decode cX8_land 124 = .ok (.iload 5, 2) := by decide +kernel
theorem dX8_land_126 : decode cX8_land 126 = .ok (.sipush 255, 3) := by decide +kernel
theorem dX8_land_129 : decode cX8_land 129 = .ok (.iand, 1) := by decide +kernel
theorem dX8_land_130 : decode cX8_land 130 = .ok (.bipush 65, 2) := by decide +kernel
theorem dX8_land_132 : decode cX8_land 132 = .ok (.bipush 90, 2) := by decide +kernel
theorem dX8_land_134 : decode cX8_land 134 = .ok (.invokestatic 94, 3) := by decide +kernel
theorem dX8_land_137 : decode cX8_land 137 = .ok (.ifCond .eq 7, 3) := by decide +kernel
theorem dX8_land_140 : decode cX8_land 140 = .ok (.iconst 1, 1) := by decide +kernel
theorem dX8_land_141 : decode cX8_land 141 = .ok (.goto 4, 3) := by decide +kernel
theorem dX8_land_144 : decode cX8_land 144 = .ok (.iconst 0, 1) := by decide +kernel
theorem dX8_land_145 : decode cX8_land 145 = .ok (.istore 10, 2) := by decide +kernel
theorem dX8_land_147 : decode cX8_land 147 = .ok (.aload_n 0, 1) := by decide +kernel
theorem dX8_land_148 : decode cX8_land 148 = .ok (.getfield 7, 3) := by decide +kernel
theorem dX8_land_151 : decode cX8_land 151 = .ok (.iconst 0, 1) := by decide +kernel
theorem dX8_land_152 : decode cX8_land 152 = .ok (.iaload, 1) := by decide +kernel
theorem dX8_land_153 : decode cX8_land 153 = .ok (.bipush 6, 2) := by decide +kernel
theorem dX8_land_155 : decode cX8_land 155 = .ok (.if_icmp .eq 42, 3) := by decide +kernel
theorem dX8_land_158 : decode cX8_land 158 = .ok (.iload 9, 2) := by decide +kernel
theorem dX8_land_160 : decode cX8_land 160 = .ok (.ifCond .eq 37, 3) := by decide +kernel
theorem dX8_land_163 : decode cX8_land 163 = .ok (.iload 10, 2) := by decide +kernel
theorem dX8_land_165 : decode cX8_land 165 = .ok (.ifCond .eq 32, 3) := by decide +kernel
theorem dX8_land_168 : decode cX8_land 168 = .ok (.iload_n 3, 1) := by decide +kernel
theorem dX8_land_169 : decode cX8_land 169 = .ok (.iconst 0, 1) := by decide +kernel
theorem dX8_land_170 : decode cX8_land 170 = .ok (.iconst 1, 1) := by decide +kernel
theorem dX8_land_171 : decode cX8_land 171 = .ok (.invokestatic 94, 3) := by decide +kernel
theorem dX8_land_174 : decode cX8_land 174 = .ok (.ifCond .eq 23, 3) := by decide +kernel
theorem dX8_land_177 : decode cX8_land 177 = .ok (.iload 4, 2) := by decide +kernel
theorem dX8_land_179 : decode cX8_land 179 = .ok (.iconst 0, 1) := by decide +kernel
theorem dX8_land_180 : decode cX8_land 180 = .ok (.iconst 2, 1) := by decide +kernel
theorem dX8_land_181 : decode cX8_land 181 = .ok (.invokestatic 94, 3) := by decide +kernel
theorem dX8_land_184 : decode cX8_land 184 = .ok (.ifCond .eq 13, 3) := by decide +kernel
theorem dX8_land_187 : decode cX8_land 187 = .ok (.iload 7, 2) := by decide +kernel
theorem dX8_land_189 : decode cX8_land 189 = .ok (.iconst 0, 1) := by decide +kernel
theorem dX8_land_190 : decode cX8_land 190 = .ok (.iconst 2, 1) := by decide +kernel
theorem dX8_land_191 : decode cX8_land 191 = .ok (.invokestatic 94, 3) := by decide +kernel
theorem dX8_land_194 : decode cX8_land 194 = .ok (.ifCond .ne 5, 3) := by decide +kernel
theorem dX8_land_197 : decode cX8_land 197 = .ok (.iconst (-1), 1) := by decide +kernel
theorem dX8_land_198 : decode cX8_land 198 = .ok (.ireturn, 1) := by decide +kernel
theorem dX8_land_199 : decode cX8_land 199 = .ok (.aload_n 0, 1) := by decide +kernel
theorem dX8_land_200 : decode cX8_land 200 = .ok (.getfield 7, 3) := by decide +kernel
theorem dX8_land_203 : decode cX8_land 203 = .ok (.iconst 0, 1) := by decide +kernel
theorem dX8_land_204 : decode cX8_land 204 = .ok (.iaload, 1) := by decide +kernel
theorem dX8_land_205 : decode cX8_land 205 = .ok (.istore 11, 2) := by decide +kernel
theorem dX8_land_207 : decode cX8_land 207 = .ok (.aload_n 0, 1) := by decide +kernel
theorem dX8_land_208 : decode cX8_land 208 = .ok (.getfield 7, 3) := by decide +kernel
theorem dX8_land_211 : decode cX8_land 211 = .ok (.iconst 0, 1) := by decide +kernel
theorem dX8_land_212 : decode cX8_land 212 = .ok (.dup2, 1) := by decide +kernel
theorem dX8_land_213 : decode cX8_land 213 = .ok (.iaload, 1) := by decide +kernel
theorem dX8_land_214 : decode cX8_land 214 = .ok (.iconst 1, 1) := by decide +kernel
theorem dX8_land_215 : decode cX8_land 215 = .ok (.iadd, 1) := by decide +kernel
theorem dX8_land_216 : decode cX8_land 216 = .ok (.iastore, 1) := by decide +kernel
theorem dX8_land_217 : decode cX8_land 217 = .ok (.aload_n 0, 1) := by decide +kernel
theorem dX8_land_218 : decode cX8_land 218 = .ok (.getfield 13, 3) := by decide +kernel
theorem dX8_land_221 : decode cX8_land 221 = .ok (.iload 11, 2) := by decide +kernel
theorem dX8_land_223 : decode cX8_land 223 = .ok (.iload_n 1, 1) := by decide +kernel
theorem dX8_land_224 : decode cX8_land 224 = .ok (.iastore, 1) := by decide +kernel
theorem dX8_land_225 : decode cX8_land 225 = .ok (.aload_n 0, 1) := by decide +kernel
theorem dX8_land_226 : decode cX8_land 226 = .ok (.getfield 16, 3) := by decide +kernel
theorem dX8_land_229 : decode cX8_land 229 = .ok (.iload 11, 2) := by decide +kernel
theorem dX8_land_231 : decode cX8_land 231 = .ok (.iload_n 2, 1) := by decide +kernel
theorem dX8_land_232 : decode cX8_land 232 = .ok (.iastore, 1) := by decide +kernel
theorem dX8_land_233 : decode cX8_land 233 = .ok (.aload_n 0, 1) := by decide +kernel
theorem dX8_land_234 : decode cX8_land 234 = .ok (.getfield 19, 3) := by decide +kernel
theorem dX8_land_237 : decode cX8_land 237 = .ok (.iload 11, 2) := by decide +kernel
theorem dX8_land_239 : decode cX8_land 239 = .ok (.iload_n 3, 1) := by decide +kernel
theorem dX8_land_240 : decode cX8_land 240 = .ok (.iastore, 1) := by decide +kernel
theorem dX8_land_241 : decode cX8_land 241 = .ok (.aload_n 0, 1) := by decide +kernel
theorem dX8_land_242 : decode cX8_land 242 = .ok (.getfield 22, 3) := by decide +kernel
theorem dX8_land_245 : decode cX8_land 245 = .ok (.iload 11, 2) := by decide +kernel
theorem dX8_land_247 : decode cX8_land 247 = .ok (.iload 4, 2) := by decide +kernel
theorem dX8_land_249 : decode cX8_land 249 = .ok (.iastore, 1) := by decide +kernel
theorem dX8_land_250 : decode cX8_land 250 = .ok (.aload_n 0, 1) := by decide +kernel
theorem dX8_land_251 : decode cX8_land 251 = .ok (.getfield 25, 3) := by decide +kernel
theorem dX8_land_254 : decode cX8_land 254 = .ok (.iload 11, 2) := by decide +kernel
theorem dX8_land_256 : decode cX8_land 256 = .ok (.iload 5, 2) := by decide +kernel
theorem dX8_land_258 : decode cX8_land 258 = .ok (.iastore, 1) := by decide +kernel
theorem dX8_land_259 : decode cX8_land 259 = .ok (.aload_n 0, 1) := by decide +kernel
theorem dX8_land_260 : decode cX8_land 260 = .ok (.getfield 28, 3) := by decide +kernel
theorem dX8_land_263 : decode cX8_land 263 = .ok (.iload 11, 2) := by decide +kernel
theorem dX8_land_265 : decode cX8_land 265 = .ok (.iload 6, 2) := by decide +kernel
theorem dX8_land_267 : decode cX8_land 267 = .ok (.bastore, 1) := by decide +kernel
theorem dX8_land_268 : decode cX8_land 268 = .ok (.aload_n 0, 1) := by decide +kernel
theorem dX8_land_269 : decode cX8_land 269 = .ok (.getfield 32, 3) := by decide +kernel
theorem dX8_land_272 : decode cX8_land 272 = .ok (.iload 11, 2) := by decide +kernel
theorem dX8_land_274 : decode cX8_land 274 = .ok (.iload 7, 2) := by decide +kernel
theorem dX8_land_276 : decode cX8_land 276 = .ok (.iastore, 1) := by decide +kernel
theorem dX8_land_277 : decode cX8_land 277 = .ok (.aload_n 0, 1) := by decide +kernel
theorem dX8_land_278 : decode cX8_land 278 = .ok (.getfield 35, 3) := by decide +kernel
theorem dX8_land_281 : decode cX8_land 281 = .ok (.iload 11, 2) := by decide +kernel
theorem dX8_land_283 : decode cX8_land 283 = .ok (.iload 8, 2) := by decide +kernel
theorem dX8_land_285 : decode cX8_land 285 = .ok (.iastore, 1) := by decide +kernel
theorem dX8_land_286 : decode cX8_land 286 = .ok (.iload 11, 2) := by decide +kernel
theorem dX8_land_288 : decode cX8_land 288 = .ok (.ireturn, 1) := by decide +kernel
theorem dX8_key_0 : decode cX8_key 0 = .ok (.aload_n 0, 1) := by decide +kernel
theorem dX8_key_1 : decode cX8_key 1 = .ok (.iconst 0, 1) := by decide +kernel
theorem dX8_key_2 : decode cX8_key 2 = .ok (.putfield 86, 3) := by decide +kernel
theorem dX8_key_5 : decode cX8_key 5 = .ok (.iload_n 1, 1) := by decide +kernel
theorem dX8_key_6 : decode cX8_key 6 = .ok (.iconst 0, 1) := by decide +kernel
theorem dX8_key_7 : decode cX8_key 7 = .ok (.sipush 255, 3) := by decide +kernel
theorem dX8_key_10 : decode cX8_key 10 = .ok (.invokestatic 94, 3) := by decide +kernel
theorem dX8_key_13 : decode cX8_key 13 = .ok (.ifCond .eq 14, 3) := by decide +kernel
theorem dX8_key_16 : decode cX8_key 16 = .ok (.aload_n 0, 1) := by decide +kernel
theorem dX8_key_17 : decode cX8_key 17 = .ok (.getfield 38, 3) := by decide +kernel
theorem dX8_key_20 : decode cX8_key 20 = .ok (.iconst 0, 1) := by decide +kernel
theorem dX8_key_21 : decode cX8_key 21 = .ok (.iaload, 1) := by decide +kernel
theorem dX8_key_22 : decode cX8_key 22 = .ok (.bipush 60, 2) := by decide +kernel
theorem dX8_key_24 : decode cX8_key 24 = .ok (.if_icmp .ne 5, 3) := by decide +kernel
theorem dX8_key_27 : decode cX8_key 27 = .ok (.iconst (-1), 1) := by decide +kernel
theorem dX8_key_28 : decode cX8_key 28 = .ok (.ireturn, 1) := by decide +kernel
theorem dX8_key_29 : decode cX8_key 29 = .ok (.aload_n 0, 1) := by decide +kernel
theorem dX8_key_30 : decode cX8_key 30 = .ok (.getfield 41, 3) := by decide +kernel
theorem dX8_key_33 : decode cX8_key 33 = .ok (.aload_n 0, 1) := by decide +kernel
theorem dX8_key_34 : decode cX8_key 34 = .ok (.getfield 38, 3) := by decide +kernel
theorem dX8_key_37 : decode cX8_key 37 = .ok (.iconst 0, 1) := by decide +kernel
theorem dX8_key_38 : decode cX8_key 38 = .ok (.iaload, 1) := by decide +kernel
theorem dX8_key_39 : decode cX8_key 39 = .ok (.iload_n 1, 1) := by decide +kernel
theorem dX8_key_40 : decode cX8_key 40 = .ok (.iastore, 1) := by decide +kernel
theorem dX8_key_41 : decode cX8_key 41 = .ok (.aload_n 0, 1) := by decide +kernel
theorem dX8_key_42 : decode cX8_key 42 = .ok (.getfield 38, 3) := by decide +kernel
theorem dX8_key_45 : decode cX8_key 45 = .ok (.iconst 0, 1) := by decide +kernel
theorem dX8_key_46 : decode cX8_key 46 = .ok (.dup2, 1) := by decide +kernel
theorem dX8_key_47 : decode cX8_key 47 = .ok (.iaload, 1) := by decide +kernel
theorem dX8_key_48 : decode cX8_key 48 = .ok (.iconst 1, 1) := by decide +kernel
theorem dX8_key_49 : decode cX8_key 49 = .ok (.iadd, 1) := by decide +kernel
theorem dX8_key_50 : decode cX8_key 50 = .ok (.iastore, 1) := by decide +kernel
theorem dX8_key_51 : decode cX8_key 51 = .ok (.aload_n 0, 1) := by decide +kernel
theorem dX8_key_52 : decode cX8_key 52 = .ok (.getfield 38, 3) := by decide +kernel
theorem dX8_key_55 : decode cX8_key 55 = .ok (.iconst 0, 1) := by decide +kernel
theorem dX8_key_56 : decode cX8_key 56 = .ok (.iaload, 1) := by decide +kernel
theorem dX8_key_57 : decode cX8_key 57 = .ok (.ireturn, 1) := by decide +kernel
theorem dX8_keys_0 : decode cX8_keys 0 = .ok (.aload_n 0, 1) := by decide +kernel
theorem dX8_keys_1 : decode cX8_keys 1 = .ok (.iconst 0, 1) := by decide +kernel
theorem dX8_keys_2 : decode cX8_keys 2 = .ok (.putfield 86, 3) := by decide +kernel
theorem dX8_keys_5 : decode cX8_keys 5 = .ok (.iconst 0, 1) := by decide +kernel
theorem dX8_keys_6 : decode cX8_keys 6 = .ok (.istore_n 2, 1) := by decide +kernel
theorem dX8_keys_7 : decode cX8_keys 7 = .ok (.iload_n 2, 1) := by decide +kernel
theorem dX8_keys_8 : decode cX8_keys 8 = .ok (.iconst 4, 1) := by decide +kernel
theorem dX8_keys_9 : decode cX8_keys 9 = .ok (.if_icmp .ge 25, 3) := by decide +kernel
theorem dX8_keys_12 : decode cX8_keys 12 = .ok (.iload_n 1, 1) := by decide +kernel
theorem dX8_keys_13 : decode cX8_keys 13 = .ok (.bipush 24, 2) := by decide +kernel
theorem dX8_keys_15 : decode cX8_keys 15 = .ok (.bipush 8, 2) := by decide +kernel
theorem dX8_keys_17 : decode cX8_keys 17 = .ok (.iload_n 2, 1) := by decide +kernel
theorem dX8_keys_18 : decode cX8_keys 18 = .ok (.imul, 1) := by decide +kernel
theorem dX8_keys_19 : decode cX8_keys 19 = .ok (.isub, 1) := by decide +kernel
theorem dX8_keys_20 : decode cX8_keys 20 = .ok (.ishr, 1) := by decide +kernel
theorem dX8_keys_21 : decode cX8_keys 21 = .ok (.sipush 255, 3) := by decide +kernel
theorem dX8_keys_24 : decode cX8_keys 24 = .ok (.iand, 1) := by decide +kernel
theorem dX8_keys_25 : decode cX8_keys 25 = .ok (.ifCond .eq 9, 3) := by decide +kernel
theorem dX8_keys_28 : decode cX8_keys 28 = .ok (.iinc 2 1, 3) := by decide +kernel
theorem dX8_keys_31 : decode cX8_keys 31 = .ok (.goto (-24), 3) := by decide +kernel
theorem dX8_keys_34 : decode cX8_keys 34 = .ok (.aload_n 0, 1) := by decide +kernel
theorem dX8_keys_35 : decode cX8_keys 35 = .ok (.getfield 38, 3) := by decide +kernel
theorem dX8_keys_38 : decode cX8_keys 38 = .ok (.iconst 0, 1) := by decide +kernel
theorem dX8_keys_39 : decode cX8_keys 39 = .ok (.iaload, 1) := by decide +kernel
theorem dX8_keys_40 : decode cX8_keys 40 = .ok (.iload_n 2, 1) := by decide +kernel
theorem dX8_keys_41 : decode cX8_keys 41 = .ok (.iadd, 1) := by decide +kernel
theorem dX8_keys_42 : decode cX8_keys 42 = .ok (.bipush 60, 2) := by decide +kernel
theorem dX8_keys_44 : decode cX8_keys 44 = .ok (.if_icmp .le 5, 3) := by decide +kernel
theorem dX8_keys_47 : decode cX8_keys 47 = .ok (.iconst (-1), 1) := by decide +kernel
theorem dX8_keys_48 : decode cX8_keys 48 = .ok (.ireturn, 1) := by decide +kernel
theorem dX8_keys_49 : decode cX8_keys 49 = .ok (.iconst 0, 1) := by decide +kernel
theorem dX8_keys_50 : decode cX8_keys 50 = .ok (.istore_n 3, 1) := by decide +kernel
theorem dX8_keys_51 : decode cX8_keys 51 = .ok (.iload_n 3, 1) := by decide +kernel
theorem dX8_keys_52 : decode cX8_keys 52 = .ok (.iload_n 2, 1) := by decide +kernel
theorem dX8_keys_53 : decode cX8_keys 53 = .ok (.if_icmp .ge 43, 3) := by decide +kernel
theorem dX8_keys_56 : decode cX8_keys 56 = .ok (.aload_n 0, 1) := by decide +kernel
theorem dX8_keys_57 : decode cX8_keys 57 = .ok (.getfield 41, 3) := by decide +kernel
theorem dX8_keys_60 : decode cX8_keys 60 = .ok (.aload_n 0, 1) := by decide +kernel
theorem dX8_keys_61 : decode cX8_keys 61 = .ok (.getfield 38, 3) := by decide +kernel
theorem dX8_keys_64 : decode cX8_keys 64 = .ok (.iconst 0, 1) := by decide +kernel
theorem dX8_keys_65 : decode cX8_keys 65 = .ok (.iaload, 1) := by decide +kernel
theorem dX8_keys_66 : decode cX8_keys 66 = .ok (.iload_n 1, 1) := by decide +kernel
theorem dX8_keys_67 : decode cX8_keys 67 = .ok (.bipush 24, 2) := by decide +kernel
theorem dX8_keys_69 : decode cX8_keys 69 = .ok (.bipush 8, 2) := by decide +kernel
theorem dX8_keys_71 : decode cX8_keys 71 = .ok (.iload_n 3, 1) := by decide +kernel
theorem dX8_keys_72 : decode cX8_keys 72 = .ok (.imul, 1) := by decide +kernel
theorem dX8_keys_73 : decode cX8_keys 73 = .ok (.isub, 1) := by decide +kernel
theorem dX8_keys_74 : decode cX8_keys 74 = .ok (.ishr, 1) := by decide +kernel
theorem dX8_keys_75 : decode cX8_keys 75 = .ok (.sipush 255, 3) := by decide +kernel
theorem dX8_keys_78 : decode cX8_keys 78 = .ok (.iand, 1) := by decide +kernel
theorem dX8_keys_79 : decode cX8_keys 79 = .ok (.iastore, 1) := by decide +kernel
theorem dX8_keys_80 : decode cX8_keys 80 = .ok (.aload_n 0, 1) := by decide +kernel
theorem dX8_keys_81 : decode cX8_keys 81 = .ok (.getfield 38, 3) := by decide +kernel
theorem dX8_keys_84 : decode cX8_keys 84 = .ok (.iconst 0, 1) := by decide +kernel
theorem dX8_keys_85 : decode cX8_keys 85 = .ok (.dup2, 1) := by decide +kernel
theorem dX8_keys_86 : decode cX8_keys 86 = .ok (.iaload, 1) := by decide +kernel
theorem dX8_keys_87 : decode cX8_keys 87 = .ok (.iconst 1, 1) := by decide +kernel
theorem dX8_keys_88 : decode cX8_keys 88 = .ok (.iadd, 1) := by decide +kernel
theorem dX8_keys_89 : decode cX8_keys 89 = .ok (.iastore, 1) := by decide +kernel
theorem dX8_keys_90 : decode cX8_keys 90 = .ok (.iinc 3 1, 3) := by decide +kernel
theorem dX8_keys_93 : decode cX8_keys 93 = .ok (.goto (-42), 3) := by decide +kernel
theorem dX8_keys_96 : decode cX8_keys 96 = .ok (.aload_n 0, 1) := by decide +kernel
theorem dX8_keys_97 : decode cX8_keys 97 = .ok (.getfield 38, 3) := by decide +kernel
theorem dX8_keys_100 : decode cX8_keys 100 = .ok (.iconst 0, 1) := by decide +kernel
theorem dX8_keys_101 : decode cX8_keys 101 = .ok (.iaload, 1) := by decide +kernel
theorem dX8_keys_102 : decode cX8_keys 102 = .ok (.ireturn, 1) := by decide +kernel
theorem dX8_undo_0 : decode cX8_undo 0 = .ok (.aload_n 0, 1) := by decide +kernel
theorem dX8_undo_1 : decode cX8_undo 1 = .ok (.iconst 0, 1) := by decide +kernel
theorem dX8_undo_2 : decode cX8_undo 2 = .ok (.putfield 86, 3) := by decide +kernel
theorem dX8_undo_5 : decode cX8_undo 5 = .ok (.iload_n 1, 1) := by decide +kernel
theorem dX8_undo_6 : decode cX8_undo 6 = .ok (.iconst 0, 1) := by decide +kernel
theorem dX8_undo_7 : decode cX8_undo 7 = .ok (.aload_n 0, 1) := by decide +kernel
theorem dX8_undo_8 : decode cX8_undo 8 = .ok (.getfield 38, 3) := by decide +kernel
theorem dX8_undo_11 : decode cX8_undo 11 = .ok (.iconst 0, 1) := by decide +kernel
theorem dX8_undo_12 : decode cX8_undo 12 = .ok (.iaload, 1) := by decide +kernel
theorem dX8_undo_13 : decode cX8_undo 13 = .ok (.invokestatic 94, 3) := by decide +kernel
theorem dX8_undo_16 : decode cX8_undo 16 = .ok (.ifCond .ne 5, 3) := by decide +kernel
theorem dX8_undo_19 : decode cX8_undo 19 = .ok (.iconst (-1), 1) := by decide +kernel
theorem dX8_undo_20 : decode cX8_undo 20 = .ok (.ireturn, 1) := by decide +kernel
theorem dX8_undo_21 : decode cX8_undo 21 = .ok (.aload_n 0, 1) := by decide +kernel
theorem dX8_undo_22 : decode cX8_undo 22 = .ok (.getfield 38, 3) := by decide +kernel
theorem dX8_undo_25 : decode cX8_undo 25 = .ok (.iconst 0, 1) := by decide +kernel
theorem dX8_undo_26 : decode cX8_undo 26 = .ok (.dup2, 1) := by decide +kernel
theorem dX8_undo_27 : decode cX8_undo 27 = .ok (.iaload, 1) := by decide +kernel
theorem dX8_undo_28 : decode cX8_undo 28 = .ok (.iload_n 1, 1) := by decide +kernel
theorem dX8_undo_29 : decode cX8_undo 29 = .ok (.isub, 1) := by decide +kernel
theorem dX8_undo_30 : decode cX8_undo 30 = .ok (.iastore, 1) := by decide +kernel
theorem dX8_undo_31 : decode cX8_undo 31 = .ok (.aload_n 0, 1) := by decide +kernel
theorem dX8_undo_32 : decode cX8_undo 32 = .ok (.getfield 38, 3) := by decide +kernel
theorem dX8_undo_35 : decode cX8_undo 35 = .ok (.iconst 0, 1) := by decide +kernel
theorem dX8_undo_36 : decode cX8_undo 36 = .ok (.iaload, 1) := by decide +kernel
theorem dX8_undo_37 : decode cX8_undo 37 = .ok (.ireturn, 1) := by decide +kernel
theorem dX8_bounds_0 : decode cX8_bounds 0 = .ok (.aload_n 0, 1) := by decide +kernel
theorem dX8_bounds_1 : decode cX8_bounds 1 = .ok (.iconst 0, 1) := by decide +kernel
theorem dX8_bounds_2 : decode cX8_bounds 2 = .ok (.putfield 86, 3) := by decide +kernel
theorem dX8_bounds_5 : decode cX8_bounds 5 = .ok (.iload_n 1, 1) := by decide +kernel
theorem dX8_bounds_6 : decode cX8_bounds 6 = .ok (.iconst 0, 1) := by decide +kernel
theorem dX8_bounds_7 : decode cX8_bounds 7 = .ok (.iconst 2, 1) := by decide +kernel
theorem dX8_bounds_8 : decode cX8_bounds 8 = .ok (.invokestatic 94, 3) := by decide +kernel
theorem dX8_bounds_11 : decode cX8_bounds 11 = .ok (.ifCond .eq 10, 3) := by decide +kernel
theorem dX8_bounds_14 : decode cX8_bounds 14 = .ok (.lload_n 2, 1) := by decide +kernel
theorem dX8_bounds_15 : decode cX8_bounds 15 = .ok (.lload 4, 2) := by decide +kernel
theorem dX8_bounds_17 : decode cX8_bounds 17 = .ok (.lcmp, 1) := by decide +kernel
theorem dX8_bounds_18 : decode cX8_bounds 18 = .ok (.ifCond .le 5, 3) := by decide +kernel
theorem dX8_bounds_21 : decode cX8_bounds 21 = .ok (.iconst 0, 1) := by decide +kernel
theorem dX8_bounds_22 : decode cX8_bounds 22 = .ok (.ireturn, 1) := by decide +kernel
theorem dX8_bounds_23 : decode cX8_bounds 23 = .ok (.aload_n 0, 1) := by decide +kernel
theorem dX8_bounds_24 : decode cX8_bounds 24 = .ok (.getfield 44, 3) := by decide +kernel
theorem dX8_bounds_27 : decode cX8_bounds 27 = .ok (.iload_n 1, 1) := by decide +kernel
theorem dX8_bounds_28 : decode cX8_bounds 28 = .ok (.lload_n 2, 1) := by decide +kernel
theorem dX8_bounds_29 : decode cX8_bounds 29 = .ok (.lastore, 1) := by decide +kernel
theorem dX8_bounds_30 : decode cX8_bounds 30 = .ok (.aload_n 0, 1) := by decide +kernel
theorem dX8_bounds_31 : decode cX8_bounds 31 = .ok (.getfield 48, 3) := by decide +kernel
theorem dX8_bounds_34 : decode cX8_bounds 34 = .ok (.iload_n 1, 1) := by decide +kernel
theorem dX8_bounds_35 : decode cX8_bounds 35 = .ok (.lload 4, 2) := by decide +kernel
theorem dX8_bounds_37 : decode cX8_bounds 37 = .ok (.lastore, 1) := by decide +kernel
theorem dX8_bounds_38 : decode cX8_bounds 38 = .ok (.iconst 1, 1) := by decide +kernel
theorem dX8_bounds_39 : decode cX8_bounds 39 = .ok (.ireturn, 1) := by decide +kernel
theorem dX8_lineText_0 : decode cX8_lineText 0 = .ok (.aload_n 0, 1) := by decide +kernel
theorem dX8_lineText_1 : decode cX8_lineText 1 = .ok (.aload_n 0, 1) := by decide +kernel
theorem dX8_lineText_2 : decode cX8_lineText 2 = .ok (.getfield 38, 3) := by decide +kernel
theorem dX8_lineText_5 : decode cX8_lineText 5 = .ok (.iconst 0, 1) := by decide +kernel
theorem dX8_lineText_6 : decode cX8_lineText 6 = .ok (.iaload, 1) := by decide +kernel
theorem dX8_lineText_7 : decode cX8_lineText 7 = .ok (.putfield 98, 3) := by decide +kernel
theorem dX8_lineText_10 : decode cX8_lineText 10 = .ok (.iconst 0, 1) := by decide +kernel
theorem dX8_lineText_11 : decode cX8_lineText 11 = .ok (.istore_n 1, 1) := by decide +kernel
theorem dX8_lineText_12 : decode cX8_lineText 12 = .ok (.iload_n 1, 1) := by decide +kernel
theorem dX8_lineText_13 : decode cX8_lineText 13 = .ok (.aload_n 0, 1) := by decide +kernel
theorem dX8_lineText_14 : decode cX8_lineText 14 = .ok (.getfield 98, 3) := by decide +kernel
theorem dX8_lineText_17 : decode cX8_lineText 17 = .ok (.if_icmp .ge 21, 3) := by decide +kernel
theorem dX8_lineText_20 : decode cX8_lineText 20 = .ok (.aload_n 0, 1) := by decide +kernel
theorem dX8_lineText_21 : decode cX8_lineText 21 = .ok (.getfield 67, 3) := by decide +kernel
theorem dX8_lineText_24 : decode cX8_lineText 24 = .ok (.iload_n 1, 1) := by decide +kernel
theorem dX8_lineText_25 : decode cX8_lineText 25 = .ok (.aload_n 0, 1) := by decide +kernel
theorem dX8_lineText_26 : decode cX8_lineText 26 = .ok (.getfield 41, 3) := by decide +kernel
theorem dX8_lineText_29 : decode cX8_lineText 29 = .ok (.iload_n 1, 1) := by decide +kernel
theorem dX8_lineText_30 : decode cX8_lineText 30 = .ok (.iaload, 1) := by decide +kernel
theorem dX8_lineText_31 : decode cX8_lineText 31 = .ok (.iastore, 1) := by decide +kernel
theorem dX8_lineText_32 : decode cX8_lineText 32 = .ok (.iinc 1 1, 3) := by decide +kernel
theorem dX8_lineText_35 : decode cX8_lineText 35 = .ok (.goto (-23), 3) := by decide +kernel
theorem dX8_lineText_38 : decode cX8_lineText 38 = .ok (.return_, 1) := by decide +kernel
theorem dX8_rowText_0 : decode cX8_rowText 0 = .ok (.aload_n 0, 1) := by decide +kernel
theorem dX8_rowText_1 : decode cX8_rowText 1 = .ok (.aload_n 0, 1) := by decide +kernel
theorem dX8_rowText_2 : decode cX8_rowText 2 = .ok (.getfield 54, 3) := by decide +kernel
theorem dX8_rowText_5 : decode cX8_rowText 5 = .ok (.iload_n 1, 1) := by decide +kernel
theorem dX8_rowText_6 : decode cX8_rowText 6 = .ok (.iaload, 1) := by decide +kernel
theorem dX8_rowText_7 : decode cX8_rowText 7 = .ok (.putfield 98, 3) := by decide +kernel
theorem dX8_rowText_10 : decode cX8_rowText 10 = .ok (.iconst 0, 1) := by decide +kernel
theorem dX8_rowText_11 : decode cX8_rowText 11 = .ok (.istore_n 2, 1) := by decide +kernel
theorem dX8_rowText_12 : decode cX8_rowText 12 = .ok (.iload_n 2, 1) := by decide +kernel
theorem dX8_rowText_13 : decode cX8_rowText 13 = .ok (.aload_n 0, 1) := by decide +kernel
theorem dX8_rowText_14 : decode cX8_rowText 14 = .ok (.getfield 98, 3) := by decide +kernel
theorem dX8_rowText_17 : decode cX8_rowText 17 = .ok (.if_icmp .ge 30, 3) := by decide +kernel
theorem dX8_rowText_20 : decode cX8_rowText 20 = .ok (.aload_n 0, 1) := by decide +kernel
theorem dX8_rowText_21 : decode cX8_rowText 21 = .ok (.getfield 67, 3) := by decide +kernel
theorem dX8_rowText_24 : decode cX8_rowText 24 = .ok (.iload_n 2, 1) := by decide +kernel
theorem dX8_rowText_25 : decode cX8_rowText 25 = .ok (.aload_n 0, 1) := by decide +kernel
theorem dX8_rowText_26 : decode cX8_rowText 26 = .ok (.getfield 57, 3) := by decide +kernel
theorem dX8_rowText_29 : decode cX8_rowText 29 = .ok (.bipush 60, 2) := by decide +kernel
theorem dX8_rowText_31 : decode cX8_rowText 31 = .ok (.iload_n 1, 1) := by decide +kernel
theorem dX8_rowText_32 : decode cX8_rowText 32 = .ok (.imul, 1) := by decide +kernel
theorem dX8_rowText_33 : decode cX8_rowText 33 = .ok (.iload_n 2, 1) := by decide +kernel
theorem dX8_rowText_34 : decode cX8_rowText 34 = .ok (.iadd, 1) := by decide +kernel
theorem dX8_rowText_35 : decode cX8_rowText 35 = .ok (.baload, 1) := by decide +kernel
theorem dX8_rowText_36 : decode cX8_rowText 36 = .ok (.sipush 255, 3) := by decide +kernel
theorem dX8_rowText_39 : decode cX8_rowText 39 = .ok (.iand, 1) := by decide +kernel
theorem dX8_rowText_40 : decode cX8_rowText 40 = .ok (.iastore, 1) := by decide +kernel
theorem dX8_rowText_41 : decode cX8_rowText 41 = .ok (.iinc 2 1, 3) := by decide +kernel
theorem dX8_rowText_44 : decode cX8_rowText 44 = .ok (.goto (-32), 3) := by decide +kernel
theorem dX8_rowText_47 : decode cX8_rowText 47 = .ok (.return_, 1) := by decide +kernel
theorem dX8_put_0 : decode cX8_put 0 = .ok (.aload_n 0, 1) := by decide +kernel
theorem dX8_put_1 : decode cX8_put 1 = .ok (.getfield 70, 3) := by decide +kernel
theorem dX8_put_4 : decode cX8_put 4 = .ok (.aload_n 0, 1) := by decide +kernel
theorem dX8_put_5 : decode cX8_put 5 = .ok (.getfield 101, 3) := by decide +kernel
theorem dX8_put_8 : decode cX8_put 8 = .ok (.iload_n 1, 1) := by decide +kernel
theorem dX8_put_9 : decode cX8_put 9 = .ok (.iastore, 1) := by decide +kernel
theorem dX8_put_10 : decode cX8_put 10 = .ok (.aload_n 0, 1) := by decide +kernel
theorem dX8_put_11 : decode cX8_put 11 = .ok (.getfield 73, 3) := by decide +kernel
theorem dX8_put_14 : decode cX8_put 14 = .ok (.aload_n 0, 1) := by decide +kernel
theorem dX8_put_15 : decode cX8_put 15 = .ok (.getfield 101, 3) := by decide +kernel
theorem dX8_put_18 : decode cX8_put 18 = .ok (.iload_n 2, 1) := by decide +kernel
theorem dX8_put_19 : decode cX8_put 19 = .ok (.iastore, 1) := by decide +kernel
theorem dX8_put_20 : decode cX8_put 20 = .ok (.aload_n 0, 1) := by decide +kernel
theorem dX8_put_21 : decode cX8_put 21 = .ok (.dup, 1) := by decide +kernel
theorem dX8_put_22 : decode cX8_put 22 = .ok (.getfield 101, 3) := by decide +kernel
theorem dX8_put_25 : decode cX8_put 25 = .ok (.iconst 1, 1) := by decide +kernel
theorem dX8_put_26 : decode cX8_put 26 = .ok (.iadd, 1) := by decide +kernel
theorem dX8_put_27 : decode cX8_put 27 = .ok (.putfield 101, 3) := by decide +kernel
theorem dX8_put_30 : decode cX8_put 30 = .ok (.return_, 1) := by decide +kernel
theorem dX8_putMark_0 : decode cX8_putMark 0 = .ok (.aload_n 0, 1) := by decide +kernel
theorem dX8_putMark_1 : decode cX8_putMark 1 = .ok (.aload_n 0, 1) := by decide +kernel
theorem dX8_putMark_2 : decode cX8_putMark 2 = .ok (.getfield 25, 3) := by decide +kernel
theorem dX8_putMark_5 : decode cX8_putMark 5 = .ok (.iload_n 1, 1) := by decide +kernel
theorem dX8_putMark_6 : decode cX8_putMark 6 = .ok (.iaload, 1) := by decide +kernel
theorem dX8_putMark_7 : decode cX8_putMark 7 = .ok (.bipush 16, 2) := by decide +kernel
theorem dX8_putMark_9 : decode cX8_putMark 9 = .ok (.ishr, 1) := by decide +kernel
theorem dX8_putMark_10 : decode cX8_putMark 10 = .ok (.sipush 255, 3) := by decide +kernel
theorem dX8_putMark_13 : decode cX8_putMark 13 = .ok (.iand, 1) := by decide +kernel
theorem dX8_putMark_14 : decode cX8_putMark 14 = .ok (.iconst 0, 1) := by decide +kernel
theorem dX8_putMark_15 : decode cX8_putMark 15 = .ok (.invokevirtual 104, 3) := by decide +kernel
theorem dX8_putMark_18 : decode cX8_putMark 18 = .ok (.aload_n 0, 1) := by decide +kernel
theorem dX8_putMark_19 : decode cX8_putMark 19 = .ok (.aload_n 0, 1) := by decide +kernel
theorem dX8_putMark_20 : decode cX8_putMark 20 = .ok (.getfield 25, 3) := by decide +kernel
theorem dX8_putMark_23 : decode cX8_putMark 23 = .ok (.iload_n 1, 1) := by decide +kernel
theorem dX8_putMark_24 : decode cX8_putMark 24 = .ok (.iaload, 1) := by decide +kernel
theorem dX8_putMark_25 : decode cX8_putMark 25 = .ok (.bipush 8, 2) := by decide +kernel
theorem dX8_putMark_27 : decode cX8_putMark 27 = .ok (.ishr, 1) := by decide +kernel
theorem dX8_putMark_28 : decode cX8_putMark 28 = .ok (.sipush 255, 3) := by decide +kernel
theorem dX8_putMark_31 : decode cX8_putMark 31 = .ok (.iand, 1) := by decide +kernel
theorem dX8_putMark_32 : decode cX8_putMark 32 = .ok (.iconst 0, 1) := by decide +kernel
theorem dX8_putMark_33 : decode cX8_putMark 33 = .ok (.invokevirtual 104, 3) := by decide +kernel
theorem dX8_putMark_36 : decode cX8_putMark 36 = .ok (.aload_n 0, 1) := by decide +kernel
theorem dX8_putMark_37 : decode cX8_putMark 37 = .ok (.aload_n 0, 1) := by decide +kernel
theorem dX8_putMark_38 : decode cX8_putMark 38 = .ok (.getfield 25, 3) := by decide +kernel
theorem dX8_putMark_41 : decode cX8_putMark 41 = .ok (.iload_n 1, 1) := by decide +kernel
theorem dX8_putMark_42 : decode cX8_putMark 42 = .ok (.iaload, 1) := by decide +kernel
theorem dX8_putMark_43 : decode cX8_putMark 43 = .ok (.sipush 255, 3) := by decide +kernel
theorem dX8_putMark_46 : decode cX8_putMark 46 = .ok (.iand, 1) := by decide +kernel
theorem dX8_putMark_47 : decode cX8_putMark 47 = .ok (.iconst 0, 1) := by decide +kernel
theorem dX8_putMark_48 : decode cX8_putMark 48 = .ok (.invokevirtual 104, 3) := by decide +kernel
theorem dX8_putMark_51 : decode cX8_putMark 51 = .ok (.return_, 1) := by decide +kernel
