theorem dX0_isLeap_0 : decode cX0_isLeap 0 = .ok (.iload_n 0, 1) := by decide +kernel
theorem dX0_isLeap_1 : decode cX0_isLeap 1 = .ok (.iconst 4, 1) := by decide +kernel
theorem dX0_isLeap_2 : decode cX0_isLeap 2 = .ok (.irem, 1) := by decide +kernel
theorem dX0_isLeap_3 : decode cX0_isLeap 3 = .ok (.ifCond .ne 10, 3) := by decide +kernel
theorem dX0_isLeap_6 : decode cX0_isLeap 6 = .ok (.iload_n 0, 1) := by decide +kernel
theorem dX0_isLeap_7 : decode cX0_isLeap 7 = .ok (.bipush 100, 2) := by decide +kernel
theorem dX0_isLeap_9 : decode cX0_isLeap 9 = .ok (.irem, 1) := by decide +kernel
theorem dX0_isLeap_10 : decode cX0_isLeap 10 = .ok (.ifCond .ne 11, 3) := by decide +kernel
theorem dX0_isLeap_13 : decode cX0_isLeap 13 = .ok (.iload_n 0, 1) := by decide +kernel
theorem dX0_isLeap_14 : decode cX0_isLeap 14 = .ok (.sipush 400, 3) := by decide +kernel
theorem dX0_isLeap_17 : decode cX0_isLeap 17 = .ok (.irem, 1) := by decide +kernel
theorem dX0_isLeap_18 : decode cX0_isLeap 18 = .ok (.ifCond .ne 7, 3) := by decide +kernel
theorem dX0_isLeap_21 : decode cX0_isLeap 21 = .ok (.iconst 1, 1) := by decide +kernel
theorem dX0_isLeap_22 : decode cX0_isLeap 22 = .ok (.goto 4, 3) := by decide +kernel
theorem dX0_isLeap_25 : decode cX0_isLeap 25 = .ok (.iconst 0, 1) := by decide +kernel
theorem dX0_isLeap_26 : decode cX0_isLeap 26 = .ok (.ireturn, 1) := by decide +kernel
theorem dX0_lengthOf_0 : decode cX0_lengthOf 0 = .ok (.iload_n 0, 1) := by decide +kernel
theorem dX0_lengthOf_1 : decode cX0_lengthOf 1 = .ok (.iconst 1, 1) := by decide +kernel
theorem dX0_lengthOf_2 : decode cX0_lengthOf 2 = .ok (.if_icmp .lt 11, 3) := by decide +kernel
theorem dX0_lengthOf_5 : decode cX0_lengthOf 5 = .ok (.iload_n 0, 1) := by decide +kernel
theorem dX0_lengthOf_6 : decode cX0_lengthOf 6 = .ok (.getstatic 7, 3) := by decide +kernel
theorem dX0_lengthOf_9 : decode cX0_lengthOf 9 = .ok (.arraylength, 1) := by decide +kernel
theorem dX0_lengthOf_10 : decode cX0_lengthOf 10 = .ok (.if_icmp .le 5, 3) := by decide +kernel
theorem dX0_lengthOf_13 : decode cX0_lengthOf 13 = .ok (.iconst 0, 1) := by decide +kernel
theorem dX0_lengthOf_14 : decode cX0_lengthOf 14 = .ok (.ireturn, 1) := by decide +kernel
theorem dX0_lengthOf_15 : decode cX0_lengthOf 15 = .ok (.iload_n 0, 1) := by decide +kernel
theorem dX0_lengthOf_16 : decode cX0_lengthOf 16 = .ok (.iconst 2, 1) := by decide +kernel
theorem dX0_lengthOf_17 : decode cX0_lengthOf 17 = .ok (.if_icmp .ne 12, 3) := by decide +kernel
theorem dX0_lengthOf_20 : decode cX0_lengthOf 20 = .ok (.iload_n 1, 1) := by decide +kernel
theorem dX0_lengthOf_21 : decode cX0_lengthOf 21 = .ok (.ifCond .eq 8, 3) := by decide +kernel
theorem dX0_lengthOf_24 : decode cX0_lengthOf 24 = .ok (.bipush 29, 2) := by decide +kernel
theorem dX0_lengthOf_26 : decode cX0_lengthOf 26 = .ok (.goto 10, 3) := by decide +kernel
theorem dX0_lengthOf_29 : decode cX0_lengthOf 29 = .ok (.getstatic 7, 3) := by decide +kernel
theorem dX0_lengthOf_32 : decode cX0_lengthOf 32 = .ok (.iload_n 0, 1) := by decide +kernel
theorem dX0_lengthOf_33 : decode cX0_lengthOf 33 = .ok (.iconst 1, 1) := by decide +kernel
theorem dX0_lengthOf_34 : decode cX0_lengthOf 34 = .ok (.isub, 1) := by decide +kernel
theorem dX0_lengthOf_35 : decode cX0_lengthOf 35 = .ok (.iaload, 1) := by decide +kernel
theorem dX0_lengthOf_36 : decode cX0_lengthOf 36 = .ok (.ireturn, 1) := by decide +kernel
theorem dX0_isDay_0 : decode cX0_isDay 0 = .ok (.iload_n 0, 1) := by decide +kernel
theorem dX0_isDay_1 : decode cX0_isDay 1 = .ok (.iconst 1, 1) := by decide +kernel
theorem dX0_isDay_2 : decode cX0_isDay 2 = .ok (.if_icmp .lt 31, 3) := by decide +kernel
theorem dX0_isDay_5 : decode cX0_isDay 5 = .ok (.iload_n 0, 1) := by decide +kernel
theorem dX0_isDay_6 : decode cX0_isDay 6 = .ok (.sipush 9999, 3) := by decide +kernel
theorem dX0_isDay_9 : decode cX0_isDay 9 = .ok (.if_icmp .gt 24, 3) := by decide +kernel
theorem dX0_isDay_12 : decode cX0_isDay 12 = .ok (.iload_n 2, 1) := by decide +kernel
theorem dX0_isDay_13 : decode cX0_isDay 13 = .ok (.iconst 1, 1) := by decide +kernel
theorem dX0_isDay_14 : decode cX0_isDay 14 = .ok (.if_icmp .lt 19, 3) := by decide +kernel
theorem dX0_isDay_17 : decode cX0_isDay 17 = .ok (.iload_n 2, 1) := by decide +kernel
theorem dX0_isDay_18 : decode cX0_isDay 18 = .ok (.iload_n 1, 1) := by decide +kernel
theorem dX0_isDay_19 : decode cX0_isDay 19 = .ok (.iload_n 0, 1) := by decide +kernel
theorem dX0_isDay_20 : decode cX0_isDay 20 = .ok (.invokestatic 13, 3) := by decide +kernel
theorem dX0_isDay_23 : decode cX0_isDay 23 = .ok (.invokestatic 17, 3) := by decide +kernel
theorem dX0_isDay_26 : decode cX0_isDay 26 = .ok (.if_icmp .gt 7, 3) := by decide +kernel
theorem dX0_isDay_29 : decode cX0_isDay 29 = .ok (.iconst 1, 1) := by decide +kernel
theorem dX0_isDay_30 : decode cX0_isDay 30 = .ok (.goto 4, 3) := by decide +kernel
theorem dX0_isDay_33 : decode cX0_isDay 33 = .ok (.iconst 0, 1) := by decide +kernel
theorem dX0_isDay_34 : decode cX0_isDay 34 = .ok (.ireturn, 1) := by decide +kernel
theorem dX0_beforeYear_0 : decode cX0_beforeYear 0 = .ok (.iload_n 0, 1) := by decide +kernel
theorem dX0_beforeYear_1 : decode cX0_beforeYear 1 = .ok (.iconst 1, 1) := by decide +kernel
theorem dX0_beforeYear_2 : decode cX0_beforeYear 2 = .ok (.isub, 1) := by decide +kernel
theorem dX0_beforeYear_3 : decode cX0_beforeYear 3 = .ok (.istore_n 1, 1) := by decide +kernel
theorem dX0_beforeYear_4 : decode cX0_beforeYear 4 = .ok (.iload_n 1, 1) := by decide +kernel
theorem dX0_beforeYear_5 : decode cX0_beforeYear 5 = .ok (.sipush 365, 3) := by decide +kernel
theorem dX0_beforeYear_8 : decode cX0_beforeYear 8 = .ok (.imul, 1) := by decide +kernel
theorem dX0_beforeYear_9 : decode cX0_beforeYear 9 = .ok (.iload_n 1, 1) := by decide +kernel
theorem dX0_beforeYear_10 : decode cX0_beforeYear 10 = .ok (.iconst 4, 1) := by decide +kernel
theorem dX0_beforeYear_11 : decode cX0_beforeYear 11 = .ok (.idiv, 1) := by decide +kernel
theorem dX0_beforeYear_12 : decode cX0_beforeYear 12 = .ok (.iadd, 1) := by decide +kernel
theorem dX0_beforeYear_13 : decode cX0_beforeYear 13 = .ok (.iload_n 1, 1) := by decide +kernel
theorem dX0_beforeYear_14 : decode cX0_beforeYear 14 = .ok (.bipush 100, 2) := by decide +kernel
theorem dX0_beforeYear_16 : decode cX0_beforeYear 16 = .ok (.idiv, 1) := by decide +kernel
theorem dX0_beforeYear_17 : decode cX0_beforeYear 17 = .ok (.isub, 1) := by decide +kernel
theorem dX0_beforeYear_18 : decode cX0_beforeYear 18 = .ok (.iload_n 1, 1) := by decide +kernel
theorem dX0_beforeYear_19 : decode cX0_beforeYear 19 = .ok (.sipush 400, 3) := by decide +kernel
theorem dX0_beforeYear_22 : decode cX0_beforeYear 22 = .ok (.idiv, 1) := by decide +kernel
theorem dX0_beforeYear_23 : decode cX0_beforeYear 23 = .ok (.iadd, 1) := by decide +kernel
theorem dX0_beforeYear_24 : decode cX0_beforeYear 24 = .ok (.ireturn, 1) := by decide +kernel
theorem dX0_numberOf_0 : decode cX0_numberOf 0 = .ok (.iload_n 0, 1) := by decide +kernel
theorem dX0_numberOf_1 : decode cX0_numberOf 1 = .ok (.invokestatic 13, 3) := by decide +kernel
theorem dX0_numberOf_4 : decode cX0_numberOf 4 = .ok (.istore_n 3, 1) := by decide +kernel
theorem dX0_numberOf_5 : decode cX0_numberOf 5 = .ok (.iload_n 0, 1) := by decide +kernel
theorem dX0_numberOf_6 : decode cX0_numberOf 6 = .ok (.invokestatic 21, 3) := by decide +kernel
theorem dX0_numberOf_9 : decode cX0_numberOf 9 = .ok (.iload_n 2, 1) := by decide +kernel
theorem dX0_numberOf_10 : decode cX0_numberOf 10 = .ok (.iadd, 1) := by decide +kernel
theorem dX0_numberOf_11 : decode cX0_numberOf 11 = .ok (.iconst 1, 1) := by decide +kernel
theorem dX0_numberOf_12 : decode cX0_numberOf 12 = .ok (.isub, 1) := by decide +kernel
theorem dX0_numberOf_13 : decode cX0_numberOf 13 = .ok (.istore 4, 2) := by decide +kernel
theorem dX0_numberOf_15 : decode cX0_numberOf 15 = .ok (.iconst 1, 1) := by decide +kernel
theorem dX0_numberOf_16 : decode cX0_numberOf 16 = .ok (.istore 5, 2) := by decide +kernel
theorem dX0_numberOf_18 : decode cX0_numberOf 18 = .ok (.iload 5, 2) := by decide +kernel
theorem dX0_numberOf_20 : decode cX0_numberOf 20 = .ok (.iload_n 1, 1) := by decide +kernel
theorem dX0_numberOf_21 : decode cX0_numberOf 21 = .ok (.if_icmp .ge 27, 3) := by decide +kernel
theorem dX0_numberOf_24 : decode cX0_numberOf 24 = .ok (.iload 5, 2) := by decide +kernel
theorem dX0_numberOf_26 : decode cX0_numberOf 26 = .ok (.bipush 12, 2) := by decide +kernel
theorem dX0_numberOf_28 : decode cX0_numberOf 28 = .ok (.if_icmp .gt 20, 3) := by decide +kernel
theorem dX0_numberOf_31 : decode cX0_numberOf 31 = .ok (.iload 4, 2) := by decide +kernel
theorem dX0_numberOf_33 : decode cX0_numberOf 33 = .ok (.iload 5, 2) := by decide +kernel
theorem dX0_numberOf_35 : decode cX0_numberOf 35 = .ok (.iload_n 3, 1) := by decide +kernel
theorem dX0_numberOf_36 : decode cX0_numberOf 36 = .ok (.invokestatic 17, 3) := by decide +kernel
theorem dX0_numberOf_39 : decode cX0_numberOf 39 = .ok (.iadd, 1) := by decide +kernel
theorem dX0_numberOf_40 : decode cX0_numberOf 40 = .ok (.istore 4, 2) := by decide +kernel
theorem dX0_numberOf_42 : decode cX0_numberOf 42 = .ok (.iinc 5 1, 3) := by decide +kernel
theorem dX0_numberOf_45 : decode cX0_numberOf 45 = .ok (.goto (-27), 3) := by decide +kernel
theorem dX0_numberOf_48 : decode cX0_numberOf 48 = .ok (.iload 4, 2) := by decide +kernel
theorem dX0_numberOf_50 : decode cX0_numberOf 50 = .ok (.ireturn, 1) := by decide +kernel
theorem dX0_yearOf_0 : decode cX0_yearOf 0 = .ok (.iload_n 0, 1) := by decide +kernel
theorem dX0_yearOf_1 : decode cX0_yearOf 1 = .ok (.ldc 25, 2) := by decide +kernel
theorem dX0_yearOf_3 : decode cX0_yearOf 3 = .ok (.irem, 1) := by decide +kernel
theorem dX0_yearOf_4 : decode cX0_yearOf 4 = .ok (.istore_n 1, 1) := by decide +kernel
theorem dX0_yearOf_5 : decode cX0_yearOf 5 = .ok (.iload_n 1, 1) := by decide +kernel
theorem dX0_yearOf_6 : decode cX0_yearOf 6 = .ok (.ldc 26, 2) := by decide +kernel
theorem dX0_yearOf_8 : decode cX0_yearOf 8 = .ok (.idiv, 1) := by decide +kernel
theorem dX0_yearOf_9 : decode cX0_yearOf 9 = .ok (.iconst 3, 1) := by decide +kernel
theorem dX0_yearOf_10 : decode cX0_yearOf 10 = .ok (.invokestatic 27, 3) := by decide +kernel
theorem dX0_yearOf_13 : decode cX0_yearOf 13 = .ok (.istore_n 2, 1) := by decide +kernel
theorem dX0_yearOf_14 : decode cX0_yearOf 14 = .ok (.iload_n 1, 1) := by decide +kernel
theorem dX0_yearOf_15 : decode cX0_yearOf 15 = .ok (.iload_n 2, 1) := by decide +kernel
theorem dX0_yearOf_16 : decode cX0_yearOf 16 = .ok (.ldc 26, 2) := by decide +kernel
theorem dX0_yearOf_18 : decode cX0_yearOf 18 = .ok (.imul, 1) := by decide +kernel
theorem dX0_yearOf_19 : decode cX0_yearOf 19 = .ok (.isub, 1) := by decide +kernel
theorem dX0_yearOf_20 : decode cX0_yearOf 20 = .ok (.istore_n 1, 1) := by decide +kernel
theorem dX0_yearOf_21 : decode cX0_yearOf 21 = .ok (.iload_n 1, 1) := by decide +kernel
theorem dX0_yearOf_22 : decode cX0_yearOf 22 = .ok (.sipush 1461, 3) := by decide +kernel
theorem dX0_yearOf_25 : decode cX0_yearOf 25 = .ok (.idiv, 1) := by decide +kernel
theorem dX0_yearOf_26 : decode cX0_yearOf 26 = .ok (.istore_n 3, 1) := by decide +kernel
theorem dX0_yearOf_27 : decode cX0_yearOf 27 = .ok (.iload_n 1, 1) := by decide +kernel
theorem dX0_yearOf_28 : decode cX0_yearOf 28 = .ok (.iload_n 3, 1) := by decide +kernel
theorem dX0_yearOf_29 : decode cX0_yearOf 29 = .ok (.sipush 1461, 3) := by decide +kernel
theorem dX0_yearOf_32 : decode cX0_yearOf 32 = .ok (.imul, 1) := by decide +kernel
theorem dX0_yearOf_33 : decode cX0_yearOf 33 = .ok (.isub, 1) := by decide +kernel
theorem dX0_yearOf_34 : decode cX0_yearOf 34 = .ok (.istore_n 1, 1) := by decide +kernel
theorem dX0_yearOf_35 : decode cX0_yearOf 35 = .ok (.iload_n 1, 1) := by decide +kernel
theorem dX0_yearOf_36 : decode cX0_yearOf 36 = .ok (.sipush 365, 3) := by decide +kernel
theorem dX0_yearOf_39 : decode cX0_yearOf 39 = .ok (.idiv, 1) := by decide +kernel
theorem dX0_yearOf_40 : decode cX0_yearOf 40 = .ok (.iconst 3, 1) := by decide +kernel
theorem dX0_yearOf_41 : decode cX0_yearOf 41 = .ok (.invokestatic 27, 3) := by decide +kernel
theorem dX0_yearOf_44 : decode cX0_yearOf 44 = .ok (.istore 4, 2) := by decide +kernel
theorem dX0_yearOf_46 : decode cX0_yearOf 46 = .ok (.iload_n 0, 1) := by decide +kernel
theorem dX0_yearOf_47 : decode cX0_yearOf 47 = .ok (.ldc 25, 2) := by decide +kernel
theorem dX0_yearOf_49 : decode cX0_yearOf 49 = .ok (.idiv, 1) := by decide +kernel
theorem dX0_yearOf_50 : decode cX0_yearOf 50 = .ok (.sipush 400, 3) := by decide +kernel
theorem dX0_yearOf_53 : decode cX0_yearOf 53 = .ok (.imul, 1) := by decide +kernel
theorem dX0_yearOf_54 : decode cX0_yearOf 54 = .ok (.iload_n 2, 1) := by decide +kernel
theorem dX0_yearOf_55 : decode cX0_yearOf 55 = .ok (.bipush 100, 2) := by decide +kernel
theorem dX0_yearOf_57 : decode cX0_yearOf 57 = .ok (.imul, 1) := by decide +kernel
theorem dX0_yearOf_58 : decode cX0_yearOf 58 = .ok (.iadd, 1) := by decide +kernel
theorem dX0_yearOf_59 : decode cX0_yearOf 59 = .ok (.iload_n 3, 1) := by decide +kernel
theorem dX0_yearOf_60 : decode cX0_yearOf 60 = .ok (.iconst 4, 1) := by decide +kernel
theorem dX0_yearOf_61 : decode cX0_yearOf 61 = .ok (.imul, 1) := by decide +kernel
theorem dX0_yearOf_62 : decode cX0_yearOf 62 = .ok (.iadd, 1) := by decide +kernel
theorem dX0_yearOf_63 : decode cX0_yearOf 63 = .ok (.iload 4, 2) := by decide +kernel
theorem dX0_yearOf_65 : decode cX0_yearOf 65 = .ok (.iadd, 1) := by decide +kernel
theorem dX0_yearOf_66 : decode cX0_yearOf 66 = .ok (.iconst 1, 1) := by decide +kernel
theorem dX0_yearOf_67 : decode cX0_yearOf 67 = .ok (.iadd, 1) := by decide +kernel
theorem dX0_yearOf_68 : decode cX0_yearOf 68 = .ok (.ireturn, 1) := by decide +kernel
theorem dX1_init_0 : decode cX1_init 0 = .ok (.aload_n 0, 1) := by decide +kernel
theorem dX1_init_1 : decode cX1_init 1 = .ok (.invokespecial 3, 3) := by decide +kernel
theorem dX1_init_4 : decode cX1_init 4 = .ok (.aload_n 0, 1) := by decide +kernel
theorem dX1_init_5 : decode cX1_init 5 = .ok (.iload_n 1, 1) := by decide +kernel
theorem dX1_init_6 : decode cX1_init 6 = .ok (.putfield 9, 3) := by decide +kernel
theorem dX1_init_9 : decode cX1_init 9 = .ok (.aload_n 0, 1) := by decide +kernel
theorem dX1_init_10 : decode cX1_init 10 = .ok (.iload_n 2, 1) := by decide +kernel
theorem dX1_init_11 : decode cX1_init 11 = .ok (.putfield 15, 3) := by decide +kernel
theorem dX1_init_14 : decode cX1_init 14 = .ok (.aload_n 0, 1) := by decide +kernel
theorem dX1_init_15 : decode cX1_init 15 = .ok (.iload_n 3, 1) := by decide +kernel
theorem dX1_init_16 : decode cX1_init 16 = .ok (.iconst 1, 1) := by decide +kernel
theorem dX1_init_17 : decode cX1_init 17 = .ok (.if_icmp .ne 7, 3) := by decide +kernel
theorem dX1_init_20 : decode cX1_init 20 = .ok (.iconst 1, 1) := by decide +kernel
theorem dX1_init_21 : decode cX1_init 21 = .ok (.goto 4, 3) := by decide +kernel
theorem dX1_init_24 : decode cX1_init 24 = .ok (.iconst 0, 1) := by decide +kernel
theorem dX1_init_25 : decode cX1_init 25 = .ok (.putfield 18, 3) := by decide +kernel
theorem dX1_init_28 : decode cX1_init 28 = .ok (.aload_n 0, 1) := by decide +kernel
theorem dX1_init_29 : decode cX1_init 29 = .ok (.iload 4, 2) := by decide +kernel
theorem dX1_init_31 : decode cX1_init 31 = .ok (.putfield 22, 3) := by decide +kernel
theorem dX1_init_34 : decode cX1_init 34 = .ok (.aload_n 0, 1) := by decide +kernel
theorem dX1_init_35 : decode cX1_init 35 = .ok (.iload 5, 2) := by decide +kernel
theorem dX1_init_37 : decode cX1_init 37 = .ok (.putfield 25, 3) := by decide +kernel
theorem dX1_init_40 : decode cX1_init 40 = .ok (.aload_n 0, 1) := by decide +kernel
theorem dX1_init_41 : decode cX1_init 41 = .ok (.iload 6, 2) := by decide +kernel
theorem dX1_init_43 : decode cX1_init 43 = .ok (.putfield 28, 3) := by decide +kernel
theorem dX1_init_46 : decode cX1_init 46 = .ok (.return_, 1) := by decide +kernel
theorem dX1_setDays_0 : decode cX1_setDays 0 = .ok (.aload_n 0, 1) := by decide +kernel
theorem dX1_setDays_1 : decode cX1_setDays 1 = .ok (.iload_n 1, 1) := by decide +kernel
theorem dX1_setDays_2 : decode cX1_setDays 2 = .ok (.putfield 31, 3) := by decide +kernel
theorem dX1_setDays_5 : decode cX1_setDays 5 = .ok (.aload_n 0, 1) := by decide +kernel
theorem dX1_setDays_6 : decode cX1_setDays 6 = .ok (.iload_n 2, 1) := by decide +kernel
theorem dX1_setDays_7 : decode cX1_setDays 7 = .ok (.putfield 34, 3) := by decide +kernel
theorem dX1_setDays_10 : decode cX1_setDays 10 = .ok (.return_, 1) := by decide +kernel
theorem dX1_canWriteNumbers_0 : decode cX1_canWriteNumbers 0 = .ok (.iload_n 0, 1) := by decide +kernel
theorem dX1_canWriteNumbers_1 : decode cX1_canWriteNumbers 1 = .ok (.bipush 44, 2) := by decide +kernel
theorem dX1_canWriteNumbers_3 : decode cX1_canWriteNumbers 3 = .ok (.if_icmp .eq 9, 3) := by decide +kernel
theorem dX1_canWriteNumbers_6 : decode cX1_canWriteNumbers 6 = .ok (.iload_n 0, 1) := by decide +kernel
theorem dX1_canWriteNumbers_7 : decode cX1_canWriteNumbers 7 = .ok (.bipush 46, 2) := by decide +kernel
theorem dX1_canWriteNumbers_9 : decode cX1_canWriteNumbers 9 = .ok (.if_icmp .ne 7, 3) := by decide +kernel
theorem dX1_canWriteNumbers_12 : decode cX1_canWriteNumbers 12 = .ok (.iconst 1, 1) := by decide +kernel
theorem dX1_canWriteNumbers_13 : decode cX1_canWriteNumbers 13 = .ok (.goto 4, 3) := by decide +kernel
theorem dX1_canWriteNumbers_16 : decode cX1_canWriteNumbers 16 = .ok (.iconst 0, 1) := by decide +kernel
theorem dX1_canWriteNumbers_17 : decode cX1_canWriteNumbers 17 = .ok (.istore 4, 2) := by decide +kernel
theorem dX1_canWriteNumbers_19 : decode cX1_canWriteNumbers 19 = .ok (.iload_n 1, 1) := by decide +kernel
theorem dX1_canWriteNumbers_20 : decode cX1_canWriteNumbers 20 = .ok (.bipush 44, 2) := by decide +kernel
theorem dX1_canWriteNumbers_22 : decode cX1_canWriteNumbers 22 = .ok (.if_icmp .eq 25, 3) := by decide +kernel
theorem dX1_canWriteNumbers_25 : decode cX1_canWriteNumbers 25 = .ok (.iload_n 1, 1) := by decide +kernel
theorem dX1_canWriteNumbers_26 : decode cX1_canWriteNumbers 26 = .ok (.bipush 46, 2) := by decide +kernel
theorem dX1_canWriteNumbers_28 : decode cX1_canWriteNumbers 28 = .ok (.if_icmp .eq 19, 3) := by decide +kernel
theorem dX1_canWriteNumbers_31 : decode cX1_canWriteNumbers 31 = .ok (.iload_n 1, 1) := by decide +kernel
theorem dX1_canWriteNumbers_32 : decode cX1_canWriteNumbers 32 = .ok (.bipush 32, 2) := by decide +kernel
theorem dX1_canWriteNumbers_34 : decode cX1_canWriteNumbers 34 = .ok (.if_icmp .eq 13, 3) := by decide +kernel
theorem dX1_canWriteNumbers_37 : decode cX1_canWriteNumbers 37 = .ok (.iload_n 1, 1) := by decide +kernel
theorem dX1_canWriteNumbers_38 : decode cX1_canWriteNumbers 38 = .ok (.bipush 39, 2) := by decide +kernel
theorem dX1_canWriteNumbers_40 : decode cX1_canWriteNumbers 40 = .ok (.if_icmp .eq 7, 3) := by decide +kernel
theorem dX1_canWriteNumbers_43 : decode cX1_canWriteNumbers 43 = .ok (.iload_n 1, 1) := by decide +kernel
theorem dX1_canWriteNumbers_44 : decode cX1_canWriteNumbers 44 = .ok (.ifCond .ne 7, 3) := by decide +kernel
theorem dX1_canWriteNumbers_47 : decode cX1_canWriteNumbers 47 = .ok (.iconst 1, 1) := by decide +kernel
theorem dX1_canWriteNumbers_48 : decode cX1_canWriteNumbers 48 = .ok (.goto 4, 3) := by decide +kernel
theorem dX1_canWriteNumbers_51 : decode cX1_canWriteNumbers 51 = .ok (.iconst 0, 1) := by decide +kernel
theorem dX1_canWriteNumbers_52 : decode cX1_canWriteNumbers 52 = .ok (.istore 5, 2) := by decide +kernel
theorem dX1_canWriteNumbers_54 : decode cX1_canWriteNumbers 54 = .ok (.iload 4, 2) := by decide +kernel
theorem dX1_canWriteNumbers_56 : decode cX1_canWriteNumbers 56 = .ok (.ifCond .eq 35, 3) := by decide +kernel
theorem dX1_canWriteNumbers_59 : decode cX1_canWriteNumbers 59 = .ok (.iload 5, 2) := by decide +kernel
theorem dX1_canWriteNumbers_61 : decode cX1_canWriteNumbers 61 = .ok (.ifCond .eq 30, 3) := by decide +kernel
theorem dX1_canWriteNumbers_64 : decode cX1_canWriteNumbers 64 = .ok (.iload_n 1, 1) := by decide +kernel
theorem dX1_canWriteNumbers_65 : decode cX1_canWriteNumbers 65 = .ok (.iload_n 0, 1) := by decide +kernel
theorem dX1_canWriteNumbers_66 : decode cX1_canWriteNumbers 66 = .ok (.if_icmp .eq 25, 3) := by decide +kernel
theorem dX1_canWriteNumbers_69 : decode cX1_canWriteNumbers 69 = .ok (.iload_n 2, 1) := by decide +kernel
theorem dX1_canWriteNumbers_70 : decode cX1_canWriteNumbers 70 = .ok (.ifCond .eq 8, 3) := by decide +kernel
theorem dX1_canWriteNumbers_73 : decode cX1_canWriteNumbers 73 = .ok (.iload_n 2, 1) := by decide +kernel
theorem dX1_canWriteNumbers_74 : decode cX1_canWriteNumbers 74 = .ok (.iconst 1, 1) := by decide +kernel
theorem dX1_canWriteNumbers_75 : decode cX1_canWriteNumbers 75 = .ok (.if_icmp .ne 16, 3) := by decide +kernel
theorem dX1_canWriteNumbers_78 : decode cX1_canWriteNumbers 78 = .ok (.iload_n 3, 1) := by decide +kernel
theorem dX1_canWriteNumbers_79 : decode cX1_canWriteNumbers 79 = .ok (.ifCond .lt 12, 3) := by decide +kernel
theorem dX1_canWriteNumbers_82 : decode cX1_canWriteNumbers 82 = .ok (.iload_n 3, 1) := by decide +kernel
theorem dX1_canWriteNumbers_83 : decode cX1_canWriteNumbers 83 = .ok (.iconst 2, 1) := by decide +kernel
theorem dX1_canWriteNumbers_84 : decode cX1_canWriteNumbers 84 = .ok (.if_icmp .gt 7, 3) := by decide +kernel
theorem dX1_canWriteNumbers_87 : decode cX1_canWriteNumbers 87 = .ok (.iconst 1, 1) := by decide +kernel
theorem dX1_canWriteNumbers_88 : decode cX1_canWriteNumbers 88 = .ok (.goto 4, 3) := by decide +kernel
theorem dX1_canWriteNumbers_91 : decode cX1_canWriteNumbers 91 = .ok (.iconst 0, 1) := by decide +kernel
theorem dX1_canWriteNumbers_92 : decode cX1_canWriteNumbers 92 = .ok (.ireturn, 1) := by decide +kernel
theorem dX1_canWriteMoney_0 : decode cX1_canWriteMoney 0 = .ok (.iload_n 0, 1) := by decide +kernel
theorem dX1_canWriteMoney_1 : decode cX1_canWriteMoney 1 = .ok (.bipush 16, 2) := by decide +kernel
theorem dX1_canWriteMoney_3 : decode cX1_canWriteMoney 3 = .ok (.ishr, 1) := by decide +kernel
theorem dX1_canWriteMoney_4 : decode cX1_canWriteMoney 4 = .ok (.invokestatic 37, 3) := by decide +kernel
theorem dX1_canWriteMoney_7 : decode cX1_canWriteMoney 7 = .ok (.ifCond .eq 32, 3) := by decide +kernel
theorem dX1_canWriteMoney_10 : decode cX1_canWriteMoney 10 = .ok (.iload_n 0, 1) := by decide +kernel
theorem dX1_canWriteMoney_11 : decode cX1_canWriteMoney 11 = .ok (.bipush 8, 2) := by decide +kernel
theorem dX1_canWriteMoney_13 : decode cX1_canWriteMoney 13 = .ok (.ishr, 1) := by decide +kernel
theorem dX1_canWriteMoney_14 : decode cX1_canWriteMoney 14 = .ok (.sipush 255, 3) := by decide +kernel
theorem dX1_canWriteMoney_17 : decode cX1_canWriteMoney 17 = .ok (.iand, 1) := by decide +kernel
theorem dX1_canWriteMoney_18 : decode cX1_canWriteMoney 18 = .ok (.invokestatic 37, 3) := by decide +kernel
theorem dX1_canWriteMoney_21 : decode cX1_canWriteMoney 21 = .ok (.ifCond .eq 18, 3) := by decide +kernel
theorem dX1_canWriteMoney_24 : decode cX1_canWriteMoney 24 = .ok (.iload_n 0, 1) := by decide +kernel
theorem dX1_canWriteMoney_25 : decode cX1_canWriteMoney 25 = .ok (.sipush 255, 3) := by decide +kernel
theorem dX1_canWriteMoney_28 : decode cX1_canWriteMoney 28 = .ok (.iand, 1) := by decide +kernel
theorem dX1_canWriteMoney_29 : decode cX1_canWriteMoney 29 = .ok (.invokestatic 37, 3) := by decide +kernel
theorem dX1_canWriteMoney_32 : decode cX1_canWriteMoney 32 = .ok (.ifCond .eq 7, 3) := by decide +kernel
theorem dX1_canWriteMoney_35 : decode cX1_canWriteMoney 35 = .ok (.iconst 1, 1) := by decide +kernel
theorem dX1_canWriteMoney_36 : decode cX1_canWriteMoney 36 = .ok (.goto 4, 3) := by decide +kernel
theorem dX1_canWriteMoney_39 : decode cX1_canWriteMoney 39 = .ok (.iconst 0, 1) := by decide +kernel
theorem dX1_canWriteMoney_40 : decode cX1_canWriteMoney 40 = .ok (.ireturn, 1) := by decide +kernel
theorem dX1_canWriteDays_0 : decode cX1_canWriteDays 0 = .ok (.iload_n 0, 1) := by decide +kernel
theorem dX1_canWriteDays_1 : decode cX1_canWriteDays 1 = .ok (.ifCond .lt 30, 3) := by decide +kernel
theorem dX1_canWriteDays_4 : decode cX1_canWriteDays 4 = .ok (.iload_n 0, 1) := by decide +kernel
theorem dX1_canWriteDays_5 : decode cX1_canWriteDays 5 = .ok (.iconst 2, 1) := by decide +kernel
theorem dX1_canWriteDays_6 : decode cX1_canWriteDays 6 = .ok (.if_icmp .gt 25, 3) := by decide +kernel
theorem dX1_canWriteDays_9 : decode cX1_canWriteDays 9 = .ok (.iload_n 1, 1) := by decide +kernel
theorem dX1_canWriteDays_10 : decode cX1_canWriteDays 10 = .ok (.bipush 47, 2) := by decide +kernel
theorem dX1_canWriteDays_12 : decode cX1_canWriteDays 12 = .ok (.if_icmp .eq 15, 3) := by decide +kernel
theorem dX1_canWriteDays_15 : decode cX1_canWriteDays 15 = .ok (.iload_n 1, 1) := by decide +kernel
theorem dX1_canWriteDays_16 : decode cX1_canWriteDays 16 = .ok (.bipush 46, 2) := by decide +kernel
theorem dX1_canWriteDays_18 : decode cX1_canWriteDays 18 = .ok (.if_icmp .eq 9, 3) := by decide +kernel
theorem dX1_canWriteDays_21 : decode cX1_canWriteDays 21 = .ok (.iload_n 1, 1) := by decide +kernel
theorem dX1_canWriteDays_22 : decode cX1_canWriteDays 22 = .ok (.bipush 45, 2) := by decide +kernel
theorem dX1_canWriteDays_24 : decode cX1_canWriteDays 24 = .ok (.if_icmp .ne 7, 3) := by decide +kernel
theorem dX1_canWriteDays_27 : decode cX1_canWriteDays 27 = .ok (.iconst 1, 1) := by decide +kernel
theorem dX1_canWriteDays_28 : decode cX1_canWriteDays 28 = .ok (.goto 4, 3) := by decide +kernel
theorem dX1_canWriteDays_31 : decode cX1_canWriteDays 31 = .ok (.iconst 0, 1) := by decide +kernel
theorem dX1_canWriteDays_32 : decode cX1_canWriteDays 32 = .ok (.ireturn, 1) := by decide +kernel
theorem dX1_isCapital_0 : decode cX1_isCapital 0 = .ok (.iload_n 0, 1) := by decide +kernel
theorem dX1_isCapital_1 : decode cX1_isCapital 1 = .ok (.bipush 65, 2) := by decide +kernel
theorem dX1_isCapital_3 : decode cX1_isCapital 3 = .ok (.if_icmp .lt 13, 3) := by decide +kernel
theorem dX1_isCapital_6 : decode cX1_isCapital 6 = .ok (.iload_n 0, 1) := by decide +kernel
theorem dX1_isCapital_7 : decode cX1_isCapital 7 = .ok (.bipush 90, 2) := by decide +kernel
theorem dX1_isCapital_9 : decode cX1_isCapital 9 = .ok (.if_icmp .gt 7, 3) := by decide +kernel
theorem dX1_isCapital_12 : decode cX1_isCapital 12 = .ok (.iconst 1, 1) := by decide +kernel
theorem dX1_isCapital_13 : decode cX1_isCapital 13 = .ok (.goto 4, 3) := by decide +kernel
theorem dX1_isCapital_16 : decode cX1_isCapital 16 = .ok (.iconst 0, 1) := by decide +kernel
theorem dX1_isCapital_17 : decode cX1_isCapital 17 = .ok (.ireturn, 1) := by decide +kernel
theorem dX1_markByte_0 : decode cX1_markByte 0 = .ok (.aload_n 0, 1) := by decide +kernel
theorem dX1_markByte_1 : decode cX1_markByte 1 = .ok (.getfield 25, 3) := by decide +kernel
theorem dX1_markByte_4 : decode cX1_markByte 4 = .ok (.iload_n 1, 1) := by decide +kernel
theorem dX1_markByte_5 : decode cX1_markByte 5 = .ok (.iconst 1, 1) := by decide +kernel
theorem dX1_markByte_6 : decode cX1_markByte 6 = .ok (.iadd, 1) := by decide +kernel
theorem dX1_markByte_7 : decode cX1_markByte 7 = .ok (.invokestatic 41, 3) := by decide +kernel
theorem dX1_markByte_10 : decode cX1_markByte 10 = .ok (.ireturn, 1) := by decide +kernel
theorem dX1_signOfDays_0 : decode cX1_signOfDays 0 = .ok (.aload_n 0, 1) := by decide +kernel
theorem dX1_signOfDays_1 : decode cX1_signOfDays 1 = .ok (.getfield 34, 3) := by decide +kernel
theorem dX1_signOfDays_4 : decode cX1_signOfDays 4 = .ok (.ireturn, 1) := by decide +kernel
theorem dX1_partAt_0 : decode cX1_partAt 0 = .ok (.aload_n 0, 1) := by decide +kernel
theorem dX1_partAt_1 : decode cX1_partAt 1 = .ok (.getfield 31, 3) := by decide +kernel
theorem dX1_partAt_4 : decode cX1_partAt 4 = .ok (.iconst 2, 1) := by decide +kernel
theorem dX1_partAt_5 : decode cX1_partAt 5 = .ok (.if_icmp .ne 7, 3) := by decide +kernel
theorem dX1_partAt_8 : decode cX1_partAt 8 = .ok (.iconst 2, 1) := by decide +kernel
theorem dX1_partAt_9 : decode cX1_partAt 9 = .ok (.iload_n 1, 1) := by decide +kernel
theorem dX1_partAt_10 : decode cX1_partAt 10 = .ok (.isub, 1) := by decide +kernel
theorem dX1_partAt_11 : decode cX1_partAt 11 = .ok (.ireturn, 1) := by decide +kernel
theorem dX1_partAt_12 : decode cX1_partAt 12 = .ok (.aload_n 0, 1) := by decide +kernel
theorem dX1_partAt_13 : decode cX1_partAt 13 = .ok (.getfield 31, 3) := by decide +kernel
theorem dX1_partAt_16 : decode cX1_partAt 16 = .ok (.iconst 1, 1) := by decide +kernel
theorem dX1_partAt_17 : decode cX1_partAt 17 = .ok (.if_icmp .ne 14, 3) := by decide +kernel
theorem dX1_partAt_20 : decode cX1_partAt 20 = .ok (.iload_n 1, 1) := by decide +kernel
theorem dX1_partAt_21 : decode cX1_partAt 21 = .ok (.iconst 2, 1) := by decide +kernel
theorem dX1_partAt_22 : decode cX1_partAt 22 = .ok (.if_icmp .ge 9, 3) := by decide +kernel
theorem dX1_partAt_25 : decode cX1_partAt 25 = .ok (.iconst 1, 1) := by decide +kernel
theorem dX1_partAt_26 : decode cX1_partAt 26 = .ok (.iload_n 1, 1) := by decide +kernel
theorem dX1_partAt_27 : decode cX1_partAt 27 = .ok (.isub, 1) := by decide +kernel
theorem dX1_partAt_28 : decode cX1_partAt 28 = .ok (.goto 4, 3) := by decide +kernel
theorem dX1_partAt_31 : decode cX1_partAt 31 = .ok (.iload_n 1, 1) := by decide +kernel
theorem dX1_partAt_32 : decode cX1_partAt 32 = .ok (.ireturn, 1) := by decide +kernel
theorem dX1_minusAhead_0 : decode cX1_minusAhead 0 = .ok (.aload_n 0, 1) := by decide +kernel
theorem dX1_minusAhead_1 : decode cX1_minusAhead 1 = .ok (.getfield 22, 3) := by decide +kernel
theorem dX1_minusAhead_4 : decode cX1_minusAhead 4 = .ok (.iconst 1, 1) := by decide +kernel
theorem dX1_minusAhead_5 : decode cX1_minusAhead 5 = .ok (.if_icmp .ne 5, 3) := by decide +kernel
theorem dX1_minusAhead_8 : decode cX1_minusAhead 8 = .ok (.iconst (-1), 1) := by decide +kernel
theorem dX1_minusAhead_9 : decode cX1_minusAhead 9 = .ok (.ireturn, 1) := by decide +kernel
theorem dX1_minusAhead_10 : decode cX1_minusAhead 10 = .ok (.aload_n 0, 1) := by decide +kernel
theorem dX1_minusAhead_11 : decode cX1_minusAhead 11 = .ok (.getfield 22, 3) := by decide +kernel
theorem dX1_minusAhead_14 : decode cX1_minusAhead 14 = .ok (.iconst 2, 1) := by decide +kernel
theorem dX1_minusAhead_15 : decode cX1_minusAhead 15 = .ok (.if_icmp .ne 8, 3) := by decide +kernel
theorem dX1_minusAhead_18 : decode cX1_minusAhead 18 = .ok (.bipush 40, 2) := by decide +kernel
theorem dX1_minusAhead_20 : decode cX1_minusAhead 20 = .ok (.goto 5, 3) := by decide +kernel
theorem dX1_minusAhead_23 : decode cX1_minusAhead 23 = .ok (.bipush 45, 2) := by decide +kernel
theorem dX1_minusAhead_25 : decode cX1_minusAhead 25 = .ok (.ireturn, 1) := by decide +kernel
theorem dX1_minusBehind_0 : decode cX1_minusBehind 0 = .ok (.aload_n 0, 1) := by decide +kernel
theorem dX1_minusBehind_1 : decode cX1_minusBehind 1 = .ok (.getfield 22, 3) := by decide +kernel
theorem dX1_minusBehind_4 : decode cX1_minusBehind 4 = .ok (.ifCond .ne 5, 3) := by decide +kernel
theorem dX1_minusBehind_7 : decode cX1_minusBehind 7 = .ok (.iconst (-1), 1) := by decide +kernel
theorem dX1_minusBehind_8 : decode cX1_minusBehind 8 = .ok (.ireturn, 1) := by decide +kernel
theorem dX1_minusBehind_9 : decode cX1_minusBehind 9 = .ok (.aload_n 0, 1) := by decide +kernel
theorem dX1_minusBehind_10 : decode cX1_minusBehind 10 = .ok (.getfield 22, 3) := by decide +kernel
theorem dX1_minusBehind_13 : decode cX1_minusBehind 13 = .ok (.iconst 2, 1) := by decide +kernel
theorem dX1_minusBehind_14 : decode cX1_minusBehind 14 = .ok (.if_icmp .ne 8, 3) := by decide +kernel
theorem dX1_minusBehind_17 : decode cX1_minusBehind 17 = .ok (.bipush 41, 2) := by decide +kernel
theorem dX1_minusBehind_19 : decode cX1_minusBehind 19 = .ok (.goto 5, 3) := by decide +kernel
theorem dX1_minusBehind_22 : decode cX1_minusBehind 22 = .ok (.bipush 45, 2) := by decide +kernel
theorem dX1_minusBehind_24 : decode cX1_minusBehind 24 = .ok (.ireturn, 1) := by decide +kernel
theorem dX1_groupsAhead_0 : decode cX1_groupsAhead 0 = .ok (.aload_n 0, 1) := by decide +kernel
theorem dX1_groupsAhead_1 : decode cX1_groupsAhead 1 = .ok (.getfield 15, 3) := by decide +kernel
theorem dX1_groupsAhead_4 : decode cX1_groupsAhead 4 = .ok (.ifCond .eq 8, 3) := by decide +kernel
theorem dX1_groupsAhead_7 : decode cX1_groupsAhead 7 = .ok (.iload_n 1, 1) := by decide +kernel
theorem dX1_groupsAhead_8 : decode cX1_groupsAhead 8 = .ok (.iconst 3, 1) := by decide +kernel
theorem dX1_groupsAhead_9 : decode cX1_groupsAhead 9 = .ok (.if_icmp .ge 5, 3) := by decide +kernel
theorem dX1_groupsAhead_12 : decode cX1_groupsAhead 12 = .ok (.iconst 0, 1) := by decide +kernel
theorem dX1_groupsAhead_13 : decode cX1_groupsAhead 13 = .ok (.ireturn, 1) := by decide +kernel
theorem dX1_groupsAhead_14 : decode cX1_groupsAhead 14 = .ok (.aload_n 0, 1) := by decide +kernel
theorem dX1_groupsAhead_15 : decode cX1_groupsAhead 15 = .ok (.getfield 18, 3) := by decide +kernel
theorem dX1_groupsAhead_18 : decode cX1_groupsAhead 18 = .ok (.ifCond .eq 18, 3) := by decide +kernel
theorem dX1_groupsAhead_21 : decode cX1_groupsAhead 21 = .ok (.iload_n 1, 1) := by decide +kernel
theorem dX1_groupsAhead_22 : decode cX1_groupsAhead 22 = .ok (.iconst 2, 1) := by decide +kernel
theorem dX1_groupsAhead_23 : decode cX1_groupsAhead 23 = .ok (.irem, 1) := by decide +kernel
theorem dX1_groupsAhead_24 : decode cX1_groupsAhead 24 = .ok (.iconst 1, 1) := by decide +kernel
theorem dX1_groupsAhead_25 : decode cX1_groupsAhead 25 = .ok (.if_icmp .ne 7, 3) := by decide +kernel
theorem dX1_groupsAhead_28 : decode cX1_groupsAhead 28 = .ok (.iconst 1, 1) := by decide +kernel
theorem dX1_groupsAhead_29 : decode cX1_groupsAhead 29 = .ok (.goto 18, 3) := by decide +kernel
theorem dX1_groupsAhead_32 : decode cX1_groupsAhead 32 = .ok (.iconst 0, 1) := by decide +kernel
theorem dX1_groupsAhead_33 : decode cX1_groupsAhead 33 = .ok (.goto 14, 3) := by decide +kernel
theorem dX1_groupsAhead_36 : decode cX1_groupsAhead 36 = .ok (.iload_n 1, 1) := by decide +kernel
theorem dX1_groupsAhead_37 : decode cX1_groupsAhead 37 = .ok (.iconst 3, 1) := by decide +kernel
theorem dX1_groupsAhead_38 : decode cX1_groupsAhead 38 = .ok (.irem, 1) := by decide +kernel
theorem dX1_groupsAhead_39 : decode cX1_groupsAhead 39 = .ok (.ifCond .ne 7, 3) := by decide +kernel
theorem dX1_groupsAhead_42 : decode cX1_groupsAhead 42 = .ok (.iconst 1, 1) := by decide +kernel
theorem dX1_groupsAhead_43 : decode cX1_groupsAhead 43 = .ok (.goto 4, 3) := by decide +kernel
theorem dX1_groupsAhead_46 : decode cX1_groupsAhead 46 = .ok (.iconst 0, 1) := by decide +kernel
theorem dX1_groupsAhead_47 : decode cX1_groupsAhead 47 = .ok (.ireturn, 1) := by decide +kernel
theorem dX2_init_0 : decode cX2_init 0 = .ok (.aload_n 0, 1) := by decide +kernel
theorem dX2_init_1 : decode cX2_init 1 = .ok (.invokespecial 3, 3) := by decide +kernel
theorem dX2_init_4 : decode cX2_init 4 = .ok (.aload_n 0, 1) := by decide +kernel
theorem dX2_init_5 : decode cX2_init 5 = .ok (.iconst 0, 1) := by decide +kernel
theorem dX2_init_6 : decode cX2_init 6 = .ok (.newarray .int, 2) := by decide +kernel
theorem dX2_init_8 : decode cX2_init 8 = .ok (.putfield 9, 3) := by decide +kernel
theorem dX2_init_11 : decode cX2_init 11 = .ok (.aload_n 0, 1) := by decide +kernel
theorem dX2_init_12 : decode cX2_init 12 = .ok (.iconst 3, 1) := by decide +kernel
theorem dX2_init_13 : decode cX2_init 13 = .ok (.newarray .int, 2) := by decide +kernel
theorem dX2_init_15 : decode cX2_init 15 = .ok (.putfield 17, 3) := by decide +kernel
theorem dX2_init_18 : decode cX2_init 18 = .ok (.aload_n 0, 1) := by decide +kernel
theorem dX2_init_19 : decode cX2_init 19 = .ok (.iconst 3, 1) := by decide +kernel
theorem dX2_init_20 : decode cX2_init 20 = .ok (.newarray .int, 2) := by decide +kernel
theorem dX2_init_22 : decode cX2_init 22 = .ok (.putfield 20, 3) := by decide +kernel
theorem dX2_init_25 : decode cX2_init 25 = .ok (.return_, 1) := by decide +kernel
theorem dX2_read_0 : decode cX2_read 0 = .ok (.aload_n 0, 1) := by decide +kernel
theorem dX2_read_1 : decode cX2_read 1 = .ok (.aload_n 1, 1) := by decide +kernel
theorem dX2_read_2 : decode cX2_read 2 = .ok (.putfield 9, 3) := by decide +kernel
theorem dX2_read_5 : decode cX2_read 5 = .ok (.aload_n 0, 1) := by decide +kernel
theorem dX2_read_6 : decode cX2_read 6 = .ok (.iload_n 2, 1) := by decide +kernel
theorem dX2_read_7 : decode cX2_read 7 = .ok (.iconst 0, 1) := by decide +kernel
theorem dX2_read_8 : decode cX2_read 8 = .ok (.invokestatic 23, 3) := by decide +kernel
theorem dX2_read_11 : decode cX2_read 11 = .ok (.putfield 29, 3) := by decide +kernel
theorem dX2_read_14 : decode cX2_read 14 = .ok (.aload_n 0, 1) := by decide +kernel
theorem dX2_read_15 : decode cX2_read 15 = .ok (.iload_n 3, 1) := by decide +kernel
theorem dX2_read_16 : decode cX2_read 16 = .ok (.aload_n 1, 1) := by decide +kernel
theorem dX2_read_17 : decode cX2_read 17 = .ok (.arraylength, 1) := by decide +kernel
theorem dX2_read_18 : decode cX2_read 18 = .ok (.invokestatic 33, 3) := by decide +kernel
theorem dX2_read_21 : decode cX2_read 21 = .ok (.putfield 36, 3) := by decide +kernel
theorem dX2_read_24 : decode cX2_read 24 = .ok (.aload_n 0, 1) := by decide +kernel
theorem dX2_read_25 : decode cX2_read 25 = .ok (.iconst 0, 1) := by decide +kernel
theorem dX2_read_26 : decode cX2_read 26 = .ok (.putfield 39, 3) := by decide +kernel
theorem dX2_read_29 : decode cX2_read 29 = .ok (.aload_n 0, 1) := by decide +kernel
theorem dX2_read_30 : decode cX2_read 30 = .ok (.lconst 0, 1) := by decide +kernel
theorem dX2_read_31 : decode cX2_read 31 = .ok (.putfield 42, 3) := by decide +kernel
theorem dX2_read_34 : decode cX2_read 34 = .ok (.aload_n 0, 1) := by decide +kernel
theorem dX2_read_35 : decode cX2_read 35 = .ok (.lconst 0, 1) := by decide +kernel
theorem dX2_read_36 : decode cX2_read 36 = .ok (.putfield 46, 3) := by decide +kernel
theorem dX2_read_39 : decode cX2_read 39 = .ok (.iload 5, 2) := by decide +kernel
theorem dX2_read_41 : decode cX2_read 41 = .ok (.iconst 2, 1) := by decide +kernel
theorem dX2_read_42 : decode cX2_read 42 = .ok (.if_icmp .ne 12, 3) := by decide +kernel
theorem dX2_read_45 : decode cX2_read 45 = .ok (.aload_n 0, 1) := by decide +kernel
theorem dX2_read_46 : decode cX2_read 46 = .ok (.aload 4, 2) := by decide +kernel
theorem dX2_read_48 : decode cX2_read 48 = .ok (.invokevirtual 49, 3) := by decide +kernel
theorem dX2_read_51 : decode cX2_read 51 = .ok (.goto 20, 3) := by decide +kernel
theorem dX2_read_54 : decode cX2_read 54 = .ok (.aload_n 0, 1) := by decide +kernel
theorem dX2_read_55 : decode cX2_read 55 = .ok (.aload 4, 2) := by decide +kernel
theorem dX2_read_57 : decode cX2_read 57 = .ok (.iload 5, 2) := by decide +kernel
theorem dX2_read_59 : decode cX2_read 59 = .ok (.iconst 1, 1) := by decide +kernel
theorem dX2_read_60 : decode cX2_read 60 = .ok (.if_icmp .ne 7, 3) := by decide +kernel
theorem dX2_read_63 : decode cX2_read 63 = .ok (.iconst 1, 1) := by decide +kernel
theorem dX2_read_64 : decode cX2_read 64 = .ok (.goto 4, 3) := by decide +kernel
theorem dX2_read_67 : decode cX2_read 67 = .ok (.iconst 0, 1) := by decide +kernel
theorem dX2_read_68 : decode cX2_read 68 = .ok (.invokevirtual 53, 3) := by decide +kernel
theorem dX2_read_71 : decode cX2_read 71 = .ok (.aload_n 0, 1) := by decide +kernel
theorem dX2_read_72 : decode cX2_read 72 = .ok (.getfield 39, 3) := by decide +kernel
theorem dX2_read_75 : decode cX2_read 75 = .ok (.ireturn, 1) := by decide +kernel
theorem dX2_readAmount_0 : decode cX2_readAmount 0 = .ok (.aload_n 0, 1) := by decide +kernel
theorem dX2_readAmount_1 : decode cX2_readAmount 1 = .ok (.aload_n 1, 1) := by decide +kernel
theorem dX2_readAmount_2 : decode cX2_readAmount 2 = .ok (.invokevirtual 57, 3) := by decide +kernel
theorem dX2_readAmount_5 : decode cX2_readAmount 5 = .ok (.invokevirtual 61, 3) := by decide +kernel
theorem dX2_readAmount_8 : decode cX2_readAmount 8 = .ok (.istore_n 3, 1) := by decide +kernel
theorem dX2_readAmount_9 : decode cX2_readAmount 9 = .ok (.iload_n 2, 1) := by decide +kernel
theorem dX2_readAmount_10 : decode cX2_readAmount 10 = .ok (.ifCond .eq 22, 3) := by decide +kernel
theorem dX2_readAmount_13 : decode cX2_readAmount 13 = .ok (.aload_n 1, 1) := by decide +kernel
theorem dX2_readAmount_14 : decode cX2_readAmount 14 = .ok (.getfield 65, 3) := by decide +kernel
theorem dX2_readAmount_17 : decode cX2_readAmount 17 = .ok (.ifCond .ne 15, 3) := by decide +kernel
theorem dX2_readAmount_20 : decode cX2_readAmount 20 = .ok (.aload_n 0, 1) := by decide +kernel
theorem dX2_readAmount_21 : decode cX2_readAmount 21 = .ok (.aload_n 1, 1) := by decide +kernel
theorem dX2_readAmount_22 : decode cX2_readAmount 22 = .ok (.invokevirtual 69, 3) := by decide +kernel
theorem dX2_readAmount_25 : decode cX2_readAmount 25 = .ok (.aload_n 0, 1) := by decide +kernel
theorem dX2_readAmount_26 : decode cX2_readAmount 26 = .ok (.bipush 32, 2) := by decide +kernel
theorem dX2_readAmount_28 : decode cX2_readAmount 28 = .ok (.invokevirtual 61, 3) := by decide +kernel
theorem dX2_readAmount_31 : decode cX2_readAmount 31 = .ok (.pop, 1) := by decide +kernel
theorem dX2_readAmount_32 : decode cX2_readAmount 32 = .ok (.aload_n 0, 1) := by decide +kernel
theorem dX2_readAmount_33 : decode cX2_readAmount 33 = .ok (.invokevirtual 72, 3) := by decide +kernel
theorem dX2_readAmount_36 : decode cX2_readAmount 36 = .ok (.istore 4, 2) := by decide +kernel
theorem dX2_readAmount_38 : decode cX2_readAmount 38 = .ok (.aload_n 0, 1) := by decide +kernel
theorem dX2_readAmount_39 : decode cX2_readAmount 39 = .ok (.aload_n 1, 1) := by decide +kernel
theorem dX2_readAmount_40 : decode cX2_readAmount 40 = .ok (.iload 4, 2) := by decide +kernel
theorem dX2_readAmount_42 : decode cX2_readAmount 42 = .ok (.invokevirtual 75, 3) := by decide +kernel
theorem dX2_readAmount_45 : decode cX2_readAmount 45 = .ok (.aload_n 0, 1) := by decide +kernel
theorem dX2_readAmount_46 : decode cX2_readAmount 46 = .ok (.aload_n 1, 1) := by decide +kernel
theorem dX2_readAmount_47 : decode cX2_readAmount 47 = .ok (.getfield 79, 3) := by decide +kernel
theorem dX2_readAmount_50 : decode cX2_readAmount 50 = .ok (.invokevirtual 82, 3) := by decide +kernel
theorem dX2_readAmount_53 : decode cX2_readAmount 53 = .ok (.iload_n 2, 1) := by decide +kernel
theorem dX2_readAmount_54 : decode cX2_readAmount 54 = .ok (.ifCond .eq 22, 3) := by decide +kernel
theorem dX2_readAmount_57 : decode cX2_readAmount 57 = .ok (.aload_n 1, 1) := by decide +kernel
theorem dX2_readAmount_58 : decode cX2_readAmount 58 = .ok (.getfield 65, 3) := by decide +kernel
theorem dX2_readAmount_61 : decode cX2_readAmount 61 = .ok (.ifCond .eq 15, 3) := by decide +kernel
theorem dX2_readAmount_64 : decode cX2_readAmount 64 = .ok (.aload_n 0, 1) := by decide +kernel
theorem dX2_readAmount_65 : decode cX2_readAmount 65 = .ok (.bipush 32, 2) := by decide +kernel
theorem dX2_readAmount_67 : decode cX2_readAmount 67 = .ok (.invokevirtual 61, 3) := by decide +kernel
theorem dX2_readAmount_70 : decode cX2_readAmount 70 = .ok (.pop, 1) := by decide +kernel
theorem dX2_readAmount_71 : decode cX2_readAmount 71 = .ok (.aload_n 0, 1) := by decide +kernel
theorem dX2_readAmount_72 : decode cX2_readAmount 72 = .ok (.aload_n 1, 1) := by decide +kernel
theorem dX2_readAmount_73 : decode cX2_readAmount 73 = .ok (.invokevirtual 69, 3) := by decide +kernel
theorem dX2_readAmount_76 : decode cX2_readAmount 76 = .ok (.aload_n 1, 1) := by decide +kernel
theorem dX2_readAmount_77 : decode cX2_readAmount 77 = .ok (.getfield 86, 3) := by decide +kernel
theorem dX2_readAmount_80 : decode cX2_readAmount 80 = .ok (.iconst 1, 1) := by decide +kernel
theorem dX2_readAmount_81 : decode cX2_readAmount 81 = .ok (.if_icmp .ne 15, 3) := by decide +kernel
theorem dX2_readAmount_84 : decode cX2_readAmount 84 = .ok (.aload_n 0, 1) := by decide +kernel
theorem dX2_readAmount_85 : decode cX2_readAmount 85 = .ok (.aload_n 1, 1) := by decide +kernel
theorem dX2_readAmount_86 : decode cX2_readAmount 86 = .ok (.invokevirtual 89, 3) := by decide +kernel
theorem dX2_readAmount_89 : decode cX2_readAmount 89 = .ok (.invokevirtual 61, 3) := by decide +kernel
theorem dX2_readAmount_92 : decode cX2_readAmount 92 = .ok (.istore_n 3, 1) := by decide +kernel
theorem dX2_readAmount_93 : decode cX2_readAmount 93 = .ok (.goto 23, 3) := by decide +kernel
theorem dX2_readAmount_96 : decode cX2_readAmount 96 = .ok (.aload_n 1, 1) := by decide +kernel
theorem dX2_readAmount_97 : decode cX2_readAmount 97 = .ok (.getfield 86, 3) := by decide +kernel
theorem dX2_readAmount_100 : decode cX2_readAmount 100 = .ok (.iconst 2, 1) := by decide +kernel
theorem dX2_readAmount_101 : decode cX2_readAmount 101 = .ok (.if_icmp .ne 15, 3) := by decide +kernel
theorem dX2_readAmount_104 : decode cX2_readAmount 104 = .ok (.iload_n 3, 1) := by decide +kernel
theorem dX2_readAmount_105 : decode cX2_readAmount 105 = .ok (.ifCond .eq 11, 3) := by decide +kernel
theorem dX2_readAmount_108 : decode cX2_readAmount 108 = .ok (.aload_n 0, 1) := by decide +kernel
theorem dX2_readAmount_109 : decode cX2_readAmount 109 = .ok (.aload_n 1, 1) := by decide +kernel
theorem dX2_readAmount_110 : decode cX2_readAmount 110 = .ok (.invokevirtual 89, 3) := by decide +kernel
theorem dX2_readAmount_113 : decode cX2_readAmount 113 = .ok (.invokevirtual 92, 3) := by decide +kernel
theorem dX2_readAmount_116 : decode cX2_readAmount 116 = .ok (.aload_n 0, 1) := by decide +kernel
theorem dX2_readAmount_117 : decode cX2_readAmount 117 = .ok (.invokevirtual 95, 3) := by decide +kernel
theorem dX2_readAmount_120 : decode cX2_readAmount 120 = .ok (.aload_n 0, 1) := by decide +kernel
theorem dX2_readAmount_121 : decode cX2_readAmount 121 = .ok (.iload_n 3, 1) := by decide +kernel
theorem dX2_readAmount_122 : decode cX2_readAmount 122 = .ok (.ifCond .eq 11, 3) := by decide +kernel
theorem dX2_readAmount_125 : decode cX2_readAmount 125 = .ok (.aload_n 0, 1) := by decide +kernel
theorem dX2_readAmount_126 : decode cX2_readAmount 126 = .ok (.getfield 42, 3) := by decide +kernel
theorem dX2_readAmount_129 : decode cX2_readAmount 129 = .ok (.lneg, 1) := by decide +kernel
theorem dX2_readAmount_130 : decode cX2_readAmount 130 = .ok (.goto 7, 3) := by decide +kernel
theorem dX2_readAmount_133 : decode cX2_readAmount 133 = .ok (.aload_n 0, 1) := by decide +kernel
theorem dX2_readAmount_134 : decode cX2_readAmount 134 = .ok (.getfield 42, 3) := by decide +kernel
theorem dX2_readAmount_137 : decode cX2_readAmount 137 = .ok (.putfield 46, 3) := by decide +kernel
theorem dX2_readAmount_140 : decode cX2_readAmount 140 = .ok (.return_, 1) := by decide +kernel
theorem dX2_needMark_0 : decode cX2_needMark 0 = .ok (.iconst 0, 1) := by decide +kernel
theorem dX2_needMark_1 : decode cX2_needMark 1 = .ok (.istore_n 2, 1) := by decide +kernel
theorem dX2_needMark_2 : decode cX2_needMark 2 = .ok (.iload_n 2, 1) := by decide +kernel
theorem dX2_needMark_3 : decode cX2_needMark 3 = .ok (.iconst 3, 1) := by decide +kernel
theorem dX2_needMark_4 : decode cX2_needMark 4 = .ok (.if_icmp .ge 18, 3) := by decide +kernel
theorem dX2_needMark_7 : decode cX2_needMark 7 = .ok (.aload_n 0, 1) := by decide +kernel
theorem dX2_needMark_8 : decode cX2_needMark 8 = .ok (.aload_n 1, 1) := by decide +kernel
theorem dX2_needMark_9 : decode cX2_needMark 9 = .ok (.iload_n 2, 1) := by decide +kernel
theorem dX2_needMark_10 : decode cX2_needMark 10 = .ok (.invokevirtual 98, 3) := by decide +kernel
theorem dX2_needMark_13 : decode cX2_needMark 13 = .ok (.invokevirtual 92, 3) := by decide +kernel
theorem dX2_needMark_16 : decode cX2_needMark 16 = .ok (.iinc 2 1, 3) := by decide +kernel
theorem dX2_needMark_19 : decode cX2_needMark 19 = .ok (.goto (-17), 3) := by decide +kernel
theorem dX2_needMark_22 : decode cX2_needMark 22 = .ok (.return_, 1) := by decide +kernel
theorem dX2_needFirstDigits_0 : decode cX2_needFirstDigits 0 = .ok (.aload_n 0, 1) := by decide +kernel
theorem dX2_needFirstDigits_1 : decode cX2_needFirstDigits 1 = .ok (.bipush 48, 2) := by decide +kernel
theorem dX2_needFirstDigits_3 : decode cX2_needFirstDigits 3 = .ok (.invokevirtual 61, 3) := by decide +kernel
theorem dX2_needFirstDigits_6 : decode cX2_needFirstDigits 6 = .ok (.ifCond .eq 7, 3) := by decide +kernel
theorem dX2_needFirstDigits_9 : decode cX2_needFirstDigits 9 = .ok (.iconst 1, 1) := by decide +kernel
theorem dX2_needFirstDigits_10 : decode cX2_needFirstDigits 10 = .ok (.goto 9, 3) := by decide +kernel
theorem dX2_needFirstDigits_13 : decode cX2_needFirstDigits 13 = .ok (.aload_n 0, 1) := by decide +kernel
theorem dX2_needFirstDigits_14 : decode cX2_needFirstDigits 14 = .ok (.bipush 9, 2) := by decide +kernel
theorem dX2_needFirstDigits_16 : decode cX2_needFirstDigits 16 = .ok (.invokevirtual 102, 3) := by decide +kernel
theorem dX2_needFirstDigits_19 : decode cX2_needFirstDigits 19 = .ok (.istore_n 1, 1) := by decide +kernel
theorem dX2_needFirstDigits_20 : decode cX2_needFirstDigits 20 = .ok (.iload_n 1, 1) := by decide +kernel
theorem dX2_needFirstDigits_21 : decode cX2_needFirstDigits 21 = .ok (.ifCond .ne 7, 3) := by decide +kernel
theorem dX2_needFirstDigits_24 : decode cX2_needFirstDigits 24 = .ok (.aload_n 0, 1) := by decide +kernel
theorem dX2_needFirstDigits_25 : decode cX2_needFirstDigits 25 = .ok (.invokevirtual 105, 3) := by decide +kernel
theorem dX2_needFirstDigits_28 : decode cX2_needFirstDigits 28 = .ok (.iload_n 1, 1) := by decide +kernel
theorem dX2_needFirstDigits_29 : decode cX2_needFirstDigits 29 = .ok (.ireturn, 1) := by decide +kernel
theorem dX2_needGroups_0 : decode cX2_needGroups 0 = .ok (.aload_n 1, 1) := by decide +kernel
theorem dX2_needGroups_1 : decode cX2_needGroups 1 = .ok (.getfield 108, 3) := by decide +kernel
theorem dX2_needGroups_4 : decode cX2_needGroups 4 = .ok (.ifCond .eq 32, 3) := by decide +kernel
theorem dX2_needGroups_7 : decode cX2_needGroups 7 = .ok (.aload_n 0, 1) := by decide +kernel
theorem dX2_needGroups_8 : decode cX2_needGroups 8 = .ok (.getfield 42, 3) := by decide +kernel
theorem dX2_needGroups_11 : decode cX2_needGroups 11 = .ok (.lconst 0, 1) := by decide +kernel
theorem dX2_needGroups_12 : decode cX2_needGroups 12 = .ok (.lcmp, 1) := by decide +kernel
theorem dX2_needGroups_13 : decode cX2_needGroups 13 = .ok (.ifCond .le 23, 3) := by decide +kernel
theorem dX2_needGroups_16 : decode cX2_needGroups 16 = .ok (.iload_n 2, 1) := by decide +kernel
theorem dX2_needGroups_17 : decode cX2_needGroups 17 = .ok (.aload_n 1, 1) := by decide +kernel
theorem dX2_needGroups_18 : decode cX2_needGroups 18 = .ok (.getfield 111, 3) := by decide +kernel
theorem dX2_needGroups_21 : decode cX2_needGroups 21 = .ok (.ifCond .eq 7, 3) := by decide +kernel
theorem dX2_needGroups_24 : decode cX2_needGroups 24 = .ok (.iconst 2, 1) := by decide +kernel
theorem dX2_needGroups_25 : decode cX2_needGroups 25 = .ok (.goto 4, 3) := by decide +kernel
theorem dX2_needGroups_28 : decode cX2_needGroups 28 = .ok (.iconst 3, 1) := by decide +kernel
theorem dX2_needGroups_29 : decode cX2_needGroups 29 = .ok (.if_icmp .gt 7, 3) := by decide +kernel
theorem dX2_needGroups_32 : decode cX2_needGroups 32 = .ok (.iconst 1, 1) := by decide +kernel
theorem dX2_needGroups_33 : decode cX2_needGroups 33 = .ok (.goto 4, 3) := by decide +kernel
theorem dX2_needGroups_36 : decode cX2_needGroups 36 = .ok (.iconst 0, 1) := by decide +kernel
theorem dX2_needGroups_37 : decode cX2_needGroups 37 = .ok (.istore_n 3, 1) := by decide +kernel
theorem dX2_needGroups_38 : decode cX2_needGroups 38 = .ok (.aload_n 1, 1) := by decide +kernel
theorem dX2_needGroups_39 : decode cX2_needGroups 39 = .ok (.getfield 111, 3) := by decide +kernel
theorem dX2_needGroups_42 : decode cX2_needGroups 42 = .ok (.ifCond .eq 7, 3) := by decide +kernel
theorem dX2_needGroups_45 : decode cX2_needGroups 45 = .ok (.iconst 3, 1) := by decide +kernel
theorem dX2_needGroups_46 : decode cX2_needGroups 46 = .ok (.goto 4, 3) := by decide +kernel
theorem dX2_needGroups_49 : decode cX2_needGroups 49 = .ok (.iconst 2, 1) := by decide +kernel
theorem dX2_needGroups_50 : decode cX2_needGroups 50 = .ok (.istore 4, 2) := by decide +kernel
theorem dX2_needGroups_52 : decode cX2_needGroups 52 = .ok (.iconst 1, 1) := by decide +kernel
theorem dX2_needGroups_53 : decode cX2_needGroups 53 = .ok (.istore 5, 2) := by decide +kernel
theorem dX2_needGroups_55 : decode cX2_needGroups 55 = .ok (.iconst 0, 1) := by decide +kernel
theorem dX2_needGroups_56 : decode cX2_needGroups 56 = .ok (.istore 6, 2) := by decide +kernel
theorem dX2_needGroups_58 : decode cX2_needGroups 58 = .ok (.iload 6, 2) := by decide +kernel
theorem dX2_needGroups_60 : decode cX2_needGroups 60 = .ok (.iload 4, 2) := by decide +kernel
theorem dX2_needGroups_62 : decode cX2_needGroups 62 = .ok (.if_icmp .ge 78, 3) := by decide +kernel
theorem dX2_needGroups_65 : decode cX2_needGroups 65 = .ok (.iload_n 3, 1) := by decide +kernel
theorem dX2_needGroups_66 : decode cX2_needGroups 66 = .ok (.ifCond .eq 74, 3) := by decide +kernel
theorem dX2_needGroups_69 : decode cX2_needGroups 69 = .ok (.aload_n 0, 1) := by decide +kernel
theorem dX2_needGroups_70 : decode cX2_needGroups 70 = .ok (.aload_n 1, 1) := by decide +kernel
theorem dX2_needGroups_71 : decode cX2_needGroups 71 = .ok (.getfield 108, 3) := by decide +kernel
theorem dX2_needGroups_74 : decode cX2_needGroups 74 = .ok (.invokevirtual 114, 3) := by decide +kernel
theorem dX2_needGroups_77 : decode cX2_needGroups 77 = .ok (.ifCond .eq 63, 3) := by decide +kernel
theorem dX2_needGroups_80 : decode cX2_needGroups 80 = .ok (.aload_n 0, 1) := by decide +kernel
theorem dX2_needGroups_81 : decode cX2_needGroups 81 = .ok (.dup, 1) := by decide +kernel
theorem dX2_needGroups_82 : decode cX2_needGroups 82 = .ok (.getfield 29, 3) := by decide +kernel
theorem dX2_needGroups_85 : decode cX2_needGroups 85 = .ok (.iconst 1, 1) := by decide +kernel
theorem dX2_needGroups_86 : decode cX2_needGroups 86 = .ok (.iadd, 1) := by decide +kernel
theorem dX2_needGroups_87 : decode cX2_needGroups 87 = .ok (.putfield 29, 3) := by decide +kernel
theorem dX2_needGroups_90 : decode cX2_needGroups 90 = .ok (.aload_n 0, 1) := by decide +kernel
theorem dX2_needGroups_91 : decode cX2_needGroups 91 = .ok (.iconst 3, 1) := by decide +kernel
theorem dX2_needGroups_92 : decode cX2_needGroups 92 = .ok (.invokevirtual 102, 3) := by decide +kernel
theorem dX2_needGroups_95 : decode cX2_needGroups 95 = .ok (.istore 7, 2) := by decide +kernel
theorem dX2_needGroups_97 : decode cX2_needGroups 97 = .ok (.iload 7, 2) := by decide +kernel
theorem dX2_needGroups_99 : decode cX2_needGroups 99 = .ok (.iconst 3, 1) := by decide +kernel
theorem dX2_needGroups_100 : decode cX2_needGroups 100 = .ok (.if_icmp .ne 7, 3) := by decide +kernel
theorem dX2_needGroups_103 : decode cX2_needGroups 103 = .ok (.iconst 1, 1) := by decide +kernel
theorem dX2_needGroups_104 : decode cX2_needGroups 104 = .ok (.goto 4, 3) := by decide +kernel
theorem dX2_needGroups_107 : decode cX2_needGroups 107 = .ok (.iconst 0, 1) := by decide +kernel
theorem dX2_needGroups_108 : decode cX2_needGroups 108 = .ok (.istore 5, 2) := by decide +kernel
theorem dX2_needGroups_110 : decode cX2_needGroups 110 = .ok (.aload_n 1, 1) := by decide +kernel
theorem dX2_needGroups_111 : decode cX2_needGroups 111 = .ok (.getfield 111, 3) := by decide +kernel
theorem dX2_needGroups_114 : decode cX2_needGroups 114 = .ok (.ifCond .eq 17, 3) := by decide +kernel
theorem dX2_needGroups_117 : decode cX2_needGroups 117 = .ok (.iload 7, 2) := by decide +kernel
theorem dX2_needGroups_119 : decode cX2_needGroups 119 = .ok (.iconst 2, 1) := by decide +kernel
theorem dX2_needGroups_120 : decode cX2_needGroups 120 = .ok (.if_icmp .ne 7, 3) := by decide +kernel
theorem dX2_needGroups_123 : decode cX2_needGroups 123 = .ok (.iconst 1, 1) := by decide +kernel
theorem dX2_needGroups_124 : decode cX2_needGroups 124 = .ok (.goto 9, 3) := by decide +kernel
theorem dX2_needGroups_127 : decode cX2_needGroups 127 = .ok (.iconst 0, 1) := by decide +kernel
theorem dX2_needGroups_128 : decode cX2_needGroups 128 = .ok (.goto 5, 3) := by decide +kernel
theorem dX2_needGroups_131 : decode cX2_needGroups 131 = .ok (.iload 5, 2) := by decide +kernel
theorem dX2_needGroups_133 : decode cX2_needGroups 133 = .ok (.istore_n 3, 1) := by decide +kernel
theorem dX2_needGroups_134 : decode cX2_needGroups 134 = .ok (.iinc 6 1, 3) := by decide +kernel
theorem dX2_needGroups_137 : decode cX2_needGroups 137 = .ok (.goto (-79), 3) := by decide +kernel
theorem dX2_needGroups_140 : decode cX2_needGroups 140 = .ok (.iload 5, 2) := by decide +kernel
theorem dX2_needGroups_142 : decode cX2_needGroups 142 = .ok (.ifCond .ne 7, 3) := by decide +kernel
theorem dX2_needGroups_145 : decode cX2_needGroups 145 = .ok (.aload_n 0, 1) := by decide +kernel
theorem dX2_needGroups_146 : decode cX2_needGroups 146 = .ok (.invokevirtual 105, 3) := by decide +kernel
theorem dX2_needGroups_149 : decode cX2_needGroups 149 = .ok (.return_, 1) := by decide +kernel
theorem dX2_isGroupNext_0 : decode cX2_isGroupNext 0 = .ok (.aload_n 0, 1) := by decide +kernel
theorem dX2_isGroupNext_1 : decode cX2_isGroupNext 1 = .ok (.getfield 39, 3) := by decide +kernel
theorem dX2_isGroupNext_4 : decode cX2_isGroupNext 4 = .ok (.ifCond .ne 61, 3) := by decide +kernel
theorem dX2_isGroupNext_7 : decode cX2_isGroupNext 7 = .ok (.aload_n 0, 1) := by decide +kernel
theorem dX2_isGroupNext_8 : decode cX2_isGroupNext 8 = .ok (.getfield 29, 3) := by decide +kernel
theorem dX2_isGroupNext_11 : decode cX2_isGroupNext 11 = .ok (.aload_n 0, 1) := by decide +kernel
theorem dX2_isGroupNext_12 : decode cX2_isGroupNext 12 = .ok (.getfield 36, 3) := by decide +kernel
theorem dX2_isGroupNext_15 : decode cX2_isGroupNext 15 = .ok (.if_icmp .ge 50, 3) := by decide +kernel
theorem dX2_isGroupNext_18 : decode cX2_isGroupNext 18 = .ok (.aload_n 0, 1) := by decide +kernel
theorem dX2_isGroupNext_19 : decode cX2_isGroupNext 19 = .ok (.getfield 9, 3) := by decide +kernel
theorem dX2_isGroupNext_22 : decode cX2_isGroupNext 22 = .ok (.aload_n 0, 1) := by decide +kernel
theorem dX2_isGroupNext_23 : decode cX2_isGroupNext 23 = .ok (.getfield 29, 3) := by decide +kernel
theorem dX2_isGroupNext_26 : decode cX2_isGroupNext 26 = .ok (.iaload, 1) := by decide +kernel
theorem dX2_isGroupNext_27 : decode cX2_isGroupNext 27 = .ok (.iload_n 1, 1) := by decide +kernel
theorem dX2_isGroupNext_28 : decode cX2_isGroupNext 28 = .ok (.if_icmp .ne 37, 3) := by decide +kernel
theorem dX2_isGroupNext_31 : decode cX2_isGroupNext 31 = .ok (.aload_n 0, 1) := by decide +kernel
theorem dX2_isGroupNext_32 : decode cX2_isGroupNext 32 = .ok (.getfield 29, 3) := by decide +kernel
theorem dX2_isGroupNext_35 : decode cX2_isGroupNext 35 = .ok (.iconst 1, 1) := by decide +kernel
theorem dX2_isGroupNext_36 : decode cX2_isGroupNext 36 = .ok (.iadd, 1) := by decide +kernel
theorem dX2_isGroupNext_37 : decode cX2_isGroupNext 37 = .ok (.aload_n 0, 1) := by decide +kernel
theorem dX2_isGroupNext_38 : decode cX2_isGroupNext 38 = .ok (.getfield 36, 3) := by decide +kernel
theorem dX2_isGroupNext_41 : decode cX2_isGroupNext 41 = .ok (.if_icmp .ge 20, 3) := by decide +kernel
theorem dX2_isGroupNext_44 : decode cX2_isGroupNext 44 = .ok (.aload_n 0, 1) := by decide +kernel
theorem dX2_isGroupNext_45 : decode cX2_isGroupNext 45 = .ok (.getfield 9, 3) := by decide +kernel
theorem dX2_isGroupNext_48 : decode cX2_isGroupNext 48 = .ok (.aload_n 0, 1) := by decide +kernel
theorem dX2_isGroupNext_49 : decode cX2_isGroupNext 49 = .ok (.getfield 29, 3) := by decide +kernel
theorem dX2_isGroupNext_52 : decode cX2_isGroupNext 52 = .ok (.iconst 1, 1) := by decide +kernel
theorem dX2_isGroupNext_53 : decode cX2_isGroupNext 53 = .ok (.iadd, 1) := by decide +kernel
theorem dX2_isGroupNext_54 : decode cX2_isGroupNext 54 = .ok (.iaload, 1) := by decide +kernel
theorem dX2_isGroupNext_55 : decode cX2_isGroupNext 55 = .ok (.invokestatic 117, 3) := by decide +kernel
theorem dX2_isGroupNext_58 : decode cX2_isGroupNext 58 = .ok (.ifCond .eq 7, 3) := by decide +kernel
theorem dX2_isGroupNext_61 : decode cX2_isGroupNext 61 = .ok (.iconst 1, 1) := by decide +kernel
theorem dX2_isGroupNext_62 : decode cX2_isGroupNext 62 = .ok (.goto 4, 3) := by decide +kernel
theorem dX2_isGroupNext_65 : decode cX2_isGroupNext 65 = .ok (.iconst 0, 1) := by decide +kernel
theorem dX2_isGroupNext_66 : decode cX2_isGroupNext 66 = .ok (.ireturn, 1) := by decide +kernel
theorem dX2_passFraction_0 : decode cX2_passFraction 0 = .ok (.iconst 0, 1) := by decide +kernel
theorem dX2_passFraction_1 : decode cX2_passFraction 1 = .ok (.istore_n 2, 1) := by decide +kernel
theorem dX2_passFraction_2 : decode cX2_passFraction 2 = .ok (.aload_n 0, 1) := by decide +kernel
theorem dX2_passFraction_3 : decode cX2_passFraction 3 = .ok (.iload_n 1, 1) := by decide +kernel
theorem dX2_passFraction_4 : decode cX2_passFraction 4 = .ok (.invokevirtual 61, 3) := by decide +kernel
theorem dX2_passFraction_7 : decode cX2_passFraction 7 = .ok (.ifCond .eq 18, 3) := by decide +kernel
theorem dX2_passFraction_10 : decode cX2_passFraction 10 = .ok (.aload_n 0, 1) := by decide +kernel
theorem dX2_passFraction_11 : decode cX2_passFraction 11 = .ok (.bipush 6, 2) := by decide +kernel
theorem dX2_passFraction_13 : decode cX2_passFraction 13 = .ok (.invokevirtual 102, 3) := by decide +kernel
theorem dX2_passFraction_16 : decode cX2_passFraction 16 = .ok (.istore_n 2, 1) := by decide +kernel
theorem dX2_passFraction_17 : decode cX2_passFraction 17 = .ok (.iload_n 2, 1) := by decide +kernel
theorem dX2_passFraction_18 : decode cX2_passFraction 18 = .ok (.ifCond .ne 7, 3) := by decide +kernel
theorem dX2_passFraction_21 : decode cX2_passFraction 21 = .ok (.aload_n 0, 1) := by decide +kernel
theorem dX2_passFraction_22 : decode cX2_passFraction 22 = .ok (.invokevirtual 105, 3) := by decide +kernel
theorem dX2_passFraction_25 : decode cX2_passFraction 25 = .ok (.iload_n 2, 1) := by decide +kernel
theorem dX2_passFraction_26 : decode cX2_passFraction 26 = .ok (.istore_n 3, 1) := by decide +kernel
theorem dX2_passFraction_27 : decode cX2_passFraction 27 = .ok (.iload_n 3, 1) := by decide +kernel
theorem dX2_passFraction_28 : decode cX2_passFraction 28 = .ok (.bipush 6, 2) := by decide +kernel
theorem dX2_passFraction_30 : decode cX2_passFraction 30 = .ok (.if_icmp .ge 21, 3) := by decide +kernel
theorem dX2_passFraction_33 : decode cX2_passFraction 33 = .ok (.aload_n 0, 1) := by decide +kernel
theorem dX2_passFraction_34 : decode cX2_passFraction 34 = .ok (.dup, 1) := by decide +kernel
theorem dX2_passFraction_35 : decode cX2_passFraction 35 = .ok (.getfield 42, 3) := by decide +kernel
theorem dX2_passFraction_38 : decode cX2_passFraction 38 = .ok (.ldc2_w 120, 3) := by decide +kernel
theorem dX2_passFraction_41 : decode cX2_passFraction 41 = .ok (.lmul, 1) := by decide +kernel
theorem dX2_passFraction_42 : decode cX2_passFraction 42 = .ok (.putfield 42, 3) := by decide +kernel
theorem dX2_passFraction_45 : decode cX2_passFraction 45 = .ok (.iinc 3 1, 3) := by decide +kernel
theorem dX2_passFraction_48 : decode cX2_passFraction 48 = .ok (.goto (-21), 3) := by decide +kernel
theorem dX2_passFraction_51 : decode cX2_passFraction 51 = .ok (.return_, 1) := by decide +kernel
theorem dX2_readDay_0 : decode cX2_readDay 0 = .ok (.aload_n 0, 1) := by decide +kernel
theorem dX2_readDay_1 : decode cX2_readDay 1 = .ok (.iconst (-1), 1) := by decide +kernel
theorem dX2_readDay_2 : decode cX2_readDay 2 = .ok (.putfield 122, 3) := by decide +kernel
theorem dX2_readDay_5 : decode cX2_readDay 5 = .ok (.iconst 0, 1) := by decide +kernel
theorem dX2_readDay_6 : decode cX2_readDay 6 = .ok (.istore_n 2, 1) := by decide +kernel
theorem dX2_readDay_7 : decode cX2_readDay 7 = .ok (.iload_n 2, 1) := by decide +kernel
theorem dX2_readDay_8 : decode cX2_readDay 8 = .ok (.iconst 3, 1) := by decide +kernel
theorem dX2_readDay_9 : decode cX2_readDay 9 = .ok (.if_icmp .ge 23, 3) := by decide +kernel
theorem dX2_readDay_12 : decode cX2_readDay 12 = .ok (.aload_n 0, 1) := by decide +kernel
theorem dX2_readDay_13 : decode cX2_readDay 13 = .ok (.getfield 17, 3) := by decide +kernel
theorem dX2_readDay_16 : decode cX2_readDay 16 = .ok (.iload_n 2, 1) := by decide +kernel
theorem dX2_readDay_17 : decode cX2_readDay 17 = .ok (.iconst 0, 1) := by decide +kernel
theorem dX2_readDay_18 : decode cX2_readDay 18 = .ok (.iastore, 1) := by decide +kernel
theorem dX2_readDay_19 : decode cX2_readDay 19 = .ok (.aload_n 0, 1) := by decide +kernel
theorem dX2_readDay_20 : decode cX2_readDay 20 = .ok (.getfield 20, 3) := by decide +kernel
theorem dX2_readDay_23 : decode cX2_readDay 23 = .ok (.iload_n 2, 1) := by decide +kernel
theorem dX2_readDay_24 : decode cX2_readDay 24 = .ok (.iconst 0, 1) := by decide +kernel
theorem dX2_readDay_25 : decode cX2_readDay 25 = .ok (.iastore, 1) := by decide +kernel
theorem dX2_readDay_26 : decode cX2_readDay 26 = .ok (.iinc 2 1, 3) := by decide +kernel
theorem dX2_readDay_29 : decode cX2_readDay 29 = .ok (.goto (-22), 3) := by decide +kernel
theorem dX2_readDay_32 : decode cX2_readDay 32 = .ok (.iconst 0, 1) := by decide +kernel
theorem dX2_readDay_33 : decode cX2_readDay 33 = .ok (.istore_n 2, 1) := by decide +kernel
theorem dX2_readDay_34 : decode cX2_readDay 34 = .ok (.iload_n 2, 1) := by decide +kernel
theorem dX2_readDay_35 : decode cX2_readDay 35 = .ok (.iconst 3, 1) := by decide +kernel
theorem dX2_readDay_36 : decode cX2_readDay 36 = .ok (.if_icmp .ge 30, 3) := by decide +kernel
theorem dX2_readDay_39 : decode cX2_readDay 39 = .ok (.iload_n 2, 1) := by decide +kernel
theorem dX2_readDay_40 : decode cX2_readDay 40 = .ok (.ifCond .le 11, 3) := by decide +kernel
theorem dX2_readDay_43 : decode cX2_readDay 43 = .ok (.aload_n 0, 1) := by decide +kernel
theorem dX2_readDay_44 : decode cX2_readDay 44 = .ok (.aload_n 1, 1) := by decide +kernel
theorem dX2_readDay_45 : decode cX2_readDay 45 = .ok (.invokevirtual 125, 3) := by decide +kernel
theorem dX2_readDay_48 : decode cX2_readDay 48 = .ok (.invokevirtual 92, 3) := by decide +kernel
theorem dX2_readDay_51 : decode cX2_readDay 51 = .ok (.aload_n 0, 1) := by decide +kernel
theorem dX2_readDay_52 : decode cX2_readDay 52 = .ok (.aload_n 1, 1) := by decide +kernel
theorem dX2_readDay_53 : decode cX2_readDay 53 = .ok (.iload_n 2, 1) := by decide +kernel
theorem dX2_readDay_54 : decode cX2_readDay 54 = .ok (.invokevirtual 128, 3) := by decide +kernel
theorem dX2_readDay_57 : decode cX2_readDay 57 = .ok (.invokevirtual 131, 3) := by decide +kernel
theorem dX2_readDay_60 : decode cX2_readDay 60 = .ok (.iinc 2 1, 3) := by decide +kernel
theorem dX2_readDay_63 : decode cX2_readDay 63 = .ok (.goto (-29), 3) := by decide +kernel
theorem dX2_readDay_66 : decode cX2_readDay 66 = .ok (.aload_n 0, 1) := by decide +kernel
theorem dX2_readDay_67 : decode cX2_readDay 67 = .ok (.invokevirtual 95, 3) := by decide +kernel
theorem dX2_readDay_70 : decode cX2_readDay 70 = .ok (.aload_n 0, 1) := by decide +kernel
theorem dX2_readDay_71 : decode cX2_readDay 71 = .ok (.getfield 17, 3) := by decide +kernel
theorem dX2_readDay_74 : decode cX2_readDay 74 = .ok (.iconst 2, 1) := by decide +kernel
theorem dX2_readDay_75 : decode cX2_readDay 75 = .ok (.iaload, 1) := by decide +kernel
theorem dX2_readDay_76 : decode cX2_readDay 76 = .ok (.istore_n 2, 1) := by decide +kernel
theorem dX2_readDay_77 : decode cX2_readDay 77 = .ok (.aload_n 0, 1) := by decide +kernel
theorem dX2_readDay_78 : decode cX2_readDay 78 = .ok (.getfield 17, 3) := by decide +kernel
theorem dX2_readDay_81 : decode cX2_readDay 81 = .ok (.iconst 1, 1) := by decide +kernel
theorem dX2_readDay_82 : decode cX2_readDay 82 = .ok (.iaload, 1) := by decide +kernel
theorem dX2_readDay_83 : decode cX2_readDay 83 = .ok (.istore_n 3, 1) := by decide +kernel
theorem dX2_readDay_84 : decode cX2_readDay 84 = .ok (.aload_n 0, 1) := by decide +kernel
theorem dX2_readDay_85 : decode cX2_readDay 85 = .ok (.getfield 17, 3) := by decide +kernel
theorem dX2_readDay_88 : decode cX2_readDay 88 = .ok (.iconst 0, 1) := by decide +kernel
theorem dX2_readDay_89 : decode cX2_readDay 89 = .ok (.iaload, 1) := by decide +kernel
theorem dX2_readDay_90 : decode cX2_readDay 90 = .ok (.istore 4, 2) := by decide +kernel
theorem dX2_readDay_92 : decode cX2_readDay 92 = .ok (.aload_n 0, 1) := by decide +kernel
theorem dX2_readDay_93 : decode cX2_readDay 93 = .ok (.getfield 39, 3) := by decide +kernel
theorem dX2_readDay_96 : decode cX2_readDay 96 = .ok (.ifCond .ne 28, 3) := by decide +kernel
theorem dX2_readDay_99 : decode cX2_readDay 99 = .ok (.iload_n 2, 1) := by decide +kernel
theorem dX2_readDay_100 : decode cX2_readDay 100 = .ok (.iload_n 3, 1) := by decide +kernel
theorem dX2_readDay_101 : decode cX2_readDay 101 = .ok (.iload 4, 2) := by decide +kernel
theorem dX2_readDay_103 : decode cX2_readDay 103 = .ok (.invokestatic 134, 3) := by decide +kernel
theorem dX2_readDay_106 : decode cX2_readDay 106 = .ok (.ifCond .eq 18, 3) := by decide +kernel
theorem dX2_readDay_109 : decode cX2_readDay 109 = .ok (.aload_n 0, 1) := by decide +kernel
theorem dX2_readDay_110 : decode cX2_readDay 110 = .ok (.iload_n 2, 1) := by decide +kernel
theorem dX2_readDay_111 : decode cX2_readDay 111 = .ok (.iload_n 3, 1) := by decide +kernel
theorem dX2_readDay_112 : decode cX2_readDay 112 = .ok (.iload 4, 2) := by decide +kernel
theorem dX2_readDay_114 : decode cX2_readDay 114 = .ok (.invokestatic 140, 3) := by decide +kernel
theorem dX2_readDay_117 : decode cX2_readDay 117 = .ok (.i2l, 1) := by decide +kernel
theorem dX2_readDay_118 : decode cX2_readDay 118 = .ok (.putfield 46, 3) := by decide +kernel
theorem dX2_readDay_121 : decode cX2_readDay 121 = .ok (.goto 27, 3) := by decide +kernel
theorem dX2_readDay_124 : decode cX2_readDay 124 = .ok (.aload_n 0, 1) := by decide +kernel
theorem dX2_readDay_125 : decode cX2_readDay 125 = .ok (.getfield 39, 3) := by decide +kernel
theorem dX2_readDay_128 : decode cX2_readDay 128 = .ok (.iconst 2, 1) := by decide +kernel
theorem dX2_readDay_129 : decode cX2_readDay 129 = .ok (.if_icmp .eq 19, 3) := by decide +kernel
theorem dX2_readDay_132 : decode cX2_readDay 132 = .ok (.aload_n 0, 1) := by decide +kernel
theorem dX2_readDay_133 : decode cX2_readDay 133 = .ok (.aload_n 0, 1) := by decide +kernel
theorem dX2_readDay_134 : decode cX2_readDay 134 = .ok (.invokevirtual 144, 3) := by decide +kernel
theorem dX2_readDay_137 : decode cX2_readDay 137 = .ok (.ifCond .eq 7, 3) := by decide +kernel
theorem dX2_readDay_140 : decode cX2_readDay 140 = .ok (.iconst 1, 1) := by decide +kernel
theorem dX2_readDay_141 : decode cX2_readDay 141 = .ok (.goto 4, 3) := by decide +kernel
theorem dX2_readDay_144 : decode cX2_readDay 144 = .ok (.iconst 2, 1) := by decide +kernel
theorem dX2_readDay_145 : decode cX2_readDay 145 = .ok (.putfield 39, 3) := by decide +kernel
theorem dX2_readDay_148 : decode cX2_readDay 148 = .ok (.return_, 1) := by decide +kernel
theorem dX2_needPart_0 : decode cX2_needPart 0 = .ok (.aload_n 0, 1) := by decide +kernel
theorem dX2_needPart_1 : decode cX2_needPart 1 = .ok (.getfield 39, 3) := by decide +kernel
theorem dX2_needPart_4 : decode cX2_needPart 4 = .ok (.ifCond .ne 12, 3) := by decide +kernel
theorem dX2_needPart_7 : decode cX2_needPart 7 = .ok (.iload_n 1, 1) := by decide +kernel
theorem dX2_needPart_8 : decode cX2_needPart 8 = .ok (.ifCond .lt 8, 3) := by decide +kernel
theorem dX2_needPart_11 : decode cX2_needPart 11 = .ok (.iload_n 1, 1) := by decide +kernel
theorem dX2_needPart_12 : decode cX2_needPart 12 = .ok (.iconst 3, 1) := by decide +kernel
theorem dX2_needPart_13 : decode cX2_needPart 13 = .ok (.if_icmp .lt 4, 3) := by decide +kernel
theorem dX2_needPart_16 : decode cX2_needPart 16 = .ok (.return_, 1) := by decide +kernel
theorem dX2_needPart_17 : decode cX2_needPart 17 = .ok (.iload_n 1, 1) := by decide +kernel
theorem dX2_needPart_18 : decode cX2_needPart 18 = .ok (.iconst 2, 1) := by decide +kernel
theorem dX2_needPart_19 : decode cX2_needPart 19 = .ok (.if_icmp .ne 7, 3) := by decide +kernel
theorem dX2_needPart_22 : decode cX2_needPart 22 = .ok (.iconst 1, 1) := by decide +kernel
theorem dX2_needPart_23 : decode cX2_needPart 23 = .ok (.goto 4, 3) := by decide +kernel
theorem dX2_needPart_26 : decode cX2_needPart 26 = .ok (.iconst 0, 1) := by decide +kernel
theorem dX2_needPart_27 : decode cX2_needPart 27 = .ok (.istore_n 2, 1) := by decide +kernel
theorem dX2_needPart_28 : decode cX2_needPart 28 = .ok (.aload_n 0, 1) := by decide +kernel
theorem dX2_needPart_29 : decode cX2_needPart 29 = .ok (.lconst 0, 1) := by decide +kernel
theorem dX2_needPart_30 : decode cX2_needPart 30 = .ok (.putfield 42, 3) := by decide +kernel
theorem dX2_needPart_33 : decode cX2_needPart 33 = .ok (.aload_n 0, 1) := by decide +kernel
theorem dX2_needPart_34 : decode cX2_needPart 34 = .ok (.getfield 20, 3) := by decide +kernel
theorem dX2_needPart_37 : decode cX2_needPart 37 = .ok (.iload_n 1, 1) := by decide +kernel
theorem dX2_needPart_38 : decode cX2_needPart 38 = .ok (.aload_n 0, 1) := by decide +kernel
theorem dX2_needPart_39 : decode cX2_needPart 39 = .ok (.iload_n 2, 1) := by decide +kernel
theorem dX2_needPart_40 : decode cX2_needPart 40 = .ok (.ifCond .eq 7, 3) := by decide +kernel
theorem dX2_needPart_43 : decode cX2_needPart 43 = .ok (.iconst 4, 1) := by decide +kernel
theorem dX2_needPart_44 : decode cX2_needPart 44 = .ok (.goto 4, 3) := by decide +kernel
theorem dX2_needPart_47 : decode cX2_needPart 47 = .ok (.iconst 2, 1) := by decide +kernel
theorem dX2_needPart_48 : decode cX2_needPart 48 = .ok (.invokevirtual 102, 3) := by decide +kernel
theorem dX2_needPart_51 : decode cX2_needPart 51 = .ok (.iastore, 1) := by decide +kernel
theorem dX2_needPart_52 : decode cX2_needPart 52 = .ok (.aload_n 0, 1) := by decide +kernel
theorem dX2_needPart_53 : decode cX2_needPart 53 = .ok (.getfield 17, 3) := by decide +kernel
theorem dX2_needPart_56 : decode cX2_needPart 56 = .ok (.iload_n 1, 1) := by decide +kernel
theorem dX2_needPart_57 : decode cX2_needPart 57 = .ok (.aload_n 0, 1) := by decide +kernel
theorem dX2_needPart_58 : decode cX2_needPart 58 = .ok (.getfield 42, 3) := by decide +kernel
theorem dX2_needPart_61 : decode cX2_needPart 61 = .ok (.l2i, 1) := by decide +kernel
theorem dX2_needPart_62 : decode cX2_needPart 62 = .ok (.iastore, 1) := by decide +kernel
theorem dX2_needPart_63 : decode cX2_needPart 63 = .ok (.aload_n 0, 1) := by decide +kernel
theorem dX2_needPart_64 : decode cX2_needPart 64 = .ok (.getfield 29, 3) := by decide +kernel
theorem dX2_needPart_67 : decode cX2_needPart 67 = .ok (.aload_n 0, 1) := by decide +kernel
theorem dX2_needPart_68 : decode cX2_needPart 68 = .ok (.getfield 36, 3) := by decide +kernel
theorem dX2_needPart_71 : decode cX2_needPart 71 = .ok (.if_icmp .lt 8, 3) := by decide +kernel
theorem dX2_needPart_74 : decode cX2_needPart 74 = .ok (.aload_n 0, 1) := by decide +kernel
theorem dX2_needPart_75 : decode cX2_needPart 75 = .ok (.iload_n 1, 1) := by decide +kernel
theorem dX2_needPart_76 : decode cX2_needPart 76 = .ok (.putfield 122, 3) := by decide +kernel
theorem dX2_needPart_79 : decode cX2_needPart 79 = .ok (.aload_n 0, 1) := by decide +kernel
theorem dX2_needPart_80 : decode cX2_needPart 80 = .ok (.getfield 20, 3) := by decide +kernel
theorem dX2_needPart_83 : decode cX2_needPart 83 = .ok (.iload_n 1, 1) := by decide +kernel
theorem dX2_needPart_84 : decode cX2_needPart 84 = .ok (.iaload, 1) := by decide +kernel
theorem dX2_needPart_85 : decode cX2_needPart 85 = .ok (.iload_n 2, 1) := by decide +kernel
theorem dX2_needPart_86 : decode cX2_needPart 86 = .ok (.ifCond .eq 7, 3) := by decide +kernel
theorem dX2_needPart_89 : decode cX2_needPart 89 = .ok (.iconst 4, 1) := by decide +kernel
theorem dX2_needPart_90 : decode cX2_needPart 90 = .ok (.goto 4, 3) := by decide +kernel
theorem dX2_needPart_93 : decode cX2_needPart 93 = .ok (.iconst 1, 1) := by decide +kernel
theorem dX2_needPart_94 : decode cX2_needPart 94 = .ok (.if_icmp .ge 7, 3) := by decide +kernel
theorem dX2_needPart_97 : decode cX2_needPart 97 = .ok (.aload_n 0, 1) := by decide +kernel
theorem dX2_needPart_98 : decode cX2_needPart 98 = .ok (.invokevirtual 105, 3) := by decide +kernel
theorem dX2_needPart_101 : decode cX2_needPart 101 = .ok (.return_, 1) := by decide +kernel
theorem dX2_couldBeDay_0 : decode cX2_couldBeDay 0 = .ok (.aload_n 0, 1) := by decide +kernel
theorem dX2_couldBeDay_1 : decode cX2_couldBeDay 1 = .ok (.getfield 20, 3) := by decide +kernel
theorem dX2_couldBeDay_4 : decode cX2_couldBeDay 4 = .ok (.iconst 2, 1) := by decide +kernel
theorem dX2_couldBeDay_5 : decode cX2_couldBeDay 5 = .ok (.iaload, 1) := by decide +kernel
theorem dX2_couldBeDay_6 : decode cX2_couldBeDay 6 = .ok (.iconst 4, 1) := by decide +kernel
theorem dX2_couldBeDay_7 : decode cX2_couldBeDay 7 = .ok (.if_icmp .ne 7, 3) := by decide +kernel
theorem dX2_couldBeDay_10 : decode cX2_couldBeDay 10 = .ok (.iconst 1, 1) := by decide +kernel
theorem dX2_couldBeDay_11 : decode cX2_couldBeDay 11 = .ok (.goto 4, 3) := by decide +kernel
theorem dX2_couldBeDay_14 : decode cX2_couldBeDay 14 = .ok (.iconst 0, 1) := by decide +kernel
theorem dX2_couldBeDay_15 : decode cX2_couldBeDay 15 = .ok (.istore_n 1, 1) := by decide +kernel
theorem dX2_couldBeDay_16 : decode cX2_couldBeDay 16 = .ok (.aload_n 0, 1) := by decide +kernel
theorem dX2_couldBeDay_17 : decode cX2_couldBeDay 17 = .ok (.getfield 17, 3) := by decide +kernel
theorem dX2_couldBeDay_20 : decode cX2_couldBeDay 20 = .ok (.iconst 2, 1) := by decide +kernel
theorem dX2_couldBeDay_21 : decode cX2_couldBeDay 21 = .ok (.iaload, 1) := by decide +kernel
theorem dX2_couldBeDay_22 : decode cX2_couldBeDay 22 = .ok (.istore_n 2, 1) := by decide +kernel
theorem dX2_couldBeDay_23 : decode cX2_couldBeDay 23 = .ok (.iload_n 1, 1) := by decide +kernel
theorem dX2_couldBeDay_24 : decode cX2_couldBeDay 24 = .ok (.ifCond .eq 9, 3) := by decide +kernel
theorem dX2_couldBeDay_27 : decode cX2_couldBeDay 27 = .ok (.iload_n 2, 1) := by decide +kernel
theorem dX2_couldBeDay_28 : decode cX2_couldBeDay 28 = .ok (.ifCond .ne 5, 3) := by decide +kernel
theorem dX2_couldBeDay_31 : decode cX2_couldBeDay 31 = .ok (.iconst 0, 1) := by decide +kernel
theorem dX2_couldBeDay_32 : decode cX2_couldBeDay 32 = .ok (.ireturn, 1) := by decide +kernel
theorem dX2_couldBeDay_33 : decode cX2_couldBeDay 33 = .ok (.iload_n 1, 1) := by decide +kernel
theorem dX2_couldBeDay_34 : decode cX2_couldBeDay 34 = .ok (.ifCond .eq 10, 3) := by decide +kernel
theorem dX2_couldBeDay_37 : decode cX2_couldBeDay 37 = .ok (.iload_n 2, 1) := by decide +kernel
theorem dX2_couldBeDay_38 : decode cX2_couldBeDay 38 = .ok (.invokestatic 148, 3) := by decide +kernel
theorem dX2_couldBeDay_41 : decode cX2_couldBeDay 41 = .ok (.ifCond .eq 7, 3) := by decide +kernel
theorem dX2_couldBeDay_44 : decode cX2_couldBeDay 44 = .ok (.iconst 1, 1) := by decide +kernel
theorem dX2_couldBeDay_45 : decode cX2_couldBeDay 45 = .ok (.goto 4, 3) := by decide +kernel
theorem dX2_couldBeDay_48 : decode cX2_couldBeDay 48 = .ok (.iconst 0, 1) := by decide +kernel
theorem dX2_couldBeDay_49 : decode cX2_couldBeDay 49 = .ok (.istore_n 3, 1) := by decide +kernel
theorem dX2_couldBeDay_50 : decode cX2_couldBeDay 50 = .ok (.aload_n 0, 1) := by decide +kernel
theorem dX2_couldBeDay_51 : decode cX2_couldBeDay 51 = .ok (.invokevirtual 151, 3) := by decide +kernel
theorem dX2_couldBeDay_54 : decode cX2_couldBeDay 54 = .ok (.istore 4, 2) := by decide +kernel
theorem dX2_couldBeDay_56 : decode cX2_couldBeDay 56 = .ok (.iconst 1, 1) := by decide +kernel
theorem dX2_couldBeDay_57 : decode cX2_couldBeDay 57 = .ok (.istore 5, 2) := by decide +kernel
theorem dX2_couldBeDay_59 : decode cX2_couldBeDay 59 = .ok (.iload 5, 2) := by decide +kernel
theorem dX2_couldBeDay_61 : decode cX2_couldBeDay 61 = .ok (.bipush 12, 2) := by decide +kernel
theorem dX2_couldBeDay_63 : decode cX2_couldBeDay 63 = .ok (.if_icmp .gt 37, 3) := by decide +kernel
theorem dX2_couldBeDay_66 : decode cX2_couldBeDay 66 = .ok (.aload_n 0, 1) := by decide +kernel
theorem dX2_couldBeDay_67 : decode cX2_couldBeDay 67 = .ok (.iload 5, 2) := by decide +kernel
theorem dX2_couldBeDay_69 : decode cX2_couldBeDay 69 = .ok (.invokevirtual 154, 3) := by decide +kernel
theorem dX2_couldBeDay_72 : decode cX2_couldBeDay 72 = .ok (.ifCond .eq 22, 3) := by decide +kernel
theorem dX2_couldBeDay_75 : decode cX2_couldBeDay 75 = .ok (.iload 4, 2) := by decide +kernel
theorem dX2_couldBeDay_77 : decode cX2_couldBeDay 77 = .ok (.iconst 1, 1) := by decide +kernel
theorem dX2_couldBeDay_78 : decode cX2_couldBeDay 78 = .ok (.if_icmp .lt 16, 3) := by decide +kernel
theorem dX2_couldBeDay_81 : decode cX2_couldBeDay 81 = .ok (.iload 4, 2) := by decide +kernel
theorem dX2_couldBeDay_83 : decode cX2_couldBeDay 83 = .ok (.iload 5, 2) := by decide +kernel
theorem dX2_couldBeDay_85 : decode cX2_couldBeDay 85 = .ok (.iload_n 3, 1) := by decide +kernel
theorem dX2_couldBeDay_86 : decode cX2_couldBeDay 86 = .ok (.invokestatic 157, 3) := by decide +kernel
theorem dX2_couldBeDay_89 : decode cX2_couldBeDay 89 = .ok (.if_icmp .gt 5, 3) := by decide +kernel
theorem dX2_couldBeDay_92 : decode cX2_couldBeDay 92 = .ok (.iconst 1, 1) := by decide +kernel
theorem dX2_couldBeDay_93 : decode cX2_couldBeDay 93 = .ok (.ireturn, 1) := by decide +kernel
theorem dX2_couldBeDay_94 : decode cX2_couldBeDay 94 = .ok (.iinc 5 1, 3) := by decide +kernel
theorem dX2_couldBeDay_97 : decode cX2_couldBeDay 97 = .ok (.goto (-38), 3) := by decide +kernel
theorem dX2_couldBeDay_100 : decode cX2_couldBeDay 100 = .ok (.iconst 0, 1) := by decide +kernel
theorem dX2_couldBeDay_101 : decode cX2_couldBeDay 101 = .ok (.ireturn, 1) := by decide +kernel
theorem dX2_leastDay_0 : decode cX2_leastDay 0 = .ok (.aload_n 0, 1) := by decide +kernel
theorem dX2_leastDay_1 : decode cX2_leastDay 1 = .ok (.getfield 20, 3) := by decide +kernel
theorem dX2_leastDay_4 : decode cX2_leastDay 4 = .ok (.iconst 0, 1) := by decide +kernel
theorem dX2_leastDay_5 : decode cX2_leastDay 5 = .ok (.iaload, 1) := by decide +kernel
theorem dX2_leastDay_6 : decode cX2_leastDay 6 = .ok (.istore_n 1, 1) := by decide +kernel
theorem dX2_leastDay_7 : decode cX2_leastDay 7 = .ok (.aload_n 0, 1) := by decide +kernel
theorem dX2_leastDay_8 : decode cX2_leastDay 8 = .ok (.getfield 17, 3) := by decide +kernel
theorem dX2_leastDay_11 : decode cX2_leastDay 11 = .ok (.iconst 0, 1) := by decide +kernel
theorem dX2_leastDay_12 : decode cX2_leastDay 12 = .ok (.iaload, 1) := by decide +kernel
theorem dX2_leastDay_13 : decode cX2_leastDay 13 = .ok (.istore_n 2, 1) := by decide +kernel
theorem dX2_leastDay_14 : decode cX2_leastDay 14 = .ok (.iload_n 1, 1) := by decide +kernel
theorem dX2_leastDay_15 : decode cX2_leastDay 15 = .ok (.ifCond .eq 15, 3) := by decide +kernel
theorem dX2_leastDay_18 : decode cX2_leastDay 18 = .ok (.iload_n 1, 1) := by decide +kernel
theorem dX2_leastDay_19 : decode cX2_leastDay 19 = .ok (.iconst 1, 1) := by decide +kernel
theorem dX2_leastDay_20 : decode cX2_leastDay 20 = .ok (.if_icmp .ne 14, 3) := by decide +kernel
theorem dX2_leastDay_23 : decode cX2_leastDay 23 = .ok (.aload_n 0, 1) := by decide +kernel
theorem dX2_leastDay_24 : decode cX2_leastDay 24 = .ok (.getfield 122, 3) := by decide +kernel
theorem dX2_leastDay_27 : decode cX2_leastDay 27 = .ok (.ifCond .ne 7, 3) := by decide +kernel
theorem dX2_leastDay_30 : decode cX2_leastDay 30 = .ok (.iconst 1, 1) := by decide +kernel
theorem dX2_leastDay_31 : decode cX2_leastDay 31 = .ok (.goto 4, 3) := by decide +kernel
theorem dX2_leastDay_34 : decode cX2_leastDay 34 = .ok (.iconst 0, 1) := by decide +kernel
theorem dX2_leastDay_35 : decode cX2_leastDay 35 = .ok (.istore_n 3, 1) := by decide +kernel
theorem dX2_leastDay_36 : decode cX2_leastDay 36 = .ok (.iload_n 3, 1) := by decide +kernel
theorem dX2_leastDay_37 : decode cX2_leastDay 37 = .ok (.ifCond .eq 11, 3) := by decide +kernel
theorem dX2_leastDay_40 : decode cX2_leastDay 40 = .ok (.iload_n 2, 1) := by decide +kernel
theorem dX2_leastDay_41 : decode cX2_leastDay 41 = .ok (.iconst 1, 1) := by decide +kernel
theorem dX2_leastDay_42 : decode cX2_leastDay 42 = .ok (.invokestatic 23, 3) := by decide +kernel
theorem dX2_leastDay_45 : decode cX2_leastDay 45 = .ok (.goto 4, 3) := by decide +kernel
theorem dX2_leastDay_48 : decode cX2_leastDay 48 = .ok (.iload_n 2, 1) := by decide +kernel
theorem dX2_leastDay_49 : decode cX2_leastDay 49 = .ok (.ireturn, 1) := by decide +kernel
