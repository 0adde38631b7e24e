theorem dX2_couldBeMonth_0 : decode cX2_couldBeMonth 0 = .ok (.aload_n 0, 1) := by decide +kernel
theorem dX2_couldBeMonth_1 : decode cX2_couldBeMonth 1 = .ok (.getfield 20, 3) := by decide +kernel
theorem dX2_couldBeMonth_4 : decode cX2_couldBeMonth 4 = .ok (.iconst 1, 1) := by decide +kernel
theorem dX2_couldBeMonth_5 : decode cX2_couldBeMonth 5 = .ok (.iaload, 1) := by decide +kernel
theorem dX2_couldBeMonth_6 : decode cX2_couldBeMonth 6 = .ok (.istore_n 2, 1) := by decide +kernel
theorem dX2_couldBeMonth_7 : decode cX2_couldBeMonth 7 = .ok (.aload_n 0, 1) := by decide +kernel
theorem dX2_couldBeMonth_8 : decode cX2_couldBeMonth 8 = .ok (.getfield 17, 3) := by decide +kernel
theorem dX2_couldBeMonth_11 : decode cX2_couldBeMonth 11 = .ok (.iconst 1, 1) := by decide +kernel
theorem dX2_couldBeMonth_12 : decode cX2_couldBeMonth 12 = .ok (.iaload, 1) := by decide +kernel
theorem dX2_couldBeMonth_13 : decode cX2_couldBeMonth 13 = .ok (.istore_n 3, 1) := by decide +kernel
theorem dX2_couldBeMonth_14 : decode cX2_couldBeMonth 14 = .ok (.iload_n 2, 1) := by decide +kernel
theorem dX2_couldBeMonth_15 : decode cX2_couldBeMonth 15 = .ok (.iconst 1, 1) := by decide +kernel
theorem dX2_couldBeMonth_16 : decode cX2_couldBeMonth 16 = .ok (.if_icmp .ne 23, 3) := by decide +kernel
theorem dX2_couldBeMonth_19 : decode cX2_couldBeMonth 19 = .ok (.aload_n 0, 1) := by decide +kernel
theorem dX2_couldBeMonth_20 : decode cX2_couldBeMonth 20 = .ok (.getfield 122, 3) := by decide +kernel
theorem dX2_couldBeMonth_23 : decode cX2_couldBeMonth 23 = .ok (.iconst 1, 1) := by decide +kernel
theorem dX2_couldBeMonth_24 : decode cX2_couldBeMonth 24 = .ok (.if_icmp .ne 15, 3) := by decide +kernel
theorem dX2_couldBeMonth_27 : decode cX2_couldBeMonth 27 = .ok (.iload_n 1, 1) := by decide +kernel
theorem dX2_couldBeMonth_28 : decode cX2_couldBeMonth 28 = .ok (.bipush 10, 2) := by decide +kernel
theorem dX2_couldBeMonth_30 : decode cX2_couldBeMonth 30 = .ok (.idiv, 1) := by decide +kernel
theorem dX2_couldBeMonth_31 : decode cX2_couldBeMonth 31 = .ok (.iload_n 3, 1) := by decide +kernel
theorem dX2_couldBeMonth_32 : decode cX2_couldBeMonth 32 = .ok (.if_icmp .ne 7, 3) := by decide +kernel
theorem dX2_couldBeMonth_35 : decode cX2_couldBeMonth 35 = .ok (.iconst 1, 1) := by decide +kernel
theorem dX2_couldBeMonth_36 : decode cX2_couldBeMonth 36 = .ok (.goto 4, 3) := by decide +kernel
theorem dX2_couldBeMonth_39 : decode cX2_couldBeMonth 39 = .ok (.iconst 0, 1) := by decide +kernel
theorem dX2_couldBeMonth_40 : decode cX2_couldBeMonth 40 = .ok (.istore 4, 2) := by decide +kernel
theorem dX2_couldBeMonth_42 : decode cX2_couldBeMonth 42 = .ok (.iload_n 2, 1) := by decide +kernel
theorem dX2_couldBeMonth_43 : decode cX2_couldBeMonth 43 = .ok (.ifCond .eq 13, 3) := by decide +kernel
theorem dX2_couldBeMonth_46 : decode cX2_couldBeMonth 46 = .ok (.iload_n 1, 1) := by decide +kernel
theorem dX2_couldBeMonth_47 : decode cX2_couldBeMonth 47 = .ok (.iload_n 3, 1) := by decide +kernel
theorem dX2_couldBeMonth_48 : decode cX2_couldBeMonth 48 = .ok (.if_icmp .eq 8, 3) := by decide +kernel
theorem dX2_couldBeMonth_51 : decode cX2_couldBeMonth 51 = .ok (.iload 4, 2) := by decide +kernel
theorem dX2_couldBeMonth_53 : decode cX2_couldBeMonth 53 = .ok (.ifCond .eq 7, 3) := by decide +kernel
theorem dX2_couldBeMonth_56 : decode cX2_couldBeMonth 56 = .ok (.iconst 1, 1) := by decide +kernel
theorem dX2_couldBeMonth_57 : decode cX2_couldBeMonth 57 = .ok (.goto 4, 3) := by decide +kernel
theorem dX2_couldBeMonth_60 : decode cX2_couldBeMonth 60 = .ok (.iconst 0, 1) := by decide +kernel
theorem dX2_couldBeMonth_61 : decode cX2_couldBeMonth 61 = .ok (.ireturn, 1) := by decide +kernel
theorem dX2_passes_0 : decode cX2_passes 0 = .ok (.aload_n 0, 1) := by decide +kernel
theorem dX2_passes_1 : decode cX2_passes 1 = .ok (.getfield 39, 3) := by decide +kernel
theorem dX2_passes_4 : decode cX2_passes 4 = .ok (.ifCond .ne 27, 3) := by decide +kernel
theorem dX2_passes_7 : decode cX2_passes 7 = .ok (.aload_n 0, 1) := by decide +kernel
theorem dX2_passes_8 : decode cX2_passes 8 = .ok (.getfield 29, 3) := by decide +kernel
theorem dX2_passes_11 : decode cX2_passes 11 = .ok (.aload_n 0, 1) := by decide +kernel
theorem dX2_passes_12 : decode cX2_passes 12 = .ok (.getfield 36, 3) := by decide +kernel
theorem dX2_passes_15 : decode cX2_passes 15 = .ok (.if_icmp .ge 16, 3) := by decide +kernel
theorem dX2_passes_18 : decode cX2_passes 18 = .ok (.aload_n 0, 1) := by decide +kernel
theorem dX2_passes_19 : decode cX2_passes 19 = .ok (.getfield 9, 3) := by decide +kernel
theorem dX2_passes_22 : decode cX2_passes 22 = .ok (.aload_n 0, 1) := by decide +kernel
theorem dX2_passes_23 : decode cX2_passes 23 = .ok (.getfield 29, 3) := by decide +kernel
theorem dX2_passes_26 : decode cX2_passes 26 = .ok (.iaload, 1) := by decide +kernel
theorem dX2_passes_27 : decode cX2_passes 27 = .ok (.iload_n 1, 1) := by decide +kernel
theorem dX2_passes_28 : decode cX2_passes 28 = .ok (.if_icmp .eq 5, 3) := by decide +kernel
theorem dX2_passes_31 : decode cX2_passes 31 = .ok (.iconst 0, 1) := by decide +kernel
theorem dX2_passes_32 : decode cX2_passes 32 = .ok (.ireturn, 1) := by decide +kernel
theorem dX2_passes_33 : decode cX2_passes 33 = .ok (.aload_n 0, 1) := by decide +kernel
theorem dX2_passes_34 : decode cX2_passes 34 = .ok (.dup, 1) := by decide +kernel
theorem dX2_passes_35 : decode cX2_passes 35 = .ok (.getfield 29, 3) := by decide +kernel
theorem dX2_passes_38 : decode cX2_passes 38 = .ok (.iconst 1, 1) := by decide +kernel
theorem dX2_passes_39 : decode cX2_passes 39 = .ok (.iadd, 1) := by decide +kernel
theorem dX2_passes_40 : decode cX2_passes 40 = .ok (.putfield 29, 3) := by decide +kernel
theorem dX2_passes_43 : decode cX2_passes 43 = .ok (.iconst 1, 1) := by decide +kernel
theorem dX2_passes_44 : decode cX2_passes 44 = .ok (.ireturn, 1) := by decide +kernel
theorem dX2_passDigits_0 : decode cX2_passDigits 0 = .ok (.iconst 0, 1) := by decide +kernel
theorem dX2_passDigits_1 : decode cX2_passDigits 1 = .ok (.istore_n 2, 1) := by decide +kernel
theorem dX2_passDigits_2 : decode cX2_passDigits 2 = .ok (.iload_n 2, 1) := by decide +kernel
theorem dX2_passDigits_3 : decode cX2_passDigits 3 = .ok (.iload_n 1, 1) := by decide +kernel
theorem dX2_passDigits_4 : decode cX2_passDigits 4 = .ok (.if_icmp .ge 78, 3) := by decide +kernel
theorem dX2_passDigits_7 : decode cX2_passDigits 7 = .ok (.aload_n 0, 1) := by decide +kernel
theorem dX2_passDigits_8 : decode cX2_passDigits 8 = .ok (.getfield 39, 3) := by decide +kernel
theorem dX2_passDigits_11 : decode cX2_passDigits 11 = .ok (.ifCond .ne 71, 3) := by decide +kernel
theorem dX2_passDigits_14 : decode cX2_passDigits 14 = .ok (.aload_n 0, 1) := by decide +kernel
theorem dX2_passDigits_15 : decode cX2_passDigits 15 = .ok (.getfield 29, 3) := by decide +kernel
theorem dX2_passDigits_18 : decode cX2_passDigits 18 = .ok (.aload_n 0, 1) := by decide +kernel
theorem dX2_passDigits_19 : decode cX2_passDigits 19 = .ok (.getfield 36, 3) := by decide +kernel
theorem dX2_passDigits_22 : decode cX2_passDigits 22 = .ok (.if_icmp .ge 60, 3) := by decide +kernel
theorem dX2_passDigits_25 : decode cX2_passDigits 25 = .ok (.aload_n 0, 1) := by decide +kernel
theorem dX2_passDigits_26 : decode cX2_passDigits 26 = .ok (.getfield 9, 3) := by decide +kernel
theorem dX2_passDigits_29 : decode cX2_passDigits 29 = .ok (.aload_n 0, 1) := by decide +kernel
theorem dX2_passDigits_30 : decode cX2_passDigits 30 = .ok (.getfield 29, 3) := by decide +kernel
theorem dX2_passDigits_33 : decode cX2_passDigits 33 = .ok (.iaload, 1) := by decide +kernel
theorem dX2_passDigits_34 : decode cX2_passDigits 34 = .ok (.invokestatic 117, 3) := by decide +kernel
theorem dX2_passDigits_37 : decode cX2_passDigits 37 = .ok (.ifCond .eq 45, 3) := by decide +kernel
theorem dX2_passDigits_40 : decode cX2_passDigits 40 = .ok (.aload_n 0, 1) := by decide +kernel
theorem dX2_passDigits_41 : decode cX2_passDigits 41 = .ok (.aload_n 0, 1) := by decide +kernel
theorem dX2_passDigits_42 : decode cX2_passDigits 42 = .ok (.getfield 42, 3) := by decide +kernel
theorem dX2_passDigits_45 : decode cX2_passDigits 45 = .ok (.ldc2_w 120, 3) := by decide +kernel
theorem dX2_passDigits_48 : decode cX2_passDigits 48 = .ok (.lmul, 1) := by decide +kernel
theorem dX2_passDigits_49 : decode cX2_passDigits 49 = .ok (.aload_n 0, 1) := by decide +kernel
theorem dX2_passDigits_50 : decode cX2_passDigits 50 = .ok (.getfield 9, 3) := by decide +kernel
theorem dX2_passDigits_53 : decode cX2_passDigits 53 = .ok (.aload_n 0, 1) := by decide +kernel
theorem dX2_passDigits_54 : decode cX2_passDigits 54 = .ok (.getfield 29, 3) := by decide +kernel
theorem dX2_passDigits_57 : decode cX2_passDigits 57 = .ok (.iaload, 1) := by decide +kernel
theorem dX2_passDigits_58 : decode cX2_passDigits 58 = .ok (.bipush 48, 2) := by decide +kernel
theorem dX2_passDigits_60 : decode cX2_passDigits 60 = .ok (.isub, 1) := by decide +kernel
theorem dX2_passDigits_61 : decode cX2_passDigits 61 = .ok (.i2l, 1) := by decide +kernel
theorem dX2_passDigits_62 : decode cX2_passDigits 62 = .ok (.ladd, 1) := by decide +kernel
theorem dX2_passDigits_63 : decode cX2_passDigits 63 = .ok (.putfield 42, 3) := by decide +kernel
theorem dX2_passDigits_66 : decode cX2_passDigits 66 = .ok (.aload_n 0, 1) := by decide +kernel
theorem dX2_passDigits_67 : decode cX2_passDigits 67 = .ok (.dup, 1) := by decide +kernel
theorem dX2_passDigits_68 : decode cX2_passDigits 68 = .ok (.getfield 29, 3) := by decide +kernel
theorem dX2_passDigits_71 : decode cX2_passDigits 71 = .ok (.iconst 1, 1) := by decide +kernel
theorem dX2_passDigits_72 : decode cX2_passDigits 72 = .ok (.iadd, 1) := by decide +kernel
theorem dX2_passDigits_73 : decode cX2_passDigits 73 = .ok (.putfield 29, 3) := by decide +kernel
theorem dX2_passDigits_76 : decode cX2_passDigits 76 = .ok (.iinc 2 1, 3) := by decide +kernel
theorem dX2_passDigits_79 : decode cX2_passDigits 79 = .ok (.goto (-77), 3) := by decide +kernel
theorem dX2_passDigits_82 : decode cX2_passDigits 82 = .ok (.iload_n 2, 1) := by decide +kernel
theorem dX2_passDigits_83 : decode cX2_passDigits 83 = .ok (.ireturn, 1) := by decide +kernel
theorem dX2_need_0 : decode cX2_need 0 = .ok (.aload_n 0, 1) := by decide +kernel
theorem dX2_need_1 : decode cX2_need 1 = .ok (.iload_n 1, 1) := by decide +kernel
theorem dX2_need_2 : decode cX2_need 2 = .ok (.invokevirtual 61, 3) := by decide +kernel
theorem dX2_need_5 : decode cX2_need 5 = .ok (.ifCond .ne 7, 3) := by decide +kernel
theorem dX2_need_8 : decode cX2_need 8 = .ok (.aload_n 0, 1) := by decide +kernel
theorem dX2_need_9 : decode cX2_need 9 = .ok (.invokevirtual 105, 3) := by decide +kernel
theorem dX2_need_12 : decode cX2_need 12 = .ok (.return_, 1) := by decide +kernel
theorem dX2_needEnd_0 : decode cX2_needEnd 0 = .ok (.aload_n 0, 1) := by decide +kernel
theorem dX2_needEnd_1 : decode cX2_needEnd 1 = .ok (.getfield 29, 3) := by decide +kernel
theorem dX2_needEnd_4 : decode cX2_needEnd 4 = .ok (.aload_n 0, 1) := by decide +kernel
theorem dX2_needEnd_5 : decode cX2_needEnd 5 = .ok (.getfield 36, 3) := by decide +kernel
theorem dX2_needEnd_8 : decode cX2_needEnd 8 = .ok (.if_icmp .ge 7, 3) := by decide +kernel
theorem dX2_needEnd_11 : decode cX2_needEnd 11 = .ok (.aload_n 0, 1) := by decide +kernel
theorem dX2_needEnd_12 : decode cX2_needEnd 12 = .ok (.invokevirtual 105, 3) := by decide +kernel
theorem dX2_needEnd_15 : decode cX2_needEnd 15 = .ok (.return_, 1) := by decide +kernel
theorem dX2_lack_0 : decode cX2_lack 0 = .ok (.aload_n 0, 1) := by decide +kernel
theorem dX2_lack_1 : decode cX2_lack 1 = .ok (.getfield 39, 3) := by decide +kernel
theorem dX2_lack_4 : decode cX2_lack 4 = .ok (.ifCond .ne 23, 3) := by decide +kernel
theorem dX2_lack_7 : decode cX2_lack 7 = .ok (.aload_n 0, 1) := by decide +kernel
theorem dX2_lack_8 : decode cX2_lack 8 = .ok (.aload_n 0, 1) := by decide +kernel
theorem dX2_lack_9 : decode cX2_lack 9 = .ok (.getfield 29, 3) := by decide +kernel
theorem dX2_lack_12 : decode cX2_lack 12 = .ok (.aload_n 0, 1) := by decide +kernel
theorem dX2_lack_13 : decode cX2_lack 13 = .ok (.getfield 36, 3) := by decide +kernel
theorem dX2_lack_16 : decode cX2_lack 16 = .ok (.if_icmp .lt 7, 3) := by decide +kernel
theorem dX2_lack_19 : decode cX2_lack 19 = .ok (.iconst 1, 1) := by decide +kernel
theorem dX2_lack_20 : decode cX2_lack 20 = .ok (.goto 4, 3) := by decide +kernel
theorem dX2_lack_23 : decode cX2_lack 23 = .ok (.iconst 2, 1) := by decide +kernel
theorem dX2_lack_24 : decode cX2_lack 24 = .ok (.putfield 39, 3) := by decide +kernel
theorem dX2_lack_27 : decode cX2_lack 27 = .ok (.return_, 1) := by decide +kernel
theorem dX3_init_0 : decode cX3_init 0 = .ok (.aload_n 0, 1) := by decide +kernel
theorem dX3_init_1 : decode cX3_init 1 = .ok (.invokespecial 3, 3) := by decide +kernel
theorem dX3_init_4 : decode cX3_init 4 = .ok (.aload_n 0, 1) := by decide +kernel
theorem dX3_init_5 : decode cX3_init 5 = .ok (.new 9, 3) := by decide +kernel
theorem dX3_init_8 : decode cX3_init 8 = .ok (.dup, 1) := by decide +kernel
theorem dX3_init_9 : decode cX3_init 9 = .ok (.bipush 60, 2) := by decide +kernel
theorem dX3_init_11 : decode cX3_init 11 = .ok (.invokespecial 11, 3) := by decide +kernel
theorem dX3_init_14 : decode cX3_init 14 = .ok (.putfield 14, 3) := by decide +kernel
theorem dX3_init_17 : decode cX3_init 17 = .ok (.aload_n 0, 1) := by decide +kernel
theorem dX3_init_18 : decode cX3_init 18 = .ok (.new 9, 3) := by decide +kernel
theorem dX3_init_21 : decode cX3_init 21 = .ok (.dup, 1) := by decide +kernel
theorem dX3_init_22 : decode cX3_init 22 = .ok (.bipush 100, 2) := by decide +kernel
theorem dX3_init_24 : decode cX3_init 24 = .ok (.invokespecial 11, 3) := by decide +kernel
theorem dX3_init_27 : decode cX3_init 27 = .ok (.putfield 20, 3) := by decide +kernel
theorem dX3_init_30 : decode cX3_init 30 = .ok (.aload_n 0, 1) := by decide +kernel
theorem dX3_init_31 : decode cX3_init 31 = .ok (.bipush 6, 2) := by decide +kernel
theorem dX3_init_33 : decode cX3_init 33 = .ok (.anewarray 23, 3) := by decide +kernel
theorem dX3_init_36 : decode cX3_init 36 = .ok (.putfield 25, 3) := by decide +kernel
theorem dX3_init_39 : decode cX3_init 39 = .ok (.aload_n 0, 1) := by decide +kernel
theorem dX3_init_40 : decode cX3_init 40 = .ok (.sipush 1800, 3) := by decide +kernel
theorem dX3_init_43 : decode cX3_init 43 = .ok (.newarray .int, 2) := by decide +kernel
theorem dX3_init_45 : decode cX3_init 45 = .ok (.putfield 29, 3) := by decide +kernel
theorem dX3_init_48 : decode cX3_init 48 = .ok (.aload_n 0, 1) := by decide +kernel
theorem dX3_init_49 : decode cX3_init 49 = .ok (.bipush 30, 2) := by decide +kernel
theorem dX3_init_51 : decode cX3_init 51 = .ok (.newarray .int, 2) := by decide +kernel
theorem dX3_init_53 : decode cX3_init 53 = .ok (.putfield 33, 3) := by decide +kernel
theorem dX3_init_56 : decode cX3_init 56 = .ok (.aload_n 0, 1) := by decide +kernel
theorem dX3_init_57 : decode cX3_init 57 = .ok (.iconst 3, 1) := by decide +kernel
theorem dX3_init_58 : decode cX3_init 58 = .ok (.newarray .long, 2) := by decide +kernel
theorem dX3_init_60 : decode cX3_init 60 = .ok (.putfield 36, 3) := by decide +kernel
theorem dX3_init_63 : decode cX3_init 63 = .ok (.aload_n 0, 1) := by decide +kernel
theorem dX3_init_64 : decode cX3_init 64 = .ok (.iconst 3, 1) := by decide +kernel
theorem dX3_init_65 : decode cX3_init 65 = .ok (.newarray .long, 2) := by decide +kernel
theorem dX3_init_67 : decode cX3_init 67 = .ok (.putfield 40, 3) := by decide +kernel
theorem dX3_init_70 : decode cX3_init 70 = .ok (.iconst 0, 1) := by decide +kernel
theorem dX3_init_71 : decode cX3_init 71 = .ok (.istore_n 1, 1) := by decide +kernel
theorem dX3_init_72 : decode cX3_init 72 = .ok (.iload_n 1, 1) := by decide +kernel
theorem dX3_init_73 : decode cX3_init 73 = .ok (.iconst 3, 1) := by decide +kernel
theorem dX3_init_74 : decode cX3_init 74 = .ok (.if_icmp .ge 27, 3) := by decide +kernel
theorem dX3_init_77 : decode cX3_init 77 = .ok (.aload_n 0, 1) := by decide +kernel
theorem dX3_init_78 : decode cX3_init 78 = .ok (.getfield 36, 3) := by decide +kernel
theorem dX3_init_81 : decode cX3_init 81 = .ok (.iload_n 1, 1) := by decide +kernel
theorem dX3_init_82 : decode cX3_init 82 = .ok (.ldc2_w 43, 3) := by decide +kernel
theorem dX3_init_85 : decode cX3_init 85 = .ok (.lastore, 1) := by decide +kernel
theorem dX3_init_86 : decode cX3_init 86 = .ok (.aload_n 0, 1) := by decide +kernel
theorem dX3_init_87 : decode cX3_init 87 = .ok (.getfield 40, 3) := by decide +kernel
theorem dX3_init_90 : decode cX3_init 90 = .ok (.iload_n 1, 1) := by decide +kernel
theorem dX3_init_91 : decode cX3_init 91 = .ok (.ldc2_w 45, 3) := by decide +kernel
theorem dX3_init_94 : decode cX3_init 94 = .ok (.lastore, 1) := by decide +kernel
theorem dX3_init_95 : decode cX3_init 95 = .ok (.iinc 1 1, 3) := by decide +kernel
theorem dX3_init_98 : decode cX3_init 98 = .ok (.goto (-26), 3) := by decide +kernel
theorem dX3_init_101 : decode cX3_init 101 = .ok (.return_, 1) := by decide +kernel
theorem dX3_landAt_0 : decode cX3_landAt 0 = .ok (.iload_n 1, 1) := by decide +kernel
theorem dX3_landAt_1 : decode cX3_landAt 1 = .ok (.ifCond .lt 29, 3) := by decide +kernel
theorem dX3_landAt_4 : decode cX3_landAt 4 = .ok (.iload_n 1, 1) := by decide +kernel
theorem dX3_landAt_5 : decode cX3_landAt 5 = .ok (.aload_n 0, 1) := by decide +kernel
theorem dX3_landAt_6 : decode cX3_landAt 6 = .ok (.getfield 47, 3) := by decide +kernel
theorem dX3_landAt_9 : decode cX3_landAt 9 = .ok (.if_icmp .ge 21, 3) := by decide +kernel
theorem dX3_landAt_12 : decode cX3_landAt 12 = .ok (.iload_n 1, 1) := by decide +kernel
theorem dX3_landAt_13 : decode cX3_landAt 13 = .ok (.aload_n 0, 1) := by decide +kernel
theorem dX3_landAt_14 : decode cX3_landAt 14 = .ok (.getfield 25, 3) := by decide +kernel
theorem dX3_landAt_17 : decode cX3_landAt 17 = .ok (.arraylength, 1) := by decide +kernel
theorem dX3_landAt_18 : decode cX3_landAt 18 = .ok (.if_icmp .ge 12, 3) := by decide +kernel
theorem dX3_landAt_21 : decode cX3_landAt 21 = .ok (.aload_n 0, 1) := by decide +kernel
theorem dX3_landAt_22 : decode cX3_landAt 22 = .ok (.getfield 25, 3) := by decide +kernel
theorem dX3_landAt_25 : decode cX3_landAt 25 = .ok (.iload_n 1, 1) := by decide +kernel
theorem dX3_landAt_26 : decode cX3_landAt 26 = .ok (.aaload, 1) := by decide +kernel
theorem dX3_landAt_27 : decode cX3_landAt 27 = .ok (.goto 4, 3) := by decide +kernel
theorem dX3_landAt_30 : decode cX3_landAt 30 = .ok (.aconst_null, 1) := by decide +kernel
theorem dX3_landAt_31 : decode cX3_landAt 31 = .ok (.areturn, 1) := by decide +kernel
theorem dX3_addLand_0 : decode cX3_addLand 0 = .ok (.aload_n 0, 1) := by decide +kernel
theorem dX3_addLand_1 : decode cX3_addLand 1 = .ok (.getfield 47, 3) := by decide +kernel
theorem dX3_addLand_4 : decode cX3_addLand 4 = .ok (.aload_n 0, 1) := by decide +kernel
theorem dX3_addLand_5 : decode cX3_addLand 5 = .ok (.getfield 25, 3) := by decide +kernel
theorem dX3_addLand_8 : decode cX3_addLand 8 = .ok (.arraylength, 1) := by decide +kernel
theorem dX3_addLand_9 : decode cX3_addLand 9 = .ok (.if_icmp .lt 5, 3) := by decide +kernel
theorem dX3_addLand_12 : decode cX3_addLand 12 = .ok (.iconst (-1), 1) := by decide +kernel
theorem dX3_addLand_13 : decode cX3_addLand 13 = .ok (.ireturn, 1) := by decide +kernel
theorem dX3_addLand_14 : decode cX3_addLand 14 = .ok (.aload_n 0, 1) := by decide +kernel
theorem dX3_addLand_15 : decode cX3_addLand 15 = .ok (.getfield 25, 3) := by decide +kernel
theorem dX3_addLand_18 : decode cX3_addLand 18 = .ok (.aload_n 0, 1) := by decide +kernel
theorem dX3_addLand_19 : decode cX3_addLand 19 = .ok (.getfield 47, 3) := by decide +kernel
theorem dX3_addLand_22 : decode cX3_addLand 22 = .ok (.aload_n 1, 1) := by decide +kernel
theorem dX3_addLand_23 : decode cX3_addLand 23 = .ok (.aastore, 1) := by decide +kernel
theorem dX3_addLand_24 : decode cX3_addLand 24 = .ok (.aload_n 0, 1) := by decide +kernel
theorem dX3_addLand_25 : decode cX3_addLand 25 = .ok (.dup, 1) := by decide +kernel
theorem dX3_addLand_26 : decode cX3_addLand 26 = .ok (.getfield 47, 3) := by decide +kernel
theorem dX3_addLand_29 : decode cX3_addLand 29 = .ok (.iconst 1, 1) := by decide +kernel
theorem dX3_addLand_30 : decode cX3_addLand 30 = .ok (.iadd, 1) := by decide +kernel
theorem dX3_addLand_31 : decode cX3_addLand 31 = .ok (.putfield 47, 3) := by decide +kernel
theorem dX3_addLand_34 : decode cX3_addLand 34 = .ok (.aload_n 0, 1) := by decide +kernel
theorem dX3_addLand_35 : decode cX3_addLand 35 = .ok (.getfield 47, 3) := by decide +kernel
theorem dX3_addLand_38 : decode cX3_addLand 38 = .ok (.iconst 1, 1) := by decide +kernel
theorem dX3_addLand_39 : decode cX3_addLand 39 = .ok (.isub, 1) := by decide +kernel
theorem dX3_addLand_40 : decode cX3_addLand 40 = .ok (.ireturn, 1) := by decide +kernel
theorem dX3_setBounds_0 : decode cX3_setBounds 0 = .ok (.iload_n 1, 1) := by decide +kernel
theorem dX3_setBounds_1 : decode cX3_setBounds 1 = .ok (.invokestatic 51, 3) := by decide +kernel
theorem dX3_setBounds_4 : decode cX3_setBounds 4 = .ok (.ifCond .eq 18, 3) := by decide +kernel
theorem dX3_setBounds_7 : decode cX3_setBounds 7 = .ok (.aload_n 0, 1) := by decide +kernel
theorem dX3_setBounds_8 : decode cX3_setBounds 8 = .ok (.getfield 36, 3) := by decide +kernel
theorem dX3_setBounds_11 : decode cX3_setBounds 11 = .ok (.iload_n 1, 1) := by decide +kernel
theorem dX3_setBounds_12 : decode cX3_setBounds 12 = .ok (.lload_n 2, 1) := by decide +kernel
theorem dX3_setBounds_13 : decode cX3_setBounds 13 = .ok (.lastore, 1) := by decide +kernel
theorem dX3_setBounds_14 : decode cX3_setBounds 14 = .ok (.aload_n 0, 1) := by decide +kernel
theorem dX3_setBounds_15 : decode cX3_setBounds 15 = .ok (.getfield 40, 3) := by decide +kernel
theorem dX3_setBounds_18 : decode cX3_setBounds 18 = .ok (.iload_n 1, 1) := by decide +kernel
theorem dX3_setBounds_19 : decode cX3_setBounds 19 = .ok (.lload 4, 2) := by decide +kernel
theorem dX3_setBounds_21 : decode cX3_setBounds 21 = .ok (.lastore, 1) := by decide +kernel
theorem dX3_setBounds_22 : decode cX3_setBounds 22 = .ok (.return_, 1) := by decide +kernel
theorem dX3_isWithin_0 : decode cX3_isWithin 0 = .ok (.iload_n 1, 1) := by decide +kernel
theorem dX3_isWithin_1 : decode cX3_isWithin 1 = .ok (.invokestatic 51, 3) := by decide +kernel
theorem dX3_isWithin_4 : decode cX3_isWithin 4 = .ok (.ifCond .eq 29, 3) := by decide +kernel
theorem dX3_isWithin_7 : decode cX3_isWithin 7 = .ok (.lload_n 2, 1) := by decide +kernel
theorem dX3_isWithin_8 : decode cX3_isWithin 8 = .ok (.aload_n 0, 1) := by decide +kernel
theorem dX3_isWithin_9 : decode cX3_isWithin 9 = .ok (.getfield 36, 3) := by decide +kernel
theorem dX3_isWithin_12 : decode cX3_isWithin 12 = .ok (.iload_n 1, 1) := by decide +kernel
theorem dX3_isWithin_13 : decode cX3_isWithin 13 = .ok (.laload, 1) := by decide +kernel
theorem dX3_isWithin_14 : decode cX3_isWithin 14 = .ok (.lcmp, 1) := by decide +kernel
theorem dX3_isWithin_15 : decode cX3_isWithin 15 = .ok (.ifCond .lt 18, 3) := by decide +kernel
theorem dX3_isWithin_18 : decode cX3_isWithin 18 = .ok (.lload_n 2, 1) := by decide +kernel
theorem dX3_isWithin_19 : decode cX3_isWithin 19 = .ok (.aload_n 0, 1) := by decide +kernel
theorem dX3_isWithin_20 : decode cX3_isWithin 20 = .ok (.getfield 40, 3) := by decide +kernel
theorem dX3_isWithin_23 : decode cX3_isWithin 23 = .ok (.iload_n 1, 1) := by decide +kernel
theorem dX3_isWithin_24 : decode cX3_isWithin 24 = .ok (.laload, 1) := by decide +kernel
theorem dX3_isWithin_25 : decode cX3_isWithin 25 = .ok (.lcmp, 1) := by decide +kernel
theorem dX3_isWithin_26 : decode cX3_isWithin 26 = .ok (.ifCond .gt 7, 3) := by decide +kernel
theorem dX3_isWithin_29 : decode cX3_isWithin 29 = .ok (.iconst 1, 1) := by decide +kernel
theorem dX3_isWithin_30 : decode cX3_isWithin 30 = .ok (.goto 4, 3) := by decide +kernel
theorem dX3_isWithin_33 : decode cX3_isWithin 33 = .ok (.iconst 0, 1) := by decide +kernel
theorem dX3_isWithin_34 : decode cX3_isWithin 34 = .ok (.ireturn, 1) := by decide +kernel
theorem dX3_moveLineToRows_0 : decode cX3_moveLineToRows 0 = .ok (.aload_n 0, 1) := by decide +kernel
theorem dX3_moveLineToRows_1 : decode cX3_moveLineToRows 1 = .ok (.getfield 55, 3) := by decide +kernel
theorem dX3_moveLineToRows_4 : decode cX3_moveLineToRows 4 = .ok (.bipush 30, 2) := by decide +kernel
theorem dX3_moveLineToRows_6 : decode cX3_moveLineToRows 6 = .ok (.if_icmp .lt 5, 3) := by decide +kernel
theorem dX3_moveLineToRows_9 : decode cX3_moveLineToRows 9 = .ok (.iconst (-1), 1) := by decide +kernel
theorem dX3_moveLineToRows_10 : decode cX3_moveLineToRows 10 = .ok (.ireturn, 1) := by decide +kernel
theorem dX3_moveLineToRows_11 : decode cX3_moveLineToRows 11 = .ok (.aload_n 0, 1) := by decide +kernel
theorem dX3_moveLineToRows_12 : decode cX3_moveLineToRows 12 = .ok (.getfield 33, 3) := by decide +kernel
theorem dX3_moveLineToRows_15 : decode cX3_moveLineToRows 15 = .ok (.aload_n 0, 1) := by decide +kernel
theorem dX3_moveLineToRows_16 : decode cX3_moveLineToRows 16 = .ok (.getfield 55, 3) := by decide +kernel
theorem dX3_moveLineToRows_19 : decode cX3_moveLineToRows 19 = .ok (.aload_n 0, 1) := by decide +kernel
theorem dX3_moveLineToRows_20 : decode cX3_moveLineToRows 20 = .ok (.getfield 14, 3) := by decide +kernel
theorem dX3_moveLineToRows_23 : decode cX3_moveLineToRows 23 = .ok (.invokevirtual 58, 3) := by decide +kernel
theorem dX3_moveLineToRows_26 : decode cX3_moveLineToRows 26 = .ok (.iastore, 1) := by decide +kernel
theorem dX3_moveLineToRows_27 : decode cX3_moveLineToRows 27 = .ok (.aload_n 0, 1) := by decide +kernel
theorem dX3_moveLineToRows_28 : decode cX3_moveLineToRows 28 = .ok (.getfield 14, 3) := by decide +kernel
theorem dX3_moveLineToRows_31 : decode cX3_moveLineToRows 31 = .ok (.getfield 62, 3) := by decide +kernel
theorem dX3_moveLineToRows_34 : decode cX3_moveLineToRows 34 = .ok (.iconst 0, 1) := by decide +kernel
theorem dX3_moveLineToRows_35 : decode cX3_moveLineToRows 35 = .ok (.aload_n 0, 1) := by decide +kernel
theorem dX3_moveLineToRows_36 : decode cX3_moveLineToRows 36 = .ok (.getfield 29, 3) := by decide +kernel
theorem dX3_moveLineToRows_39 : decode cX3_moveLineToRows 39 = .ok (.aload_n 0, 1) := by decide +kernel
theorem dX3_moveLineToRows_40 : decode cX3_moveLineToRows 40 = .ok (.aload_n 0, 1) := by decide +kernel
theorem dX3_moveLineToRows_41 : decode cX3_moveLineToRows 41 = .ok (.getfield 55, 3) := by decide +kernel
theorem dX3_moveLineToRows_44 : decode cX3_moveLineToRows 44 = .ok (.invokevirtual 65, 3) := by decide +kernel
theorem dX3_moveLineToRows_47 : decode cX3_moveLineToRows 47 = .ok (.aload_n 0, 1) := by decide +kernel
theorem dX3_moveLineToRows_48 : decode cX3_moveLineToRows 48 = .ok (.getfield 14, 3) := by decide +kernel
theorem dX3_moveLineToRows_51 : decode cX3_moveLineToRows 51 = .ok (.invokevirtual 58, 3) := by decide +kernel
theorem dX3_moveLineToRows_54 : decode cX3_moveLineToRows 54 = .ok (.invokestatic 69, 3) := by decide +kernel
theorem dX3_moveLineToRows_57 : decode cX3_moveLineToRows 57 = .ok (.aload_n 0, 1) := by decide +kernel
theorem dX3_moveLineToRows_58 : decode cX3_moveLineToRows 58 = .ok (.getfield 14, 3) := by decide +kernel
theorem dX3_moveLineToRows_61 : decode cX3_moveLineToRows 61 = .ok (.invokevirtual 75, 3) := by decide +kernel
theorem dX3_moveLineToRows_64 : decode cX3_moveLineToRows 64 = .ok (.aload_n 0, 1) := by decide +kernel
theorem dX3_moveLineToRows_65 : decode cX3_moveLineToRows 65 = .ok (.dup, 1) := by decide +kernel
theorem dX3_moveLineToRows_66 : decode cX3_moveLineToRows 66 = .ok (.getfield 55, 3) := by decide +kernel
theorem dX3_moveLineToRows_69 : decode cX3_moveLineToRows 69 = .ok (.iconst 1, 1) := by decide +kernel
theorem dX3_moveLineToRows_70 : decode cX3_moveLineToRows 70 = .ok (.iadd, 1) := by decide +kernel
theorem dX3_moveLineToRows_71 : decode cX3_moveLineToRows 71 = .ok (.putfield 55, 3) := by decide +kernel
theorem dX3_moveLineToRows_74 : decode cX3_moveLineToRows 74 = .ok (.aload_n 0, 1) := by decide +kernel
theorem dX3_moveLineToRows_75 : decode cX3_moveLineToRows 75 = .ok (.getfield 55, 3) := by decide +kernel
theorem dX3_moveLineToRows_78 : decode cX3_moveLineToRows 78 = .ok (.iconst 1, 1) := by decide +kernel
theorem dX3_moveLineToRows_79 : decode cX3_moveLineToRows 79 = .ok (.isub, 1) := by decide +kernel
theorem dX3_moveLineToRows_80 : decode cX3_moveLineToRows 80 = .ok (.ireturn, 1) := by decide +kernel
theorem dX3_rowStart_0 : decode cX3_rowStart 0 = .ok (.iload_n 1, 1) := by decide +kernel
theorem dX3_rowStart_1 : decode cX3_rowStart 1 = .ok (.bipush 60, 2) := by decide +kernel
theorem dX3_rowStart_3 : decode cX3_rowStart 3 = .ok (.imul, 1) := by decide +kernel
theorem dX3_rowStart_4 : decode cX3_rowStart 4 = .ok (.ireturn, 1) := by decide +kernel
theorem dX3_rowLength_0 : decode cX3_rowLength 0 = .ok (.iload_n 1, 1) := by decide +kernel
theorem dX3_rowLength_1 : decode cX3_rowLength 1 = .ok (.ifCond .lt 29, 3) := by decide +kernel
theorem dX3_rowLength_4 : decode cX3_rowLength 4 = .ok (.iload_n 1, 1) := by decide +kernel
theorem dX3_rowLength_5 : decode cX3_rowLength 5 = .ok (.aload_n 0, 1) := by decide +kernel
theorem dX3_rowLength_6 : decode cX3_rowLength 6 = .ok (.getfield 55, 3) := by decide +kernel
theorem dX3_rowLength_9 : decode cX3_rowLength 9 = .ok (.if_icmp .ge 21, 3) := by decide +kernel
theorem dX3_rowLength_12 : decode cX3_rowLength 12 = .ok (.iload_n 1, 1) := by decide +kernel
theorem dX3_rowLength_13 : decode cX3_rowLength 13 = .ok (.aload_n 0, 1) := by decide +kernel
theorem dX3_rowLength_14 : decode cX3_rowLength 14 = .ok (.getfield 33, 3) := by decide +kernel
theorem dX3_rowLength_17 : decode cX3_rowLength 17 = .ok (.arraylength, 1) := by decide +kernel
theorem dX3_rowLength_18 : decode cX3_rowLength 18 = .ok (.if_icmp .ge 12, 3) := by decide +kernel
theorem dX3_rowLength_21 : decode cX3_rowLength 21 = .ok (.aload_n 0, 1) := by decide +kernel
theorem dX3_rowLength_22 : decode cX3_rowLength 22 = .ok (.getfield 33, 3) := by decide +kernel
theorem dX3_rowLength_25 : decode cX3_rowLength 25 = .ok (.iload_n 1, 1) := by decide +kernel
theorem dX3_rowLength_26 : decode cX3_rowLength 26 = .ok (.iaload, 1) := by decide +kernel
theorem dX3_rowLength_27 : decode cX3_rowLength 27 = .ok (.goto 4, 3) := by decide +kernel
theorem dX3_rowLength_30 : decode cX3_rowLength 30 = .ok (.iconst 0, 1) := by decide +kernel
theorem dX3_rowLength_31 : decode cX3_rowLength 31 = .ok (.ireturn, 1) := by decide +kernel
theorem dX3_copyFrom_0 : decode cX3_copyFrom 0 = .ok (.aload_n 0, 1) := by decide +kernel
theorem dX3_copyFrom_1 : decode cX3_copyFrom 1 = .ok (.getfield 14, 3) := by decide +kernel
theorem dX3_copyFrom_4 : decode cX3_copyFrom 4 = .ok (.aload_n 1, 1) := by decide +kernel
theorem dX3_copyFrom_5 : decode cX3_copyFrom 5 = .ok (.getfield 14, 3) := by decide +kernel
theorem dX3_copyFrom_8 : decode cX3_copyFrom 8 = .ok (.invokevirtual 78, 3) := by decide +kernel
theorem dX3_copyFrom_11 : decode cX3_copyFrom 11 = .ok (.aload_n 0, 1) := by decide +kernel
theorem dX3_copyFrom_12 : decode cX3_copyFrom 12 = .ok (.getfield 20, 3) := by decide +kernel
theorem dX3_copyFrom_15 : decode cX3_copyFrom 15 = .ok (.aload_n 1, 1) := by decide +kernel
theorem dX3_copyFrom_16 : decode cX3_copyFrom 16 = .ok (.getfield 20, 3) := by decide +kernel
theorem dX3_copyFrom_19 : decode cX3_copyFrom 19 = .ok (.invokevirtual 78, 3) := by decide +kernel
theorem dX3_copyFrom_22 : decode cX3_copyFrom 22 = .ok (.aload_n 0, 1) := by decide +kernel
theorem dX3_copyFrom_23 : decode cX3_copyFrom 23 = .ok (.aload_n 1, 1) := by decide +kernel
theorem dX3_copyFrom_24 : decode cX3_copyFrom 24 = .ok (.getfield 47, 3) := by decide +kernel
theorem dX3_copyFrom_27 : decode cX3_copyFrom 27 = .ok (.putfield 47, 3) := by decide +kernel
theorem dX3_copyFrom_30 : decode cX3_copyFrom 30 = .ok (.iconst 0, 1) := by decide +kernel
theorem dX3_copyFrom_31 : decode cX3_copyFrom 31 = .ok (.istore_n 2, 1) := by decide +kernel
theorem dX3_copyFrom_32 : decode cX3_copyFrom 32 = .ok (.iload_n 2, 1) := by decide +kernel
theorem dX3_copyFrom_33 : decode cX3_copyFrom 33 = .ok (.bipush 6, 2) := by decide +kernel
theorem dX3_copyFrom_35 : decode cX3_copyFrom 35 = .ok (.if_icmp .ge 21, 3) := by decide +kernel
theorem dX3_copyFrom_38 : decode cX3_copyFrom 38 = .ok (.aload_n 0, 1) := by decide +kernel
theorem dX3_copyFrom_39 : decode cX3_copyFrom 39 = .ok (.getfield 25, 3) := by decide +kernel
theorem dX3_copyFrom_42 : decode cX3_copyFrom 42 = .ok (.iload_n 2, 1) := by decide +kernel
theorem dX3_copyFrom_43 : decode cX3_copyFrom 43 = .ok (.aload_n 1, 1) := by decide +kernel
theorem dX3_copyFrom_44 : decode cX3_copyFrom 44 = .ok (.getfield 25, 3) := by decide +kernel
theorem dX3_copyFrom_47 : decode cX3_copyFrom 47 = .ok (.iload_n 2, 1) := by decide +kernel
theorem dX3_copyFrom_48 : decode cX3_copyFrom 48 = .ok (.aaload, 1) := by decide +kernel
theorem dX3_copyFrom_49 : decode cX3_copyFrom 49 = .ok (.aastore, 1) := by decide +kernel
theorem dX3_copyFrom_50 : decode cX3_copyFrom 50 = .ok (.iinc 2 1, 3) := by decide +kernel
theorem dX3_copyFrom_53 : decode cX3_copyFrom 53 = .ok (.goto (-21), 3) := by decide +kernel
theorem dX3_copyFrom_56 : decode cX3_copyFrom 56 = .ok (.aload_n 0, 1) := by decide +kernel
theorem dX3_copyFrom_57 : decode cX3_copyFrom 57 = .ok (.aload_n 1, 1) := by decide +kernel
theorem dX3_copyFrom_58 : decode cX3_copyFrom 58 = .ok (.getfield 55, 3) := by decide +kernel
theorem dX3_copyFrom_61 : decode cX3_copyFrom 61 = .ok (.putfield 55, 3) := by decide +kernel
theorem dX3_copyFrom_64 : decode cX3_copyFrom 64 = .ok (.aload_n 1, 1) := by decide +kernel
theorem dX3_copyFrom_65 : decode cX3_copyFrom 65 = .ok (.getfield 33, 3) := by decide +kernel
theorem dX3_copyFrom_68 : decode cX3_copyFrom 68 = .ok (.iconst 0, 1) := by decide +kernel
theorem dX3_copyFrom_69 : decode cX3_copyFrom 69 = .ok (.aload_n 0, 1) := by decide +kernel
theorem dX3_copyFrom_70 : decode cX3_copyFrom 70 = .ok (.getfield 33, 3) := by decide +kernel
theorem dX3_copyFrom_73 : decode cX3_copyFrom 73 = .ok (.iconst 0, 1) := by decide +kernel
theorem dX3_copyFrom_74 : decode cX3_copyFrom 74 = .ok (.bipush 30, 2) := by decide +kernel
theorem dX3_copyFrom_76 : decode cX3_copyFrom 76 = .ok (.invokestatic 69, 3) := by decide +kernel
theorem dX3_copyFrom_79 : decode cX3_copyFrom 79 = .ok (.aload_n 1, 1) := by decide +kernel
theorem dX3_copyFrom_80 : decode cX3_copyFrom 80 = .ok (.getfield 29, 3) := by decide +kernel
theorem dX3_copyFrom_83 : decode cX3_copyFrom 83 = .ok (.iconst 0, 1) := by decide +kernel
theorem dX3_copyFrom_84 : decode cX3_copyFrom 84 = .ok (.aload_n 0, 1) := by decide +kernel
theorem dX3_copyFrom_85 : decode cX3_copyFrom 85 = .ok (.getfield 29, 3) := by decide +kernel
theorem dX3_copyFrom_88 : decode cX3_copyFrom 88 = .ok (.iconst 0, 1) := by decide +kernel
theorem dX3_copyFrom_89 : decode cX3_copyFrom 89 = .ok (.aload_n 0, 1) := by decide +kernel
theorem dX3_copyFrom_90 : decode cX3_copyFrom 90 = .ok (.getfield 29, 3) := by decide +kernel
theorem dX3_copyFrom_93 : decode cX3_copyFrom 93 = .ok (.arraylength, 1) := by decide +kernel
theorem dX3_copyFrom_94 : decode cX3_copyFrom 94 = .ok (.invokestatic 69, 3) := by decide +kernel
theorem dX3_copyFrom_97 : decode cX3_copyFrom 97 = .ok (.aload_n 1, 1) := by decide +kernel
theorem dX3_copyFrom_98 : decode cX3_copyFrom 98 = .ok (.getfield 36, 3) := by decide +kernel
theorem dX3_copyFrom_101 : decode cX3_copyFrom 101 = .ok (.iconst 0, 1) := by decide +kernel
theorem dX3_copyFrom_102 : decode cX3_copyFrom 102 = .ok (.aload_n 0, 1) := by decide +kernel
theorem dX3_copyFrom_103 : decode cX3_copyFrom 103 = .ok (.getfield 36, 3) := by decide +kernel
theorem dX3_copyFrom_106 : decode cX3_copyFrom 106 = .ok (.iconst 0, 1) := by decide +kernel
theorem dX3_copyFrom_107 : decode cX3_copyFrom 107 = .ok (.iconst 3, 1) := by decide +kernel
theorem dX3_copyFrom_108 : decode cX3_copyFrom 108 = .ok (.invokestatic 69, 3) := by decide +kernel
theorem dX3_copyFrom_111 : decode cX3_copyFrom 111 = .ok (.aload_n 1, 1) := by decide +kernel
theorem dX3_copyFrom_112 : decode cX3_copyFrom 112 = .ok (.getfield 40, 3) := by decide +kernel
theorem dX3_copyFrom_115 : decode cX3_copyFrom 115 = .ok (.iconst 0, 1) := by decide +kernel
theorem dX3_copyFrom_116 : decode cX3_copyFrom 116 = .ok (.aload_n 0, 1) := by decide +kernel
theorem dX3_copyFrom_117 : decode cX3_copyFrom 117 = .ok (.getfield 40, 3) := by decide +kernel
theorem dX3_copyFrom_120 : decode cX3_copyFrom 120 = .ok (.iconst 0, 1) := by decide +kernel
theorem dX3_copyFrom_121 : decode cX3_copyFrom 121 = .ok (.iconst 3, 1) := by decide +kernel
theorem dX3_copyFrom_122 : decode cX3_copyFrom 122 = .ok (.invokestatic 69, 3) := by decide +kernel
theorem dX3_copyFrom_125 : decode cX3_copyFrom 125 = .ok (.return_, 1) := by decide +kernel
theorem dX4_init_0 : decode cX4_init 0 = .ok (.aload_n 0, 1) := by decide +kernel
theorem dX4_init_1 : decode cX4_init 1 = .ok (.invokespecial 3, 3) := by decide +kernel
theorem dX4_init_4 : decode cX4_init 4 = .ok (.aload_n 0, 1) := by decide +kernel
theorem dX4_init_5 : decode cX4_init 5 = .ok (.iload_n 1, 1) := by decide +kernel
theorem dX4_init_6 : decode cX4_init 6 = .ok (.iconst 0, 1) := by decide +kernel
theorem dX4_init_7 : decode cX4_init 7 = .ok (.invokestatic 9, 3) := by decide +kernel
theorem dX4_init_10 : decode cX4_init 10 = .ok (.newarray .int, 2) := by decide +kernel
theorem dX4_init_12 : decode cX4_init 12 = .ok (.putfield 15, 3) := by decide +kernel
theorem dX4_init_15 : decode cX4_init 15 = .ok (.return_, 1) := by decide +kernel
theorem dX4_length_0 : decode cX4_length 0 = .ok (.aload_n 0, 1) := by decide +kernel
theorem dX4_length_1 : decode cX4_length 1 = .ok (.getfield 21, 3) := by decide +kernel
theorem dX4_length_4 : decode cX4_length 4 = .ok (.ireturn, 1) := by decide +kernel
theorem dX4_byteAt_0 : decode cX4_byteAt 0 = .ok (.iload_n 1, 1) := by decide +kernel
theorem dX4_byteAt_1 : decode cX4_byteAt 1 = .ok (.ifCond .lt 20, 3) := by decide +kernel
theorem dX4_byteAt_4 : decode cX4_byteAt 4 = .ok (.iload_n 1, 1) := by decide +kernel
theorem dX4_byteAt_5 : decode cX4_byteAt 5 = .ok (.aload_n 0, 1) := by decide +kernel
theorem dX4_byteAt_6 : decode cX4_byteAt 6 = .ok (.getfield 21, 3) := by decide +kernel
theorem dX4_byteAt_9 : decode cX4_byteAt 9 = .ok (.if_icmp .ge 12, 3) := by decide +kernel
theorem dX4_byteAt_12 : decode cX4_byteAt 12 = .ok (.aload_n 0, 1) := by decide +kernel
theorem dX4_byteAt_13 : decode cX4_byteAt 13 = .ok (.getfield 15, 3) := by decide +kernel
theorem dX4_byteAt_16 : decode cX4_byteAt 16 = .ok (.iload_n 1, 1) := by decide +kernel
theorem dX4_byteAt_17 : decode cX4_byteAt 17 = .ok (.iaload, 1) := by decide +kernel
theorem dX4_byteAt_18 : decode cX4_byteAt 18 = .ok (.goto 4, 3) := by decide +kernel
theorem dX4_byteAt_21 : decode cX4_byteAt 21 = .ok (.iconst (-1), 1) := by decide +kernel
theorem dX4_byteAt_22 : decode cX4_byteAt 22 = .ok (.ireturn, 1) := by decide +kernel
theorem dX4_add_0 : decode cX4_add 0 = .ok (.aload_n 0, 1) := by decide +kernel
theorem dX4_add_1 : decode cX4_add 1 = .ok (.getfield 21, 3) := by decide +kernel
theorem dX4_add_4 : decode cX4_add 4 = .ok (.aload_n 0, 1) := by decide +kernel
theorem dX4_add_5 : decode cX4_add 5 = .ok (.getfield 15, 3) := by decide +kernel
theorem dX4_add_8 : decode cX4_add 8 = .ok (.arraylength, 1) := by decide +kernel
theorem dX4_add_9 : decode cX4_add 9 = .ok (.if_icmp .ge 23, 3) := by decide +kernel
theorem dX4_add_12 : decode cX4_add 12 = .ok (.aload_n 0, 1) := by decide +kernel
theorem dX4_add_13 : decode cX4_add 13 = .ok (.getfield 15, 3) := by decide +kernel
theorem dX4_add_16 : decode cX4_add 16 = .ok (.aload_n 0, 1) := by decide +kernel
theorem dX4_add_17 : decode cX4_add 17 = .ok (.getfield 21, 3) := by decide +kernel
theorem dX4_add_20 : decode cX4_add 20 = .ok (.iload_n 1, 1) := by decide +kernel
theorem dX4_add_21 : decode cX4_add 21 = .ok (.iastore, 1) := by decide +kernel
theorem dX4_add_22 : decode cX4_add 22 = .ok (.aload_n 0, 1) := by decide +kernel
theorem dX4_add_23 : decode cX4_add 23 = .ok (.dup, 1) := by decide +kernel
theorem dX4_add_24 : decode cX4_add 24 = .ok (.getfield 21, 3) := by decide +kernel
theorem dX4_add_27 : decode cX4_add 27 = .ok (.iconst 1, 1) := by decide +kernel
theorem dX4_add_28 : decode cX4_add 28 = .ok (.iadd, 1) := by decide +kernel
theorem dX4_add_29 : decode cX4_add 29 = .ok (.putfield 21, 3) := by decide +kernel
theorem dX4_add_32 : decode cX4_add 32 = .ok (.return_, 1) := by decide +kernel
theorem dX4_addDigits_0 : decode cX4_addDigits 0 = .ok (.iload_n 2, 1) := by decide +kernel
theorem dX4_addDigits_1 : decode cX4_addDigits 1 = .ok (.iconst 1, 1) := by decide +kernel
theorem dX4_addDigits_2 : decode cX4_addDigits 2 = .ok (.isub, 1) := by decide +kernel
theorem dX4_addDigits_3 : decode cX4_addDigits 3 = .ok (.istore_n 3, 1) := by decide +kernel
theorem dX4_addDigits_4 : decode cX4_addDigits 4 = .ok (.iload_n 3, 1) := by decide +kernel
theorem dX4_addDigits_5 : decode cX4_addDigits 5 = .ok (.ifCond .lt 22, 3) := by decide +kernel
theorem dX4_addDigits_8 : decode cX4_addDigits 8 = .ok (.aload_n 0, 1) := by decide +kernel
theorem dX4_addDigits_9 : decode cX4_addDigits 9 = .ok (.bipush 48, 2) := by decide +kernel
theorem dX4_addDigits_11 : decode cX4_addDigits 11 = .ok (.iload_n 1, 1) := by decide +kernel
theorem dX4_addDigits_12 : decode cX4_addDigits 12 = .ok (.i2l, 1) := by decide +kernel
theorem dX4_addDigits_13 : decode cX4_addDigits 13 = .ok (.iload_n 3, 1) := by decide +kernel
theorem dX4_addDigits_14 : decode cX4_addDigits 14 = .ok (.invokestatic 25, 3) := by decide +kernel
theorem dX4_addDigits_17 : decode cX4_addDigits 17 = .ok (.iadd, 1) := by decide +kernel
theorem dX4_addDigits_18 : decode cX4_addDigits 18 = .ok (.invokevirtual 31, 3) := by decide +kernel
theorem dX4_addDigits_21 : decode cX4_addDigits 21 = .ok (.iinc 3 (-1), 3) := by decide +kernel
theorem dX4_addDigits_24 : decode cX4_addDigits 24 = .ok (.goto (-20), 3) := by decide +kernel
theorem dX4_addDigits_27 : decode cX4_addDigits 27 = .ok (.return_, 1) := by decide +kernel
theorem dX4_shorten_0 : decode cX4_shorten 0 = .ok (.aload_n 0, 1) := by decide +kernel
theorem dX4_shorten_1 : decode cX4_shorten 1 = .ok (.aload_n 0, 1) := by decide +kernel
theorem dX4_shorten_2 : decode cX4_shorten 2 = .ok (.getfield 21, 3) := by decide +kernel
theorem dX4_shorten_5 : decode cX4_shorten 5 = .ok (.iload_n 1, 1) := by decide +kernel
theorem dX4_shorten_6 : decode cX4_shorten 6 = .ok (.iconst 0, 1) := by decide +kernel
theorem dX4_shorten_7 : decode cX4_shorten 7 = .ok (.invokestatic 9, 3) := by decide +kernel
theorem dX4_shorten_10 : decode cX4_shorten 10 = .ok (.isub, 1) := by decide +kernel
theorem dX4_shorten_11 : decode cX4_shorten 11 = .ok (.iconst 0, 1) := by decide +kernel
theorem dX4_shorten_12 : decode cX4_shorten 12 = .ok (.invokestatic 9, 3) := by decide +kernel
theorem dX4_shorten_15 : decode cX4_shorten 15 = .ok (.putfield 21, 3) := by decide +kernel
theorem dX4_shorten_18 : decode cX4_shorten 18 = .ok (.return_, 1) := by decide +kernel
theorem dX4_empty_0 : decode cX4_empty 0 = .ok (.aload_n 0, 1) := by decide +kernel
theorem dX4_empty_1 : decode cX4_empty 1 = .ok (.iconst 0, 1) := by decide +kernel
theorem dX4_empty_2 : decode cX4_empty 2 = .ok (.putfield 21, 3) := by decide +kernel
theorem dX4_empty_5 : decode cX4_empty 5 = .ok (.return_, 1) := by decide +kernel
theorem dX4_copyFrom_0 : decode cX4_copyFrom 0 = .ok (.aload_n 0, 1) := by decide +kernel
theorem dX4_copyFrom_1 : decode cX4_copyFrom 1 = .ok (.aload_n 1, 1) := by decide +kernel
theorem dX4_copyFrom_2 : decode cX4_copyFrom 2 = .ok (.getfield 21, 3) := by decide +kernel
theorem dX4_copyFrom_5 : decode cX4_copyFrom 5 = .ok (.aload_n 0, 1) := by decide +kernel
theorem dX4_copyFrom_6 : decode cX4_copyFrom 6 = .ok (.getfield 15, 3) := by decide +kernel
theorem dX4_copyFrom_9 : decode cX4_copyFrom 9 = .ok (.arraylength, 1) := by decide +kernel
theorem dX4_copyFrom_10 : decode cX4_copyFrom 10 = .ok (.invokestatic 35, 3) := by decide +kernel
theorem dX4_copyFrom_13 : decode cX4_copyFrom 13 = .ok (.putfield 21, 3) := by decide +kernel
theorem dX4_copyFrom_16 : decode cX4_copyFrom 16 = .ok (.aload_n 1, 1) := by decide +kernel
theorem dX4_copyFrom_17 : decode cX4_copyFrom 17 = .ok (.getfield 15, 3) := by decide +kernel
theorem dX4_copyFrom_20 : decode cX4_copyFrom 20 = .ok (.iconst 0, 1) := by decide +kernel
theorem dX4_copyFrom_21 : decode cX4_copyFrom 21 = .ok (.aload_n 0, 1) := by decide +kernel
theorem dX4_copyFrom_22 : decode cX4_copyFrom 22 = .ok (.getfield 15, 3) := by decide +kernel
theorem dX4_copyFrom_25 : decode cX4_copyFrom 25 = .ok (.iconst 0, 1) := by decide +kernel
theorem dX4_copyFrom_26 : decode cX4_copyFrom 26 = .ok (.aload_n 0, 1) := by decide +kernel
theorem dX4_copyFrom_27 : decode cX4_copyFrom 27 = .ok (.getfield 21, 3) := by decide +kernel
theorem dX4_copyFrom_30 : decode cX4_copyFrom 30 = .ok (.invokestatic 38, 3) := by decide +kernel
theorem dX4_copyFrom_33 : decode cX4_copyFrom 33 = .ok (.return_, 1) := by decide +kernel
theorem dX4_sameAs_0 : decode cX4_sameAs 0 = .ok (.aload_n 0, 1) := by decide +kernel
theorem dX4_sameAs_1 : decode cX4_sameAs 1 = .ok (.getfield 21, 3) := by decide +kernel
theorem dX4_sameAs_4 : decode cX4_sameAs 4 = .ok (.aload_n 1, 1) := by decide +kernel
theorem dX4_sameAs_5 : decode cX4_sameAs 5 = .ok (.getfield 21, 3) := by decide +kernel
theorem dX4_sameAs_8 : decode cX4_sameAs 8 = .ok (.if_icmp .eq 5, 3) := by decide +kernel
theorem dX4_sameAs_11 : decode cX4_sameAs 11 = .ok (.iconst 0, 1) := by decide +kernel
theorem dX4_sameAs_12 : decode cX4_sameAs 12 = .ok (.ireturn, 1) := by decide +kernel
theorem dX4_sameAs_13 : decode cX4_sameAs 13 = .ok (.iconst 0, 1) := by decide +kernel
theorem dX4_sameAs_14 : decode cX4_sameAs 14 = .ok (.istore_n 2, 1) := by decide +kernel
theorem dX4_sameAs_15 : decode cX4_sameAs 15 = .ok (.iload_n 2, 1) := by decide +kernel
theorem dX4_sameAs_16 : decode cX4_sameAs 16 = .ok (.aload_n 0, 1) := by decide +kernel
theorem dX4_sameAs_17 : decode cX4_sameAs 17 = .ok (.getfield 21, 3) := by decide +kernel
theorem dX4_sameAs_20 : decode cX4_sameAs 20 = .ok (.if_icmp .ge 25, 3) := by decide +kernel
theorem dX4_sameAs_23 : decode cX4_sameAs 23 = .ok (.aload_n 0, 1) := by decide +kernel
theorem dX4_sameAs_24 : decode cX4_sameAs 24 = .ok (.getfield 15, 3) := by decide +kernel
theorem dX4_sameAs_27 : decode cX4_sameAs 27 = .ok (.iload_n 2, 1) := by decide +kernel
theorem dX4_sameAs_28 : decode cX4_sameAs 28 = .ok (.iaload, 1) := by decide +kernel
theorem dX4_sameAs_29 : decode cX4_sameAs 29 = .ok (.aload_n 1, 1) := by decide +kernel
theorem dX4_sameAs_30 : decode cX4_sameAs 30 = .ok (.iload_n 2, 1) := by decide +kernel
theorem dX4_sameAs_31 : decode cX4_sameAs 31 = .ok (.invokevirtual 44, 3) := by decide +kernel
theorem dX4_sameAs_34 : decode cX4_sameAs 34 = .ok (.if_icmp .eq 5, 3) := by decide +kernel
theorem dX4_sameAs_37 : decode cX4_sameAs 37 = .ok (.iconst 0, 1) := by decide +kernel
theorem dX4_sameAs_38 : decode cX4_sameAs 38 = .ok (.ireturn, 1) := by decide +kernel
theorem dX4_sameAs_39 : decode cX4_sameAs 39 = .ok (.iinc 2 1, 3) := by decide +kernel
theorem dX4_sameAs_42 : decode cX4_sameAs 42 = .ok (.goto (-27), 3) := by decide +kernel
theorem dX4_sameAs_45 : decode cX4_sameAs 45 = .ok (.iconst 1, 1) := by decide +kernel
theorem dX4_sameAs_46 : decode cX4_sameAs 46 = .ok (.ireturn, 1) := by decide +kernel
theorem dX5_write_0 : decode cX5_write 0 = .ok (.aload_n 0, 1) := by decide +kernel
theorem dX5_write_1 : decode cX5_write 1 = .ok (.invokevirtual 9, 3) := by decide +kernel
theorem dX5_write_4 : decode cX5_write 4 = .ok (.iload_n 1, 1) := by decide +kernel
theorem dX5_write_5 : decode cX5_write 5 = .ok (.ifCond .ne 9, 3) := by decide +kernel
theorem dX5_write_8 : decode cX5_write 8 = .ok (.aload_n 0, 1) := by decide +kernel
theorem dX5_write_9 : decode cX5_write 9 = .ok (.iconst 0, 1) := by decide +kernel
theorem dX5_write_10 : decode cX5_write 10 = .ok (.invokestatic 14, 3) := by decide +kernel
theorem dX5_write_13 : decode cX5_write 13 = .ok (.return_, 1) := by decide +kernel
theorem dX5_write_14 : decode cX5_write 14 = .ok (.aload_n 0, 1) := by decide +kernel
theorem dX5_write_15 : decode cX5_write 15 = .ok (.iload_n 1, 1) := by decide +kernel
theorem dX5_write_16 : decode cX5_write 16 = .ok (.ldc 20, 2) := by decide +kernel
theorem dX5_write_18 : decode cX5_write 18 = .ok (.idiv, 1) := by decide +kernel
theorem dX5_write_19 : decode cX5_write 19 = .ok (.bipush 30, 2) := by decide +kernel
theorem dX5_write_21 : decode cX5_write 21 = .ok (.invokestatic 21, 3) := by decide +kernel
theorem dX5_write_24 : decode cX5_write 24 = .ok (.aload_n 0, 1) := by decide +kernel
theorem dX5_write_25 : decode cX5_write 25 = .ok (.iload_n 1, 1) := by decide +kernel
theorem dX5_write_26 : decode cX5_write 26 = .ok (.sipush 1000, 3) := by decide +kernel
theorem dX5_write_29 : decode cX5_write 29 = .ok (.idiv, 1) := by decide +kernel
theorem dX5_write_30 : decode cX5_write 30 = .ok (.sipush 1000, 3) := by decide +kernel
theorem dX5_write_33 : decode cX5_write 33 = .ok (.irem, 1) := by decide +kernel
theorem dX5_write_34 : decode cX5_write 34 = .ok (.bipush 29, 2) := by decide +kernel
theorem dX5_write_36 : decode cX5_write 36 = .ok (.invokestatic 21, 3) := by decide +kernel
theorem dX5_write_39 : decode cX5_write 39 = .ok (.aload_n 0, 1) := by decide +kernel
theorem dX5_write_40 : decode cX5_write 40 = .ok (.iload_n 1, 1) := by decide +kernel
theorem dX5_write_41 : decode cX5_write 41 = .ok (.sipush 1000, 3) := by decide +kernel
theorem dX5_write_44 : decode cX5_write 44 = .ok (.irem, 1) := by decide +kernel
theorem dX5_write_45 : decode cX5_write 45 = .ok (.iconst (-1), 1) := by decide +kernel
theorem dX5_write_46 : decode cX5_write 46 = .ok (.invokestatic 21, 3) := by decide +kernel
theorem dX5_write_49 : decode cX5_write 49 = .ok (.return_, 1) := by decide +kernel
theorem dX5_addPart_0 : decode cX5_addPart 0 = .ok (.iload_n 1, 1) := by decide +kernel
theorem dX5_addPart_1 : decode cX5_addPart 1 = .ok (.ifCond .ne 4, 3) := by decide +kernel
theorem dX5_addPart_4 : decode cX5_addPart 4 = .ok (.return_, 1) := by decide +kernel
theorem dX5_addPart_5 : decode cX5_addPart 5 = .ok (.iload_n 1, 1) := by decide +kernel
theorem dX5_addPart_6 : decode cX5_addPart 6 = .ok (.bipush 100, 2) := by decide +kernel
theorem dX5_addPart_8 : decode cX5_addPart 8 = .ok (.if_icmp .lt 17, 3) := by decide +kernel
theorem dX5_addPart_11 : decode cX5_addPart 11 = .ok (.aload_n 0, 1) := by decide +kernel
theorem dX5_addPart_12 : decode cX5_addPart 12 = .ok (.iload_n 1, 1) := by decide +kernel
theorem dX5_addPart_13 : decode cX5_addPart 13 = .ok (.bipush 100, 2) := by decide +kernel
theorem dX5_addPart_15 : decode cX5_addPart 15 = .ok (.idiv, 1) := by decide +kernel
theorem dX5_addPart_16 : decode cX5_addPart 16 = .ok (.invokestatic 14, 3) := by decide +kernel
theorem dX5_addPart_19 : decode cX5_addPart 19 = .ok (.aload_n 0, 1) := by decide +kernel
theorem dX5_addPart_20 : decode cX5_addPart 20 = .ok (.bipush 28, 2) := by decide +kernel
theorem dX5_addPart_22 : decode cX5_addPart 22 = .ok (.invokestatic 14, 3) := by decide +kernel
theorem dX5_addPart_25 : decode cX5_addPart 25 = .ok (.iload_n 1, 1) := by decide +kernel
theorem dX5_addPart_26 : decode cX5_addPart 26 = .ok (.bipush 100, 2) := by decide +kernel
theorem dX5_addPart_28 : decode cX5_addPart 28 = .ok (.irem, 1) := by decide +kernel
theorem dX5_addPart_29 : decode cX5_addPart 29 = .ok (.istore_n 3, 1) := by decide +kernel
theorem dX5_addPart_30 : decode cX5_addPart 30 = .ok (.iload_n 3, 1) := by decide +kernel
theorem dX5_addPart_31 : decode cX5_addPart 31 = .ok (.bipush 20, 2) := by decide +kernel
theorem dX5_addPart_33 : decode cX5_addPart 33 = .ok (.if_icmp .lt 21, 3) := by decide +kernel
theorem dX5_addPart_36 : decode cX5_addPart 36 = .ok (.aload_n 0, 1) := by decide +kernel
theorem dX5_addPart_37 : decode cX5_addPart 37 = .ok (.bipush 20, 2) := by decide +kernel
theorem dX5_addPart_39 : decode cX5_addPart 39 = .ok (.iload_n 3, 1) := by decide +kernel
theorem dX5_addPart_40 : decode cX5_addPart 40 = .ok (.bipush 10, 2) := by decide +kernel
theorem dX5_addPart_42 : decode cX5_addPart 42 = .ok (.idiv, 1) := by decide +kernel
theorem dX5_addPart_43 : decode cX5_addPart 43 = .ok (.iadd, 1) := by decide +kernel
theorem dX5_addPart_44 : decode cX5_addPart 44 = .ok (.iconst 2, 1) := by decide +kernel
theorem dX5_addPart_45 : decode cX5_addPart 45 = .ok (.isub, 1) := by decide +kernel
theorem dX5_addPart_46 : decode cX5_addPart 46 = .ok (.invokestatic 14, 3) := by decide +kernel
theorem dX5_addPart_49 : decode cX5_addPart 49 = .ok (.iload_n 3, 1) := by decide +kernel
theorem dX5_addPart_50 : decode cX5_addPart 50 = .ok (.bipush 10, 2) := by decide +kernel
theorem dX5_addPart_52 : decode cX5_addPart 52 = .ok (.irem, 1) := by decide +kernel
theorem dX5_addPart_53 : decode cX5_addPart 53 = .ok (.istore_n 3, 1) := by decide +kernel
theorem dX5_addPart_54 : decode cX5_addPart 54 = .ok (.iload_n 3, 1) := by decide +kernel
theorem dX5_addPart_55 : decode cX5_addPart 55 = .ok (.ifCond .le 8, 3) := by decide +kernel
theorem dX5_addPart_58 : decode cX5_addPart 58 = .ok (.aload_n 0, 1) := by decide +kernel
theorem dX5_addPart_59 : decode cX5_addPart 59 = .ok (.iload_n 3, 1) := by decide +kernel
theorem dX5_addPart_60 : decode cX5_addPart 60 = .ok (.invokestatic 14, 3) := by decide +kernel
theorem dX5_addPart_63 : decode cX5_addPart 63 = .ok (.iload_n 2, 1) := by decide +kernel
theorem dX5_addPart_64 : decode cX5_addPart 64 = .ok (.iconst (-1), 1) := by decide +kernel
theorem dX5_addPart_65 : decode cX5_addPart 65 = .ok (.if_icmp .eq 8, 3) := by decide +kernel
theorem dX5_addPart_68 : decode cX5_addPart 68 = .ok (.aload_n 0, 1) := by decide +kernel
theorem dX5_addPart_69 : decode cX5_addPart 69 = .ok (.iload_n 2, 1) := by decide +kernel
theorem dX5_addPart_70 : decode cX5_addPart 70 = .ok (.invokestatic 14, 3) := by decide +kernel
theorem dX5_addPart_73 : decode cX5_addPart 73 = .ok (.return_, 1) := by decide +kernel
theorem dX5_addName_0 : decode cX5_addName 0 = .ok (.aload_n 0, 1) := by decide +kernel
theorem dX5_addName_1 : decode cX5_addName 1 = .ok (.invokevirtual 25, 3) := by decide +kernel
theorem dX5_addName_4 : decode cX5_addName 4 = .ok (.ifCond .le 9, 3) := by decide +kernel
theorem dX5_addName_7 : decode cX5_addName 7 = .ok (.aload_n 0, 1) := by decide +kernel
theorem dX5_addName_8 : decode cX5_addName 8 = .ok (.bipush 32, 2) := by decide +kernel
theorem dX5_addName_10 : decode cX5_addName 10 = .ok (.invokevirtual 29, 3) := by decide +kernel
theorem dX5_addName_13 : decode cX5_addName 13 = .ok (.iload_n 1, 1) := by decide +kernel
theorem dX5_addName_14 : decode cX5_addName 14 = .ok (.invokestatic 33, 3) := by decide +kernel
theorem dX5_addName_17 : decode cX5_addName 17 = .ok (.astore_n 2, 1) := by decide +kernel
theorem dX5_addName_18 : decode cX5_addName 18 = .ok (.iconst 0, 1) := by decide +kernel
theorem dX5_addName_19 : decode cX5_addName 19 = .ok (.istore_n 3, 1) := by decide +kernel
theorem dX5_addName_20 : decode cX5_addName 20 = .ok (.iload_n 3, 1) := by decide +kernel
theorem dX5_addName_21 : decode cX5_addName 21 = .ok (.aload_n 2, 1) := by decide +kernel
theorem dX5_addName_22 : decode cX5_addName 22 = .ok (.invokevirtual 37, 3) := by decide +kernel
theorem dX5_addName_25 : decode cX5_addName 25 = .ok (.if_icmp .ge 18, 3) := by decide +kernel
theorem dX5_addName_28 : decode cX5_addName 28 = .ok (.aload_n 0, 1) := by decide +kernel
theorem dX5_addName_29 : decode cX5_addName 29 = .ok (.aload_n 2, 1) := by decide +kernel
theorem dX5_addName_30 : decode cX5_addName 30 = .ok (.iload_n 3, 1) := by decide +kernel
theorem dX5_addName_31 : decode cX5_addName 31 = .ok (.invokevirtual 40, 3) := by decide +kernel
theorem dX5_addName_34 : decode cX5_addName 34 = .ok (.invokevirtual 29, 3) := by decide +kernel
theorem dX5_addName_37 : decode cX5_addName 37 = .ok (.iinc 3 1, 3) := by decide +kernel
theorem dX5_addName_40 : decode cX5_addName 40 = .ok (.goto (-20), 3) := by decide +kernel
theorem dX5_addName_43 : decode cX5_addName 43 = .ok (.return_, 1) := by decide +kernel
theorem dX5_meaning_0 : decode cX5_meaning 0 = .ok (.iconst 0, 1) := by decide +kernel
theorem dX5_meaning_1 : decode cX5_meaning 1 = .ok (.istore_n 1, 1) := by decide +kernel
theorem dX5_meaning_2 : decode cX5_meaning 2 = .ok (.iconst 0, 1) := by decide +kernel
theorem dX5_meaning_3 : decode cX5_meaning 3 = .ok (.istore_n 2, 1) := by decide +kernel
theorem dX5_meaning_4 : decode cX5_meaning 4 = .ok (.iconst 0, 1) := by decide +kernel
theorem dX5_meaning_5 : decode cX5_meaning 5 = .ok (.istore_n 3, 1) := by decide +kernel
theorem dX5_meaning_6 : decode cX5_meaning 6 = .ok (.iconst 0, 1) := by decide +kernel
theorem dX5_meaning_7 : decode cX5_meaning 7 = .ok (.istore 4, 2) := by decide +kernel
theorem dX5_meaning_9 : decode cX5_meaning 9 = .ok (.iload 4, 2) := by decide +kernel
theorem dX5_meaning_11 : decode cX5_meaning 11 = .ok (.aload_n 0, 1) := by decide +kernel
theorem dX5_meaning_12 : decode cX5_meaning 12 = .ok (.invokevirtual 25, 3) := by decide +kernel
theorem dX5_meaning_15 : decode cX5_meaning 15 = .ok (.if_icmp .gt 133, 3) := by decide +kernel
theorem dX5_meaning_18 : decode cX5_meaning 18 = .ok (.iload 4, 2) := by decide +kernel
theorem dX5_meaning_20 : decode cX5_meaning 20 = .ok (.aload_n 0, 1) := by decide +kernel
theorem dX5_meaning_21 : decode cX5_meaning 21 = .ok (.invokevirtual 25, 3) := by decide +kernel
theorem dX5_meaning_24 : decode cX5_meaning 24 = .ok (.if_icmp .ge 17, 3) := by decide +kernel
theorem dX5_meaning_27 : decode cX5_meaning 27 = .ok (.aload_n 0, 1) := by decide +kernel
theorem dX5_meaning_28 : decode cX5_meaning 28 = .ok (.iload 4, 2) := by decide +kernel
theorem dX5_meaning_30 : decode cX5_meaning 30 = .ok (.invokevirtual 44, 3) := by decide +kernel
theorem dX5_meaning_33 : decode cX5_meaning 33 = .ok (.bipush 32, 2) := by decide +kernel
theorem dX5_meaning_35 : decode cX5_meaning 35 = .ok (.if_icmp .eq 6, 3) := by decide +kernel
theorem dX5_meaning_38 : decode cX5_meaning 38 = .ok (.goto 104, 3) := by decide +kernel
theorem dX5_meaning_41 : decode cX5_meaning 41 = .ok (.aload_n 0, 1) := by decide +kernel
theorem dX5_meaning_42 : decode cX5_meaning 42 = .ok (.iload_n 3, 1) := by decide +kernel
theorem dX5_meaning_43 : decode cX5_meaning 43 = .ok (.iload 4, 2) := by decide +kernel
theorem dX5_meaning_45 : decode cX5_meaning 45 = .ok (.invokestatic 48, 3) := by decide +kernel
theorem dX5_meaning_48 : decode cX5_meaning 48 = .ok (.istore 5, 2) := by decide +kernel
theorem dX5_meaning_50 : decode cX5_meaning 50 = .ok (.iload 5, 2) := by decide +kernel
theorem dX5_meaning_52 : decode cX5_meaning 52 = .ok (.iconst (-1), 1) := by decide +kernel
theorem dX5_meaning_53 : decode cX5_meaning 53 = .ok (.if_icmp .ne 5, 3) := by decide +kernel
theorem dX5_meaning_56 : decode cX5_meaning 56 = .ok (.iconst (-1), 1) := by decide +kernel
theorem dX5_meaning_57 : decode cX5_meaning 57 = .ok (.ireturn, 1) := by decide +kernel
theorem dX5_meaning_58 : decode cX5_meaning 58 = .ok (.iload 5, 2) := by decide +kernel
theorem dX5_meaning_60 : decode cX5_meaning 60 = .ok (.bipush 29, 2) := by decide +kernel
theorem dX5_meaning_62 : decode cX5_meaning 62 = .ok (.if_icmp .eq 10, 3) := by decide +kernel
theorem dX5_meaning_65 : decode cX5_meaning 65 = .ok (.iload 5, 2) := by decide +kernel
theorem dX5_meaning_67 : decode cX5_meaning 67 = .ok (.bipush 30, 2) := by decide +kernel
theorem dX5_meaning_69 : decode cX5_meaning 69 = .ok (.if_icmp .ne 28, 3) := by decide +kernel
theorem dX5_meaning_72 : decode cX5_meaning 72 = .ok (.iload_n 1, 1) := by decide +kernel
theorem dX5_meaning_73 : decode cX5_meaning 73 = .ok (.iload_n 2, 1) := by decide +kernel
theorem dX5_meaning_74 : decode cX5_meaning 74 = .ok (.iload 5, 2) := by decide +kernel
theorem dX5_meaning_76 : decode cX5_meaning 76 = .ok (.bipush 30, 2) := by decide +kernel
theorem dX5_meaning_78 : decode cX5_meaning 78 = .ok (.if_icmp .ne 8, 3) := by decide +kernel
theorem dX5_meaning_81 : decode cX5_meaning 81 = .ok (.ldc 20, 2) := by decide +kernel
theorem dX5_meaning_83 : decode cX5_meaning 83 = .ok (.goto 6, 3) := by decide +kernel
theorem dX5_meaning_86 : decode cX5_meaning 86 = .ok (.sipush 1000, 3) := by decide +kernel
theorem dX5_meaning_89 : decode cX5_meaning 89 = .ok (.imul, 1) := by decide +kernel
theorem dX5_meaning_90 : decode cX5_meaning 90 = .ok (.iadd, 1) := by decide +kernel
theorem dX5_meaning_91 : decode cX5_meaning 91 = .ok (.istore_n 1, 1) := by decide +kernel
theorem dX5_meaning_92 : decode cX5_meaning 92 = .ok (.iconst 0, 1) := by decide +kernel
theorem dX5_meaning_93 : decode cX5_meaning 93 = .ok (.istore_n 2, 1) := by decide +kernel
theorem dX5_meaning_94 : decode cX5_meaning 94 = .ok (.goto 43, 3) := by decide +kernel
theorem dX5_meaning_97 : decode cX5_meaning 97 = .ok (.iload 5, 2) := by decide +kernel
theorem dX5_meaning_99 : decode cX5_meaning 99 = .ok (.bipush 28, 2) := by decide +kernel
theorem dX5_meaning_101 : decode cX5_meaning 101 = .ok (.if_icmp .ne 11, 3) := by decide +kernel
theorem dX5_meaning_104 : decode cX5_meaning 104 = .ok (.iload_n 2, 1) := by decide +kernel
theorem dX5_meaning_105 : decode cX5_meaning 105 = .ok (.bipush 100, 2) := by decide +kernel
theorem dX5_meaning_107 : decode cX5_meaning 107 = .ok (.imul, 1) := by decide +kernel
theorem dX5_meaning_108 : decode cX5_meaning 108 = .ok (.istore_n 2, 1) := by decide +kernel
theorem dX5_meaning_109 : decode cX5_meaning 109 = .ok (.goto 28, 3) := by decide +kernel
theorem dX5_meaning_112 : decode cX5_meaning 112 = .ok (.iload_n 2, 1) := by decide +kernel
theorem dX5_meaning_113 : decode cX5_meaning 113 = .ok (.iload 5, 2) := by decide +kernel
theorem dX5_meaning_115 : decode cX5_meaning 115 = .ok (.bipush 20, 2) := by decide +kernel
theorem dX5_meaning_117 : decode cX5_meaning 117 = .ok (.if_icmp .ge 8, 3) := by decide +kernel
theorem dX5_meaning_120 : decode cX5_meaning 120 = .ok (.iload 5, 2) := by decide +kernel
theorem dX5_meaning_122 : decode cX5_meaning 122 = .ok (.goto 13, 3) := by decide +kernel
theorem dX5_meaning_125 : decode cX5_meaning 125 = .ok (.iload 5, 2) := by decide +kernel
theorem dX5_meaning_127 : decode cX5_meaning 127 = .ok (.bipush 20, 2) := by decide +kernel
theorem dX5_meaning_129 : decode cX5_meaning 129 = .ok (.isub, 1) := by decide +kernel
theorem dX5_meaning_130 : decode cX5_meaning 130 = .ok (.iconst 2, 1) := by decide +kernel
theorem dX5_meaning_131 : decode cX5_meaning 131 = .ok (.iadd, 1) := by decide +kernel
theorem dX5_meaning_132 : decode cX5_meaning 132 = .ok (.bipush 10, 2) := by decide +kernel
theorem dX5_meaning_134 : decode cX5_meaning 134 = .ok (.imul, 1) := by decide +kernel
theorem dX5_meaning_135 : decode cX5_meaning 135 = .ok (.iadd, 1) := by decide +kernel
theorem dX5_meaning_136 : decode cX5_meaning 136 = .ok (.istore_n 2, 1) := by decide +kernel
theorem dX5_meaning_137 : decode cX5_meaning 137 = .ok (.iload 4, 2) := by decide +kernel
theorem dX5_meaning_139 : decode cX5_meaning 139 = .ok (.iconst 1, 1) := by decide +kernel
theorem dX5_meaning_140 : decode cX5_meaning 140 = .ok (.iadd, 1) := by decide +kernel
theorem dX5_meaning_141 : decode cX5_meaning 141 = .ok (.istore_n 3, 1) := by decide +kernel
theorem dX5_meaning_142 : decode cX5_meaning 142 = .ok (.iinc 4 1, 3) := by decide +kernel
theorem dX5_meaning_145 : decode cX5_meaning 145 = .ok (.goto (-136), 3) := by decide +kernel
theorem dX5_meaning_148 : decode cX5_meaning 148 = .ok (.iload_n 1, 1) := by decide +kernel
theorem dX5_meaning_149 : decode cX5_meaning 149 = .ok (.iload_n 2, 1) := by decide +kernel
theorem dX5_meaning_150 : decode cX5_meaning 150 = .ok (.iadd, 1) := by decide +kernel
theorem dX5_meaning_151 : decode cX5_meaning 151 = .ok (.ireturn, 1) := by decide +kernel
theorem dX5_nameIn_0 : decode cX5_nameIn 0 = .ok (.iconst 0, 1) := by decide +kernel
theorem dX5_nameIn_1 : decode cX5_nameIn 1 = .ok (.istore_n 3, 1) := by decide +kernel
theorem dX5_nameIn_2 : decode cX5_nameIn 2 = .ok (.iload_n 3, 1) := by decide +kernel
theorem dX5_nameIn_3 : decode cX5_nameIn 3 = .ok (.bipush 31, 2) := by decide +kernel
theorem dX5_nameIn_5 : decode cX5_nameIn 5 = .ok (.if_icmp .ge 24, 3) := by decide +kernel
theorem dX5_nameIn_8 : decode cX5_nameIn 8 = .ok (.aload_n 0, 1) := by decide +kernel
theorem dX5_nameIn_9 : decode cX5_nameIn 9 = .ok (.iload_n 1, 1) := by decide +kernel
theorem dX5_nameIn_10 : decode cX5_nameIn 10 = .ok (.iload_n 2, 1) := by decide +kernel
theorem dX5_nameIn_11 : decode cX5_nameIn 11 = .ok (.iload_n 3, 1) := by decide +kernel
theorem dX5_nameIn_12 : decode cX5_nameIn 12 = .ok (.invokestatic 33, 3) := by decide +kernel
theorem dX5_nameIn_15 : decode cX5_nameIn 15 = .ok (.invokestatic 52, 3) := by decide +kernel
theorem dX5_nameIn_18 : decode cX5_nameIn 18 = .ok (.ifCond .eq 5, 3) := by decide +kernel
theorem dX5_nameIn_21 : decode cX5_nameIn 21 = .ok (.iload_n 3, 1) := by decide +kernel
theorem dX5_nameIn_22 : decode cX5_nameIn 22 = .ok (.ireturn, 1) := by decide +kernel
theorem dX5_nameIn_23 : decode cX5_nameIn 23 = .ok (.iinc 3 1, 3) := by decide +kernel
theorem dX5_nameIn_26 : decode cX5_nameIn 26 = .ok (.goto (-24), 3) := by decide +kernel
theorem dX5_nameIn_29 : decode cX5_nameIn 29 = .ok (.iconst (-1), 1) := by decide +kernel
theorem dX5_nameIn_30 : decode cX5_nameIn 30 = .ok (.ireturn, 1) := by decide +kernel
theorem dX5_stands_0 : decode cX5_stands 0 = .ok (.aload_n 3, 1) := by decide +kernel
theorem dX5_stands_1 : decode cX5_stands 1 = .ok (.invokevirtual 37, 3) := by decide +kernel
theorem dX5_stands_4 : decode cX5_stands 4 = .ok (.iload_n 2, 1) := by decide +kernel
theorem dX5_stands_5 : decode cX5_stands 5 = .ok (.iload_n 1, 1) := by decide +kernel
theorem dX5_stands_6 : decode cX5_stands 6 = .ok (.isub, 1) := by decide +kernel
theorem dX5_stands_7 : decode cX5_stands 7 = .ok (.if_icmp .eq 5, 3) := by decide +kernel
theorem dX5_stands_10 : decode cX5_stands 10 = .ok (.iconst 0, 1) := by decide +kernel
theorem dX5_stands_11 : decode cX5_stands 11 = .ok (.ireturn, 1) := by decide +kernel
theorem dX5_stands_12 : decode cX5_stands 12 = .ok (.iconst 0, 1) := by decide +kernel
theorem dX5_stands_13 : decode cX5_stands 13 = .ok (.istore 4, 2) := by decide +kernel
theorem dX5_stands_15 : decode cX5_stands 15 = .ok (.iload 4, 2) := by decide +kernel
theorem dX5_stands_17 : decode cX5_stands 17 = .ok (.aload_n 3, 1) := by decide +kernel
theorem dX5_stands_18 : decode cX5_stands 18 = .ok (.invokevirtual 37, 3) := by decide +kernel
theorem dX5_stands_21 : decode cX5_stands 21 = .ok (.if_icmp .ge 28, 3) := by decide +kernel
theorem dX5_stands_24 : decode cX5_stands 24 = .ok (.aload_n 0, 1) := by decide +kernel
theorem dX5_stands_25 : decode cX5_stands 25 = .ok (.iload_n 1, 1) := by decide +kernel
theorem dX5_stands_26 : decode cX5_stands 26 = .ok (.iload 4, 2) := by decide +kernel
theorem dX5_stands_28 : decode cX5_stands 28 = .ok (.iadd, 1) := by decide +kernel
theorem dX5_stands_29 : decode cX5_stands 29 = .ok (.invokevirtual 44, 3) := by decide +kernel
theorem dX5_stands_32 : decode cX5_stands 32 = .ok (.aload_n 3, 1) := by decide +kernel
theorem dX5_stands_33 : decode cX5_stands 33 = .ok (.iload 4, 2) := by decide +kernel
theorem dX5_stands_35 : decode cX5_stands 35 = .ok (.invokevirtual 40, 3) := by decide +kernel
theorem dX5_stands_38 : decode cX5_stands 38 = .ok (.if_icmp .eq 5, 3) := by decide +kernel
theorem dX5_stands_41 : decode cX5_stands 41 = .ok (.iconst 0, 1) := by decide +kernel
theorem dX5_stands_42 : decode cX5_stands 42 = .ok (.ireturn, 1) := by decide +kernel
theorem dX5_stands_43 : decode cX5_stands 43 = .ok (.iinc 4 1, 3) := by decide +kernel
theorem dX5_stands_46 : decode cX5_stands 46 = .ok (.goto (-31), 3) := by decide +kernel
theorem dX5_stands_49 : decode cX5_stands 49 = .ok (.iconst 1, 1) := by decide +kernel
theorem dX5_stands_50 : decode cX5_stands 50 = .ok (.ireturn, 1) := by decide +kernel
theorem dX5_nameOf_0 : decode cX5_nameOf 0 = .ok (.iload_n 0, 1) := by decide +kernel
theorem dX5_nameOf_1 : decode cX5_nameOf 1 = .ok (.tableswitch 232 0 30 #[139, 142, 145, 148, 151, 154, 157, 160, 163, 166, 169, 172, 175, 178, 181, 184, 187, 190, 193, 196, 199, 202, 205, 208, 211, 214, 217, 220, 223, 226, 229], 139) := by decide +kernel
theorem dX5_nameOf_140 : decode cX5_nameOf 140 = .ok (.ldc 56, 2) := by decide +kernel
theorem dX5_nameOf_142 : decode cX5_nameOf 142 = .ok (.areturn, 1) := by decide +kernel
theorem dX5_nameOf_143 : decode cX5_nameOf 143 = .ok (.ldc 58, 2) := by decide +kernel
theorem dX5_nameOf_145 : decode cX5_nameOf 145 = .ok (.areturn, 1) := by decide +kernel
theorem dX5_nameOf_146 : decode cX5_nameOf 146 = .ok (.ldc 60, 2) := by decide +kernel
theorem dX5_nameOf_148 : decode cX5_nameOf 148 = .ok (.areturn, 1) := by decide +kernel
theorem dX5_nameOf_149 : decode cX5_nameOf 149 = .ok (.ldc 62, 2) := by decide +kernel
theorem dX5_nameOf_151 : decode cX5_nameOf 151 = .ok (.areturn, 1) := by decide +kernel
theorem dX5_nameOf_152 : decode cX5_nameOf 152 = .ok (.ldc 64, 2) := by decide +kernel
theorem dX5_nameOf_154 : decode cX5_nameOf 154 = .ok (.areturn, 1) := by decide +kernel
theorem dX5_nameOf_155 : decode cX5_nameOf 155 = .ok (.ldc 66, 2) := by decide +kernel
theorem dX5_nameOf_157 : decode cX5_nameOf 157 = .ok (.areturn, 1) := by decide +kernel
theorem dX5_nameOf_158 : decode cX5_nameOf 158 = .ok (.ldc 68, 2) := by decide +kernel
theorem dX5_nameOf_160 : decode cX5_nameOf 160 = .ok (.areturn, 1) := by decide +kernel
theorem dX5_nameOf_161 : decode cX5_nameOf 161 = .ok (.ldc 70, 2) := by decide +kernel
theorem dX5_nameOf_163 : decode cX5_nameOf 163 = .ok (.areturn, 1) := by decide +kernel
theorem dX5_nameOf_164 : decode cX5_nameOf 164 = .ok (.ldc 72, 2) := by decide +kernel
theorem dX5_nameOf_166 : decode cX5_nameOf 166 = .ok (.areturn, 1) := by decide +kernel
theorem dX5_nameOf_167 : decode cX5_nameOf 167 = .ok (.ldc 74, 2) := by decide +kernel
theorem dX5_nameOf_169 : decode cX5_nameOf 169 = .ok (.areturn, 1) := by decide +kernel
theorem dX5_nameOf_170 : decode cX5_nameOf 170 = .ok (.ldc 76, 2) := by decide +kernel
theorem dX5_nameOf_172 : decode cX5_nameOf 172 = .ok (.areturn, 1) := by decide +kernel
theorem dX5_nameOf_173 : decode cX5_nameOf 173 = .ok (.ldc 78, 2) := by decide +kernel
theorem dX5_nameOf_175 : decode cX5_nameOf 175 = .ok (.areturn, 1) := by decide +kernel
theorem dX5_nameOf_176 : decode cX5_nameOf 176 = .ok (.ldc 80, 2) := by decide +kernel
theorem dX5_nameOf_178 : decode cX5_nameOf 178 = .ok (.areturn, 1) := by decide +kernel
theorem dX5_nameOf_179 : decode cX5_nameOf 179 = .ok (.ldc 82, 2) := by decide +kernel
theorem dX5_nameOf_181 : decode cX5_nameOf 181 = .ok (.areturn, 1) := by decide +kernel
theorem dX5_nameOf_182 : decode cX5_nameOf 182 = .ok (.ldc 84, 2) := by decide +kernel
theorem dX5_nameOf_184 : decode cX5_nameOf 184 = .ok (.areturn, 1) := by decide +kernel
theorem dX5_nameOf_185 : decode cX5_nameOf 185 = .ok (.ldc 86, 2) := by decide +kernel
theorem dX5_nameOf_187 : decode cX5_nameOf 187 = .ok (.areturn, 1) := by decide +kernel
theorem dX5_nameOf_188 : decode cX5_nameOf 188 = .ok (.ldc 88, 2) := by decide +kernel
theorem dX5_nameOf_190 : decode cX5_nameOf 190 = .ok (.areturn, 1) := by decide +kernel
theorem dX5_nameOf_191 : decode cX5_nameOf 191 = .ok (.ldc 90, 2) := by decide +kernel
theorem dX5_nameOf_193 : decode cX5_nameOf 193 = .ok (.areturn, 1) := by decide +kernel
theorem dX5_nameOf_194 : decode cX5_nameOf 194 = .ok (.ldc 92, 2) := by decide +kernel
theorem dX5_nameOf_196 : decode cX5_nameOf 196 = .ok (.areturn, 1) := by decide +kernel
theorem dX5_nameOf_197 : decode cX5_nameOf 197 = .ok (.ldc 94, 2) := by decide +kernel
theorem dX5_nameOf_199 : decode cX5_nameOf 199 = .ok (.areturn, 1) := by decide +kernel
theorem dX5_nameOf_200 : decode cX5_nameOf 200 = .ok (.ldc 96, 2) := by decide +kernel
theorem dX5_nameOf_202 : decode cX5_nameOf 202 = .ok (.areturn, 1) := by decide +kernel
theorem dX5_nameOf_203 : decode cX5_nameOf 203 = .ok (.ldc 98, 2) := by decide +kernel
theorem dX5_nameOf_205 : decode cX5_nameOf 205 = .ok (.areturn, 1) := by decide +kernel
theorem dX5_nameOf_206 : decode cX5_nameOf 206 = .ok (.ldc 100, 2) := by decide +kernel
theorem dX5_nameOf_208 : decode cX5_nameOf 208 = .ok (.areturn, 1) := by decide +kernel
theorem dX5_nameOf_209 : decode cX5_nameOf 209 = .ok (.ldc 102, 2) := by decide +kernel
theorem dX5_nameOf_211 : decode cX5_nameOf 211 = .ok (.areturn, 1) := by decide +kernel
theorem dX5_nameOf_212 : decode cX5_nameOf 212 = .ok (.ldc 104, 2) := by decide +kernel
theorem dX5_nameOf_214 : decode cX5_nameOf 214 = .ok (.areturn, 1) := by decide +kernel
theorem dX5_nameOf_215 : decode cX5_nameOf 215 = .ok (.ldc 106, 2) := by decide +kernel
theorem dX5_nameOf_217 : decode cX5_nameOf 217 = .ok (.areturn, 1) := by decide +kernel
theorem dX5_nameOf_218 : decode cX5_nameOf 218 = .ok (.ldc 108, 2) := by decide +kernel
theorem dX5_nameOf_220 : decode cX5_nameOf 220 = .ok (.areturn, 1) := by decide +kernel
theorem dX5_nameOf_221 : decode cX5_nameOf 221 = .ok (.ldc 110, 2) := by decide +kernel
theorem dX5_nameOf_223 : decode cX5_nameOf 223 = .ok (.areturn, 1) := by decide +kernel
theorem dX5_nameOf_224 : decode cX5_nameOf 224 = .ok (.ldc 112, 2) := by decide +kernel
theorem dX5_nameOf_226 : decode cX5_nameOf 226 = .ok (.areturn, 1) := by decide +kernel
theorem dX5_nameOf_227 : decode cX5_nameOf 227 = .ok (.ldc 114, 2) := by decide +kernel
theorem dX5_nameOf_229 : decode cX5_nameOf 229 = .ok (.areturn, 1) := by decide +kernel
theorem dX5_nameOf_230 : decode cX5_nameOf 230 = .ok (.ldc 116, 2) := by decide +kernel
theorem dX5_nameOf_232 : decode cX5_nameOf 232 = .ok (.areturn, 1) := by decide +kernel
theorem dX5_nameOf_233 : decode cX5_nameOf 233 = .ok (.ldc 118, 2) := by decide +kernel
theorem dX5_nameOf_235 : decode cX5_nameOf 235 = .ok (.areturn, 1) := by decide +kernel
theorem dX6_rounded_0 : decode cX6_rounded 0 = .ok (.lload_n 0, 1) := by decide +kernel
theorem dX6_rounded_1 : decode cX6_rounded 1 = .ok (.invokestatic 9, 3) := by decide +kernel
theorem dX6_rounded_4 : decode cX6_rounded 4 = .ok (.lstore_n 3, 1) := by decide +kernel
theorem dX6_rounded_5 : decode cX6_rounded 5 = .ok (.lconst 0, 1) := by decide +kernel
theorem dX6_rounded_6 : decode cX6_rounded 6 = .ok (.lstore 5, 2) := by decide +kernel
theorem dX6_rounded_8 : decode cX6_rounded 8 = .ok (.iload_n 2, 1) := by decide +kernel
theorem dX6_rounded_9 : decode cX6_rounded 9 = .ok (.istore 7, 2) := by decide +kernel
theorem dX6_rounded_11 : decode cX6_rounded 11 = .ok (.iload 7, 2) := by decide +kernel
theorem dX6_rounded_13 : decode cX6_rounded 13 = .ok (.bipush 6, 2) := by decide +kernel
theorem dX6_rounded_15 : decode cX6_rounded 15 = .ok (.if_icmp .ge 22, 3) := by decide +kernel
theorem dX6_rounded_18 : decode cX6_rounded 18 = .ok (.lload_n 3, 1) := by decide +kernel
theorem dX6_rounded_19 : decode cX6_rounded 19 = .ok (.ldc2_w 15, 3) := by decide +kernel
theorem dX6_rounded_22 : decode cX6_rounded 22 = .ok (.lrem, 1) := by decide +kernel
theorem dX6_rounded_23 : decode cX6_rounded 23 = .ok (.lstore 5, 2) := by decide +kernel
theorem dX6_rounded_25 : decode cX6_rounded 25 = .ok (.lload_n 3, 1) := by decide +kernel
theorem dX6_rounded_26 : decode cX6_rounded 26 = .ok (.ldc2_w 15, 3) := by decide +kernel
theorem dX6_rounded_29 : decode cX6_rounded 29 = .ok (.ldiv, 1) := by decide +kernel
theorem dX6_rounded_30 : decode cX6_rounded 30 = .ok (.lstore_n 3, 1) := by decide +kernel
theorem dX6_rounded_31 : decode cX6_rounded 31 = .ok (.iinc 7 1, 3) := by decide +kernel
theorem dX6_rounded_34 : decode cX6_rounded 34 = .ok (.goto (-23), 3) := by decide +kernel
theorem dX6_rounded_37 : decode cX6_rounded 37 = .ok (.lload 5, 2) := by decide +kernel
theorem dX6_rounded_39 : decode cX6_rounded 39 = .ok (.ldc2_w 17, 3) := by decide +kernel
theorem dX6_rounded_42 : decode cX6_rounded 42 = .ok (.lcmp, 1) := by decide +kernel
theorem dX6_rounded_43 : decode cX6_rounded 43 = .ok (.ifCond .lt 7, 3) := by decide +kernel
theorem dX6_rounded_46 : decode cX6_rounded 46 = .ok (.lload_n 3, 1) := by decide +kernel
theorem dX6_rounded_47 : decode cX6_rounded 47 = .ok (.lconst 1, 1) := by decide +kernel
theorem dX6_rounded_48 : decode cX6_rounded 48 = .ok (.ladd, 1) := by decide +kernel
theorem dX6_rounded_49 : decode cX6_rounded 49 = .ok (.lstore_n 3, 1) := by decide +kernel
theorem dX6_rounded_50 : decode cX6_rounded 50 = .ok (.iload_n 2, 1) := by decide +kernel
theorem dX6_rounded_51 : decode cX6_rounded 51 = .ok (.istore 7, 2) := by decide +kernel
theorem dX6_rounded_53 : decode cX6_rounded 53 = .ok (.iload 7, 2) := by decide +kernel
theorem dX6_rounded_55 : decode cX6_rounded 55 = .ok (.bipush 6, 2) := by decide +kernel
theorem dX6_rounded_57 : decode cX6_rounded 57 = .ok (.if_icmp .ge 15, 3) := by decide +kernel
theorem dX6_rounded_60 : decode cX6_rounded 60 = .ok (.lload_n 3, 1) := by decide +kernel
theorem dX6_rounded_61 : decode cX6_rounded 61 = .ok (.ldc2_w 15, 3) := by decide +kernel
theorem dX6_rounded_64 : decode cX6_rounded 64 = .ok (.lmul, 1) := by decide +kernel
theorem dX6_rounded_65 : decode cX6_rounded 65 = .ok (.lstore_n 3, 1) := by decide +kernel
theorem dX6_rounded_66 : decode cX6_rounded 66 = .ok (.iinc 7 1, 3) := by decide +kernel
theorem dX6_rounded_69 : decode cX6_rounded 69 = .ok (.goto (-16), 3) := by decide +kernel
theorem dX6_rounded_72 : decode cX6_rounded 72 = .ok (.lload_n 0, 1) := by decide +kernel
theorem dX6_rounded_73 : decode cX6_rounded 73 = .ok (.lconst 0, 1) := by decide +kernel
theorem dX6_rounded_74 : decode cX6_rounded 74 = .ok (.lcmp, 1) := by decide +kernel
theorem dX6_rounded_75 : decode cX6_rounded 75 = .ok (.ifCond .ge 8, 3) := by decide +kernel
theorem dX6_rounded_78 : decode cX6_rounded 78 = .ok (.lload_n 3, 1) := by decide +kernel
theorem dX6_rounded_79 : decode cX6_rounded 79 = .ok (.lneg, 1) := by decide +kernel
theorem dX6_rounded_80 : decode cX6_rounded 80 = .ok (.goto 4, 3) := by decide +kernel
theorem dX6_rounded_83 : decode cX6_rounded 83 = .ok (.lload_n 3, 1) := by decide +kernel
theorem dX6_rounded_84 : decode cX6_rounded 84 = .ok (.lreturn, 1) := by decide +kernel
theorem dX6_digitOf_0 : decode cX6_digitOf 0 = .ok (.lload_n 0, 1) := by decide +kernel
theorem dX6_digitOf_1 : decode cX6_digitOf 1 = .ok (.lstore_n 3, 1) := by decide +kernel
theorem dX6_digitOf_2 : decode cX6_digitOf 2 = .ok (.iconst 0, 1) := by decide +kernel
theorem dX6_digitOf_3 : decode cX6_digitOf 3 = .ok (.istore 5, 2) := by decide +kernel
theorem dX6_digitOf_5 : decode cX6_digitOf 5 = .ok (.iload 5, 2) := by decide +kernel
theorem dX6_digitOf_7 : decode cX6_digitOf 7 = .ok (.iload_n 2, 1) := by decide +kernel
theorem dX6_digitOf_8 : decode cX6_digitOf 8 = .ok (.if_icmp .ge 15, 3) := by decide +kernel
theorem dX6_digitOf_11 : decode cX6_digitOf 11 = .ok (.lload_n 3, 1) := by decide +kernel
theorem dX6_digitOf_12 : decode cX6_digitOf 12 = .ok (.ldc2_w 15, 3) := by decide +kernel
theorem dX6_digitOf_15 : decode cX6_digitOf 15 = .ok (.ldiv, 1) := by decide +kernel
theorem dX6_digitOf_16 : decode cX6_digitOf 16 = .ok (.lstore_n 3, 1) := by decide +kernel
theorem dX6_digitOf_17 : decode cX6_digitOf 17 = .ok (.iinc 5 1, 3) := by decide +kernel
theorem dX6_digitOf_20 : decode cX6_digitOf 20 = .ok (.goto (-15), 3) := by decide +kernel
theorem dX6_digitOf_23 : decode cX6_digitOf 23 = .ok (.lload_n 3, 1) := by decide +kernel
theorem dX6_digitOf_24 : decode cX6_digitOf 24 = .ok (.ldc2_w 15, 3) := by decide +kernel
theorem dX6_digitOf_27 : decode cX6_digitOf 27 = .ok (.lrem, 1) := by decide +kernel
theorem dX6_digitOf_28 : decode cX6_digitOf 28 = .ok (.l2i, 1) := by decide +kernel
theorem dX6_digitOf_29 : decode cX6_digitOf 29 = .ok (.ireturn, 1) := by decide +kernel
