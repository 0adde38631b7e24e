theorem dX8_shown_0 : decode cX8_shown 0 = .ok (.aload_n 0, 1) := by decide +kernel
theorem dX8_shown_1 : decode cX8_shown 1 = .ok (.iconst 0, 1) := by decide +kernel
theorem dX8_shown_2 : decode cX8_shown 2 = .ok (.putfield 86, 3) := by decide +kernel
theorem dX8_shown_5 : decode cX8_shown 5 = .ok (.iload_n 1, 1) := by decide +kernel
theorem dX8_shown_6 : decode cX8_shown 6 = .ok (.iconst 0, 1) := by decide +kernel
theorem dX8_shown_7 : decode cX8_shown 7 = .ok (.aload_n 0, 1) := by decide +kernel
theorem dX8_shown_8 : decode cX8_shown 8 = .ok (.getfield 61, 3) := by decide +kernel
theorem dX8_shown_11 : decode cX8_shown 11 = .ok (.iconst 0, 1) := by decide +kernel
theorem dX8_shown_12 : decode cX8_shown 12 = .ok (.iaload, 1) := by decide +kernel
theorem dX8_shown_13 : decode cX8_shown 13 = .ok (.iconst 1, 1) := by decide +kernel
theorem dX8_shown_14 : decode cX8_shown 14 = .ok (.isub, 1) := by decide +kernel
theorem dX8_shown_15 : decode cX8_shown 15 = .ok (.invokestatic 94, 3) := by decide +kernel
theorem dX8_shown_18 : decode cX8_shown 18 = .ok (.ifCond .eq 12, 3) := by decide +kernel
theorem dX8_shown_21 : decode cX8_shown 21 = .ok (.aload_n 0, 1) := by decide +kernel
theorem dX8_shown_22 : decode cX8_shown 22 = .ok (.getfield 64, 3) := by decide +kernel
theorem dX8_shown_25 : decode cX8_shown 25 = .ok (.iload_n 1, 1) := by decide +kernel
theorem dX8_shown_26 : decode cX8_shown 26 = .ok (.iaload, 1) := by decide +kernel
theorem dX8_shown_27 : decode cX8_shown 27 = .ok (.goto 4, 3) := by decide +kernel
theorem dX8_shown_30 : decode cX8_shown 30 = .ok (.iconst (-1), 1) := by decide +kernel
theorem dX8_shown_31 : decode cX8_shown 31 = .ok (.ireturn, 1) := by decide +kernel
theorem dX8_take_0 : decode cX8_take 0 = .ok (.aload_n 0, 1) := by decide +kernel
theorem dX8_take_1 : decode cX8_take 1 = .ok (.iconst 0, 1) := by decide +kernel
theorem dX8_take_2 : decode cX8_take 2 = .ok (.putfield 86, 3) := by decide +kernel
theorem dX8_take_5 : decode cX8_take 5 = .ok (.aload_n 0, 1) := by decide +kernel
theorem dX8_take_6 : decode cX8_take 6 = .ok (.getfield 61, 3) := by decide +kernel
theorem dX8_take_9 : decode cX8_take 9 = .ok (.iconst 0, 1) := by decide +kernel
theorem dX8_take_10 : decode cX8_take 10 = .ok (.iaload, 1) := by decide +kernel
theorem dX8_take_11 : decode cX8_take 11 = .ok (.ifCond .eq 14, 3) := by decide +kernel
theorem dX8_take_14 : decode cX8_take 14 = .ok (.aload_n 0, 1) := by decide +kernel
theorem dX8_take_15 : decode cX8_take 15 = .ok (.getfield 61, 3) := by decide +kernel
theorem dX8_take_18 : decode cX8_take 18 = .ok (.iconst 0, 1) := by decide +kernel
theorem dX8_take_19 : decode cX8_take 19 = .ok (.iaload, 1) := by decide +kernel
theorem dX8_take_20 : decode cX8_take 20 = .ok (.bipush 60, 2) := by decide +kernel
theorem dX8_take_22 : decode cX8_take 22 = .ok (.if_icmp .le 5, 3) := by decide +kernel
theorem dX8_take_25 : decode cX8_take 25 = .ok (.iconst (-1), 1) := by decide +kernel
theorem dX8_take_26 : decode cX8_take 26 = .ok (.ireturn, 1) := by decide +kernel
theorem dX8_take_27 : decode cX8_take 27 = .ok (.aload_n 0, 1) := by decide +kernel
theorem dX8_take_28 : decode cX8_take 28 = .ok (.getfield 38, 3) := by decide +kernel
theorem dX8_take_31 : decode cX8_take 31 = .ok (.iconst 0, 1) := by decide +kernel
theorem dX8_take_32 : decode cX8_take 32 = .ok (.aload_n 0, 1) := by decide +kernel
theorem dX8_take_33 : decode cX8_take 33 = .ok (.getfield 61, 3) := by decide +kernel
theorem dX8_take_36 : decode cX8_take 36 = .ok (.iconst 0, 1) := by decide +kernel
theorem dX8_take_37 : decode cX8_take 37 = .ok (.iaload, 1) := by decide +kernel
theorem dX8_take_38 : decode cX8_take 38 = .ok (.iastore, 1) := by decide +kernel
theorem dX8_take_39 : decode cX8_take 39 = .ok (.iconst 0, 1) := by decide +kernel
theorem dX8_take_40 : decode cX8_take 40 = .ok (.istore_n 1, 1) := by decide +kernel
theorem dX8_take_41 : decode cX8_take 41 = .ok (.iload_n 1, 1) := by decide +kernel
theorem dX8_take_42 : decode cX8_take 42 = .ok (.aload_n 0, 1) := by decide +kernel
theorem dX8_take_43 : decode cX8_take 43 = .ok (.getfield 38, 3) := by decide +kernel
theorem dX8_take_46 : decode cX8_take 46 = .ok (.iconst 0, 1) := by decide +kernel
theorem dX8_take_47 : decode cX8_take 47 = .ok (.iaload, 1) := by decide +kernel
theorem dX8_take_48 : decode cX8_take 48 = .ok (.if_icmp .ge 21, 3) := by decide +kernel
theorem dX8_take_51 : decode cX8_take 51 = .ok (.aload_n 0, 1) := by decide +kernel
theorem dX8_take_52 : decode cX8_take 52 = .ok (.getfield 41, 3) := by decide +kernel
theorem dX8_take_55 : decode cX8_take 55 = .ok (.iload_n 1, 1) := by decide +kernel
theorem dX8_take_56 : decode cX8_take 56 = .ok (.aload_n 0, 1) := by decide +kernel
theorem dX8_take_57 : decode cX8_take 57 = .ok (.getfield 64, 3) := by decide +kernel
theorem dX8_take_60 : decode cX8_take 60 = .ok (.iload_n 1, 1) := by decide +kernel
theorem dX8_take_61 : decode cX8_take 61 = .ok (.iaload, 1) := by decide +kernel
theorem dX8_take_62 : decode cX8_take 62 = .ok (.iastore, 1) := by decide +kernel
theorem dX8_take_63 : decode cX8_take 63 = .ok (.iinc 1 1, 3) := by decide +kernel
theorem dX8_take_66 : decode cX8_take 66 = .ok (.goto (-25), 3) := by decide +kernel
theorem dX8_take_69 : decode cX8_take 69 = .ok (.aload_n 0, 1) := by decide +kernel
theorem dX8_take_70 : decode cX8_take 70 = .ok (.getfield 38, 3) := by decide +kernel
theorem dX8_take_73 : decode cX8_take 73 = .ok (.iconst 0, 1) := by decide +kernel
theorem dX8_take_74 : decode cX8_take 74 = .ok (.iaload, 1) := by decide +kernel
theorem dX8_take_75 : decode cX8_take 75 = .ok (.ireturn, 1) := by decide +kernel
theorem dX8_isAt_0 : decode cX8_isAt 0 = .ok (.iload_n 1, 1) := by decide +kernel
theorem dX8_isAt_1 : decode cX8_isAt 1 = .ok (.aload_n 0, 1) := by decide +kernel
theorem dX8_isAt_2 : decode cX8_isAt 2 = .ok (.getfield 187, 3) := by decide +kernel
theorem dX8_isAt_5 : decode cX8_isAt 5 = .ok (.iadd, 1) := by decide +kernel
theorem dX8_isAt_6 : decode cX8_isAt 6 = .ok (.aload_n 0, 1) := by decide +kernel
theorem dX8_isAt_7 : decode cX8_isAt 7 = .ok (.getfield 38, 3) := by decide +kernel
theorem dX8_isAt_10 : decode cX8_isAt 10 = .ok (.iconst 0, 1) := by decide +kernel
theorem dX8_isAt_11 : decode cX8_isAt 11 = .ok (.iaload, 1) := by decide +kernel
theorem dX8_isAt_12 : decode cX8_isAt 12 = .ok (.if_icmp .le 5, 3) := by decide +kernel
theorem dX8_isAt_15 : decode cX8_isAt 15 = .ok (.iconst 0, 1) := by decide +kernel
theorem dX8_isAt_16 : decode cX8_isAt 16 = .ok (.ireturn, 1) := by decide +kernel
theorem dX8_isAt_17 : decode cX8_isAt 17 = .ok (.iconst 0, 1) := by decide +kernel
theorem dX8_isAt_18 : decode cX8_isAt 18 = .ok (.istore_n 2, 1) := by decide +kernel
theorem dX8_isAt_19 : decode cX8_isAt 19 = .ok (.iload_n 2, 1) := by decide +kernel
theorem dX8_isAt_20 : decode cX8_isAt 20 = .ok (.aload_n 0, 1) := by decide +kernel
theorem dX8_isAt_21 : decode cX8_isAt 21 = .ok (.getfield 187, 3) := by decide +kernel
theorem dX8_isAt_24 : decode cX8_isAt 24 = .ok (.if_icmp .ge 28, 3) := by decide +kernel
theorem dX8_isAt_27 : decode cX8_isAt 27 = .ok (.aload_n 0, 1) := by decide +kernel
theorem dX8_isAt_28 : decode cX8_isAt 28 = .ok (.getfield 41, 3) := by decide +kernel
theorem dX8_isAt_31 : decode cX8_isAt 31 = .ok (.iload_n 1, 1) := by decide +kernel
theorem dX8_isAt_32 : decode cX8_isAt 32 = .ok (.iload_n 2, 1) := by decide +kernel
theorem dX8_isAt_33 : decode cX8_isAt 33 = .ok (.iadd, 1) := by decide +kernel
theorem dX8_isAt_34 : decode cX8_isAt 34 = .ok (.iaload, 1) := by decide +kernel
theorem dX8_isAt_35 : decode cX8_isAt 35 = .ok (.aload_n 0, 1) := by decide +kernel
theorem dX8_isAt_36 : decode cX8_isAt 36 = .ok (.getfield 76, 3) := by decide +kernel
theorem dX8_isAt_39 : decode cX8_isAt 39 = .ok (.iload_n 2, 1) := by decide +kernel
theorem dX8_isAt_40 : decode cX8_isAt 40 = .ok (.iaload, 1) := by decide +kernel
theorem dX8_isAt_41 : decode cX8_isAt 41 = .ok (.if_icmp .eq 5, 3) := by decide +kernel
theorem dX8_isAt_44 : decode cX8_isAt 44 = .ok (.iconst 0, 1) := by decide +kernel
theorem dX8_isAt_45 : decode cX8_isAt 45 = .ok (.ireturn, 1) := by decide +kernel
theorem dX8_isAt_46 : decode cX8_isAt 46 = .ok (.iinc 2 1, 3) := by decide +kernel
theorem dX8_isAt_49 : decode cX8_isAt 49 = .ok (.goto (-30), 3) := by decide +kernel
theorem dX8_isAt_52 : decode cX8_isAt 52 = .ok (.iload_n 1, 1) := by decide +kernel
theorem dX8_isAt_53 : decode cX8_isAt 53 = .ok (.aload_n 0, 1) := by decide +kernel
theorem dX8_isAt_54 : decode cX8_isAt 54 = .ok (.getfield 187, 3) := by decide +kernel
theorem dX8_isAt_57 : decode cX8_isAt 57 = .ok (.iadd, 1) := by decide +kernel
theorem dX8_isAt_58 : decode cX8_isAt 58 = .ok (.aload_n 0, 1) := by decide +kernel
theorem dX8_isAt_59 : decode cX8_isAt 59 = .ok (.getfield 38, 3) := by decide +kernel
theorem dX8_isAt_62 : decode cX8_isAt 62 = .ok (.iconst 0, 1) := by decide +kernel
theorem dX8_isAt_63 : decode cX8_isAt 63 = .ok (.iaload, 1) := by decide +kernel
theorem dX8_isAt_64 : decode cX8_isAt 64 = .ok (.if_icmp .eq 19, 3) := by decide +kernel
theorem dX8_isAt_67 : decode cX8_isAt 67 = .ok (.aload_n 0, 1) := by decide +kernel
theorem dX8_isAt_68 : decode cX8_isAt 68 = .ok (.getfield 41, 3) := by decide +kernel
theorem dX8_isAt_71 : decode cX8_isAt 71 = .ok (.iload_n 1, 1) := by decide +kernel
theorem dX8_isAt_72 : decode cX8_isAt 72 = .ok (.aload_n 0, 1) := by decide +kernel
theorem dX8_isAt_73 : decode cX8_isAt 73 = .ok (.getfield 187, 3) := by decide +kernel
theorem dX8_isAt_76 : decode cX8_isAt 76 = .ok (.iadd, 1) := by decide +kernel
theorem dX8_isAt_77 : decode cX8_isAt 77 = .ok (.iaload, 1) := by decide +kernel
theorem dX8_isAt_78 : decode cX8_isAt 78 = .ok (.bipush 32, 2) := by decide +kernel
theorem dX8_isAt_80 : decode cX8_isAt 80 = .ok (.if_icmp .ne 7, 3) := by decide +kernel
theorem dX8_isAt_83 : decode cX8_isAt 83 = .ok (.iconst 1, 1) := by decide +kernel
theorem dX8_isAt_84 : decode cX8_isAt 84 = .ok (.goto 4, 3) := by decide +kernel
theorem dX8_isAt_87 : decode cX8_isAt 87 = .ok (.iconst 0, 1) := by decide +kernel
theorem dX8_isAt_88 : decode cX8_isAt 88 = .ok (.ireturn, 1) := by decide +kernel
theorem dX8_below1000At_0 : decode cX8_below1000At 0 = .ok (.iconst 0, 1) := by decide +kernel
theorem dX8_below1000At_1 : decode cX8_below1000At 1 = .ok (.istore_n 2, 1) := by decide +kernel
theorem dX8_below1000At_2 : decode cX8_below1000At 2 = .ok (.iconst 0, 1) := by decide +kernel
theorem dX8_below1000At_3 : decode cX8_below1000At 3 = .ok (.istore_n 3, 1) := by decide +kernel
theorem dX8_below1000At_4 : decode cX8_below1000At 4 = .ok (.iconst 1, 1) := by decide +kernel
theorem dX8_below1000At_5 : decode cX8_below1000At 5 = .ok (.istore 4, 2) := by decide +kernel
theorem dX8_below1000At_7 : decode cX8_below1000At 7 = .ok (.iload 4, 2) := by decide +kernel
theorem dX8_below1000At_9 : decode cX8_below1000At 9 = .ok (.sipush 1000, 3) := by decide +kernel
theorem dX8_below1000At_12 : decode cX8_below1000At 12 = .ok (.if_icmp .ge 44, 3) := by decide +kernel
theorem dX8_below1000At_15 : decode cX8_below1000At 15 = .ok (.aload_n 0, 1) := by decide +kernel
theorem dX8_below1000At_16 : decode cX8_below1000At 16 = .ok (.iconst 0, 1) := by decide +kernel
theorem dX8_below1000At_17 : decode cX8_below1000At 17 = .ok (.putfield 187, 3) := by decide +kernel
theorem dX8_below1000At_20 : decode cX8_below1000At 20 = .ok (.aload_n 0, 1) := by decide +kernel
theorem dX8_below1000At_21 : decode cX8_below1000At 21 = .ok (.iload 4, 2) := by decide +kernel
theorem dX8_below1000At_23 : decode cX8_below1000At 23 = .ok (.invokevirtual 295, 3) := by decide +kernel
theorem dX8_below1000At_26 : decode cX8_below1000At 26 = .ok (.aload_n 0, 1) := by decide +kernel
theorem dX8_below1000At_27 : decode cX8_below1000At 27 = .ok (.getfield 187, 3) := by decide +kernel
theorem dX8_below1000At_30 : decode cX8_below1000At 30 = .ok (.iload_n 3, 1) := by decide +kernel
theorem dX8_below1000At_31 : decode cX8_below1000At 31 = .ok (.if_icmp .le 19, 3) := by decide +kernel
theorem dX8_below1000At_34 : decode cX8_below1000At 34 = .ok (.aload_n 0, 1) := by decide +kernel
theorem dX8_below1000At_35 : decode cX8_below1000At 35 = .ok (.iload_n 1, 1) := by decide +kernel
theorem dX8_below1000At_36 : decode cX8_below1000At 36 = .ok (.invokevirtual 306, 3) := by decide +kernel
theorem dX8_below1000At_39 : decode cX8_below1000At 39 = .ok (.ifCond .eq 11, 3) := by decide +kernel
theorem dX8_below1000At_42 : decode cX8_below1000At 42 = .ok (.iload 4, 2) := by decide +kernel
theorem dX8_below1000At_44 : decode cX8_below1000At 44 = .ok (.istore_n 2, 1) := by decide +kernel
theorem dX8_below1000At_45 : decode cX8_below1000At 45 = .ok (.aload_n 0, 1) := by decide +kernel
theorem dX8_below1000At_46 : decode cX8_below1000At 46 = .ok (.getfield 187, 3) := by decide +kernel
theorem dX8_below1000At_49 : decode cX8_below1000At 49 = .ok (.istore_n 3, 1) := by decide +kernel
theorem dX8_below1000At_50 : decode cX8_below1000At 50 = .ok (.iinc 4 1, 3) := by decide +kernel
theorem dX8_below1000At_53 : decode cX8_below1000At 53 = .ok (.goto (-46), 3) := by decide +kernel
theorem dX8_below1000At_56 : decode cX8_below1000At 56 = .ok (.aload_n 0, 1) := by decide +kernel
theorem dX8_below1000At_57 : decode cX8_below1000At 57 = .ok (.iload_n 1, 1) := by decide +kernel
theorem dX8_below1000At_58 : decode cX8_below1000At 58 = .ok (.iload_n 3, 1) := by decide +kernel
theorem dX8_below1000At_59 : decode cX8_below1000At 59 = .ok (.iadd, 1) := by decide +kernel
theorem dX8_below1000At_60 : decode cX8_below1000At 60 = .ok (.putfield 309, 3) := by decide +kernel
theorem dX8_below1000At_63 : decode cX8_below1000At 63 = .ok (.iload_n 2, 1) := by decide +kernel
theorem dX8_below1000At_64 : decode cX8_below1000At 64 = .ok (.ireturn, 1) := by decide +kernel
theorem dX8_wordAt_0 : decode cX8_wordAt 0 = .ok (.aload_n 0, 1) := by decide +kernel
theorem dX8_wordAt_1 : decode cX8_wordAt 1 = .ok (.iconst 0, 1) := by decide +kernel
theorem dX8_wordAt_2 : decode cX8_wordAt 2 = .ok (.putfield 187, 3) := by decide +kernel
theorem dX8_wordAt_5 : decode cX8_wordAt 5 = .ok (.aload_n 0, 1) := by decide +kernel
theorem dX8_wordAt_6 : decode cX8_wordAt 6 = .ok (.lload_n 2, 1) := by decide +kernel
theorem dX8_wordAt_7 : decode cX8_wordAt 7 = .ok (.invokevirtual 227, 3) := by decide +kernel
theorem dX8_wordAt_10 : decode cX8_wordAt 10 = .ok (.aload_n 0, 1) := by decide +kernel
theorem dX8_wordAt_11 : decode cX8_wordAt 11 = .ok (.iload_n 1, 1) := by decide +kernel
theorem dX8_wordAt_12 : decode cX8_wordAt 12 = .ok (.invokevirtual 306, 3) := by decide +kernel
theorem dX8_wordAt_15 : decode cX8_wordAt 15 = .ok (.ireturn, 1) := by decide +kernel
theorem dX8_spoken_0 : decode cX8_spoken 0 = .ok (.aload_n 0, 1) := by decide +kernel
theorem dX8_spoken_1 : decode cX8_spoken 1 = .ok (.iconst 0, 1) := by decide +kernel
theorem dX8_spoken_2 : decode cX8_spoken 2 = .ok (.putfield 86, 3) := by decide +kernel
theorem dX8_spoken_5 : decode cX8_spoken 5 = .ok (.aload_n 0, 1) := by decide +kernel
theorem dX8_spoken_6 : decode cX8_spoken 6 = .ok (.getfield 38, 3) := by decide +kernel
theorem dX8_spoken_9 : decode cX8_spoken 9 = .ok (.iconst 0, 1) := by decide +kernel
theorem dX8_spoken_10 : decode cX8_spoken 10 = .ok (.iaload, 1) := by decide +kernel
theorem dX8_spoken_11 : decode cX8_spoken 11 = .ok (.ifCond .ne 5, 3) := by decide +kernel
theorem dX8_spoken_14 : decode cX8_spoken 14 = .ok (.iconst (-1), 1) := by decide +kernel
theorem dX8_spoken_15 : decode cX8_spoken 15 = .ok (.ireturn, 1) := by decide +kernel
theorem dX8_spoken_16 : decode cX8_spoken 16 = .ok (.iconst 0, 1) := by decide +kernel
theorem dX8_spoken_17 : decode cX8_spoken 17 = .ok (.istore_n 1, 1) := by decide +kernel
theorem dX8_spoken_18 : decode cX8_spoken 18 = .ok (.iconst 0, 1) := by decide +kernel
theorem dX8_spoken_19 : decode cX8_spoken 19 = .ok (.istore_n 2, 1) := by decide +kernel
theorem dX8_spoken_20 : decode cX8_spoken 20 = .ok (.iconst 0, 1) := by decide +kernel
theorem dX8_spoken_21 : decode cX8_spoken 21 = .ok (.istore_n 3, 1) := by decide +kernel
theorem dX8_spoken_22 : decode cX8_spoken 22 = .ok (.iconst 0, 1) := by decide +kernel
theorem dX8_spoken_23 : decode cX8_spoken 23 = .ok (.istore 4, 2) := by decide +kernel
theorem dX8_spoken_25 : decode cX8_spoken 25 = .ok (.iconst 0, 1) := by decide +kernel
theorem dX8_spoken_26 : decode cX8_spoken 26 = .ok (.istore 5, 2) := by decide +kernel
theorem dX8_spoken_28 : decode cX8_spoken 28 = .ok (.iconst 0, 1) := by decide +kernel
theorem dX8_spoken_29 : decode cX8_spoken 29 = .ok (.istore 6, 2) := by decide +kernel
theorem dX8_spoken_31 : decode cX8_spoken 31 = .ok (.iload 6, 2) := by decide +kernel
theorem dX8_spoken_33 : decode cX8_spoken 33 = .ok (.iconst 3, 1) := by decide +kernel
theorem dX8_spoken_34 : decode cX8_spoken 34 = .ok (.if_icmp .ge 124, 3) := by decide +kernel
theorem dX8_spoken_37 : decode cX8_spoken 37 = .ok (.iload_n 1, 1) := by decide +kernel
theorem dX8_spoken_38 : decode cX8_spoken 38 = .ok (.aload_n 0, 1) := by decide +kernel
theorem dX8_spoken_39 : decode cX8_spoken 39 = .ok (.getfield 38, 3) := by decide +kernel
theorem dX8_spoken_42 : decode cX8_spoken 42 = .ok (.iconst 0, 1) := by decide +kernel
theorem dX8_spoken_43 : decode cX8_spoken 43 = .ok (.iaload, 1) := by decide +kernel
theorem dX8_spoken_44 : decode cX8_spoken 44 = .ok (.if_icmp .ge 114, 3) := by decide +kernel
theorem dX8_spoken_47 : decode cX8_spoken 47 = .ok (.aload_n 0, 1) := by decide +kernel
theorem dX8_spoken_48 : decode cX8_spoken 48 = .ok (.iload_n 1, 1) := by decide +kernel
theorem dX8_spoken_49 : decode cX8_spoken 49 = .ok (.invokevirtual 312, 3) := by decide +kernel
theorem dX8_spoken_52 : decode cX8_spoken 52 = .ok (.istore 7, 2) := by decide +kernel
theorem dX8_spoken_54 : decode cX8_spoken 54 = .ok (.aload_n 0, 1) := by decide +kernel
theorem dX8_spoken_55 : decode cX8_spoken 55 = .ok (.getfield 309, 3) := by decide +kernel
theorem dX8_spoken_58 : decode cX8_spoken 58 = .ok (.iconst 1, 1) := by decide +kernel
theorem dX8_spoken_59 : decode cX8_spoken 59 = .ok (.iadd, 1) := by decide +kernel
theorem dX8_spoken_60 : decode cX8_spoken 60 = .ok (.istore 8, 2) := by decide +kernel
theorem dX8_spoken_62 : decode cX8_spoken 62 = .ok (.iload 7, 2) := by decide +kernel
theorem dX8_spoken_64 : decode cX8_spoken 64 = .ok (.ifCond .ne 6, 3) := by decide +kernel
theorem dX8_spoken_67 : decode cX8_spoken 67 = .ok (.goto 91, 3) := by decide +kernel
theorem dX8_spoken_70 : decode cX8_spoken 70 = .ok (.iload 8, 2) := by decide +kernel
theorem dX8_spoken_72 : decode cX8_spoken 72 = .ok (.aload_n 0, 1) := by decide +kernel
theorem dX8_spoken_73 : decode cX8_spoken 73 = .ok (.getfield 38, 3) := by decide +kernel
theorem dX8_spoken_76 : decode cX8_spoken 76 = .ok (.iconst 0, 1) := by decide +kernel
theorem dX8_spoken_77 : decode cX8_spoken 77 = .ok (.iaload, 1) := by decide +kernel
theorem dX8_spoken_78 : decode cX8_spoken 78 = .ok (.if_icmp .ge 27, 3) := by decide +kernel
theorem dX8_spoken_81 : decode cX8_spoken 81 = .ok (.aload_n 0, 1) := by decide +kernel
theorem dX8_spoken_82 : decode cX8_spoken 82 = .ok (.iload 8, 2) := by decide +kernel
theorem dX8_spoken_84 : decode cX8_spoken 84 = .ok (.ldc2_w 298, 3) := by decide +kernel
theorem dX8_spoken_87 : decode cX8_spoken 87 = .ok (.invokevirtual 315, 3) := by decide +kernel
theorem dX8_spoken_90 : decode cX8_spoken 90 = .ok (.ifCond .eq 15, 3) := by decide +kernel
theorem dX8_spoken_93 : decode cX8_spoken 93 = .ok (.iload 7, 2) := by decide +kernel
theorem dX8_spoken_95 : decode cX8_spoken 95 = .ok (.istore_n 3, 1) := by decide +kernel
theorem dX8_spoken_96 : decode cX8_spoken 96 = .ok (.iload 8, 2) := by decide +kernel
theorem dX8_spoken_98 : decode cX8_spoken 98 = .ok (.bipush 8, 2) := by decide +kernel
theorem dX8_spoken_100 : decode cX8_spoken 100 = .ok (.iadd, 1) := by decide +kernel
theorem dX8_spoken_101 : decode cX8_spoken 101 = .ok (.istore_n 1, 1) := by decide +kernel
theorem dX8_spoken_102 : decode cX8_spoken 102 = .ok (.goto 50, 3) := by decide +kernel
theorem dX8_spoken_105 : decode cX8_spoken 105 = .ok (.iload 8, 2) := by decide +kernel
theorem dX8_spoken_107 : decode cX8_spoken 107 = .ok (.aload_n 0, 1) := by decide +kernel
theorem dX8_spoken_108 : decode cX8_spoken 108 = .ok (.getfield 38, 3) := by decide +kernel
theorem dX8_spoken_111 : decode cX8_spoken 111 = .ok (.iconst 0, 1) := by decide +kernel
theorem dX8_spoken_112 : decode cX8_spoken 112 = .ok (.iaload, 1) := by decide +kernel
theorem dX8_spoken_113 : decode cX8_spoken 113 = .ok (.if_icmp .ge 28, 3) := by decide +kernel
theorem dX8_spoken_116 : decode cX8_spoken 116 = .ok (.aload_n 0, 1) := by decide +kernel
theorem dX8_spoken_117 : decode cX8_spoken 117 = .ok (.iload 8, 2) := by decide +kernel
theorem dX8_spoken_119 : decode cX8_spoken 119 = .ok (.ldc2_w 300, 3) := by decide +kernel
theorem dX8_spoken_122 : decode cX8_spoken 122 = .ok (.invokevirtual 315, 3) := by decide +kernel
theorem dX8_spoken_125 : decode cX8_spoken 125 = .ok (.ifCond .eq 16, 3) := by decide +kernel
theorem dX8_spoken_128 : decode cX8_spoken 128 = .ok (.iload 7, 2) := by decide +kernel
theorem dX8_spoken_130 : decode cX8_spoken 130 = .ok (.istore 4, 2) := by decide +kernel
theorem dX8_spoken_132 : decode cX8_spoken 132 = .ok (.iload 8, 2) := by decide +kernel
theorem dX8_spoken_134 : decode cX8_spoken 134 = .ok (.bipush 9, 2) := by decide +kernel
theorem dX8_spoken_136 : decode cX8_spoken 136 = .ok (.iadd, 1) := by decide +kernel
theorem dX8_spoken_137 : decode cX8_spoken 137 = .ok (.istore_n 1, 1) := by decide +kernel
theorem dX8_spoken_138 : decode cX8_spoken 138 = .ok (.goto 14, 3) := by decide +kernel
theorem dX8_spoken_141 : decode cX8_spoken 141 = .ok (.iload 7, 2) := by decide +kernel
theorem dX8_spoken_143 : decode cX8_spoken 143 = .ok (.istore 5, 2) := by decide +kernel
theorem dX8_spoken_145 : decode cX8_spoken 145 = .ok (.aload_n 0, 1) := by decide +kernel
theorem dX8_spoken_146 : decode cX8_spoken 146 = .ok (.getfield 38, 3) := by decide +kernel
theorem dX8_spoken_149 : decode cX8_spoken 149 = .ok (.iconst 0, 1) := by decide +kernel
theorem dX8_spoken_150 : decode cX8_spoken 150 = .ok (.iaload, 1) := by decide +kernel
theorem dX8_spoken_151 : decode cX8_spoken 151 = .ok (.istore_n 1, 1) := by decide +kernel
theorem dX8_spoken_152 : decode cX8_spoken 152 = .ok (.iinc 6 1, 3) := by decide +kernel
theorem dX8_spoken_155 : decode cX8_spoken 155 = .ok (.goto (-124), 3) := by decide +kernel
theorem dX8_spoken_158 : decode cX8_spoken 158 = .ok (.ldc_w 294, 3) := by decide +kernel
theorem dX8_spoken_161 : decode cX8_spoken 161 = .ok (.iload_n 3, 1) := by decide +kernel
theorem dX8_spoken_162 : decode cX8_spoken 162 = .ok (.imul, 1) := by decide +kernel
theorem dX8_spoken_163 : decode cX8_spoken 163 = .ok (.sipush 1000, 3) := by decide +kernel
theorem dX8_spoken_166 : decode cX8_spoken 166 = .ok (.iload 4, 2) := by decide +kernel
theorem dX8_spoken_168 : decode cX8_spoken 168 = .ok (.imul, 1) := by decide +kernel
theorem dX8_spoken_169 : decode cX8_spoken 169 = .ok (.iadd, 1) := by decide +kernel
theorem dX8_spoken_170 : decode cX8_spoken 170 = .ok (.iload 5, 2) := by decide +kernel
theorem dX8_spoken_172 : decode cX8_spoken 172 = .ok (.iadd, 1) := by decide +kernel
theorem dX8_spoken_173 : decode cX8_spoken 173 = .ok (.istore_n 2, 1) := by decide +kernel
theorem dX8_spoken_174 : decode cX8_spoken 174 = .ok (.aload_n 0, 1) := by decide +kernel
theorem dX8_spoken_175 : decode cX8_spoken 175 = .ok (.iload_n 2, 1) := by decide +kernel
theorem dX8_spoken_176 : decode cX8_spoken 176 = .ok (.invokevirtual 303, 3) := by decide +kernel
theorem dX8_spoken_179 : decode cX8_spoken 179 = .ok (.aload_n 0, 1) := by decide +kernel
theorem dX8_spoken_180 : decode cX8_spoken 180 = .ok (.getfield 187, 3) := by decide +kernel
theorem dX8_spoken_183 : decode cX8_spoken 183 = .ok (.aload_n 0, 1) := by decide +kernel
theorem dX8_spoken_184 : decode cX8_spoken 184 = .ok (.getfield 38, 3) := by decide +kernel
theorem dX8_spoken_187 : decode cX8_spoken 187 = .ok (.iconst 0, 1) := by decide +kernel
theorem dX8_spoken_188 : decode cX8_spoken 188 = .ok (.iaload, 1) := by decide +kernel
theorem dX8_spoken_189 : decode cX8_spoken 189 = .ok (.if_icmp .ne 15, 3) := by decide +kernel
theorem dX8_spoken_192 : decode cX8_spoken 192 = .ok (.aload_n 0, 1) := by decide +kernel
theorem dX8_spoken_193 : decode cX8_spoken 193 = .ok (.iconst 0, 1) := by decide +kernel
theorem dX8_spoken_194 : decode cX8_spoken 194 = .ok (.invokevirtual 306, 3) := by decide +kernel
theorem dX8_spoken_197 : decode cX8_spoken 197 = .ok (.ifCond .eq 7, 3) := by decide +kernel
theorem dX8_spoken_200 : decode cX8_spoken 200 = .ok (.iload_n 2, 1) := by decide +kernel
theorem dX8_spoken_201 : decode cX8_spoken 201 = .ok (.goto 4, 3) := by decide +kernel
theorem dX8_spoken_204 : decode cX8_spoken 204 = .ok (.iconst (-1), 1) := by decide +kernel
theorem dX8_spoken_205 : decode cX8_spoken 205 = .ok (.ireturn, 1) := by decide +kernel
theorem dX8_other_0 : decode cX8_other 0 = .ok (.aload_n 0, 1) := by decide +kernel
theorem dX8_other_1 : decode cX8_other 1 = .ok (.iconst 0, 1) := by decide +kernel
theorem dX8_other_2 : decode cX8_other 2 = .ok (.putfield 86, 3) := by decide +kernel
theorem dX8_other_5 : decode cX8_other 5 = .ok (.aload_n 0, 1) := by decide +kernel
theorem dX8_other_6 : decode cX8_other 6 = .ok (.iload_n 2, 1) := by decide +kernel
theorem dX8_other_7 : decode cX8_other 7 = .ok (.invokevirtual 178, 3) := by decide +kernel
theorem dX8_other_10 : decode cX8_other 10 = .ok (.ifCond .eq 16, 3) := by decide +kernel
theorem dX8_other_13 : decode cX8_other 13 = .ok (.aload_n 0, 1) := by decide +kernel
theorem dX8_other_14 : decode cX8_other 14 = .ok (.iload_n 1, 1) := by decide +kernel
theorem dX8_other_15 : decode cX8_other 15 = .ok (.iload_n 3, 1) := by decide +kernel
theorem dX8_other_16 : decode cX8_other 16 = .ok (.lload 4, 2) := by decide +kernel
theorem dX8_other_18 : decode cX8_other 18 = .ok (.iload 6, 2) := by decide +kernel
theorem dX8_other_20 : decode cX8_other 20 = .ok (.invokevirtual 216, 3) := by decide +kernel
theorem dX8_other_23 : decode cX8_other 23 = .ok (.ifCond .ne 7, 3) := by decide +kernel
theorem dX8_other_26 : decode cX8_other 26 = .ok (.ldc2_w 82, 3) := by decide +kernel
theorem dX8_other_29 : decode cX8_other 29 = .ok (.lreturn, 1) := by decide +kernel
theorem dX8_other_30 : decode cX8_other 30 = .ok (.aload_n 0, 1) := by decide +kernel
theorem dX8_other_31 : decode cX8_other 31 = .ok (.aload_n 0, 1) := by decide +kernel
theorem dX8_other_32 : decode cX8_other 32 = .ok (.getfield 187, 3) := by decide +kernel
theorem dX8_other_35 : decode cX8_other 35 = .ok (.putfield 98, 3) := by decide +kernel
theorem dX8_other_38 : decode cX8_other 38 = .ok (.iconst 0, 1) := by decide +kernel
theorem dX8_other_39 : decode cX8_other 39 = .ok (.istore 7, 2) := by decide +kernel
theorem dX8_other_41 : decode cX8_other 41 = .ok (.iload 7, 2) := by decide +kernel
theorem dX8_other_43 : decode cX8_other 43 = .ok (.aload_n 0, 1) := by decide +kernel
theorem dX8_other_44 : decode cX8_other 44 = .ok (.getfield 187, 3) := by decide +kernel
theorem dX8_other_47 : decode cX8_other 47 = .ok (.if_icmp .ge 23, 3) := by decide +kernel
theorem dX8_other_50 : decode cX8_other 50 = .ok (.aload_n 0, 1) := by decide +kernel
theorem dX8_other_51 : decode cX8_other 51 = .ok (.getfield 67, 3) := by decide +kernel
theorem dX8_other_54 : decode cX8_other 54 = .ok (.iload 7, 2) := by decide +kernel
theorem dX8_other_56 : decode cX8_other 56 = .ok (.aload_n 0, 1) := by decide +kernel
theorem dX8_other_57 : decode cX8_other 57 = .ok (.getfield 76, 3) := by decide +kernel
theorem dX8_other_60 : decode cX8_other 60 = .ok (.iload 7, 2) := by decide +kernel
theorem dX8_other_62 : decode cX8_other 62 = .ok (.iaload, 1) := by decide +kernel
theorem dX8_other_63 : decode cX8_other 63 = .ok (.iastore, 1) := by decide +kernel
theorem dX8_other_64 : decode cX8_other 64 = .ok (.iinc 7 1, 3) := by decide +kernel
theorem dX8_other_67 : decode cX8_other 67 = .ok (.goto (-26), 3) := by decide +kernel
theorem dX8_other_70 : decode cX8_other 70 = .ok (.aload_n 0, 1) := by decide +kernel
theorem dX8_other_71 : decode cX8_other 71 = .ok (.iload_n 2, 1) := by decide +kernel
theorem dX8_other_72 : decode cX8_other 72 = .ok (.iload_n 3, 1) := by decide +kernel
theorem dX8_other_73 : decode cX8_other 73 = .ok (.aload_n 0, 1) := by decide +kernel
theorem dX8_other_74 : decode cX8_other 74 = .ok (.getfield 98, 3) := by decide +kernel
theorem dX8_other_77 : decode cX8_other 77 = .ok (.invokevirtual 175, 3) := by decide +kernel
theorem dX8_other_80 : decode cX8_other 80 = .ok (.iconst 2, 1) := by decide +kernel
theorem dX8_other_81 : decode cX8_other 81 = .ok (.if_icmp .ne 10, 3) := by decide +kernel
theorem dX8_other_84 : decode cX8_other 84 = .ok (.aload_n 0, 1) := by decide +kernel
theorem dX8_other_85 : decode cX8_other 85 = .ok (.getfield 124, 3) := by decide +kernel
theorem dX8_other_88 : decode cX8_other 88 = .ok (.goto 6, 3) := by decide +kernel
theorem dX8_other_91 : decode cX8_other 91 = .ok (.ldc2_w 82, 3) := by decide +kernel
theorem dX8_other_94 : decode cX8_other 94 = .ok (.lreturn, 1) := by decide +kernel
theorem dX8_row_0 : decode cX8_row 0 = .ok (.aload_n 0, 1) := by decide +kernel
theorem dX8_row_1 : decode cX8_row 1 = .ok (.iconst 0, 1) := by decide +kernel
theorem dX8_row_2 : decode cX8_row 2 = .ok (.putfield 86, 3) := by decide +kernel
theorem dX8_row_5 : decode cX8_row 5 = .ok (.aload_n 0, 1) := by decide +kernel
theorem dX8_row_6 : decode cX8_row 6 = .ok (.getfield 51, 3) := by decide +kernel
theorem dX8_row_9 : decode cX8_row 9 = .ok (.iconst 0, 1) := by decide +kernel
theorem dX8_row_10 : decode cX8_row 10 = .ok (.iaload, 1) := by decide +kernel
theorem dX8_row_11 : decode cX8_row 11 = .ok (.bipush 30, 2) := by decide +kernel
theorem dX8_row_13 : decode cX8_row 13 = .ok (.if_icmp .ne 5, 3) := by decide +kernel
theorem dX8_row_16 : decode cX8_row 16 = .ok (.iconst (-1), 1) := by decide +kernel
theorem dX8_row_17 : decode cX8_row 17 = .ok (.ireturn, 1) := by decide +kernel
theorem dX8_row_18 : decode cX8_row 18 = .ok (.aload_n 0, 1) := by decide +kernel
theorem dX8_row_19 : decode cX8_row 19 = .ok (.getfield 51, 3) := by decide +kernel
theorem dX8_row_22 : decode cX8_row 22 = .ok (.iconst 0, 1) := by decide +kernel
theorem dX8_row_23 : decode cX8_row 23 = .ok (.iaload, 1) := by decide +kernel
theorem dX8_row_24 : decode cX8_row 24 = .ok (.istore_n 1, 1) := by decide +kernel
theorem dX8_row_25 : decode cX8_row 25 = .ok (.aload_n 0, 1) := by decide +kernel
theorem dX8_row_26 : decode cX8_row 26 = .ok (.getfield 51, 3) := by decide +kernel
theorem dX8_row_29 : decode cX8_row 29 = .ok (.iconst 0, 1) := by decide +kernel
theorem dX8_row_30 : decode cX8_row 30 = .ok (.dup2, 1) := by decide +kernel
theorem dX8_row_31 : decode cX8_row 31 = .ok (.iaload, 1) := by decide +kernel
theorem dX8_row_32 : decode cX8_row 32 = .ok (.iconst 1, 1) := by decide +kernel
theorem dX8_row_33 : decode cX8_row 33 = .ok (.iadd, 1) := by decide +kernel
theorem dX8_row_34 : decode cX8_row 34 = .ok (.iastore, 1) := by decide +kernel
theorem dX8_row_35 : decode cX8_row 35 = .ok (.aload_n 0, 1) := by decide +kernel
theorem dX8_row_36 : decode cX8_row 36 = .ok (.getfield 54, 3) := by decide +kernel
theorem dX8_row_39 : decode cX8_row 39 = .ok (.iload_n 1, 1) := by decide +kernel
theorem dX8_row_40 : decode cX8_row 40 = .ok (.aload_n 0, 1) := by decide +kernel
theorem dX8_row_41 : decode cX8_row 41 = .ok (.getfield 38, 3) := by decide +kernel
theorem dX8_row_44 : decode cX8_row 44 = .ok (.iconst 0, 1) := by decide +kernel
theorem dX8_row_45 : decode cX8_row 45 = .ok (.iaload, 1) := by decide +kernel
theorem dX8_row_46 : decode cX8_row 46 = .ok (.iastore, 1) := by decide +kernel
theorem dX8_row_47 : decode cX8_row 47 = .ok (.iconst 0, 1) := by decide +kernel
theorem dX8_row_48 : decode cX8_row 48 = .ok (.istore_n 2, 1) := by decide +kernel
theorem dX8_row_49 : decode cX8_row 49 = .ok (.iload_n 2, 1) := by decide +kernel
theorem dX8_row_50 : decode cX8_row 50 = .ok (.aload_n 0, 1) := by decide +kernel
theorem dX8_row_51 : decode cX8_row 51 = .ok (.getfield 38, 3) := by decide +kernel
theorem dX8_row_54 : decode cX8_row 54 = .ok (.iconst 0, 1) := by decide +kernel
theorem dX8_row_55 : decode cX8_row 55 = .ok (.iaload, 1) := by decide +kernel
theorem dX8_row_56 : decode cX8_row 56 = .ok (.if_icmp .ge 27, 3) := by decide +kernel
theorem dX8_row_59 : decode cX8_row 59 = .ok (.aload_n 0, 1) := by decide +kernel
theorem dX8_row_60 : decode cX8_row 60 = .ok (.getfield 57, 3) := by decide +kernel
theorem dX8_row_63 : decode cX8_row 63 = .ok (.bipush 60, 2) := by decide +kernel
theorem dX8_row_65 : decode cX8_row 65 = .ok (.iload_n 1, 1) := by decide +kernel
theorem dX8_row_66 : decode cX8_row 66 = .ok (.imul, 1) := by decide +kernel
theorem dX8_row_67 : decode cX8_row 67 = .ok (.iload_n 2, 1) := by decide +kernel
theorem dX8_row_68 : decode cX8_row 68 = .ok (.iadd, 1) := by decide +kernel
theorem dX8_row_69 : decode cX8_row 69 = .ok (.aload_n 0, 1) := by decide +kernel
theorem dX8_row_70 : decode cX8_row 70 = .ok (.getfield 41, 3) := by decide +kernel
theorem dX8_row_73 : decode cX8_row 73 = .ok (.iload_n 2, 1) := by decide +kernel
theorem dX8_row_74 : decode cX8_row 74 = .ok (.iaload, 1) := by decide +kernel
theorem dX8_row_75 : decode cX8_row 75 = .ok (.i2b, 1) := by decide +kernel
theorem dX8_row_76 : decode cX8_row 76 = .ok (.bastore, 1) := by decide +kernel
theorem dX8_row_77 : decode cX8_row 77 = .ok (.iinc 2 1, 3) := by decide +kernel
theorem dX8_row_80 : decode cX8_row 80 = .ok (.goto (-31), 3) := by decide +kernel
theorem dX8_row_83 : decode cX8_row 83 = .ok (.aload_n 0, 1) := by decide +kernel
theorem dX8_row_84 : decode cX8_row 84 = .ok (.getfield 38, 3) := by decide +kernel
theorem dX8_row_87 : decode cX8_row 87 = .ok (.iconst 0, 1) := by decide +kernel
theorem dX8_row_88 : decode cX8_row 88 = .ok (.iconst 0, 1) := by decide +kernel
theorem dX8_row_89 : decode cX8_row 89 = .ok (.iastore, 1) := by decide +kernel
theorem dX8_row_90 : decode cX8_row 90 = .ok (.iload_n 1, 1) := by decide +kernel
theorem dX8_row_91 : decode cX8_row 91 = .ok (.ireturn, 1) := by decide +kernel
theorem dX8_clear_0 : decode cX8_clear 0 = .ok (.aload_n 0, 1) := by decide +kernel
theorem dX8_clear_1 : decode cX8_clear 1 = .ok (.iconst 0, 1) := by decide +kernel
theorem dX8_clear_2 : decode cX8_clear 2 = .ok (.putfield 86, 3) := by decide +kernel
theorem dX8_clear_5 : decode cX8_clear 5 = .ok (.aload_n 0, 1) := by decide +kernel
theorem dX8_clear_6 : decode cX8_clear 6 = .ok (.getfield 51, 3) := by decide +kernel
theorem dX8_clear_9 : decode cX8_clear 9 = .ok (.iconst 0, 1) := by decide +kernel
theorem dX8_clear_10 : decode cX8_clear 10 = .ok (.iconst 0, 1) := by decide +kernel
theorem dX8_clear_11 : decode cX8_clear 11 = .ok (.iastore, 1) := by decide +kernel
theorem dX8_clear_12 : decode cX8_clear 12 = .ok (.return_, 1) := by decide +kernel
theorem dX8_firstMisfit_0 : decode cX8_firstMisfit 0 = .ok (.iconst 0, 1) := by decide +kernel
theorem dX8_firstMisfit_1 : decode cX8_firstMisfit 1 = .ok (.istore_n 3, 1) := by decide +kernel
theorem dX8_firstMisfit_2 : decode cX8_firstMisfit 2 = .ok (.iload_n 3, 1) := by decide +kernel
theorem dX8_firstMisfit_3 : decode cX8_firstMisfit 3 = .ok (.aload_n 0, 1) := by decide +kernel
theorem dX8_firstMisfit_4 : decode cX8_firstMisfit 4 = .ok (.getfield 51, 3) := by decide +kernel
theorem dX8_firstMisfit_7 : decode cX8_firstMisfit 7 = .ok (.iconst 0, 1) := by decide +kernel
theorem dX8_firstMisfit_8 : decode cX8_firstMisfit 8 = .ok (.iaload, 1) := by decide +kernel
theorem dX8_firstMisfit_9 : decode cX8_firstMisfit 9 = .ok (.if_icmp .ge 25, 3) := by decide +kernel
theorem dX8_firstMisfit_12 : decode cX8_firstMisfit 12 = .ok (.aload_n 0, 1) := by decide +kernel
theorem dX8_firstMisfit_13 : decode cX8_firstMisfit 13 = .ok (.iload_n 3, 1) := by decide +kernel
theorem dX8_firstMisfit_14 : decode cX8_firstMisfit 14 = .ok (.invokevirtual 318, 3) := by decide +kernel
theorem dX8_firstMisfit_17 : decode cX8_firstMisfit 17 = .ok (.aload_n 0, 1) := by decide +kernel
theorem dX8_firstMisfit_18 : decode cX8_firstMisfit 18 = .ok (.iload_n 1, 1) := by decide +kernel
theorem dX8_firstMisfit_19 : decode cX8_firstMisfit 19 = .ok (.iload_n 2, 1) := by decide +kernel
theorem dX8_firstMisfit_20 : decode cX8_firstMisfit 20 = .ok (.invokevirtual 184, 3) := by decide +kernel
theorem dX8_firstMisfit_23 : decode cX8_firstMisfit 23 = .ok (.ifCond .ne 5, 3) := by decide +kernel
theorem dX8_firstMisfit_26 : decode cX8_firstMisfit 26 = .ok (.iload_n 3, 1) := by decide +kernel
theorem dX8_firstMisfit_27 : decode cX8_firstMisfit 27 = .ok (.ireturn, 1) := by decide +kernel
theorem dX8_firstMisfit_28 : decode cX8_firstMisfit 28 = .ok (.iinc 3 1, 3) := by decide +kernel
theorem dX8_firstMisfit_31 : decode cX8_firstMisfit 31 = .ok (.goto (-29), 3) := by decide +kernel
theorem dX8_firstMisfit_34 : decode cX8_firstMisfit 34 = .ok (.iconst (-1), 1) := by decide +kernel
theorem dX8_firstMisfit_35 : decode cX8_firstMisfit 35 = .ok (.ireturn, 1) := by decide +kernel
theorem dX8_fit_0 : decode cX8_fit 0 = .ok (.aload_n 0, 1) := by decide +kernel
theorem dX8_fit_1 : decode cX8_fit 1 = .ok (.iconst 0, 1) := by decide +kernel
theorem dX8_fit_2 : decode cX8_fit 2 = .ok (.putfield 86, 3) := by decide +kernel
theorem dX8_fit_5 : decode cX8_fit 5 = .ok (.iload_n 1, 1) := by decide +kernel
theorem dX8_fit_6 : decode cX8_fit 6 = .ok (.iconst 0, 1) := by decide +kernel
theorem dX8_fit_7 : decode cX8_fit 7 = .ok (.iconst 2, 1) := by decide +kernel
theorem dX8_fit_8 : decode cX8_fit 8 = .ok (.invokestatic 94, 3) := by decide +kernel
theorem dX8_fit_11 : decode cX8_fit 11 = .ok (.ifCond .ne 5, 3) := by decide +kernel
theorem dX8_fit_14 : decode cX8_fit 14 = .ok (.iconst (-1), 1) := by decide +kernel
theorem dX8_fit_15 : decode cX8_fit 15 = .ok (.ireturn, 1) := by decide +kernel
theorem dX8_fit_16 : decode cX8_fit 16 = .ok (.iconst 0, 1) := by decide +kernel
theorem dX8_fit_17 : decode cX8_fit 17 = .ok (.istore_n 2, 1) := by decide +kernel
theorem dX8_fit_18 : decode cX8_fit 18 = .ok (.iconst 0, 1) := by decide +kernel
theorem dX8_fit_19 : decode cX8_fit 19 = .ok (.istore_n 3, 1) := by decide +kernel
theorem dX8_fit_20 : decode cX8_fit 20 = .ok (.iload_n 3, 1) := by decide +kernel
theorem dX8_fit_21 : decode cX8_fit 21 = .ok (.aload_n 0, 1) := by decide +kernel
theorem dX8_fit_22 : decode cX8_fit 22 = .ok (.getfield 7, 3) := by decide +kernel
theorem dX8_fit_25 : decode cX8_fit 25 = .ok (.iconst 0, 1) := by decide +kernel
theorem dX8_fit_26 : decode cX8_fit 26 = .ok (.iaload, 1) := by decide +kernel
theorem dX8_fit_27 : decode cX8_fit 27 = .ok (.if_icmp .ge 29, 3) := by decide +kernel
theorem dX8_fit_30 : decode cX8_fit 30 = .ok (.iload_n 2, 1) := by decide +kernel
theorem dX8_fit_31 : decode cX8_fit 31 = .ok (.aload_n 0, 1) := by decide +kernel
theorem dX8_fit_32 : decode cX8_fit 32 = .ok (.iload_n 3, 1) := by decide +kernel
theorem dX8_fit_33 : decode cX8_fit 33 = .ok (.iload_n 1, 1) := by decide +kernel
theorem dX8_fit_34 : decode cX8_fit 34 = .ok (.invokevirtual 321, 3) := by decide +kernel
theorem dX8_fit_37 : decode cX8_fit 37 = .ok (.iconst (-1), 1) := by decide +kernel
theorem dX8_fit_38 : decode cX8_fit 38 = .ok (.if_icmp .ne 9, 3) := by decide +kernel
theorem dX8_fit_41 : decode cX8_fit 41 = .ok (.iconst 1, 1) := by decide +kernel
theorem dX8_fit_42 : decode cX8_fit 42 = .ok (.iload_n 3, 1) := by decide +kernel
theorem dX8_fit_43 : decode cX8_fit 43 = .ok (.ishl, 1) := by decide +kernel
theorem dX8_fit_44 : decode cX8_fit 44 = .ok (.goto 4, 3) := by decide +kernel
theorem dX8_fit_47 : decode cX8_fit 47 = .ok (.iconst 0, 1) := by decide +kernel
theorem dX8_fit_48 : decode cX8_fit 48 = .ok (.ior, 1) := by decide +kernel
theorem dX8_fit_49 : decode cX8_fit 49 = .ok (.istore_n 2, 1) := by decide +kernel
theorem dX8_fit_50 : decode cX8_fit 50 = .ok (.iinc 3 1, 3) := by decide +kernel
theorem dX8_fit_53 : decode cX8_fit 53 = .ok (.goto (-33), 3) := by decide +kernel
theorem dX8_fit_56 : decode cX8_fit 56 = .ok (.iload_n 2, 1) := by decide +kernel
theorem dX8_fit_57 : decode cX8_fit 57 = .ok (.ireturn, 1) := by decide +kernel
theorem dX8_misfit_0 : decode cX8_misfit 0 = .ok (.aload_n 0, 1) := by decide +kernel
theorem dX8_misfit_1 : decode cX8_misfit 1 = .ok (.iconst 0, 1) := by decide +kernel
theorem dX8_misfit_2 : decode cX8_misfit 2 = .ok (.putfield 86, 3) := by decide +kernel
theorem dX8_misfit_5 : decode cX8_misfit 5 = .ok (.aload_n 0, 1) := by decide +kernel
theorem dX8_misfit_6 : decode cX8_misfit 6 = .ok (.iload_n 1, 1) := by decide +kernel
theorem dX8_misfit_7 : decode cX8_misfit 7 = .ok (.invokevirtual 178, 3) := by decide +kernel
theorem dX8_misfit_10 : decode cX8_misfit 10 = .ok (.ifCond .eq 21, 3) := by decide +kernel
theorem dX8_misfit_13 : decode cX8_misfit 13 = .ok (.iload_n 2, 1) := by decide +kernel
theorem dX8_misfit_14 : decode cX8_misfit 14 = .ok (.iconst 0, 1) := by decide +kernel
theorem dX8_misfit_15 : decode cX8_misfit 15 = .ok (.iconst 2, 1) := by decide +kernel
theorem dX8_misfit_16 : decode cX8_misfit 16 = .ok (.invokestatic 94, 3) := by decide +kernel
theorem dX8_misfit_19 : decode cX8_misfit 19 = .ok (.ifCond .eq 12, 3) := by decide +kernel
theorem dX8_misfit_22 : decode cX8_misfit 22 = .ok (.aload_n 0, 1) := by decide +kernel
theorem dX8_misfit_23 : decode cX8_misfit 23 = .ok (.iload_n 1, 1) := by decide +kernel
theorem dX8_misfit_24 : decode cX8_misfit 24 = .ok (.iload_n 2, 1) := by decide +kernel
theorem dX8_misfit_25 : decode cX8_misfit 25 = .ok (.invokevirtual 321, 3) := by decide +kernel
theorem dX8_misfit_28 : decode cX8_misfit 28 = .ok (.goto 4, 3) := by decide +kernel
theorem dX8_misfit_31 : decode cX8_misfit 31 = .ok (.iconst (-1), 1) := by decide +kernel
theorem dX8_misfit_32 : decode cX8_misfit 32 = .ok (.ireturn, 1) := by decide +kernel
theorem dX8_sum_0 : decode cX8_sum 0 = .ok (.aload_n 0, 1) := by decide +kernel
theorem dX8_sum_1 : decode cX8_sum 1 = .ok (.iconst 0, 1) := by decide +kernel
theorem dX8_sum_2 : decode cX8_sum 2 = .ok (.putfield 86, 3) := by decide +kernel
theorem dX8_sum_5 : decode cX8_sum 5 = .ok (.aload_n 0, 1) := by decide +kernel
theorem dX8_sum_6 : decode cX8_sum 6 = .ok (.iload_n 1, 1) := by decide +kernel
theorem dX8_sum_7 : decode cX8_sum 7 = .ok (.invokevirtual 178, 3) := by decide +kernel
theorem dX8_sum_10 : decode cX8_sum 10 = .ok (.ifCond .eq 12, 3) := by decide +kernel
theorem dX8_sum_13 : decode cX8_sum 13 = .ok (.iload_n 2, 1) := by decide +kernel
theorem dX8_sum_14 : decode cX8_sum 14 = .ok (.iconst 0, 1) := by decide +kernel
theorem dX8_sum_15 : decode cX8_sum 15 = .ok (.iconst 1, 1) := by decide +kernel
theorem dX8_sum_16 : decode cX8_sum 16 = .ok (.invokestatic 94, 3) := by decide +kernel
theorem dX8_sum_19 : decode cX8_sum 19 = .ok (.ifCond .ne 7, 3) := by decide +kernel
theorem dX8_sum_22 : decode cX8_sum 22 = .ok (.ldc2_w 82, 3) := by decide +kernel
theorem dX8_sum_25 : decode cX8_sum 25 = .ok (.lreturn, 1) := by decide +kernel
theorem dX8_sum_26 : decode cX8_sum 26 = .ok (.lconst 0, 1) := by decide +kernel
theorem dX8_sum_27 : decode cX8_sum 27 = .ok (.lstore_n 3, 1) := by decide +kernel
theorem dX8_sum_28 : decode cX8_sum 28 = .ok (.iconst 0, 1) := by decide +kernel
theorem dX8_sum_29 : decode cX8_sum 29 = .ok (.istore 5, 2) := by decide +kernel
theorem dX8_sum_31 : decode cX8_sum 31 = .ok (.iload 5, 2) := by decide +kernel
theorem dX8_sum_33 : decode cX8_sum 33 = .ok (.aload_n 0, 1) := by decide +kernel
theorem dX8_sum_34 : decode cX8_sum 34 = .ok (.getfield 51, 3) := by decide +kernel
theorem dX8_sum_37 : decode cX8_sum 37 = .ok (.iconst 0, 1) := by decide +kernel
theorem dX8_sum_38 : decode cX8_sum 38 = .ok (.iaload, 1) := by decide +kernel
theorem dX8_sum_39 : decode cX8_sum 39 = .ok (.if_icmp .ge 35, 3) := by decide +kernel
theorem dX8_sum_42 : decode cX8_sum 42 = .ok (.aload_n 0, 1) := by decide +kernel
theorem dX8_sum_43 : decode cX8_sum 43 = .ok (.iload 5, 2) := by decide +kernel
theorem dX8_sum_45 : decode cX8_sum 45 = .ok (.invokevirtual 318, 3) := by decide +kernel
theorem dX8_sum_48 : decode cX8_sum 48 = .ok (.aload_n 0, 1) := by decide +kernel
theorem dX8_sum_49 : decode cX8_sum 49 = .ok (.iload_n 1, 1) := by decide +kernel
theorem dX8_sum_50 : decode cX8_sum 50 = .ok (.iload_n 2, 1) := by decide +kernel
theorem dX8_sum_51 : decode cX8_sum 51 = .ok (.invokevirtual 184, 3) := by decide +kernel
theorem dX8_sum_54 : decode cX8_sum 54 = .ok (.ifCond .ne 7, 3) := by decide +kernel
theorem dX8_sum_57 : decode cX8_sum 57 = .ok (.ldc2_w 82, 3) := by decide +kernel
theorem dX8_sum_60 : decode cX8_sum 60 = .ok (.lreturn, 1) := by decide +kernel
theorem dX8_sum_61 : decode cX8_sum 61 = .ok (.lload_n 3, 1) := by decide +kernel
theorem dX8_sum_62 : decode cX8_sum 62 = .ok (.aload_n 0, 1) := by decide +kernel
theorem dX8_sum_63 : decode cX8_sum 63 = .ok (.getfield 124, 3) := by decide +kernel
theorem dX8_sum_66 : decode cX8_sum 66 = .ok (.ladd, 1) := by decide +kernel
theorem dX8_sum_67 : decode cX8_sum 67 = .ok (.lstore_n 3, 1) := by decide +kernel
theorem dX8_sum_68 : decode cX8_sum 68 = .ok (.iinc 5 1, 3) := by decide +kernel
theorem dX8_sum_71 : decode cX8_sum 71 = .ok (.goto (-40), 3) := by decide +kernel
theorem dX8_sum_74 : decode cX8_sum 74 = .ok (.lload_n 3, 1) := by decide +kernel
theorem dX8_sum_75 : decode cX8_sum 75 = .ok (.lreturn, 1) := by decide +kernel
theorem dX8_count_0 : decode cX8_count 0 = .ok (.aload_n 0, 1) := by decide +kernel
theorem dX8_count_1 : decode cX8_count 1 = .ok (.iconst 0, 1) := by decide +kernel
theorem dX8_count_2 : decode cX8_count 2 = .ok (.putfield 86, 3) := by decide +kernel
theorem dX8_count_5 : decode cX8_count 5 = .ok (.iload_n 1, 1) := by decide +kernel
theorem dX8_count_6 : decode cX8_count 6 = .ok (.tableswitch 58 0 3 #[30, 37, 44, 51], 30) := by decide +kernel
theorem dX8_count_36 : decode cX8_count 36 = .ok (.aload_n 0, 1) := by decide +kernel
theorem dX8_count_37 : decode cX8_count 37 = .ok (.getfield 7, 3) := by decide +kernel
theorem dX8_count_40 : decode cX8_count 40 = .ok (.iconst 0, 1) := by decide +kernel
theorem dX8_count_41 : decode cX8_count 41 = .ok (.iaload, 1) := by decide +kernel
theorem dX8_count_42 : decode cX8_count 42 = .ok (.ireturn, 1) := by decide +kernel
theorem dX8_count_43 : decode cX8_count 43 = .ok (.aload_n 0, 1) := by decide +kernel
theorem dX8_count_44 : decode cX8_count 44 = .ok (.getfield 38, 3) := by decide +kernel
theorem dX8_count_47 : decode cX8_count 47 = .ok (.iconst 0, 1) := by decide +kernel
theorem dX8_count_48 : decode cX8_count 48 = .ok (.iaload, 1) := by decide +kernel
theorem dX8_count_49 : decode cX8_count 49 = .ok (.ireturn, 1) := by decide +kernel
theorem dX8_count_50 : decode cX8_count 50 = .ok (.aload_n 0, 1) := by decide +kernel
theorem dX8_count_51 : decode cX8_count 51 = .ok (.getfield 51, 3) := by decide +kernel
theorem dX8_count_54 : decode cX8_count 54 = .ok (.iconst 0, 1) := by decide +kernel
theorem dX8_count_55 : decode cX8_count 55 = .ok (.iaload, 1) := by decide +kernel
theorem dX8_count_56 : decode cX8_count 56 = .ok (.ireturn, 1) := by decide +kernel
theorem dX8_count_57 : decode cX8_count 57 = .ok (.aload_n 0, 1) := by decide +kernel
theorem dX8_count_58 : decode cX8_count 58 = .ok (.getfield 61, 3) := by decide +kernel
theorem dX8_count_61 : decode cX8_count 61 = .ok (.iconst 0, 1) := by decide +kernel
theorem dX8_count_62 : decode cX8_count 62 = .ok (.iaload, 1) := by decide +kernel
theorem dX8_count_63 : decode cX8_count 63 = .ok (.ireturn, 1) := by decide +kernel
theorem dX8_count_64 : decode cX8_count 64 = .ok (.iconst (-1), 1) := by decide +kernel
theorem dX8_count_65 : decode cX8_count 65 = .ok (.ireturn, 1) := by decide +kernel
theorem dX8_image_0 : decode cX8_image 0 = .ok (.aload_n 0, 1) := by decide +kernel
theorem dX8_image_1 : decode cX8_image 1 = .ok (.iconst 0, 1) := by decide +kernel
theorem dX8_image_2 : decode cX8_image 2 = .ok (.putfield 86, 3) := by decide +kernel
theorem dX8_image_5 : decode cX8_image 5 = .ok (.iload_n 1, 1) := by decide +kernel
theorem dX8_image_6 : decode cX8_image 6 = .ok (.iconst 0, 1) := by decide +kernel
theorem dX8_image_7 : decode cX8_image 7 = .ok (.iconst 2, 1) := by decide +kernel
theorem dX8_image_8 : decode cX8_image 8 = .ok (.invokestatic 94, 3) := by decide +kernel
theorem dX8_image_11 : decode cX8_image 11 = .ok (.ifCond .ne 5, 3) := by decide +kernel
theorem dX8_image_14 : decode cX8_image 14 = .ok (.iconst 0, 1) := by decide +kernel
theorem dX8_image_15 : decode cX8_image 15 = .ok (.ireturn, 1) := by decide +kernel
theorem dX8_image_16 : decode cX8_image 16 = .ok (.aload_n 0, 1) := by decide +kernel
theorem dX8_image_17 : decode cX8_image 17 = .ok (.iconst 0, 1) := by decide +kernel
theorem dX8_image_18 : decode cX8_image 18 = .ok (.iload_n 1, 1) := by decide +kernel
theorem dX8_image_19 : decode cX8_image 19 = .ok (.iconst 1, 1) := by decide +kernel
theorem dX8_image_20 : decode cX8_image 20 = .ok (.iadd, 1) := by decide +kernel
theorem dX8_image_21 : decode cX8_image 21 = .ok (.invokevirtual 324, 3) := by decide +kernel
theorem dX8_image_24 : decode cX8_image 24 = .ok (.aload_n 0, 1) := by decide +kernel
theorem dX8_image_25 : decode cX8_image 25 = .ok (.getfield 79, 3) := by decide +kernel
theorem dX8_image_28 : decode cX8_image 28 = .ok (.iload_n 1, 1) := by decide +kernel
theorem dX8_image_29 : decode cX8_image 29 = .ok (.iconst 1, 1) := by decide +kernel
theorem dX8_image_30 : decode cX8_image 30 = .ok (.bastore, 1) := by decide +kernel
theorem dX8_image_31 : decode cX8_image 31 = .ok (.iconst 1, 1) := by decide +kernel
theorem dX8_image_32 : decode cX8_image 32 = .ok (.ireturn, 1) := by decide +kernel
theorem dX8_again_0 : decode cX8_again 0 = .ok (.aload_n 0, 1) := by decide +kernel
theorem dX8_again_1 : decode cX8_again 1 = .ok (.iconst 0, 1) := by decide +kernel
theorem dX8_again_2 : decode cX8_again 2 = .ok (.putfield 86, 3) := by decide +kernel
theorem dX8_again_5 : decode cX8_again 5 = .ok (.iload_n 1, 1) := by decide +kernel
theorem dX8_again_6 : decode cX8_again 6 = .ok (.iconst 0, 1) := by decide +kernel
theorem dX8_again_7 : decode cX8_again 7 = .ok (.iconst 2, 1) := by decide +kernel
theorem dX8_again_8 : decode cX8_again 8 = .ok (.invokestatic 94, 3) := by decide +kernel
theorem dX8_again_11 : decode cX8_again 11 = .ok (.ifCond .eq 12, 3) := by decide +kernel
theorem dX8_again_14 : decode cX8_again 14 = .ok (.aload_n 0, 1) := by decide +kernel
theorem dX8_again_15 : decode cX8_again 15 = .ok (.getfield 79, 3) := by decide +kernel
theorem dX8_again_18 : decode cX8_again 18 = .ok (.iload_n 1, 1) := by decide +kernel
theorem dX8_again_19 : decode cX8_again 19 = .ok (.baload, 1) := by decide +kernel
theorem dX8_again_20 : decode cX8_again 20 = .ok (.ifCond .ne 5, 3) := by decide +kernel
theorem dX8_again_23 : decode cX8_again 23 = .ok (.iconst 0, 1) := by decide +kernel
theorem dX8_again_24 : decode cX8_again 24 = .ok (.ireturn, 1) := by decide +kernel
theorem dX8_again_25 : decode cX8_again 25 = .ok (.aload_n 0, 1) := by decide +kernel
theorem dX8_again_26 : decode cX8_again 26 = .ok (.iload_n 1, 1) := by decide +kernel
theorem dX8_again_27 : decode cX8_again 27 = .ok (.iconst 1, 1) := by decide +kernel
theorem dX8_again_28 : decode cX8_again 28 = .ok (.iadd, 1) := by decide +kernel
theorem dX8_again_29 : decode cX8_again 29 = .ok (.iconst 0, 1) := by decide +kernel
theorem dX8_again_30 : decode cX8_again 30 = .ok (.invokevirtual 324, 3) := by decide +kernel
theorem dX8_again_33 : decode cX8_again 33 = .ok (.iconst 1, 1) := by decide +kernel
theorem dX8_again_34 : decode cX8_again 34 = .ok (.ireturn, 1) := by decide +kernel
theorem dJ9_abs_067f4_0 : decode cJ9_abs_067f4 0 = .ok (.lload_n 0, 1) := by decide +kernel
theorem dJ9_abs_067f4_1 : decode cJ9_abs_067f4 1 = .ok (.lconst 0, 1) := by decide +kernel
theorem dJ9_abs_067f4_2 : decode cJ9_abs_067f4 2 = .ok (.lcmp, 1) := by decide +kernel
theorem dJ9_abs_067f4_3 : decode cJ9_abs_067f4 3 = .ok (.ifCond .ge 8, 3) := by decide +kernel
theorem dJ9_abs_067f4_6 : decode cJ9_abs_067f4 6 = .ok (.lload_n 0, 1) := by decide +kernel
theorem dJ9_abs_067f4_7 : decode cJ9_abs_067f4 7 = .ok (.lneg, 1) := by decide +kernel
theorem dJ9_abs_067f4_8 : decode cJ9_abs_067f4 8 = .ok (.goto 4, 3) := by decide +kernel
theorem dJ9_abs_067f4_11 : decode cJ9_abs_067f4 11 = .ok (.lload_n 0, 1) := by decide +kernel
theorem dJ9_abs_067f4_12 : decode cJ9_abs_067f4 12 = .ok (.lreturn, 1) := by decide +kernel
theorem dJ9_max_7cf53_0 : decode cJ9_max_7cf53 0 = .ok (.iload_n 0, 1) := by decide +kernel
theorem dJ9_max_7cf53_1 : decode cJ9_max_7cf53 1 = .ok (.iload_n 1, 1) := by decide +kernel
theorem dJ9_max_7cf53_2 : decode cJ9_max_7cf53 2 = .ok (.if_icmp .lt 7, 3) := by decide +kernel
theorem dJ9_max_7cf53_5 : decode cJ9_max_7cf53 5 = .ok (.iload_n 0, 1) := by decide +kernel
theorem dJ9_max_7cf53_6 : decode cJ9_max_7cf53 6 = .ok (.goto 4, 3) := by decide +kernel
theorem dJ9_max_7cf53_9 : decode cJ9_max_7cf53 9 = .ok (.iload_n 1, 1) := by decide +kernel
theorem dJ9_max_7cf53_10 : decode cJ9_max_7cf53 10 = .ok (.ireturn, 1) := by decide +kernel
theorem dJ9_min_7cf53_0 : decode cJ9_min_7cf53 0 = .ok (.iload_n 0, 1) := by decide +kernel
theorem dJ9_min_7cf53_1 : decode cJ9_min_7cf53 1 = .ok (.iload_n 1, 1) := by decide +kernel
theorem dJ9_min_7cf53_2 : decode cJ9_min_7cf53 2 = .ok (.if_icmp .gt 7, 3) := by decide +kernel
theorem dJ9_min_7cf53_5 : decode cJ9_min_7cf53 5 = .ok (.iload_n 0, 1) := by decide +kernel
theorem dJ9_min_7cf53_6 : decode cJ9_min_7cf53 6 = .ok (.goto 4, 3) := by decide +kernel
theorem dJ9_min_7cf53_9 : decode cJ9_min_7cf53 9 = .ok (.iload_n 1, 1) := by decide +kernel
theorem dJ9_min_7cf53_10 : decode cJ9_min_7cf53 10 = .ok (.ireturn, 1) := by decide +kernel
theorem dJ0_length_8abf5_0 : decode cJ0_length_8abf5 0 = .ok (.aload_n 0, 1) := by decide +kernel
theorem dJ0_length_8abf5_1 : decode cJ0_length_8abf5 1 = .ok (.getfield 9, 3) := by decide +kernel
theorem dJ0_length_8abf5_4 : decode cJ0_length_8abf5 4 = .ok (.arraylength, 1) := by decide +kernel
theorem dJ0_length_8abf5_5 : decode cJ0_length_8abf5 5 = .ok (.aload_n 0, 1) := by decide +kernel
theorem dJ0_length_8abf5_6 : decode cJ0_length_8abf5 6 = .ok (.invokevirtual 335, 3) := by decide +kernel
theorem dJ0_length_8abf5_9 : decode cJ0_length_8abf5 9 = .ok (.ishr, 1) := by decide +kernel
theorem dJ0_length_8abf5_10 : decode cJ0_length_8abf5 10 = .ok (.ireturn, 1) := by decide +kernel
theorem dJ0_charAt_5068e_0 : decode cJ0_charAt_5068e 0 = .ok (.aload_n 0, 1) := by decide +kernel
theorem dJ0_charAt_5068e_1 : decode cJ0_charAt_5068e 1 = .ok (.invokevirtual 492, 3) := by decide +kernel
theorem dJ0_charAt_5068e_4 : decode cJ0_charAt_5068e 4 = .ok (.ifCond .eq 12, 3) := by decide +kernel
theorem dJ0_charAt_5068e_7 : decode cJ0_charAt_5068e 7 = .ok (.aload_n 0, 1) := by decide +kernel
theorem dJ0_charAt_5068e_8 : decode cJ0_charAt_5068e 8 = .ok (.getfield 9, 3) := by decide +kernel
theorem dJ0_charAt_5068e_11 : decode cJ0_charAt_5068e 11 = .ok (.iload_n 1, 1) := by decide +kernel
theorem dJ0_charAt_5068e_12 : decode cJ0_charAt_5068e 12 = .ok (.invokestatic 495, 3) := by decide +kernel
theorem dJ0_charAt_5068e_15 : decode cJ0_charAt_5068e 15 = .ok (.ireturn, 1) := by decide +kernel
theorem dJ0_charAt_5068e_16 : decode cJ0_charAt_5068e 16 = .ok (.aload_n 0, 1) := by decide +kernel
theorem dJ0_charAt_5068e_17 : decode cJ0_charAt_5068e 17 = .ok (.getfield 9, 3) := by decide +kernel
theorem dJ0_charAt_5068e_20 : decode cJ0_charAt_5068e 20 = .ok (.iload_n 1, 1) := by decide +kernel
theorem dJ0_charAt_5068e_21 : decode cJ0_charAt_5068e 21 = .ok (.invokestatic 498, 3) := by decide +kernel
theorem dJ0_charAt_5068e_24 : decode cJ0_charAt_5068e 24 = .ok (.ireturn, 1) := by decide +kernel
theorem dJ0_coder_7d493_0 : decode cJ0_coder_7d493 0 = .ok (.getstatic 38, 3) := by decide +kernel
theorem dJ0_coder_7d493_3 : decode cJ0_coder_7d493 3 = .ok (.ifCond .eq 10, 3) := by decide +kernel
theorem dJ0_coder_7d493_6 : decode cJ0_coder_7d493 6 = .ok (.aload_n 0, 1) := by decide +kernel
theorem dJ0_coder_7d493_7 : decode cJ0_coder_7d493 7 = .ok (.getfield 15, 3) := by decide +kernel
theorem dJ0_coder_7d493_10 : decode cJ0_coder_7d493 10 = .ok (.goto 4, 3) := by decide +kernel
theorem dJ0_coder_7d493_13 : decode cJ0_coder_7d493 13 = .ok (.iconst 1, 1) := by decide +kernel
theorem dJ0_coder_7d493_14 : decode cJ0_coder_7d493 14 = .ok (.ireturn, 1) := by decide +kernel
theorem dJ0_isLatin1_aae02_0 : decode cJ0_isLatin1_aae02 0 = .ok (.getstatic 38, 3) := by decide +kernel
theorem dJ0_isLatin1_aae02_3 : decode cJ0_isLatin1_aae02 3 = .ok (.ifCond .eq 14, 3) := by decide +kernel
theorem dJ0_isLatin1_aae02_6 : decode cJ0_isLatin1_aae02 6 = .ok (.aload_n 0, 1) := by decide +kernel
theorem dJ0_isLatin1_aae02_7 : decode cJ0_isLatin1_aae02 7 = .ok (.getfield 15, 3) := by decide +kernel
theorem dJ0_isLatin1_aae02_10 : decode cJ0_isLatin1_aae02 10 = .ok (.ifCond .ne 7, 3) := by decide +kernel
theorem dJ0_isLatin1_aae02_13 : decode cJ0_isLatin1_aae02 13 = .ok (.iconst 1, 1) := by decide +kernel
theorem dJ0_isLatin1_aae02_14 : decode cJ0_isLatin1_aae02 14 = .ok (.goto 4, 3) := by decide +kernel
theorem dJ0_isLatin1_aae02_17 : decode cJ0_isLatin1_aae02 17 = .ok (.iconst 0, 1) := by decide +kernel
theorem dJ0_isLatin1_aae02_18 : decode cJ0_isLatin1_aae02 18 = .ok (.ireturn, 1) := by decide +kernel
theorem dJ0_checkIndex_df160_0 : decode cJ0_checkIndex_df160 0 = .ok (.iload_n 0, 1) := by decide +kernel
theorem dJ0_checkIndex_df160_1 : decode cJ0_checkIndex_df160 1 = .ok (.iload_n 1, 1) := by decide +kernel
theorem dJ0_checkIndex_df160_2 : decode cJ0_checkIndex_df160 2 = .ok (.getstatic 1053, 3) := by decide +kernel
theorem dJ0_checkIndex_df160_5 : decode cJ0_checkIndex_df160 5 = .ok (.invokestatic 1059, 3) := by decide +kernel
theorem dJ0_checkIndex_df160_8 : decode cJ0_checkIndex_df160 8 = .ok (.pop, 1) := by decide +kernel
theorem dJ0_checkIndex_df160_9 : decode cJ0_checkIndex_df160 9 = .ok (.return_, 1) := by decide +kernel
theorem dJ1_charAt_3b067_0 : decode cJ1_charAt_3b067 0 = .ok (.iload_n 1, 1) := by decide +kernel
theorem dJ1_charAt_3b067_1 : decode cJ1_charAt_3b067 1 = .ok (.aload_n 0, 1) := by decide +kernel
theorem dJ1_charAt_3b067_2 : decode cJ1_charAt_3b067 2 = .ok (.arraylength, 1) := by decide +kernel
theorem dJ1_charAt_3b067_3 : decode cJ1_charAt_3b067 3 = .ok (.invokestatic 9, 3) := by decide +kernel
theorem dJ1_charAt_3b067_6 : decode cJ1_charAt_3b067 6 = .ok (.aload_n 0, 1) := by decide +kernel
theorem dJ1_charAt_3b067_7 : decode cJ1_charAt_3b067 7 = .ok (.iload_n 1, 1) := by decide +kernel
theorem dJ1_charAt_3b067_8 : decode cJ1_charAt_3b067 8 = .ok (.baload, 1) := by decide +kernel
theorem dJ1_charAt_3b067_9 : decode cJ1_charAt_3b067 9 = .ok (.sipush 255, 3) := by decide +kernel
theorem dJ1_charAt_3b067_12 : decode cJ1_charAt_3b067 12 = .ok (.iand, 1) := by decide +kernel
theorem dJ1_charAt_3b067_13 : decode cJ1_charAt_3b067 13 = .ok (.i2c, 1) := by decide +kernel
theorem dJ1_charAt_3b067_14 : decode cJ1_charAt_3b067 14 = .ok (.ireturn, 1) := by decide +kernel
theorem dJ2_getChar_3b067_0 : decode cJ2_getChar_3b067 0 = .ok (.getstatic 44, 3) := by decide +kernel
theorem dJ2_getChar_3b067_3 : decode cJ2_getChar_3b067 3 = .ok (.ifCond .ne 25, 3) := by decide +kernel
theorem dJ2_getChar_3b067_6 : decode cJ2_getChar_3b067 6 = .ok (.iload_n 1, 1) := by decide +kernel
theorem dJ2_getChar_3b067_7 : decode cJ2_getChar_3b067 7 = .ok (.ifCond .lt 11, 3) := by decide +kernel
theorem dJ2_getChar_3b067_10 : decode cJ2_getChar_3b067 10 = .ok (.iload_n 1, 1) := by decide +kernel
theorem dJ2_getChar_3b067_11 : decode cJ2_getChar_3b067 11 = .ok (.aload_n 0, 1) := by decide +kernel
theorem dJ2_getChar_3b067_12 : decode cJ2_getChar_3b067 12 = .ok (.invokestatic 48, 3) := by decide +kernel
theorem dJ2_getChar_3b067_15 : decode cJ2_getChar_3b067 15 = .ok (.if_icmp .lt 13, 3) := by decide +kernel
theorem dJ2_getChar_3b067_18 : decode cJ2_getChar_3b067 18 = .ok (.new 52, 3) := by decide +kernel
theorem dJ2_getChar_3b067_21 : decode cJ2_getChar_3b067 21 = .ok (.dup, 1) := by decide +kernel
theorem dJ2_getChar_3b067_22 : decode cJ2_getChar_3b067 22 = .ok (.ldc 54, 2) := by decide +kernel
theorem dJ2_getChar_3b067_24 : decode cJ2_getChar_3b067 24 = .ok (.invokespecial 56, 3) := by decide +kernel
theorem dJ2_getChar_3b067_27 : decode cJ2_getChar_3b067 27 = .ok (.athrow, 1) := by decide +kernel
theorem dJ2_getChar_3b067_28 : decode cJ2_getChar_3b067 28 = .ok (.iload_n 1, 1) := by decide +kernel
theorem dJ2_getChar_3b067_29 : decode cJ2_getChar_3b067 29 = .ok (.iconst 1, 1) := by decide +kernel
theorem dJ2_getChar_3b067_30 : decode cJ2_getChar_3b067 30 = .ok (.ishl, 1) := by decide +kernel
theorem dJ2_getChar_3b067_31 : decode cJ2_getChar_3b067 31 = .ok (.istore_n 1, 1) := by decide +kernel
theorem dJ2_getChar_3b067_32 : decode cJ2_getChar_3b067 32 = .ok (.aload_n 0, 1) := by decide +kernel
theorem dJ2_getChar_3b067_33 : decode cJ2_getChar_3b067 33 = .ok (.iload_n 1, 1) := by decide +kernel
theorem dJ2_getChar_3b067_34 : decode cJ2_getChar_3b067 34 = .ok (.iinc 1 1, 3) := by decide +kernel
theorem dJ2_getChar_3b067_37 : decode cJ2_getChar_3b067 37 = .ok (.baload, 1) := by decide +kernel
theorem dJ2_getChar_3b067_38 : decode cJ2_getChar_3b067 38 = .ok (.sipush 255, 3) := by decide +kernel
theorem dJ2_getChar_3b067_41 : decode cJ2_getChar_3b067 41 = .ok (.iand, 1) := by decide +kernel
theorem dJ2_getChar_3b067_42 : decode cJ2_getChar_3b067 42 = .ok (.getstatic 59, 3) := by decide +kernel
theorem dJ2_getChar_3b067_45 : decode cJ2_getChar_3b067 45 = .ok (.ishl, 1) := by decide +kernel
theorem dJ2_getChar_3b067_46 : decode cJ2_getChar_3b067 46 = .ok (.aload_n 0, 1) := by decide +kernel
theorem dJ2_getChar_3b067_47 : decode cJ2_getChar_3b067 47 = .ok (.iload_n 1, 1) := by decide +kernel
theorem dJ2_getChar_3b067_48 : decode cJ2_getChar_3b067 48 = .ok (.baload, 1) := by decide +kernel
theorem dJ2_getChar_3b067_49 : decode cJ2_getChar_3b067 49 = .ok (.sipush 255, 3) := by decide +kernel
theorem dJ2_getChar_3b067_52 : decode cJ2_getChar_3b067 52 = .ok (.iand, 1) := by decide +kernel
theorem dJ2_getChar_3b067_53 : decode cJ2_getChar_3b067 53 = .ok (.getstatic 63, 3) := by decide +kernel
theorem dJ2_getChar_3b067_56 : decode cJ2_getChar_3b067 56 = .ok (.ishl, 1) := by decide +kernel
theorem dJ2_getChar_3b067_57 : decode cJ2_getChar_3b067 57 = .ok (.ior, 1) := by decide +kernel
theorem dJ2_getChar_3b067_58 : decode cJ2_getChar_3b067 58 = .ok (.i2c, 1) := by decide +kernel
theorem dJ2_getChar_3b067_59 : decode cJ2_getChar_3b067 59 = .ok (.ireturn, 1) := by decide +kernel
theorem dJ2_length_9d52b_0 : decode cJ2_length_9d52b 0 = .ok (.aload_n 0, 1) := by decide +kernel
theorem dJ2_length_9d52b_1 : decode cJ2_length_9d52b 1 = .ok (.arraylength, 1) := by decide +kernel
theorem dJ2_length_9d52b_2 : decode cJ2_length_9d52b 2 = .ok (.iconst 1, 1) := by decide +kernel
theorem dJ2_length_9d52b_3 : decode cJ2_length_9d52b 3 = .ok (.ishr, 1) := by decide +kernel
theorem dJ2_length_9d52b_4 : decode cJ2_length_9d52b 4 = .ok (.ireturn, 1) := by decide +kernel
theorem dJ2_charAt_3b067_0 : decode cJ2_charAt_3b067 0 = .ok (.iload_n 1, 1) := by decide +kernel
theorem dJ2_charAt_3b067_1 : decode cJ2_charAt_3b067 1 = .ok (.aload_n 0, 1) := by decide +kernel
theorem dJ2_charAt_3b067_2 : decode cJ2_charAt_3b067 2 = .ok (.invokestatic 67, 3) := by decide +kernel
theorem dJ2_charAt_3b067_5 : decode cJ2_charAt_3b067 5 = .ok (.aload_n 0, 1) := by decide +kernel
theorem dJ2_charAt_3b067_6 : decode cJ2_charAt_3b067 6 = .ok (.iload_n 1, 1) := by decide +kernel
theorem dJ2_charAt_3b067_7 : decode cJ2_charAt_3b067 7 = .ok (.invokestatic 71, 3) := by decide +kernel
theorem dJ2_charAt_3b067_10 : decode cJ2_charAt_3b067 10 = .ok (.ireturn, 1) := by decide +kernel
theorem dJ2_checkIndex_2214a_0 : decode cJ2_checkIndex_2214a 0 = .ok (.iload_n 0, 1) := by decide +kernel
theorem dJ2_checkIndex_2214a_1 : decode cJ2_checkIndex_2214a 1 = .ok (.aload_n 1, 1) := by decide +kernel
theorem dJ2_checkIndex_2214a_2 : decode cJ2_checkIndex_2214a 2 = .ok (.invokestatic 48, 3) := by decide +kernel
theorem dJ2_checkIndex_2214a_5 : decode cJ2_checkIndex_2214a 5 = .ok (.invokestatic 414, 3) := by decide +kernel
theorem dJ2_checkIndex_2214a_8 : decode cJ2_checkIndex_2214a 8 = .ok (.return_, 1) := by decide +kernel
theorem dJ3_checkIndex_8e157_0 : decode cJ3_checkIndex_8e157 0 = .ok (.iload_n 0, 1) := by decide +kernel
theorem dJ3_checkIndex_8e157_1 : decode cJ3_checkIndex_8e157 1 = .ok (.ifCond .lt 8, 3) := by decide +kernel
theorem dJ3_checkIndex_8e157_4 : decode cJ3_checkIndex_8e157 4 = .ok (.iload_n 0, 1) := by decide +kernel
theorem dJ3_checkIndex_8e157_5 : decode cJ3_checkIndex_8e157 5 = .ok (.iload_n 1, 1) := by decide +kernel
theorem dJ3_checkIndex_8e157_6 : decode cJ3_checkIndex_8e157 6 = .ok (.if_icmp .lt 10, 3) := by decide +kernel
theorem dJ3_checkIndex_8e157_9 : decode cJ3_checkIndex_8e157 9 = .ok (.aload_n 2, 1) := by decide +kernel
theorem dJ3_checkIndex_8e157_10 : decode cJ3_checkIndex_8e157 10 = .ok (.iload_n 0, 1) := by decide +kernel
theorem dJ3_checkIndex_8e157_11 : decode cJ3_checkIndex_8e157 11 = .ok (.iload_n 1, 1) := by decide +kernel
theorem dJ3_checkIndex_8e157_12 : decode cJ3_checkIndex_8e157 12 = .ok (.invokestatic 95, 3) := by decide +kernel
theorem dJ3_checkIndex_8e157_15 : decode cJ3_checkIndex_8e157 15 = .ok (.athrow, 1) := by decide +kernel
theorem dJ3_checkIndex_8e157_16 : decode cJ3_checkIndex_8e157 16 = .ok (.iload_n 0, 1) := by decide +kernel
theorem dJ3_checkIndex_8e157_17 : decode cJ3_checkIndex_8e157 17 = .ok (.ireturn, 1) := by decide +kernel
