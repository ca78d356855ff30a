theorem dX7_take_56 : decode cX7_take 56 = .ok (.aload_n 0, 1) := by decide +kernel
theorem dX7_take_57 : decode cX7_take 57 = .ok (.dup, 1) := by decide +kernel
theorem dX7_take_58 : decode cX7_take 58 = .ok (.getfield 19, 3) := by decide +kernel
theorem dX7_take_61 : decode cX7_take 61 = .ok (.iconst 1, 1) := by decide +kernel
theorem dX7_take_62 : decode cX7_take 62 = .ok (.iadd, 1) := by decide +kernel
theorem dX7_take_63 : decode cX7_take 63 = .ok (.putfield 19, 3) := by decide +kernel
theorem dX7_take_66 : decode cX7_take 66 = .ok (.iload 6, 2) := by decide +kernel
theorem dX7_take_68 : decode cX7_take 68 = .ok (.aload_n 0, 1) := by decide +kernel
theorem dX7_take_69 : decode cX7_take 69 = .ok (.getfield 19, 3) := by decide +kernel
theorem dX7_take_72 : decode cX7_take 72 = .ok (.if_icmp .ge 24, 3) := by decide +kernel
theorem dX7_take_75 : decode cX7_take 75 = .ok (.aload_n 0, 1) := by decide +kernel
theorem dX7_take_76 : decode cX7_take 76 = .ok (.getfield 15, 3) := by decide +kernel
theorem dX7_take_79 : decode cX7_take 79 = .ok (.iload 6, 2) := by decide +kernel
theorem dX7_take_81 : decode cX7_take 81 = .ok (.dup2, 1) := by decide +kernel
theorem dX7_take_82 : decode cX7_take 82 = .ok (.iaload, 1) := by decide +kernel
theorem dX7_take_83 : decode cX7_take 83 = .ok (.iconst 1, 1) := by decide +kernel
theorem dX7_take_84 : decode cX7_take 84 = .ok (.iadd, 1) := by decide +kernel
theorem dX7_take_85 : decode cX7_take 85 = .ok (.iastore, 1) := by decide +kernel
theorem dX7_take_86 : decode cX7_take 86 = .ok (.aload_n 0, 1) := by decide +kernel
theorem dX7_take_87 : decode cX7_take 87 = .ok (.dup, 1) := by decide +kernel
theorem dX7_take_88 : decode cX7_take 88 = .ok (.getfield 23, 3) := by decide +kernel
theorem dX7_take_91 : decode cX7_take 91 = .ok (.iconst 1, 1) := by decide +kernel
theorem dX7_take_92 : decode cX7_take 92 = .ok (.iadd, 1) := by decide +kernel
theorem dX7_take_93 : decode cX7_take 93 = .ok (.putfield 23, 3) := by decide +kernel
theorem dX7_take_96 : decode cX7_take 96 = .ok (.return_, 1) := by decide +kernel
theorem dX7_find_0 : decode cX7_find 0 = .ok (.iconst 0, 1) := by decide +kernel
theorem dX7_find_1 : decode cX7_find 1 = .ok (.istore_n 3, 1) := by decide +kernel
theorem dX7_find_2 : decode cX7_find 2 = .ok (.iload_n 3, 1) := by decide +kernel
theorem dX7_find_3 : decode cX7_find 3 = .ok (.aload_n 0, 1) := by decide +kernel
theorem dX7_find_4 : decode cX7_find 4 = .ok (.getfield 19, 3) := by decide +kernel
theorem dX7_find_7 : decode cX7_find 7 = .ok (.if_icmp .ge 22, 3) := by decide +kernel
theorem dX7_find_10 : decode cX7_find 10 = .ok (.aload_n 0, 1) := by decide +kernel
theorem dX7_find_11 : decode cX7_find 11 = .ok (.getfield 11, 3) := by decide +kernel
theorem dX7_find_14 : decode cX7_find 14 = .ok (.iload_n 3, 1) := by decide +kernel
theorem dX7_find_15 : decode cX7_find 15 = .ok (.laload, 1) := by decide +kernel
theorem dX7_find_16 : decode cX7_find 16 = .ok (.lload_n 1, 1) := by decide +kernel
theorem dX7_find_17 : decode cX7_find 17 = .ok (.lcmp, 1) := by decide +kernel
theorem dX7_find_18 : decode cX7_find 18 = .ok (.ifCond .ne 5, 3) := by decide +kernel
theorem dX7_find_21 : decode cX7_find 21 = .ok (.iload_n 3, 1) := by decide +kernel
theorem dX7_find_22 : decode cX7_find 22 = .ok (.ireturn, 1) := by decide +kernel
theorem dX7_find_23 : decode cX7_find 23 = .ok (.iinc 3 1, 3) := by decide +kernel
theorem dX7_find_26 : decode cX7_find 26 = .ok (.goto (-24), 3) := by decide +kernel
theorem dX7_find_29 : decode cX7_find 29 = .ok (.aload_n 0, 1) := by decide +kernel
theorem dX7_find_30 : decode cX7_find 30 = .ok (.getfield 19, 3) := by decide +kernel
theorem dX7_find_33 : decode cX7_find 33 = .ok (.ireturn, 1) := by decide +kernel
theorem dX7_letterOf_0 : decode cX7_letterOf 0 = .ok (.iload_n 0, 1) := by decide +kernel
theorem dX7_letterOf_1 : decode cX7_letterOf 1 = .ok (.bipush 65, 2) := by decide +kernel
theorem dX7_letterOf_3 : decode cX7_letterOf 3 = .ok (.if_icmp .lt 17, 3) := by decide +kernel
theorem dX7_letterOf_6 : decode cX7_letterOf 6 = .ok (.iload_n 0, 1) := by decide +kernel
theorem dX7_letterOf_7 : decode cX7_letterOf 7 = .ok (.bipush 90, 2) := by decide +kernel
theorem dX7_letterOf_9 : decode cX7_letterOf 9 = .ok (.if_icmp .gt 11, 3) := by decide +kernel
theorem dX7_letterOf_12 : decode cX7_letterOf 12 = .ok (.iload_n 0, 1) := by decide +kernel
theorem dX7_letterOf_13 : decode cX7_letterOf 13 = .ok (.bipush 65, 2) := by decide +kernel
theorem dX7_letterOf_15 : decode cX7_letterOf 15 = .ok (.isub, 1) := by decide +kernel
theorem dX7_letterOf_16 : decode cX7_letterOf 16 = .ok (.bipush 97, 2) := by decide +kernel
theorem dX7_letterOf_18 : decode cX7_letterOf 18 = .ok (.iadd, 1) := by decide +kernel
theorem dX7_letterOf_19 : decode cX7_letterOf 19 = .ok (.ireturn, 1) := by decide +kernel
theorem dX7_letterOf_20 : decode cX7_letterOf 20 = .ok (.iload_n 0, 1) := by decide +kernel
theorem dX7_letterOf_21 : decode cX7_letterOf 21 = .ok (.bipush 97, 2) := by decide +kernel
theorem dX7_letterOf_23 : decode cX7_letterOf 23 = .ok (.if_icmp .lt 13, 3) := by decide +kernel
theorem dX7_letterOf_26 : decode cX7_letterOf 26 = .ok (.iload_n 0, 1) := by decide +kernel
theorem dX7_letterOf_27 : decode cX7_letterOf 27 = .ok (.bipush 122, 2) := by decide +kernel
theorem dX7_letterOf_29 : decode cX7_letterOf 29 = .ok (.if_icmp .gt 7, 3) := by decide +kernel
theorem dX7_letterOf_32 : decode cX7_letterOf 32 = .ok (.iload_n 0, 1) := by decide +kernel
theorem dX7_letterOf_33 : decode cX7_letterOf 33 = .ok (.goto 4, 3) := by decide +kernel
theorem dX7_letterOf_36 : decode cX7_letterOf 36 = .ok (.iconst 0, 1) := by decide +kernel
theorem dX7_letterOf_37 : decode cX7_letterOf 37 = .ok (.ireturn, 1) := by decide +kernel
theorem dX7_withoutPluralS_0 : decode cX7_withoutPluralS 0 = .ok (.iload_n 2, 1) := by decide +kernel
theorem dX7_withoutPluralS_1 : decode cX7_withoutPluralS 1 = .ok (.iconst 3, 1) := by decide +kernel
theorem dX7_withoutPluralS_2 : decode cX7_withoutPluralS 2 = .ok (.if_icmp .le 31, 3) := by decide +kernel
theorem dX7_withoutPluralS_5 : decode cX7_withoutPluralS 5 = .ok (.lload_n 0, 1) := by decide +kernel
theorem dX7_withoutPluralS_6 : decode cX7_withoutPluralS 6 = .ok (.iload_n 2, 1) := by decide +kernel
theorem dX7_withoutPluralS_7 : decode cX7_withoutPluralS 7 = .ok (.iconst 1, 1) := by decide +kernel
theorem dX7_withoutPluralS_8 : decode cX7_withoutPluralS 8 = .ok (.isub, 1) := by decide +kernel
theorem dX7_withoutPluralS_9 : decode cX7_withoutPluralS 9 = .ok (.invokestatic 55, 3) := by decide +kernel
theorem dX7_withoutPluralS_12 : decode cX7_withoutPluralS 12 = .ok (.bipush 115, 2) := by decide +kernel
theorem dX7_withoutPluralS_14 : decode cX7_withoutPluralS 14 = .ok (.if_icmp .ne 19, 3) := by decide +kernel
theorem dX7_withoutPluralS_17 : decode cX7_withoutPluralS 17 = .ok (.lload_n 0, 1) := by decide +kernel
theorem dX7_withoutPluralS_18 : decode cX7_withoutPluralS 18 = .ok (.iload_n 2, 1) := by decide +kernel
theorem dX7_withoutPluralS_19 : decode cX7_withoutPluralS 19 = .ok (.iconst 2, 1) := by decide +kernel
theorem dX7_withoutPluralS_20 : decode cX7_withoutPluralS 20 = .ok (.isub, 1) := by decide +kernel
theorem dX7_withoutPluralS_21 : decode cX7_withoutPluralS 21 = .ok (.invokestatic 55, 3) := by decide +kernel
theorem dX7_withoutPluralS_24 : decode cX7_withoutPluralS 24 = .ok (.bipush 115, 2) := by decide +kernel
theorem dX7_withoutPluralS_26 : decode cX7_withoutPluralS 26 = .ok (.if_icmp .eq 7, 3) := by decide +kernel
theorem dX7_withoutPluralS_29 : decode cX7_withoutPluralS 29 = .ok (.iconst 1, 1) := by decide +kernel
theorem dX7_withoutPluralS_30 : decode cX7_withoutPluralS 30 = .ok (.goto 4, 3) := by decide +kernel
theorem dX7_withoutPluralS_33 : decode cX7_withoutPluralS 33 = .ok (.iconst 0, 1) := by decide +kernel
theorem dX7_withoutPluralS_34 : decode cX7_withoutPluralS 34 = .ok (.istore_n 3, 1) := by decide +kernel
theorem dX7_withoutPluralS_35 : decode cX7_withoutPluralS 35 = .ok (.iload_n 3, 1) := by decide +kernel
theorem dX7_withoutPluralS_36 : decode cX7_withoutPluralS 36 = .ok (.ifCond .eq 21, 3) := by decide +kernel
theorem dX7_withoutPluralS_39 : decode cX7_withoutPluralS 39 = .ok (.lload_n 0, 1) := by decide +kernel
theorem dX7_withoutPluralS_40 : decode cX7_withoutPluralS 40 = .ok (.sipush 255, 3) := by decide +kernel
theorem dX7_withoutPluralS_43 : decode cX7_withoutPluralS 43 = .ok (.iload_n 2, 1) := by decide +kernel
theorem dX7_withoutPluralS_44 : decode cX7_withoutPluralS 44 = .ok (.iconst 1, 1) := by decide +kernel
theorem dX7_withoutPluralS_45 : decode cX7_withoutPluralS 45 = .ok (.isub, 1) := by decide +kernel
theorem dX7_withoutPluralS_46 : decode cX7_withoutPluralS 46 = .ok (.invokestatic 43, 3) := by decide +kernel
theorem dX7_withoutPluralS_49 : decode cX7_withoutPluralS 49 = .ok (.ldc2_w 59, 3) := by decide +kernel
theorem dX7_withoutPluralS_52 : decode cX7_withoutPluralS 52 = .ok (.lxor, 1) := by decide +kernel
theorem dX7_withoutPluralS_53 : decode cX7_withoutPluralS 53 = .ok (.land, 1) := by decide +kernel
theorem dX7_withoutPluralS_54 : decode cX7_withoutPluralS 54 = .ok (.goto 4, 3) := by decide +kernel
theorem dX7_withoutPluralS_57 : decode cX7_withoutPluralS 57 = .ok (.lload_n 0, 1) := by decide +kernel
theorem dX7_withoutPluralS_58 : decode cX7_withoutPluralS 58 = .ok (.lreturn, 1) := by decide +kernel
theorem dX7_place_0 : decode cX7_place 0 = .ok (.iload_n 0, 1) := by decide +kernel
theorem dX7_place_1 : decode cX7_place 1 = .ok (.i2l, 1) := by decide +kernel
theorem dX7_place_2 : decode cX7_place 2 = .ok (.bipush 8, 2) := by decide +kernel
theorem dX7_place_4 : decode cX7_place 4 = .ok (.bipush 7, 2) := by decide +kernel
theorem dX7_place_6 : decode cX7_place 6 = .ok (.iload_n 1, 1) := by decide +kernel
theorem dX7_place_7 : decode cX7_place 7 = .ok (.isub, 1) := by decide +kernel
theorem dX7_place_8 : decode cX7_place 8 = .ok (.imul, 1) := by decide +kernel
theorem dX7_place_9 : decode cX7_place 9 = .ok (.lshl, 1) := by decide +kernel
theorem dX7_place_10 : decode cX7_place 10 = .ok (.lreturn, 1) := by decide +kernel
theorem dX7_letterAt_0 : decode cX7_letterAt 0 = .ok (.lload_n 0, 1) := by decide +kernel
theorem dX7_letterAt_1 : decode cX7_letterAt 1 = .ok (.bipush 8, 2) := by decide +kernel
theorem dX7_letterAt_3 : decode cX7_letterAt 3 = .ok (.bipush 7, 2) := by decide +kernel
theorem dX7_letterAt_5 : decode cX7_letterAt 5 = .ok (.iload_n 2, 1) := by decide +kernel
theorem dX7_letterAt_6 : decode cX7_letterAt 6 = .ok (.isub, 1) := by decide +kernel
theorem dX7_letterAt_7 : decode cX7_letterAt 7 = .ok (.imul, 1) := by decide +kernel
theorem dX7_letterAt_8 : decode cX7_letterAt 8 = .ok (.lushr, 1) := by decide +kernel
theorem dX7_letterAt_9 : decode cX7_letterAt 9 = .ok (.l2i, 1) := by decide +kernel
theorem dX7_letterAt_10 : decode cX7_letterAt 10 = .ok (.sipush 255, 3) := by decide +kernel
theorem dX7_letterAt_13 : decode cX7_letterAt 13 = .ok (.iand, 1) := by decide +kernel
theorem dX7_letterAt_14 : decode cX7_letterAt 14 = .ok (.ireturn, 1) := by decide +kernel
theorem dX7_lettersOf_0 : decode cX7_lettersOf 0 = .ok (.iconst 0, 1) := by decide +kernel
theorem dX7_lettersOf_1 : decode cX7_lettersOf 1 = .ok (.istore_n 2, 1) := by decide +kernel
theorem dX7_lettersOf_2 : decode cX7_lettersOf 2 = .ok (.iload_n 2, 1) := by decide +kernel
theorem dX7_lettersOf_3 : decode cX7_lettersOf 3 = .ok (.bipush 8, 2) := by decide +kernel
theorem dX7_lettersOf_5 : decode cX7_lettersOf 5 = .ok (.if_icmp .ge 19, 3) := by decide +kernel
theorem dX7_lettersOf_8 : decode cX7_lettersOf 8 = .ok (.lload_n 0, 1) := by decide +kernel
theorem dX7_lettersOf_9 : decode cX7_lettersOf 9 = .ok (.iload_n 2, 1) := by decide +kernel
theorem dX7_lettersOf_10 : decode cX7_lettersOf 10 = .ok (.invokestatic 55, 3) := by decide +kernel
theorem dX7_lettersOf_13 : decode cX7_lettersOf 13 = .ok (.ifCond .ne 5, 3) := by decide +kernel
theorem dX7_lettersOf_16 : decode cX7_lettersOf 16 = .ok (.iload_n 2, 1) := by decide +kernel
theorem dX7_lettersOf_17 : decode cX7_lettersOf 17 = .ok (.ireturn, 1) := by decide +kernel
theorem dX7_lettersOf_18 : decode cX7_lettersOf 18 = .ok (.iinc 2 1, 3) := by decide +kernel
theorem dX7_lettersOf_21 : decode cX7_lettersOf 21 = .ok (.goto (-19), 3) := by decide +kernel
theorem dX7_lettersOf_24 : decode cX7_lettersOf 24 = .ok (.bipush 8, 2) := by decide +kernel
theorem dX7_lettersOf_26 : decode cX7_lettersOf 26 = .ok (.ireturn, 1) := by decide +kernel
theorem dX8_init_0 : decode cX8_init 0 = .ok (.aload_n 0, 1) := by decide +kernel
theorem dX8_init_1 : decode cX8_init 1 = .ok (.invokespecial 3, 3) := by decide +kernel
theorem dX8_init_4 : decode cX8_init 4 = .ok (.aload_n 0, 1) := by decide +kernel
theorem dX8_init_5 : decode cX8_init 5 = .ok (.new 9, 3) := by decide +kernel
theorem dX8_init_8 : decode cX8_init 8 = .ok (.dup, 1) := by decide +kernel
theorem dX8_init_9 : decode cX8_init 9 = .ok (.sipush 3000, 3) := by decide +kernel
theorem dX8_init_12 : decode cX8_init 12 = .ok (.invokespecial 11, 3) := by decide +kernel
theorem dX8_init_15 : decode cX8_init 15 = .ok (.putfield 14, 3) := by decide +kernel
theorem dX8_init_18 : decode cX8_init 18 = .ok (.aload_n 0, 1) := by decide +kernel
theorem dX8_init_19 : decode cX8_init 19 = .ok (.new 18, 3) := by decide +kernel
theorem dX8_init_22 : decode cX8_init 22 = .ok (.dup, 1) := by decide +kernel
theorem dX8_init_23 : decode cX8_init 23 = .ok (.invokespecial 20, 3) := by decide +kernel
theorem dX8_init_26 : decode cX8_init 26 = .ok (.putfield 21, 3) := by decide +kernel
theorem dX8_init_29 : decode cX8_init 29 = .ok (.aload_n 0, 1) := by decide +kernel
theorem dX8_init_30 : decode cX8_init 30 = .ok (.new 25, 3) := by decide +kernel
theorem dX8_init_33 : decode cX8_init 33 = .ok (.dup, 1) := by decide +kernel
theorem dX8_init_34 : decode cX8_init 34 = .ok (.invokespecial 27, 3) := by decide +kernel
theorem dX8_init_37 : decode cX8_init 37 = .ok (.putfield 28, 3) := by decide +kernel
theorem dX8_init_40 : decode cX8_init 40 = .ok (.aload_n 0, 1) := by decide +kernel
theorem dX8_init_41 : decode cX8_init 41 = .ok (.new 9, 3) := by decide +kernel
theorem dX8_init_44 : decode cX8_init 44 = .ok (.dup, 1) := by decide +kernel
theorem dX8_init_45 : decode cX8_init 45 = .ok (.sipush 6650, 3) := by decide +kernel
theorem dX8_init_48 : decode cX8_init 48 = .ok (.invokespecial 11, 3) := by decide +kernel
theorem dX8_init_51 : decode cX8_init 51 = .ok (.putfield 32, 3) := by decide +kernel
theorem dX8_init_54 : decode cX8_init 54 = .ok (.aload_n 0, 1) := by decide +kernel
theorem dX8_init_55 : decode cX8_init 55 = .ok (.new 35, 3) := by decide +kernel
theorem dX8_init_58 : decode cX8_init 58 = .ok (.dup, 1) := by decide +kernel
theorem dX8_init_59 : decode cX8_init 59 = .ok (.invokespecial 37, 3) := by decide +kernel
theorem dX8_init_62 : decode cX8_init 62 = .ok (.putfield 38, 3) := by decide +kernel
theorem dX8_init_65 : decode cX8_init 65 = .ok (.aload_n 0, 1) := by decide +kernel
theorem dX8_init_66 : decode cX8_init 66 = .ok (.new 42, 3) := by decide +kernel
theorem dX8_init_69 : decode cX8_init 69 = .ok (.dup, 1) := by decide +kernel
theorem dX8_init_70 : decode cX8_init 70 = .ok (.invokespecial 44, 3) := by decide +kernel
theorem dX8_init_73 : decode cX8_init 73 = .ok (.putfield 45, 3) := by decide +kernel
theorem dX8_init_76 : decode cX8_init 76 = .ok (.aload_n 0, 1) := by decide +kernel
theorem dX8_init_77 : decode cX8_init 77 = .ok (.new 49, 3) := by decide +kernel
theorem dX8_init_80 : decode cX8_init 80 = .ok (.dup, 1) := by decide +kernel
theorem dX8_init_81 : decode cX8_init 81 = .ok (.invokespecial 51, 3) := by decide +kernel
theorem dX8_init_84 : decode cX8_init 84 = .ok (.putfield 52, 3) := by decide +kernel
theorem dX8_init_87 : decode cX8_init 87 = .ok (.aload_n 0, 1) := by decide +kernel
theorem dX8_init_88 : decode cX8_init 88 = .ok (.new 56, 3) := by decide +kernel
theorem dX8_init_91 : decode cX8_init 91 = .ok (.dup, 1) := by decide +kernel
theorem dX8_init_92 : decode cX8_init 92 = .ok (.invokespecial 58, 3) := by decide +kernel
theorem dX8_init_95 : decode cX8_init 95 = .ok (.putfield 59, 3) := by decide +kernel
theorem dX8_init_98 : decode cX8_init 98 = .ok (.aload_n 0, 1) := by decide +kernel
theorem dX8_init_99 : decode cX8_init 99 = .ok (.lconst 0, 1) := by decide +kernel
theorem dX8_init_100 : decode cX8_init 100 = .ok (.putfield 63, 3) := by decide +kernel
theorem dX8_init_103 : decode cX8_init 103 = .ok (.return_, 1) := by decide +kernel
theorem dX8_feed_0 : decode cX8_feed 0 = .ok (.iload_n 1, 1) := by decide +kernel
theorem dX8_feed_1 : decode cX8_feed 1 = .ok (.iconst 1, 1) := by decide +kernel
theorem dX8_feed_2 : decode cX8_feed 2 = .ok (.if_icmp .lt 9, 3) := by decide +kernel
theorem dX8_feed_5 : decode cX8_feed 5 = .ok (.iload_n 1, 1) := by decide +kernel
theorem dX8_feed_6 : decode cX8_feed 6 = .ok (.bipush 8, 2) := by decide +kernel
theorem dX8_feed_8 : decode cX8_feed 8 = .ok (.if_icmp .le 11, 3) := by decide +kernel
theorem dX8_feed_11 : decode cX8_feed 11 = .ok (.new 67, 3) := by decide +kernel
theorem dX8_feed_14 : decode cX8_feed 14 = .ok (.dup, 1) := by decide +kernel
theorem dX8_feed_15 : decode cX8_feed 15 = .ok (.invokespecial 69, 3) := by decide +kernel
theorem dX8_feed_18 : decode cX8_feed 18 = .ok (.athrow, 1) := by decide +kernel
theorem dX8_feed_19 : decode cX8_feed 19 = .ok (.aload_n 0, 1) := by decide +kernel
theorem dX8_feed_20 : decode cX8_feed 20 = .ok (.getfield 14, 3) := by decide +kernel
theorem dX8_feed_23 : decode cX8_feed 23 = .ok (.invokevirtual 70, 3) := by decide +kernel
theorem dX8_feed_26 : decode cX8_feed 26 = .ok (.iload_n 1, 1) := by decide +kernel
theorem dX8_feed_27 : decode cX8_feed 27 = .ok (.iadd, 1) := by decide +kernel
theorem dX8_feed_28 : decode cX8_feed 28 = .ok (.sipush 3000, 3) := by decide +kernel
theorem dX8_feed_31 : decode cX8_feed 31 = .ok (.if_icmp .le 11, 3) := by decide +kernel
theorem dX8_feed_34 : decode cX8_feed 34 = .ok (.new 74, 3) := by decide +kernel
theorem dX8_feed_37 : decode cX8_feed 37 = .ok (.dup, 1) := by decide +kernel
theorem dX8_feed_38 : decode cX8_feed 38 = .ok (.invokespecial 76, 3) := by decide +kernel
theorem dX8_feed_41 : decode cX8_feed 41 = .ok (.athrow, 1) := by decide +kernel
theorem dX8_feed_42 : decode cX8_feed 42 = .ok (.iconst 0, 1) := by decide +kernel
theorem dX8_feed_43 : decode cX8_feed 43 = .ok (.istore 4, 2) := by decide +kernel
theorem dX8_feed_45 : decode cX8_feed 45 = .ok (.iload 4, 2) := by decide +kernel
theorem dX8_feed_47 : decode cX8_feed 47 = .ok (.iload_n 1, 1) := by decide +kernel
theorem dX8_feed_48 : decode cX8_feed 48 = .ok (.if_icmp .ge 24, 3) := by decide +kernel
theorem dX8_feed_51 : decode cX8_feed 51 = .ok (.aload_n 0, 1) := by decide +kernel
theorem dX8_feed_52 : decode cX8_feed 52 = .ok (.getfield 14, 3) := by decide +kernel
theorem dX8_feed_55 : decode cX8_feed 55 = .ok (.lload_n 2, 1) := by decide +kernel
theorem dX8_feed_56 : decode cX8_feed 56 = .ok (.bipush 8, 2) := by decide +kernel
theorem dX8_feed_58 : decode cX8_feed 58 = .ok (.iload 4, 2) := by decide +kernel
theorem dX8_feed_60 : decode cX8_feed 60 = .ok (.imul, 1) := by decide +kernel
theorem dX8_feed_61 : decode cX8_feed 61 = .ok (.lushr, 1) := by decide +kernel
theorem dX8_feed_62 : decode cX8_feed 62 = .ok (.l2i, 1) := by decide +kernel
theorem dX8_feed_63 : decode cX8_feed 63 = .ok (.invokevirtual 77, 3) := by decide +kernel
theorem dX8_feed_66 : decode cX8_feed 66 = .ok (.iinc 4 1, 3) := by decide +kernel
theorem dX8_feed_69 : decode cX8_feed 69 = .ok (.goto (-24), 3) := by decide +kernel
theorem dX8_feed_72 : decode cX8_feed 72 = .ok (.aload_n 0, 1) := by decide +kernel
theorem dX8_feed_73 : decode cX8_feed 73 = .ok (.getfield 14, 3) := by decide +kernel
theorem dX8_feed_76 : decode cX8_feed 76 = .ok (.invokevirtual 70, 3) := by decide +kernel
theorem dX8_feed_79 : decode cX8_feed 79 = .ok (.ireturn, 1) := by decide +kernel
theorem dX8_add_0 : decode cX8_add 0 = .ok (.aload_n 0, 1) := by decide +kernel
theorem dX8_add_1 : decode cX8_add 1 = .ok (.invokevirtual 80, 3) := by decide +kernel
theorem dX8_add_4 : decode cX8_add 4 = .ok (.aload_n 0, 1) := by decide +kernel
theorem dX8_add_5 : decode cX8_add 5 = .ok (.getfield 21, 3) := by decide +kernel
theorem dX8_add_8 : decode cX8_add 8 = .ok (.getfield 83, 3) := by decide +kernel
theorem dX8_add_11 : decode cX8_add 11 = .ok (.ifCond .ne 11, 3) := by decide +kernel
theorem dX8_add_14 : decode cX8_add 14 = .ok (.new 67, 3) := by decide +kernel
theorem dX8_add_17 : decode cX8_add 17 = .ok (.dup, 1) := by decide +kernel
theorem dX8_add_18 : decode cX8_add 18 = .ok (.invokespecial 69, 3) := by decide +kernel
theorem dX8_add_21 : decode cX8_add 21 = .ok (.athrow, 1) := by decide +kernel
theorem dX8_add_22 : decode cX8_add 22 = .ok (.aload_n 0, 1) := by decide +kernel
theorem dX8_add_23 : decode cX8_add 23 = .ok (.getfield 28, 3) := by decide +kernel
theorem dX8_add_26 : decode cX8_add 26 = .ok (.aload_n 0, 1) := by decide +kernel
theorem dX8_add_27 : decode cX8_add 27 = .ok (.getfield 21, 3) := by decide +kernel
theorem dX8_add_30 : decode cX8_add 30 = .ok (.invokevirtual 87, 3) := by decide +kernel
theorem dX8_add_33 : decode cX8_add 33 = .ok (.ifCond .ne 11, 3) := by decide +kernel
theorem dX8_add_36 : decode cX8_add 36 = .ok (.new 74, 3) := by decide +kernel
theorem dX8_add_39 : decode cX8_add 39 = .ok (.dup, 1) := by decide +kernel
theorem dX8_add_40 : decode cX8_add 40 = .ok (.invokespecial 76, 3) := by decide +kernel
theorem dX8_add_43 : decode cX8_add 43 = .ok (.athrow, 1) := by decide +kernel
theorem dX8_add_44 : decode cX8_add 44 = .ok (.aload_n 0, 1) := by decide +kernel
theorem dX8_add_45 : decode cX8_add 45 = .ok (.getfield 28, 3) := by decide +kernel
theorem dX8_add_48 : decode cX8_add 48 = .ok (.aload_n 0, 1) := by decide +kernel
theorem dX8_add_49 : decode cX8_add 49 = .ok (.getfield 21, 3) := by decide +kernel
theorem dX8_add_52 : decode cX8_add 52 = .ok (.invokevirtual 91, 3) := by decide +kernel
theorem dX8_add_55 : decode cX8_add 55 = .ok (.ireturn, 1) := by decide +kernel
theorem dX8_clear_0 : decode cX8_clear 0 = .ok (.aload_n 0, 1) := by decide +kernel
theorem dX8_clear_1 : decode cX8_clear 1 = .ok (.getfield 28, 3) := by decide +kernel
theorem dX8_clear_4 : decode cX8_clear 4 = .ok (.invokevirtual 95, 3) := by decide +kernel
theorem dX8_clear_7 : decode cX8_clear 7 = .ok (.ireturn, 1) := by decide +kernel
theorem dX8_count_0 : decode cX8_count 0 = .ok (.iload_n 1, 1) := by decide +kernel
theorem dX8_count_1 : decode cX8_count 1 = .ok (.tableswitch 63 0 3 #[31, 39, 47, 55], 31) := by decide +kernel
theorem dX8_count_32 : decode cX8_count 32 = .ok (.aload_n 0, 1) := by decide +kernel
theorem dX8_count_33 : decode cX8_count 33 = .ok (.getfield 28, 3) := by decide +kernel
theorem dX8_count_36 : decode cX8_count 36 = .ok (.getfield 98, 3) := by decide +kernel
theorem dX8_count_39 : decode cX8_count 39 = .ok (.ireturn, 1) := by decide +kernel
theorem dX8_count_40 : decode cX8_count 40 = .ok (.aload_n 0, 1) := by decide +kernel
theorem dX8_count_41 : decode cX8_count 41 = .ok (.getfield 28, 3) := by decide +kernel
theorem dX8_count_44 : decode cX8_count 44 = .ok (.getfield 101, 3) := by decide +kernel
theorem dX8_count_47 : decode cX8_count 47 = .ok (.ireturn, 1) := by decide +kernel
theorem dX8_count_48 : decode cX8_count 48 = .ok (.aload_n 0, 1) := by decide +kernel
theorem dX8_count_49 : decode cX8_count 49 = .ok (.getfield 28, 3) := by decide +kernel
theorem dX8_count_52 : decode cX8_count 52 = .ok (.getfield 104, 3) := by decide +kernel
theorem dX8_count_55 : decode cX8_count 55 = .ok (.ireturn, 1) := by decide +kernel
theorem dX8_count_56 : decode cX8_count 56 = .ok (.aload_n 0, 1) := by decide +kernel
theorem dX8_count_57 : decode cX8_count 57 = .ok (.getfield 28, 3) := by decide +kernel
theorem dX8_count_60 : decode cX8_count 60 = .ok (.getfield 107, 3) := by decide +kernel
theorem dX8_count_63 : decode cX8_count 63 = .ok (.ireturn, 1) := by decide +kernel
theorem dX8_count_64 : decode cX8_count 64 = .ok (.new 110, 3) := by decide +kernel
theorem dX8_count_67 : decode cX8_count 67 = .ok (.dup, 1) := by decide +kernel
theorem dX8_count_68 : decode cX8_count 68 = .ok (.invokespecial 112, 3) := by decide +kernel
theorem dX8_count_71 : decode cX8_count 71 = .ok (.athrow, 1) := by decide +kernel
theorem dX8_score_0 : decode cX8_score 0 = .ok (.aload_n 0, 1) := by decide +kernel
theorem dX8_score_1 : decode cX8_score 1 = .ok (.invokevirtual 80, 3) := by decide +kernel
theorem dX8_score_4 : decode cX8_score 4 = .ok (.aload_n 0, 1) := by decide +kernel
theorem dX8_score_5 : decode cX8_score 5 = .ok (.getfield 21, 3) := by decide +kernel
theorem dX8_score_8 : decode cX8_score 8 = .ok (.getfield 83, 3) := by decide +kernel
theorem dX8_score_11 : decode cX8_score 11 = .ok (.iconst 1, 1) := by decide +kernel
theorem dX8_score_12 : decode cX8_score 12 = .ok (.if_icmp .eq 11, 3) := by decide +kernel
theorem dX8_score_15 : decode cX8_score 15 = .ok (.new 67, 3) := by decide +kernel
theorem dX8_score_18 : decode cX8_score 18 = .ok (.dup, 1) := by decide +kernel
theorem dX8_score_19 : decode cX8_score 19 = .ok (.invokespecial 69, 3) := by decide +kernel
theorem dX8_score_22 : decode cX8_score 22 = .ok (.athrow, 1) := by decide +kernel
theorem dX8_score_23 : decode cX8_score 23 = .ok (.iload_n 1, 1) := by decide +kernel
theorem dX8_score_24 : decode cX8_score 24 = .ok (.ifCond .lt 14, 3) := by decide +kernel
theorem dX8_score_27 : decode cX8_score 27 = .ok (.iload_n 1, 1) := by decide +kernel
theorem dX8_score_28 : decode cX8_score 28 = .ok (.aload_n 0, 1) := by decide +kernel
theorem dX8_score_29 : decode cX8_score 29 = .ok (.getfield 28, 3) := by decide +kernel
theorem dX8_score_32 : decode cX8_score 32 = .ok (.getfield 98, 3) := by decide +kernel
theorem dX8_score_35 : decode cX8_score 35 = .ok (.if_icmp .lt 11, 3) := by decide +kernel
theorem dX8_score_38 : decode cX8_score 38 = .ok (.new 110, 3) := by decide +kernel
theorem dX8_score_41 : decode cX8_score 41 = .ok (.dup, 1) := by decide +kernel
theorem dX8_score_42 : decode cX8_score 42 = .ok (.invokespecial 112, 3) := by decide +kernel
theorem dX8_score_45 : decode cX8_score 45 = .ok (.athrow, 1) := by decide +kernel
theorem dX8_score_46 : decode cX8_score 46 = .ok (.aload_n 0, 1) := by decide +kernel
theorem dX8_score_47 : decode cX8_score 47 = .ok (.getfield 28, 3) := by decide +kernel
theorem dX8_score_50 : decode cX8_score 50 = .ok (.aload_n 0, 1) := by decide +kernel
theorem dX8_score_51 : decode cX8_score 51 = .ok (.getfield 21, 3) := by decide +kernel
theorem dX8_score_54 : decode cX8_score 54 = .ok (.getfield 113, 3) := by decide +kernel
theorem dX8_score_57 : decode cX8_score 57 = .ok (.iconst 0, 1) := by decide +kernel
theorem dX8_score_58 : decode cX8_score 58 = .ok (.laload, 1) := by decide +kernel
theorem dX8_score_59 : decode cX8_score 59 = .ok (.iload_n 1, 1) := by decide +kernel
theorem dX8_score_60 : decode cX8_score 60 = .ok (.invokevirtual 117, 3) := by decide +kernel
theorem dX8_score_63 : decode cX8_score 63 = .ok (.dreturn, 1) := by decide +kernel
theorem dX8_build_0 : decode cX8_build 0 = .ok (.iload_n 1, 1) := by decide +kernel
theorem dX8_build_1 : decode cX8_build 1 = .ok (.iconst 2, 1) := by decide +kernel
theorem dX8_build_2 : decode cX8_build 2 = .ok (.if_icmp .lt 18, 3) := by decide +kernel
theorem dX8_build_5 : decode cX8_build 5 = .ok (.iload_n 1, 1) := by decide +kernel
theorem dX8_build_6 : decode cX8_build 6 = .ok (.bipush 8, 2) := by decide +kernel
theorem dX8_build_8 : decode cX8_build 8 = .ok (.if_icmp .gt 12, 3) := by decide +kernel
theorem dX8_build_11 : decode cX8_build 11 = .ok (.iload_n 2, 1) := by decide +kernel
theorem dX8_build_12 : decode cX8_build 12 = .ok (.ifCond .lt 8, 3) := by decide +kernel
theorem dX8_build_15 : decode cX8_build 15 = .ok (.iload_n 2, 1) := by decide +kernel
theorem dX8_build_16 : decode cX8_build 16 = .ok (.iconst 3, 1) := by decide +kernel
theorem dX8_build_17 : decode cX8_build 17 = .ok (.if_icmp .lt 11, 3) := by decide +kernel
theorem dX8_build_20 : decode cX8_build 20 = .ok (.new 67, 3) := by decide +kernel
theorem dX8_build_23 : decode cX8_build 23 = .ok (.dup, 1) := by decide +kernel
theorem dX8_build_24 : decode cX8_build 24 = .ok (.invokespecial 69, 3) := by decide +kernel
theorem dX8_build_27 : decode cX8_build 27 = .ok (.athrow, 1) := by decide +kernel
theorem dX8_build_28 : decode cX8_build 28 = .ok (.aload_n 0, 1) := by decide +kernel
theorem dX8_build_29 : decode cX8_build 29 = .ok (.getfield 28, 3) := by decide +kernel
theorem dX8_build_32 : decode cX8_build 32 = .ok (.getfield 98, 3) := by decide +kernel
theorem dX8_build_35 : decode cX8_build 35 = .ok (.ifCond .ne 11, 3) := by decide +kernel
theorem dX8_build_38 : decode cX8_build 38 = .ok (.new 74, 3) := by decide +kernel
theorem dX8_build_41 : decode cX8_build 41 = .ok (.dup, 1) := by decide +kernel
theorem dX8_build_42 : decode cX8_build 42 = .ok (.invokespecial 76, 3) := by decide +kernel
theorem dX8_build_45 : decode cX8_build 45 = .ok (.athrow, 1) := by decide +kernel
theorem dX8_build_46 : decode cX8_build 46 = .ok (.aload_n 0, 1) := by decide +kernel
theorem dX8_build_47 : decode cX8_build 47 = .ok (.getfield 28, 3) := by decide +kernel
theorem dX8_build_50 : decode cX8_build 50 = .ok (.iload_n 1, 1) := by decide +kernel
theorem dX8_build_51 : decode cX8_build 51 = .ok (.aload_n 0, 1) := by decide +kernel
theorem dX8_build_52 : decode cX8_build 52 = .ok (.getfield 59, 3) := by decide +kernel
theorem dX8_build_55 : decode cX8_build 55 = .ok (.invokevirtual 121, 3) := by decide +kernel
theorem dX8_build_58 : decode cX8_build 58 = .ok (.aload_n 0, 1) := by decide +kernel
theorem dX8_build_59 : decode cX8_build 59 = .ok (.getfield 38, 3) := by decide +kernel
theorem dX8_build_62 : decode cX8_build 62 = .ok (.aload_n 0, 1) := by decide +kernel
theorem dX8_build_63 : decode cX8_build 63 = .ok (.getfield 59, 3) := by decide +kernel
theorem dX8_build_66 : decode cX8_build 66 = .ok (.iload_n 2, 1) := by decide +kernel
theorem dX8_build_67 : decode cX8_build 67 = .ok (.aload_n 0, 1) := by decide +kernel
theorem dX8_build_68 : decode cX8_build 68 = .ok (.getfield 32, 3) := by decide +kernel
theorem dX8_build_71 : decode cX8_build 71 = .ok (.invokevirtual 125, 3) := by decide +kernel
theorem dX8_build_74 : decode cX8_build 74 = .ok (.aload_n 0, 1) := by decide +kernel
theorem dX8_build_75 : decode cX8_build 75 = .ok (.getfield 32, 3) := by decide +kernel
theorem dX8_build_78 : decode cX8_build 78 = .ok (.invokevirtual 70, 3) := by decide +kernel
theorem dX8_build_81 : decode cX8_build 81 = .ok (.ireturn, 1) := by decide +kernel
theorem dX8_file_0 : decode cX8_file 0 = .ok (.aload_n 0, 1) := by decide +kernel
theorem dX8_file_1 : decode cX8_file 1 = .ok (.iload_n 1, 1) := by decide +kernel
theorem dX8_file_2 : decode cX8_file 2 = .ok (.invokevirtual 129, 3) := by decide +kernel
theorem dX8_file_5 : decode cX8_file 5 = .ok (.aload_n 0, 1) := by decide +kernel
theorem dX8_file_6 : decode cX8_file 6 = .ok (.getfield 32, 3) := by decide +kernel
theorem dX8_file_9 : decode cX8_file 9 = .ok (.iload_n 1, 1) := by decide +kernel
theorem dX8_file_10 : decode cX8_file 10 = .ok (.invokevirtual 132, 3) := by decide +kernel
theorem dX8_file_13 : decode cX8_file 13 = .ok (.lreturn, 1) := by decide +kernel
theorem dX8_spoil_0 : decode cX8_spoil 0 = .ok (.aload_n 0, 1) := by decide +kernel
theorem dX8_spoil_1 : decode cX8_spoil 1 = .ok (.iload_n 1, 1) := by decide +kernel
theorem dX8_spoil_2 : decode cX8_spoil 2 = .ok (.invokevirtual 129, 3) := by decide +kernel
theorem dX8_spoil_5 : decode cX8_spoil 5 = .ok (.aload_n 0, 1) := by decide +kernel
theorem dX8_spoil_6 : decode cX8_spoil 6 = .ok (.getfield 32, 3) := by decide +kernel
theorem dX8_spoil_9 : decode cX8_spoil 9 = .ok (.iload_n 1, 1) := by decide +kernel
theorem dX8_spoil_10 : decode cX8_spoil 10 = .ok (.invokevirtual 136, 3) := by decide +kernel
theorem dX8_spoil_13 : decode cX8_spoil 13 = .ok (.istore_n 3, 1) := by decide +kernel
theorem dX8_spoil_14 : decode cX8_spoil 14 = .ok (.aload_n 0, 1) := by decide +kernel
theorem dX8_spoil_15 : decode cX8_spoil 15 = .ok (.getfield 32, 3) := by decide +kernel
theorem dX8_spoil_18 : decode cX8_spoil 18 = .ok (.iload_n 1, 1) := by decide +kernel
theorem dX8_spoil_19 : decode cX8_spoil 19 = .ok (.iload_n 2, 1) := by decide +kernel
theorem dX8_spoil_20 : decode cX8_spoil 20 = .ok (.invokevirtual 140, 3) := by decide +kernel
theorem dX8_spoil_23 : decode cX8_spoil 23 = .ok (.iload_n 3, 1) := by decide +kernel
theorem dX8_spoil_24 : decode cX8_spoil 24 = .ok (.ireturn, 1) := by decide +kernel
theorem dX8_cut_0 : decode cX8_cut 0 = .ok (.aload_n 0, 1) := by decide +kernel
theorem dX8_cut_1 : decode cX8_cut 1 = .ok (.getfield 32, 3) := by decide +kernel
theorem dX8_cut_4 : decode cX8_cut 4 = .ok (.iload_n 1, 1) := by decide +kernel
theorem dX8_cut_5 : decode cX8_cut 5 = .ok (.invokevirtual 144, 3) := by decide +kernel
theorem dX8_cut_8 : decode cX8_cut 8 = .ok (.ireturn, 1) := by decide +kernel
theorem dX8_mend_0 : decode cX8_mend 0 = .ok (.aload_n 0, 1) := by decide +kernel
theorem dX8_mend_1 : decode cX8_mend 1 = .ok (.getfield 32, 3) := by decide +kernel
theorem dX8_mend_4 : decode cX8_mend 4 = .ok (.aload_n 0, 1) := by decide +kernel
theorem dX8_mend_5 : decode cX8_mend 5 = .ok (.getfield 32, 3) := by decide +kernel
theorem dX8_mend_8 : decode cX8_mend 8 = .ok (.invokevirtual 70, 3) := by decide +kernel
theorem dX8_mend_11 : decode cX8_mend 11 = .ok (.iconst 4, 1) := by decide +kernel
theorem dX8_mend_12 : decode cX8_mend 12 = .ok (.isub, 1) := by decide +kernel
theorem dX8_mend_13 : decode cX8_mend 13 = .ok (.invokevirtual 144, 3) := by decide +kernel
theorem dX8_mend_16 : decode cX8_mend 16 = .ok (.ifCond .ne 5, 3) := by decide +kernel
theorem dX8_mend_19 : decode cX8_mend 19 = .ok (.iconst 0, 1) := by decide +kernel
theorem dX8_mend_20 : decode cX8_mend 20 = .ok (.ireturn, 1) := by decide +kernel
theorem dX8_mend_21 : decode cX8_mend 21 = .ok (.aload_n 0, 1) := by decide +kernel
theorem dX8_mend_22 : decode cX8_mend 22 = .ok (.getfield 32, 3) := by decide +kernel
theorem dX8_mend_25 : decode cX8_mend 25 = .ok (.invokevirtual 148, 3) := by decide +kernel
theorem dX8_mend_28 : decode cX8_mend 28 = .ok (.iconst 1, 1) := by decide +kernel
theorem dX8_mend_29 : decode cX8_mend 29 = .ok (.ireturn, 1) := by decide +kernel
theorem dX8_publish_0 : decode cX8_publish 0 = .ok (.aload_n 0, 1) := by decide +kernel
theorem dX8_publish_1 : decode cX8_publish 1 = .ok (.getfield 38, 3) := by decide +kernel
theorem dX8_publish_4 : decode cX8_publish 4 = .ok (.aload_n 0, 1) := by decide +kernel
theorem dX8_publish_5 : decode cX8_publish 5 = .ok (.getfield 32, 3) := by decide +kernel
theorem dX8_publish_8 : decode cX8_publish 8 = .ok (.aload_n 0, 1) := by decide +kernel
theorem dX8_publish_9 : decode cX8_publish 9 = .ok (.getfield 59, 3) := by decide +kernel
theorem dX8_publish_12 : decode cX8_publish 12 = .ok (.invokevirtual 151, 3) := by decide +kernel
theorem dX8_publish_15 : decode cX8_publish 15 = .ok (.ifCond .ne 11, 3) := by decide +kernel
theorem dX8_publish_18 : decode cX8_publish 18 = .ok (.new 67, 3) := by decide +kernel
theorem dX8_publish_21 : decode cX8_publish 21 = .ok (.dup, 1) := by decide +kernel
theorem dX8_publish_22 : decode cX8_publish 22 = .ok (.invokespecial 69, 3) := by decide +kernel
theorem dX8_publish_25 : decode cX8_publish 25 = .ok (.athrow, 1) := by decide +kernel
theorem dX8_publish_26 : decode cX8_publish 26 = .ok (.aload_n 0, 1) := by decide +kernel
theorem dX8_publish_27 : decode cX8_publish 27 = .ok (.getfield 45, 3) := by decide +kernel
theorem dX8_publish_30 : decode cX8_publish 30 = .ok (.invokevirtual 155, 3) := by decide +kernel
theorem dX8_publish_33 : decode cX8_publish 33 = .ok (.istore_n 1, 1) := by decide +kernel
theorem dX8_publish_34 : decode cX8_publish 34 = .ok (.iload_n 1, 1) := by decide +kernel
theorem dX8_publish_35 : decode cX8_publish 35 = .ok (.ifCond .ge 11, 3) := by decide +kernel
theorem dX8_publish_38 : decode cX8_publish 38 = .ok (.new 74, 3) := by decide +kernel
theorem dX8_publish_41 : decode cX8_publish 41 = .ok (.dup, 1) := by decide +kernel
theorem dX8_publish_42 : decode cX8_publish 42 = .ok (.invokespecial 76, 3) := by decide +kernel
theorem dX8_publish_45 : decode cX8_publish 45 = .ok (.athrow, 1) := by decide +kernel
theorem dX8_publish_46 : decode cX8_publish 46 = .ok (.aload_n 0, 1) := by decide +kernel
theorem dX8_publish_47 : decode cX8_publish 47 = .ok (.aload_n 0, 1) := by decide +kernel
theorem dX8_publish_48 : decode cX8_publish 48 = .ok (.getfield 45, 3) := by decide +kernel
theorem dX8_publish_51 : decode cX8_publish 51 = .ok (.iload_n 1, 1) := by decide +kernel
theorem dX8_publish_52 : decode cX8_publish 52 = .ok (.aload_n 0, 1) := by decide +kernel
theorem dX8_publish_53 : decode cX8_publish 53 = .ok (.getfield 59, 3) := by decide +kernel
theorem dX8_publish_56 : decode cX8_publish 56 = .ok (.invokevirtual 158, 3) := by decide +kernel
theorem dX8_publish_59 : decode cX8_publish 59 = .ok (.putfield 59, 3) := by decide +kernel
theorem dX8_publish_62 : decode cX8_publish 62 = .ok (.aload_n 0, 1) := by decide +kernel
theorem dX8_publish_63 : decode cX8_publish 63 = .ok (.getfield 45, 3) := by decide +kernel
theorem dX8_publish_66 : decode cX8_publish 66 = .ok (.getfield 162, 3) := by decide +kernel
theorem dX8_publish_69 : decode cX8_publish 69 = .ok (.ireturn, 1) := by decide +kernel
theorem dX8_open_0 : decode cX8_open 0 = .ok (.aload_n 0, 1) := by decide +kernel
theorem dX8_open_1 : decode cX8_open 1 = .ok (.iload_n 1, 1) := by decide +kernel
theorem dX8_open_2 : decode cX8_open 2 = .ok (.invokevirtual 165, 3) := by decide +kernel
theorem dX8_open_5 : decode cX8_open 5 = .ok (.aload_n 0, 1) := by decide +kernel
theorem dX8_open_6 : decode cX8_open 6 = .ok (.getfield 45, 3) := by decide +kernel
theorem dX8_open_9 : decode cX8_open 9 = .ok (.getfield 168, 3) := by decide +kernel
theorem dX8_open_12 : decode cX8_open 12 = .ok (.iload_n 1, 1) := by decide +kernel
theorem dX8_open_13 : decode cX8_open 13 = .ok (.iaload, 1) := by decide +kernel
theorem dX8_open_14 : decode cX8_open 14 = .ok (.iconst (-1), 1) := by decide +kernel
theorem dX8_open_15 : decode cX8_open 15 = .ok (.if_icmp .eq 11, 3) := by decide +kernel
theorem dX8_open_18 : decode cX8_open 18 = .ok (.new 74, 3) := by decide +kernel
theorem dX8_open_21 : decode cX8_open 21 = .ok (.dup, 1) := by decide +kernel
theorem dX8_open_22 : decode cX8_open 22 = .ok (.invokespecial 76, 3) := by decide +kernel
theorem dX8_open_25 : decode cX8_open 25 = .ok (.athrow, 1) := by decide +kernel
theorem dX8_open_26 : decode cX8_open 26 = .ok (.aload_n 0, 1) := by decide +kernel
theorem dX8_open_27 : decode cX8_open 27 = .ok (.getfield 45, 3) := by decide +kernel
theorem dX8_open_30 : decode cX8_open 30 = .ok (.getfield 168, 3) := by decide +kernel
theorem dX8_open_33 : decode cX8_open 33 = .ok (.iload_n 1, 1) := by decide +kernel
theorem dX8_open_34 : decode cX8_open 34 = .ok (.aload_n 0, 1) := by decide +kernel
theorem dX8_open_35 : decode cX8_open 35 = .ok (.getfield 45, 3) := by decide +kernel
theorem dX8_open_38 : decode cX8_open 38 = .ok (.getfield 162, 3) := by decide +kernel
theorem dX8_open_41 : decode cX8_open 41 = .ok (.iastore, 1) := by decide +kernel
theorem dX8_open_42 : decode cX8_open 42 = .ok (.aload_n 0, 1) := by decide +kernel
theorem dX8_open_43 : decode cX8_open 43 = .ok (.getfield 45, 3) := by decide +kernel
theorem dX8_open_46 : decode cX8_open 46 = .ok (.getfield 162, 3) := by decide +kernel
theorem dX8_open_49 : decode cX8_open 49 = .ok (.ireturn, 1) := by decide +kernel
theorem dX8_close_0 : decode cX8_close 0 = .ok (.aload_n 0, 1) := by decide +kernel
theorem dX8_close_1 : decode cX8_close 1 = .ok (.iload_n 1, 1) := by decide +kernel
theorem dX8_close_2 : decode cX8_close 2 = .ok (.invokevirtual 165, 3) := by decide +kernel
theorem dX8_close_5 : decode cX8_close 5 = .ok (.aload_n 0, 1) := by decide +kernel
theorem dX8_close_6 : decode cX8_close 6 = .ok (.getfield 45, 3) := by decide +kernel
theorem dX8_close_9 : decode cX8_close 9 = .ok (.iload_n 1, 1) := by decide +kernel
theorem dX8_close_10 : decode cX8_close 10 = .ok (.invokevirtual 172, 3) := by decide +kernel
theorem dX8_close_13 : decode cX8_close 13 = .ok (.ireturn, 1) := by decide +kernel
theorem dX8_query_0 : decode cX8_query 0 = .ok (.aload_n 0, 1) := by decide +kernel
theorem dX8_query_1 : decode cX8_query 1 = .ok (.invokevirtual 80, 3) := by decide +kernel
theorem dX8_query_4 : decode cX8_query 4 = .ok (.aload_n 0, 1) := by decide +kernel
theorem dX8_query_5 : decode cX8_query 5 = .ok (.iload_n 1, 1) := by decide +kernel
theorem dX8_query_6 : decode cX8_query 6 = .ok (.invokevirtual 165, 3) := by decide +kernel
theorem dX8_query_9 : decode cX8_query 9 = .ok (.iload_n 2, 1) := by decide +kernel
theorem dX8_query_10 : decode cX8_query 10 = .ok (.iconst 1, 1) := by decide +kernel
theorem dX8_query_11 : decode cX8_query 11 = .ok (.if_icmp .lt 13, 3) := by decide +kernel
theorem dX8_query_14 : decode cX8_query 14 = .ok (.iload_n 2, 1) := by decide +kernel
theorem dX8_query_15 : decode cX8_query 15 = .ok (.bipush 40, 2) := by decide +kernel
theorem dX8_query_17 : decode cX8_query 17 = .ok (.if_icmp .gt 7, 3) := by decide +kernel
theorem dX8_query_20 : decode cX8_query 20 = .ok (.iload_n 3, 1) := by decide +kernel
theorem dX8_query_21 : decode cX8_query 21 = .ok (.ifCond .ge 11, 3) := by decide +kernel
theorem dX8_query_24 : decode cX8_query 24 = .ok (.new 67, 3) := by decide +kernel
theorem dX8_query_27 : decode cX8_query 27 = .ok (.dup, 1) := by decide +kernel
theorem dX8_query_28 : decode cX8_query 28 = .ok (.invokespecial 69, 3) := by decide +kernel
theorem dX8_query_31 : decode cX8_query 31 = .ok (.athrow, 1) := by decide +kernel
theorem dX8_query_32 : decode cX8_query 32 = .ok (.aload_n 0, 1) := by decide +kernel
theorem dX8_query_33 : decode cX8_query 33 = .ok (.iload_n 1, 1) := by decide +kernel
theorem dX8_query_34 : decode cX8_query 34 = .ok (.invokevirtual 175, 3) := by decide +kernel
theorem dX8_query_37 : decode cX8_query 37 = .ok (.aload_n 0, 1) := by decide +kernel
theorem dX8_query_38 : decode cX8_query 38 = .ok (.getfield 45, 3) := by decide +kernel
theorem dX8_query_41 : decode cX8_query 41 = .ok (.iload_n 1, 1) := by decide +kernel
theorem dX8_query_42 : decode cX8_query 42 = .ok (.invokevirtual 178, 3) := by decide +kernel
theorem dX8_query_45 : decode cX8_query 45 = .ok (.astore 6, 2) := by decide +kernel
theorem dX8_query_47 : decode cX8_query 47 = .ok (.aload_n 0, 1) := by decide +kernel
theorem dX8_query_48 : decode cX8_query 48 = .ok (.getfield 52, 3) := by decide +kernel
theorem dX8_query_51 : decode cX8_query 51 = .ok (.aload 6, 2) := by decide +kernel
theorem dX8_query_53 : decode cX8_query 53 = .ok (.aload_n 0, 1) := by decide +kernel
theorem dX8_query_54 : decode cX8_query 54 = .ok (.getfield 21, 3) := by decide +kernel
theorem dX8_query_57 : decode cX8_query 57 = .ok (.invokevirtual 182, 3) := by decide +kernel
theorem dX8_query_60 : decode cX8_query 60 = .ok (.bipush 8, 2) := by decide +kernel
theorem dX8_query_62 : decode cX8_query 62 = .ok (.if_icmp .le 11, 3) := by decide +kernel
theorem dX8_query_65 : decode cX8_query 65 = .ok (.new 67, 3) := by decide +kernel
theorem dX8_query_68 : decode cX8_query 68 = .ok (.dup, 1) := by decide +kernel
theorem dX8_query_69 : decode cX8_query 69 = .ok (.invokespecial 69, 3) := by decide +kernel
theorem dX8_query_72 : decode cX8_query 72 = .ok (.athrow, 1) := by decide +kernel
theorem dX8_query_73 : decode cX8_query 73 = .ok (.aload_n 0, 1) := by decide +kernel
theorem dX8_query_74 : decode cX8_query 74 = .ok (.getfield 52, 3) := by decide +kernel
theorem dX8_query_77 : decode cX8_query 77 = .ok (.aload 6, 2) := by decide +kernel
theorem dX8_query_79 : decode cX8_query 79 = .ok (.iload_n 2, 1) := by decide +kernel
theorem dX8_query_80 : decode cX8_query 80 = .ok (.iload_n 3, 1) := by decide +kernel
theorem dX8_query_81 : decode cX8_query 81 = .ok (.lload 4, 2) := by decide +kernel
theorem dX8_query_83 : decode cX8_query 83 = .ok (.aload_n 0, 1) := by decide +kernel
theorem dX8_query_84 : decode cX8_query 84 = .ok (.getfield 63, 3) := by decide +kernel
theorem dX8_query_87 : decode cX8_query 87 = .ok (.invokevirtual 186, 3) := by decide +kernel
theorem dX8_query_90 : decode cX8_query 90 = .ok (.aload_n 0, 1) := by decide +kernel
theorem dX8_query_91 : decode cX8_query 91 = .ok (.dup, 1) := by decide +kernel
theorem dX8_query_92 : decode cX8_query 92 = .ok (.getfield 63, 3) := by decide +kernel
theorem dX8_query_95 : decode cX8_query 95 = .ok (.aload_n 0, 1) := by decide +kernel
theorem dX8_query_96 : decode cX8_query 96 = .ok (.getfield 52, 3) := by decide +kernel
theorem dX8_query_99 : decode cX8_query 99 = .ok (.getfield 190, 3) := by decide +kernel
theorem dX8_query_102 : decode cX8_query 102 = .ok (.i2l, 1) := by decide +kernel
theorem dX8_query_103 : decode cX8_query 103 = .ok (.ladd, 1) := by decide +kernel
theorem dX8_query_104 : decode cX8_query 104 = .ok (.putfield 63, 3) := by decide +kernel
theorem dX8_query_107 : decode cX8_query 107 = .ok (.aload_n 0, 1) := by decide +kernel
theorem dX8_query_108 : decode cX8_query 108 = .ok (.getfield 52, 3) := by decide +kernel
theorem dX8_query_111 : decode cX8_query 111 = .ok (.getfield 193, 3) := by decide +kernel
theorem dX8_query_114 : decode cX8_query 114 = .ok (.ireturn, 1) := by decide +kernel
theorem dX8_hit_0 : decode cX8_hit 0 = .ok (.iload_n 1, 1) := by decide +kernel
theorem dX8_hit_1 : decode cX8_hit 1 = .ok (.ifCond .lt 23, 3) := by decide +kernel
theorem dX8_hit_4 : decode cX8_hit 4 = .ok (.iload_n 1, 1) := by decide +kernel
theorem dX8_hit_5 : decode cX8_hit 5 = .ok (.aload_n 0, 1) := by decide +kernel
theorem dX8_hit_6 : decode cX8_hit 6 = .ok (.getfield 52, 3) := by decide +kernel
theorem dX8_hit_9 : decode cX8_hit 9 = .ok (.getfield 193, 3) := by decide +kernel
theorem dX8_hit_12 : decode cX8_hit 12 = .ok (.if_icmp .ge 12, 3) := by decide +kernel
theorem dX8_hit_15 : decode cX8_hit 15 = .ok (.iload_n 2, 1) := by decide +kernel
theorem dX8_hit_16 : decode cX8_hit 16 = .ok (.ifCond .lt 8, 3) := by decide +kernel
theorem dX8_hit_19 : decode cX8_hit 19 = .ok (.iload_n 2, 1) := by decide +kernel
theorem dX8_hit_20 : decode cX8_hit 20 = .ok (.iconst 1, 1) := by decide +kernel
theorem dX8_hit_21 : decode cX8_hit 21 = .ok (.if_icmp .le 11, 3) := by decide +kernel
theorem dX8_hit_24 : decode cX8_hit 24 = .ok (.new 110, 3) := by decide +kernel
theorem dX8_hit_27 : decode cX8_hit 27 = .ok (.dup, 1) := by decide +kernel
theorem dX8_hit_28 : decode cX8_hit 28 = .ok (.invokespecial 112, 3) := by decide +kernel
theorem dX8_hit_31 : decode cX8_hit 31 = .ok (.athrow, 1) := by decide +kernel
theorem dX8_hit_32 : decode cX8_hit 32 = .ok (.aload_n 0, 1) := by decide +kernel
theorem dX8_hit_33 : decode cX8_hit 33 = .ok (.getfield 52, 3) := by decide +kernel
theorem dX8_hit_36 : decode cX8_hit 36 = .ok (.getfield 196, 3) := by decide +kernel
theorem dX8_hit_39 : decode cX8_hit 39 = .ok (.iload_n 1, 1) := by decide +kernel
theorem dX8_hit_40 : decode cX8_hit 40 = .ok (.iaload, 1) := by decide +kernel
theorem dX8_hit_41 : decode cX8_hit 41 = .ok (.istore_n 3, 1) := by decide +kernel
theorem dX8_hit_42 : decode cX8_hit 42 = .ok (.iload_n 2, 1) := by decide +kernel
theorem dX8_hit_43 : decode cX8_hit 43 = .ok (.ifCond .ne 7, 3) := by decide +kernel
theorem dX8_hit_46 : decode cX8_hit 46 = .ok (.iload_n 3, 1) := by decide +kernel
theorem dX8_hit_47 : decode cX8_hit 47 = .ok (.goto 12, 3) := by decide +kernel
theorem dX8_hit_50 : decode cX8_hit 50 = .ok (.aload_n 0, 1) := by decide +kernel
theorem dX8_hit_51 : decode cX8_hit 51 = .ok (.getfield 52, 3) := by decide +kernel
theorem dX8_hit_54 : decode cX8_hit 54 = .ok (.getfield 199, 3) := by decide +kernel
theorem dX8_hit_57 : decode cX8_hit 57 = .ok (.iload_n 3, 1) := by decide +kernel
theorem dX8_hit_58 : decode cX8_hit 58 = .ok (.iaload, 1) := by decide +kernel
theorem dX8_hit_59 : decode cX8_hit 59 = .ok (.ireturn, 1) := by decide +kernel
theorem dX8_sum_0 : decode cX8_sum 0 = .ok (.iload_n 1, 1) := by decide +kernel
theorem dX8_sum_1 : decode cX8_sum 1 = .ok (.ifCond .lt 9, 3) := by decide +kernel
theorem dX8_sum_4 : decode cX8_sum 4 = .ok (.iload_n 1, 1) := by decide +kernel
theorem dX8_sum_5 : decode cX8_sum 5 = .ok (.bipush 40, 2) := by decide +kernel
theorem dX8_sum_7 : decode cX8_sum 7 = .ok (.if_icmp .lt 11, 3) := by decide +kernel
theorem dX8_sum_10 : decode cX8_sum 10 = .ok (.new 67, 3) := by decide +kernel
theorem dX8_sum_13 : decode cX8_sum 13 = .ok (.dup, 1) := by decide +kernel
theorem dX8_sum_14 : decode cX8_sum 14 = .ok (.invokespecial 69, 3) := by decide +kernel
theorem dX8_sum_17 : decode cX8_sum 17 = .ok (.athrow, 1) := by decide +kernel
theorem dX8_sum_18 : decode cX8_sum 18 = .ok (.aload_n 0, 1) := by decide +kernel
theorem dX8_sum_19 : decode cX8_sum 19 = .ok (.getfield 52, 3) := by decide +kernel
theorem dX8_sum_22 : decode cX8_sum 22 = .ok (.getfield 199, 3) := by decide +kernel
theorem dX8_sum_25 : decode cX8_sum 25 = .ok (.iload_n 1, 1) := by decide +kernel
theorem dX8_sum_26 : decode cX8_sum 26 = .ok (.iaload, 1) := by decide +kernel
theorem dX8_sum_27 : decode cX8_sum 27 = .ok (.ireturn, 1) := by decide +kernel
theorem dX8_last_0 : decode cX8_last 0 = .ok (.iload_n 1, 1) := by decide +kernel
theorem dX8_last_1 : decode cX8_last 1 = .ok (.tableswitch 87 0 5 #[39, 47, 55, 63, 71, 79], 39) := by decide +kernel
theorem dX8_last_40 : decode cX8_last 40 = .ok (.aload_n 0, 1) := by decide +kernel
theorem dX8_last_41 : decode cX8_last 41 = .ok (.getfield 52, 3) := by decide +kernel
theorem dX8_last_44 : decode cX8_last 44 = .ok (.getfield 202, 3) := by decide +kernel
theorem dX8_last_47 : decode cX8_last 47 = .ok (.ireturn, 1) := by decide +kernel
theorem dX8_last_48 : decode cX8_last 48 = .ok (.aload_n 0, 1) := by decide +kernel
theorem dX8_last_49 : decode cX8_last 49 = .ok (.getfield 52, 3) := by decide +kernel
theorem dX8_last_52 : decode cX8_last 52 = .ok (.getfield 203, 3) := by decide +kernel
theorem dX8_last_55 : decode cX8_last 55 = .ok (.ireturn, 1) := by decide +kernel
theorem dX8_last_56 : decode cX8_last 56 = .ok (.aload_n 0, 1) := by decide +kernel
theorem dX8_last_57 : decode cX8_last 57 = .ok (.getfield 52, 3) := by decide +kernel
theorem dX8_last_60 : decode cX8_last 60 = .ok (.getfield 206, 3) := by decide +kernel
theorem dX8_last_63 : decode cX8_last 63 = .ok (.ireturn, 1) := by decide +kernel
theorem dX8_last_64 : decode cX8_last 64 = .ok (.aload_n 0, 1) := by decide +kernel
theorem dX8_last_65 : decode cX8_last 65 = .ok (.getfield 52, 3) := by decide +kernel
theorem dX8_last_68 : decode cX8_last 68 = .ok (.getfield 190, 3) := by decide +kernel
theorem dX8_last_71 : decode cX8_last 71 = .ok (.ireturn, 1) := by decide +kernel
theorem dX8_last_72 : decode cX8_last 72 = .ok (.aload_n 0, 1) := by decide +kernel
theorem dX8_last_73 : decode cX8_last 73 = .ok (.getfield 52, 3) := by decide +kernel
theorem dX8_last_76 : decode cX8_last 76 = .ok (.getfield 209, 3) := by decide +kernel
theorem dX8_last_79 : decode cX8_last 79 = .ok (.ireturn, 1) := by decide +kernel
theorem dX8_last_80 : decode cX8_last 80 = .ok (.aload_n 0, 1) := by decide +kernel
theorem dX8_last_81 : decode cX8_last 81 = .ok (.getfield 52, 3) := by decide +kernel
theorem dX8_last_84 : decode cX8_last 84 = .ok (.getfield 210, 3) := by decide +kernel
theorem dX8_last_87 : decode cX8_last 87 = .ok (.ireturn, 1) := by decide +kernel
theorem dX8_last_88 : decode cX8_last 88 = .ok (.new 110, 3) := by decide +kernel
theorem dX8_last_91 : decode cX8_last 91 = .ok (.dup, 1) := by decide +kernel
theorem dX8_last_92 : decode cX8_last 92 = .ok (.invokespecial 112, 3) := by decide +kernel
theorem dX8_last_95 : decode cX8_last 95 = .ok (.athrow, 1) := by decide +kernel
theorem dX8_plan_0 : decode cX8_plan 0 = .ok (.iload_n 1, 1) := by decide +kernel
theorem dX8_plan_1 : decode cX8_plan 1 = .ok (.ifCond .lt 14, 3) := by decide +kernel
theorem dX8_plan_4 : decode cX8_plan 4 = .ok (.iload_n 1, 1) := by decide +kernel
theorem dX8_plan_5 : decode cX8_plan 5 = .ok (.aload_n 0, 1) := by decide +kernel
theorem dX8_plan_6 : decode cX8_plan 6 = .ok (.getfield 52, 3) := by decide +kernel
theorem dX8_plan_9 : decode cX8_plan 9 = .ok (.getfield 203, 3) := by decide +kernel
theorem dX8_plan_12 : decode cX8_plan 12 = .ok (.if_icmp .lt 11, 3) := by decide +kernel
theorem dX8_plan_15 : decode cX8_plan 15 = .ok (.new 110, 3) := by decide +kernel
theorem dX8_plan_18 : decode cX8_plan 18 = .ok (.dup, 1) := by decide +kernel
theorem dX8_plan_19 : decode cX8_plan 19 = .ok (.invokespecial 112, 3) := by decide +kernel
theorem dX8_plan_22 : decode cX8_plan 22 = .ok (.athrow, 1) := by decide +kernel
theorem dX8_plan_23 : decode cX8_plan 23 = .ok (.iload_n 2, 1) := by decide +kernel
theorem dX8_plan_24 : decode cX8_plan 24 = .ok (.tableswitch 58 0 2 #[28, 38, 48], 28) := by decide +kernel
theorem dX8_plan_52 : decode cX8_plan 52 = .ok (.aload_n 0, 1) := by decide +kernel
theorem dX8_plan_53 : decode cX8_plan 53 = .ok (.getfield 52, 3) := by decide +kernel
theorem dX8_plan_56 : decode cX8_plan 56 = .ok (.getfield 213, 3) := by decide +kernel
theorem dX8_plan_59 : decode cX8_plan 59 = .ok (.iload_n 1, 1) := by decide +kernel
theorem dX8_plan_60 : decode cX8_plan 60 = .ok (.iaload, 1) := by decide +kernel
theorem dX8_plan_61 : decode cX8_plan 61 = .ok (.ireturn, 1) := by decide +kernel
theorem dX8_plan_62 : decode cX8_plan 62 = .ok (.aload_n 0, 1) := by decide +kernel
theorem dX8_plan_63 : decode cX8_plan 63 = .ok (.getfield 52, 3) := by decide +kernel
theorem dX8_plan_66 : decode cX8_plan 66 = .ok (.getfield 216, 3) := by decide +kernel
theorem dX8_plan_69 : decode cX8_plan 69 = .ok (.iload_n 1, 1) := by decide +kernel
theorem dX8_plan_70 : decode cX8_plan 70 = .ok (.iaload, 1) := by decide +kernel
theorem dX8_plan_71 : decode cX8_plan 71 = .ok (.ireturn, 1) := by decide +kernel
theorem dX8_plan_72 : decode cX8_plan 72 = .ok (.aload_n 0, 1) := by decide +kernel
theorem dX8_plan_73 : decode cX8_plan 73 = .ok (.getfield 52, 3) := by decide +kernel
theorem dX8_plan_76 : decode cX8_plan 76 = .ok (.getfield 219, 3) := by decide +kernel
theorem dX8_plan_79 : decode cX8_plan 79 = .ok (.iload_n 1, 1) := by decide +kernel
theorem dX8_plan_80 : decode cX8_plan 80 = .ok (.iaload, 1) := by decide +kernel
theorem dX8_plan_81 : decode cX8_plan 81 = .ok (.ireturn, 1) := by decide +kernel
theorem dX8_plan_82 : decode cX8_plan 82 = .ok (.new 110, 3) := by decide +kernel
theorem dX8_plan_85 : decode cX8_plan 85 = .ok (.dup, 1) := by decide +kernel
theorem dX8_plan_86 : decode cX8_plan 86 = .ok (.invokespecial 112, 3) := by decide +kernel
theorem dX8_plan_89 : decode cX8_plan 89 = .ok (.athrow, 1) := by decide +kernel
theorem dX8_exhaustive_0 : decode cX8_exhaustive 0 = .ok (.aload_n 0, 1) := by decide +kernel
theorem dX8_exhaustive_1 : decode cX8_exhaustive 1 = .ok (.getfield 52, 3) := by decide +kernel
theorem dX8_exhaustive_4 : decode cX8_exhaustive 4 = .ok (.invokevirtual 222, 3) := by decide +kernel
theorem dX8_exhaustive_7 : decode cX8_exhaustive 7 = .ok (.ireturn, 1) := by decide +kernel
theorem dX8_look_0 : decode cX8_look 0 = .ok (.iload_n 1, 1) := by decide +kernel
theorem dX8_look_1 : decode cX8_look 1 = .ok (.tableswitch 91 0 4 #[35, 43, 51, 59, 83], 35) := by decide +kernel
theorem dX8_look_36 : decode cX8_look 36 = .ok (.aload_n 0, 1) := by decide +kernel
theorem dX8_look_37 : decode cX8_look 37 = .ok (.getfield 45, 3) := by decide +kernel
theorem dX8_look_40 : decode cX8_look 40 = .ok (.getfield 162, 3) := by decide +kernel
theorem dX8_look_43 : decode cX8_look 43 = .ok (.ireturn, 1) := by decide +kernel
theorem dX8_look_44 : decode cX8_look 44 = .ok (.aload_n 0, 1) := by decide +kernel
theorem dX8_look_45 : decode cX8_look 45 = .ok (.getfield 45, 3) := by decide +kernel
theorem dX8_look_48 : decode cX8_look 48 = .ok (.invokevirtual 226, 3) := by decide +kernel
theorem dX8_look_51 : decode cX8_look 51 = .ok (.ireturn, 1) := by decide +kernel
theorem dX8_look_52 : decode cX8_look 52 = .ok (.aload_n 0, 1) := by decide +kernel
theorem dX8_look_53 : decode cX8_look 53 = .ok (.getfield 32, 3) := by decide +kernel
theorem dX8_look_56 : decode cX8_look 56 = .ok (.invokevirtual 70, 3) := by decide +kernel
theorem dX8_look_59 : decode cX8_look 59 = .ok (.ireturn, 1) := by decide +kernel
theorem dX8_look_60 : decode cX8_look 60 = .ok (.aload_n 0, 1) := by decide +kernel
theorem dX8_look_61 : decode cX8_look 61 = .ok (.getfield 38, 3) := by decide +kernel
theorem dX8_look_64 : decode cX8_look 64 = .ok (.aload_n 0, 1) := by decide +kernel
theorem dX8_look_65 : decode cX8_look 65 = .ok (.getfield 32, 3) := by decide +kernel
theorem dX8_look_68 : decode cX8_look 68 = .ok (.aload_n 0, 1) := by decide +kernel
theorem dX8_look_69 : decode cX8_look 69 = .ok (.getfield 59, 3) := by decide +kernel
theorem dX8_look_72 : decode cX8_look 72 = .ok (.invokevirtual 151, 3) := by decide +kernel
theorem dX8_look_75 : decode cX8_look 75 = .ok (.ifCond .eq 7, 3) := by decide +kernel
theorem dX8_look_78 : decode cX8_look 78 = .ok (.iconst 1, 1) := by decide +kernel
theorem dX8_look_79 : decode cX8_look 79 = .ok (.goto 4, 3) := by decide +kernel
theorem dX8_look_82 : decode cX8_look 82 = .ok (.iconst 0, 1) := by decide +kernel
theorem dX8_look_83 : decode cX8_look 83 = .ok (.ireturn, 1) := by decide +kernel
theorem dX8_look_84 : decode cX8_look 84 = .ok (.aload_n 0, 1) := by decide +kernel
theorem dX8_look_85 : decode cX8_look 85 = .ok (.getfield 14, 3) := by decide +kernel
theorem dX8_look_88 : decode cX8_look 88 = .ok (.invokevirtual 70, 3) := by decide +kernel
theorem dX8_look_91 : decode cX8_look 91 = .ok (.ireturn, 1) := by decide +kernel
theorem dX8_look_92 : decode cX8_look 92 = .ok (.new 110, 3) := by decide +kernel
theorem dX8_look_95 : decode cX8_look 95 = .ok (.dup, 1) := by decide +kernel
theorem dX8_look_96 : decode cX8_look 96 = .ok (.invokespecial 112, 3) := by decide +kernel
theorem dX8_look_99 : decode cX8_look 99 = .ok (.athrow, 1) := by decide +kernel
theorem dX8_holds_0 : decode cX8_holds 0 = .ok (.aload_n 0, 1) := by decide +kernel
theorem dX8_holds_1 : decode cX8_holds 1 = .ok (.iload_n 1, 1) := by decide +kernel
theorem dX8_holds_2 : decode cX8_holds 2 = .ok (.invokevirtual 165, 3) := by decide +kernel
theorem dX8_holds_5 : decode cX8_holds 5 = .ok (.aload_n 0, 1) := by decide +kernel
theorem dX8_holds_6 : decode cX8_holds 6 = .ok (.getfield 45, 3) := by decide +kernel
theorem dX8_holds_9 : decode cX8_holds 9 = .ok (.getfield 168, 3) := by decide +kernel
theorem dX8_holds_12 : decode cX8_holds 12 = .ok (.iload_n 1, 1) := by decide +kernel
theorem dX8_holds_13 : decode cX8_holds 13 = .ok (.iaload, 1) := by decide +kernel
theorem dX8_holds_14 : decode cX8_holds 14 = .ok (.ireturn, 1) := by decide +kernel
theorem dX8_index_0 : decode cX8_index 0 = .ok (.aload_n 0, 1) := by decide +kernel
theorem dX8_index_1 : decode cX8_index 1 = .ok (.iload_n 1, 1) := by decide +kernel
theorem dX8_index_2 : decode cX8_index 2 = .ok (.invokevirtual 165, 3) := by decide +kernel
theorem dX8_index_5 : decode cX8_index 5 = .ok (.iload_n 2, 1) := by decide +kernel
theorem dX8_index_6 : decode cX8_index 6 = .ok (.ifCond .lt 8, 3) := by decide +kernel
theorem dX8_index_9 : decode cX8_index 9 = .ok (.iload_n 2, 1) := by decide +kernel
theorem dX8_index_10 : decode cX8_index 10 = .ok (.iconst 3, 1) := by decide +kernel
theorem dX8_index_11 : decode cX8_index 11 = .ok (.if_icmp .le 11, 3) := by decide +kernel
theorem dX8_index_14 : decode cX8_index 14 = .ok (.new 67, 3) := by decide +kernel
theorem dX8_index_17 : decode cX8_index 17 = .ok (.dup, 1) := by decide +kernel
theorem dX8_index_18 : decode cX8_index 18 = .ok (.invokespecial 69, 3) := by decide +kernel
theorem dX8_index_21 : decode cX8_index 21 = .ok (.athrow, 1) := by decide +kernel
theorem dX8_index_22 : decode cX8_index 22 = .ok (.aload_n 0, 1) := by decide +kernel
theorem dX8_index_23 : decode cX8_index 23 = .ok (.iload_n 1, 1) := by decide +kernel
theorem dX8_index_24 : decode cX8_index 24 = .ok (.invokevirtual 175, 3) := by decide +kernel
theorem dX8_index_27 : decode cX8_index 27 = .ok (.aload_n 0, 1) := by decide +kernel
theorem dX8_index_28 : decode cX8_index 28 = .ok (.getfield 45, 3) := by decide +kernel
theorem dX8_index_31 : decode cX8_index 31 = .ok (.iload_n 1, 1) := by decide +kernel
theorem dX8_index_32 : decode cX8_index 32 = .ok (.invokevirtual 178, 3) := by decide +kernel
theorem dX8_index_35 : decode cX8_index 35 = .ok (.astore_n 3, 1) := by decide +kernel
theorem dX8_index_36 : decode cX8_index 36 = .ok (.iload_n 2, 1) := by decide +kernel
theorem dX8_index_37 : decode cX8_index 37 = .ok (.tableswitch 42 0 2 #[27, 32, 37], 27) := by decide +kernel
theorem dX8_index_64 : decode cX8_index 64 = .ok (.aload_n 3, 1) := by decide +kernel
theorem dX8_index_65 : decode cX8_index 65 = .ok (.getfield 229, 3) := by decide +kernel
theorem dX8_index_68 : decode cX8_index 68 = .ok (.ireturn, 1) := by decide +kernel
theorem dX8_index_69 : decode cX8_index 69 = .ok (.aload_n 3, 1) := by decide +kernel
theorem dX8_index_70 : decode cX8_index 70 = .ok (.getfield 230, 3) := by decide +kernel
theorem dX8_index_73 : decode cX8_index 73 = .ok (.ireturn, 1) := by decide +kernel
theorem dX8_index_74 : decode cX8_index 74 = .ok (.aload_n 3, 1) := by decide +kernel
theorem dX8_index_75 : decode cX8_index 75 = .ok (.getfield 231, 3) := by decide +kernel
theorem dX8_index_78 : decode cX8_index 78 = .ok (.ireturn, 1) := by decide +kernel
theorem dX8_index_79 : decode cX8_index 79 = .ok (.aload_n 3, 1) := by decide +kernel
theorem dX8_index_80 : decode cX8_index 80 = .ok (.getfield 232, 3) := by decide +kernel
theorem dX8_index_83 : decode cX8_index 83 = .ok (.ireturn, 1) := by decide +kernel
theorem dX8_clock_0 : decode cX8_clock 0 = .ok (.aload_n 0, 1) := by decide +kernel
theorem dX8_clock_1 : decode cX8_clock 1 = .ok (.getfield 63, 3) := by decide +kernel
theorem dX8_clock_4 : decode cX8_clock 4 = .ok (.lreturn, 1) := by decide +kernel
theorem dX8_readTape_0 : decode cX8_readTape 0 = .ok (.aload_n 0, 1) := by decide +kernel
theorem dX8_readTape_1 : decode cX8_readTape 1 = .ok (.getfield 21, 3) := by decide +kernel
theorem dX8_readTape_4 : decode cX8_readTape 4 = .ok (.aload_n 0, 1) := by decide +kernel
theorem dX8_readTape_5 : decode cX8_readTape 5 = .ok (.getfield 14, 3) := by decide +kernel
theorem dX8_readTape_8 : decode cX8_readTape 8 = .ok (.invokevirtual 233, 3) := by decide +kernel
theorem dX8_readTape_11 : decode cX8_readTape 11 = .ok (.aload_n 0, 1) := by decide +kernel
theorem dX8_readTape_12 : decode cX8_readTape 12 = .ok (.getfield 14, 3) := by decide +kernel
theorem dX8_readTape_15 : decode cX8_readTape 15 = .ok (.iconst 0, 1) := by decide +kernel
theorem dX8_readTape_16 : decode cX8_readTape 16 = .ok (.invokevirtual 144, 3) := by decide +kernel
theorem dX8_readTape_19 : decode cX8_readTape 19 = .ok (.pop, 1) := by decide +kernel
theorem dX8_readTape_20 : decode cX8_readTape 20 = .ok (.return_, 1) := by decide +kernel
theorem dX8_requireByte_0 : decode cX8_requireByte 0 = .ok (.iload_n 1, 1) := by decide +kernel
theorem dX8_requireByte_1 : decode cX8_requireByte 1 = .ok (.ifCond .lt 14, 3) := by decide +kernel
theorem dX8_requireByte_4 : decode cX8_requireByte 4 = .ok (.iload_n 1, 1) := by decide +kernel
theorem dX8_requireByte_5 : decode cX8_requireByte 5 = .ok (.aload_n 0, 1) := by decide +kernel
theorem dX8_requireByte_6 : decode cX8_requireByte 6 = .ok (.getfield 32, 3) := by decide +kernel
theorem dX8_requireByte_9 : decode cX8_requireByte 9 = .ok (.invokevirtual 70, 3) := by decide +kernel
theorem dX8_requireByte_12 : decode cX8_requireByte 12 = .ok (.if_icmp .lt 11, 3) := by decide +kernel
theorem dX8_requireByte_15 : decode cX8_requireByte 15 = .ok (.new 110, 3) := by decide +kernel
theorem dX8_requireByte_18 : decode cX8_requireByte 18 = .ok (.dup, 1) := by decide +kernel
theorem dX8_requireByte_19 : decode cX8_requireByte 19 = .ok (.invokespecial 112, 3) := by decide +kernel
theorem dX8_requireByte_22 : decode cX8_requireByte 22 = .ok (.athrow, 1) := by decide +kernel
theorem dX8_requireByte_23 : decode cX8_requireByte 23 = .ok (.return_, 1) := by decide +kernel
theorem dX8_requireReader_0 : decode cX8_requireReader 0 = .ok (.iload_n 1, 1) := by decide +kernel
theorem dX8_requireReader_1 : decode cX8_requireReader 1 = .ok (.ifCond .lt 8, 3) := by decide +kernel
theorem dX8_requireReader_4 : decode cX8_requireReader 4 = .ok (.iload_n 1, 1) := by decide +kernel
theorem dX8_requireReader_5 : decode cX8_requireReader 5 = .ok (.iconst 4, 1) := by decide +kernel
theorem dX8_requireReader_6 : decode cX8_requireReader 6 = .ok (.if_icmp .lt 11, 3) := by decide +kernel
theorem dX8_requireReader_9 : decode cX8_requireReader 9 = .ok (.new 67, 3) := by decide +kernel
theorem dX8_requireReader_12 : decode cX8_requireReader 12 = .ok (.dup, 1) := by decide +kernel
theorem dX8_requireReader_13 : decode cX8_requireReader 13 = .ok (.invokespecial 69, 3) := by decide +kernel
theorem dX8_requireReader_16 : decode cX8_requireReader 16 = .ok (.athrow, 1) := by decide +kernel
theorem dX8_requireReader_17 : decode cX8_requireReader 17 = .ok (.return_, 1) := by decide +kernel
theorem dX8_requireOpen_0 : decode cX8_requireOpen 0 = .ok (.aload_n 0, 1) := by decide +kernel
theorem dX8_requireOpen_1 : decode cX8_requireOpen 1 = .ok (.getfield 45, 3) := by decide +kernel
theorem dX8_requireOpen_4 : decode cX8_requireOpen 4 = .ok (.getfield 168, 3) := by decide +kernel
theorem dX8_requireOpen_7 : decode cX8_requireOpen 7 = .ok (.iload_n 1, 1) := by decide +kernel
theorem dX8_requireOpen_8 : decode cX8_requireOpen 8 = .ok (.iaload, 1) := by decide +kernel
theorem dX8_requireOpen_9 : decode cX8_requireOpen 9 = .ok (.iconst (-1), 1) := by decide +kernel
theorem dX8_requireOpen_10 : decode cX8_requireOpen 10 = .ok (.if_icmp .ne 11, 3) := by decide +kernel
theorem dX8_requireOpen_13 : decode cX8_requireOpen 13 = .ok (.new 74, 3) := by decide +kernel
theorem dX8_requireOpen_16 : decode cX8_requireOpen 16 = .ok (.dup, 1) := by decide +kernel
theorem dX8_requireOpen_17 : decode cX8_requireOpen 17 = .ok (.invokespecial 76, 3) := by decide +kernel
theorem dX8_requireOpen_20 : decode cX8_requireOpen 20 = .ok (.athrow, 1) := by decide +kernel
theorem dX8_requireOpen_21 : decode cX8_requireOpen 21 = .ok (.return_, 1) := by decide +kernel
theorem dX9_init_0 : decode cX9_init 0 = .ok (.aload_n 0, 1) := by decide +kernel
theorem dX9_init_1 : decode cX9_init 1 = .ok (.invokespecial 1, 3) := by decide +kernel
theorem dX9_init_4 : decode cX9_init 4 = .ok (.aload_n 0, 1) := by decide +kernel
theorem dX9_init_5 : decode cX9_init 5 = .ok (.sipush 3000, 3) := by decide +kernel
theorem dX9_init_8 : decode cX9_init 8 = .ok (.newarray .int, 2) := by decide +kernel
theorem dX9_init_10 : decode cX9_init 10 = .ok (.putfield 7, 3) := by decide +kernel
theorem dX9_init_13 : decode cX9_init 13 = .ok (.aload_n 0, 1) := by decide +kernel
theorem dX9_init_14 : decode cX9_init 14 = .ok (.bipush 8, 2) := by decide +kernel
theorem dX9_init_16 : decode cX9_init 16 = .ok (.newarray .int, 2) := by decide +kernel
theorem dX9_init_18 : decode cX9_init 18 = .ok (.putfield 13, 3) := by decide +kernel
theorem dX9_init_21 : decode cX9_init 21 = .ok (.aload_n 0, 1) := by decide +kernel
theorem dX9_init_22 : decode cX9_init 22 = .ok (.sipush 512, 3) := by decide +kernel
theorem dX9_init_25 : decode cX9_init 25 = .ok (.newarray .int, 2) := by decide +kernel
theorem dX9_init_27 : decode cX9_init 27 = .ok (.putfield 16, 3) := by decide +kernel
theorem dX9_init_30 : decode cX9_init 30 = .ok (.aload_n 0, 1) := by decide +kernel
theorem dX9_init_31 : decode cX9_init 31 = .ok (.sipush 2560, 3) := by decide +kernel
theorem dX9_init_34 : decode cX9_init 34 = .ok (.newarray .int, 2) := by decide +kernel
theorem dX9_init_36 : decode cX9_init 36 = .ok (.putfield 19, 3) := by decide +kernel
theorem dX9_init_39 : decode cX9_init 39 = .ok (.aload_n 0, 1) := by decide +kernel
theorem dX9_init_40 : decode cX9_init 40 = .ok (.bipush 40, 2) := by decide +kernel
theorem dX9_init_42 : decode cX9_init 42 = .ok (.newarray .int, 2) := by decide +kernel
theorem dX9_init_44 : decode cX9_init 44 = .ok (.putfield 22, 3) := by decide +kernel
theorem dX9_init_47 : decode cX9_init 47 = .ok (.aload_n 0, 1) := by decide +kernel
theorem dX9_init_48 : decode cX9_init 48 = .ok (.bipush 64, 2) := by decide +kernel
theorem dX9_init_50 : decode cX9_init 50 = .ok (.newarray .int, 2) := by decide +kernel
theorem dX9_init_52 : decode cX9_init 52 = .ok (.putfield 25, 3) := by decide +kernel
theorem dX9_init_55 : decode cX9_init 55 = .ok (.aload_n 0, 1) := by decide +kernel
theorem dX9_init_56 : decode cX9_init 56 = .ok (.iconst 5, 1) := by decide +kernel
theorem dX9_init_57 : decode cX9_init 57 = .ok (.newarray .int, 2) := by decide +kernel
theorem dX9_init_59 : decode cX9_init 59 = .ok (.putfield 28, 3) := by decide +kernel
theorem dX9_init_62 : decode cX9_init 62 = .ok (.aload_n 0, 1) := by decide +kernel
theorem dX9_init_63 : decode cX9_init 63 = .ok (.iconst 5, 1) := by decide +kernel
theorem dX9_init_64 : decode cX9_init 64 = .ok (.newarray .int, 2) := by decide +kernel
theorem dX9_init_66 : decode cX9_init 66 = .ok (.putfield 31, 3) := by decide +kernel
theorem dX9_init_69 : decode cX9_init 69 = .ok (.aload_n 0, 1) := by decide +kernel
theorem dX9_init_70 : decode cX9_init 70 = .ok (.iconst 5, 1) := by decide +kernel
theorem dX9_init_71 : decode cX9_init 71 = .ok (.newarray .int, 2) := by decide +kernel
theorem dX9_init_73 : decode cX9_init 73 = .ok (.putfield 34, 3) := by decide +kernel
theorem dX9_init_76 : decode cX9_init 76 = .ok (.aload_n 0, 1) := by decide +kernel
theorem dX9_init_77 : decode cX9_init 77 = .ok (.iconst 5, 1) := by decide +kernel
theorem dX9_init_78 : decode cX9_init 78 = .ok (.newarray .int, 2) := by decide +kernel
theorem dX9_init_80 : decode cX9_init 80 = .ok (.putfield 37, 3) := by decide +kernel
theorem dX9_init_83 : decode cX9_init 83 = .ok (.aload_n 0, 1) := by decide +kernel
theorem dX9_init_84 : decode cX9_init 84 = .ok (.sipush 2560, 3) := by decide +kernel
theorem dX9_init_87 : decode cX9_init 87 = .ok (.newarray .int, 2) := by decide +kernel
theorem dX9_init_89 : decode cX9_init 89 = .ok (.putfield 40, 3) := by decide +kernel
theorem dX9_init_92 : decode cX9_init 92 = .ok (.aload_n 0, 1) := by decide +kernel
theorem dX9_init_93 : decode cX9_init 93 = .ok (.sipush 12800, 3) := by decide +kernel
theorem dX9_init_96 : decode cX9_init 96 = .ok (.newarray .int, 2) := by decide +kernel
theorem dX9_init_98 : decode cX9_init 98 = .ok (.putfield 43, 3) := by decide +kernel
theorem dX9_init_101 : decode cX9_init 101 = .ok (.aload_n 0, 1) := by decide +kernel
theorem dX9_init_102 : decode cX9_init 102 = .ok (.iconst 5, 1) := by decide +kernel
theorem dX9_init_103 : decode cX9_init 103 = .ok (.newarray .int, 2) := by decide +kernel
theorem dX9_init_105 : decode cX9_init 105 = .ok (.putfield 46, 3) := by decide +kernel
theorem dX9_init_108 : decode cX9_init 108 = .ok (.aload_n 0, 1) := by decide +kernel
theorem dX9_init_109 : decode cX9_init 109 = .ok (.iconst 5, 1) := by decide +kernel
theorem dX9_init_110 : decode cX9_init 110 = .ok (.newarray .boolean, 2) := by decide +kernel
theorem dX9_init_112 : decode cX9_init 112 = .ok (.putfield 49, 3) := by decide +kernel
theorem dX9_init_115 : decode cX9_init 115 = .ok (.aload_n 0, 1) := by decide +kernel
theorem dX9_init_116 : decode cX9_init 116 = .ok (.iconst 4, 1) := by decide +kernel
theorem dX9_init_117 : decode cX9_init 117 = .ok (.newarray .int, 2) := by decide +kernel
theorem dX9_init_119 : decode cX9_init 119 = .ok (.putfield 53, 3) := by decide +kernel
theorem dX9_init_122 : decode cX9_init 122 = .ok (.aload_n 0, 1) := by decide +kernel
theorem dX9_init_123 : decode cX9_init 123 = .ok (.sipush 16000, 3) := by decide +kernel
theorem dX9_init_126 : decode cX9_init 126 = .ok (.newarray .int, 2) := by decide +kernel
theorem dX9_init_128 : decode cX9_init 128 = .ok (.putfield 56, 3) := by decide +kernel
theorem dX9_init_131 : decode cX9_init 131 = .ok (.aload_n 0, 1) := by decide +kernel
theorem dX9_init_132 : decode cX9_init 132 = .ok (.sipush 16000, 3) := by decide +kernel
theorem dX9_init_135 : decode cX9_init 135 = .ok (.newarray .int, 2) := by decide +kernel
theorem dX9_init_137 : decode cX9_init 137 = .ok (.putfield 59, 3) := by decide +kernel
theorem dX9_init_140 : decode cX9_init 140 = .ok (.aload_n 0, 1) := by decide +kernel
theorem dX9_init_141 : decode cX9_init 141 = .ok (.bipush 40, 2) := by decide +kernel
theorem dX9_init_143 : decode cX9_init 143 = .ok (.newarray .int, 2) := by decide +kernel
theorem dX9_init_145 : decode cX9_init 145 = .ok (.putfield 62, 3) := by decide +kernel
theorem dX9_init_148 : decode cX9_init 148 = .ok (.aload_n 0, 1) := by decide +kernel
theorem dX9_init_149 : decode cX9_init 149 = .ok (.bipush 64, 2) := by decide +kernel
theorem dX9_init_151 : decode cX9_init 151 = .ok (.newarray .int, 2) := by decide +kernel
theorem dX9_init_153 : decode cX9_init 153 = .ok (.putfield 65, 3) := by decide +kernel
theorem dX9_init_156 : decode cX9_init 156 = .ok (.aload_n 0, 1) := by decide +kernel
theorem dX9_init_157 : decode cX9_init 157 = .ok (.sipush 600, 3) := by decide +kernel
theorem dX9_init_160 : decode cX9_init 160 = .ok (.newarray .int, 2) := by decide +kernel
theorem dX9_init_162 : decode cX9_init 162 = .ok (.putfield 68, 3) := by decide +kernel
theorem dX9_init_165 : decode cX9_init 165 = .ok (.aload_n 0, 1) := by decide +kernel
theorem dX9_init_166 : decode cX9_init 166 = .ok (.sipush 600, 3) := by decide +kernel
theorem dX9_init_169 : decode cX9_init 169 = .ok (.newarray .int, 2) := by decide +kernel
theorem dX9_init_171 : decode cX9_init 171 = .ok (.putfield 71, 3) := by decide +kernel
theorem dX9_init_174 : decode cX9_init 174 = .ok (.aload_n 0, 1) := by decide +kernel
theorem dX9_init_175 : decode cX9_init 175 = .ok (.sipush 600, 3) := by decide +kernel
theorem dX9_init_178 : decode cX9_init 178 = .ok (.newarray .int, 2) := by decide +kernel
theorem dX9_init_180 : decode cX9_init 180 = .ok (.putfield 74, 3) := by decide +kernel
theorem dX9_init_183 : decode cX9_init 183 = .ok (.aload_n 0, 1) := by decide +kernel
theorem dX9_init_184 : decode cX9_init 184 = .ok (.bipush 40, 2) := by decide +kernel
theorem dX9_init_186 : decode cX9_init 186 = .ok (.newarray .int, 2) := by decide +kernel
theorem dX9_init_188 : decode cX9_init 188 = .ok (.putfield 77, 3) := by decide +kernel
theorem dX9_init_191 : decode cX9_init 191 = .ok (.aload_n 0, 1) := by decide +kernel
theorem dX9_init_192 : decode cX9_init 192 = .ok (.bipush 40, 2) := by decide +kernel
theorem dX9_init_194 : decode cX9_init 194 = .ok (.newarray .int, 2) := by decide +kernel
theorem dX9_init_196 : decode cX9_init 196 = .ok (.putfield 80, 3) := by decide +kernel
theorem dX9_init_199 : decode cX9_init 199 = .ok (.iconst 0, 1) := by decide +kernel
theorem dX9_init_200 : decode cX9_init 200 = .ok (.istore_n 1, 1) := by decide +kernel
theorem dX9_init_201 : decode cX9_init 201 = .ok (.iload_n 1, 1) := by decide +kernel
theorem dX9_init_202 : decode cX9_init 202 = .ok (.iconst 4, 1) := by decide +kernel
theorem dX9_init_203 : decode cX9_init 203 = .ok (.if_icmp .ge 16, 3) := by decide +kernel
theorem dX9_init_206 : decode cX9_init 206 = .ok (.aload_n 0, 1) := by decide +kernel
theorem dX9_init_207 : decode cX9_init 207 = .ok (.getfield 53, 3) := by decide +kernel
theorem dX9_init_210 : decode cX9_init 210 = .ok (.iload_n 1, 1) := by decide +kernel
theorem dX9_init_211 : decode cX9_init 211 = .ok (.iconst (-1), 1) := by decide +kernel
theorem dX9_init_212 : decode cX9_init 212 = .ok (.iastore, 1) := by decide +kernel
theorem dX9_init_213 : decode cX9_init 213 = .ok (.iinc 1 1, 3) := by decide +kernel
theorem dX9_init_216 : decode cX9_init 216 = .ok (.goto (-15), 3) := by decide +kernel
theorem dX9_init_219 : decode cX9_init 219 = .ok (.return_, 1) := by decide +kernel
theorem dX9_thrown_0 : decode cX9_thrown 0 = .ok (.aload_n 0, 1) := by decide +kernel
theorem dX9_thrown_1 : decode cX9_thrown 1 = .ok (.getfield 83, 3) := by decide +kernel
theorem dX9_thrown_4 : decode cX9_thrown 4 = .ok (.ireturn, 1) := by decide +kernel
theorem dX9_fails_0 : decode cX9_fails 0 = .ok (.aload_n 0, 1) := by decide +kernel
theorem dX9_fails_1 : decode cX9_fails 1 = .ok (.iload_n 1, 1) := by decide +kernel
theorem dX9_fails_2 : decode cX9_fails 2 = .ok (.ifCond .eq 7, 3) := by decide +kernel
theorem dX9_fails_5 : decode cX9_fails 5 = .ok (.iload_n 2, 1) := by decide +kernel
theorem dX9_fails_6 : decode cX9_fails 6 = .ok (.goto 4, 3) := by decide +kernel
theorem dX9_fails_9 : decode cX9_fails 9 = .ok (.iconst 0, 1) := by decide +kernel
theorem dX9_fails_10 : decode cX9_fails 10 = .ok (.putfield 83, 3) := by decide +kernel
theorem dX9_fails_13 : decode cX9_fails 13 = .ok (.iload_n 1, 1) := by decide +kernel
theorem dX9_fails_14 : decode cX9_fails 14 = .ok (.ireturn, 1) := by decide +kernel
theorem dX9_within_0 : decode cX9_within 0 = .ok (.lload_n 0, 1) := by decide +kernel
theorem dX9_within_1 : decode cX9_within 1 = .ok (.lload_n 2, 1) := by decide +kernel
theorem dX9_within_2 : decode cX9_within 2 = .ok (.lcmp, 1) := by decide +kernel
theorem dX9_within_3 : decode cX9_within 3 = .ok (.ifCond .lt 14, 3) := by decide +kernel
theorem dX9_within_6 : decode cX9_within 6 = .ok (.lload_n 0, 1) := by decide +kernel
theorem dX9_within_7 : decode cX9_within 7 = .ok (.lload 4, 2) := by decide +kernel
theorem dX9_within_9 : decode cX9_within 9 = .ok (.lcmp, 1) := by decide +kernel
theorem dX9_within_10 : decode cX9_within 10 = .ok (.ifCond .gt 7, 3) := by decide +kernel
theorem dX9_within_13 : decode cX9_within 13 = .ok (.iconst 1, 1) := by decide +kernel
theorem dX9_within_14 : decode cX9_within 14 = .ok (.goto 4, 3) := by decide +kernel
theorem dX9_within_17 : decode cX9_within 17 = .ok (.iconst 0, 1) := by decide +kernel
theorem dX9_within_18 : decode cX9_within 18 = .ok (.ireturn, 1) := by decide +kernel
theorem dX9_feed_0 : decode cX9_feed 0 = .ok (.aload_n 0, 1) := by decide +kernel
theorem dX9_feed_1 : decode cX9_feed 1 = .ok (.iload_n 1, 1) := by decide +kernel
theorem dX9_feed_2 : decode cX9_feed 2 = .ok (.i2l, 1) := by decide +kernel
theorem dX9_feed_3 : decode cX9_feed 3 = .ok (.lconst 1, 1) := by decide +kernel
theorem dX9_feed_4 : decode cX9_feed 4 = .ok (.ldc2_w 87, 3) := by decide +kernel
theorem dX9_feed_7 : decode cX9_feed 7 = .ok (.invokestatic 89, 3) := by decide +kernel
theorem dX9_feed_10 : decode cX9_feed 10 = .ok (.ifCond .ne 7, 3) := by decide +kernel
theorem dX9_feed_13 : decode cX9_feed 13 = .ok (.iconst 1, 1) := by decide +kernel
theorem dX9_feed_14 : decode cX9_feed 14 = .ok (.goto 4, 3) := by decide +kernel
theorem dX9_feed_17 : decode cX9_feed 17 = .ok (.iconst 0, 1) := by decide +kernel
theorem dX9_feed_18 : decode cX9_feed 18 = .ok (.iconst 1, 1) := by decide +kernel
theorem dX9_feed_19 : decode cX9_feed 19 = .ok (.invokevirtual 93, 3) := by decide +kernel
theorem dX9_feed_22 : decode cX9_feed 22 = .ok (.ifCond .ne 28, 3) := by decide +kernel
theorem dX9_feed_25 : decode cX9_feed 25 = .ok (.aload_n 0, 1) := by decide +kernel
theorem dX9_feed_26 : decode cX9_feed 26 = .ok (.aload_n 0, 1) := by decide +kernel
theorem dX9_feed_27 : decode cX9_feed 27 = .ok (.getfield 97, 3) := by decide +kernel
theorem dX9_feed_30 : decode cX9_feed 30 = .ok (.iload_n 1, 1) := by decide +kernel
theorem dX9_feed_31 : decode cX9_feed 31 = .ok (.iadd, 1) := by decide +kernel
theorem dX9_feed_32 : decode cX9_feed 32 = .ok (.sipush 3000, 3) := by decide +kernel
theorem dX9_feed_35 : decode cX9_feed 35 = .ok (.if_icmp .le 7, 3) := by decide +kernel
theorem dX9_feed_38 : decode cX9_feed 38 = .ok (.iconst 1, 1) := by decide +kernel
theorem dX9_feed_39 : decode cX9_feed 39 = .ok (.goto 4, 3) := by decide +kernel
theorem dX9_feed_42 : decode cX9_feed 42 = .ok (.iconst 0, 1) := by decide +kernel
theorem dX9_feed_43 : decode cX9_feed 43 = .ok (.iconst 2, 1) := by decide +kernel
theorem dX9_feed_44 : decode cX9_feed 44 = .ok (.invokevirtual 93, 3) := by decide +kernel
theorem dX9_feed_47 : decode cX9_feed 47 = .ok (.ifCond .eq 5, 3) := by decide +kernel
theorem dX9_feed_50 : decode cX9_feed 50 = .ok (.iconst 0, 1) := by decide +kernel
theorem dX9_feed_51 : decode cX9_feed 51 = .ok (.ireturn, 1) := by decide +kernel
theorem dX9_feed_52 : decode cX9_feed 52 = .ok (.iconst 0, 1) := by decide +kernel
theorem dX9_feed_53 : decode cX9_feed 53 = .ok (.istore 4, 2) := by decide +kernel
theorem dX9_feed_55 : decode cX9_feed 55 = .ok (.iload 4, 2) := by decide +kernel
theorem dX9_feed_57 : decode cX9_feed 57 = .ok (.iload_n 1, 1) := by decide +kernel
theorem dX9_feed_58 : decode cX9_feed 58 = .ok (.if_icmp .ge 33, 3) := by decide +kernel
theorem dX9_feed_61 : decode cX9_feed 61 = .ok (.aload_n 0, 1) := by decide +kernel
theorem dX9_feed_62 : decode cX9_feed 62 = .ok (.getfield 7, 3) := by decide +kernel
theorem dX9_feed_65 : decode cX9_feed 65 = .ok (.aload_n 0, 1) := by decide +kernel
theorem dX9_feed_66 : decode cX9_feed 66 = .ok (.getfield 97, 3) := by decide +kernel
theorem dX9_feed_69 : decode cX9_feed 69 = .ok (.iload 4, 2) := by decide +kernel
theorem dX9_feed_71 : decode cX9_feed 71 = .ok (.iadd, 1) := by decide +kernel
theorem dX9_feed_72 : decode cX9_feed 72 = .ok (.lload_n 2, 1) := by decide +kernel
theorem dX9_feed_73 : decode cX9_feed 73 = .ok (.bipush 8, 2) := by decide +kernel
theorem dX9_feed_75 : decode cX9_feed 75 = .ok (.iload 4, 2) := by decide +kernel
theorem dX9_feed_77 : decode cX9_feed 77 = .ok (.imul, 1) := by decide +kernel
theorem dX9_feed_78 : decode cX9_feed 78 = .ok (.lshr, 1) := by decide +kernel
theorem dX9_feed_79 : decode cX9_feed 79 = .ok (.ldc2_w 100, 3) := by decide +kernel
theorem dX9_feed_82 : decode cX9_feed 82 = .ok (.land, 1) := by decide +kernel
theorem dX9_feed_83 : decode cX9_feed 83 = .ok (.l2i, 1) := by decide +kernel
theorem dX9_feed_84 : decode cX9_feed 84 = .ok (.iastore, 1) := by decide +kernel
theorem dX9_feed_85 : decode cX9_feed 85 = .ok (.iinc 4 1, 3) := by decide +kernel
theorem dX9_feed_88 : decode cX9_feed 88 = .ok (.goto (-33), 3) := by decide +kernel
theorem dX9_feed_91 : decode cX9_feed 91 = .ok (.aload_n 0, 1) := by decide +kernel
theorem dX9_feed_92 : decode cX9_feed 92 = .ok (.dup, 1) := by decide +kernel
theorem dX9_feed_93 : decode cX9_feed 93 = .ok (.getfield 97, 3) := by decide +kernel
theorem dX9_feed_96 : decode cX9_feed 96 = .ok (.iload_n 1, 1) := by decide +kernel
theorem dX9_feed_97 : decode cX9_feed 97 = .ok (.iadd, 1) := by decide +kernel
theorem dX9_feed_98 : decode cX9_feed 98 = .ok (.putfield 97, 3) := by decide +kernel
theorem dX9_feed_101 : decode cX9_feed 101 = .ok (.aload_n 0, 1) := by decide +kernel
theorem dX9_feed_102 : decode cX9_feed 102 = .ok (.getfield 97, 3) := by decide +kernel
theorem dX9_feed_105 : decode cX9_feed 105 = .ok (.ireturn, 1) := by decide +kernel
theorem dX9_small_0 : decode cX9_small 0 = .ok (.iload_n 0, 1) := by decide +kernel
theorem dX9_small_1 : decode cX9_small 1 = .ok (.bipush 97, 2) := by decide +kernel
theorem dX9_small_3 : decode cX9_small 3 = .ok (.if_icmp .lt 11, 3) := by decide +kernel
theorem dX9_small_6 : decode cX9_small 6 = .ok (.iload_n 0, 1) := by decide +kernel
theorem dX9_small_7 : decode cX9_small 7 = .ok (.bipush 122, 2) := by decide +kernel
theorem dX9_small_9 : decode cX9_small 9 = .ok (.if_icmp .gt 5, 3) := by decide +kernel
theorem dX9_small_12 : decode cX9_small 12 = .ok (.iload_n 0, 1) := by decide +kernel
theorem dX9_small_13 : decode cX9_small 13 = .ok (.ireturn, 1) := by decide +kernel
theorem dX9_small_14 : decode cX9_small 14 = .ok (.iload_n 0, 1) := by decide +kernel
theorem dX9_small_15 : decode cX9_small 15 = .ok (.bipush 65, 2) := by decide +kernel
theorem dX9_small_17 : decode cX9_small 17 = .ok (.if_icmp .lt 16, 3) := by decide +kernel
theorem dX9_small_20 : decode cX9_small 20 = .ok (.iload_n 0, 1) := by decide +kernel
theorem dX9_small_21 : decode cX9_small 21 = .ok (.bipush 90, 2) := by decide +kernel
theorem dX9_small_23 : decode cX9_small 23 = .ok (.if_icmp .gt 10, 3) := by decide +kernel
theorem dX9_small_26 : decode cX9_small 26 = .ok (.iload_n 0, 1) := by decide +kernel
theorem dX9_small_27 : decode cX9_small 27 = .ok (.bipush 32, 2) := by decide +kernel
theorem dX9_small_29 : decode cX9_small 29 = .ok (.iadd, 1) := by decide +kernel
theorem dX9_small_30 : decode cX9_small 30 = .ok (.goto 4, 3) := by decide +kernel
theorem dX9_small_33 : decode cX9_small 33 = .ok (.iconst 0, 1) := by decide +kernel
theorem dX9_small_34 : decode cX9_small 34 = .ok (.ireturn, 1) := by decide +kernel
theorem dX9_takesWord_0 : decode cX9_takesWord 0 = .ok (.aload_n 0, 1) := by decide +kernel
theorem dX9_takesWord_1 : decode cX9_takesWord 1 = .ok (.getfield 102, 3) := by decide +kernel
theorem dX9_takesWord_4 : decode cX9_takesWord 4 = .ok (.iload_n 1, 1) := by decide +kernel
theorem dX9_takesWord_5 : decode cX9_takesWord 5 = .ok (.if_icmp .ge 31, 3) := by decide +kernel
theorem dX9_takesWord_8 : decode cX9_takesWord 8 = .ok (.aload_n 0, 1) := by decide +kernel
theorem dX9_takesWord_9 : decode cX9_takesWord 9 = .ok (.getfield 7, 3) := by decide +kernel
theorem dX9_takesWord_12 : decode cX9_takesWord 12 = .ok (.aload_n 0, 1) := by decide +kernel
theorem dX9_takesWord_13 : decode cX9_takesWord 13 = .ok (.getfield 102, 3) := by decide +kernel
theorem dX9_takesWord_16 : decode cX9_takesWord 16 = .ok (.iaload, 1) := by decide +kernel
theorem dX9_takesWord_17 : decode cX9_takesWord 17 = .ok (.invokestatic 105, 3) := by decide +kernel
theorem dX9_takesWord_20 : decode cX9_takesWord 20 = .ok (.ifCond .ne 16, 3) := by decide +kernel
theorem dX9_takesWord_23 : decode cX9_takesWord 23 = .ok (.aload_n 0, 1) := by decide +kernel
theorem dX9_takesWord_24 : decode cX9_takesWord 24 = .ok (.dup, 1) := by decide +kernel
theorem dX9_takesWord_25 : decode cX9_takesWord 25 = .ok (.getfield 102, 3) := by decide +kernel
theorem dX9_takesWord_28 : decode cX9_takesWord 28 = .ok (.iconst 1, 1) := by decide +kernel
theorem dX9_takesWord_29 : decode cX9_takesWord 29 = .ok (.iadd, 1) := by decide +kernel
theorem dX9_takesWord_30 : decode cX9_takesWord 30 = .ok (.putfield 102, 3) := by decide +kernel
theorem dX9_takesWord_33 : decode cX9_takesWord 33 = .ok (.goto (-33), 3) := by decide +kernel
theorem dX9_takesWord_36 : decode cX9_takesWord 36 = .ok (.aload_n 0, 1) := by decide +kernel
theorem dX9_takesWord_37 : decode cX9_takesWord 37 = .ok (.getfield 102, 3) := by decide +kernel
theorem dX9_takesWord_40 : decode cX9_takesWord 40 = .ok (.iload_n 1, 1) := by decide +kernel
theorem dX9_takesWord_41 : decode cX9_takesWord 41 = .ok (.if_icmp .ne 5, 3) := by decide +kernel
theorem dX9_takesWord_44 : decode cX9_takesWord 44 = .ok (.iconst 0, 1) := by decide +kernel
theorem dX9_takesWord_45 : decode cX9_takesWord 45 = .ok (.ireturn, 1) := by decide +kernel
theorem dX9_takesWord_46 : decode cX9_takesWord 46 = .ok (.iconst 0, 1) := by decide +kernel
theorem dX9_takesWord_47 : decode cX9_takesWord 47 = .ok (.istore_n 2, 1) := by decide +kernel
theorem dX9_takesWord_48 : decode cX9_takesWord 48 = .ok (.iconst 0, 1) := by decide +kernel
theorem dX9_takesWord_49 : decode cX9_takesWord 49 = .ok (.istore_n 3, 1) := by decide +kernel
theorem dX9_takesWord_50 : decode cX9_takesWord 50 = .ok (.iload_n 3, 1) := by decide +kernel
theorem dX9_takesWord_51 : decode cX9_takesWord 51 = .ok (.bipush 8, 2) := by decide +kernel
theorem dX9_takesWord_53 : decode cX9_takesWord 53 = .ok (.if_icmp .ge 16, 3) := by decide +kernel
theorem dX9_takesWord_56 : decode cX9_takesWord 56 = .ok (.aload_n 0, 1) := by decide +kernel
theorem dX9_takesWord_57 : decode cX9_takesWord 57 = .ok (.getfield 13, 3) := by decide +kernel
theorem dX9_takesWord_60 : decode cX9_takesWord 60 = .ok (.iload_n 3, 1) := by decide +kernel
theorem dX9_takesWord_61 : decode cX9_takesWord 61 = .ok (.iconst 0, 1) := by decide +kernel
theorem dX9_takesWord_62 : decode cX9_takesWord 62 = .ok (.iastore, 1) := by decide +kernel
theorem dX9_takesWord_63 : decode cX9_takesWord 63 = .ok (.iinc 3 1, 3) := by decide +kernel
theorem dX9_takesWord_66 : decode cX9_takesWord 66 = .ok (.goto (-16), 3) := by decide +kernel
theorem dX9_takesWord_69 : decode cX9_takesWord 69 = .ok (.aload_n 0, 1) := by decide +kernel
theorem dX9_takesWord_70 : decode cX9_takesWord 70 = .ok (.getfield 102, 3) := by decide +kernel
theorem dX9_takesWord_73 : decode cX9_takesWord 73 = .ok (.iload_n 1, 1) := by decide +kernel
theorem dX9_takesWord_74 : decode cX9_takesWord 74 = .ok (.if_icmp .ge 58, 3) := by decide +kernel
theorem dX9_takesWord_77 : decode cX9_takesWord 77 = .ok (.aload_n 0, 1) := by decide +kernel
theorem dX9_takesWord_78 : decode cX9_takesWord 78 = .ok (.getfield 7, 3) := by decide +kernel
theorem dX9_takesWord_81 : decode cX9_takesWord 81 = .ok (.aload_n 0, 1) := by decide +kernel
theorem dX9_takesWord_82 : decode cX9_takesWord 82 = .ok (.getfield 102, 3) := by decide +kernel
theorem dX9_takesWord_85 : decode cX9_takesWord 85 = .ok (.iaload, 1) := by decide +kernel
theorem dX9_takesWord_86 : decode cX9_takesWord 86 = .ok (.invokestatic 105, 3) := by decide +kernel
theorem dX9_takesWord_89 : decode cX9_takesWord 89 = .ok (.ifCond .eq 43, 3) := by decide +kernel
theorem dX9_takesWord_92 : decode cX9_takesWord 92 = .ok (.iload_n 2, 1) := by decide +kernel
theorem dX9_takesWord_93 : decode cX9_takesWord 93 = .ok (.bipush 8, 2) := by decide +kernel
theorem dX9_takesWord_95 : decode cX9_takesWord 95 = .ok (.if_icmp .ge 21, 3) := by decide +kernel
theorem dX9_takesWord_98 : decode cX9_takesWord 98 = .ok (.aload_n 0, 1) := by decide +kernel
theorem dX9_takesWord_99 : decode cX9_takesWord 99 = .ok (.getfield 13, 3) := by decide +kernel
theorem dX9_takesWord_102 : decode cX9_takesWord 102 = .ok (.iload_n 2, 1) := by decide +kernel
theorem dX9_takesWord_103 : decode cX9_takesWord 103 = .ok (.aload_n 0, 1) := by decide +kernel
theorem dX9_takesWord_104 : decode cX9_takesWord 104 = .ok (.getfield 7, 3) := by decide +kernel
theorem dX9_takesWord_107 : decode cX9_takesWord 107 = .ok (.aload_n 0, 1) := by decide +kernel
theorem dX9_takesWord_108 : decode cX9_takesWord 108 = .ok (.getfield 102, 3) := by decide +kernel
theorem dX9_takesWord_111 : decode cX9_takesWord 111 = .ok (.iaload, 1) := by decide +kernel
theorem dX9_takesWord_112 : decode cX9_takesWord 112 = .ok (.invokestatic 105, 3) := by decide +kernel
theorem dX9_takesWord_115 : decode cX9_takesWord 115 = .ok (.iastore, 1) := by decide +kernel
theorem dX9_takesWord_116 : decode cX9_takesWord 116 = .ok (.iinc 2 1, 3) := by decide +kernel
theorem dX9_takesWord_119 : decode cX9_takesWord 119 = .ok (.aload_n 0, 1) := by decide +kernel
theorem dX9_takesWord_120 : decode cX9_takesWord 120 = .ok (.dup, 1) := by decide +kernel
theorem dX9_takesWord_121 : decode cX9_takesWord 121 = .ok (.getfield 102, 3) := by decide +kernel
theorem dX9_takesWord_124 : decode cX9_takesWord 124 = .ok (.iconst 1, 1) := by decide +kernel
theorem dX9_takesWord_125 : decode cX9_takesWord 125 = .ok (.iadd, 1) := by decide +kernel
theorem dX9_takesWord_126 : decode cX9_takesWord 126 = .ok (.putfield 102, 3) := by decide +kernel
theorem dX9_takesWord_129 : decode cX9_takesWord 129 = .ok (.goto (-60), 3) := by decide +kernel
theorem dX9_takesWord_132 : decode cX9_takesWord 132 = .ok (.iload_n 2, 1) := by decide +kernel
theorem dX9_takesWord_133 : decode cX9_takesWord 133 = .ok (.bipush 8, 2) := by decide +kernel
theorem dX9_takesWord_135 : decode cX9_takesWord 135 = .ok (.if_icmp .le 8, 3) := by decide +kernel
theorem dX9_takesWord_138 : decode cX9_takesWord 138 = .ok (.bipush 8, 2) := by decide +kernel
theorem dX9_takesWord_140 : decode cX9_takesWord 140 = .ok (.goto 4, 3) := by decide +kernel
theorem dX9_takesWord_143 : decode cX9_takesWord 143 = .ok (.iload_n 2, 1) := by decide +kernel
theorem dX9_takesWord_144 : decode cX9_takesWord 144 = .ok (.istore_n 2, 1) := by decide +kernel
theorem dX9_takesWord_145 : decode cX9_takesWord 145 = .ok (.iload_n 2, 1) := by decide +kernel
theorem dX9_takesWord_146 : decode cX9_takesWord 146 = .ok (.iconst 3, 1) := by decide +kernel
theorem dX9_takesWord_147 : decode cX9_takesWord 147 = .ok (.if_icmp .le 38, 3) := by decide +kernel
theorem dX9_takesWord_150 : decode cX9_takesWord 150 = .ok (.aload_n 0, 1) := by decide +kernel
theorem dX9_takesWord_151 : decode cX9_takesWord 151 = .ok (.getfield 13, 3) := by decide +kernel
theorem dX9_takesWord_154 : decode cX9_takesWord 154 = .ok (.iload_n 2, 1) := by decide +kernel
theorem dX9_takesWord_155 : decode cX9_takesWord 155 = .ok (.iconst 1, 1) := by decide +kernel
theorem dX9_takesWord_156 : decode cX9_takesWord 156 = .ok (.isub, 1) := by decide +kernel
theorem dX9_takesWord_157 : decode cX9_takesWord 157 = .ok (.iaload, 1) := by decide +kernel
theorem dX9_takesWord_158 : decode cX9_takesWord 158 = .ok (.bipush 115, 2) := by decide +kernel
theorem dX9_takesWord_160 : decode cX9_takesWord 160 = .ok (.if_icmp .ne 25, 3) := by decide +kernel
theorem dX9_takesWord_163 : decode cX9_takesWord 163 = .ok (.aload_n 0, 1) := by decide +kernel
theorem dX9_takesWord_164 : decode cX9_takesWord 164 = .ok (.getfield 13, 3) := by decide +kernel
theorem dX9_takesWord_167 : decode cX9_takesWord 167 = .ok (.iload_n 2, 1) := by decide +kernel
theorem dX9_takesWord_168 : decode cX9_takesWord 168 = .ok (.iconst 2, 1) := by decide +kernel
theorem dX9_takesWord_169 : decode cX9_takesWord 169 = .ok (.isub, 1) := by decide +kernel
theorem dX9_takesWord_170 : decode cX9_takesWord 170 = .ok (.iaload, 1) := by decide +kernel
theorem dX9_takesWord_171 : decode cX9_takesWord 171 = .ok (.bipush 115, 2) := by decide +kernel
theorem dX9_takesWord_173 : decode cX9_takesWord 173 = .ok (.if_icmp .eq 12, 3) := by decide +kernel
theorem dX9_takesWord_176 : decode cX9_takesWord 176 = .ok (.aload_n 0, 1) := by decide +kernel
theorem dX9_takesWord_177 : decode cX9_takesWord 177 = .ok (.getfield 13, 3) := by decide +kernel
theorem dX9_takesWord_180 : decode cX9_takesWord 180 = .ok (.iload_n 2, 1) := by decide +kernel
theorem dX9_takesWord_181 : decode cX9_takesWord 181 = .ok (.iconst 1, 1) := by decide +kernel
theorem dX9_takesWord_182 : decode cX9_takesWord 182 = .ok (.isub, 1) := by decide +kernel
theorem dX9_takesWord_183 : decode cX9_takesWord 183 = .ok (.iconst 0, 1) := by decide +kernel
theorem dX9_takesWord_184 : decode cX9_takesWord 184 = .ok (.iastore, 1) := by decide +kernel
theorem dX9_takesWord_185 : decode cX9_takesWord 185 = .ok (.iconst 1, 1) := by decide +kernel
theorem dX9_takesWord_186 : decode cX9_takesWord 186 = .ok (.ireturn, 1) := by decide +kernel
theorem dX9_compared_0 : decode cX9_compared 0 = .ok (.iconst 0, 1) := by decide +kernel
theorem dX9_compared_1 : decode cX9_compared 1 = .ok (.istore_n 3, 1) := by decide +kernel
theorem dX9_compared_2 : decode cX9_compared 2 = .ok (.iload_n 3, 1) := by decide +kernel
theorem dX9_compared_3 : decode cX9_compared 3 = .ok (.bipush 8, 2) := by decide +kernel
theorem dX9_compared_5 : decode cX9_compared 5 = .ok (.if_icmp .ge 36, 3) := by decide +kernel
theorem dX9_compared_8 : decode cX9_compared 8 = .ok (.aload_n 0, 1) := by decide +kernel
theorem dX9_compared_9 : decode cX9_compared 9 = .ok (.getfield 13, 3) := by decide +kernel
theorem dX9_compared_12 : decode cX9_compared 12 = .ok (.iload_n 3, 1) := by decide +kernel
theorem dX9_compared_13 : decode cX9_compared 13 = .ok (.iaload, 1) := by decide +kernel
theorem dX9_compared_14 : decode cX9_compared 14 = .ok (.aload_n 1, 1) := by decide +kernel
theorem dX9_compared_15 : decode cX9_compared 15 = .ok (.iload_n 2, 1) := by decide +kernel
theorem dX9_compared_16 : decode cX9_compared 16 = .ok (.iload_n 3, 1) := by decide +kernel
theorem dX9_compared_17 : decode cX9_compared 17 = .ok (.iadd, 1) := by decide +kernel
theorem dX9_compared_18 : decode cX9_compared 18 = .ok (.iaload, 1) := by decide +kernel
theorem dX9_compared_19 : decode cX9_compared 19 = .ok (.if_icmp .eq 16, 3) := by decide +kernel
theorem dX9_compared_22 : decode cX9_compared 22 = .ok (.aload_n 0, 1) := by decide +kernel
theorem dX9_compared_23 : decode cX9_compared 23 = .ok (.getfield 13, 3) := by decide +kernel
theorem dX9_compared_26 : decode cX9_compared 26 = .ok (.iload_n 3, 1) := by decide +kernel
theorem dX9_compared_27 : decode cX9_compared 27 = .ok (.iaload, 1) := by decide +kernel
theorem dX9_compared_28 : decode cX9_compared 28 = .ok (.aload_n 1, 1) := by decide +kernel
theorem dX9_compared_29 : decode cX9_compared 29 = .ok (.iload_n 2, 1) := by decide +kernel
theorem dX9_compared_30 : decode cX9_compared 30 = .ok (.iload_n 3, 1) := by decide +kernel
theorem dX9_compared_31 : decode cX9_compared 31 = .ok (.iadd, 1) := by decide +kernel
theorem dX9_compared_32 : decode cX9_compared 32 = .ok (.iaload, 1) := by decide +kernel
theorem dX9_compared_33 : decode cX9_compared 33 = .ok (.isub, 1) := by decide +kernel
theorem dX9_compared_34 : decode cX9_compared 34 = .ok (.ireturn, 1) := by decide +kernel
theorem dX9_compared_35 : decode cX9_compared 35 = .ok (.iinc 3 1, 3) := by decide +kernel
theorem dX9_compared_38 : decode cX9_compared 38 = .ok (.goto (-36), 3) := by decide +kernel
theorem dX9_compared_41 : decode cX9_compared 41 = .ok (.iconst 0, 1) := by decide +kernel
theorem dX9_compared_42 : decode cX9_compared 42 = .ok (.ireturn, 1) := by decide +kernel
theorem dX9_finds_0 : decode cX9_finds 0 = .ok (.iconst 0, 1) := by decide +kernel
theorem dX9_finds_1 : decode cX9_finds 1 = .ok (.istore 4, 2) := by decide +kernel
theorem dX9_finds_3 : decode cX9_finds 3 = .ok (.iload 4, 2) := by decide +kernel
theorem dX9_finds_5 : decode cX9_finds 5 = .ok (.iload_n 3, 1) := by decide +kernel
theorem dX9_finds_6 : decode cX9_finds 6 = .ok (.if_icmp .ge 27, 3) := by decide +kernel
theorem dX9_finds_9 : decode cX9_finds 9 = .ok (.aload_n 0, 1) := by decide +kernel
theorem dX9_finds_10 : decode cX9_finds 10 = .ok (.aload_n 1, 1) := by decide +kernel
theorem dX9_finds_11 : decode cX9_finds 11 = .ok (.iload_n 2, 1) := by decide +kernel
theorem dX9_finds_12 : decode cX9_finds 12 = .ok (.bipush 8, 2) := by decide +kernel
theorem dX9_finds_14 : decode cX9_finds 14 = .ok (.iload 4, 2) := by decide +kernel
theorem dX9_finds_16 : decode cX9_finds 16 = .ok (.imul, 1) := by decide +kernel
theorem dX9_finds_17 : decode cX9_finds 17 = .ok (.iadd, 1) := by decide +kernel
theorem dX9_finds_18 : decode cX9_finds 18 = .ok (.invokevirtual 109, 3) := by decide +kernel
theorem dX9_finds_21 : decode cX9_finds 21 = .ok (.ifCond .ne 6, 3) := by decide +kernel
theorem dX9_finds_24 : decode cX9_finds 24 = .ok (.iload 4, 2) := by decide +kernel
theorem dX9_finds_26 : decode cX9_finds 26 = .ok (.ireturn, 1) := by decide +kernel
theorem dX9_finds_27 : decode cX9_finds 27 = .ok (.iinc 4 1, 3) := by decide +kernel
theorem dX9_finds_30 : decode cX9_finds 30 = .ok (.goto (-27), 3) := by decide +kernel
theorem dX9_finds_33 : decode cX9_finds 33 = .ok (.iconst (-1), 1) := by decide +kernel
theorem dX9_finds_34 : decode cX9_finds 34 = .ok (.ireturn, 1) := by decide +kernel
theorem dX9_add_0 : decode cX9_add 0 = .ok (.aload_n 0, 1) := by decide +kernel
theorem dX9_add_1 : decode cX9_add 1 = .ok (.getfield 97, 3) := by decide +kernel
theorem dX9_add_4 : decode cX9_add 4 = .ok (.istore_n 1, 1) := by decide +kernel
theorem dX9_add_5 : decode cX9_add 5 = .ok (.aload_n 0, 1) := by decide +kernel
theorem dX9_add_6 : decode cX9_add 6 = .ok (.iconst 0, 1) := by decide +kernel
theorem dX9_add_7 : decode cX9_add 7 = .ok (.putfield 97, 3) := by decide +kernel
theorem dX9_add_10 : decode cX9_add 10 = .ok (.aload_n 0, 1) := by decide +kernel
theorem dX9_add_11 : decode cX9_add 11 = .ok (.getfield 113, 3) := by decide +kernel
theorem dX9_add_14 : decode cX9_add 14 = .ok (.istore_n 2, 1) := by decide +kernel
theorem dX9_add_15 : decode cX9_add 15 = .ok (.iconst 0, 1) := by decide +kernel
theorem dX9_add_16 : decode cX9_add 16 = .ok (.istore_n 3, 1) := by decide +kernel
theorem dX9_add_17 : decode cX9_add 17 = .ok (.aload_n 0, 1) := by decide +kernel
theorem dX9_add_18 : decode cX9_add 18 = .ok (.invokevirtual 116, 3) := by decide +kernel
theorem dX9_add_21 : decode cX9_add 21 = .ok (.istore 4, 2) := by decide +kernel
theorem dX9_add_23 : decode cX9_add 23 = .ok (.aload_n 0, 1) := by decide +kernel
theorem dX9_add_24 : decode cX9_add 24 = .ok (.getfield 120, 3) := by decide +kernel
theorem dX9_add_27 : decode cX9_add 27 = .ok (.bipush 40, 2) := by decide +kernel
theorem dX9_add_29 : decode cX9_add 29 = .ok (.if_icmp .ge 7, 3) := by decide +kernel
theorem dX9_add_32 : decode cX9_add 32 = .ok (.iconst 1, 1) := by decide +kernel
theorem dX9_add_33 : decode cX9_add 33 = .ok (.goto 4, 3) := by decide +kernel
theorem dX9_add_36 : decode cX9_add 36 = .ok (.iconst 0, 1) := by decide +kernel
theorem dX9_add_37 : decode cX9_add 37 = .ok (.istore 5, 2) := by decide +kernel
theorem dX9_add_39 : decode cX9_add 39 = .ok (.iconst 0, 1) := by decide +kernel
theorem dX9_add_40 : decode cX9_add 40 = .ok (.istore 6, 2) := by decide +kernel
theorem dX9_add_42 : decode cX9_add 42 = .ok (.iload 6, 2) := by decide +kernel
theorem dX9_add_44 : decode cX9_add 44 = .ok (.bipush 64, 2) := by decide +kernel
theorem dX9_add_46 : decode cX9_add 46 = .ok (.if_icmp .ge 17, 3) := by decide +kernel
theorem dX9_add_49 : decode cX9_add 49 = .ok (.aload_n 0, 1) := by decide +kernel
theorem dX9_add_50 : decode cX9_add 50 = .ok (.getfield 25, 3) := by decide +kernel
theorem dX9_add_53 : decode cX9_add 53 = .ok (.iload 6, 2) := by decide +kernel
theorem dX9_add_55 : decode cX9_add 55 = .ok (.iconst 0, 1) := by decide +kernel
theorem dX9_add_56 : decode cX9_add 56 = .ok (.iastore, 1) := by decide +kernel
theorem dX9_add_57 : decode cX9_add 57 = .ok (.iinc 6 1, 3) := by decide +kernel
theorem dX9_add_60 : decode cX9_add 60 = .ok (.goto (-18), 3) := by decide +kernel
theorem dX9_add_63 : decode cX9_add 63 = .ok (.aload_n 0, 1) := by decide +kernel
theorem dX9_add_64 : decode cX9_add 64 = .ok (.iconst 0, 1) := by decide +kernel
theorem dX9_add_65 : decode cX9_add 65 = .ok (.putfield 102, 3) := by decide +kernel
theorem dX9_add_68 : decode cX9_add 68 = .ok (.aload_n 0, 1) := by decide +kernel
theorem dX9_add_69 : decode cX9_add 69 = .ok (.iload_n 1, 1) := by decide +kernel
theorem dX9_add_70 : decode cX9_add 70 = .ok (.invokevirtual 123, 3) := by decide +kernel
theorem dX9_add_73 : decode cX9_add 73 = .ok (.ifCond .eq 133, 3) := by decide +kernel
theorem dX9_add_76 : decode cX9_add 76 = .ok (.iinc 3 1, 3) := by decide +kernel
theorem dX9_add_79 : decode cX9_add 79 = .ok (.iload 5, 2) := by decide +kernel
theorem dX9_add_81 : decode cX9_add 81 = .ok (.ifCond .ne 6, 3) := by decide +kernel
theorem dX9_add_84 : decode cX9_add 84 = .ok (.goto (-16), 3) := by decide +kernel
theorem dX9_add_87 : decode cX9_add 87 = .ok (.aload_n 0, 1) := by decide +kernel
theorem dX9_add_88 : decode cX9_add 88 = .ok (.aload_n 0, 1) := by decide +kernel
theorem dX9_add_89 : decode cX9_add 89 = .ok (.getfield 16, 3) := by decide +kernel
theorem dX9_add_92 : decode cX9_add 92 = .ok (.iconst 0, 1) := by decide +kernel
theorem dX9_add_93 : decode cX9_add 93 = .ok (.aload_n 0, 1) := by decide +kernel
theorem dX9_add_94 : decode cX9_add 94 = .ok (.getfield 113, 3) := by decide +kernel
theorem dX9_add_97 : decode cX9_add 97 = .ok (.invokevirtual 127, 3) := by decide +kernel
theorem dX9_add_100 : decode cX9_add 100 = .ok (.istore 6, 2) := by decide +kernel
theorem dX9_add_102 : decode cX9_add 102 = .ok (.iload 6, 2) := by decide +kernel
theorem dX9_add_104 : decode cX9_add 104 = .ok (.ifCond .ge 18, 3) := by decide +kernel
theorem dX9_add_107 : decode cX9_add 107 = .ok (.aload_n 0, 1) := by decide +kernel
theorem dX9_add_108 : decode cX9_add 108 = .ok (.getfield 113, 3) := by decide +kernel
theorem dX9_add_111 : decode cX9_add 111 = .ok (.bipush 64, 2) := by decide +kernel
theorem dX9_add_113 : decode cX9_add 113 = .ok (.if_icmp .ne 9, 3) := by decide +kernel
theorem dX9_add_116 : decode cX9_add 116 = .ok (.iconst 0, 1) := by decide +kernel
theorem dX9_add_117 : decode cX9_add 117 = .ok (.istore 5, 2) := by decide +kernel
theorem dX9_add_119 : decode cX9_add 119 = .ok (.goto (-51), 3) := by decide +kernel
theorem dX9_add_122 : decode cX9_add 122 = .ok (.iload 6, 2) := by decide +kernel
theorem dX9_add_124 : decode cX9_add 124 = .ok (.ifCond .ge 55, 3) := by decide +kernel
theorem dX9_add_127 : decode cX9_add 127 = .ok (.aload_n 0, 1) := by decide +kernel
theorem dX9_add_128 : decode cX9_add 128 = .ok (.getfield 113, 3) := by decide +kernel
theorem dX9_add_131 : decode cX9_add 131 = .ok (.istore 6, 2) := by decide +kernel
theorem dX9_add_133 : decode cX9_add 133 = .ok (.iconst 0, 1) := by decide +kernel
theorem dX9_add_134 : decode cX9_add 134 = .ok (.istore 7, 2) := by decide +kernel
theorem dX9_add_136 : decode cX9_add 136 = .ok (.iload 7, 2) := by decide +kernel
theorem dX9_add_138 : decode cX9_add 138 = .ok (.bipush 8, 2) := by decide +kernel
theorem dX9_add_140 : decode cX9_add 140 = .ok (.if_icmp .ge 29, 3) := by decide +kernel
theorem dX9_add_143 : decode cX9_add 143 = .ok (.aload_n 0, 1) := by decide +kernel
theorem dX9_add_144 : decode cX9_add 144 = .ok (.getfield 16, 3) := by decide +kernel
theorem dX9_add_147 : decode cX9_add 147 = .ok (.bipush 8, 2) := by decide +kernel
theorem dX9_add_149 : decode cX9_add 149 = .ok (.iload 6, 2) := by decide +kernel
theorem dX9_add_151 : decode cX9_add 151 = .ok (.imul, 1) := by decide +kernel
theorem dX9_add_152 : decode cX9_add 152 = .ok (.iload 7, 2) := by decide +kernel
theorem dX9_add_154 : decode cX9_add 154 = .ok (.iadd, 1) := by decide +kernel
theorem dX9_add_155 : decode cX9_add 155 = .ok (.aload_n 0, 1) := by decide +kernel
theorem dX9_add_156 : decode cX9_add 156 = .ok (.getfield 13, 3) := by decide +kernel
theorem dX9_add_159 : decode cX9_add 159 = .ok (.iload 7, 2) := by decide +kernel
theorem dX9_add_161 : decode cX9_add 161 = .ok (.iaload, 1) := by decide +kernel
theorem dX9_add_162 : decode cX9_add 162 = .ok (.iastore, 1) := by decide +kernel
theorem dX9_add_163 : decode cX9_add 163 = .ok (.iinc 7 1, 3) := by decide +kernel
theorem dX9_add_166 : decode cX9_add 166 = .ok (.goto (-30), 3) := by decide +kernel
theorem dX9_add_169 : decode cX9_add 169 = .ok (.aload_n 0, 1) := by decide +kernel
theorem dX9_add_170 : decode cX9_add 170 = .ok (.dup, 1) := by decide +kernel
theorem dX9_add_171 : decode cX9_add 171 = .ok (.getfield 113, 3) := by decide +kernel
theorem dX9_add_174 : decode cX9_add 174 = .ok (.iconst 1, 1) := by decide +kernel
theorem dX9_add_175 : decode cX9_add 175 = .ok (.iadd, 1) := by decide +kernel
theorem dX9_add_176 : decode cX9_add 176 = .ok (.putfield 113, 3) := by decide +kernel
theorem dX9_add_179 : decode cX9_add 179 = .ok (.aload_n 0, 1) := by decide +kernel
theorem dX9_add_180 : decode cX9_add 180 = .ok (.getfield 25, 3) := by decide +kernel
theorem dX9_add_183 : decode cX9_add 183 = .ok (.iload 6, 2) := by decide +kernel
theorem dX9_add_185 : decode cX9_add 185 = .ok (.iaload, 1) := by decide +kernel
theorem dX9_add_186 : decode cX9_add 186 = .ok (.ifCond .ne 6, 3) := by decide +kernel
theorem dX9_add_189 : decode cX9_add 189 = .ok (.iinc 4 1, 3) := by decide +kernel
theorem dX9_add_192 : decode cX9_add 192 = .ok (.aload_n 0, 1) := by decide +kernel
theorem dX9_add_193 : decode cX9_add 193 = .ok (.getfield 25, 3) := by decide +kernel
theorem dX9_add_196 : decode cX9_add 196 = .ok (.iload 6, 2) := by decide +kernel
theorem dX9_add_198 : decode cX9_add 198 = .ok (.dup2, 1) := by decide +kernel
theorem dX9_add_199 : decode cX9_add 199 = .ok (.iaload, 1) := by decide +kernel
theorem dX9_add_200 : decode cX9_add 200 = .ok (.iconst 1, 1) := by decide +kernel
theorem dX9_add_201 : decode cX9_add 201 = .ok (.iadd, 1) := by decide +kernel
theorem dX9_add_202 : decode cX9_add 202 = .ok (.iastore, 1) := by decide +kernel
theorem dX9_add_203 : decode cX9_add 203 = .ok (.goto (-135), 3) := by decide +kernel
theorem dX9_add_206 : decode cX9_add 206 = .ok (.iload 5, 2) := by decide +kernel
theorem dX9_add_208 : decode cX9_add 208 = .ok (.ifCond .eq 15, 3) := by decide +kernel
theorem dX9_add_211 : decode cX9_add 211 = .ok (.iload 4, 2) := by decide +kernel
theorem dX9_add_213 : decode cX9_add 213 = .ok (.sipush 600, 3) := by decide +kernel
theorem dX9_add_216 : decode cX9_add 216 = .ok (.if_icmp .gt 7, 3) := by decide +kernel
theorem dX9_add_219 : decode cX9_add 219 = .ok (.iconst 1, 1) := by decide +kernel
theorem dX9_add_220 : decode cX9_add 220 = .ok (.goto 4, 3) := by decide +kernel
theorem dX9_add_223 : decode cX9_add 223 = .ok (.iconst 0, 1) := by decide +kernel
theorem dX9_add_224 : decode cX9_add 224 = .ok (.istore 5, 2) := by decide +kernel
theorem dX9_add_226 : decode cX9_add 226 = .ok (.iload_n 3, 1) := by decide +kernel
theorem dX9_add_227 : decode cX9_add 227 = .ok (.ifCond .eq 8, 3) := by decide +kernel
theorem dX9_add_230 : decode cX9_add 230 = .ok (.iload 5, 2) := by decide +kernel
theorem dX9_add_232 : decode cX9_add 232 = .ok (.ifCond .ne 8, 3) := by decide +kernel
theorem dX9_add_235 : decode cX9_add 235 = .ok (.aload_n 0, 1) := by decide +kernel
theorem dX9_add_236 : decode cX9_add 236 = .ok (.iload_n 2, 1) := by decide +kernel
theorem dX9_add_237 : decode cX9_add 237 = .ok (.putfield 113, 3) := by decide +kernel
theorem dX9_add_240 : decode cX9_add 240 = .ok (.aload_n 0, 1) := by decide +kernel
theorem dX9_add_241 : decode cX9_add 241 = .ok (.iload_n 3, 1) := by decide +kernel
theorem dX9_add_242 : decode cX9_add 242 = .ok (.ifCond .ne 7, 3) := by decide +kernel
theorem dX9_add_245 : decode cX9_add 245 = .ok (.iconst 1, 1) := by decide +kernel
theorem dX9_add_246 : decode cX9_add 246 = .ok (.goto 4, 3) := by decide +kernel
theorem dX9_add_249 : decode cX9_add 249 = .ok (.iconst 0, 1) := by decide +kernel
theorem dX9_add_250 : decode cX9_add 250 = .ok (.iconst 1, 1) := by decide +kernel
theorem dX9_add_251 : decode cX9_add 251 = .ok (.invokevirtual 93, 3) := by decide +kernel
theorem dX9_add_254 : decode cX9_add 254 = .ok (.ifCond .ne 21, 3) := by decide +kernel
theorem dX9_add_257 : decode cX9_add 257 = .ok (.aload_n 0, 1) := by decide +kernel
theorem dX9_add_258 : decode cX9_add 258 = .ok (.iload 5, 2) := by decide +kernel
theorem dX9_add_260 : decode cX9_add 260 = .ok (.ifCond .ne 7, 3) := by decide +kernel
theorem dX9_add_263 : decode cX9_add 263 = .ok (.iconst 1, 1) := by decide +kernel
theorem dX9_add_264 : decode cX9_add 264 = .ok (.goto 4, 3) := by decide +kernel
theorem dX9_add_267 : decode cX9_add 267 = .ok (.iconst 0, 1) := by decide +kernel
theorem dX9_add_268 : decode cX9_add 268 = .ok (.iconst 2, 1) := by decide +kernel
theorem dX9_add_269 : decode cX9_add 269 = .ok (.invokevirtual 93, 3) := by decide +kernel
theorem dX9_add_272 : decode cX9_add 272 = .ok (.ifCond .eq 5, 3) := by decide +kernel
theorem dX9_add_275 : decode cX9_add 275 = .ok (.iconst 0, 1) := by decide +kernel
theorem dX9_add_276 : decode cX9_add 276 = .ok (.ireturn, 1) := by decide +kernel
theorem dX9_add_277 : decode cX9_add 277 = .ok (.iconst 0, 1) := by decide +kernel
theorem dX9_add_278 : decode cX9_add 278 = .ok (.istore 6, 2) := by decide +kernel
theorem dX9_add_280 : decode cX9_add 280 = .ok (.iload 6, 2) := by decide +kernel
theorem dX9_add_282 : decode cX9_add 282 = .ok (.bipush 64, 2) := by decide +kernel
theorem dX9_add_284 : decode cX9_add 284 = .ok (.if_icmp .ge 31, 3) := by decide +kernel
theorem dX9_add_287 : decode cX9_add 287 = .ok (.aload_n 0, 1) := by decide +kernel
theorem dX9_add_288 : decode cX9_add 288 = .ok (.getfield 19, 3) := by decide +kernel
theorem dX9_add_291 : decode cX9_add 291 = .ok (.bipush 40, 2) := by decide +kernel
theorem dX9_add_293 : decode cX9_add 293 = .ok (.iload 6, 2) := by decide +kernel
theorem dX9_add_295 : decode cX9_add 295 = .ok (.imul, 1) := by decide +kernel
theorem dX9_add_296 : decode cX9_add 296 = .ok (.aload_n 0, 1) := by decide +kernel
theorem dX9_add_297 : decode cX9_add 297 = .ok (.getfield 120, 3) := by decide +kernel
theorem dX9_add_300 : decode cX9_add 300 = .ok (.iadd, 1) := by decide +kernel
theorem dX9_add_301 : decode cX9_add 301 = .ok (.aload_n 0, 1) := by decide +kernel
theorem dX9_add_302 : decode cX9_add 302 = .ok (.getfield 25, 3) := by decide +kernel
theorem dX9_add_305 : decode cX9_add 305 = .ok (.iload 6, 2) := by decide +kernel
theorem dX9_add_307 : decode cX9_add 307 = .ok (.iaload, 1) := by decide +kernel
theorem dX9_add_308 : decode cX9_add 308 = .ok (.iastore, 1) := by decide +kernel
theorem dX9_add_309 : decode cX9_add 309 = .ok (.iinc 6 1, 3) := by decide +kernel
theorem dX9_add_312 : decode cX9_add 312 = .ok (.goto (-32), 3) := by decide +kernel
theorem dX9_add_315 : decode cX9_add 315 = .ok (.aload_n 0, 1) := by decide +kernel
theorem dX9_add_316 : decode cX9_add 316 = .ok (.getfield 22, 3) := by decide +kernel
theorem dX9_add_319 : decode cX9_add 319 = .ok (.aload_n 0, 1) := by decide +kernel
theorem dX9_add_320 : decode cX9_add 320 = .ok (.getfield 120, 3) := by decide +kernel
theorem dX9_add_323 : decode cX9_add 323 = .ok (.iload_n 3, 1) := by decide +kernel
theorem dX9_add_324 : decode cX9_add 324 = .ok (.iastore, 1) := by decide +kernel
theorem dX9_add_325 : decode cX9_add 325 = .ok (.aload_n 0, 1) := by decide +kernel
theorem dX9_add_326 : decode cX9_add 326 = .ok (.dup, 1) := by decide +kernel
theorem dX9_add_327 : decode cX9_add 327 = .ok (.getfield 120, 3) := by decide +kernel
theorem dX9_add_330 : decode cX9_add 330 = .ok (.iconst 1, 1) := by decide +kernel
theorem dX9_add_331 : decode cX9_add 331 = .ok (.iadd, 1) := by decide +kernel
theorem dX9_add_332 : decode cX9_add 332 = .ok (.putfield 120, 3) := by decide +kernel
theorem dX9_add_335 : decode cX9_add 335 = .ok (.aload_n 0, 1) := by decide +kernel
theorem dX9_add_336 : decode cX9_add 336 = .ok (.getfield 120, 3) := by decide +kernel
theorem dX9_add_339 : decode cX9_add 339 = .ok (.iconst 1, 1) := by decide +kernel
theorem dX9_add_340 : decode cX9_add 340 = .ok (.isub, 1) := by decide +kernel
theorem dX9_add_341 : decode cX9_add 341 = .ok (.ireturn, 1) := by decide +kernel
theorem dX9_countPostings_0 : decode cX9_countPostings 0 = .ok (.iconst 0, 1) := by decide +kernel
theorem dX9_countPostings_1 : decode cX9_countPostings 1 = .ok (.istore_n 1, 1) := by decide +kernel
theorem dX9_countPostings_2 : decode cX9_countPostings 2 = .ok (.iconst 0, 1) := by decide +kernel
theorem dX9_countPostings_3 : decode cX9_countPostings 3 = .ok (.istore_n 2, 1) := by decide +kernel
theorem dX9_countPostings_4 : decode cX9_countPostings 4 = .ok (.iload_n 2, 1) := by decide +kernel
theorem dX9_countPostings_5 : decode cX9_countPostings 5 = .ok (.aload_n 0, 1) := by decide +kernel
theorem dX9_countPostings_6 : decode cX9_countPostings 6 = .ok (.getfield 113, 3) := by decide +kernel
theorem dX9_countPostings_9 : decode cX9_countPostings 9 = .ok (.if_icmp .ge 17, 3) := by decide +kernel
theorem dX9_countPostings_12 : decode cX9_countPostings 12 = .ok (.iload_n 1, 1) := by decide +kernel
theorem dX9_countPostings_13 : decode cX9_countPostings 13 = .ok (.aload_n 0, 1) := by decide +kernel
theorem dX9_countPostings_14 : decode cX9_countPostings 14 = .ok (.iload_n 2, 1) := by decide +kernel
theorem dX9_countPostings_15 : decode cX9_countPostings 15 = .ok (.invokevirtual 131, 3) := by decide +kernel
theorem dX9_countPostings_18 : decode cX9_countPostings 18 = .ok (.iadd, 1) := by decide +kernel
theorem dX9_countPostings_19 : decode cX9_countPostings 19 = .ok (.istore_n 1, 1) := by decide +kernel
theorem dX9_countPostings_20 : decode cX9_countPostings 20 = .ok (.iinc 2 1, 3) := by decide +kernel
theorem dX9_countPostings_23 : decode cX9_countPostings 23 = .ok (.goto (-19), 3) := by decide +kernel
theorem dX9_countPostings_26 : decode cX9_countPostings 26 = .ok (.iload_n 1, 1) := by decide +kernel
theorem dX9_countPostings_27 : decode cX9_countPostings 27 = .ok (.ireturn, 1) := by decide +kernel
theorem dX9_frequency_0 : decode cX9_frequency 0 = .ok (.iconst 0, 1) := by decide +kernel
theorem dX9_frequency_1 : decode cX9_frequency 1 = .ok (.istore_n 2, 1) := by decide +kernel
theorem dX9_frequency_2 : decode cX9_frequency 2 = .ok (.iconst 0, 1) := by decide +kernel
theorem dX9_frequency_3 : decode cX9_frequency 3 = .ok (.istore_n 3, 1) := by decide +kernel
theorem dX9_frequency_4 : decode cX9_frequency 4 = .ok (.iload_n 3, 1) := by decide +kernel
theorem dX9_frequency_5 : decode cX9_frequency 5 = .ok (.aload_n 0, 1) := by decide +kernel
theorem dX9_frequency_6 : decode cX9_frequency 6 = .ok (.getfield 120, 3) := by decide +kernel
theorem dX9_frequency_9 : decode cX9_frequency 9 = .ok (.if_icmp .ge 31, 3) := by decide +kernel
theorem dX9_frequency_12 : decode cX9_frequency 12 = .ok (.iload_n 2, 1) := by decide +kernel
theorem dX9_frequency_13 : decode cX9_frequency 13 = .ok (.aload_n 0, 1) := by decide +kernel
theorem dX9_frequency_14 : decode cX9_frequency 14 = .ok (.getfield 19, 3) := by decide +kernel
theorem dX9_frequency_17 : decode cX9_frequency 17 = .ok (.bipush 40, 2) := by decide +kernel
theorem dX9_frequency_19 : decode cX9_frequency 19 = .ok (.iload_n 1, 1) := by decide +kernel
theorem dX9_frequency_20 : decode cX9_frequency 20 = .ok (.imul, 1) := by decide +kernel
theorem dX9_frequency_21 : decode cX9_frequency 21 = .ok (.iload_n 3, 1) := by decide +kernel
theorem dX9_frequency_22 : decode cX9_frequency 22 = .ok (.iadd, 1) := by decide +kernel
theorem dX9_frequency_23 : decode cX9_frequency 23 = .ok (.iaload, 1) := by decide +kernel
theorem dX9_frequency_24 : decode cX9_frequency 24 = .ok (.ifCond .le 7, 3) := by decide +kernel
theorem dX9_frequency_27 : decode cX9_frequency 27 = .ok (.iconst 1, 1) := by decide +kernel
theorem dX9_frequency_28 : decode cX9_frequency 28 = .ok (.goto 4, 3) := by decide +kernel
theorem dX9_frequency_31 : decode cX9_frequency 31 = .ok (.iconst 0, 1) := by decide +kernel
theorem dX9_frequency_32 : decode cX9_frequency 32 = .ok (.iadd, 1) := by decide +kernel
theorem dX9_frequency_33 : decode cX9_frequency 33 = .ok (.istore_n 2, 1) := by decide +kernel
theorem dX9_frequency_34 : decode cX9_frequency 34 = .ok (.iinc 3 1, 3) := by decide +kernel
theorem dX9_frequency_37 : decode cX9_frequency 37 = .ok (.goto (-33), 3) := by decide +kernel
theorem dX9_frequency_40 : decode cX9_frequency 40 = .ok (.iload_n 2, 1) := by decide +kernel
theorem dX9_frequency_41 : decode cX9_frequency 41 = .ok (.ireturn, 1) := by decide +kernel
theorem dX9_lengths_0 : decode cX9_lengths 0 = .ok (.iconst 0, 1) := by decide +kernel
theorem dX9_lengths_1 : decode cX9_lengths 1 = .ok (.istore_n 1, 1) := by decide +kernel
theorem dX9_lengths_2 : decode cX9_lengths 2 = .ok (.iconst 0, 1) := by decide +kernel
theorem dX9_lengths_3 : decode cX9_lengths 3 = .ok (.istore_n 2, 1) := by decide +kernel
theorem dX9_lengths_4 : decode cX9_lengths 4 = .ok (.iload_n 2, 1) := by decide +kernel
theorem dX9_lengths_5 : decode cX9_lengths 5 = .ok (.aload_n 0, 1) := by decide +kernel
theorem dX9_lengths_6 : decode cX9_lengths 6 = .ok (.getfield 120, 3) := by decide +kernel
theorem dX9_lengths_9 : decode cX9_lengths 9 = .ok (.if_icmp .ge 18, 3) := by decide +kernel
theorem dX9_lengths_12 : decode cX9_lengths 12 = .ok (.iload_n 1, 1) := by decide +kernel
theorem dX9_lengths_13 : decode cX9_lengths 13 = .ok (.aload_n 0, 1) := by decide +kernel
theorem dX9_lengths_14 : decode cX9_lengths 14 = .ok (.getfield 22, 3) := by decide +kernel
theorem dX9_lengths_17 : decode cX9_lengths 17 = .ok (.iload_n 2, 1) := by decide +kernel
theorem dX9_lengths_18 : decode cX9_lengths 18 = .ok (.iaload, 1) := by decide +kernel
theorem dX9_lengths_19 : decode cX9_lengths 19 = .ok (.iadd, 1) := by decide +kernel
theorem dX9_lengths_20 : decode cX9_lengths 20 = .ok (.istore_n 1, 1) := by decide +kernel
theorem dX9_lengths_21 : decode cX9_lengths 21 = .ok (.iinc 2 1, 3) := by decide +kernel
theorem dX9_lengths_24 : decode cX9_lengths 24 = .ok (.goto (-20), 3) := by decide +kernel
theorem dX9_lengths_27 : decode cX9_lengths 27 = .ok (.iload_n 1, 1) := by decide +kernel
theorem dX9_lengths_28 : decode cX9_lengths 28 = .ok (.ireturn, 1) := by decide +kernel
theorem dX9_clear_0 : decode cX9_clear 0 = .ok (.aload_n 0, 1) := by decide +kernel
theorem dX9_clear_1 : decode cX9_clear 1 = .ok (.iconst 0, 1) := by decide +kernel
theorem dX9_clear_2 : decode cX9_clear 2 = .ok (.putfield 83, 3) := by decide +kernel
theorem dX9_clear_5 : decode cX9_clear 5 = .ok (.aload_n 0, 1) := by decide +kernel
theorem dX9_clear_6 : decode cX9_clear 6 = .ok (.getfield 120, 3) := by decide +kernel
theorem dX9_clear_9 : decode cX9_clear 9 = .ok (.istore_n 1, 1) := by decide +kernel
theorem dX9_clear_10 : decode cX9_clear 10 = .ok (.aload_n 0, 1) := by decide +kernel
theorem dX9_clear_11 : decode cX9_clear 11 = .ok (.iconst 0, 1) := by decide +kernel
theorem dX9_clear_12 : decode cX9_clear 12 = .ok (.putfield 120, 3) := by decide +kernel
theorem dX9_clear_15 : decode cX9_clear 15 = .ok (.aload_n 0, 1) := by decide +kernel
theorem dX9_clear_16 : decode cX9_clear 16 = .ok (.iconst 0, 1) := by decide +kernel
theorem dX9_clear_17 : decode cX9_clear 17 = .ok (.putfield 113, 3) := by decide +kernel
theorem dX9_clear_20 : decode cX9_clear 20 = .ok (.iload_n 1, 1) := by decide +kernel
theorem dX9_clear_21 : decode cX9_clear 21 = .ok (.ireturn, 1) := by decide +kernel
theorem dX9_count_0 : decode cX9_count 0 = .ok (.aload_n 0, 1) := by decide +kernel
theorem dX9_count_1 : decode cX9_count 1 = .ok (.iload_n 1, 1) := by decide +kernel
theorem dX9_count_2 : decode cX9_count 2 = .ok (.i2l, 1) := by decide +kernel
theorem dX9_count_3 : decode cX9_count 3 = .ok (.lconst 0, 1) := by decide +kernel
theorem dX9_count_4 : decode cX9_count 4 = .ok (.ldc2_w 134, 3) := by decide +kernel
theorem dX9_count_7 : decode cX9_count 7 = .ok (.invokestatic 89, 3) := by decide +kernel
theorem dX9_count_10 : decode cX9_count 10 = .ok (.ifCond .ne 7, 3) := by decide +kernel
theorem dX9_count_13 : decode cX9_count 13 = .ok (.iconst 1, 1) := by decide +kernel
theorem dX9_count_14 : decode cX9_count 14 = .ok (.goto 4, 3) := by decide +kernel
theorem dX9_count_17 : decode cX9_count 17 = .ok (.iconst 0, 1) := by decide +kernel
