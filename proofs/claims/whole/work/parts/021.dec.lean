theorem dX3_placeForNext_37 : decode cX3_placeForNext 37 = .ok (.iconst 0, 1) := by decide +kernel
theorem dX3_placeForNext_38 : decode cX3_placeForNext 38 = .ok (.istore_n 1, 1) := by decide +kernel
theorem dX3_placeForNext_39 : decode cX3_placeForNext 39 = .ok (.iload_n 1, 1) := by decide +kernel
theorem dX3_placeForNext_40 : decode cX3_placeForNext 40 = .ok (.iconst 3, 1) := by decide +kernel
theorem dX3_placeForNext_41 : decode cX3_placeForNext 41 = .ok (.if_icmp .ge 20, 3) := by decide +kernel
theorem dX3_placeForNext_44 : decode cX3_placeForNext 44 = .ok (.aload_n 0, 1) := by decide +kernel
theorem dX3_placeForNext_45 : decode cX3_placeForNext 45 = .ok (.getfield 17, 3) := by decide +kernel
theorem dX3_placeForNext_48 : decode cX3_placeForNext 48 = .ok (.iload_n 1, 1) := by decide +kernel
theorem dX3_placeForNext_49 : decode cX3_placeForNext 49 = .ok (.iaload, 1) := by decide +kernel
theorem dX3_placeForNext_50 : decode cX3_placeForNext 50 = .ok (.ifCond .ne 5, 3) := by decide +kernel
theorem dX3_placeForNext_53 : decode cX3_placeForNext 53 = .ok (.iload_n 1, 1) := by decide +kernel
theorem dX3_placeForNext_54 : decode cX3_placeForNext 54 = .ok (.ireturn, 1) := by decide +kernel
theorem dX3_placeForNext_55 : decode cX3_placeForNext 55 = .ok (.iinc 1 1, 3) := by decide +kernel
theorem dX3_placeForNext_58 : decode cX3_placeForNext 58 = .ok (.goto (-19), 3) := by decide +kernel
theorem dX3_placeForNext_61 : decode cX3_placeForNext 61 = .ok (.iconst (-1), 1) := by decide +kernel
theorem dX3_placeForNext_62 : decode cX3_placeForNext 62 = .ok (.ireturn, 1) := by decide +kernel
theorem dX3_install_0 : decode cX3_install 0 = .ok (.aload_n 0, 1) := by decide +kernel
theorem dX3_install_1 : decode cX3_install 1 = .ok (.getfield 11, 3) := by decide +kernel
theorem dX3_install_4 : decode cX3_install 4 = .ok (.iload_n 1, 1) := by decide +kernel
theorem dX3_install_5 : decode cX3_install 5 = .ok (.aaload, 1) := by decide +kernel
theorem dX3_install_6 : decode cX3_install 6 = .ok (.astore_n 3, 1) := by decide +kernel
theorem dX3_install_7 : decode cX3_install 7 = .ok (.aload_n 0, 1) := by decide +kernel
theorem dX3_install_8 : decode cX3_install 8 = .ok (.dup, 1) := by decide +kernel
theorem dX3_install_9 : decode cX3_install 9 = .ok (.getfield 29, 3) := by decide +kernel
theorem dX3_install_12 : decode cX3_install 12 = .ok (.iconst 1, 1) := by decide +kernel
theorem dX3_install_13 : decode cX3_install 13 = .ok (.iadd, 1) := by decide +kernel
theorem dX3_install_14 : decode cX3_install 14 = .ok (.putfield 29, 3) := by decide +kernel
theorem dX3_install_17 : decode cX3_install 17 = .ok (.aload_n 0, 1) := by decide +kernel
theorem dX3_install_18 : decode cX3_install 18 = .ok (.getfield 11, 3) := by decide +kernel
theorem dX3_install_21 : decode cX3_install 21 = .ok (.iload_n 1, 1) := by decide +kernel
theorem dX3_install_22 : decode cX3_install 22 = .ok (.aload_n 2, 1) := by decide +kernel
theorem dX3_install_23 : decode cX3_install 23 = .ok (.aastore, 1) := by decide +kernel
theorem dX3_install_24 : decode cX3_install 24 = .ok (.aload_n 0, 1) := by decide +kernel
theorem dX3_install_25 : decode cX3_install 25 = .ok (.getfield 17, 3) := by decide +kernel
theorem dX3_install_28 : decode cX3_install 28 = .ok (.iload_n 1, 1) := by decide +kernel
theorem dX3_install_29 : decode cX3_install 29 = .ok (.aload_n 0, 1) := by decide +kernel
theorem dX3_install_30 : decode cX3_install 30 = .ok (.getfield 29, 3) := by decide +kernel
theorem dX3_install_33 : decode cX3_install 33 = .ok (.iastore, 1) := by decide +kernel
theorem dX3_install_34 : decode cX3_install 34 = .ok (.aload_n 3, 1) := by decide +kernel
theorem dX3_install_35 : decode cX3_install 35 = .ok (.areturn, 1) := by decide +kernel
theorem dX3_release_0 : decode cX3_release 0 = .ok (.aload_n 0, 1) := by decide +kernel
theorem dX3_release_1 : decode cX3_release 1 = .ok (.getfield 26, 3) := by decide +kernel
theorem dX3_release_4 : decode cX3_release 4 = .ok (.iload_n 1, 1) := by decide +kernel
theorem dX3_release_5 : decode cX3_release 5 = .ok (.iaload, 1) := by decide +kernel
theorem dX3_release_6 : decode cX3_release 6 = .ok (.istore_n 2, 1) := by decide +kernel
theorem dX3_release_7 : decode cX3_release 7 = .ok (.iload_n 2, 1) := by decide +kernel
theorem dX3_release_8 : decode cX3_release 8 = .ok (.iconst (-1), 1) := by decide +kernel
theorem dX3_release_9 : decode cX3_release 9 = .ok (.if_icmp .ne 5, 3) := by decide +kernel
theorem dX3_release_12 : decode cX3_release 12 = .ok (.iconst 0, 1) := by decide +kernel
theorem dX3_release_13 : decode cX3_release 13 = .ok (.ireturn, 1) := by decide +kernel
theorem dX3_release_14 : decode cX3_release 14 = .ok (.aload_n 0, 1) := by decide +kernel
theorem dX3_release_15 : decode cX3_release 15 = .ok (.getfield 26, 3) := by decide +kernel
theorem dX3_release_18 : decode cX3_release 18 = .ok (.iload_n 1, 1) := by decide +kernel
theorem dX3_release_19 : decode cX3_release 19 = .ok (.iconst (-1), 1) := by decide +kernel
theorem dX3_release_20 : decode cX3_release 20 = .ok (.iastore, 1) := by decide +kernel
theorem dX3_release_21 : decode cX3_release 21 = .ok (.iload_n 2, 1) := by decide +kernel
theorem dX3_release_22 : decode cX3_release 22 = .ok (.aload_n 0, 1) := by decide +kernel
theorem dX3_release_23 : decode cX3_release 23 = .ok (.getfield 29, 3) := by decide +kernel
theorem dX3_release_26 : decode cX3_release 26 = .ok (.if_icmp .eq 16, 3) := by decide +kernel
theorem dX3_release_29 : decode cX3_release 29 = .ok (.aload_n 0, 1) := by decide +kernel
theorem dX3_release_30 : decode cX3_release 30 = .ok (.iload_n 2, 1) := by decide +kernel
theorem dX3_release_31 : decode cX3_release 31 = .ok (.invokevirtual 33, 3) := by decide +kernel
theorem dX3_release_34 : decode cX3_release 34 = .ok (.ifCond .ne 8, 3) := by decide +kernel
theorem dX3_release_37 : decode cX3_release 37 = .ok (.aload_n 0, 1) := by decide +kernel
theorem dX3_release_38 : decode cX3_release 38 = .ok (.iload_n 2, 1) := by decide +kernel
theorem dX3_release_39 : decode cX3_release 39 = .ok (.invokevirtual 37, 3) := by decide +kernel
theorem dX3_release_42 : decode cX3_release 42 = .ok (.iconst 1, 1) := by decide +kernel
theorem dX3_release_43 : decode cX3_release 43 = .ok (.ireturn, 1) := by decide +kernel
theorem dX3_heldBy_0 : decode cX3_heldBy 0 = .ok (.iconst 0, 1) := by decide +kernel
theorem dX3_heldBy_1 : decode cX3_heldBy 1 = .ok (.istore_n 2, 1) := by decide +kernel
theorem dX3_heldBy_2 : decode cX3_heldBy 2 = .ok (.iload_n 2, 1) := by decide +kernel
theorem dX3_heldBy_3 : decode cX3_heldBy 3 = .ok (.iconst 3, 1) := by decide +kernel
theorem dX3_heldBy_4 : decode cX3_heldBy 4 = .ok (.if_icmp .ge 40, 3) := by decide +kernel
theorem dX3_heldBy_7 : decode cX3_heldBy 7 = .ok (.aload_n 0, 1) := by decide +kernel
theorem dX3_heldBy_8 : decode cX3_heldBy 8 = .ok (.getfield 17, 3) := by decide +kernel
theorem dX3_heldBy_11 : decode cX3_heldBy 11 = .ok (.iload_n 2, 1) := by decide +kernel
theorem dX3_heldBy_12 : decode cX3_heldBy 12 = .ok (.iaload, 1) := by decide +kernel
theorem dX3_heldBy_13 : decode cX3_heldBy 13 = .ok (.ifCond .eq 25, 3) := by decide +kernel
theorem dX3_heldBy_16 : decode cX3_heldBy 16 = .ok (.aload_n 0, 1) := by decide +kernel
theorem dX3_heldBy_17 : decode cX3_heldBy 17 = .ok (.getfield 17, 3) := by decide +kernel
theorem dX3_heldBy_20 : decode cX3_heldBy 20 = .ok (.iload_n 2, 1) := by decide +kernel
theorem dX3_heldBy_21 : decode cX3_heldBy 21 = .ok (.iaload, 1) := by decide +kernel
theorem dX3_heldBy_22 : decode cX3_heldBy 22 = .ok (.aload_n 0, 1) := by decide +kernel
theorem dX3_heldBy_23 : decode cX3_heldBy 23 = .ok (.getfield 26, 3) := by decide +kernel
theorem dX3_heldBy_26 : decode cX3_heldBy 26 = .ok (.iload_n 1, 1) := by decide +kernel
theorem dX3_heldBy_27 : decode cX3_heldBy 27 = .ok (.iaload, 1) := by decide +kernel
theorem dX3_heldBy_28 : decode cX3_heldBy 28 = .ok (.if_icmp .ne 10, 3) := by decide +kernel
theorem dX3_heldBy_31 : decode cX3_heldBy 31 = .ok (.aload_n 0, 1) := by decide +kernel
theorem dX3_heldBy_32 : decode cX3_heldBy 32 = .ok (.getfield 11, 3) := by decide +kernel
theorem dX3_heldBy_35 : decode cX3_heldBy 35 = .ok (.iload_n 2, 1) := by decide +kernel
theorem dX3_heldBy_36 : decode cX3_heldBy 36 = .ok (.aaload, 1) := by decide +kernel
theorem dX3_heldBy_37 : decode cX3_heldBy 37 = .ok (.areturn, 1) := by decide +kernel
theorem dX3_heldBy_38 : decode cX3_heldBy 38 = .ok (.iinc 2 1, 3) := by decide +kernel
theorem dX3_heldBy_41 : decode cX3_heldBy 41 = .ok (.goto (-39), 3) := by decide +kernel
theorem dX3_heldBy_44 : decode cX3_heldBy 44 = .ok (.aload_n 0, 1) := by decide +kernel
theorem dX3_heldBy_45 : decode cX3_heldBy 45 = .ok (.getfield 22, 3) := by decide +kernel
theorem dX3_heldBy_48 : decode cX3_heldBy 48 = .ok (.areturn, 1) := by decide +kernel
theorem dX3_howManyKept_0 : decode cX3_howManyKept 0 = .ok (.iconst 0, 1) := by decide +kernel
theorem dX3_howManyKept_1 : decode cX3_howManyKept 1 = .ok (.istore_n 1, 1) := by decide +kernel
theorem dX3_howManyKept_2 : decode cX3_howManyKept 2 = .ok (.iconst 0, 1) := by decide +kernel
theorem dX3_howManyKept_3 : decode cX3_howManyKept 3 = .ok (.istore_n 2, 1) := by decide +kernel
theorem dX3_howManyKept_4 : decode cX3_howManyKept 4 = .ok (.iload_n 2, 1) := by decide +kernel
theorem dX3_howManyKept_5 : decode cX3_howManyKept 5 = .ok (.iconst 3, 1) := by decide +kernel
theorem dX3_howManyKept_6 : decode cX3_howManyKept 6 = .ok (.if_icmp .ge 21, 3) := by decide +kernel
theorem dX3_howManyKept_9 : decode cX3_howManyKept 9 = .ok (.aload_n 0, 1) := by decide +kernel
theorem dX3_howManyKept_10 : decode cX3_howManyKept 10 = .ok (.getfield 17, 3) := by decide +kernel
theorem dX3_howManyKept_13 : decode cX3_howManyKept 13 = .ok (.iload_n 2, 1) := by decide +kernel
theorem dX3_howManyKept_14 : decode cX3_howManyKept 14 = .ok (.iaload, 1) := by decide +kernel
theorem dX3_howManyKept_15 : decode cX3_howManyKept 15 = .ok (.ifCond .eq 6, 3) := by decide +kernel
theorem dX3_howManyKept_18 : decode cX3_howManyKept 18 = .ok (.iinc 1 1, 3) := by decide +kernel
theorem dX3_howManyKept_21 : decode cX3_howManyKept 21 = .ok (.iinc 2 1, 3) := by decide +kernel
theorem dX3_howManyKept_24 : decode cX3_howManyKept 24 = .ok (.goto (-20), 3) := by decide +kernel
theorem dX3_howManyKept_27 : decode cX3_howManyKept 27 = .ok (.iload_n 1, 1) := by decide +kernel
theorem dX3_howManyKept_28 : decode cX3_howManyKept 28 = .ok (.ireturn, 1) := by decide +kernel
theorem dX3_forget_0 : decode cX3_forget 0 = .ok (.iconst 0, 1) := by decide +kernel
theorem dX3_forget_1 : decode cX3_forget 1 = .ok (.istore_n 2, 1) := by decide +kernel
theorem dX3_forget_2 : decode cX3_forget 2 = .ok (.iload_n 2, 1) := by decide +kernel
theorem dX3_forget_3 : decode cX3_forget 3 = .ok (.iconst 3, 1) := by decide +kernel
theorem dX3_forget_4 : decode cX3_forget 4 = .ok (.if_icmp .ge 26, 3) := by decide +kernel
theorem dX3_forget_7 : decode cX3_forget 7 = .ok (.aload_n 0, 1) := by decide +kernel
theorem dX3_forget_8 : decode cX3_forget 8 = .ok (.getfield 17, 3) := by decide +kernel
theorem dX3_forget_11 : decode cX3_forget 11 = .ok (.iload_n 2, 1) := by decide +kernel
theorem dX3_forget_12 : decode cX3_forget 12 = .ok (.iaload, 1) := by decide +kernel
theorem dX3_forget_13 : decode cX3_forget 13 = .ok (.iload_n 1, 1) := by decide +kernel
theorem dX3_forget_14 : decode cX3_forget 14 = .ok (.if_icmp .ne 10, 3) := by decide +kernel
theorem dX3_forget_17 : decode cX3_forget 17 = .ok (.aload_n 0, 1) := by decide +kernel
theorem dX3_forget_18 : decode cX3_forget 18 = .ok (.getfield 17, 3) := by decide +kernel
theorem dX3_forget_21 : decode cX3_forget 21 = .ok (.iload_n 2, 1) := by decide +kernel
theorem dX3_forget_22 : decode cX3_forget 22 = .ok (.iconst 0, 1) := by decide +kernel
theorem dX3_forget_23 : decode cX3_forget 23 = .ok (.iastore, 1) := by decide +kernel
theorem dX3_forget_24 : decode cX3_forget 24 = .ok (.iinc 2 1, 3) := by decide +kernel
theorem dX3_forget_27 : decode cX3_forget 27 = .ok (.goto (-25), 3) := by decide +kernel
theorem dX3_forget_30 : decode cX3_forget 30 = .ok (.return_, 1) := by decide +kernel
theorem dX3_isHeld_0 : decode cX3_isHeld 0 = .ok (.iconst 0, 1) := by decide +kernel
theorem dX3_isHeld_1 : decode cX3_isHeld 1 = .ok (.istore_n 2, 1) := by decide +kernel
theorem dX3_isHeld_2 : decode cX3_isHeld 2 = .ok (.iload_n 2, 1) := by decide +kernel
theorem dX3_isHeld_3 : decode cX3_isHeld 3 = .ok (.iconst 4, 1) := by decide +kernel
theorem dX3_isHeld_4 : decode cX3_isHeld 4 = .ok (.if_icmp .ge 21, 3) := by decide +kernel
theorem dX3_isHeld_7 : decode cX3_isHeld 7 = .ok (.aload_n 0, 1) := by decide +kernel
theorem dX3_isHeld_8 : decode cX3_isHeld 8 = .ok (.getfield 26, 3) := by decide +kernel
theorem dX3_isHeld_11 : decode cX3_isHeld 11 = .ok (.iload_n 2, 1) := by decide +kernel
theorem dX3_isHeld_12 : decode cX3_isHeld 12 = .ok (.iaload, 1) := by decide +kernel
theorem dX3_isHeld_13 : decode cX3_isHeld 13 = .ok (.iload_n 1, 1) := by decide +kernel
theorem dX3_isHeld_14 : decode cX3_isHeld 14 = .ok (.if_icmp .ne 5, 3) := by decide +kernel
theorem dX3_isHeld_17 : decode cX3_isHeld 17 = .ok (.iconst 1, 1) := by decide +kernel
theorem dX3_isHeld_18 : decode cX3_isHeld 18 = .ok (.ireturn, 1) := by decide +kernel
theorem dX3_isHeld_19 : decode cX3_isHeld 19 = .ok (.iinc 2 1, 3) := by decide +kernel
theorem dX3_isHeld_22 : decode cX3_isHeld 22 = .ok (.goto (-20), 3) := by decide +kernel
theorem dX3_isHeld_25 : decode cX3_isHeld 25 = .ok (.iconst 0, 1) := by decide +kernel
theorem dX3_isHeld_26 : decode cX3_isHeld 26 = .ok (.ireturn, 1) := by decide +kernel
theorem dX4_init_0 : decode cX4_init 0 = .ok (.aload_n 0, 1) := by decide +kernel
theorem dX4_init_1 : decode cX4_init 1 = .ok (.invokespecial 3, 3) := by decide +kernel
theorem dX4_init_4 : decode cX4_init 4 = .ok (.aload_n 0, 1) := by decide +kernel
theorem dX4_init_5 : decode cX4_init 5 = .ok (.bipush 64, 2) := by decide +kernel
theorem dX4_init_7 : decode cX4_init 7 = .ok (.newarray .long, 2) := by decide +kernel
theorem dX4_init_9 : decode cX4_init 9 = .ok (.putfield 9, 3) := by decide +kernel
theorem dX4_init_12 : decode cX4_init 12 = .ok (.aload_n 0, 1) := by decide +kernel
theorem dX4_init_13 : decode cX4_init 13 = .ok (.bipush 65, 2) := by decide +kernel
theorem dX4_init_15 : decode cX4_init 15 = .ok (.newarray .int, 2) := by decide +kernel
theorem dX4_init_17 : decode cX4_init 17 = .ok (.putfield 15, 3) := by decide +kernel
theorem dX4_init_20 : decode cX4_init 20 = .ok (.aload_n 0, 1) := by decide +kernel
theorem dX4_init_21 : decode cX4_init 21 = .ok (.sipush 600, 3) := by decide +kernel
theorem dX4_init_24 : decode cX4_init 24 = .ok (.newarray .int, 2) := by decide +kernel
theorem dX4_init_26 : decode cX4_init 26 = .ok (.putfield 19, 3) := by decide +kernel
theorem dX4_init_29 : decode cX4_init 29 = .ok (.aload_n 0, 1) := by decide +kernel
theorem dX4_init_30 : decode cX4_init 30 = .ok (.sipush 601, 3) := by decide +kernel
theorem dX4_init_33 : decode cX4_init 33 = .ok (.newarray .int, 2) := by decide +kernel
theorem dX4_init_35 : decode cX4_init 35 = .ok (.putfield 22, 3) := by decide +kernel
theorem dX4_init_38 : decode cX4_init 38 = .ok (.aload_n 0, 1) := by decide +kernel
theorem dX4_init_39 : decode cX4_init 39 = .ok (.sipush 600, 3) := by decide +kernel
theorem dX4_init_42 : decode cX4_init 42 = .ok (.newarray .int, 2) := by decide +kernel
theorem dX4_init_44 : decode cX4_init 44 = .ok (.putfield 25, 3) := by decide +kernel
theorem dX4_init_47 : decode cX4_init 47 = .ok (.aload_n 0, 1) := by decide +kernel
theorem dX4_init_48 : decode cX4_init 48 = .ok (.iconst 0, 1) := by decide +kernel
theorem dX4_init_49 : decode cX4_init 49 = .ok (.putfield 28, 3) := by decide +kernel
theorem dX4_init_52 : decode cX4_init 52 = .ok (.aload_n 0, 1) := by decide +kernel
theorem dX4_init_53 : decode cX4_init 53 = .ok (.iconst 0, 1) := by decide +kernel
theorem dX4_init_54 : decode cX4_init 54 = .ok (.putfield 32, 3) := by decide +kernel
theorem dX4_init_57 : decode cX4_init 57 = .ok (.aload_n 0, 1) := by decide +kernel
theorem dX4_init_58 : decode cX4_init 58 = .ok (.iconst 0, 1) := by decide +kernel
theorem dX4_init_59 : decode cX4_init 59 = .ok (.putfield 35, 3) := by decide +kernel
theorem dX4_init_62 : decode cX4_init 62 = .ok (.aload_n 0, 1) := by decide +kernel
theorem dX4_init_63 : decode cX4_init 63 = .ok (.iconst 0, 1) := by decide +kernel
theorem dX4_init_64 : decode cX4_init 64 = .ok (.putfield 38, 3) := by decide +kernel
theorem dX4_init_67 : decode cX4_init 67 = .ok (.aload_n 0, 1) := by decide +kernel
theorem dX4_init_68 : decode cX4_init 68 = .ok (.iconst 0, 1) := by decide +kernel
theorem dX4_init_69 : decode cX4_init 69 = .ok (.putfield 41, 3) := by decide +kernel
theorem dX4_init_72 : decode cX4_init 72 = .ok (.return_, 1) := by decide +kernel
theorem dX4_start_0 : decode cX4_start 0 = .ok (.aload_n 0, 1) := by decide +kernel
theorem dX4_start_1 : decode cX4_start 1 = .ok (.iload_n 1, 1) := by decide +kernel
theorem dX4_start_2 : decode cX4_start 2 = .ok (.putfield 28, 3) := by decide +kernel
theorem dX4_start_5 : decode cX4_start 5 = .ok (.aload_n 0, 1) := by decide +kernel
theorem dX4_start_6 : decode cX4_start 6 = .ok (.iload_n 2, 1) := by decide +kernel
theorem dX4_start_7 : decode cX4_start 7 = .ok (.putfield 32, 3) := by decide +kernel
theorem dX4_start_10 : decode cX4_start 10 = .ok (.aload_n 0, 1) := by decide +kernel
theorem dX4_start_11 : decode cX4_start 11 = .ok (.iconst 0, 1) := by decide +kernel
theorem dX4_start_12 : decode cX4_start 12 = .ok (.putfield 35, 3) := by decide +kernel
theorem dX4_start_15 : decode cX4_start 15 = .ok (.aload_n 0, 1) := by decide +kernel
theorem dX4_start_16 : decode cX4_start 16 = .ok (.iconst 0, 1) := by decide +kernel
theorem dX4_start_17 : decode cX4_start 17 = .ok (.putfield 38, 3) := by decide +kernel
theorem dX4_start_20 : decode cX4_start 20 = .ok (.aload_n 0, 1) := by decide +kernel
theorem dX4_start_21 : decode cX4_start 21 = .ok (.iconst 0, 1) := by decide +kernel
theorem dX4_start_22 : decode cX4_start 22 = .ok (.putfield 41, 3) := by decide +kernel
theorem dX4_start_25 : decode cX4_start 25 = .ok (.return_, 1) := by decide +kernel
theorem dX4_startTerm_0 : decode cX4_startTerm 0 = .ok (.aload_n 0, 1) := by decide +kernel
theorem dX4_startTerm_1 : decode cX4_startTerm 1 = .ok (.getfield 35, 3) := by decide +kernel
theorem dX4_startTerm_4 : decode cX4_startTerm 4 = .ok (.bipush 64, 2) := by decide +kernel
theorem dX4_startTerm_6 : decode cX4_startTerm 6 = .ok (.if_icmp .lt 5, 3) := by decide +kernel
theorem dX4_startTerm_9 : decode cX4_startTerm 9 = .ok (.iconst 0, 1) := by decide +kernel
theorem dX4_startTerm_10 : decode cX4_startTerm 10 = .ok (.ireturn, 1) := by decide +kernel
theorem dX4_startTerm_11 : decode cX4_startTerm 11 = .ok (.aload_n 0, 1) := by decide +kernel
theorem dX4_startTerm_12 : decode cX4_startTerm 12 = .ok (.getfield 9, 3) := by decide +kernel
theorem dX4_startTerm_15 : decode cX4_startTerm 15 = .ok (.aload_n 0, 1) := by decide +kernel
theorem dX4_startTerm_16 : decode cX4_startTerm 16 = .ok (.getfield 35, 3) := by decide +kernel
theorem dX4_startTerm_19 : decode cX4_startTerm 19 = .ok (.lload_n 1, 1) := by decide +kernel
theorem dX4_startTerm_20 : decode cX4_startTerm 20 = .ok (.lastore, 1) := by decide +kernel
theorem dX4_startTerm_21 : decode cX4_startTerm 21 = .ok (.aload_n 0, 1) := by decide +kernel
theorem dX4_startTerm_22 : decode cX4_startTerm 22 = .ok (.dup, 1) := by decide +kernel
theorem dX4_startTerm_23 : decode cX4_startTerm 23 = .ok (.getfield 35, 3) := by decide +kernel
theorem dX4_startTerm_26 : decode cX4_startTerm 26 = .ok (.iconst 1, 1) := by decide +kernel
theorem dX4_startTerm_27 : decode cX4_startTerm 27 = .ok (.iadd, 1) := by decide +kernel
theorem dX4_startTerm_28 : decode cX4_startTerm 28 = .ok (.putfield 35, 3) := by decide +kernel
theorem dX4_startTerm_31 : decode cX4_startTerm 31 = .ok (.aload_n 0, 1) := by decide +kernel
theorem dX4_startTerm_32 : decode cX4_startTerm 32 = .ok (.getfield 15, 3) := by decide +kernel
theorem dX4_startTerm_35 : decode cX4_startTerm 35 = .ok (.aload_n 0, 1) := by decide +kernel
theorem dX4_startTerm_36 : decode cX4_startTerm 36 = .ok (.getfield 35, 3) := by decide +kernel
theorem dX4_startTerm_39 : decode cX4_startTerm 39 = .ok (.aload_n 0, 1) := by decide +kernel
theorem dX4_startTerm_40 : decode cX4_startTerm 40 = .ok (.getfield 38, 3) := by decide +kernel
theorem dX4_startTerm_43 : decode cX4_startTerm 43 = .ok (.iastore, 1) := by decide +kernel
theorem dX4_startTerm_44 : decode cX4_startTerm 44 = .ok (.iconst 1, 1) := by decide +kernel
theorem dX4_startTerm_45 : decode cX4_startTerm 45 = .ok (.ireturn, 1) := by decide +kernel
theorem dX4_startSegment_0 : decode cX4_startSegment 0 = .ok (.aload_n 0, 1) := by decide +kernel
theorem dX4_startSegment_1 : decode cX4_startSegment 1 = .ok (.getfield 38, 3) := by decide +kernel
theorem dX4_startSegment_4 : decode cX4_startSegment 4 = .ok (.sipush 600, 3) := by decide +kernel
theorem dX4_startSegment_7 : decode cX4_startSegment 7 = .ok (.if_icmp .lt 5, 3) := by decide +kernel
theorem dX4_startSegment_10 : decode cX4_startSegment 10 = .ok (.iconst 0, 1) := by decide +kernel
theorem dX4_startSegment_11 : decode cX4_startSegment 11 = .ok (.ireturn, 1) := by decide +kernel
theorem dX4_startSegment_12 : decode cX4_startSegment 12 = .ok (.aload_n 0, 1) := by decide +kernel
theorem dX4_startSegment_13 : decode cX4_startSegment 13 = .ok (.getfield 19, 3) := by decide +kernel
theorem dX4_startSegment_16 : decode cX4_startSegment 16 = .ok (.aload_n 0, 1) := by decide +kernel
theorem dX4_startSegment_17 : decode cX4_startSegment 17 = .ok (.getfield 38, 3) := by decide +kernel
theorem dX4_startSegment_20 : decode cX4_startSegment 20 = .ok (.iload_n 1, 1) := by decide +kernel
theorem dX4_startSegment_21 : decode cX4_startSegment 21 = .ok (.iastore, 1) := by decide +kernel
theorem dX4_startSegment_22 : decode cX4_startSegment 22 = .ok (.aload_n 0, 1) := by decide +kernel
theorem dX4_startSegment_23 : decode cX4_startSegment 23 = .ok (.dup, 1) := by decide +kernel
theorem dX4_startSegment_24 : decode cX4_startSegment 24 = .ok (.getfield 38, 3) := by decide +kernel
theorem dX4_startSegment_27 : decode cX4_startSegment 27 = .ok (.iconst 1, 1) := by decide +kernel
theorem dX4_startSegment_28 : decode cX4_startSegment 28 = .ok (.iadd, 1) := by decide +kernel
theorem dX4_startSegment_29 : decode cX4_startSegment 29 = .ok (.putfield 38, 3) := by decide +kernel
theorem dX4_startSegment_32 : decode cX4_startSegment 32 = .ok (.aload_n 0, 1) := by decide +kernel
theorem dX4_startSegment_33 : decode cX4_startSegment 33 = .ok (.getfield 15, 3) := by decide +kernel
theorem dX4_startSegment_36 : decode cX4_startSegment 36 = .ok (.aload_n 0, 1) := by decide +kernel
theorem dX4_startSegment_37 : decode cX4_startSegment 37 = .ok (.getfield 35, 3) := by decide +kernel
theorem dX4_startSegment_40 : decode cX4_startSegment 40 = .ok (.aload_n 0, 1) := by decide +kernel
theorem dX4_startSegment_41 : decode cX4_startSegment 41 = .ok (.getfield 38, 3) := by decide +kernel
theorem dX4_startSegment_44 : decode cX4_startSegment 44 = .ok (.iastore, 1) := by decide +kernel
theorem dX4_startSegment_45 : decode cX4_startSegment 45 = .ok (.aload_n 0, 1) := by decide +kernel
theorem dX4_startSegment_46 : decode cX4_startSegment 46 = .ok (.getfield 22, 3) := by decide +kernel
theorem dX4_startSegment_49 : decode cX4_startSegment 49 = .ok (.aload_n 0, 1) := by decide +kernel
theorem dX4_startSegment_50 : decode cX4_startSegment 50 = .ok (.getfield 38, 3) := by decide +kernel
theorem dX4_startSegment_53 : decode cX4_startSegment 53 = .ok (.aload_n 0, 1) := by decide +kernel
theorem dX4_startSegment_54 : decode cX4_startSegment 54 = .ok (.getfield 41, 3) := by decide +kernel
theorem dX4_startSegment_57 : decode cX4_startSegment 57 = .ok (.iastore, 1) := by decide +kernel
theorem dX4_startSegment_58 : decode cX4_startSegment 58 = .ok (.iconst 1, 1) := by decide +kernel
theorem dX4_startSegment_59 : decode cX4_startSegment 59 = .ok (.ireturn, 1) := by decide +kernel
theorem dX4_appendPosting_0 : decode cX4_appendPosting 0 = .ok (.aload_n 0, 1) := by decide +kernel
theorem dX4_appendPosting_1 : decode cX4_appendPosting 1 = .ok (.getfield 41, 3) := by decide +kernel
theorem dX4_appendPosting_4 : decode cX4_appendPosting 4 = .ok (.sipush 600, 3) := by decide +kernel
theorem dX4_appendPosting_7 : decode cX4_appendPosting 7 = .ok (.if_icmp .lt 5, 3) := by decide +kernel
theorem dX4_appendPosting_10 : decode cX4_appendPosting 10 = .ok (.iconst 0, 1) := by decide +kernel
theorem dX4_appendPosting_11 : decode cX4_appendPosting 11 = .ok (.ireturn, 1) := by decide +kernel
theorem dX4_appendPosting_12 : decode cX4_appendPosting 12 = .ok (.aload_n 0, 1) := by decide +kernel
theorem dX4_appendPosting_13 : decode cX4_appendPosting 13 = .ok (.getfield 25, 3) := by decide +kernel
theorem dX4_appendPosting_16 : decode cX4_appendPosting 16 = .ok (.aload_n 0, 1) := by decide +kernel
theorem dX4_appendPosting_17 : decode cX4_appendPosting 17 = .ok (.getfield 41, 3) := by decide +kernel
theorem dX4_appendPosting_20 : decode cX4_appendPosting 20 = .ok (.iload_n 1, 1) := by decide +kernel
theorem dX4_appendPosting_21 : decode cX4_appendPosting 21 = .ok (.iastore, 1) := by decide +kernel
theorem dX4_appendPosting_22 : decode cX4_appendPosting 22 = .ok (.aload_n 0, 1) := by decide +kernel
theorem dX4_appendPosting_23 : decode cX4_appendPosting 23 = .ok (.dup, 1) := by decide +kernel
theorem dX4_appendPosting_24 : decode cX4_appendPosting 24 = .ok (.getfield 41, 3) := by decide +kernel
theorem dX4_appendPosting_27 : decode cX4_appendPosting 27 = .ok (.iconst 1, 1) := by decide +kernel
theorem dX4_appendPosting_28 : decode cX4_appendPosting 28 = .ok (.iadd, 1) := by decide +kernel
theorem dX4_appendPosting_29 : decode cX4_appendPosting 29 = .ok (.putfield 41, 3) := by decide +kernel
theorem dX4_appendPosting_32 : decode cX4_appendPosting 32 = .ok (.aload_n 0, 1) := by decide +kernel
theorem dX4_appendPosting_33 : decode cX4_appendPosting 33 = .ok (.getfield 22, 3) := by decide +kernel
theorem dX4_appendPosting_36 : decode cX4_appendPosting 36 = .ok (.aload_n 0, 1) := by decide +kernel
theorem dX4_appendPosting_37 : decode cX4_appendPosting 37 = .ok (.getfield 38, 3) := by decide +kernel
theorem dX4_appendPosting_40 : decode cX4_appendPosting 40 = .ok (.aload_n 0, 1) := by decide +kernel
theorem dX4_appendPosting_41 : decode cX4_appendPosting 41 = .ok (.getfield 41, 3) := by decide +kernel
theorem dX4_appendPosting_44 : decode cX4_appendPosting 44 = .ok (.iastore, 1) := by decide +kernel
theorem dX4_appendPosting_45 : decode cX4_appendPosting 45 = .ok (.iconst 1, 1) := by decide +kernel
theorem dX4_appendPosting_46 : decode cX4_appendPosting 46 = .ok (.ireturn, 1) := by decide +kernel
theorem dX4_appendTerm_0 : decode cX4_appendTerm 0 = .ok (.aload_n 0, 1) := by decide +kernel
theorem dX4_appendTerm_1 : decode cX4_appendTerm 1 = .ok (.lload_n 1, 1) := by decide +kernel
theorem dX4_appendTerm_2 : decode cX4_appendTerm 2 = .ok (.invokevirtual 44, 3) := by decide +kernel
theorem dX4_appendTerm_5 : decode cX4_appendTerm 5 = .ok (.pop, 1) := by decide +kernel
theorem dX4_appendTerm_6 : decode cX4_appendTerm 6 = .ok (.aload_n 0, 1) := by decide +kernel
theorem dX4_appendTerm_7 : decode cX4_appendTerm 7 = .ok (.iconst 1, 1) := by decide +kernel
theorem dX4_appendTerm_8 : decode cX4_appendTerm 8 = .ok (.aload_n 0, 1) := by decide +kernel
theorem dX4_appendTerm_9 : decode cX4_appendTerm 9 = .ok (.getfield 28, 3) := by decide +kernel
theorem dX4_appendTerm_12 : decode cX4_appendTerm 12 = .ok (.ishl, 1) := by decide +kernel
theorem dX4_appendTerm_13 : decode cX4_appendTerm 13 = .ok (.aload_n 3, 1) := by decide +kernel
theorem dX4_appendTerm_14 : decode cX4_appendTerm 14 = .ok (.invokevirtual 48, 3) := by decide +kernel
theorem dX4_appendTerm_17 : decode cX4_appendTerm 17 = .ok (.istore 4, 2) := by decide +kernel
theorem dX4_appendTerm_19 : decode cX4_appendTerm 19 = .ok (.iconst 0, 1) := by decide +kernel
theorem dX4_appendTerm_20 : decode cX4_appendTerm 20 = .ok (.istore 5, 2) := by decide +kernel
theorem dX4_appendTerm_22 : decode cX4_appendTerm 22 = .ok (.iload 5, 2) := by decide +kernel
theorem dX4_appendTerm_24 : decode cX4_appendTerm 24 = .ok (.aload_n 0, 1) := by decide +kernel
theorem dX4_appendTerm_25 : decode cX4_appendTerm 25 = .ok (.getfield 32, 3) := by decide +kernel
theorem dX4_appendTerm_28 : decode cX4_appendTerm 28 = .ok (.if_icmp .ge 64, 3) := by decide +kernel
theorem dX4_appendTerm_31 : decode cX4_appendTerm 31 = .ok (.iload 4, 2) := by decide +kernel
theorem dX4_appendTerm_33 : decode cX4_appendTerm 33 = .ok (.ifCond .le 59, 3) := by decide +kernel
theorem dX4_appendTerm_36 : decode cX4_appendTerm 36 = .ok (.aload_n 0, 1) := by decide +kernel
theorem dX4_appendTerm_37 : decode cX4_appendTerm 37 = .ok (.iload 4, 2) := by decide +kernel
theorem dX4_appendTerm_39 : decode cX4_appendTerm 39 = .ok (.invokevirtual 52, 3) := by decide +kernel
theorem dX4_appendTerm_42 : decode cX4_appendTerm 42 = .ok (.pop, 1) := by decide +kernel
theorem dX4_appendTerm_43 : decode cX4_appendTerm 43 = .ok (.iconst 0, 1) := by decide +kernel
theorem dX4_appendTerm_44 : decode cX4_appendTerm 44 = .ok (.istore 6, 2) := by decide +kernel
theorem dX4_appendTerm_46 : decode cX4_appendTerm 46 = .ok (.iload 6, 2) := by decide +kernel
theorem dX4_appendTerm_48 : decode cX4_appendTerm 48 = .ok (.aload_n 0, 1) := by decide +kernel
theorem dX4_appendTerm_49 : decode cX4_appendTerm 49 = .ok (.getfield 32, 3) := by decide +kernel
theorem dX4_appendTerm_52 : decode cX4_appendTerm 52 = .ok (.if_icmp .ge 25, 3) := by decide +kernel
theorem dX4_appendTerm_55 : decode cX4_appendTerm 55 = .ok (.aload_n 3, 1) := by decide +kernel
theorem dX4_appendTerm_56 : decode cX4_appendTerm 56 = .ok (.iload 6, 2) := by decide +kernel
theorem dX4_appendTerm_58 : decode cX4_appendTerm 58 = .ok (.iaload, 1) := by decide +kernel
theorem dX4_appendTerm_59 : decode cX4_appendTerm 59 = .ok (.iload 4, 2) := by decide +kernel
theorem dX4_appendTerm_61 : decode cX4_appendTerm 61 = .ok (.if_icmp .ne 10, 3) := by decide +kernel
theorem dX4_appendTerm_64 : decode cX4_appendTerm 64 = .ok (.aload_n 0, 1) := by decide +kernel
theorem dX4_appendTerm_65 : decode cX4_appendTerm 65 = .ok (.iload 6, 2) := by decide +kernel
theorem dX4_appendTerm_67 : decode cX4_appendTerm 67 = .ok (.invokevirtual 56, 3) := by decide +kernel
theorem dX4_appendTerm_70 : decode cX4_appendTerm 70 = .ok (.pop, 1) := by decide +kernel
theorem dX4_appendTerm_71 : decode cX4_appendTerm 71 = .ok (.iinc 6 1, 3) := by decide +kernel
theorem dX4_appendTerm_74 : decode cX4_appendTerm 74 = .ok (.goto (-28), 3) := by decide +kernel
theorem dX4_appendTerm_77 : decode cX4_appendTerm 77 = .ok (.aload_n 0, 1) := by decide +kernel
theorem dX4_appendTerm_78 : decode cX4_appendTerm 78 = .ok (.iload 4, 2) := by decide +kernel
theorem dX4_appendTerm_80 : decode cX4_appendTerm 80 = .ok (.aload_n 3, 1) := by decide +kernel
theorem dX4_appendTerm_81 : decode cX4_appendTerm 81 = .ok (.invokevirtual 48, 3) := by decide +kernel
theorem dX4_appendTerm_84 : decode cX4_appendTerm 84 = .ok (.istore 4, 2) := by decide +kernel
theorem dX4_appendTerm_86 : decode cX4_appendTerm 86 = .ok (.iinc 5 1, 3) := by decide +kernel
theorem dX4_appendTerm_89 : decode cX4_appendTerm 89 = .ok (.goto (-67), 3) := by decide +kernel
theorem dX4_appendTerm_92 : decode cX4_appendTerm 92 = .ok (.return_, 1) := by decide +kernel
theorem dX4_size_0 : decode cX4_size 0 = .ok (.aload_n 0, 1) := by decide +kernel
theorem dX4_size_1 : decode cX4_size 1 = .ok (.getfield 22, 3) := by decide +kernel
theorem dX4_size_4 : decode cX4_size 4 = .ok (.iload_n 1, 1) := by decide +kernel
theorem dX4_size_5 : decode cX4_size 5 = .ok (.iconst 1, 1) := by decide +kernel
theorem dX4_size_6 : decode cX4_size 6 = .ok (.iadd, 1) := by decide +kernel
theorem dX4_size_7 : decode cX4_size 7 = .ok (.iaload, 1) := by decide +kernel
theorem dX4_size_8 : decode cX4_size 8 = .ok (.aload_n 0, 1) := by decide +kernel
theorem dX4_size_9 : decode cX4_size 9 = .ok (.getfield 22, 3) := by decide +kernel
theorem dX4_size_12 : decode cX4_size 12 = .ok (.iload_n 1, 1) := by decide +kernel
theorem dX4_size_13 : decode cX4_size 13 = .ok (.iaload, 1) := by decide +kernel
theorem dX4_size_14 : decode cX4_size 14 = .ok (.isub, 1) := by decide +kernel
theorem dX4_size_15 : decode cX4_size 15 = .ok (.ireturn, 1) := by decide +kernel
theorem dX4_greatestTerm_0 : decode cX4_greatestTerm 0 = .ok (.aload_n 0, 1) := by decide +kernel
theorem dX4_greatestTerm_1 : decode cX4_greatestTerm 1 = .ok (.getfield 35, 3) := by decide +kernel
theorem dX4_greatestTerm_4 : decode cX4_greatestTerm 4 = .ok (.ifCond .ne 7, 3) := by decide +kernel
theorem dX4_greatestTerm_7 : decode cX4_greatestTerm 7 = .ok (.lconst 0, 1) := by decide +kernel
theorem dX4_greatestTerm_8 : decode cX4_greatestTerm 8 = .ok (.goto 14, 3) := by decide +kernel
theorem dX4_greatestTerm_11 : decode cX4_greatestTerm 11 = .ok (.aload_n 0, 1) := by decide +kernel
theorem dX4_greatestTerm_12 : decode cX4_greatestTerm 12 = .ok (.getfield 9, 3) := by decide +kernel
theorem dX4_greatestTerm_15 : decode cX4_greatestTerm 15 = .ok (.aload_n 0, 1) := by decide +kernel
theorem dX4_greatestTerm_16 : decode cX4_greatestTerm 16 = .ok (.getfield 35, 3) := by decide +kernel
theorem dX4_greatestTerm_19 : decode cX4_greatestTerm 19 = .ok (.iconst 1, 1) := by decide +kernel
theorem dX4_greatestTerm_20 : decode cX4_greatestTerm 20 = .ok (.isub, 1) := by decide +kernel
theorem dX4_greatestTerm_21 : decode cX4_greatestTerm 21 = .ok (.laload, 1) := by decide +kernel
theorem dX4_greatestTerm_22 : decode cX4_greatestTerm 22 = .ok (.lreturn, 1) := by decide +kernel
theorem dX4_greatestBelow_0 : decode cX4_greatestBelow 0 = .ok (.iconst 0, 1) := by decide +kernel
theorem dX4_greatestBelow_1 : decode cX4_greatestBelow 1 = .ok (.istore_n 3, 1) := by decide +kernel
theorem dX4_greatestBelow_2 : decode cX4_greatestBelow 2 = .ok (.iconst 0, 1) := by decide +kernel
theorem dX4_greatestBelow_3 : decode cX4_greatestBelow 3 = .ok (.istore 4, 2) := by decide +kernel
theorem dX4_greatestBelow_5 : decode cX4_greatestBelow 5 = .ok (.iload 4, 2) := by decide +kernel
theorem dX4_greatestBelow_7 : decode cX4_greatestBelow 7 = .ok (.aload_n 0, 1) := by decide +kernel
theorem dX4_greatestBelow_8 : decode cX4_greatestBelow 8 = .ok (.getfield 32, 3) := by decide +kernel
theorem dX4_greatestBelow_11 : decode cX4_greatestBelow 11 = .ok (.if_icmp .ge 30, 3) := by decide +kernel
theorem dX4_greatestBelow_14 : decode cX4_greatestBelow 14 = .ok (.aload_n 2, 1) := by decide +kernel
theorem dX4_greatestBelow_15 : decode cX4_greatestBelow 15 = .ok (.iload 4, 2) := by decide +kernel
theorem dX4_greatestBelow_17 : decode cX4_greatestBelow 17 = .ok (.iaload, 1) := by decide +kernel
theorem dX4_greatestBelow_18 : decode cX4_greatestBelow 18 = .ok (.iload_n 1, 1) := by decide +kernel
theorem dX4_greatestBelow_19 : decode cX4_greatestBelow 19 = .ok (.if_icmp .ge 16, 3) := by decide +kernel
theorem dX4_greatestBelow_22 : decode cX4_greatestBelow 22 = .ok (.aload_n 2, 1) := by decide +kernel
theorem dX4_greatestBelow_23 : decode cX4_greatestBelow 23 = .ok (.iload 4, 2) := by decide +kernel
theorem dX4_greatestBelow_25 : decode cX4_greatestBelow 25 = .ok (.iaload, 1) := by decide +kernel
theorem dX4_greatestBelow_26 : decode cX4_greatestBelow 26 = .ok (.iload_n 3, 1) := by decide +kernel
theorem dX4_greatestBelow_27 : decode cX4_greatestBelow 27 = .ok (.if_icmp .le 8, 3) := by decide +kernel
theorem dX4_greatestBelow_30 : decode cX4_greatestBelow 30 = .ok (.aload_n 2, 1) := by decide +kernel
theorem dX4_greatestBelow_31 : decode cX4_greatestBelow 31 = .ok (.iload 4, 2) := by decide +kernel
theorem dX4_greatestBelow_33 : decode cX4_greatestBelow 33 = .ok (.iaload, 1) := by decide +kernel
theorem dX4_greatestBelow_34 : decode cX4_greatestBelow 34 = .ok (.istore_n 3, 1) := by decide +kernel
theorem dX4_greatestBelow_35 : decode cX4_greatestBelow 35 = .ok (.iinc 4 1, 3) := by decide +kernel
theorem dX4_greatestBelow_38 : decode cX4_greatestBelow 38 = .ok (.goto (-33), 3) := by decide +kernel
theorem dX4_greatestBelow_41 : decode cX4_greatestBelow 41 = .ok (.iload_n 3, 1) := by decide +kernel
theorem dX4_greatestBelow_42 : decode cX4_greatestBelow 42 = .ok (.ireturn, 1) := by decide +kernel
theorem dX5_init_0 : decode cX5_init 0 = .ok (.aload_n 0, 1) := by decide +kernel
theorem dX5_init_1 : decode cX5_init 1 = .ok (.invokespecial 3, 3) := by decide +kernel
theorem dX5_init_4 : decode cX5_init 4 = .ok (.aload_n 0, 1) := by decide +kernel
theorem dX5_init_5 : decode cX5_init 5 = .ok (.new 9, 3) := by decide +kernel
theorem dX5_init_8 : decode cX5_init 8 = .ok (.dup, 1) := by decide +kernel
theorem dX5_init_9 : decode cX5_init 9 = .ok (.invokespecial 11, 3) := by decide +kernel
theorem dX5_init_12 : decode cX5_init 12 = .ok (.putfield 12, 3) := by decide +kernel
theorem dX5_init_15 : decode cX5_init 15 = .ok (.aload_n 0, 1) := by decide +kernel
theorem dX5_init_16 : decode cX5_init 16 = .ok (.new 18, 3) := by decide +kernel
theorem dX5_init_19 : decode cX5_init 19 = .ok (.dup, 1) := by decide +kernel
theorem dX5_init_20 : decode cX5_init 20 = .ok (.sipush 6650, 3) := by decide +kernel
theorem dX5_init_23 : decode cX5_init 23 = .ok (.invokespecial 20, 3) := by decide +kernel
theorem dX5_init_26 : decode cX5_init 26 = .ok (.putfield 23, 3) := by decide +kernel
theorem dX5_init_29 : decode cX5_init 29 = .ok (.return_, 1) := by decide +kernel
theorem dX5_write_0 : decode cX5_write 0 = .ok (.aload_n 3, 1) := by decide +kernel
theorem dX5_write_1 : decode cX5_write 1 = .ok (.iconst 0, 1) := by decide +kernel
theorem dX5_write_2 : decode cX5_write 2 = .ok (.invokevirtual 27, 3) := by decide +kernel
theorem dX5_write_5 : decode cX5_write 5 = .ok (.pop, 1) := by decide +kernel
theorem dX5_write_6 : decode cX5_write 6 = .ok (.aload_n 3, 1) := by decide +kernel
theorem dX5_write_7 : decode cX5_write 7 = .ok (.bipush 73, 2) := by decide +kernel
theorem dX5_write_9 : decode cX5_write 9 = .ok (.invokevirtual 31, 3) := by decide +kernel
theorem dX5_write_12 : decode cX5_write 12 = .ok (.aload_n 3, 1) := by decide +kernel
theorem dX5_write_13 : decode cX5_write 13 = .ok (.bipush 109, 2) := by decide +kernel
theorem dX5_write_15 : decode cX5_write 15 = .ok (.invokevirtual 31, 3) := by decide +kernel
theorem dX5_write_18 : decode cX5_write 18 = .ok (.aload_n 3, 1) := by decide +kernel
theorem dX5_write_19 : decode cX5_write 19 = .ok (.aload_n 1, 1) := by decide +kernel
theorem dX5_write_20 : decode cX5_write 20 = .ok (.getfield 34, 3) := by decide +kernel
theorem dX5_write_23 : decode cX5_write 23 = .ok (.invokevirtual 31, 3) := by decide +kernel
theorem dX5_write_26 : decode cX5_write 26 = .ok (.aload_n 3, 1) := by decide +kernel
theorem dX5_write_27 : decode cX5_write 27 = .ok (.iload_n 2, 1) := by decide +kernel
theorem dX5_write_28 : decode cX5_write 28 = .ok (.invokevirtual 31, 3) := by decide +kernel
theorem dX5_write_31 : decode cX5_write 31 = .ok (.aload_n 3, 1) := by decide +kernel
theorem dX5_write_32 : decode cX5_write 32 = .ok (.aload_n 1, 1) := by decide +kernel
theorem dX5_write_33 : decode cX5_write 33 = .ok (.getfield 40, 3) := by decide +kernel
theorem dX5_write_36 : decode cX5_write 36 = .ok (.invokevirtual 31, 3) := by decide +kernel
theorem dX5_write_39 : decode cX5_write 39 = .ok (.aload_n 3, 1) := by decide +kernel
theorem dX5_write_40 : decode cX5_write 40 = .ok (.aload_n 1, 1) := by decide +kernel
theorem dX5_write_41 : decode cX5_write 41 = .ok (.getfield 43, 3) := by decide +kernel
theorem dX5_write_44 : decode cX5_write 44 = .ok (.invokevirtual 31, 3) := by decide +kernel
theorem dX5_write_47 : decode cX5_write 47 = .ok (.iconst 0, 1) := by decide +kernel
theorem dX5_write_48 : decode cX5_write 48 = .ok (.istore 4, 2) := by decide +kernel
theorem dX5_write_50 : decode cX5_write 50 = .ok (.iload 4, 2) := by decide +kernel
theorem dX5_write_52 : decode cX5_write 52 = .ok (.aload_n 1, 1) := by decide +kernel
theorem dX5_write_53 : decode cX5_write 53 = .ok (.getfield 43, 3) := by decide +kernel
theorem dX5_write_56 : decode cX5_write 56 = .ok (.if_icmp .ge 18, 3) := by decide +kernel
theorem dX5_write_59 : decode cX5_write 59 = .ok (.aload_n 0, 1) := by decide +kernel
theorem dX5_write_60 : decode cX5_write 60 = .ok (.aload_n 1, 1) := by decide +kernel
theorem dX5_write_61 : decode cX5_write 61 = .ok (.iload 4, 2) := by decide +kernel
theorem dX5_write_63 : decode cX5_write 63 = .ok (.iload_n 2, 1) := by decide +kernel
theorem dX5_write_64 : decode cX5_write 64 = .ok (.aload_n 3, 1) := by decide +kernel
theorem dX5_write_65 : decode cX5_write 65 = .ok (.invokevirtual 46, 3) := by decide +kernel
theorem dX5_write_68 : decode cX5_write 68 = .ok (.iinc 4 1, 3) := by decide +kernel
theorem dX5_write_71 : decode cX5_write 71 = .ok (.goto (-21), 3) := by decide +kernel
theorem dX5_write_74 : decode cX5_write 74 = .ok (.aload_n 3, 1) := by decide +kernel
theorem dX5_write_75 : decode cX5_write 75 = .ok (.invokevirtual 50, 3) := by decide +kernel
theorem dX5_write_78 : decode cX5_write 78 = .ok (.return_, 1) := by decide +kernel
theorem dX5_read_0 : decode cX5_read 0 = .ok (.aload_n 1, 1) := by decide +kernel
theorem dX5_read_1 : decode cX5_read 1 = .ok (.invokevirtual 53, 3) := by decide +kernel
theorem dX5_read_4 : decode cX5_read 4 = .ok (.aload_n 1, 1) := by decide +kernel
theorem dX5_read_5 : decode cX5_read 5 = .ok (.invokevirtual 56, 3) := by decide +kernel
theorem dX5_read_8 : decode cX5_read 8 = .ok (.pop, 1) := by decide +kernel
theorem dX5_read_9 : decode cX5_read 9 = .ok (.aload_n 1, 1) := by decide +kernel
theorem dX5_read_10 : decode cX5_read 10 = .ok (.invokevirtual 56, 3) := by decide +kernel
theorem dX5_read_13 : decode cX5_read 13 = .ok (.pop, 1) := by decide +kernel
theorem dX5_read_14 : decode cX5_read 14 = .ok (.aload_n 1, 1) := by decide +kernel
theorem dX5_read_15 : decode cX5_read 15 = .ok (.invokevirtual 56, 3) := by decide +kernel
theorem dX5_read_18 : decode cX5_read 18 = .ok (.istore_n 3, 1) := by decide +kernel
theorem dX5_read_19 : decode cX5_read 19 = .ok (.aload_n 1, 1) := by decide +kernel
theorem dX5_read_20 : decode cX5_read 20 = .ok (.invokevirtual 56, 3) := by decide +kernel
theorem dX5_read_23 : decode cX5_read 23 = .ok (.istore 4, 2) := by decide +kernel
theorem dX5_read_25 : decode cX5_read 25 = .ok (.aload_n 1, 1) := by decide +kernel
theorem dX5_read_26 : decode cX5_read 26 = .ok (.invokevirtual 56, 3) := by decide +kernel
theorem dX5_read_29 : decode cX5_read 29 = .ok (.istore 5, 2) := by decide +kernel
theorem dX5_read_31 : decode cX5_read 31 = .ok (.aload_n 1, 1) := by decide +kernel
theorem dX5_read_32 : decode cX5_read 32 = .ok (.invokevirtual 56, 3) := by decide +kernel
theorem dX5_read_35 : decode cX5_read 35 = .ok (.istore 6, 2) := by decide +kernel
theorem dX5_read_37 : decode cX5_read 37 = .ok (.iload_n 3, 1) := by decide +kernel
theorem dX5_read_38 : decode cX5_read 38 = .ok (.iconst 2, 1) := by decide +kernel
theorem dX5_read_39 : decode cX5_read 39 = .ok (.bipush 8, 2) := by decide +kernel
theorem dX5_read_41 : decode cX5_read 41 = .ok (.invokestatic 60, 3) := by decide +kernel
theorem dX5_read_44 : decode cX5_read 44 = .ok (.ifCond .eq 35, 3) := by decide +kernel
theorem dX5_read_47 : decode cX5_read 47 = .ok (.iload 4, 2) := by decide +kernel
theorem dX5_read_49 : decode cX5_read 49 = .ok (.iconst 0, 1) := by decide +kernel
theorem dX5_read_50 : decode cX5_read 50 = .ok (.iconst 2, 1) := by decide +kernel
theorem dX5_read_51 : decode cX5_read 51 = .ok (.invokestatic 60, 3) := by decide +kernel
theorem dX5_read_54 : decode cX5_read 54 = .ok (.ifCond .eq 25, 3) := by decide +kernel
theorem dX5_read_57 : decode cX5_read 57 = .ok (.iload 5, 2) := by decide +kernel
theorem dX5_read_59 : decode cX5_read 59 = .ok (.iconst 1, 1) := by decide +kernel
theorem dX5_read_60 : decode cX5_read 60 = .ok (.bipush 40, 2) := by decide +kernel
theorem dX5_read_62 : decode cX5_read 62 = .ok (.invokestatic 60, 3) := by decide +kernel
theorem dX5_read_65 : decode cX5_read 65 = .ok (.ifCond .eq 14, 3) := by decide +kernel
theorem dX5_read_68 : decode cX5_read 68 = .ok (.iload 6, 2) := by decide +kernel
theorem dX5_read_70 : decode cX5_read 70 = .ok (.iconst 1, 1) := by decide +kernel
theorem dX5_read_71 : decode cX5_read 71 = .ok (.bipush 64, 2) := by decide +kernel
theorem dX5_read_73 : decode cX5_read 73 = .ok (.invokestatic 60, 3) := by decide +kernel
theorem dX5_read_76 : decode cX5_read 76 = .ok (.ifCond .ne 5, 3) := by decide +kernel
theorem dX5_read_79 : decode cX5_read 79 = .ok (.iconst 0, 1) := by decide +kernel
theorem dX5_read_80 : decode cX5_read 80 = .ok (.ireturn, 1) := by decide +kernel
theorem dX5_read_81 : decode cX5_read 81 = .ok (.aload_n 2, 1) := by decide +kernel
theorem dX5_read_82 : decode cX5_read 82 = .ok (.iload_n 3, 1) := by decide +kernel
theorem dX5_read_83 : decode cX5_read 83 = .ok (.iload 5, 2) := by decide +kernel
theorem dX5_read_85 : decode cX5_read 85 = .ok (.invokevirtual 64, 3) := by decide +kernel
theorem dX5_read_88 : decode cX5_read 88 = .ok (.iconst 0, 1) := by decide +kernel
theorem dX5_read_89 : decode cX5_read 89 = .ok (.istore 7, 2) := by decide +kernel
theorem dX5_read_91 : decode cX5_read 91 = .ok (.iload 7, 2) := by decide +kernel
theorem dX5_read_93 : decode cX5_read 93 = .ok (.iload 6, 2) := by decide +kernel
theorem dX5_read_95 : decode cX5_read 95 = .ok (.if_icmp .ge 22, 3) := by decide +kernel
theorem dX5_read_98 : decode cX5_read 98 = .ok (.aload_n 0, 1) := by decide +kernel
theorem dX5_read_99 : decode cX5_read 99 = .ok (.aload_n 1, 1) := by decide +kernel
theorem dX5_read_100 : decode cX5_read 100 = .ok (.iload 4, 2) := by decide +kernel
theorem dX5_read_102 : decode cX5_read 102 = .ok (.aload_n 2, 1) := by decide +kernel
theorem dX5_read_103 : decode cX5_read 103 = .ok (.invokevirtual 68, 3) := by decide +kernel
theorem dX5_read_106 : decode cX5_read 106 = .ok (.ifCond .ne 5, 3) := by decide +kernel
theorem dX5_read_109 : decode cX5_read 109 = .ok (.iconst 0, 1) := by decide +kernel
theorem dX5_read_110 : decode cX5_read 110 = .ok (.ireturn, 1) := by decide +kernel
theorem dX5_read_111 : decode cX5_read 111 = .ok (.iinc 7 1, 3) := by decide +kernel
theorem dX5_read_114 : decode cX5_read 114 = .ok (.goto (-23), 3) := by decide +kernel
theorem dX5_read_117 : decode cX5_read 117 = .ok (.aload_n 0, 1) := by decide +kernel
theorem dX5_read_118 : decode cX5_read 118 = .ok (.aload_n 2, 1) := by decide +kernel
theorem dX5_read_119 : decode cX5_read 119 = .ok (.iload 4, 2) := by decide +kernel
theorem dX5_read_121 : decode cX5_read 121 = .ok (.aload_n 0, 1) := by decide +kernel
theorem dX5_read_122 : decode cX5_read 122 = .ok (.getfield 23, 3) := by decide +kernel
theorem dX5_read_125 : decode cX5_read 125 = .ok (.invokevirtual 72, 3) := by decide +kernel
theorem dX5_read_128 : decode cX5_read 128 = .ok (.aload_n 0, 1) := by decide +kernel
theorem dX5_read_129 : decode cX5_read 129 = .ok (.getfield 23, 3) := by decide +kernel
theorem dX5_read_132 : decode cX5_read 132 = .ok (.aload_n 1, 1) := by decide +kernel
theorem dX5_read_133 : decode cX5_read 133 = .ok (.invokevirtual 76, 3) := by decide +kernel
theorem dX5_read_136 : decode cX5_read 136 = .ok (.ireturn, 1) := by decide +kernel
theorem dX5_writeTerm_0 : decode cX5_writeTerm 0 = .ok (.aload_n 1, 1) := by decide +kernel
theorem dX5_writeTerm_1 : decode cX5_writeTerm 1 = .ok (.getfield 80, 3) := by decide +kernel
theorem dX5_writeTerm_4 : decode cX5_writeTerm 4 = .ok (.iload_n 2, 1) := by decide +kernel
theorem dX5_writeTerm_5 : decode cX5_writeTerm 5 = .ok (.laload, 1) := by decide +kernel
theorem dX5_writeTerm_6 : decode cX5_writeTerm 6 = .ok (.invokestatic 84, 3) := by decide +kernel
theorem dX5_writeTerm_9 : decode cX5_writeTerm 9 = .ok (.istore 5, 2) := by decide +kernel
theorem dX5_writeTerm_11 : decode cX5_writeTerm 11 = .ok (.aload 4, 2) := by decide +kernel
theorem dX5_writeTerm_13 : decode cX5_writeTerm 13 = .ok (.iload 5, 2) := by decide +kernel
theorem dX5_writeTerm_15 : decode cX5_writeTerm 15 = .ok (.invokevirtual 31, 3) := by decide +kernel
theorem dX5_writeTerm_18 : decode cX5_writeTerm 18 = .ok (.iconst 0, 1) := by decide +kernel
theorem dX5_writeTerm_19 : decode cX5_writeTerm 19 = .ok (.istore 6, 2) := by decide +kernel
theorem dX5_writeTerm_21 : decode cX5_writeTerm 21 = .ok (.iload 6, 2) := by decide +kernel
theorem dX5_writeTerm_23 : decode cX5_writeTerm 23 = .ok (.iload 5, 2) := by decide +kernel
theorem dX5_writeTerm_25 : decode cX5_writeTerm 25 = .ok (.if_icmp .ge 25, 3) := by decide +kernel
theorem dX5_writeTerm_28 : decode cX5_writeTerm 28 = .ok (.aload 4, 2) := by decide +kernel
theorem dX5_writeTerm_30 : decode cX5_writeTerm 30 = .ok (.aload_n 1, 1) := by decide +kernel
theorem dX5_writeTerm_31 : decode cX5_writeTerm 31 = .ok (.getfield 80, 3) := by decide +kernel
theorem dX5_writeTerm_34 : decode cX5_writeTerm 34 = .ok (.iload_n 2, 1) := by decide +kernel
theorem dX5_writeTerm_35 : decode cX5_writeTerm 35 = .ok (.laload, 1) := by decide +kernel
theorem dX5_writeTerm_36 : decode cX5_writeTerm 36 = .ok (.iload 6, 2) := by decide +kernel
theorem dX5_writeTerm_38 : decode cX5_writeTerm 38 = .ok (.invokestatic 90, 3) := by decide +kernel
theorem dX5_writeTerm_41 : decode cX5_writeTerm 41 = .ok (.invokevirtual 31, 3) := by decide +kernel
theorem dX5_writeTerm_44 : decode cX5_writeTerm 44 = .ok (.iinc 6 1, 3) := by decide +kernel
theorem dX5_writeTerm_47 : decode cX5_writeTerm 47 = .ok (.goto (-26), 3) := by decide +kernel
theorem dX5_writeTerm_50 : decode cX5_writeTerm 50 = .ok (.aload 4, 2) := by decide +kernel
theorem dX5_writeTerm_52 : decode cX5_writeTerm 52 = .ok (.aload_n 1, 1) := by decide +kernel
theorem dX5_writeTerm_53 : decode cX5_writeTerm 53 = .ok (.getfield 94, 3) := by decide +kernel
theorem dX5_writeTerm_56 : decode cX5_writeTerm 56 = .ok (.iload_n 2, 1) := by decide +kernel
theorem dX5_writeTerm_57 : decode cX5_writeTerm 57 = .ok (.iconst 1, 1) := by decide +kernel
theorem dX5_writeTerm_58 : decode cX5_writeTerm 58 = .ok (.iadd, 1) := by decide +kernel
theorem dX5_writeTerm_59 : decode cX5_writeTerm 59 = .ok (.iaload, 1) := by decide +kernel
theorem dX5_writeTerm_60 : decode cX5_writeTerm 60 = .ok (.aload_n 1, 1) := by decide +kernel
theorem dX5_writeTerm_61 : decode cX5_writeTerm 61 = .ok (.getfield 94, 3) := by decide +kernel
theorem dX5_writeTerm_64 : decode cX5_writeTerm 64 = .ok (.iload_n 2, 1) := by decide +kernel
theorem dX5_writeTerm_65 : decode cX5_writeTerm 65 = .ok (.iaload, 1) := by decide +kernel
theorem dX5_writeTerm_66 : decode cX5_writeTerm 66 = .ok (.isub, 1) := by decide +kernel
theorem dX5_writeTerm_67 : decode cX5_writeTerm 67 = .ok (.invokevirtual 31, 3) := by decide +kernel
theorem dX5_writeTerm_70 : decode cX5_writeTerm 70 = .ok (.aload_n 1, 1) := by decide +kernel
theorem dX5_writeTerm_71 : decode cX5_writeTerm 71 = .ok (.getfield 94, 3) := by decide +kernel
theorem dX5_writeTerm_74 : decode cX5_writeTerm 74 = .ok (.iload_n 2, 1) := by decide +kernel
theorem dX5_writeTerm_75 : decode cX5_writeTerm 75 = .ok (.iaload, 1) := by decide +kernel
theorem dX5_writeTerm_76 : decode cX5_writeTerm 76 = .ok (.istore 6, 2) := by decide +kernel
theorem dX5_writeTerm_78 : decode cX5_writeTerm 78 = .ok (.iload 6, 2) := by decide +kernel
theorem dX5_writeTerm_80 : decode cX5_writeTerm 80 = .ok (.aload_n 1, 1) := by decide +kernel
theorem dX5_writeTerm_81 : decode cX5_writeTerm 81 = .ok (.getfield 94, 3) := by decide +kernel
theorem dX5_writeTerm_84 : decode cX5_writeTerm 84 = .ok (.iload_n 2, 1) := by decide +kernel
theorem dX5_writeTerm_85 : decode cX5_writeTerm 85 = .ok (.iconst 1, 1) := by decide +kernel
theorem dX5_writeTerm_86 : decode cX5_writeTerm 86 = .ok (.iadd, 1) := by decide +kernel
theorem dX5_writeTerm_87 : decode cX5_writeTerm 87 = .ok (.iaload, 1) := by decide +kernel
theorem dX5_writeTerm_88 : decode cX5_writeTerm 88 = .ok (.if_icmp .ge 52, 3) := by decide +kernel
theorem dX5_writeTerm_91 : decode cX5_writeTerm 91 = .ok (.aload 4, 2) := by decide +kernel
theorem dX5_writeTerm_93 : decode cX5_writeTerm 93 = .ok (.aload_n 1, 1) := by decide +kernel
theorem dX5_writeTerm_94 : decode cX5_writeTerm 94 = .ok (.getfield 98, 3) := by decide +kernel
theorem dX5_writeTerm_97 : decode cX5_writeTerm 97 = .ok (.iload 6, 2) := by decide +kernel
theorem dX5_writeTerm_99 : decode cX5_writeTerm 99 = .ok (.iaload, 1) := by decide +kernel
theorem dX5_writeTerm_100 : decode cX5_writeTerm 100 = .ok (.invokevirtual 31, 3) := by decide +kernel
theorem dX5_writeTerm_103 : decode cX5_writeTerm 103 = .ok (.aload 4, 2) := by decide +kernel
theorem dX5_writeTerm_105 : decode cX5_writeTerm 105 = .ok (.aload_n 1, 1) := by decide +kernel
theorem dX5_writeTerm_106 : decode cX5_writeTerm 106 = .ok (.iload 6, 2) := by decide +kernel
theorem dX5_writeTerm_108 : decode cX5_writeTerm 108 = .ok (.invokevirtual 101, 3) := by decide +kernel
theorem dX5_writeTerm_111 : decode cX5_writeTerm 111 = .ok (.invokevirtual 31, 3) := by decide +kernel
theorem dX5_writeTerm_114 : decode cX5_writeTerm 114 = .ok (.aload_n 0, 1) := by decide +kernel
theorem dX5_writeTerm_115 : decode cX5_writeTerm 115 = .ok (.getfield 12, 3) := by decide +kernel
theorem dX5_writeTerm_118 : decode cX5_writeTerm 118 = .ok (.aload_n 1, 1) := by decide +kernel
theorem dX5_writeTerm_119 : decode cX5_writeTerm 119 = .ok (.iload 6, 2) := by decide +kernel
theorem dX5_writeTerm_121 : decode cX5_writeTerm 121 = .ok (.invokevirtual 105, 3) := by decide +kernel
theorem dX5_writeTerm_124 : decode cX5_writeTerm 124 = .ok (.aload_n 0, 1) := by decide +kernel
theorem dX5_writeTerm_125 : decode cX5_writeTerm 125 = .ok (.getfield 12, 3) := by decide +kernel
theorem dX5_writeTerm_128 : decode cX5_writeTerm 128 = .ok (.iload_n 3, 1) := by decide +kernel
theorem dX5_writeTerm_129 : decode cX5_writeTerm 129 = .ok (.aload 4, 2) := by decide +kernel
theorem dX5_writeTerm_131 : decode cX5_writeTerm 131 = .ok (.invokevirtual 109, 3) := by decide +kernel
theorem dX5_writeTerm_134 : decode cX5_writeTerm 134 = .ok (.iinc 6 1, 3) := by decide +kernel
theorem dX5_writeTerm_137 : decode cX5_writeTerm 137 = .ok (.goto (-59), 3) := by decide +kernel
theorem dX5_writeTerm_140 : decode cX5_writeTerm 140 = .ok (.return_, 1) := by decide +kernel
theorem dX5_readTerm_0 : decode cX5_readTerm 0 = .ok (.aload_n 1, 1) := by decide +kernel
theorem dX5_readTerm_1 : decode cX5_readTerm 1 = .ok (.invokestatic 112, 3) := by decide +kernel
theorem dX5_readTerm_4 : decode cX5_readTerm 4 = .ok (.lstore 4, 2) := by decide +kernel
theorem dX5_readTerm_6 : decode cX5_readTerm 6 = .ok (.lload 4, 2) := by decide +kernel
theorem dX5_readTerm_8 : decode cX5_readTerm 8 = .ok (.aload_n 3, 1) := by decide +kernel
theorem dX5_readTerm_9 : decode cX5_readTerm 9 = .ok (.invokevirtual 116, 3) := by decide +kernel
theorem dX5_readTerm_12 : decode cX5_readTerm 12 = .ok (.lcmp, 1) := by decide +kernel
theorem dX5_readTerm_13 : decode cX5_readTerm 13 = .ok (.ifCond .le 12, 3) := by decide +kernel
theorem dX5_readTerm_16 : decode cX5_readTerm 16 = .ok (.aload_n 3, 1) := by decide +kernel
theorem dX5_readTerm_17 : decode cX5_readTerm 17 = .ok (.lload 4, 2) := by decide +kernel
theorem dX5_readTerm_19 : decode cX5_readTerm 19 = .ok (.invokevirtual 120, 3) := by decide +kernel
theorem dX5_readTerm_22 : decode cX5_readTerm 22 = .ok (.ifCond .ne 5, 3) := by decide +kernel
theorem dX5_readTerm_25 : decode cX5_readTerm 25 = .ok (.iconst 0, 1) := by decide +kernel
theorem dX5_readTerm_26 : decode cX5_readTerm 26 = .ok (.ireturn, 1) := by decide +kernel
theorem dX5_readTerm_27 : decode cX5_readTerm 27 = .ok (.aload_n 1, 1) := by decide +kernel
theorem dX5_readTerm_28 : decode cX5_readTerm 28 = .ok (.invokevirtual 56, 3) := by decide +kernel
theorem dX5_readTerm_31 : decode cX5_readTerm 31 = .ok (.istore 6, 2) := by decide +kernel
theorem dX5_readTerm_33 : decode cX5_readTerm 33 = .ok (.iload 6, 2) := by decide +kernel
theorem dX5_readTerm_35 : decode cX5_readTerm 35 = .ok (.iconst 1, 1) := by decide +kernel
theorem dX5_readTerm_36 : decode cX5_readTerm 36 = .ok (.if_icmp .ge 5, 3) := by decide +kernel
theorem dX5_readTerm_39 : decode cX5_readTerm 39 = .ok (.iconst 0, 1) := by decide +kernel
theorem dX5_readTerm_40 : decode cX5_readTerm 40 = .ok (.ireturn, 1) := by decide +kernel
theorem dX5_readTerm_41 : decode cX5_readTerm 41 = .ok (.iconst 1, 1) := by decide +kernel
theorem dX5_readTerm_42 : decode cX5_readTerm 42 = .ok (.aload_n 3, 1) := by decide +kernel
theorem dX5_readTerm_43 : decode cX5_readTerm 43 = .ok (.getfield 34, 3) := by decide +kernel
theorem dX5_readTerm_46 : decode cX5_readTerm 46 = .ok (.ishl, 1) := by decide +kernel
theorem dX5_readTerm_47 : decode cX5_readTerm 47 = .ok (.istore 7, 2) := by decide +kernel
theorem dX5_readTerm_49 : decode cX5_readTerm 49 = .ok (.lconst 0, 1) := by decide +kernel
theorem dX5_readTerm_50 : decode cX5_readTerm 50 = .ok (.lstore 8, 2) := by decide +kernel
theorem dX5_readTerm_52 : decode cX5_readTerm 52 = .ok (.iconst 0, 1) := by decide +kernel
theorem dX5_readTerm_53 : decode cX5_readTerm 53 = .ok (.istore 10, 2) := by decide +kernel
theorem dX5_readTerm_55 : decode cX5_readTerm 55 = .ok (.iload 10, 2) := by decide +kernel
theorem dX5_readTerm_57 : decode cX5_readTerm 57 = .ok (.iload 6, 2) := by decide +kernel
theorem dX5_readTerm_59 : decode cX5_readTerm 59 = .ok (.if_icmp .ge 107, 3) := by decide +kernel
theorem dX5_readTerm_62 : decode cX5_readTerm 62 = .ok (.aload_n 1, 1) := by decide +kernel
theorem dX5_readTerm_63 : decode cX5_readTerm 63 = .ok (.invokevirtual 56, 3) := by decide +kernel
theorem dX5_readTerm_66 : decode cX5_readTerm 66 = .ok (.istore 11, 2) := by decide +kernel
theorem dX5_readTerm_68 : decode cX5_readTerm 68 = .ok (.aload_n 1, 1) := by decide +kernel
theorem dX5_readTerm_69 : decode cX5_readTerm 69 = .ok (.invokevirtual 56, 3) := by decide +kernel
theorem dX5_readTerm_72 : decode cX5_readTerm 72 = .ok (.istore 12, 2) := by decide +kernel
theorem dX5_readTerm_74 : decode cX5_readTerm 74 = .ok (.iload 11, 2) := by decide +kernel
theorem dX5_readTerm_76 : decode cX5_readTerm 76 = .ok (.iconst 1, 1) := by decide +kernel
theorem dX5_readTerm_77 : decode cX5_readTerm 77 = .ok (.iload 7, 2) := by decide +kernel
theorem dX5_readTerm_79 : decode cX5_readTerm 79 = .ok (.iconst 1, 1) := by decide +kernel
theorem dX5_readTerm_80 : decode cX5_readTerm 80 = .ok (.isub, 1) := by decide +kernel
theorem dX5_readTerm_81 : decode cX5_readTerm 81 = .ok (.invokestatic 60, 3) := by decide +kernel
theorem dX5_readTerm_84 : decode cX5_readTerm 84 = .ok (.ifCond .eq 37, 3) := by decide +kernel
theorem dX5_readTerm_87 : decode cX5_readTerm 87 = .ok (.iload 12, 2) := by decide +kernel
theorem dX5_readTerm_89 : decode cX5_readTerm 89 = .ok (.iconst 1, 1) := by decide +kernel
theorem dX5_readTerm_90 : decode cX5_readTerm 90 = .ok (.bipush 40, 2) := by decide +kernel
theorem dX5_readTerm_92 : decode cX5_readTerm 92 = .ok (.invokestatic 60, 3) := by decide +kernel
theorem dX5_readTerm_95 : decode cX5_readTerm 95 = .ok (.ifCond .eq 26, 3) := by decide +kernel
theorem dX5_readTerm_98 : decode cX5_readTerm 98 = .ok (.aload_n 0, 1) := by decide +kernel
theorem dX5_readTerm_99 : decode cX5_readTerm 99 = .ok (.getfield 12, 3) := by decide +kernel
theorem dX5_readTerm_102 : decode cX5_readTerm 102 = .ok (.iload_n 2, 1) := by decide +kernel
theorem dX5_readTerm_103 : decode cX5_readTerm 103 = .ok (.iload 12, 2) := by decide +kernel
theorem dX5_readTerm_105 : decode cX5_readTerm 105 = .ok (.aload_n 1, 1) := by decide +kernel
theorem dX5_readTerm_106 : decode cX5_readTerm 106 = .ok (.invokevirtual 124, 3) := by decide +kernel
theorem dX5_readTerm_109 : decode cX5_readTerm 109 = .ok (.ifCond .eq 12, 3) := by decide +kernel
theorem dX5_readTerm_112 : decode cX5_readTerm 112 = .ok (.aload_n 3, 1) := by decide +kernel
theorem dX5_readTerm_113 : decode cX5_readTerm 113 = .ok (.iload 11, 2) := by decide +kernel
theorem dX5_readTerm_115 : decode cX5_readTerm 115 = .ok (.invokevirtual 128, 3) := by decide +kernel
theorem dX5_readTerm_118 : decode cX5_readTerm 118 = .ok (.ifCond .ne 5, 3) := by decide +kernel
theorem dX5_readTerm_121 : decode cX5_readTerm 121 = .ok (.iconst 0, 1) := by decide +kernel
theorem dX5_readTerm_122 : decode cX5_readTerm 122 = .ok (.ireturn, 1) := by decide +kernel
theorem dX5_readTerm_123 : decode cX5_readTerm 123 = .ok (.aload_n 0, 1) := by decide +kernel
theorem dX5_readTerm_124 : decode cX5_readTerm 124 = .ok (.aload_n 3, 1) := by decide +kernel
theorem dX5_readTerm_125 : decode cX5_readTerm 125 = .ok (.invokevirtual 131, 3) := by decide +kernel
theorem dX5_readTerm_128 : decode cX5_readTerm 128 = .ok (.lstore 13, 2) := by decide +kernel
theorem dX5_readTerm_130 : decode cX5_readTerm 130 = .ok (.lload 13, 2) := by decide +kernel
theorem dX5_readTerm_132 : decode cX5_readTerm 132 = .ok (.lconst 0, 1) := by decide +kernel
theorem dX5_readTerm_133 : decode cX5_readTerm 133 = .ok (.lcmp, 1) := by decide +kernel
theorem dX5_readTerm_134 : decode cX5_readTerm 134 = .ok (.ifCond .eq 13, 3) := by decide +kernel
theorem dX5_readTerm_137 : decode cX5_readTerm 137 = .ok (.lload 13, 2) := by decide +kernel
theorem dX5_readTerm_139 : decode cX5_readTerm 139 = .ok (.lload 8, 2) := by decide +kernel
theorem dX5_readTerm_141 : decode cX5_readTerm 141 = .ok (.land, 1) := by decide +kernel
theorem dX5_readTerm_142 : decode cX5_readTerm 142 = .ok (.lconst 0, 1) := by decide +kernel
theorem dX5_readTerm_143 : decode cX5_readTerm 143 = .ok (.lcmp, 1) := by decide +kernel
theorem dX5_readTerm_144 : decode cX5_readTerm 144 = .ok (.ifCond .eq 5, 3) := by decide +kernel
theorem dX5_readTerm_147 : decode cX5_readTerm 147 = .ok (.iconst 0, 1) := by decide +kernel
theorem dX5_readTerm_148 : decode cX5_readTerm 148 = .ok (.ireturn, 1) := by decide +kernel
theorem dX5_readTerm_149 : decode cX5_readTerm 149 = .ok (.lload 8, 2) := by decide +kernel
theorem dX5_readTerm_151 : decode cX5_readTerm 151 = .ok (.lload 13, 2) := by decide +kernel
theorem dX5_readTerm_153 : decode cX5_readTerm 153 = .ok (.lor, 1) := by decide +kernel
theorem dX5_readTerm_154 : decode cX5_readTerm 154 = .ok (.lstore 8, 2) := by decide +kernel
theorem dX5_readTerm_156 : decode cX5_readTerm 156 = .ok (.iload 11, 2) := by decide +kernel
theorem dX5_readTerm_158 : decode cX5_readTerm 158 = .ok (.istore 7, 2) := by decide +kernel
theorem dX5_readTerm_160 : decode cX5_readTerm 160 = .ok (.iinc 10 1, 3) := by decide +kernel
theorem dX5_readTerm_163 : decode cX5_readTerm 163 = .ok (.goto (-108), 3) := by decide +kernel
theorem dX5_readTerm_166 : decode cX5_readTerm 166 = .ok (.iconst 1, 1) := by decide +kernel
theorem dX5_readTerm_167 : decode cX5_readTerm 167 = .ok (.ireturn, 1) := by decide +kernel
theorem dX5_readWord_0 : decode cX5_readWord 0 = .ok (.aload_n 0, 1) := by decide +kernel
theorem dX5_readWord_1 : decode cX5_readWord 1 = .ok (.invokevirtual 56, 3) := by decide +kernel
theorem dX5_readWord_4 : decode cX5_readWord 4 = .ok (.istore_n 1, 1) := by decide +kernel
theorem dX5_readWord_5 : decode cX5_readWord 5 = .ok (.iload_n 1, 1) := by decide +kernel
theorem dX5_readWord_6 : decode cX5_readWord 6 = .ok (.iconst 1, 1) := by decide +kernel
theorem dX5_readWord_7 : decode cX5_readWord 7 = .ok (.bipush 8, 2) := by decide +kernel
theorem dX5_readWord_9 : decode cX5_readWord 9 = .ok (.invokestatic 60, 3) := by decide +kernel
theorem dX5_readWord_12 : decode cX5_readWord 12 = .ok (.ifCond .ne 5, 3) := by decide +kernel
theorem dX5_readWord_15 : decode cX5_readWord 15 = .ok (.lconst 0, 1) := by decide +kernel
theorem dX5_readWord_16 : decode cX5_readWord 16 = .ok (.lreturn, 1) := by decide +kernel
theorem dX5_readWord_17 : decode cX5_readWord 17 = .ok (.lconst 0, 1) := by decide +kernel
theorem dX5_readWord_18 : decode cX5_readWord 18 = .ok (.lstore_n 2, 1) := by decide +kernel
theorem dX5_readWord_19 : decode cX5_readWord 19 = .ok (.iconst 0, 1) := by decide +kernel
theorem dX5_readWord_20 : decode cX5_readWord 20 = .ok (.istore 4, 2) := by decide +kernel
theorem dX5_readWord_22 : decode cX5_readWord 22 = .ok (.iload 4, 2) := by decide +kernel
theorem dX5_readWord_24 : decode cX5_readWord 24 = .ok (.iload_n 1, 1) := by decide +kernel
theorem dX5_readWord_25 : decode cX5_readWord 25 = .ok (.if_icmp .ge 39, 3) := by decide +kernel
theorem dX5_readWord_28 : decode cX5_readWord 28 = .ok (.aload_n 0, 1) := by decide +kernel
theorem dX5_readWord_29 : decode cX5_readWord 29 = .ok (.invokevirtual 56, 3) := by decide +kernel
theorem dX5_readWord_32 : decode cX5_readWord 32 = .ok (.istore 5, 2) := by decide +kernel
theorem dX5_readWord_34 : decode cX5_readWord 34 = .ok (.iload 5, 2) := by decide +kernel
theorem dX5_readWord_36 : decode cX5_readWord 36 = .ok (.bipush 97, 2) := by decide +kernel
theorem dX5_readWord_38 : decode cX5_readWord 38 = .ok (.bipush 122, 2) := by decide +kernel
theorem dX5_readWord_40 : decode cX5_readWord 40 = .ok (.invokestatic 60, 3) := by decide +kernel
theorem dX5_readWord_43 : decode cX5_readWord 43 = .ok (.ifCond .ne 5, 3) := by decide +kernel
theorem dX5_readWord_46 : decode cX5_readWord 46 = .ok (.lconst 0, 1) := by decide +kernel
theorem dX5_readWord_47 : decode cX5_readWord 47 = .ok (.lreturn, 1) := by decide +kernel
theorem dX5_readWord_48 : decode cX5_readWord 48 = .ok (.lload_n 2, 1) := by decide +kernel
theorem dX5_readWord_49 : decode cX5_readWord 49 = .ok (.iload 5, 2) := by decide +kernel
theorem dX5_readWord_51 : decode cX5_readWord 51 = .ok (.iload 4, 2) := by decide +kernel
theorem dX5_readWord_53 : decode cX5_readWord 53 = .ok (.invokestatic 135, 3) := by decide +kernel
theorem dX5_readWord_56 : decode cX5_readWord 56 = .ok (.lor, 1) := by decide +kernel
theorem dX5_readWord_57 : decode cX5_readWord 57 = .ok (.lstore_n 2, 1) := by decide +kernel
theorem dX5_readWord_58 : decode cX5_readWord 58 = .ok (.iinc 4 1, 3) := by decide +kernel
theorem dX5_readWord_61 : decode cX5_readWord 61 = .ok (.goto (-39), 3) := by decide +kernel
theorem dX5_readWord_64 : decode cX5_readWord 64 = .ok (.lload_n 2, 1) := by decide +kernel
theorem dX5_readWord_65 : decode cX5_readWord 65 = .ok (.lreturn, 1) := by decide +kernel
theorem dX5_appendDocuments_0 : decode cX5_appendDocuments 0 = .ok (.lconst 0, 1) := by decide +kernel
theorem dX5_appendDocuments_1 : decode cX5_appendDocuments 1 = .ok (.lstore_n 2, 1) := by decide +kernel
theorem dX5_appendDocuments_2 : decode cX5_appendDocuments 2 = .ok (.iconst (-1), 1) := by decide +kernel
theorem dX5_appendDocuments_3 : decode cX5_appendDocuments 3 = .ok (.istore 4, 2) := by decide +kernel
theorem dX5_appendDocuments_5 : decode cX5_appendDocuments 5 = .ok (.iconst 0, 1) := by decide +kernel
theorem dX5_appendDocuments_6 : decode cX5_appendDocuments 6 = .ok (.istore 5, 2) := by decide +kernel
theorem dX5_appendDocuments_8 : decode cX5_appendDocuments 8 = .ok (.iload 5, 2) := by decide +kernel
theorem dX5_appendDocuments_10 : decode cX5_appendDocuments 10 = .ok (.aload_n 0, 1) := by decide +kernel
theorem dX5_appendDocuments_11 : decode cX5_appendDocuments 11 = .ok (.getfield 12, 3) := by decide +kernel
theorem dX5_appendDocuments_14 : decode cX5_appendDocuments 14 = .ok (.getfield 139, 3) := by decide +kernel
theorem dX5_appendDocuments_17 : decode cX5_appendDocuments 17 = .ok (.if_icmp .ge 53, 3) := by decide +kernel
theorem dX5_appendDocuments_20 : decode cX5_appendDocuments 20 = .ok (.iload 4, 2) := by decide +kernel
theorem dX5_appendDocuments_22 : decode cX5_appendDocuments 22 = .ok (.aload_n 0, 1) := by decide +kernel
theorem dX5_appendDocuments_23 : decode cX5_appendDocuments 23 = .ok (.getfield 12, 3) := by decide +kernel
theorem dX5_appendDocuments_26 : decode cX5_appendDocuments 26 = .ok (.getfield 142, 3) := by decide +kernel
theorem dX5_appendDocuments_29 : decode cX5_appendDocuments 29 = .ok (.iload 5, 2) := by decide +kernel
theorem dX5_appendDocuments_31 : decode cX5_appendDocuments 31 = .ok (.iaload, 1) := by decide +kernel
theorem dX5_appendDocuments_32 : decode cX5_appendDocuments 32 = .ok (.iconst 1, 1) := by decide +kernel
theorem dX5_appendDocuments_33 : decode cX5_appendDocuments 33 = .ok (.iadd, 1) := by decide +kernel
theorem dX5_appendDocuments_34 : decode cX5_appendDocuments 34 = .ok (.iadd, 1) := by decide +kernel
theorem dX5_appendDocuments_35 : decode cX5_appendDocuments 35 = .ok (.istore 4, 2) := by decide +kernel
theorem dX5_appendDocuments_37 : decode cX5_appendDocuments 37 = .ok (.iload 4, 2) := by decide +kernel
theorem dX5_appendDocuments_39 : decode cX5_appendDocuments 39 = .ok (.aload_n 1, 1) := by decide +kernel
theorem dX5_appendDocuments_40 : decode cX5_appendDocuments 40 = .ok (.getfield 40, 3) := by decide +kernel
theorem dX5_appendDocuments_43 : decode cX5_appendDocuments 43 = .ok (.if_icmp .ge 12, 3) := by decide +kernel
theorem dX5_appendDocuments_46 : decode cX5_appendDocuments 46 = .ok (.aload_n 1, 1) := by decide +kernel
theorem dX5_appendDocuments_47 : decode cX5_appendDocuments 47 = .ok (.iload 4, 2) := by decide +kernel
theorem dX5_appendDocuments_49 : decode cX5_appendDocuments 49 = .ok (.invokevirtual 145, 3) := by decide +kernel
theorem dX5_appendDocuments_52 : decode cX5_appendDocuments 52 = .ok (.ifCond .ne 5, 3) := by decide +kernel
theorem dX5_appendDocuments_55 : decode cX5_appendDocuments 55 = .ok (.lconst 0, 1) := by decide +kernel
theorem dX5_appendDocuments_56 : decode cX5_appendDocuments 56 = .ok (.lreturn, 1) := by decide +kernel
theorem dX5_appendDocuments_57 : decode cX5_appendDocuments 57 = .ok (.lload_n 2, 1) := by decide +kernel
theorem dX5_appendDocuments_58 : decode cX5_appendDocuments 58 = .ok (.lconst 1, 1) := by decide +kernel
theorem dX5_appendDocuments_59 : decode cX5_appendDocuments 59 = .ok (.iload 4, 2) := by decide +kernel
theorem dX5_appendDocuments_61 : decode cX5_appendDocuments 61 = .ok (.lshl, 1) := by decide +kernel
theorem dX5_appendDocuments_62 : decode cX5_appendDocuments 62 = .ok (.lor, 1) := by decide +kernel
theorem dX5_appendDocuments_63 : decode cX5_appendDocuments 63 = .ok (.lstore_n 2, 1) := by decide +kernel
theorem dX5_appendDocuments_64 : decode cX5_appendDocuments 64 = .ok (.iinc 5 1, 3) := by decide +kernel
theorem dX5_appendDocuments_67 : decode cX5_appendDocuments 67 = .ok (.goto (-59), 3) := by decide +kernel
theorem dX5_appendDocuments_70 : decode cX5_appendDocuments 70 = .ok (.lload_n 2, 1) := by decide +kernel
theorem dX5_appendDocuments_71 : decode cX5_appendDocuments 71 = .ok (.lreturn, 1) := by decide +kernel
theorem dX5_isWithin_0 : decode cX5_isWithin 0 = .ok (.iload_n 0, 1) := by decide +kernel
theorem dX5_isWithin_1 : decode cX5_isWithin 1 = .ok (.iload_n 1, 1) := by decide +kernel
theorem dX5_isWithin_2 : decode cX5_isWithin 2 = .ok (.if_icmp .lt 12, 3) := by decide +kernel
theorem dX5_isWithin_5 : decode cX5_isWithin 5 = .ok (.iload_n 0, 1) := by decide +kernel
theorem dX5_isWithin_6 : decode cX5_isWithin 6 = .ok (.iload_n 2, 1) := by decide +kernel
theorem dX5_isWithin_7 : decode cX5_isWithin 7 = .ok (.if_icmp .gt 7, 3) := by decide +kernel
theorem dX5_isWithin_10 : decode cX5_isWithin 10 = .ok (.iconst 1, 1) := by decide +kernel
theorem dX5_isWithin_11 : decode cX5_isWithin 11 = .ok (.goto 4, 3) := by decide +kernel
theorem dX5_isWithin_14 : decode cX5_isWithin 14 = .ok (.iconst 0, 1) := by decide +kernel
theorem dX5_isWithin_15 : decode cX5_isWithin 15 = .ok (.ireturn, 1) := by decide +kernel
theorem dX6_init_0 : decode cX6_init 0 = .ok (.aload_n 0, 1) := by decide +kernel
theorem dX6_init_1 : decode cX6_init 1 = .ok (.invokespecial 3, 3) := by decide +kernel
theorem dX6_init_4 : decode cX6_init 4 = .ok (.aload_n 0, 1) := by decide +kernel
theorem dX6_init_5 : decode cX6_init 5 = .ok (.bipush 8, 2) := by decide +kernel
theorem dX6_init_7 : decode cX6_init 7 = .ok (.newarray .int, 2) := by decide +kernel
theorem dX6_init_9 : decode cX6_init 9 = .ok (.putfield 9, 3) := by decide +kernel
theorem dX6_init_12 : decode cX6_init 12 = .ok (.aload_n 0, 1) := by decide +kernel
theorem dX6_init_13 : decode cX6_init 13 = .ok (.sipush 320, 3) := by decide +kernel
theorem dX6_init_16 : decode cX6_init 16 = .ok (.newarray .int, 2) := by decide +kernel
theorem dX6_init_18 : decode cX6_init 18 = .ok (.putfield 15, 3) := by decide +kernel
theorem dX6_init_21 : decode cX6_init 21 = .ok (.aload_n 0, 1) := by decide +kernel
theorem dX6_init_22 : decode cX6_init 22 = .ok (.sipush 320, 3) := by decide +kernel
theorem dX6_init_25 : decode cX6_init 25 = .ok (.newarray .int, 2) := by decide +kernel
theorem dX6_init_27 : decode cX6_init 27 = .ok (.putfield 18, 3) := by decide +kernel
theorem dX6_init_30 : decode cX6_init 30 = .ok (.aload_n 0, 1) := by decide +kernel
theorem dX6_init_31 : decode cX6_init 31 = .ok (.sipush 320, 3) := by decide +kernel
theorem dX6_init_34 : decode cX6_init 34 = .ok (.newarray .int, 2) := by decide +kernel
theorem dX6_init_36 : decode cX6_init 36 = .ok (.putfield 21, 3) := by decide +kernel
theorem dX6_init_39 : decode cX6_init 39 = .ok (.aload_n 0, 1) := by decide +kernel
theorem dX6_init_40 : decode cX6_init 40 = .ok (.sipush 320, 3) := by decide +kernel
theorem dX6_init_43 : decode cX6_init 43 = .ok (.newarray .int, 2) := by decide +kernel
theorem dX6_init_45 : decode cX6_init 45 = .ok (.putfield 24, 3) := by decide +kernel
theorem dX6_init_48 : decode cX6_init 48 = .ok (.aload_n 0, 1) := by decide +kernel
theorem dX6_init_49 : decode cX6_init 49 = .ok (.sipush 320, 3) := by decide +kernel
theorem dX6_init_52 : decode cX6_init 52 = .ok (.newarray .int, 2) := by decide +kernel
theorem dX6_init_54 : decode cX6_init 54 = .ok (.putfield 27, 3) := by decide +kernel
theorem dX6_init_57 : decode cX6_init 57 = .ok (.aload_n 0, 1) := by decide +kernel
theorem dX6_init_58 : decode cX6_init 58 = .ok (.bipush 40, 2) := by decide +kernel
theorem dX6_init_60 : decode cX6_init 60 = .ok (.newarray .int, 2) := by decide +kernel
theorem dX6_init_62 : decode cX6_init 62 = .ok (.putfield 30, 3) := by decide +kernel
theorem dX6_init_65 : decode cX6_init 65 = .ok (.aload_n 0, 1) := by decide +kernel
theorem dX6_init_66 : decode cX6_init 66 = .ok (.bipush 40, 2) := by decide +kernel
theorem dX6_init_68 : decode cX6_init 68 = .ok (.newarray .int, 2) := by decide +kernel
theorem dX6_init_70 : decode cX6_init 70 = .ok (.putfield 33, 3) := by decide +kernel
theorem dX6_init_73 : decode cX6_init 73 = .ok (.aload_n 0, 1) := by decide +kernel
theorem dX6_init_74 : decode cX6_init 74 = .ok (.iconst 0, 1) := by decide +kernel
theorem dX6_init_75 : decode cX6_init 75 = .ok (.putfield 36, 3) := by decide +kernel
theorem dX6_init_78 : decode cX6_init 78 = .ok (.aload_n 0, 1) := by decide +kernel
theorem dX6_init_79 : decode cX6_init 79 = .ok (.iconst 0, 1) := by decide +kernel
theorem dX6_init_80 : decode cX6_init 80 = .ok (.putfield 40, 3) := by decide +kernel
theorem dX6_init_83 : decode cX6_init 83 = .ok (.aload_n 0, 1) := by decide +kernel
theorem dX6_init_84 : decode cX6_init 84 = .ok (.iconst 0, 1) := by decide +kernel
theorem dX6_init_85 : decode cX6_init 85 = .ok (.putfield 43, 3) := by decide +kernel
theorem dX6_init_88 : decode cX6_init 88 = .ok (.aload_n 0, 1) := by decide +kernel
theorem dX6_init_89 : decode cX6_init 89 = .ok (.iconst 0, 1) := by decide +kernel
theorem dX6_init_90 : decode cX6_init 90 = .ok (.putfield 46, 3) := by decide +kernel
theorem dX6_init_93 : decode cX6_init 93 = .ok (.aload_n 0, 1) := by decide +kernel
theorem dX6_init_94 : decode cX6_init 94 = .ok (.iconst 0, 1) := by decide +kernel
theorem dX6_init_95 : decode cX6_init 95 = .ok (.putfield 49, 3) := by decide +kernel
theorem dX6_init_98 : decode cX6_init 98 = .ok (.aload_n 0, 1) := by decide +kernel
theorem dX6_init_99 : decode cX6_init 99 = .ok (.iconst 0, 1) := by decide +kernel
theorem dX6_init_100 : decode cX6_init 100 = .ok (.putfield 52, 3) := by decide +kernel
theorem dX6_init_103 : decode cX6_init 103 = .ok (.aload_n 0, 1) := by decide +kernel
theorem dX6_init_104 : decode cX6_init 104 = .ok (.iconst 0, 1) := by decide +kernel
theorem dX6_init_105 : decode cX6_init 105 = .ok (.putfield 55, 3) := by decide +kernel
theorem dX6_init_108 : decode cX6_init 108 = .ok (.aload_n 0, 1) := by decide +kernel
theorem dX6_init_109 : decode cX6_init 109 = .ok (.iconst 0, 1) := by decide +kernel
theorem dX6_init_110 : decode cX6_init 110 = .ok (.putfield 58, 3) := by decide +kernel
theorem dX6_init_113 : decode cX6_init 113 = .ok (.return_, 1) := by decide +kernel
theorem dX6_pick_0 : decode cX6_pick 0 = .ok (.iconst 0, 1) := by decide +kernel
theorem dX6_pick_1 : decode cX6_pick 1 = .ok (.istore_n 3, 1) := by decide +kernel
theorem dX6_pick_2 : decode cX6_pick 2 = .ok (.iconst 0, 1) := by decide +kernel
theorem dX6_pick_3 : decode cX6_pick 3 = .ok (.istore 4, 2) := by decide +kernel
theorem dX6_pick_5 : decode cX6_pick 5 = .ok (.iload 4, 2) := by decide +kernel
theorem dX6_pick_7 : decode cX6_pick 7 = .ok (.aload_n 1, 1) := by decide +kernel
theorem dX6_pick_8 : decode cX6_pick 8 = .ok (.getfield 61, 3) := by decide +kernel
theorem dX6_pick_11 : decode cX6_pick 11 = .ok (.if_icmp .ge 40, 3) := by decide +kernel
theorem dX6_pick_14 : decode cX6_pick 14 = .ok (.aload_n 2, 1) := by decide +kernel
theorem dX6_pick_15 : decode cX6_pick 15 = .ok (.aload_n 1, 1) := by decide +kernel
theorem dX6_pick_16 : decode cX6_pick 16 = .ok (.getfield 64, 3) := by decide +kernel
theorem dX6_pick_19 : decode cX6_pick 19 = .ok (.iload 4, 2) := by decide +kernel
theorem dX6_pick_21 : decode cX6_pick 21 = .ok (.laload, 1) := by decide +kernel
theorem dX6_pick_22 : decode cX6_pick 22 = .ok (.invokevirtual 68, 3) := by decide +kernel
theorem dX6_pick_25 : decode cX6_pick 25 = .ok (.ifCond .eq 20, 3) := by decide +kernel
theorem dX6_pick_28 : decode cX6_pick 28 = .ok (.iload_n 3, 1) := by decide +kernel
theorem dX6_pick_29 : decode cX6_pick 29 = .ok (.bipush 8, 2) := by decide +kernel
theorem dX6_pick_31 : decode cX6_pick 31 = .ok (.if_icmp .ge 11, 3) := by decide +kernel
theorem dX6_pick_34 : decode cX6_pick 34 = .ok (.aload_n 0, 1) := by decide +kernel
theorem dX6_pick_35 : decode cX6_pick 35 = .ok (.getfield 9, 3) := by decide +kernel
theorem dX6_pick_38 : decode cX6_pick 38 = .ok (.iload_n 3, 1) := by decide +kernel
theorem dX6_pick_39 : decode cX6_pick 39 = .ok (.iload 4, 2) := by decide +kernel
theorem dX6_pick_41 : decode cX6_pick 41 = .ok (.iastore, 1) := by decide +kernel
theorem dX6_pick_42 : decode cX6_pick 42 = .ok (.iinc 3 1, 3) := by decide +kernel
theorem dX6_pick_45 : decode cX6_pick 45 = .ok (.iinc 4 1, 3) := by decide +kernel
theorem dX6_pick_48 : decode cX6_pick 48 = .ok (.goto (-43), 3) := by decide +kernel
theorem dX6_pick_51 : decode cX6_pick 51 = .ok (.aload_n 0, 1) := by decide +kernel
theorem dX6_pick_52 : decode cX6_pick 52 = .ok (.iload_n 3, 1) := by decide +kernel
theorem dX6_pick_53 : decode cX6_pick 53 = .ok (.bipush 8, 2) := by decide +kernel
theorem dX6_pick_55 : decode cX6_pick 55 = .ok (.invokestatic 74, 3) := by decide +kernel
theorem dX6_pick_58 : decode cX6_pick 58 = .ok (.putfield 36, 3) := by decide +kernel
theorem dX6_pick_61 : decode cX6_pick 61 = .ok (.iload_n 3, 1) := by decide +kernel
theorem dX6_pick_62 : decode cX6_pick 62 = .ok (.ireturn, 1) := by decide +kernel
theorem dX6_run_0 : decode cX6_run 0 = .ok (.aload_n 0, 1) := by decide +kernel
theorem dX6_run_1 : decode cX6_run 1 = .ok (.aload_n 1, 1) := by decide +kernel
theorem dX6_run_2 : decode cX6_run 2 = .ok (.invokevirtual 80, 3) := by decide +kernel
theorem dX6_run_5 : decode cX6_run 5 = .ok (.aload_n 0, 1) := by decide +kernel
theorem dX6_run_6 : decode cX6_run 6 = .ok (.aload_n 1, 1) := by decide +kernel
theorem dX6_run_7 : decode cX6_run 7 = .ok (.iload_n 3, 1) := by decide +kernel
theorem dX6_run_8 : decode cX6_run 8 = .ok (.lload 4, 2) := by decide +kernel
theorem dX6_run_10 : decode cX6_run 10 = .ok (.lload 6, 2) := by decide +kernel
theorem dX6_run_12 : decode cX6_run 12 = .ok (.invokevirtual 84, 3) := by decide +kernel
theorem dX6_run_15 : decode cX6_run 15 = .ok (.aload_n 0, 1) := by decide +kernel
theorem dX6_run_16 : decode cX6_run 16 = .ok (.iload_n 2, 1) := by decide +kernel
theorem dX6_run_17 : decode cX6_run 17 = .ok (.invokevirtual 88, 3) := by decide +kernel
theorem dX6_run_20 : decode cX6_run 20 = .ok (.return_, 1) := by decide +kernel
theorem dX6_agreesByDocument_0 : decode cX6_agreesByDocument 0 = .ok (.iconst 0, 1) := by decide +kernel
theorem dX6_agreesByDocument_1 : decode cX6_agreesByDocument 1 = .ok (.istore_n 1, 1) := by decide +kernel
theorem dX6_agreesByDocument_2 : decode cX6_agreesByDocument 2 = .ok (.iload_n 1, 1) := by decide +kernel
theorem dX6_agreesByDocument_3 : decode cX6_agreesByDocument 3 = .ok (.bipush 40, 2) := by decide +kernel
theorem dX6_agreesByDocument_5 : decode cX6_agreesByDocument 5 = .ok (.if_icmp .ge 71, 3) := by decide +kernel
theorem dX6_agreesByDocument_8 : decode cX6_agreesByDocument 8 = .ok (.iconst 0, 1) := by decide +kernel
theorem dX6_agreesByDocument_9 : decode cX6_agreesByDocument 9 = .ok (.istore_n 2, 1) := by decide +kernel
theorem dX6_agreesByDocument_10 : decode cX6_agreesByDocument 10 = .ok (.iconst 0, 1) := by decide +kernel
theorem dX6_agreesByDocument_11 : decode cX6_agreesByDocument 11 = .ok (.istore_n 3, 1) := by decide +kernel
theorem dX6_agreesByDocument_12 : decode cX6_agreesByDocument 12 = .ok (.iload_n 3, 1) := by decide +kernel
theorem dX6_agreesByDocument_13 : decode cX6_agreesByDocument 13 = .ok (.aload_n 0, 1) := by decide +kernel
theorem dX6_agreesByDocument_14 : decode cX6_agreesByDocument 14 = .ok (.getfield 40, 3) := by decide +kernel
theorem dX6_agreesByDocument_17 : decode cX6_agreesByDocument 17 = .ok (.if_icmp .ge 41, 3) := by decide +kernel
theorem dX6_agreesByDocument_20 : decode cX6_agreesByDocument 20 = .ok (.aload_n 0, 1) := by decide +kernel
theorem dX6_agreesByDocument_21 : decode cX6_agreesByDocument 21 = .ok (.getfield 18, 3) := by decide +kernel
theorem dX6_agreesByDocument_24 : decode cX6_agreesByDocument 24 = .ok (.iload_n 3, 1) := by decide +kernel
theorem dX6_agreesByDocument_25 : decode cX6_agreesByDocument 25 = .ok (.bipush 40, 2) := by decide +kernel
theorem dX6_agreesByDocument_27 : decode cX6_agreesByDocument 27 = .ok (.imul, 1) := by decide +kernel
theorem dX6_agreesByDocument_28 : decode cX6_agreesByDocument 28 = .ok (.iload_n 1, 1) := by decide +kernel
theorem dX6_agreesByDocument_29 : decode cX6_agreesByDocument 29 = .ok (.iadd, 1) := by decide +kernel
theorem dX6_agreesByDocument_30 : decode cX6_agreesByDocument 30 = .ok (.iaload, 1) := by decide +kernel
theorem dX6_agreesByDocument_31 : decode cX6_agreesByDocument 31 = .ok (.istore 4, 2) := by decide +kernel
theorem dX6_agreesByDocument_33 : decode cX6_agreesByDocument 33 = .ok (.iload_n 2, 1) := by decide +kernel
theorem dX6_agreesByDocument_34 : decode cX6_agreesByDocument 34 = .ok (.aload_n 0, 1) := by decide +kernel
theorem dX6_agreesByDocument_35 : decode cX6_agreesByDocument 35 = .ok (.iload_n 3, 1) := by decide +kernel
theorem dX6_agreesByDocument_36 : decode cX6_agreesByDocument 36 = .ok (.iload 4, 2) := by decide +kernel
theorem dX6_agreesByDocument_38 : decode cX6_agreesByDocument 38 = .ok (.invokevirtual 92, 3) := by decide +kernel
theorem dX6_agreesByDocument_41 : decode cX6_agreesByDocument 41 = .ok (.ifCond .eq 8, 3) := by decide +kernel
theorem dX6_agreesByDocument_44 : decode cX6_agreesByDocument 44 = .ok (.iload 4, 2) := by decide +kernel
theorem dX6_agreesByDocument_46 : decode cX6_agreesByDocument 46 = .ok (.goto 4, 3) := by decide +kernel
theorem dX6_agreesByDocument_49 : decode cX6_agreesByDocument 49 = .ok (.iconst 0, 1) := by decide +kernel
theorem dX6_agreesByDocument_50 : decode cX6_agreesByDocument 50 = .ok (.iadd, 1) := by decide +kernel
theorem dX6_agreesByDocument_51 : decode cX6_agreesByDocument 51 = .ok (.istore_n 2, 1) := by decide +kernel
theorem dX6_agreesByDocument_52 : decode cX6_agreesByDocument 52 = .ok (.iinc 3 1, 3) := by decide +kernel
theorem dX6_agreesByDocument_55 : decode cX6_agreesByDocument 55 = .ok (.goto (-43), 3) := by decide +kernel
theorem dX6_agreesByDocument_58 : decode cX6_agreesByDocument 58 = .ok (.iload_n 2, 1) := by decide +kernel
theorem dX6_agreesByDocument_59 : decode cX6_agreesByDocument 59 = .ok (.aload_n 0, 1) := by decide +kernel
theorem dX6_agreesByDocument_60 : decode cX6_agreesByDocument 60 = .ok (.getfield 30, 3) := by decide +kernel
theorem dX6_agreesByDocument_63 : decode cX6_agreesByDocument 63 = .ok (.iload_n 1, 1) := by decide +kernel
theorem dX6_agreesByDocument_64 : decode cX6_agreesByDocument 64 = .ok (.iaload, 1) := by decide +kernel
theorem dX6_agreesByDocument_65 : decode cX6_agreesByDocument 65 = .ok (.if_icmp .eq 5, 3) := by decide +kernel
theorem dX6_agreesByDocument_68 : decode cX6_agreesByDocument 68 = .ok (.iconst 0, 1) := by decide +kernel
theorem dX6_agreesByDocument_69 : decode cX6_agreesByDocument 69 = .ok (.ireturn, 1) := by decide +kernel
theorem dX6_agreesByDocument_70 : decode cX6_agreesByDocument 70 = .ok (.iinc 1 1, 3) := by decide +kernel
theorem dX6_agreesByDocument_73 : decode cX6_agreesByDocument 73 = .ok (.goto (-71), 3) := by decide +kernel
theorem dX6_agreesByDocument_76 : decode cX6_agreesByDocument 76 = .ok (.iconst 1, 1) := by decide +kernel
theorem dX6_agreesByDocument_77 : decode cX6_agreesByDocument 77 = .ok (.ireturn, 1) := by decide +kernel
theorem dX6_makePlan_0 : decode cX6_makePlan 0 = .ok (.aload_n 0, 1) := by decide +kernel
theorem dX6_makePlan_1 : decode cX6_makePlan 1 = .ok (.aload_n 0, 1) := by decide +kernel
theorem dX6_makePlan_2 : decode cX6_makePlan 2 = .ok (.getfield 36, 3) := by decide +kernel
theorem dX6_makePlan_5 : decode cX6_makePlan 5 = .ok (.putfield 40, 3) := by decide +kernel
theorem dX6_makePlan_8 : decode cX6_makePlan 8 = .ok (.aload_n 0, 1) := by decide +kernel
theorem dX6_makePlan_9 : decode cX6_makePlan 9 = .ok (.iconst 0, 1) := by decide +kernel
theorem dX6_makePlan_10 : decode cX6_makePlan 10 = .ok (.putfield 43, 3) := by decide +kernel
theorem dX6_makePlan_13 : decode cX6_makePlan 13 = .ok (.aload_n 0, 1) := by decide +kernel
theorem dX6_makePlan_14 : decode cX6_makePlan 14 = .ok (.iconst 0, 1) := by decide +kernel
theorem dX6_makePlan_15 : decode cX6_makePlan 15 = .ok (.putfield 52, 3) := by decide +kernel
theorem dX6_makePlan_18 : decode cX6_makePlan 18 = .ok (.aload_n 0, 1) := by decide +kernel
theorem dX6_makePlan_19 : decode cX6_makePlan 19 = .ok (.getfield 18, 3) := by decide +kernel
theorem dX6_makePlan_22 : decode cX6_makePlan 22 = .ok (.iconst 0, 1) := by decide +kernel
theorem dX6_makePlan_23 : decode cX6_makePlan 23 = .ok (.invokestatic 96, 3) := by decide +kernel
theorem dX6_makePlan_26 : decode cX6_makePlan 26 = .ok (.iconst 0, 1) := by decide +kernel
theorem dX6_makePlan_27 : decode cX6_makePlan 27 = .ok (.istore_n 2, 1) := by decide +kernel
theorem dX6_makePlan_28 : decode cX6_makePlan 28 = .ok (.iload_n 2, 1) := by decide +kernel
theorem dX6_makePlan_29 : decode cX6_makePlan 29 = .ok (.aload_n 0, 1) := by decide +kernel
theorem dX6_makePlan_30 : decode cX6_makePlan 30 = .ok (.getfield 40, 3) := by decide +kernel
theorem dX6_makePlan_33 : decode cX6_makePlan 33 = .ok (.if_icmp .ge 51, 3) := by decide +kernel
theorem dX6_makePlan_36 : decode cX6_makePlan 36 = .ok (.aload_n 1, 1) := by decide +kernel
theorem dX6_makePlan_37 : decode cX6_makePlan 37 = .ok (.getfield 102, 3) := by decide +kernel
theorem dX6_makePlan_40 : decode cX6_makePlan 40 = .ok (.aload_n 0, 1) := by decide +kernel
theorem dX6_makePlan_41 : decode cX6_makePlan 41 = .ok (.getfield 9, 3) := by decide +kernel
theorem dX6_makePlan_44 : decode cX6_makePlan 44 = .ok (.iload_n 2, 1) := by decide +kernel
theorem dX6_makePlan_45 : decode cX6_makePlan 45 = .ok (.iaload, 1) := by decide +kernel
theorem dX6_makePlan_46 : decode cX6_makePlan 46 = .ok (.iaload, 1) := by decide +kernel
theorem dX6_makePlan_47 : decode cX6_makePlan 47 = .ok (.istore_n 3, 1) := by decide +kernel
theorem dX6_makePlan_48 : decode cX6_makePlan 48 = .ok (.iload_n 3, 1) := by decide +kernel
theorem dX6_makePlan_49 : decode cX6_makePlan 49 = .ok (.aload_n 1, 1) := by decide +kernel
theorem dX6_makePlan_50 : decode cX6_makePlan 50 = .ok (.getfield 102, 3) := by decide +kernel
theorem dX6_makePlan_53 : decode cX6_makePlan 53 = .ok (.aload_n 0, 1) := by decide +kernel
theorem dX6_makePlan_54 : decode cX6_makePlan 54 = .ok (.getfield 9, 3) := by decide +kernel
theorem dX6_makePlan_57 : decode cX6_makePlan 57 = .ok (.iload_n 2, 1) := by decide +kernel
theorem dX6_makePlan_58 : decode cX6_makePlan 58 = .ok (.iaload, 1) := by decide +kernel
theorem dX6_makePlan_59 : decode cX6_makePlan 59 = .ok (.iconst 1, 1) := by decide +kernel
theorem dX6_makePlan_60 : decode cX6_makePlan 60 = .ok (.iadd, 1) := by decide +kernel
theorem dX6_makePlan_61 : decode cX6_makePlan 61 = .ok (.iaload, 1) := by decide +kernel
theorem dX6_makePlan_62 : decode cX6_makePlan 62 = .ok (.if_icmp .ge 16, 3) := by decide +kernel
theorem dX6_makePlan_65 : decode cX6_makePlan 65 = .ok (.aload_n 0, 1) := by decide +kernel
theorem dX6_makePlan_66 : decode cX6_makePlan 66 = .ok (.aload_n 1, 1) := by decide +kernel
theorem dX6_makePlan_67 : decode cX6_makePlan 67 = .ok (.iload_n 2, 1) := by decide +kernel
theorem dX6_makePlan_68 : decode cX6_makePlan 68 = .ok (.iload_n 3, 1) := by decide +kernel
theorem dX6_makePlan_69 : decode cX6_makePlan 69 = .ok (.invokevirtual 105, 3) := by decide +kernel
theorem dX6_makePlan_72 : decode cX6_makePlan 72 = .ok (.iinc 3 1, 3) := by decide +kernel
theorem dX6_makePlan_75 : decode cX6_makePlan 75 = .ok (.goto (-27), 3) := by decide +kernel
theorem dX6_makePlan_78 : decode cX6_makePlan 78 = .ok (.iinc 2 1, 3) := by decide +kernel
theorem dX6_makePlan_81 : decode cX6_makePlan 81 = .ok (.goto (-53), 3) := by decide +kernel
theorem dX6_makePlan_84 : decode cX6_makePlan 84 = .ok (.return_, 1) := by decide +kernel
theorem dX6_planOne_0 : decode cX6_planOne 0 = .ok (.aload_n 0, 1) := by decide +kernel
theorem dX6_planOne_1 : decode cX6_planOne 1 = .ok (.getfield 43, 3) := by decide +kernel
theorem dX6_planOne_4 : decode cX6_planOne 4 = .ok (.sipush 320, 3) := by decide +kernel
theorem dX6_planOne_7 : decode cX6_planOne 7 = .ok (.if_icmp .lt 4, 3) := by decide +kernel
theorem dX6_planOne_10 : decode cX6_planOne 10 = .ok (.return_, 1) := by decide +kernel
theorem dX6_planOne_11 : decode cX6_planOne 11 = .ok (.aload_n 1, 1) := by decide +kernel
theorem dX6_planOne_12 : decode cX6_planOne 12 = .ok (.getfield 109, 3) := by decide +kernel
theorem dX6_planOne_15 : decode cX6_planOne 15 = .ok (.iload_n 3, 1) := by decide +kernel
theorem dX6_planOne_16 : decode cX6_planOne 16 = .ok (.iaload, 1) := by decide +kernel
theorem dX6_planOne_17 : decode cX6_planOne 17 = .ok (.istore 4, 2) := by decide +kernel
theorem dX6_planOne_19 : decode cX6_planOne 19 = .ok (.aload_n 1, 1) := by decide +kernel
theorem dX6_planOne_20 : decode cX6_planOne 20 = .ok (.iload_n 3, 1) := by decide +kernel
theorem dX6_planOne_21 : decode cX6_planOne 21 = .ok (.invokevirtual 112, 3) := by decide +kernel
theorem dX6_planOne_24 : decode cX6_planOne 24 = .ok (.istore 5, 2) := by decide +kernel
theorem dX6_planOne_26 : decode cX6_planOne 26 = .ok (.aload_n 0, 1) := by decide +kernel
theorem dX6_planOne_27 : decode cX6_planOne 27 = .ok (.getfield 43, 3) := by decide +kernel
theorem dX6_planOne_30 : decode cX6_planOne 30 = .ok (.istore 6, 2) := by decide +kernel
theorem dX6_planOne_32 : decode cX6_planOne 32 = .ok (.iload 6, 2) := by decide +kernel
theorem dX6_planOne_34 : decode cX6_planOne 34 = .ok (.ifCond .le 88, 3) := by decide +kernel
theorem dX6_planOne_37 : decode cX6_planOne 37 = .ok (.aload_n 0, 1) := by decide +kernel
theorem dX6_planOne_38 : decode cX6_planOne 38 = .ok (.iload 4, 2) := by decide +kernel
theorem dX6_planOne_40 : decode cX6_planOne 40 = .ok (.iload 5, 2) := by decide +kernel
theorem dX6_planOne_42 : decode cX6_planOne 42 = .ok (.iload 6, 2) := by decide +kernel
theorem dX6_planOne_44 : decode cX6_planOne 44 = .ok (.iconst 1, 1) := by decide +kernel
theorem dX6_planOne_45 : decode cX6_planOne 45 = .ok (.isub, 1) := by decide +kernel
theorem dX6_planOne_46 : decode cX6_planOne 46 = .ok (.invokevirtual 116, 3) := by decide +kernel
theorem dX6_planOne_49 : decode cX6_planOne 49 = .ok (.ifCond .eq 73, 3) := by decide +kernel
theorem dX6_planOne_52 : decode cX6_planOne 52 = .ok (.aload_n 0, 1) := by decide +kernel
theorem dX6_planOne_53 : decode cX6_planOne 53 = .ok (.getfield 21, 3) := by decide +kernel
theorem dX6_planOne_56 : decode cX6_planOne 56 = .ok (.iload 6, 2) := by decide +kernel
theorem dX6_planOne_58 : decode cX6_planOne 58 = .ok (.aload_n 0, 1) := by decide +kernel
theorem dX6_planOne_59 : decode cX6_planOne 59 = .ok (.getfield 21, 3) := by decide +kernel
theorem dX6_planOne_62 : decode cX6_planOne 62 = .ok (.iload 6, 2) := by decide +kernel
theorem dX6_planOne_64 : decode cX6_planOne 64 = .ok (.iconst 1, 1) := by decide +kernel
theorem dX6_planOne_65 : decode cX6_planOne 65 = .ok (.isub, 1) := by decide +kernel
theorem dX6_planOne_66 : decode cX6_planOne 66 = .ok (.iaload, 1) := by decide +kernel
theorem dX6_planOne_67 : decode cX6_planOne 67 = .ok (.iastore, 1) := by decide +kernel
theorem dX6_planOne_68 : decode cX6_planOne 68 = .ok (.aload_n 0, 1) := by decide +kernel
theorem dX6_planOne_69 : decode cX6_planOne 69 = .ok (.getfield 24, 3) := by decide +kernel
theorem dX6_planOne_72 : decode cX6_planOne 72 = .ok (.iload 6, 2) := by decide +kernel
theorem dX6_planOne_74 : decode cX6_planOne 74 = .ok (.aload_n 0, 1) := by decide +kernel
theorem dX6_planOne_75 : decode cX6_planOne 75 = .ok (.getfield 24, 3) := by decide +kernel
theorem dX6_planOne_78 : decode cX6_planOne 78 = .ok (.iload 6, 2) := by decide +kernel
theorem dX6_planOne_80 : decode cX6_planOne 80 = .ok (.iconst 1, 1) := by decide +kernel
theorem dX6_planOne_81 : decode cX6_planOne 81 = .ok (.isub, 1) := by decide +kernel
theorem dX6_planOne_82 : decode cX6_planOne 82 = .ok (.iaload, 1) := by decide +kernel
theorem dX6_planOne_83 : decode cX6_planOne 83 = .ok (.iastore, 1) := by decide +kernel
theorem dX6_planOne_84 : decode cX6_planOne 84 = .ok (.aload_n 0, 1) := by decide +kernel
theorem dX6_planOne_85 : decode cX6_planOne 85 = .ok (.getfield 27, 3) := by decide +kernel
theorem dX6_planOne_88 : decode cX6_planOne 88 = .ok (.iload 6, 2) := by decide +kernel
theorem dX6_planOne_90 : decode cX6_planOne 90 = .ok (.aload_n 0, 1) := by decide +kernel
theorem dX6_planOne_91 : decode cX6_planOne 91 = .ok (.getfield 27, 3) := by decide +kernel
theorem dX6_planOne_94 : decode cX6_planOne 94 = .ok (.iload 6, 2) := by decide +kernel
theorem dX6_planOne_96 : decode cX6_planOne 96 = .ok (.iconst 1, 1) := by decide +kernel
theorem dX6_planOne_97 : decode cX6_planOne 97 = .ok (.isub, 1) := by decide +kernel
theorem dX6_planOne_98 : decode cX6_planOne 98 = .ok (.iaload, 1) := by decide +kernel
theorem dX6_planOne_99 : decode cX6_planOne 99 = .ok (.iastore, 1) := by decide +kernel
theorem dX6_planOne_100 : decode cX6_planOne 100 = .ok (.aload_n 0, 1) := by decide +kernel
theorem dX6_planOne_101 : decode cX6_planOne 101 = .ok (.getfield 15, 3) := by decide +kernel
theorem dX6_planOne_104 : decode cX6_planOne 104 = .ok (.iload 6, 2) := by decide +kernel
theorem dX6_planOne_106 : decode cX6_planOne 106 = .ok (.aload_n 0, 1) := by decide +kernel
theorem dX6_planOne_107 : decode cX6_planOne 107 = .ok (.getfield 15, 3) := by decide +kernel
theorem dX6_planOne_110 : decode cX6_planOne 110 = .ok (.iload 6, 2) := by decide +kernel
theorem dX6_planOne_112 : decode cX6_planOne 112 = .ok (.iconst 1, 1) := by decide +kernel
theorem dX6_planOne_113 : decode cX6_planOne 113 = .ok (.isub, 1) := by decide +kernel
theorem dX6_planOne_114 : decode cX6_planOne 114 = .ok (.iaload, 1) := by decide +kernel
theorem dX6_planOne_115 : decode cX6_planOne 115 = .ok (.iastore, 1) := by decide +kernel
theorem dX6_planOne_116 : decode cX6_planOne 116 = .ok (.iinc 6 (-1), 3) := by decide +kernel
theorem dX6_planOne_119 : decode cX6_planOne 119 = .ok (.goto (-87), 3) := by decide +kernel
theorem dX6_planOne_122 : decode cX6_planOne 122 = .ok (.aload_n 0, 1) := by decide +kernel
theorem dX6_planOne_123 : decode cX6_planOne 123 = .ok (.getfield 21, 3) := by decide +kernel
theorem dX6_planOne_126 : decode cX6_planOne 126 = .ok (.iload 6, 2) := by decide +kernel
theorem dX6_planOne_128 : decode cX6_planOne 128 = .ok (.iload_n 2, 1) := by decide +kernel
theorem dX6_planOne_129 : decode cX6_planOne 129 = .ok (.iastore, 1) := by decide +kernel
theorem dX6_planOne_130 : decode cX6_planOne 130 = .ok (.aload_n 0, 1) := by decide +kernel
theorem dX6_planOne_131 : decode cX6_planOne 131 = .ok (.getfield 24, 3) := by decide +kernel
theorem dX6_planOne_134 : decode cX6_planOne 134 = .ok (.iload 6, 2) := by decide +kernel
theorem dX6_planOne_136 : decode cX6_planOne 136 = .ok (.iload 4, 2) := by decide +kernel
theorem dX6_planOne_138 : decode cX6_planOne 138 = .ok (.iastore, 1) := by decide +kernel
theorem dX6_planOne_139 : decode cX6_planOne 139 = .ok (.aload_n 0, 1) := by decide +kernel
theorem dX6_planOne_140 : decode cX6_planOne 140 = .ok (.getfield 27, 3) := by decide +kernel
theorem dX6_planOne_143 : decode cX6_planOne 143 = .ok (.iload 6, 2) := by decide +kernel
theorem dX6_planOne_145 : decode cX6_planOne 145 = .ok (.iload 5, 2) := by decide +kernel
theorem dX6_planOne_147 : decode cX6_planOne 147 = .ok (.iastore, 1) := by decide +kernel
theorem dX6_planOne_148 : decode cX6_planOne 148 = .ok (.aload_n 0, 1) := by decide +kernel
theorem dX6_planOne_149 : decode cX6_planOne 149 = .ok (.getfield 15, 3) := by decide +kernel
theorem dX6_planOne_152 : decode cX6_planOne 152 = .ok (.iload 6, 2) := by decide +kernel
theorem dX6_planOne_154 : decode cX6_planOne 154 = .ok (.iload_n 3, 1) := by decide +kernel
theorem dX6_planOne_155 : decode cX6_planOne 155 = .ok (.iastore, 1) := by decide +kernel
theorem dX6_planOne_156 : decode cX6_planOne 156 = .ok (.aload_n 0, 1) := by decide +kernel
theorem dX6_planOne_157 : decode cX6_planOne 157 = .ok (.dup, 1) := by decide +kernel
theorem dX6_planOne_158 : decode cX6_planOne 158 = .ok (.getfield 43, 3) := by decide +kernel
theorem dX6_planOne_161 : decode cX6_planOne 161 = .ok (.iconst 1, 1) := by decide +kernel
theorem dX6_planOne_162 : decode cX6_planOne 162 = .ok (.iadd, 1) := by decide +kernel
theorem dX6_planOne_163 : decode cX6_planOne 163 = .ok (.putfield 43, 3) := by decide +kernel
theorem dX6_planOne_166 : decode cX6_planOne 166 = .ok (.aload_n 0, 1) := by decide +kernel
theorem dX6_planOne_167 : decode cX6_planOne 167 = .ok (.dup, 1) := by decide +kernel
theorem dX6_planOne_168 : decode cX6_planOne 168 = .ok (.getfield 52, 3) := by decide +kernel
theorem dX6_planOne_171 : decode cX6_planOne 171 = .ok (.iload 5, 2) := by decide +kernel
theorem dX6_planOne_173 : decode cX6_planOne 173 = .ok (.iadd, 1) := by decide +kernel
theorem dX6_planOne_174 : decode cX6_planOne 174 = .ok (.putfield 52, 3) := by decide +kernel
theorem dX6_planOne_177 : decode cX6_planOne 177 = .ok (.aload_n 1, 1) := by decide +kernel
theorem dX6_planOne_178 : decode cX6_planOne 178 = .ok (.getfield 120, 3) := by decide +kernel
theorem dX6_planOne_181 : decode cX6_planOne 181 = .ok (.iload_n 3, 1) := by decide +kernel
theorem dX6_planOne_182 : decode cX6_planOne 182 = .ok (.iaload, 1) := by decide +kernel
theorem dX6_planOne_183 : decode cX6_planOne 183 = .ok (.istore 7, 2) := by decide +kernel
theorem dX6_planOne_185 : decode cX6_planOne 185 = .ok (.iload 7, 2) := by decide +kernel
theorem dX6_planOne_187 : decode cX6_planOne 187 = .ok (.aload_n 1, 1) := by decide +kernel
theorem dX6_planOne_188 : decode cX6_planOne 188 = .ok (.getfield 120, 3) := by decide +kernel
theorem dX6_planOne_191 : decode cX6_planOne 191 = .ok (.iload_n 3, 1) := by decide +kernel
theorem dX6_planOne_192 : decode cX6_planOne 192 = .ok (.iconst 1, 1) := by decide +kernel
theorem dX6_planOne_193 : decode cX6_planOne 193 = .ok (.iadd, 1) := by decide +kernel
theorem dX6_planOne_194 : decode cX6_planOne 194 = .ok (.iaload, 1) := by decide +kernel
theorem dX6_planOne_195 : decode cX6_planOne 195 = .ok (.if_icmp .ge 28, 3) := by decide +kernel
theorem dX6_planOne_198 : decode cX6_planOne 198 = .ok (.aload_n 0, 1) := by decide +kernel
theorem dX6_planOne_199 : decode cX6_planOne 199 = .ok (.getfield 18, 3) := by decide +kernel
theorem dX6_planOne_202 : decode cX6_planOne 202 = .ok (.iload_n 2, 1) := by decide +kernel
theorem dX6_planOne_203 : decode cX6_planOne 203 = .ok (.bipush 40, 2) := by decide +kernel
theorem dX6_planOne_205 : decode cX6_planOne 205 = .ok (.imul, 1) := by decide +kernel
theorem dX6_planOne_206 : decode cX6_planOne 206 = .ok (.aload_n 1, 1) := by decide +kernel
theorem dX6_planOne_207 : decode cX6_planOne 207 = .ok (.getfield 123, 3) := by decide +kernel
theorem dX6_planOne_210 : decode cX6_planOne 210 = .ok (.iload 7, 2) := by decide +kernel
theorem dX6_planOne_212 : decode cX6_planOne 212 = .ok (.iaload, 1) := by decide +kernel
theorem dX6_planOne_213 : decode cX6_planOne 213 = .ok (.iadd, 1) := by decide +kernel
theorem dX6_planOne_214 : decode cX6_planOne 214 = .ok (.iload 4, 2) := by decide +kernel
theorem dX6_planOne_216 : decode cX6_planOne 216 = .ok (.iastore, 1) := by decide +kernel
theorem dX6_planOne_217 : decode cX6_planOne 217 = .ok (.iinc 7 1, 3) := by decide +kernel
theorem dX6_planOne_220 : decode cX6_planOne 220 = .ok (.goto (-35), 3) := by decide +kernel
theorem dX6_planOne_223 : decode cX6_planOne 223 = .ok (.return_, 1) := by decide +kernel
theorem dX6_comesAhead_0 : decode cX6_comesAhead 0 = .ok (.iload_n 1, 1) := by decide +kernel
theorem dX6_comesAhead_1 : decode cX6_comesAhead 1 = .ok (.aload_n 0, 1) := by decide +kernel
theorem dX6_comesAhead_2 : decode cX6_comesAhead 2 = .ok (.getfield 24, 3) := by decide +kernel
theorem dX6_comesAhead_5 : decode cX6_comesAhead 5 = .ok (.iload_n 3, 1) := by decide +kernel
theorem dX6_comesAhead_6 : decode cX6_comesAhead 6 = .ok (.iaload, 1) := by decide +kernel
theorem dX6_comesAhead_7 : decode cX6_comesAhead 7 = .ok (.if_icmp .gt 23, 3) := by decide +kernel
theorem dX6_comesAhead_10 : decode cX6_comesAhead 10 = .ok (.iload_n 1, 1) := by decide +kernel
theorem dX6_comesAhead_11 : decode cX6_comesAhead 11 = .ok (.aload_n 0, 1) := by decide +kernel
theorem dX6_comesAhead_12 : decode cX6_comesAhead 12 = .ok (.getfield 24, 3) := by decide +kernel
theorem dX6_comesAhead_15 : decode cX6_comesAhead 15 = .ok (.iload_n 3, 1) := by decide +kernel
theorem dX6_comesAhead_16 : decode cX6_comesAhead 16 = .ok (.iaload, 1) := by decide +kernel
theorem dX6_comesAhead_17 : decode cX6_comesAhead 17 = .ok (.if_icmp .ne 17, 3) := by decide +kernel
theorem dX6_comesAhead_20 : decode cX6_comesAhead 20 = .ok (.iload_n 2, 1) := by decide +kernel
theorem dX6_comesAhead_21 : decode cX6_comesAhead 21 = .ok (.aload_n 0, 1) := by decide +kernel
theorem dX6_comesAhead_22 : decode cX6_comesAhead 22 = .ok (.getfield 27, 3) := by decide +kernel
theorem dX6_comesAhead_25 : decode cX6_comesAhead 25 = .ok (.iload_n 3, 1) := by decide +kernel
theorem dX6_comesAhead_26 : decode cX6_comesAhead 26 = .ok (.iaload, 1) := by decide +kernel
theorem dX6_comesAhead_27 : decode cX6_comesAhead 27 = .ok (.if_icmp .ge 7, 3) := by decide +kernel
theorem dX6_comesAhead_30 : decode cX6_comesAhead 30 = .ok (.iconst 1, 1) := by decide +kernel
theorem dX6_comesAhead_31 : decode cX6_comesAhead 31 = .ok (.goto 4, 3) := by decide +kernel
theorem dX6_comesAhead_34 : decode cX6_comesAhead 34 = .ok (.iconst 0, 1) := by decide +kernel
theorem dX6_comesAhead_35 : decode cX6_comesAhead 35 = .ok (.ireturn, 1) := by decide +kernel
theorem dX6_workThrough_0 : decode cX6_workThrough 0 = .ok (.aload_n 0, 1) := by decide +kernel
theorem dX6_workThrough_1 : decode cX6_workThrough 1 = .ok (.iconst 0, 1) := by decide +kernel
theorem dX6_workThrough_2 : decode cX6_workThrough 2 = .ok (.putfield 46, 3) := by decide +kernel
theorem dX6_workThrough_5 : decode cX6_workThrough 5 = .ok (.aload_n 0, 1) := by decide +kernel
theorem dX6_workThrough_6 : decode cX6_workThrough 6 = .ok (.iconst 0, 1) := by decide +kernel
theorem dX6_workThrough_7 : decode cX6_workThrough 7 = .ok (.putfield 49, 3) := by decide +kernel
theorem dX6_workThrough_10 : decode cX6_workThrough 10 = .ok (.aload_n 0, 1) := by decide +kernel
theorem dX6_workThrough_11 : decode cX6_workThrough 11 = .ok (.getfield 30, 3) := by decide +kernel
theorem dX6_workThrough_14 : decode cX6_workThrough 14 = .ok (.iconst 0, 1) := by decide +kernel
theorem dX6_workThrough_15 : decode cX6_workThrough 15 = .ok (.invokestatic 96, 3) := by decide +kernel
theorem dX6_workThrough_18 : decode cX6_workThrough 18 = .ok (.aload_n 0, 1) := by decide +kernel
theorem dX6_workThrough_19 : decode cX6_workThrough 19 = .ok (.getfield 46, 3) := by decide +kernel
theorem dX6_workThrough_22 : decode cX6_workThrough 22 = .ok (.aload_n 0, 1) := by decide +kernel
theorem dX6_workThrough_23 : decode cX6_workThrough 23 = .ok (.getfield 43, 3) := by decide +kernel
theorem dX6_workThrough_26 : decode cX6_workThrough 26 = .ok (.if_icmp .ge 114, 3) := by decide +kernel
theorem dX6_workThrough_29 : decode cX6_workThrough 29 = .ok (.aload_n 0, 1) := by decide +kernel
theorem dX6_workThrough_30 : decode cX6_workThrough 30 = .ok (.getfield 49, 3) := by decide +kernel
theorem dX6_workThrough_33 : decode cX6_workThrough 33 = .ok (.iload_n 2, 1) := by decide +kernel
theorem dX6_workThrough_34 : decode cX6_workThrough 34 = .ok (.if_icmp .ge 106, 3) := by decide +kernel
theorem dX6_workThrough_37 : decode cX6_workThrough 37 = .ok (.lload 5, 2) := by decide +kernel
theorem dX6_workThrough_39 : decode cX6_workThrough 39 = .ok (.aload_n 0, 1) := by decide +kernel
theorem dX6_workThrough_40 : decode cX6_workThrough 40 = .ok (.getfield 49, 3) := by decide +kernel
theorem dX6_workThrough_43 : decode cX6_workThrough 43 = .ok (.i2l, 1) := by decide +kernel
theorem dX6_workThrough_44 : decode cX6_workThrough 44 = .ok (.ladd, 1) := by decide +kernel
theorem dX6_workThrough_45 : decode cX6_workThrough 45 = .ok (.lload_n 3, 1) := by decide +kernel
theorem dX6_workThrough_46 : decode cX6_workThrough 46 = .ok (.lcmp, 1) := by decide +kernel
theorem dX6_workThrough_47 : decode cX6_workThrough 47 = .ok (.ifCond .ge 93, 3) := by decide +kernel
theorem dX6_workThrough_50 : decode cX6_workThrough 50 = .ok (.aload_n 0, 1) := by decide +kernel
theorem dX6_workThrough_51 : decode cX6_workThrough 51 = .ok (.getfield 15, 3) := by decide +kernel
theorem dX6_workThrough_54 : decode cX6_workThrough 54 = .ok (.aload_n 0, 1) := by decide +kernel
theorem dX6_workThrough_55 : decode cX6_workThrough 55 = .ok (.getfield 46, 3) := by decide +kernel
theorem dX6_workThrough_58 : decode cX6_workThrough 58 = .ok (.iaload, 1) := by decide +kernel
theorem dX6_workThrough_59 : decode cX6_workThrough 59 = .ok (.istore 7, 2) := by decide +kernel
theorem dX6_workThrough_61 : decode cX6_workThrough 61 = .ok (.aload_n 1, 1) := by decide +kernel
theorem dX6_workThrough_62 : decode cX6_workThrough 62 = .ok (.getfield 120, 3) := by decide +kernel
theorem dX6_workThrough_65 : decode cX6_workThrough 65 = .ok (.iload 7, 2) := by decide +kernel
theorem dX6_workThrough_67 : decode cX6_workThrough 67 = .ok (.iaload, 1) := by decide +kernel
theorem dX6_workThrough_68 : decode cX6_workThrough 68 = .ok (.istore 8, 2) := by decide +kernel
theorem dX6_workThrough_70 : decode cX6_workThrough 70 = .ok (.iload 8, 2) := by decide +kernel
theorem dX6_workThrough_72 : decode cX6_workThrough 72 = .ok (.aload_n 1, 1) := by decide +kernel
theorem dX6_workThrough_73 : decode cX6_workThrough 73 = .ok (.getfield 120, 3) := by decide +kernel
theorem dX6_workThrough_76 : decode cX6_workThrough 76 = .ok (.iload 7, 2) := by decide +kernel
theorem dX6_workThrough_78 : decode cX6_workThrough 78 = .ok (.iconst 1, 1) := by decide +kernel
theorem dX6_workThrough_79 : decode cX6_workThrough 79 = .ok (.iadd, 1) := by decide +kernel
theorem dX6_workThrough_80 : decode cX6_workThrough 80 = .ok (.iaload, 1) := by decide +kernel
theorem dX6_workThrough_81 : decode cX6_workThrough 81 = .ok (.if_icmp .ge 31, 3) := by decide +kernel
theorem dX6_workThrough_84 : decode cX6_workThrough 84 = .ok (.aload_n 0, 1) := by decide +kernel
theorem dX6_workThrough_85 : decode cX6_workThrough 85 = .ok (.getfield 30, 3) := by decide +kernel
theorem dX6_workThrough_88 : decode cX6_workThrough 88 = .ok (.aload_n 1, 1) := by decide +kernel
theorem dX6_workThrough_89 : decode cX6_workThrough 89 = .ok (.getfield 123, 3) := by decide +kernel
theorem dX6_workThrough_92 : decode cX6_workThrough 92 = .ok (.iload 8, 2) := by decide +kernel
theorem dX6_workThrough_94 : decode cX6_workThrough 94 = .ok (.iaload, 1) := by decide +kernel
theorem dX6_workThrough_95 : decode cX6_workThrough 95 = .ok (.dup2, 1) := by decide +kernel
theorem dX6_workThrough_96 : decode cX6_workThrough 96 = .ok (.iaload, 1) := by decide +kernel
theorem dX6_workThrough_97 : decode cX6_workThrough 97 = .ok (.aload_n 1, 1) := by decide +kernel
theorem dX6_workThrough_98 : decode cX6_workThrough 98 = .ok (.getfield 109, 3) := by decide +kernel
theorem dX6_workThrough_101 : decode cX6_workThrough 101 = .ok (.iload 7, 2) := by decide +kernel
theorem dX6_workThrough_103 : decode cX6_workThrough 103 = .ok (.iaload, 1) := by decide +kernel
theorem dX6_workThrough_104 : decode cX6_workThrough 104 = .ok (.iadd, 1) := by decide +kernel
theorem dX6_workThrough_105 : decode cX6_workThrough 105 = .ok (.iastore, 1) := by decide +kernel
theorem dX6_workThrough_106 : decode cX6_workThrough 106 = .ok (.iinc 8 1, 3) := by decide +kernel
theorem dX6_workThrough_109 : decode cX6_workThrough 109 = .ok (.goto (-39), 3) := by decide +kernel
theorem dX6_workThrough_112 : decode cX6_workThrough 112 = .ok (.aload_n 0, 1) := by decide +kernel
theorem dX6_workThrough_113 : decode cX6_workThrough 113 = .ok (.dup, 1) := by decide +kernel
theorem dX6_workThrough_114 : decode cX6_workThrough 114 = .ok (.getfield 49, 3) := by decide +kernel
theorem dX6_workThrough_117 : decode cX6_workThrough 117 = .ok (.aload_n 1, 1) := by decide +kernel
theorem dX6_workThrough_118 : decode cX6_workThrough 118 = .ok (.iload 7, 2) := by decide +kernel
theorem dX6_workThrough_120 : decode cX6_workThrough 120 = .ok (.invokevirtual 112, 3) := by decide +kernel
theorem dX6_workThrough_123 : decode cX6_workThrough 123 = .ok (.iadd, 1) := by decide +kernel
theorem dX6_workThrough_124 : decode cX6_workThrough 124 = .ok (.putfield 49, 3) := by decide +kernel
theorem dX6_workThrough_127 : decode cX6_workThrough 127 = .ok (.aload_n 0, 1) := by decide +kernel
theorem dX6_workThrough_128 : decode cX6_workThrough 128 = .ok (.dup, 1) := by decide +kernel
theorem dX6_workThrough_129 : decode cX6_workThrough 129 = .ok (.getfield 46, 3) := by decide +kernel
theorem dX6_workThrough_132 : decode cX6_workThrough 132 = .ok (.iconst 1, 1) := by decide +kernel
theorem dX6_workThrough_133 : decode cX6_workThrough 133 = .ok (.iadd, 1) := by decide +kernel
theorem dX6_workThrough_134 : decode cX6_workThrough 134 = .ok (.putfield 46, 3) := by decide +kernel
theorem dX6_workThrough_137 : decode cX6_workThrough 137 = .ok (.goto (-119), 3) := by decide +kernel
theorem dX6_workThrough_140 : decode cX6_workThrough 140 = .ok (.aload_n 0, 1) := by decide +kernel
theorem dX6_workThrough_141 : decode cX6_workThrough 141 = .ok (.aload_n 0, 1) := by decide +kernel
theorem dX6_workThrough_142 : decode cX6_workThrough 142 = .ok (.getfield 46, 3) := by decide +kernel
theorem dX6_workThrough_145 : decode cX6_workThrough 145 = .ok (.aload_n 0, 1) := by decide +kernel
theorem dX6_workThrough_146 : decode cX6_workThrough 146 = .ok (.getfield 43, 3) := by decide +kernel
theorem dX6_workThrough_149 : decode cX6_workThrough 149 = .ok (.if_icmp .ne 7, 3) := by decide +kernel
theorem dX6_workThrough_152 : decode cX6_workThrough 152 = .ok (.iconst 0, 1) := by decide +kernel
theorem dX6_workThrough_153 : decode cX6_workThrough 153 = .ok (.goto 16, 3) := by decide +kernel
theorem dX6_workThrough_156 : decode cX6_workThrough 156 = .ok (.aload_n 0, 1) := by decide +kernel
theorem dX6_workThrough_157 : decode cX6_workThrough 157 = .ok (.getfield 49, 3) := by decide +kernel
theorem dX6_workThrough_160 : decode cX6_workThrough 160 = .ok (.iload_n 2, 1) := by decide +kernel
theorem dX6_workThrough_161 : decode cX6_workThrough 161 = .ok (.if_icmp .lt 7, 3) := by decide +kernel
theorem dX6_workThrough_164 : decode cX6_workThrough 164 = .ok (.iconst 1, 1) := by decide +kernel
theorem dX6_workThrough_165 : decode cX6_workThrough 165 = .ok (.goto 4, 3) := by decide +kernel
theorem dX6_workThrough_168 : decode cX6_workThrough 168 = .ok (.iconst 2, 1) := by decide +kernel
theorem dX6_workThrough_169 : decode cX6_workThrough 169 = .ok (.putfield 55, 3) := by decide +kernel
theorem dX6_workThrough_172 : decode cX6_workThrough 172 = .ok (.return_, 1) := by decide +kernel
theorem dX6_rank_0 : decode cX6_rank 0 = .ok (.iconst 0, 1) := by decide +kernel
theorem dX6_rank_1 : decode cX6_rank 1 = .ok (.istore_n 2, 1) := by decide +kernel
theorem dX6_rank_2 : decode cX6_rank 2 = .ok (.iconst 0, 1) := by decide +kernel
theorem dX6_rank_3 : decode cX6_rank 3 = .ok (.istore_n 3, 1) := by decide +kernel
theorem dX6_rank_4 : decode cX6_rank 4 = .ok (.iload_n 3, 1) := by decide +kernel
theorem dX6_rank_5 : decode cX6_rank 5 = .ok (.bipush 40, 2) := by decide +kernel
theorem dX6_rank_7 : decode cX6_rank 7 = .ok (.if_icmp .ge 82, 3) := by decide +kernel
theorem dX6_rank_10 : decode cX6_rank 10 = .ok (.aload_n 0, 1) := by decide +kernel
theorem dX6_rank_11 : decode cX6_rank 11 = .ok (.getfield 30, 3) := by decide +kernel
theorem dX6_rank_14 : decode cX6_rank 14 = .ok (.iload_n 3, 1) := by decide +kernel
theorem dX6_rank_15 : decode cX6_rank 15 = .ok (.iaload, 1) := by decide +kernel
theorem dX6_rank_16 : decode cX6_rank 16 = .ok (.ifCond .le 67, 3) := by decide +kernel
theorem dX6_rank_19 : decode cX6_rank 19 = .ok (.iload_n 2, 1) := by decide +kernel
theorem dX6_rank_20 : decode cX6_rank 20 = .ok (.istore 4, 2) := by decide +kernel
theorem dX6_rank_22 : decode cX6_rank 22 = .ok (.iload 4, 2) := by decide +kernel
theorem dX6_rank_24 : decode cX6_rank 24 = .ok (.ifCond .le 48, 3) := by decide +kernel
theorem dX6_rank_27 : decode cX6_rank 27 = .ok (.aload_n 0, 1) := by decide +kernel
theorem dX6_rank_28 : decode cX6_rank 28 = .ok (.getfield 30, 3) := by decide +kernel
theorem dX6_rank_31 : decode cX6_rank 31 = .ok (.aload_n 0, 1) := by decide +kernel
theorem dX6_rank_32 : decode cX6_rank 32 = .ok (.getfield 33, 3) := by decide +kernel
theorem dX6_rank_35 : decode cX6_rank 35 = .ok (.iload 4, 2) := by decide +kernel
theorem dX6_rank_37 : decode cX6_rank 37 = .ok (.iconst 1, 1) := by decide +kernel
theorem dX6_rank_38 : decode cX6_rank 38 = .ok (.isub, 1) := by decide +kernel
theorem dX6_rank_39 : decode cX6_rank 39 = .ok (.iaload, 1) := by decide +kernel
theorem dX6_rank_40 : decode cX6_rank 40 = .ok (.iaload, 1) := by decide +kernel
theorem dX6_rank_41 : decode cX6_rank 41 = .ok (.aload_n 0, 1) := by decide +kernel
theorem dX6_rank_42 : decode cX6_rank 42 = .ok (.getfield 30, 3) := by decide +kernel
theorem dX6_rank_45 : decode cX6_rank 45 = .ok (.iload_n 3, 1) := by decide +kernel
theorem dX6_rank_46 : decode cX6_rank 46 = .ok (.iaload, 1) := by decide +kernel
theorem dX6_rank_47 : decode cX6_rank 47 = .ok (.if_icmp .ge 25, 3) := by decide +kernel
theorem dX6_rank_50 : decode cX6_rank 50 = .ok (.aload_n 0, 1) := by decide +kernel
theorem dX6_rank_51 : decode cX6_rank 51 = .ok (.getfield 33, 3) := by decide +kernel
theorem dX6_rank_54 : decode cX6_rank 54 = .ok (.iload 4, 2) := by decide +kernel
theorem dX6_rank_56 : decode cX6_rank 56 = .ok (.aload_n 0, 1) := by decide +kernel
theorem dX6_rank_57 : decode cX6_rank 57 = .ok (.getfield 33, 3) := by decide +kernel
theorem dX6_rank_60 : decode cX6_rank 60 = .ok (.iload 4, 2) := by decide +kernel
theorem dX6_rank_62 : decode cX6_rank 62 = .ok (.iconst 1, 1) := by decide +kernel
theorem dX6_rank_63 : decode cX6_rank 63 = .ok (.isub, 1) := by decide +kernel
theorem dX6_rank_64 : decode cX6_rank 64 = .ok (.iaload, 1) := by decide +kernel
theorem dX6_rank_65 : decode cX6_rank 65 = .ok (.iastore, 1) := by decide +kernel
theorem dX6_rank_66 : decode cX6_rank 66 = .ok (.iinc 4 (-1), 3) := by decide +kernel
theorem dX6_rank_69 : decode cX6_rank 69 = .ok (.goto (-47), 3) := by decide +kernel
theorem dX6_rank_72 : decode cX6_rank 72 = .ok (.aload_n 0, 1) := by decide +kernel
theorem dX6_rank_73 : decode cX6_rank 73 = .ok (.getfield 33, 3) := by decide +kernel
theorem dX6_rank_76 : decode cX6_rank 76 = .ok (.iload 4, 2) := by decide +kernel
theorem dX6_rank_78 : decode cX6_rank 78 = .ok (.iload_n 3, 1) := by decide +kernel
theorem dX6_rank_79 : decode cX6_rank 79 = .ok (.iastore, 1) := by decide +kernel
theorem dX6_rank_80 : decode cX6_rank 80 = .ok (.iinc 2 1, 3) := by decide +kernel
theorem dX6_rank_83 : decode cX6_rank 83 = .ok (.iinc 3 1, 3) := by decide +kernel
theorem dX6_rank_86 : decode cX6_rank 86 = .ok (.goto (-82), 3) := by decide +kernel
theorem dX6_rank_89 : decode cX6_rank 89 = .ok (.aload_n 0, 1) := by decide +kernel
theorem dX6_rank_90 : decode cX6_rank 90 = .ok (.iload_n 2, 1) := by decide +kernel
theorem dX6_rank_91 : decode cX6_rank 91 = .ok (.iload_n 1, 1) := by decide +kernel
theorem dX6_rank_92 : decode cX6_rank 92 = .ok (.invokestatic 74, 3) := by decide +kernel
theorem dX6_rank_95 : decode cX6_rank 95 = .ok (.putfield 58, 3) := by decide +kernel
theorem dX6_rank_98 : decode cX6_rank 98 = .ok (.return_, 1) := by decide +kernel
theorem dX6_isDone_0 : decode cX6_isDone 0 = .ok (.iconst 0, 1) := by decide +kernel
theorem dX6_isDone_1 : decode cX6_isDone 1 = .ok (.istore_n 3, 1) := by decide +kernel
theorem dX6_isDone_2 : decode cX6_isDone 2 = .ok (.iload_n 3, 1) := by decide +kernel
theorem dX6_isDone_3 : decode cX6_isDone 3 = .ok (.aload_n 0, 1) := by decide +kernel
theorem dX6_isDone_4 : decode cX6_isDone 4 = .ok (.getfield 46, 3) := by decide +kernel
theorem dX6_isDone_7 : decode cX6_isDone 7 = .ok (.if_icmp .ge 31, 3) := by decide +kernel
theorem dX6_isDone_10 : decode cX6_isDone 10 = .ok (.aload_n 0, 1) := by decide +kernel
theorem dX6_isDone_11 : decode cX6_isDone 11 = .ok (.getfield 21, 3) := by decide +kernel
theorem dX6_isDone_14 : decode cX6_isDone 14 = .ok (.iload_n 3, 1) := by decide +kernel
theorem dX6_isDone_15 : decode cX6_isDone 15 = .ok (.iaload, 1) := by decide +kernel
theorem dX6_isDone_16 : decode cX6_isDone 16 = .ok (.iload_n 1, 1) := by decide +kernel
theorem dX6_isDone_17 : decode cX6_isDone 17 = .ok (.if_icmp .ne 15, 3) := by decide +kernel
theorem dX6_isDone_20 : decode cX6_isDone 20 = .ok (.aload_n 0, 1) := by decide +kernel
theorem dX6_isDone_21 : decode cX6_isDone 21 = .ok (.getfield 24, 3) := by decide +kernel
theorem dX6_isDone_24 : decode cX6_isDone 24 = .ok (.iload_n 3, 1) := by decide +kernel
theorem dX6_isDone_25 : decode cX6_isDone 25 = .ok (.iaload, 1) := by decide +kernel
theorem dX6_isDone_26 : decode cX6_isDone 26 = .ok (.iload_n 2, 1) := by decide +kernel
theorem dX6_isDone_27 : decode cX6_isDone 27 = .ok (.if_icmp .ne 5, 3) := by decide +kernel
theorem dX6_isDone_30 : decode cX6_isDone 30 = .ok (.iconst 1, 1) := by decide +kernel
theorem dX6_isDone_31 : decode cX6_isDone 31 = .ok (.ireturn, 1) := by decide +kernel
theorem dX6_isDone_32 : decode cX6_isDone 32 = .ok (.iinc 3 1, 3) := by decide +kernel
theorem dX6_isDone_35 : decode cX6_isDone 35 = .ok (.goto (-33), 3) := by decide +kernel
theorem dX6_isDone_38 : decode cX6_isDone 38 = .ok (.iconst 0, 1) := by decide +kernel
theorem dX6_isDone_39 : decode cX6_isDone 39 = .ok (.ireturn, 1) := by decide +kernel
theorem dX7_init_0 : decode cX7_init 0 = .ok (.aload_n 0, 1) := by decide +kernel
theorem dX7_init_1 : decode cX7_init 1 = .ok (.invokespecial 3, 3) := by decide +kernel
theorem dX7_init_4 : decode cX7_init 4 = .ok (.aload_n 0, 1) := by decide +kernel
theorem dX7_init_5 : decode cX7_init 5 = .ok (.sipush 1500, 3) := by decide +kernel
theorem dX7_init_8 : decode cX7_init 8 = .ok (.newarray .long, 2) := by decide +kernel
theorem dX7_init_10 : decode cX7_init 10 = .ok (.putfield 11, 3) := by decide +kernel
theorem dX7_init_13 : decode cX7_init 13 = .ok (.aload_n 0, 1) := by decide +kernel
theorem dX7_init_14 : decode cX7_init 14 = .ok (.sipush 1500, 3) := by decide +kernel
theorem dX7_init_17 : decode cX7_init 17 = .ok (.newarray .int, 2) := by decide +kernel
theorem dX7_init_19 : decode cX7_init 19 = .ok (.putfield 15, 3) := by decide +kernel
theorem dX7_init_22 : decode cX7_init 22 = .ok (.aload_n 0, 1) := by decide +kernel
theorem dX7_init_23 : decode cX7_init 23 = .ok (.iconst 0, 1) := by decide +kernel
theorem dX7_init_24 : decode cX7_init 24 = .ok (.putfield 19, 3) := by decide +kernel
theorem dX7_init_27 : decode cX7_init 27 = .ok (.aload_n 0, 1) := by decide +kernel
theorem dX7_init_28 : decode cX7_init 28 = .ok (.iconst 0, 1) := by decide +kernel
theorem dX7_init_29 : decode cX7_init 29 = .ok (.putfield 23, 3) := by decide +kernel
theorem dX7_init_32 : decode cX7_init 32 = .ok (.return_, 1) := by decide +kernel
theorem dX7_read_0 : decode cX7_read 0 = .ok (.aload_n 0, 1) := by decide +kernel
theorem dX7_read_1 : decode cX7_read 1 = .ok (.iconst 0, 1) := by decide +kernel
theorem dX7_read_2 : decode cX7_read 2 = .ok (.putfield 19, 3) := by decide +kernel
theorem dX7_read_5 : decode cX7_read 5 = .ok (.aload_n 0, 1) := by decide +kernel
theorem dX7_read_6 : decode cX7_read 6 = .ok (.iconst 0, 1) := by decide +kernel
theorem dX7_read_7 : decode cX7_read 7 = .ok (.putfield 23, 3) := by decide +kernel
theorem dX7_read_10 : decode cX7_read 10 = .ok (.lconst 0, 1) := by decide +kernel
theorem dX7_read_11 : decode cX7_read 11 = .ok (.lstore_n 2, 1) := by decide +kernel
theorem dX7_read_12 : decode cX7_read 12 = .ok (.iconst 0, 1) := by decide +kernel
theorem dX7_read_13 : decode cX7_read 13 = .ok (.istore 4, 2) := by decide +kernel
theorem dX7_read_15 : decode cX7_read 15 = .ok (.iconst 0, 1) := by decide +kernel
theorem dX7_read_16 : decode cX7_read 16 = .ok (.istore 5, 2) := by decide +kernel
theorem dX7_read_18 : decode cX7_read 18 = .ok (.iload 5, 2) := by decide +kernel
theorem dX7_read_20 : decode cX7_read 20 = .ok (.aload_n 1, 1) := by decide +kernel
theorem dX7_read_21 : decode cX7_read 21 = .ok (.invokevirtual 26, 3) := by decide +kernel
theorem dX7_read_24 : decode cX7_read 24 = .ok (.if_icmp .gt 60, 3) := by decide +kernel
theorem dX7_read_27 : decode cX7_read 27 = .ok (.aload_n 1, 1) := by decide +kernel
theorem dX7_read_28 : decode cX7_read 28 = .ok (.iload 5, 2) := by decide +kernel
theorem dX7_read_30 : decode cX7_read 30 = .ok (.invokevirtual 32, 3) := by decide +kernel
theorem dX7_read_33 : decode cX7_read 33 = .ok (.invokestatic 36, 3) := by decide +kernel
theorem dX7_read_36 : decode cX7_read 36 = .ok (.istore 6, 2) := by decide +kernel
theorem dX7_read_38 : decode cX7_read 38 = .ok (.iload 6, 2) := by decide +kernel
theorem dX7_read_40 : decode cX7_read 40 = .ok (.ifCond .ne 18, 3) := by decide +kernel
theorem dX7_read_43 : decode cX7_read 43 = .ok (.aload_n 0, 1) := by decide +kernel
theorem dX7_read_44 : decode cX7_read 44 = .ok (.lload_n 2, 1) := by decide +kernel
theorem dX7_read_45 : decode cX7_read 45 = .ok (.iload 4, 2) := by decide +kernel
theorem dX7_read_47 : decode cX7_read 47 = .ok (.invokevirtual 39, 3) := by decide +kernel
theorem dX7_read_50 : decode cX7_read 50 = .ok (.lconst 0, 1) := by decide +kernel
theorem dX7_read_51 : decode cX7_read 51 = .ok (.lstore_n 2, 1) := by decide +kernel
theorem dX7_read_52 : decode cX7_read 52 = .ok (.iconst 0, 1) := by decide +kernel
theorem dX7_read_53 : decode cX7_read 53 = .ok (.istore 4, 2) := by decide +kernel
theorem dX7_read_55 : decode cX7_read 55 = .ok (.goto 23, 3) := by decide +kernel
theorem dX7_read_58 : decode cX7_read 58 = .ok (.iload 4, 2) := by decide +kernel
theorem dX7_read_60 : decode cX7_read 60 = .ok (.bipush 8, 2) := by decide +kernel
theorem dX7_read_62 : decode cX7_read 62 = .ok (.if_icmp .ge 16, 3) := by decide +kernel
theorem dX7_read_65 : decode cX7_read 65 = .ok (.lload_n 2, 1) := by decide +kernel
theorem dX7_read_66 : decode cX7_read 66 = .ok (.iload 6, 2) := by decide +kernel
theorem dX7_read_68 : decode cX7_read 68 = .ok (.iload 4, 2) := by decide +kernel
theorem dX7_read_70 : decode cX7_read 70 = .ok (.invokestatic 43, 3) := by decide +kernel
theorem dX7_read_73 : decode cX7_read 73 = .ok (.lor, 1) := by decide +kernel
theorem dX7_read_74 : decode cX7_read 74 = .ok (.lstore_n 2, 1) := by decide +kernel
theorem dX7_read_75 : decode cX7_read 75 = .ok (.iinc 4 1, 3) := by decide +kernel
theorem dX7_read_78 : decode cX7_read 78 = .ok (.iinc 5 1, 3) := by decide +kernel
theorem dX7_read_81 : decode cX7_read 81 = .ok (.goto (-63), 3) := by decide +kernel
theorem dX7_read_84 : decode cX7_read 84 = .ok (.return_, 1) := by decide +kernel
theorem dX7_has_0 : decode cX7_has 0 = .ok (.aload_n 0, 1) := by decide +kernel
theorem dX7_has_1 : decode cX7_has 1 = .ok (.lload_n 1, 1) := by decide +kernel
theorem dX7_has_2 : decode cX7_has 2 = .ok (.invokevirtual 47, 3) := by decide +kernel
theorem dX7_has_5 : decode cX7_has 5 = .ok (.aload_n 0, 1) := by decide +kernel
theorem dX7_has_6 : decode cX7_has 6 = .ok (.getfield 19, 3) := by decide +kernel
theorem dX7_has_9 : decode cX7_has 9 = .ok (.if_icmp .ge 7, 3) := by decide +kernel
theorem dX7_has_12 : decode cX7_has 12 = .ok (.iconst 1, 1) := by decide +kernel
theorem dX7_has_13 : decode cX7_has 13 = .ok (.goto 4, 3) := by decide +kernel
theorem dX7_has_16 : decode cX7_has 16 = .ok (.iconst 0, 1) := by decide +kernel
theorem dX7_has_17 : decode cX7_has 17 = .ok (.ireturn, 1) := by decide +kernel
theorem dX7_take_0 : decode cX7_take 0 = .ok (.iload_n 3, 1) := by decide +kernel
theorem dX7_take_1 : decode cX7_take 1 = .ok (.ifCond .ne 4, 3) := by decide +kernel
theorem dX7_take_4 : decode cX7_take 4 = .ok (.return_, 1) := by decide +kernel
theorem dX7_take_5 : decode cX7_take 5 = .ok (.lload_n 1, 1) := by decide +kernel
theorem dX7_take_6 : decode cX7_take 6 = .ok (.iload_n 3, 1) := by decide +kernel
theorem dX7_take_7 : decode cX7_take 7 = .ok (.invokestatic 51, 3) := by decide +kernel
theorem dX7_take_10 : decode cX7_take 10 = .ok (.lstore 4, 2) := by decide +kernel
theorem dX7_take_12 : decode cX7_take 12 = .ok (.aload_n 0, 1) := by decide +kernel
theorem dX7_take_13 : decode cX7_take 13 = .ok (.lload 4, 2) := by decide +kernel
theorem dX7_take_15 : decode cX7_take 15 = .ok (.invokevirtual 47, 3) := by decide +kernel
theorem dX7_take_18 : decode cX7_take 18 = .ok (.istore 6, 2) := by decide +kernel
theorem dX7_take_20 : decode cX7_take 20 = .ok (.iload 6, 2) := by decide +kernel
theorem dX7_take_22 : decode cX7_take 22 = .ok (.aload_n 0, 1) := by decide +kernel
theorem dX7_take_23 : decode cX7_take 23 = .ok (.getfield 19, 3) := by decide +kernel
theorem dX7_take_26 : decode cX7_take 26 = .ok (.if_icmp .ne 40, 3) := by decide +kernel
theorem dX7_take_29 : decode cX7_take 29 = .ok (.aload_n 0, 1) := by decide +kernel
theorem dX7_take_30 : decode cX7_take 30 = .ok (.getfield 19, 3) := by decide +kernel
theorem dX7_take_33 : decode cX7_take 33 = .ok (.sipush 1500, 3) := by decide +kernel
theorem dX7_take_36 : decode cX7_take 36 = .ok (.if_icmp .ge 30, 3) := by decide +kernel
theorem dX7_take_39 : decode cX7_take 39 = .ok (.aload_n 0, 1) := by decide +kernel
theorem dX7_take_40 : decode cX7_take 40 = .ok (.getfield 11, 3) := by decide +kernel
theorem dX7_take_43 : decode cX7_take 43 = .ok (.iload 6, 2) := by decide +kernel
theorem dX7_take_45 : decode cX7_take 45 = .ok (.lload 4, 2) := by decide +kernel
theorem dX7_take_47 : decode cX7_take 47 = .ok (.lastore, 1) := by decide +kernel
theorem dX7_take_48 : decode cX7_take 48 = .ok (.aload_n 0, 1) := by decide +kernel
theorem dX7_take_49 : decode cX7_take 49 = .ok (.getfield 15, 3) := by decide +kernel
theorem dX7_take_52 : decode cX7_take 52 = .ok (.iload 6, 2) := by decide +kernel
theorem dX7_take_54 : decode cX7_take 54 = .ok (.iconst 0, 1) := by decide +kernel
theorem dX7_take_55 : decode cX7_take 55 = .ok (.iastore, 1) := by decide +kernel
