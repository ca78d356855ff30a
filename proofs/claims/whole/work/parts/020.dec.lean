theorem dX0_init_0 : decode cX0_init 0 = .ok (.aload_n 0, 1) := by decide +kernel
theorem dX0_init_1 : decode cX0_init 1 = .ok (.invokespecial 1, 3) := by decide +kernel
theorem dX0_init_4 : decode cX0_init 4 = .ok (.aload_n 0, 1) := by decide +kernel
theorem dX0_init_5 : decode cX0_init 5 = .ok (.iconst 0, 1) := by decide +kernel
theorem dX0_init_6 : decode cX0_init 6 = .ok (.putfield 7, 3) := by decide +kernel
theorem dX0_init_9 : decode cX0_init 9 = .ok (.aload_n 0, 1) := by decide +kernel
theorem dX0_init_10 : decode cX0_init 10 = .ok (.iconst 0, 1) := by decide +kernel
theorem dX0_init_11 : decode cX0_init 11 = .ok (.putfield 13, 3) := by decide +kernel
theorem dX0_init_14 : decode cX0_init 14 = .ok (.aload_n 0, 1) := by decide +kernel
theorem dX0_init_15 : decode cX0_init 15 = .ok (.iload_n 1, 1) := by decide +kernel
theorem dX0_init_16 : decode cX0_init 16 = .ok (.newarray .byte, 2) := by decide +kernel
theorem dX0_init_18 : decode cX0_init 18 = .ok (.putfield 16, 3) := by decide +kernel
theorem dX0_init_21 : decode cX0_init 21 = .ok (.return_, 1) := by decide +kernel
theorem dX0_size_0 : decode cX0_size 0 = .ok (.aload_n 0, 1) := by decide +kernel
theorem dX0_size_1 : decode cX0_size 1 = .ok (.getfield 7, 3) := by decide +kernel
theorem dX0_size_4 : decode cX0_size 4 = .ok (.ireturn, 1) := by decide +kernel
theorem dX0_at_0 : decode cX0_at 0 = .ok (.iload_n 1, 1) := by decide +kernel
theorem dX0_at_1 : decode cX0_at 1 = .ok (.ifCond .lt 24, 3) := by decide +kernel
theorem dX0_at_4 : decode cX0_at 4 = .ok (.iload_n 1, 1) := by decide +kernel
theorem dX0_at_5 : decode cX0_at 5 = .ok (.aload_n 0, 1) := by decide +kernel
theorem dX0_at_6 : decode cX0_at 6 = .ok (.getfield 7, 3) := by decide +kernel
theorem dX0_at_9 : decode cX0_at 9 = .ok (.if_icmp .ge 16, 3) := by decide +kernel
theorem dX0_at_12 : decode cX0_at 12 = .ok (.aload_n 0, 1) := by decide +kernel
theorem dX0_at_13 : decode cX0_at 13 = .ok (.getfield 16, 3) := by decide +kernel
theorem dX0_at_16 : decode cX0_at 16 = .ok (.iload_n 1, 1) := by decide +kernel
theorem dX0_at_17 : decode cX0_at 17 = .ok (.baload, 1) := by decide +kernel
theorem dX0_at_18 : decode cX0_at 18 = .ok (.sipush 255, 3) := by decide +kernel
theorem dX0_at_21 : decode cX0_at 21 = .ok (.iand, 1) := by decide +kernel
theorem dX0_at_22 : decode cX0_at 22 = .ok (.goto 4, 3) := by decide +kernel
theorem dX0_at_25 : decode cX0_at 25 = .ok (.iconst 0, 1) := by decide +kernel
theorem dX0_at_26 : decode cX0_at 26 = .ok (.ireturn, 1) := by decide +kernel
theorem dX0_set_0 : decode cX0_set 0 = .ok (.iload_n 1, 1) := by decide +kernel
theorem dX0_set_1 : decode cX0_set 1 = .ok (.ifCond .lt 19, 3) := by decide +kernel
theorem dX0_set_4 : decode cX0_set 4 = .ok (.iload_n 1, 1) := by decide +kernel
theorem dX0_set_5 : decode cX0_set 5 = .ok (.aload_n 0, 1) := by decide +kernel
theorem dX0_set_6 : decode cX0_set 6 = .ok (.getfield 7, 3) := by decide +kernel
theorem dX0_set_9 : decode cX0_set 9 = .ok (.if_icmp .ge 11, 3) := by decide +kernel
theorem dX0_set_12 : decode cX0_set 12 = .ok (.aload_n 0, 1) := by decide +kernel
theorem dX0_set_13 : decode cX0_set 13 = .ok (.getfield 16, 3) := by decide +kernel
theorem dX0_set_16 : decode cX0_set 16 = .ok (.iload_n 1, 1) := by decide +kernel
theorem dX0_set_17 : decode cX0_set 17 = .ok (.iload_n 2, 1) := by decide +kernel
theorem dX0_set_18 : decode cX0_set 18 = .ok (.i2b, 1) := by decide +kernel
theorem dX0_set_19 : decode cX0_set 19 = .ok (.bastore, 1) := by decide +kernel
theorem dX0_set_20 : decode cX0_set 20 = .ok (.return_, 1) := by decide +kernel
theorem dX0_put_0 : decode cX0_put 0 = .ok (.aload_n 0, 1) := by decide +kernel
theorem dX0_put_1 : decode cX0_put 1 = .ok (.getfield 7, 3) := by decide +kernel
theorem dX0_put_4 : decode cX0_put 4 = .ok (.aload_n 0, 1) := by decide +kernel
theorem dX0_put_5 : decode cX0_put 5 = .ok (.getfield 16, 3) := by decide +kernel
theorem dX0_put_8 : decode cX0_put 8 = .ok (.arraylength, 1) := by decide +kernel
theorem dX0_put_9 : decode cX0_put 9 = .ok (.if_icmp .ge 24, 3) := by decide +kernel
theorem dX0_put_12 : decode cX0_put 12 = .ok (.aload_n 0, 1) := by decide +kernel
theorem dX0_put_13 : decode cX0_put 13 = .ok (.getfield 16, 3) := by decide +kernel
theorem dX0_put_16 : decode cX0_put 16 = .ok (.aload_n 0, 1) := by decide +kernel
theorem dX0_put_17 : decode cX0_put 17 = .ok (.getfield 7, 3) := by decide +kernel
theorem dX0_put_20 : decode cX0_put 20 = .ok (.iload_n 1, 1) := by decide +kernel
theorem dX0_put_21 : decode cX0_put 21 = .ok (.i2b, 1) := by decide +kernel
theorem dX0_put_22 : decode cX0_put 22 = .ok (.bastore, 1) := by decide +kernel
theorem dX0_put_23 : decode cX0_put 23 = .ok (.aload_n 0, 1) := by decide +kernel
theorem dX0_put_24 : decode cX0_put 24 = .ok (.dup, 1) := by decide +kernel
theorem dX0_put_25 : decode cX0_put 25 = .ok (.getfield 7, 3) := by decide +kernel
theorem dX0_put_28 : decode cX0_put 28 = .ok (.iconst 1, 1) := by decide +kernel
theorem dX0_put_29 : decode cX0_put 29 = .ok (.iadd, 1) := by decide +kernel
theorem dX0_put_30 : decode cX0_put 30 = .ok (.putfield 7, 3) := by decide +kernel
theorem dX0_put_33 : decode cX0_put 33 = .ok (.return_, 1) := by decide +kernel
theorem dX0_putEight_0 : decode cX0_putEight 0 = .ok (.iconst 0, 1) := by decide +kernel
theorem dX0_putEight_1 : decode cX0_putEight 1 = .ok (.istore_n 3, 1) := by decide +kernel
theorem dX0_putEight_2 : decode cX0_putEight 2 = .ok (.iload_n 3, 1) := by decide +kernel
theorem dX0_putEight_3 : decode cX0_putEight 3 = .ok (.bipush 8, 2) := by decide +kernel
theorem dX0_putEight_5 : decode cX0_putEight 5 = .ok (.if_icmp .ge 20, 3) := by decide +kernel
theorem dX0_putEight_8 : decode cX0_putEight 8 = .ok (.aload_n 0, 1) := by decide +kernel
theorem dX0_putEight_9 : decode cX0_putEight 9 = .ok (.lload_n 1, 1) := by decide +kernel
theorem dX0_putEight_10 : decode cX0_putEight 10 = .ok (.bipush 8, 2) := by decide +kernel
theorem dX0_putEight_12 : decode cX0_putEight 12 = .ok (.iload_n 3, 1) := by decide +kernel
theorem dX0_putEight_13 : decode cX0_putEight 13 = .ok (.imul, 1) := by decide +kernel
theorem dX0_putEight_14 : decode cX0_putEight 14 = .ok (.lushr, 1) := by decide +kernel
theorem dX0_putEight_15 : decode cX0_putEight 15 = .ok (.l2i, 1) := by decide +kernel
theorem dX0_putEight_16 : decode cX0_putEight 16 = .ok (.invokevirtual 20, 3) := by decide +kernel
theorem dX0_putEight_19 : decode cX0_putEight 19 = .ok (.iinc 3 1, 3) := by decide +kernel
theorem dX0_putEight_22 : decode cX0_putEight 22 = .ok (.goto (-20), 3) := by decide +kernel
theorem dX0_putEight_25 : decode cX0_putEight 25 = .ok (.return_, 1) := by decide +kernel
theorem dX0_eightFrom_0 : decode cX0_eightFrom 0 = .ok (.lconst 0, 1) := by decide +kernel
theorem dX0_eightFrom_1 : decode cX0_eightFrom 1 = .ok (.lstore_n 2, 1) := by decide +kernel
theorem dX0_eightFrom_2 : decode cX0_eightFrom 2 = .ok (.iconst 0, 1) := by decide +kernel
theorem dX0_eightFrom_3 : decode cX0_eightFrom 3 = .ok (.istore 4, 2) := by decide +kernel
theorem dX0_eightFrom_5 : decode cX0_eightFrom 5 = .ok (.iload 4, 2) := by decide +kernel
theorem dX0_eightFrom_7 : decode cX0_eightFrom 7 = .ok (.bipush 8, 2) := by decide +kernel
theorem dX0_eightFrom_9 : decode cX0_eightFrom 9 = .ok (.if_icmp .ge 43, 3) := by decide +kernel
theorem dX0_eightFrom_12 : decode cX0_eightFrom 12 = .ok (.iload_n 1, 1) := by decide +kernel
theorem dX0_eightFrom_13 : decode cX0_eightFrom 13 = .ok (.aload_n 0, 1) := by decide +kernel
theorem dX0_eightFrom_14 : decode cX0_eightFrom 14 = .ok (.getfield 7, 3) := by decide +kernel
theorem dX0_eightFrom_17 : decode cX0_eightFrom 17 = .ok (.iload 4, 2) := by decide +kernel
theorem dX0_eightFrom_19 : decode cX0_eightFrom 19 = .ok (.isub, 1) := by decide +kernel
theorem dX0_eightFrom_20 : decode cX0_eightFrom 20 = .ok (.if_icmp .ge 32, 3) := by decide +kernel
theorem dX0_eightFrom_23 : decode cX0_eightFrom 23 = .ok (.lload_n 2, 1) := by decide +kernel
theorem dX0_eightFrom_24 : decode cX0_eightFrom 24 = .ok (.aload_n 0, 1) := by decide +kernel
theorem dX0_eightFrom_25 : decode cX0_eightFrom 25 = .ok (.getfield 16, 3) := by decide +kernel
theorem dX0_eightFrom_28 : decode cX0_eightFrom 28 = .ok (.iload_n 1, 1) := by decide +kernel
theorem dX0_eightFrom_29 : decode cX0_eightFrom 29 = .ok (.iload 4, 2) := by decide +kernel
theorem dX0_eightFrom_31 : decode cX0_eightFrom 31 = .ok (.iadd, 1) := by decide +kernel
theorem dX0_eightFrom_32 : decode cX0_eightFrom 32 = .ok (.baload, 1) := by decide +kernel
theorem dX0_eightFrom_33 : decode cX0_eightFrom 33 = .ok (.i2l, 1) := by decide +kernel
theorem dX0_eightFrom_34 : decode cX0_eightFrom 34 = .ok (.ldc2_w 24, 3) := by decide +kernel
theorem dX0_eightFrom_37 : decode cX0_eightFrom 37 = .ok (.land, 1) := by decide +kernel
theorem dX0_eightFrom_38 : decode cX0_eightFrom 38 = .ok (.bipush 8, 2) := by decide +kernel
theorem dX0_eightFrom_40 : decode cX0_eightFrom 40 = .ok (.iload 4, 2) := by decide +kernel
theorem dX0_eightFrom_42 : decode cX0_eightFrom 42 = .ok (.imul, 1) := by decide +kernel
theorem dX0_eightFrom_43 : decode cX0_eightFrom 43 = .ok (.lshl, 1) := by decide +kernel
theorem dX0_eightFrom_44 : decode cX0_eightFrom 44 = .ok (.lor, 1) := by decide +kernel
theorem dX0_eightFrom_45 : decode cX0_eightFrom 45 = .ok (.lstore_n 2, 1) := by decide +kernel
theorem dX0_eightFrom_46 : decode cX0_eightFrom 46 = .ok (.iinc 4 1, 3) := by decide +kernel
theorem dX0_eightFrom_49 : decode cX0_eightFrom 49 = .ok (.goto (-44), 3) := by decide +kernel
theorem dX0_eightFrom_52 : decode cX0_eightFrom 52 = .ok (.lload_n 2, 1) := by decide +kernel
theorem dX0_eightFrom_53 : decode cX0_eightFrom 53 = .ok (.lreturn, 1) := by decide +kernel
theorem dX0_shorten_0 : decode cX0_shorten 0 = .ok (.iload_n 1, 1) := by decide +kernel
theorem dX0_shorten_1 : decode cX0_shorten 1 = .ok (.ifCond .lt 11, 3) := by decide +kernel
theorem dX0_shorten_4 : decode cX0_shorten 4 = .ok (.iload_n 1, 1) := by decide +kernel
theorem dX0_shorten_5 : decode cX0_shorten 5 = .ok (.aload_n 0, 1) := by decide +kernel
theorem dX0_shorten_6 : decode cX0_shorten 6 = .ok (.getfield 7, 3) := by decide +kernel
theorem dX0_shorten_9 : decode cX0_shorten 9 = .ok (.if_icmp .le 5, 3) := by decide +kernel
theorem dX0_shorten_12 : decode cX0_shorten 12 = .ok (.iconst 0, 1) := by decide +kernel
theorem dX0_shorten_13 : decode cX0_shorten 13 = .ok (.ireturn, 1) := by decide +kernel
theorem dX0_shorten_14 : decode cX0_shorten 14 = .ok (.aload_n 0, 1) := by decide +kernel
theorem dX0_shorten_15 : decode cX0_shorten 15 = .ok (.iload_n 1, 1) := by decide +kernel
theorem dX0_shorten_16 : decode cX0_shorten 16 = .ok (.putfield 7, 3) := by decide +kernel
theorem dX0_shorten_19 : decode cX0_shorten 19 = .ok (.iconst 1, 1) := by decide +kernel
theorem dX0_shorten_20 : decode cX0_shorten 20 = .ok (.ireturn, 1) := by decide +kernel
theorem dX0_rewind_0 : decode cX0_rewind 0 = .ok (.aload_n 0, 1) := by decide +kernel
theorem dX0_rewind_1 : decode cX0_rewind 1 = .ok (.iconst 0, 1) := by decide +kernel
theorem dX0_rewind_2 : decode cX0_rewind 2 = .ok (.putfield 13, 3) := by decide +kernel
theorem dX0_rewind_5 : decode cX0_rewind 5 = .ok (.return_, 1) := by decide +kernel
theorem dX0_left_0 : decode cX0_left 0 = .ok (.aload_n 0, 1) := by decide +kernel
theorem dX0_left_1 : decode cX0_left 1 = .ok (.getfield 7, 3) := by decide +kernel
theorem dX0_left_4 : decode cX0_left 4 = .ok (.aload_n 0, 1) := by decide +kernel
theorem dX0_left_5 : decode cX0_left 5 = .ok (.getfield 13, 3) := by decide +kernel
theorem dX0_left_8 : decode cX0_left 8 = .ok (.isub, 1) := by decide +kernel
theorem dX0_left_9 : decode cX0_left 9 = .ok (.ireturn, 1) := by decide +kernel
theorem dX0_next_0 : decode cX0_next 0 = .ok (.aload_n 0, 1) := by decide +kernel
theorem dX0_next_1 : decode cX0_next 1 = .ok (.getfield 13, 3) := by decide +kernel
theorem dX0_next_4 : decode cX0_next 4 = .ok (.aload_n 0, 1) := by decide +kernel
theorem dX0_next_5 : decode cX0_next 5 = .ok (.getfield 7, 3) := by decide +kernel
theorem dX0_next_8 : decode cX0_next 8 = .ok (.if_icmp .lt 5, 3) := by decide +kernel
theorem dX0_next_11 : decode cX0_next 11 = .ok (.iconst (-1), 1) := by decide +kernel
theorem dX0_next_12 : decode cX0_next 12 = .ok (.ireturn, 1) := by decide +kernel
theorem dX0_next_13 : decode cX0_next 13 = .ok (.aload_n 0, 1) := by decide +kernel
theorem dX0_next_14 : decode cX0_next 14 = .ok (.dup, 1) := by decide +kernel
theorem dX0_next_15 : decode cX0_next 15 = .ok (.getfield 13, 3) := by decide +kernel
theorem dX0_next_18 : decode cX0_next 18 = .ok (.iconst 1, 1) := by decide +kernel
theorem dX0_next_19 : decode cX0_next 19 = .ok (.iadd, 1) := by decide +kernel
theorem dX0_next_20 : decode cX0_next 20 = .ok (.putfield 13, 3) := by decide +kernel
theorem dX0_next_23 : decode cX0_next 23 = .ok (.aload_n 0, 1) := by decide +kernel
theorem dX0_next_24 : decode cX0_next 24 = .ok (.aload_n 0, 1) := by decide +kernel
theorem dX0_next_25 : decode cX0_next 25 = .ok (.getfield 13, 3) := by decide +kernel
theorem dX0_next_28 : decode cX0_next 28 = .ok (.iconst 1, 1) := by decide +kernel
theorem dX0_next_29 : decode cX0_next 29 = .ok (.isub, 1) := by decide +kernel
theorem dX0_next_30 : decode cX0_next 30 = .ok (.invokevirtual 26, 3) := by decide +kernel
theorem dX0_next_33 : decode cX0_next 33 = .ok (.ireturn, 1) := by decide +kernel
theorem dX0_nextEight_0 : decode cX0_nextEight 0 = .ok (.aload_n 0, 1) := by decide +kernel
theorem dX0_nextEight_1 : decode cX0_nextEight 1 = .ok (.aload_n 0, 1) := by decide +kernel
theorem dX0_nextEight_2 : decode cX0_nextEight 2 = .ok (.getfield 13, 3) := by decide +kernel
theorem dX0_nextEight_5 : decode cX0_nextEight 5 = .ok (.invokevirtual 30, 3) := by decide +kernel
theorem dX0_nextEight_8 : decode cX0_nextEight 8 = .ok (.lstore_n 1, 1) := by decide +kernel
theorem dX0_nextEight_9 : decode cX0_nextEight 9 = .ok (.aload_n 0, 1) := by decide +kernel
theorem dX0_nextEight_10 : decode cX0_nextEight 10 = .ok (.aload_n 0, 1) := by decide +kernel
theorem dX0_nextEight_11 : decode cX0_nextEight 11 = .ok (.getfield 13, 3) := by decide +kernel
theorem dX0_nextEight_14 : decode cX0_nextEight 14 = .ok (.bipush 8, 2) := by decide +kernel
theorem dX0_nextEight_16 : decode cX0_nextEight 16 = .ok (.iadd, 1) := by decide +kernel
theorem dX0_nextEight_17 : decode cX0_nextEight 17 = .ok (.aload_n 0, 1) := by decide +kernel
theorem dX0_nextEight_18 : decode cX0_nextEight 18 = .ok (.getfield 7, 3) := by decide +kernel
theorem dX0_nextEight_21 : decode cX0_nextEight 21 = .ok (.invokestatic 34, 3) := by decide +kernel
theorem dX0_nextEight_24 : decode cX0_nextEight 24 = .ok (.putfield 13, 3) := by decide +kernel
theorem dX0_nextEight_27 : decode cX0_nextEight 27 = .ok (.lload_n 1, 1) := by decide +kernel
theorem dX0_nextEight_28 : decode cX0_nextEight 28 = .ok (.lreturn, 1) := by decide +kernel
theorem dX0_putSum_0 : decode cX0_putSum 0 = .ok (.iconst 1, 1) := by decide +kernel
theorem dX0_putSum_1 : decode cX0_putSum 1 = .ok (.istore_n 1, 1) := by decide +kernel
theorem dX0_putSum_2 : decode cX0_putSum 2 = .ok (.iconst 0, 1) := by decide +kernel
theorem dX0_putSum_3 : decode cX0_putSum 3 = .ok (.istore_n 2, 1) := by decide +kernel
theorem dX0_putSum_4 : decode cX0_putSum 4 = .ok (.iconst 0, 1) := by decide +kernel
theorem dX0_putSum_5 : decode cX0_putSum 5 = .ok (.istore_n 3, 1) := by decide +kernel
theorem dX0_putSum_6 : decode cX0_putSum 6 = .ok (.iload_n 3, 1) := by decide +kernel
theorem dX0_putSum_7 : decode cX0_putSum 7 = .ok (.aload_n 0, 1) := by decide +kernel
theorem dX0_putSum_8 : decode cX0_putSum 8 = .ok (.getfield 7, 3) := by decide +kernel
theorem dX0_putSum_11 : decode cX0_putSum 11 = .ok (.if_icmp .ge 27, 3) := by decide +kernel
theorem dX0_putSum_14 : decode cX0_putSum 14 = .ok (.iload_n 1, 1) := by decide +kernel
theorem dX0_putSum_15 : decode cX0_putSum 15 = .ok (.aload_n 0, 1) := by decide +kernel
theorem dX0_putSum_16 : decode cX0_putSum 16 = .ok (.iload_n 3, 1) := by decide +kernel
theorem dX0_putSum_17 : decode cX0_putSum 17 = .ok (.invokevirtual 26, 3) := by decide +kernel
theorem dX0_putSum_20 : decode cX0_putSum 20 = .ok (.iadd, 1) := by decide +kernel
theorem dX0_putSum_21 : decode cX0_putSum 21 = .ok (.ldc 40, 2) := by decide +kernel
theorem dX0_putSum_23 : decode cX0_putSum 23 = .ok (.irem, 1) := by decide +kernel
theorem dX0_putSum_24 : decode cX0_putSum 24 = .ok (.istore_n 1, 1) := by decide +kernel
theorem dX0_putSum_25 : decode cX0_putSum 25 = .ok (.iload_n 2, 1) := by decide +kernel
theorem dX0_putSum_26 : decode cX0_putSum 26 = .ok (.iload_n 1, 1) := by decide +kernel
theorem dX0_putSum_27 : decode cX0_putSum 27 = .ok (.iadd, 1) := by decide +kernel
theorem dX0_putSum_28 : decode cX0_putSum 28 = .ok (.ldc 40, 2) := by decide +kernel
theorem dX0_putSum_30 : decode cX0_putSum 30 = .ok (.irem, 1) := by decide +kernel
theorem dX0_putSum_31 : decode cX0_putSum 31 = .ok (.istore_n 2, 1) := by decide +kernel
theorem dX0_putSum_32 : decode cX0_putSum 32 = .ok (.iinc 3 1, 3) := by decide +kernel
theorem dX0_putSum_35 : decode cX0_putSum 35 = .ok (.goto (-29), 3) := by decide +kernel
theorem dX0_putSum_38 : decode cX0_putSum 38 = .ok (.aload_n 0, 1) := by decide +kernel
theorem dX0_putSum_39 : decode cX0_putSum 39 = .ok (.iload_n 1, 1) := by decide +kernel
theorem dX0_putSum_40 : decode cX0_putSum 40 = .ok (.invokevirtual 20, 3) := by decide +kernel
theorem dX0_putSum_43 : decode cX0_putSum 43 = .ok (.aload_n 0, 1) := by decide +kernel
theorem dX0_putSum_44 : decode cX0_putSum 44 = .ok (.iload_n 1, 1) := by decide +kernel
theorem dX0_putSum_45 : decode cX0_putSum 45 = .ok (.bipush 8, 2) := by decide +kernel
theorem dX0_putSum_47 : decode cX0_putSum 47 = .ok (.iushr, 1) := by decide +kernel
theorem dX0_putSum_48 : decode cX0_putSum 48 = .ok (.invokevirtual 20, 3) := by decide +kernel
theorem dX0_putSum_51 : decode cX0_putSum 51 = .ok (.aload_n 0, 1) := by decide +kernel
theorem dX0_putSum_52 : decode cX0_putSum 52 = .ok (.iload_n 2, 1) := by decide +kernel
theorem dX0_putSum_53 : decode cX0_putSum 53 = .ok (.invokevirtual 20, 3) := by decide +kernel
theorem dX0_putSum_56 : decode cX0_putSum 56 = .ok (.aload_n 0, 1) := by decide +kernel
theorem dX0_putSum_57 : decode cX0_putSum 57 = .ok (.iload_n 2, 1) := by decide +kernel
theorem dX0_putSum_58 : decode cX0_putSum 58 = .ok (.bipush 8, 2) := by decide +kernel
theorem dX0_putSum_60 : decode cX0_putSum 60 = .ok (.iushr, 1) := by decide +kernel
theorem dX0_putSum_61 : decode cX0_putSum 61 = .ok (.invokevirtual 20, 3) := by decide +kernel
theorem dX0_putSum_64 : decode cX0_putSum 64 = .ok (.return_, 1) := by decide +kernel
theorem dX0_isSameAs_0 : decode cX0_isSameAs 0 = .ok (.aload_n 0, 1) := by decide +kernel
theorem dX0_isSameAs_1 : decode cX0_isSameAs 1 = .ok (.getfield 7, 3) := by decide +kernel
theorem dX0_isSameAs_4 : decode cX0_isSameAs 4 = .ok (.aload_n 1, 1) := by decide +kernel
theorem dX0_isSameAs_5 : decode cX0_isSameAs 5 = .ok (.getfield 7, 3) := by decide +kernel
theorem dX0_isSameAs_8 : decode cX0_isSameAs 8 = .ok (.if_icmp .eq 5, 3) := by decide +kernel
theorem dX0_isSameAs_11 : decode cX0_isSameAs 11 = .ok (.iconst 0, 1) := by decide +kernel
theorem dX0_isSameAs_12 : decode cX0_isSameAs 12 = .ok (.ireturn, 1) := by decide +kernel
theorem dX0_isSameAs_13 : decode cX0_isSameAs 13 = .ok (.iconst 0, 1) := by decide +kernel
theorem dX0_isSameAs_14 : decode cX0_isSameAs 14 = .ok (.istore_n 2, 1) := by decide +kernel
theorem dX0_isSameAs_15 : decode cX0_isSameAs 15 = .ok (.iload_n 2, 1) := by decide +kernel
theorem dX0_isSameAs_16 : decode cX0_isSameAs 16 = .ok (.aload_n 0, 1) := by decide +kernel
theorem dX0_isSameAs_17 : decode cX0_isSameAs 17 = .ok (.getfield 7, 3) := by decide +kernel
theorem dX0_isSameAs_20 : decode cX0_isSameAs 20 = .ok (.if_icmp .ge 24, 3) := by decide +kernel
theorem dX0_isSameAs_23 : decode cX0_isSameAs 23 = .ok (.aload_n 0, 1) := by decide +kernel
theorem dX0_isSameAs_24 : decode cX0_isSameAs 24 = .ok (.iload_n 2, 1) := by decide +kernel
theorem dX0_isSameAs_25 : decode cX0_isSameAs 25 = .ok (.invokevirtual 26, 3) := by decide +kernel
theorem dX0_isSameAs_28 : decode cX0_isSameAs 28 = .ok (.aload_n 1, 1) := by decide +kernel
theorem dX0_isSameAs_29 : decode cX0_isSameAs 29 = .ok (.iload_n 2, 1) := by decide +kernel
theorem dX0_isSameAs_30 : decode cX0_isSameAs 30 = .ok (.invokevirtual 26, 3) := by decide +kernel
theorem dX0_isSameAs_33 : decode cX0_isSameAs 33 = .ok (.if_icmp .eq 5, 3) := by decide +kernel
theorem dX0_isSameAs_36 : decode cX0_isSameAs 36 = .ok (.iconst 0, 1) := by decide +kernel
theorem dX0_isSameAs_37 : decode cX0_isSameAs 37 = .ok (.ireturn, 1) := by decide +kernel
theorem dX0_isSameAs_38 : decode cX0_isSameAs 38 = .ok (.iinc 2 1, 3) := by decide +kernel
theorem dX0_isSameAs_41 : decode cX0_isSameAs 41 = .ok (.goto (-26), 3) := by decide +kernel
theorem dX0_isSameAs_44 : decode cX0_isSameAs 44 = .ok (.iconst 1, 1) := by decide +kernel
theorem dX0_isSameAs_45 : decode cX0_isSameAs 45 = .ok (.ireturn, 1) := by decide +kernel
theorem dX1_init_0 : decode cX1_init 0 = .ok (.aload_n 0, 1) := by decide +kernel
theorem dX1_init_1 : decode cX1_init 1 = .ok (.invokespecial 3, 3) := by decide +kernel
theorem dX1_init_4 : decode cX1_init 4 = .ok (.aload_n 0, 1) := by decide +kernel
theorem dX1_init_5 : decode cX1_init 5 = .ok (.bipush 64, 2) := by decide +kernel
theorem dX1_init_7 : decode cX1_init 7 = .ok (.newarray .long, 2) := by decide +kernel
theorem dX1_init_9 : decode cX1_init 9 = .ok (.putfield 9, 3) := by decide +kernel
theorem dX1_init_12 : decode cX1_init 12 = .ok (.aload_n 0, 1) := by decide +kernel
theorem dX1_init_13 : decode cX1_init 13 = .ok (.bipush 64, 2) := by decide +kernel
theorem dX1_init_15 : decode cX1_init 15 = .ok (.newarray .int, 2) := by decide +kernel
theorem dX1_init_17 : decode cX1_init 17 = .ok (.putfield 15, 3) := by decide +kernel
theorem dX1_init_20 : decode cX1_init 20 = .ok (.aload_n 0, 1) := by decide +kernel
theorem dX1_init_21 : decode cX1_init 21 = .ok (.sipush 2560, 3) := by decide +kernel
theorem dX1_init_24 : decode cX1_init 24 = .ok (.newarray .int, 2) := by decide +kernel
theorem dX1_init_26 : decode cX1_init 26 = .ok (.putfield 19, 3) := by decide +kernel
theorem dX1_init_29 : decode cX1_init 29 = .ok (.aload_n 0, 1) := by decide +kernel
theorem dX1_init_30 : decode cX1_init 30 = .ok (.sipush 2560, 3) := by decide +kernel
theorem dX1_init_33 : decode cX1_init 33 = .ok (.newarray .double, 2) := by decide +kernel
theorem dX1_init_35 : decode cX1_init 35 = .ok (.putfield 22, 3) := by decide +kernel
theorem dX1_init_38 : decode cX1_init 38 = .ok (.aload_n 0, 1) := by decide +kernel
theorem dX1_init_39 : decode cX1_init 39 = .ok (.bipush 40, 2) := by decide +kernel
theorem dX1_init_41 : decode cX1_init 41 = .ok (.newarray .int, 2) := by decide +kernel
theorem dX1_init_43 : decode cX1_init 43 = .ok (.putfield 26, 3) := by decide +kernel
theorem dX1_init_46 : decode cX1_init 46 = .ok (.aload_n 0, 1) := by decide +kernel
theorem dX1_init_47 : decode cX1_init 47 = .ok (.bipush 40, 2) := by decide +kernel
theorem dX1_init_49 : decode cX1_init 49 = .ok (.newarray .int, 2) := by decide +kernel
theorem dX1_init_51 : decode cX1_init 51 = .ok (.putfield 29, 3) := by decide +kernel
theorem dX1_init_54 : decode cX1_init 54 = .ok (.aload_n 0, 1) := by decide +kernel
theorem dX1_init_55 : decode cX1_init 55 = .ok (.iconst 0, 1) := by decide +kernel
theorem dX1_init_56 : decode cX1_init 56 = .ok (.putfield 32, 3) := by decide +kernel
theorem dX1_init_59 : decode cX1_init 59 = .ok (.aload_n 0, 1) := by decide +kernel
theorem dX1_init_60 : decode cX1_init 60 = .ok (.iconst 0, 1) := by decide +kernel
theorem dX1_init_61 : decode cX1_init 61 = .ok (.putfield 36, 3) := by decide +kernel
theorem dX1_init_64 : decode cX1_init 64 = .ok (.aload_n 0, 1) := by decide +kernel
theorem dX1_init_65 : decode cX1_init 65 = .ok (.iconst 0, 1) := by decide +kernel
theorem dX1_init_66 : decode cX1_init 66 = .ok (.putfield 39, 3) := by decide +kernel
theorem dX1_init_69 : decode cX1_init 69 = .ok (.aload_n 0, 1) := by decide +kernel
theorem dX1_init_70 : decode cX1_init 70 = .ok (.iconst 0, 1) := by decide +kernel
theorem dX1_init_71 : decode cX1_init 71 = .ok (.putfield 42, 3) := by decide +kernel
theorem dX1_init_74 : decode cX1_init 74 = .ok (.return_, 1) := by decide +kernel
theorem dX1_hasRoomFor_0 : decode cX1_hasRoomFor 0 = .ok (.iconst 0, 1) := by decide +kernel
theorem dX1_hasRoomFor_1 : decode cX1_hasRoomFor 1 = .ok (.istore_n 2, 1) := by decide +kernel
theorem dX1_hasRoomFor_2 : decode cX1_hasRoomFor 2 = .ok (.iconst 0, 1) := by decide +kernel
theorem dX1_hasRoomFor_3 : decode cX1_hasRoomFor 3 = .ok (.istore_n 3, 1) := by decide +kernel
theorem dX1_hasRoomFor_4 : decode cX1_hasRoomFor 4 = .ok (.iload_n 3, 1) := by decide +kernel
theorem dX1_hasRoomFor_5 : decode cX1_hasRoomFor 5 = .ok (.aload_n 1, 1) := by decide +kernel
theorem dX1_hasRoomFor_6 : decode cX1_hasRoomFor 6 = .ok (.getfield 45, 3) := by decide +kernel
theorem dX1_hasRoomFor_9 : decode cX1_hasRoomFor 9 = .ok (.if_icmp .ge 35, 3) := by decide +kernel
theorem dX1_hasRoomFor_12 : decode cX1_hasRoomFor 12 = .ok (.aload_n 0, 1) := by decide +kernel
theorem dX1_hasRoomFor_13 : decode cX1_hasRoomFor 13 = .ok (.aload_n 0, 1) := by decide +kernel
theorem dX1_hasRoomFor_14 : decode cX1_hasRoomFor 14 = .ok (.aload_n 1, 1) := by decide +kernel
theorem dX1_hasRoomFor_15 : decode cX1_hasRoomFor 15 = .ok (.getfield 50, 3) := by decide +kernel
theorem dX1_hasRoomFor_18 : decode cX1_hasRoomFor 18 = .ok (.iload_n 3, 1) := by decide +kernel
theorem dX1_hasRoomFor_19 : decode cX1_hasRoomFor 19 = .ok (.laload, 1) := by decide +kernel
theorem dX1_hasRoomFor_20 : decode cX1_hasRoomFor 20 = .ok (.invokevirtual 51, 3) := by decide +kernel
theorem dX1_hasRoomFor_23 : decode cX1_hasRoomFor 23 = .ok (.aload_n 1, 1) := by decide +kernel
theorem dX1_hasRoomFor_24 : decode cX1_hasRoomFor 24 = .ok (.getfield 50, 3) := by decide +kernel
theorem dX1_hasRoomFor_27 : decode cX1_hasRoomFor 27 = .ok (.iload_n 3, 1) := by decide +kernel
theorem dX1_hasRoomFor_28 : decode cX1_hasRoomFor 28 = .ok (.laload, 1) := by decide +kernel
theorem dX1_hasRoomFor_29 : decode cX1_hasRoomFor 29 = .ok (.invokevirtual 55, 3) := by decide +kernel
theorem dX1_hasRoomFor_32 : decode cX1_hasRoomFor 32 = .ok (.ifCond .ne 6, 3) := by decide +kernel
theorem dX1_hasRoomFor_35 : decode cX1_hasRoomFor 35 = .ok (.iinc 2 1, 3) := by decide +kernel
theorem dX1_hasRoomFor_38 : decode cX1_hasRoomFor 38 = .ok (.iinc 3 1, 3) := by decide +kernel
theorem dX1_hasRoomFor_41 : decode cX1_hasRoomFor 41 = .ok (.goto (-37), 3) := by decide +kernel
theorem dX1_hasRoomFor_44 : decode cX1_hasRoomFor 44 = .ok (.aload_n 0, 1) := by decide +kernel
theorem dX1_hasRoomFor_45 : decode cX1_hasRoomFor 45 = .ok (.getfield 32, 3) := by decide +kernel
theorem dX1_hasRoomFor_48 : decode cX1_hasRoomFor 48 = .ok (.bipush 40, 2) := by decide +kernel
theorem dX1_hasRoomFor_50 : decode cX1_hasRoomFor 50 = .ok (.if_icmp .ge 33, 3) := by decide +kernel
theorem dX1_hasRoomFor_53 : decode cX1_hasRoomFor 53 = .ok (.aload_n 0, 1) := by decide +kernel
theorem dX1_hasRoomFor_54 : decode cX1_hasRoomFor 54 = .ok (.getfield 36, 3) := by decide +kernel
theorem dX1_hasRoomFor_57 : decode cX1_hasRoomFor 57 = .ok (.iload_n 2, 1) := by decide +kernel
theorem dX1_hasRoomFor_58 : decode cX1_hasRoomFor 58 = .ok (.iadd, 1) := by decide +kernel
theorem dX1_hasRoomFor_59 : decode cX1_hasRoomFor 59 = .ok (.bipush 64, 2) := by decide +kernel
theorem dX1_hasRoomFor_61 : decode cX1_hasRoomFor 61 = .ok (.if_icmp .gt 22, 3) := by decide +kernel
theorem dX1_hasRoomFor_64 : decode cX1_hasRoomFor 64 = .ok (.aload_n 0, 1) := by decide +kernel
theorem dX1_hasRoomFor_65 : decode cX1_hasRoomFor 65 = .ok (.getfield 39, 3) := by decide +kernel
theorem dX1_hasRoomFor_68 : decode cX1_hasRoomFor 68 = .ok (.aload_n 1, 1) := by decide +kernel
theorem dX1_hasRoomFor_69 : decode cX1_hasRoomFor 69 = .ok (.getfield 45, 3) := by decide +kernel
theorem dX1_hasRoomFor_72 : decode cX1_hasRoomFor 72 = .ok (.iadd, 1) := by decide +kernel
theorem dX1_hasRoomFor_73 : decode cX1_hasRoomFor 73 = .ok (.sipush 600, 3) := by decide +kernel
theorem dX1_hasRoomFor_76 : decode cX1_hasRoomFor 76 = .ok (.if_icmp .gt 7, 3) := by decide +kernel
theorem dX1_hasRoomFor_79 : decode cX1_hasRoomFor 79 = .ok (.iconst 1, 1) := by decide +kernel
theorem dX1_hasRoomFor_80 : decode cX1_hasRoomFor 80 = .ok (.goto 4, 3) := by decide +kernel
theorem dX1_hasRoomFor_83 : decode cX1_hasRoomFor 83 = .ok (.iconst 0, 1) := by decide +kernel
theorem dX1_hasRoomFor_84 : decode cX1_hasRoomFor 84 = .ok (.ireturn, 1) := by decide +kernel
theorem dX1_append_0 : decode cX1_append 0 = .ok (.iconst 0, 1) := by decide +kernel
theorem dX1_append_1 : decode cX1_append 1 = .ok (.istore_n 2, 1) := by decide +kernel
theorem dX1_append_2 : decode cX1_append 2 = .ok (.iload_n 2, 1) := by decide +kernel
theorem dX1_append_3 : decode cX1_append 3 = .ok (.aload_n 1, 1) := by decide +kernel
theorem dX1_append_4 : decode cX1_append 4 = .ok (.getfield 45, 3) := by decide +kernel
theorem dX1_append_7 : decode cX1_append 7 = .ok (.if_icmp .ge 75, 3) := by decide +kernel
theorem dX1_append_10 : decode cX1_append 10 = .ok (.aload_n 0, 1) := by decide +kernel
theorem dX1_append_11 : decode cX1_append 11 = .ok (.aload_n 1, 1) := by decide +kernel
theorem dX1_append_12 : decode cX1_append 12 = .ok (.getfield 50, 3) := by decide +kernel
theorem dX1_append_15 : decode cX1_append 15 = .ok (.iload_n 2, 1) := by decide +kernel
theorem dX1_append_16 : decode cX1_append 16 = .ok (.laload, 1) := by decide +kernel
theorem dX1_append_17 : decode cX1_append 17 = .ok (.invokevirtual 51, 3) := by decide +kernel
theorem dX1_append_20 : decode cX1_append 20 = .ok (.istore_n 3, 1) := by decide +kernel
theorem dX1_append_21 : decode cX1_append 21 = .ok (.aload_n 0, 1) := by decide +kernel
theorem dX1_append_22 : decode cX1_append 22 = .ok (.iload_n 3, 1) := by decide +kernel
theorem dX1_append_23 : decode cX1_append 23 = .ok (.aload_n 1, 1) := by decide +kernel
theorem dX1_append_24 : decode cX1_append 24 = .ok (.getfield 50, 3) := by decide +kernel
theorem dX1_append_27 : decode cX1_append 27 = .ok (.iload_n 2, 1) := by decide +kernel
theorem dX1_append_28 : decode cX1_append 28 = .ok (.laload, 1) := by decide +kernel
theorem dX1_append_29 : decode cX1_append 29 = .ok (.invokevirtual 55, 3) := by decide +kernel
theorem dX1_append_32 : decode cX1_append 32 = .ok (.ifCond .ne 14, 3) := by decide +kernel
theorem dX1_append_35 : decode cX1_append 35 = .ok (.aload_n 0, 1) := by decide +kernel
theorem dX1_append_36 : decode cX1_append 36 = .ok (.iload_n 3, 1) := by decide +kernel
theorem dX1_append_37 : decode cX1_append 37 = .ok (.aload_n 1, 1) := by decide +kernel
theorem dX1_append_38 : decode cX1_append 38 = .ok (.getfield 50, 3) := by decide +kernel
theorem dX1_append_41 : decode cX1_append 41 = .ok (.iload_n 2, 1) := by decide +kernel
theorem dX1_append_42 : decode cX1_append 42 = .ok (.laload, 1) := by decide +kernel
theorem dX1_append_43 : decode cX1_append 43 = .ok (.invokevirtual 59, 3) := by decide +kernel
theorem dX1_append_46 : decode cX1_append 46 = .ok (.aload_n 0, 1) := by decide +kernel
theorem dX1_append_47 : decode cX1_append 47 = .ok (.getfield 19, 3) := by decide +kernel
theorem dX1_append_50 : decode cX1_append 50 = .ok (.iload_n 3, 1) := by decide +kernel
theorem dX1_append_51 : decode cX1_append 51 = .ok (.bipush 40, 2) := by decide +kernel
theorem dX1_append_53 : decode cX1_append 53 = .ok (.imul, 1) := by decide +kernel
theorem dX1_append_54 : decode cX1_append 54 = .ok (.aload_n 0, 1) := by decide +kernel
theorem dX1_append_55 : decode cX1_append 55 = .ok (.getfield 32, 3) := by decide +kernel
theorem dX1_append_58 : decode cX1_append 58 = .ok (.iadd, 1) := by decide +kernel
theorem dX1_append_59 : decode cX1_append 59 = .ok (.aload_n 1, 1) := by decide +kernel
theorem dX1_append_60 : decode cX1_append 60 = .ok (.getfield 63, 3) := by decide +kernel
theorem dX1_append_63 : decode cX1_append 63 = .ok (.iload_n 2, 1) := by decide +kernel
theorem dX1_append_64 : decode cX1_append 64 = .ok (.iaload, 1) := by decide +kernel
theorem dX1_append_65 : decode cX1_append 65 = .ok (.iastore, 1) := by decide +kernel
theorem dX1_append_66 : decode cX1_append 66 = .ok (.aload_n 0, 1) := by decide +kernel
theorem dX1_append_67 : decode cX1_append 67 = .ok (.getfield 15, 3) := by decide +kernel
theorem dX1_append_70 : decode cX1_append 70 = .ok (.iload_n 3, 1) := by decide +kernel
theorem dX1_append_71 : decode cX1_append 71 = .ok (.dup2, 1) := by decide +kernel
theorem dX1_append_72 : decode cX1_append 72 = .ok (.iaload, 1) := by decide +kernel
theorem dX1_append_73 : decode cX1_append 73 = .ok (.iconst 1, 1) := by decide +kernel
theorem dX1_append_74 : decode cX1_append 74 = .ok (.iadd, 1) := by decide +kernel
theorem dX1_append_75 : decode cX1_append 75 = .ok (.iastore, 1) := by decide +kernel
theorem dX1_append_76 : decode cX1_append 76 = .ok (.iinc 2 1, 3) := by decide +kernel
theorem dX1_append_79 : decode cX1_append 79 = .ok (.goto (-77), 3) := by decide +kernel
theorem dX1_append_82 : decode cX1_append 82 = .ok (.aload_n 0, 1) := by decide +kernel
theorem dX1_append_83 : decode cX1_append 83 = .ok (.dup, 1) := by decide +kernel
theorem dX1_append_84 : decode cX1_append 84 = .ok (.getfield 39, 3) := by decide +kernel
theorem dX1_append_87 : decode cX1_append 87 = .ok (.aload_n 1, 1) := by decide +kernel
theorem dX1_append_88 : decode cX1_append 88 = .ok (.getfield 45, 3) := by decide +kernel
theorem dX1_append_91 : decode cX1_append 91 = .ok (.iadd, 1) := by decide +kernel
theorem dX1_append_92 : decode cX1_append 92 = .ok (.putfield 39, 3) := by decide +kernel
theorem dX1_append_95 : decode cX1_append 95 = .ok (.aload_n 0, 1) := by decide +kernel
theorem dX1_append_96 : decode cX1_append 96 = .ok (.getfield 29, 3) := by decide +kernel
theorem dX1_append_99 : decode cX1_append 99 = .ok (.aload_n 0, 1) := by decide +kernel
theorem dX1_append_100 : decode cX1_append 100 = .ok (.getfield 32, 3) := by decide +kernel
theorem dX1_append_103 : decode cX1_append 103 = .ok (.aload_n 1, 1) := by decide +kernel
theorem dX1_append_104 : decode cX1_append 104 = .ok (.getfield 64, 3) := by decide +kernel
theorem dX1_append_107 : decode cX1_append 107 = .ok (.iastore, 1) := by decide +kernel
theorem dX1_append_108 : decode cX1_append 108 = .ok (.aload_n 0, 1) := by decide +kernel
theorem dX1_append_109 : decode cX1_append 109 = .ok (.dup, 1) := by decide +kernel
theorem dX1_append_110 : decode cX1_append 110 = .ok (.getfield 42, 3) := by decide +kernel
theorem dX1_append_113 : decode cX1_append 113 = .ok (.aload_n 1, 1) := by decide +kernel
theorem dX1_append_114 : decode cX1_append 114 = .ok (.getfield 64, 3) := by decide +kernel
theorem dX1_append_117 : decode cX1_append 117 = .ok (.iadd, 1) := by decide +kernel
theorem dX1_append_118 : decode cX1_append 118 = .ok (.putfield 42, 3) := by decide +kernel
theorem dX1_append_121 : decode cX1_append 121 = .ok (.aload_n 0, 1) := by decide +kernel
theorem dX1_append_122 : decode cX1_append 122 = .ok (.dup, 1) := by decide +kernel
theorem dX1_append_123 : decode cX1_append 123 = .ok (.getfield 32, 3) := by decide +kernel
theorem dX1_append_126 : decode cX1_append 126 = .ok (.iconst 1, 1) := by decide +kernel
theorem dX1_append_127 : decode cX1_append 127 = .ok (.iadd, 1) := by decide +kernel
theorem dX1_append_128 : decode cX1_append 128 = .ok (.putfield 32, 3) := by decide +kernel
theorem dX1_append_131 : decode cX1_append 131 = .ok (.aload_n 0, 1) := by decide +kernel
theorem dX1_append_132 : decode cX1_append 132 = .ok (.getfield 32, 3) := by decide +kernel
theorem dX1_append_135 : decode cX1_append 135 = .ok (.iconst 1, 1) := by decide +kernel
theorem dX1_append_136 : decode cX1_append 136 = .ok (.isub, 1) := by decide +kernel
theorem dX1_append_137 : decode cX1_append 137 = .ok (.ireturn, 1) := by decide +kernel
theorem dX1_becomeEmpty_0 : decode cX1_becomeEmpty 0 = .ok (.aload_n 0, 1) := by decide +kernel
theorem dX1_becomeEmpty_1 : decode cX1_becomeEmpty 1 = .ok (.getfield 32, 3) := by decide +kernel
theorem dX1_becomeEmpty_4 : decode cX1_becomeEmpty 4 = .ok (.istore_n 1, 1) := by decide +kernel
theorem dX1_becomeEmpty_5 : decode cX1_becomeEmpty 5 = .ok (.aload_n 0, 1) := by decide +kernel
theorem dX1_becomeEmpty_6 : decode cX1_becomeEmpty 6 = .ok (.iconst 0, 1) := by decide +kernel
theorem dX1_becomeEmpty_7 : decode cX1_becomeEmpty 7 = .ok (.putfield 32, 3) := by decide +kernel
theorem dX1_becomeEmpty_10 : decode cX1_becomeEmpty 10 = .ok (.aload_n 0, 1) := by decide +kernel
theorem dX1_becomeEmpty_11 : decode cX1_becomeEmpty 11 = .ok (.iconst 0, 1) := by decide +kernel
theorem dX1_becomeEmpty_12 : decode cX1_becomeEmpty 12 = .ok (.putfield 36, 3) := by decide +kernel
theorem dX1_becomeEmpty_15 : decode cX1_becomeEmpty 15 = .ok (.aload_n 0, 1) := by decide +kernel
theorem dX1_becomeEmpty_16 : decode cX1_becomeEmpty 16 = .ok (.iconst 0, 1) := by decide +kernel
theorem dX1_becomeEmpty_17 : decode cX1_becomeEmpty 17 = .ok (.putfield 39, 3) := by decide +kernel
theorem dX1_becomeEmpty_20 : decode cX1_becomeEmpty 20 = .ok (.aload_n 0, 1) := by decide +kernel
theorem dX1_becomeEmpty_21 : decode cX1_becomeEmpty 21 = .ok (.iconst 0, 1) := by decide +kernel
theorem dX1_becomeEmpty_22 : decode cX1_becomeEmpty 22 = .ok (.putfield 42, 3) := by decide +kernel
theorem dX1_becomeEmpty_25 : decode cX1_becomeEmpty 25 = .ok (.iload_n 1, 1) := by decide +kernel
theorem dX1_becomeEmpty_26 : decode cX1_becomeEmpty 26 = .ok (.ireturn, 1) := by decide +kernel
theorem dX1_scoreOfTerm_0 : decode cX1_scoreOfTerm 0 = .ok (.aload_n 0, 1) := by decide +kernel
theorem dX1_scoreOfTerm_1 : decode cX1_scoreOfTerm 1 = .ok (.lload_n 1, 1) := by decide +kernel
theorem dX1_scoreOfTerm_2 : decode cX1_scoreOfTerm 2 = .ok (.invokevirtual 51, 3) := by decide +kernel
theorem dX1_scoreOfTerm_5 : decode cX1_scoreOfTerm 5 = .ok (.istore 4, 2) := by decide +kernel
theorem dX1_scoreOfTerm_7 : decode cX1_scoreOfTerm 7 = .ok (.aload_n 0, 1) := by decide +kernel
theorem dX1_scoreOfTerm_8 : decode cX1_scoreOfTerm 8 = .ok (.iload 4, 2) := by decide +kernel
theorem dX1_scoreOfTerm_10 : decode cX1_scoreOfTerm 10 = .ok (.lload_n 1, 1) := by decide +kernel
theorem dX1_scoreOfTerm_11 : decode cX1_scoreOfTerm 11 = .ok (.invokevirtual 55, 3) := by decide +kernel
theorem dX1_scoreOfTerm_14 : decode cX1_scoreOfTerm 14 = .ok (.ifCond .eq 13, 3) := by decide +kernel
theorem dX1_scoreOfTerm_17 : decode cX1_scoreOfTerm 17 = .ok (.aload_n 0, 1) := by decide +kernel
theorem dX1_scoreOfTerm_18 : decode cX1_scoreOfTerm 18 = .ok (.iload 4, 2) := by decide +kernel
theorem dX1_scoreOfTerm_20 : decode cX1_scoreOfTerm 20 = .ok (.iload_n 3, 1) := by decide +kernel
theorem dX1_scoreOfTerm_21 : decode cX1_scoreOfTerm 21 = .ok (.invokevirtual 67, 3) := by decide +kernel
theorem dX1_scoreOfTerm_24 : decode cX1_scoreOfTerm 24 = .ok (.goto 4, 3) := by decide +kernel
theorem dX1_scoreOfTerm_27 : decode cX1_scoreOfTerm 27 = .ok (.dconst 0, 1) := by decide +kernel
theorem dX1_scoreOfTerm_28 : decode cX1_scoreOfTerm 28 = .ok (.dreturn, 1) := by decide +kernel
theorem dX1_makeIndex_0 : decode cX1_makeIndex 0 = .ok (.aload_n 0, 1) := by decide +kernel
theorem dX1_makeIndex_1 : decode cX1_makeIndex 1 = .ok (.invokevirtual 71, 3) := by decide +kernel
theorem dX1_makeIndex_4 : decode cX1_makeIndex 4 = .ok (.aload_n 2, 1) := by decide +kernel
theorem dX1_makeIndex_5 : decode cX1_makeIndex 5 = .ok (.iload_n 1, 1) := by decide +kernel
theorem dX1_makeIndex_6 : decode cX1_makeIndex 6 = .ok (.aload_n 0, 1) := by decide +kernel
theorem dX1_makeIndex_7 : decode cX1_makeIndex 7 = .ok (.getfield 32, 3) := by decide +kernel
theorem dX1_makeIndex_10 : decode cX1_makeIndex 10 = .ok (.invokevirtual 74, 3) := by decide +kernel
theorem dX1_makeIndex_13 : decode cX1_makeIndex 13 = .ok (.aload_n 0, 1) := by decide +kernel
theorem dX1_makeIndex_14 : decode cX1_makeIndex 14 = .ok (.invokevirtual 80, 3) := by decide +kernel
theorem dX1_makeIndex_17 : decode cX1_makeIndex 17 = .ok (.dstore_n 3, 1) := by decide +kernel
theorem dX1_makeIndex_18 : decode cX1_makeIndex 18 = .ok (.aload_n 0, 1) := by decide +kernel
theorem dX1_makeIndex_19 : decode cX1_makeIndex 19 = .ok (.invokevirtual 84, 3) := by decide +kernel
theorem dX1_makeIndex_22 : decode cX1_makeIndex 22 = .ok (.dstore 5, 2) := by decide +kernel
theorem dX1_makeIndex_24 : decode cX1_makeIndex 24 = .ok (.iconst 0, 1) := by decide +kernel
theorem dX1_makeIndex_25 : decode cX1_makeIndex 25 = .ok (.istore 7, 2) := by decide +kernel
theorem dX1_makeIndex_27 : decode cX1_makeIndex 27 = .ok (.iload 7, 2) := by decide +kernel
theorem dX1_makeIndex_29 : decode cX1_makeIndex 29 = .ok (.aload_n 0, 1) := by decide +kernel
theorem dX1_makeIndex_30 : decode cX1_makeIndex 30 = .ok (.getfield 36, 3) := by decide +kernel
theorem dX1_makeIndex_33 : decode cX1_makeIndex 33 = .ok (.if_icmp .ge 90, 3) := by decide +kernel
theorem dX1_makeIndex_36 : decode cX1_makeIndex 36 = .ok (.iconst 0, 1) := by decide +kernel
theorem dX1_makeIndex_37 : decode cX1_makeIndex 37 = .ok (.istore 8, 2) := by decide +kernel
theorem dX1_makeIndex_39 : decode cX1_makeIndex 39 = .ok (.iload 8, 2) := by decide +kernel
theorem dX1_makeIndex_41 : decode cX1_makeIndex 41 = .ok (.aload_n 0, 1) := by decide +kernel
theorem dX1_makeIndex_42 : decode cX1_makeIndex 42 = .ok (.getfield 32, 3) := by decide +kernel
theorem dX1_makeIndex_45 : decode cX1_makeIndex 45 = .ok (.if_icmp .ge 57, 3) := by decide +kernel
theorem dX1_makeIndex_48 : decode cX1_makeIndex 48 = .ok (.iload 7, 2) := by decide +kernel
theorem dX1_makeIndex_50 : decode cX1_makeIndex 50 = .ok (.bipush 40, 2) := by decide +kernel
theorem dX1_makeIndex_52 : decode cX1_makeIndex 52 = .ok (.imul, 1) := by decide +kernel
theorem dX1_makeIndex_53 : decode cX1_makeIndex 53 = .ok (.iload 8, 2) := by decide +kernel
theorem dX1_makeIndex_55 : decode cX1_makeIndex 55 = .ok (.iadd, 1) := by decide +kernel
theorem dX1_makeIndex_56 : decode cX1_makeIndex 56 = .ok (.istore 9, 2) := by decide +kernel
theorem dX1_makeIndex_58 : decode cX1_makeIndex 58 = .ok (.aload_n 0, 1) := by decide +kernel
theorem dX1_makeIndex_59 : decode cX1_makeIndex 59 = .ok (.getfield 26, 3) := by decide +kernel
theorem dX1_makeIndex_62 : decode cX1_makeIndex 62 = .ok (.iload 8, 2) := by decide +kernel
theorem dX1_makeIndex_64 : decode cX1_makeIndex 64 = .ok (.aload_n 0, 1) := by decide +kernel
theorem dX1_makeIndex_65 : decode cX1_makeIndex 65 = .ok (.iload 9, 2) := by decide +kernel
theorem dX1_makeIndex_67 : decode cX1_makeIndex 67 = .ok (.invokevirtual 87, 3) := by decide +kernel
theorem dX1_makeIndex_70 : decode cX1_makeIndex 70 = .ok (.ifCond .eq 24, 3) := by decide +kernel
theorem dX1_makeIndex_73 : decode cX1_makeIndex 73 = .ok (.aload_n 0, 1) := by decide +kernel
theorem dX1_makeIndex_74 : decode cX1_makeIndex 74 = .ok (.getfield 22, 3) := by decide +kernel
theorem dX1_makeIndex_77 : decode cX1_makeIndex 77 = .ok (.iload 9, 2) := by decide +kernel
theorem dX1_makeIndex_79 : decode cX1_makeIndex 79 = .ok (.daload, 1) := by decide +kernel
theorem dX1_makeIndex_80 : decode cX1_makeIndex 80 = .ok (.dload_n 3, 1) := by decide +kernel
theorem dX1_makeIndex_81 : decode cX1_makeIndex 81 = .ok (.dload 5, 2) := by decide +kernel
theorem dX1_makeIndex_83 : decode cX1_makeIndex 83 = .ok (.iconst 1, 1) := by decide +kernel
theorem dX1_makeIndex_84 : decode cX1_makeIndex 84 = .ok (.iload_n 1, 1) := by decide +kernel
theorem dX1_makeIndex_85 : decode cX1_makeIndex 85 = .ok (.ishl, 1) := by decide +kernel
theorem dX1_makeIndex_86 : decode cX1_makeIndex 86 = .ok (.iconst 1, 1) := by decide +kernel
theorem dX1_makeIndex_87 : decode cX1_makeIndex 87 = .ok (.isub, 1) := by decide +kernel
theorem dX1_makeIndex_88 : decode cX1_makeIndex 88 = .ok (.invokestatic 91, 3) := by decide +kernel
theorem dX1_makeIndex_91 : decode cX1_makeIndex 91 = .ok (.goto 4, 3) := by decide +kernel
theorem dX1_makeIndex_94 : decode cX1_makeIndex 94 = .ok (.iconst 0, 1) := by decide +kernel
theorem dX1_makeIndex_95 : decode cX1_makeIndex 95 = .ok (.iastore, 1) := by decide +kernel
theorem dX1_makeIndex_96 : decode cX1_makeIndex 96 = .ok (.iinc 8 1, 3) := by decide +kernel
theorem dX1_makeIndex_99 : decode cX1_makeIndex 99 = .ok (.goto (-60), 3) := by decide +kernel
theorem dX1_makeIndex_102 : decode cX1_makeIndex 102 = .ok (.aload_n 2, 1) := by decide +kernel
theorem dX1_makeIndex_103 : decode cX1_makeIndex 103 = .ok (.aload_n 0, 1) := by decide +kernel
theorem dX1_makeIndex_104 : decode cX1_makeIndex 104 = .ok (.getfield 9, 3) := by decide +kernel
theorem dX1_makeIndex_107 : decode cX1_makeIndex 107 = .ok (.iload 7, 2) := by decide +kernel
theorem dX1_makeIndex_109 : decode cX1_makeIndex 109 = .ok (.laload, 1) := by decide +kernel
theorem dX1_makeIndex_110 : decode cX1_makeIndex 110 = .ok (.aload_n 0, 1) := by decide +kernel
theorem dX1_makeIndex_111 : decode cX1_makeIndex 111 = .ok (.getfield 26, 3) := by decide +kernel
theorem dX1_makeIndex_114 : decode cX1_makeIndex 114 = .ok (.invokevirtual 95, 3) := by decide +kernel
theorem dX1_makeIndex_117 : decode cX1_makeIndex 117 = .ok (.iinc 7 1, 3) := by decide +kernel
theorem dX1_makeIndex_120 : decode cX1_makeIndex 120 = .ok (.goto (-93), 3) := by decide +kernel
theorem dX1_makeIndex_123 : decode cX1_makeIndex 123 = .ok (.return_, 1) := by decide +kernel
theorem dX1_placeOf_0 : decode cX1_placeOf 0 = .ok (.iconst 0, 1) := by decide +kernel
theorem dX1_placeOf_1 : decode cX1_placeOf 1 = .ok (.istore_n 3, 1) := by decide +kernel
theorem dX1_placeOf_2 : decode cX1_placeOf 2 = .ok (.iload_n 3, 1) := by decide +kernel
theorem dX1_placeOf_3 : decode cX1_placeOf 3 = .ok (.aload_n 0, 1) := by decide +kernel
theorem dX1_placeOf_4 : decode cX1_placeOf 4 = .ok (.getfield 36, 3) := by decide +kernel
theorem dX1_placeOf_7 : decode cX1_placeOf 7 = .ok (.if_icmp .ge 22, 3) := by decide +kernel
theorem dX1_placeOf_10 : decode cX1_placeOf 10 = .ok (.aload_n 0, 1) := by decide +kernel
theorem dX1_placeOf_11 : decode cX1_placeOf 11 = .ok (.getfield 9, 3) := by decide +kernel
theorem dX1_placeOf_14 : decode cX1_placeOf 14 = .ok (.iload_n 3, 1) := by decide +kernel
theorem dX1_placeOf_15 : decode cX1_placeOf 15 = .ok (.laload, 1) := by decide +kernel
theorem dX1_placeOf_16 : decode cX1_placeOf 16 = .ok (.lload_n 1, 1) := by decide +kernel
theorem dX1_placeOf_17 : decode cX1_placeOf 17 = .ok (.lcmp, 1) := by decide +kernel
theorem dX1_placeOf_18 : decode cX1_placeOf 18 = .ok (.ifCond .lt 5, 3) := by decide +kernel
theorem dX1_placeOf_21 : decode cX1_placeOf 21 = .ok (.iload_n 3, 1) := by decide +kernel
theorem dX1_placeOf_22 : decode cX1_placeOf 22 = .ok (.ireturn, 1) := by decide +kernel
theorem dX1_placeOf_23 : decode cX1_placeOf 23 = .ok (.iinc 3 1, 3) := by decide +kernel
theorem dX1_placeOf_26 : decode cX1_placeOf 26 = .ok (.goto (-24), 3) := by decide +kernel
theorem dX1_placeOf_29 : decode cX1_placeOf 29 = .ok (.aload_n 0, 1) := by decide +kernel
theorem dX1_placeOf_30 : decode cX1_placeOf 30 = .ok (.getfield 36, 3) := by decide +kernel
theorem dX1_placeOf_33 : decode cX1_placeOf 33 = .ok (.ireturn, 1) := by decide +kernel
theorem dX1_hasTermAt_0 : decode cX1_hasTermAt 0 = .ok (.iload_n 1, 1) := by decide +kernel
theorem dX1_hasTermAt_1 : decode cX1_hasTermAt 1 = .ok (.aload_n 0, 1) := by decide +kernel
theorem dX1_hasTermAt_2 : decode cX1_hasTermAt 2 = .ok (.getfield 36, 3) := by decide +kernel
theorem dX1_hasTermAt_5 : decode cX1_hasTermAt 5 = .ok (.if_icmp .ge 18, 3) := by decide +kernel
theorem dX1_hasTermAt_8 : decode cX1_hasTermAt 8 = .ok (.aload_n 0, 1) := by decide +kernel
theorem dX1_hasTermAt_9 : decode cX1_hasTermAt 9 = .ok (.getfield 9, 3) := by decide +kernel
theorem dX1_hasTermAt_12 : decode cX1_hasTermAt 12 = .ok (.iload_n 1, 1) := by decide +kernel
theorem dX1_hasTermAt_13 : decode cX1_hasTermAt 13 = .ok (.laload, 1) := by decide +kernel
theorem dX1_hasTermAt_14 : decode cX1_hasTermAt 14 = .ok (.lload_n 2, 1) := by decide +kernel
theorem dX1_hasTermAt_15 : decode cX1_hasTermAt 15 = .ok (.lcmp, 1) := by decide +kernel
theorem dX1_hasTermAt_16 : decode cX1_hasTermAt 16 = .ok (.ifCond .ne 7, 3) := by decide +kernel
theorem dX1_hasTermAt_19 : decode cX1_hasTermAt 19 = .ok (.iconst 1, 1) := by decide +kernel
theorem dX1_hasTermAt_20 : decode cX1_hasTermAt 20 = .ok (.goto 4, 3) := by decide +kernel
theorem dX1_hasTermAt_23 : decode cX1_hasTermAt 23 = .ok (.iconst 0, 1) := by decide +kernel
theorem dX1_hasTermAt_24 : decode cX1_hasTermAt 24 = .ok (.ireturn, 1) := by decide +kernel
theorem dX1_insertTerm_0 : decode cX1_insertTerm 0 = .ok (.aload_n 0, 1) := by decide +kernel
theorem dX1_insertTerm_1 : decode cX1_insertTerm 1 = .ok (.getfield 36, 3) := by decide +kernel
theorem dX1_insertTerm_4 : decode cX1_insertTerm 4 = .ok (.istore 4, 2) := by decide +kernel
theorem dX1_insertTerm_6 : decode cX1_insertTerm 6 = .ok (.iload 4, 2) := by decide +kernel
theorem dX1_insertTerm_8 : decode cX1_insertTerm 8 = .ok (.iload_n 1, 1) := by decide +kernel
theorem dX1_insertTerm_9 : decode cX1_insertTerm 9 = .ok (.if_icmp .le 66, 3) := by decide +kernel
theorem dX1_insertTerm_12 : decode cX1_insertTerm 12 = .ok (.aload_n 0, 1) := by decide +kernel
theorem dX1_insertTerm_13 : decode cX1_insertTerm 13 = .ok (.getfield 9, 3) := by decide +kernel
theorem dX1_insertTerm_16 : decode cX1_insertTerm 16 = .ok (.iload 4, 2) := by decide +kernel
theorem dX1_insertTerm_18 : decode cX1_insertTerm 18 = .ok (.aload_n 0, 1) := by decide +kernel
theorem dX1_insertTerm_19 : decode cX1_insertTerm 19 = .ok (.getfield 9, 3) := by decide +kernel
theorem dX1_insertTerm_22 : decode cX1_insertTerm 22 = .ok (.iload 4, 2) := by decide +kernel
theorem dX1_insertTerm_24 : decode cX1_insertTerm 24 = .ok (.iconst 1, 1) := by decide +kernel
theorem dX1_insertTerm_25 : decode cX1_insertTerm 25 = .ok (.isub, 1) := by decide +kernel
theorem dX1_insertTerm_26 : decode cX1_insertTerm 26 = .ok (.laload, 1) := by decide +kernel
theorem dX1_insertTerm_27 : decode cX1_insertTerm 27 = .ok (.lastore, 1) := by decide +kernel
theorem dX1_insertTerm_28 : decode cX1_insertTerm 28 = .ok (.aload_n 0, 1) := by decide +kernel
theorem dX1_insertTerm_29 : decode cX1_insertTerm 29 = .ok (.getfield 15, 3) := by decide +kernel
theorem dX1_insertTerm_32 : decode cX1_insertTerm 32 = .ok (.iload 4, 2) := by decide +kernel
theorem dX1_insertTerm_34 : decode cX1_insertTerm 34 = .ok (.aload_n 0, 1) := by decide +kernel
theorem dX1_insertTerm_35 : decode cX1_insertTerm 35 = .ok (.getfield 15, 3) := by decide +kernel
theorem dX1_insertTerm_38 : decode cX1_insertTerm 38 = .ok (.iload 4, 2) := by decide +kernel
theorem dX1_insertTerm_40 : decode cX1_insertTerm 40 = .ok (.iconst 1, 1) := by decide +kernel
theorem dX1_insertTerm_41 : decode cX1_insertTerm 41 = .ok (.isub, 1) := by decide +kernel
theorem dX1_insertTerm_42 : decode cX1_insertTerm 42 = .ok (.iaload, 1) := by decide +kernel
theorem dX1_insertTerm_43 : decode cX1_insertTerm 43 = .ok (.iastore, 1) := by decide +kernel
theorem dX1_insertTerm_44 : decode cX1_insertTerm 44 = .ok (.aload_n 0, 1) := by decide +kernel
theorem dX1_insertTerm_45 : decode cX1_insertTerm 45 = .ok (.getfield 19, 3) := by decide +kernel
theorem dX1_insertTerm_48 : decode cX1_insertTerm 48 = .ok (.iload 4, 2) := by decide +kernel
theorem dX1_insertTerm_50 : decode cX1_insertTerm 50 = .ok (.iconst 1, 1) := by decide +kernel
theorem dX1_insertTerm_51 : decode cX1_insertTerm 51 = .ok (.isub, 1) := by decide +kernel
theorem dX1_insertTerm_52 : decode cX1_insertTerm 52 = .ok (.bipush 40, 2) := by decide +kernel
theorem dX1_insertTerm_54 : decode cX1_insertTerm 54 = .ok (.imul, 1) := by decide +kernel
theorem dX1_insertTerm_55 : decode cX1_insertTerm 55 = .ok (.aload_n 0, 1) := by decide +kernel
theorem dX1_insertTerm_56 : decode cX1_insertTerm 56 = .ok (.getfield 19, 3) := by decide +kernel
theorem dX1_insertTerm_59 : decode cX1_insertTerm 59 = .ok (.iload 4, 2) := by decide +kernel
theorem dX1_insertTerm_61 : decode cX1_insertTerm 61 = .ok (.bipush 40, 2) := by decide +kernel
theorem dX1_insertTerm_63 : decode cX1_insertTerm 63 = .ok (.imul, 1) := by decide +kernel
theorem dX1_insertTerm_64 : decode cX1_insertTerm 64 = .ok (.bipush 40, 2) := by decide +kernel
theorem dX1_insertTerm_66 : decode cX1_insertTerm 66 = .ok (.invokestatic 99, 3) := by decide +kernel
theorem dX1_insertTerm_69 : decode cX1_insertTerm 69 = .ok (.iinc 4 (-1), 3) := by decide +kernel
theorem dX1_insertTerm_72 : decode cX1_insertTerm 72 = .ok (.goto (-66), 3) := by decide +kernel
theorem dX1_insertTerm_75 : decode cX1_insertTerm 75 = .ok (.aload_n 0, 1) := by decide +kernel
theorem dX1_insertTerm_76 : decode cX1_insertTerm 76 = .ok (.getfield 9, 3) := by decide +kernel
theorem dX1_insertTerm_79 : decode cX1_insertTerm 79 = .ok (.iload_n 1, 1) := by decide +kernel
theorem dX1_insertTerm_80 : decode cX1_insertTerm 80 = .ok (.lload_n 2, 1) := by decide +kernel
theorem dX1_insertTerm_81 : decode cX1_insertTerm 81 = .ok (.lastore, 1) := by decide +kernel
theorem dX1_insertTerm_82 : decode cX1_insertTerm 82 = .ok (.aload_n 0, 1) := by decide +kernel
theorem dX1_insertTerm_83 : decode cX1_insertTerm 83 = .ok (.getfield 15, 3) := by decide +kernel
theorem dX1_insertTerm_86 : decode cX1_insertTerm 86 = .ok (.iload_n 1, 1) := by decide +kernel
theorem dX1_insertTerm_87 : decode cX1_insertTerm 87 = .ok (.iconst 0, 1) := by decide +kernel
theorem dX1_insertTerm_88 : decode cX1_insertTerm 88 = .ok (.iastore, 1) := by decide +kernel
theorem dX1_insertTerm_89 : decode cX1_insertTerm 89 = .ok (.iconst 0, 1) := by decide +kernel
theorem dX1_insertTerm_90 : decode cX1_insertTerm 90 = .ok (.istore 4, 2) := by decide +kernel
theorem dX1_insertTerm_92 : decode cX1_insertTerm 92 = .ok (.iload 4, 2) := by decide +kernel
theorem dX1_insertTerm_94 : decode cX1_insertTerm 94 = .ok (.bipush 40, 2) := by decide +kernel
theorem dX1_insertTerm_96 : decode cX1_insertTerm 96 = .ok (.if_icmp .ge 22, 3) := by decide +kernel
theorem dX1_insertTerm_99 : decode cX1_insertTerm 99 = .ok (.aload_n 0, 1) := by decide +kernel
theorem dX1_insertTerm_100 : decode cX1_insertTerm 100 = .ok (.getfield 19, 3) := by decide +kernel
theorem dX1_insertTerm_103 : decode cX1_insertTerm 103 = .ok (.iload_n 1, 1) := by decide +kernel
theorem dX1_insertTerm_104 : decode cX1_insertTerm 104 = .ok (.bipush 40, 2) := by decide +kernel
theorem dX1_insertTerm_106 : decode cX1_insertTerm 106 = .ok (.imul, 1) := by decide +kernel
theorem dX1_insertTerm_107 : decode cX1_insertTerm 107 = .ok (.iload 4, 2) := by decide +kernel
theorem dX1_insertTerm_109 : decode cX1_insertTerm 109 = .ok (.iadd, 1) := by decide +kernel
theorem dX1_insertTerm_110 : decode cX1_insertTerm 110 = .ok (.iconst 0, 1) := by decide +kernel
theorem dX1_insertTerm_111 : decode cX1_insertTerm 111 = .ok (.iastore, 1) := by decide +kernel
theorem dX1_insertTerm_112 : decode cX1_insertTerm 112 = .ok (.iinc 4 1, 3) := by decide +kernel
theorem dX1_insertTerm_115 : decode cX1_insertTerm 115 = .ok (.goto (-23), 3) := by decide +kernel
theorem dX1_insertTerm_118 : decode cX1_insertTerm 118 = .ok (.aload_n 0, 1) := by decide +kernel
theorem dX1_insertTerm_119 : decode cX1_insertTerm 119 = .ok (.dup, 1) := by decide +kernel
theorem dX1_insertTerm_120 : decode cX1_insertTerm 120 = .ok (.getfield 36, 3) := by decide +kernel
theorem dX1_insertTerm_123 : decode cX1_insertTerm 123 = .ok (.iconst 1, 1) := by decide +kernel
theorem dX1_insertTerm_124 : decode cX1_insertTerm 124 = .ok (.iadd, 1) := by decide +kernel
theorem dX1_insertTerm_125 : decode cX1_insertTerm 125 = .ok (.putfield 36, 3) := by decide +kernel
theorem dX1_insertTerm_128 : decode cX1_insertTerm 128 = .ok (.return_, 1) := by decide +kernel
theorem dX1_scoreAll_0 : decode cX1_scoreAll 0 = .ok (.iconst 0, 1) := by decide +kernel
theorem dX1_scoreAll_1 : decode cX1_scoreAll 1 = .ok (.istore_n 1, 1) := by decide +kernel
theorem dX1_scoreAll_2 : decode cX1_scoreAll 2 = .ok (.iload_n 1, 1) := by decide +kernel
theorem dX1_scoreAll_3 : decode cX1_scoreAll 3 = .ok (.aload_n 0, 1) := by decide +kernel
theorem dX1_scoreAll_4 : decode cX1_scoreAll 4 = .ok (.getfield 36, 3) := by decide +kernel
theorem dX1_scoreAll_7 : decode cX1_scoreAll 7 = .ok (.if_icmp .ge 42, 3) := by decide +kernel
theorem dX1_scoreAll_10 : decode cX1_scoreAll 10 = .ok (.iconst 0, 1) := by decide +kernel
theorem dX1_scoreAll_11 : decode cX1_scoreAll 11 = .ok (.istore_n 2, 1) := by decide +kernel
theorem dX1_scoreAll_12 : decode cX1_scoreAll 12 = .ok (.iload_n 2, 1) := by decide +kernel
theorem dX1_scoreAll_13 : decode cX1_scoreAll 13 = .ok (.aload_n 0, 1) := by decide +kernel
theorem dX1_scoreAll_14 : decode cX1_scoreAll 14 = .ok (.getfield 32, 3) := by decide +kernel
theorem dX1_scoreAll_17 : decode cX1_scoreAll 17 = .ok (.if_icmp .ge 26, 3) := by decide +kernel
theorem dX1_scoreAll_20 : decode cX1_scoreAll 20 = .ok (.aload_n 0, 1) := by decide +kernel
theorem dX1_scoreAll_21 : decode cX1_scoreAll 21 = .ok (.getfield 22, 3) := by decide +kernel
theorem dX1_scoreAll_24 : decode cX1_scoreAll 24 = .ok (.iload_n 1, 1) := by decide +kernel
theorem dX1_scoreAll_25 : decode cX1_scoreAll 25 = .ok (.bipush 40, 2) := by decide +kernel
theorem dX1_scoreAll_27 : decode cX1_scoreAll 27 = .ok (.imul, 1) := by decide +kernel
theorem dX1_scoreAll_28 : decode cX1_scoreAll 28 = .ok (.iload_n 2, 1) := by decide +kernel
theorem dX1_scoreAll_29 : decode cX1_scoreAll 29 = .ok (.iadd, 1) := by decide +kernel
theorem dX1_scoreAll_30 : decode cX1_scoreAll 30 = .ok (.aload_n 0, 1) := by decide +kernel
theorem dX1_scoreAll_31 : decode cX1_scoreAll 31 = .ok (.iload_n 1, 1) := by decide +kernel
theorem dX1_scoreAll_32 : decode cX1_scoreAll 32 = .ok (.iload_n 2, 1) := by decide +kernel
theorem dX1_scoreAll_33 : decode cX1_scoreAll 33 = .ok (.invokevirtual 67, 3) := by decide +kernel
theorem dX1_scoreAll_36 : decode cX1_scoreAll 36 = .ok (.dastore, 1) := by decide +kernel
theorem dX1_scoreAll_37 : decode cX1_scoreAll 37 = .ok (.iinc 2 1, 3) := by decide +kernel
theorem dX1_scoreAll_40 : decode cX1_scoreAll 40 = .ok (.goto (-28), 3) := by decide +kernel
theorem dX1_scoreAll_43 : decode cX1_scoreAll 43 = .ok (.iinc 1 1, 3) := by decide +kernel
theorem dX1_scoreAll_46 : decode cX1_scoreAll 46 = .ok (.goto (-44), 3) := by decide +kernel
theorem dX1_scoreAll_49 : decode cX1_scoreAll 49 = .ok (.return_, 1) := by decide +kernel
theorem dX1_scoreOf_0 : decode cX1_scoreOf 0 = .ok (.aload_n 0, 1) := by decide +kernel
theorem dX1_scoreOf_1 : decode cX1_scoreOf 1 = .ok (.getfield 19, 3) := by decide +kernel
theorem dX1_scoreOf_4 : decode cX1_scoreOf 4 = .ok (.iload_n 1, 1) := by decide +kernel
theorem dX1_scoreOf_5 : decode cX1_scoreOf 5 = .ok (.bipush 40, 2) := by decide +kernel
theorem dX1_scoreOf_7 : decode cX1_scoreOf 7 = .ok (.imul, 1) := by decide +kernel
theorem dX1_scoreOf_8 : decode cX1_scoreOf 8 = .ok (.iload_n 2, 1) := by decide +kernel
theorem dX1_scoreOf_9 : decode cX1_scoreOf 9 = .ok (.iadd, 1) := by decide +kernel
theorem dX1_scoreOf_10 : decode cX1_scoreOf 10 = .ok (.iaload, 1) := by decide +kernel
theorem dX1_scoreOf_11 : decode cX1_scoreOf 11 = .ok (.istore_n 3, 1) := by decide +kernel
theorem dX1_scoreOf_12 : decode cX1_scoreOf 12 = .ok (.iload_n 3, 1) := by decide +kernel
theorem dX1_scoreOf_13 : decode cX1_scoreOf 13 = .ok (.ifCond .eq 26, 3) := by decide +kernel
theorem dX1_scoreOf_16 : decode cX1_scoreOf 16 = .ok (.aload_n 0, 1) := by decide +kernel
theorem dX1_scoreOf_17 : decode cX1_scoreOf 17 = .ok (.getfield 15, 3) := by decide +kernel
theorem dX1_scoreOf_20 : decode cX1_scoreOf 20 = .ok (.iload_n 1, 1) := by decide +kernel
theorem dX1_scoreOf_21 : decode cX1_scoreOf 21 = .ok (.iaload, 1) := by decide +kernel
theorem dX1_scoreOf_22 : decode cX1_scoreOf 22 = .ok (.ifCond .eq 17, 3) := by decide +kernel
theorem dX1_scoreOf_25 : decode cX1_scoreOf 25 = .ok (.aload_n 0, 1) := by decide +kernel
theorem dX1_scoreOf_26 : decode cX1_scoreOf 26 = .ok (.getfield 32, 3) := by decide +kernel
theorem dX1_scoreOf_29 : decode cX1_scoreOf 29 = .ok (.ifCond .eq 10, 3) := by decide +kernel
theorem dX1_scoreOf_32 : decode cX1_scoreOf 32 = .ok (.aload_n 0, 1) := by decide +kernel
theorem dX1_scoreOf_33 : decode cX1_scoreOf 33 = .ok (.getfield 42, 3) := by decide +kernel
theorem dX1_scoreOf_36 : decode cX1_scoreOf 36 = .ok (.ifCond .ne 5, 3) := by decide +kernel
theorem dX1_scoreOf_39 : decode cX1_scoreOf 39 = .ok (.dconst 0, 1) := by decide +kernel
theorem dX1_scoreOf_40 : decode cX1_scoreOf 40 = .ok (.dreturn, 1) := by decide +kernel
theorem dX1_scoreOf_41 : decode cX1_scoreOf 41 = .ok (.aload_n 0, 1) := by decide +kernel
theorem dX1_scoreOf_42 : decode cX1_scoreOf 42 = .ok (.getfield 42, 3) := by decide +kernel
theorem dX1_scoreOf_45 : decode cX1_scoreOf 45 = .ok (.i2d, 1) := by decide +kernel
theorem dX1_scoreOf_46 : decode cX1_scoreOf 46 = .ok (.aload_n 0, 1) := by decide +kernel
theorem dX1_scoreOf_47 : decode cX1_scoreOf 47 = .ok (.getfield 32, 3) := by decide +kernel
theorem dX1_scoreOf_50 : decode cX1_scoreOf 50 = .ok (.i2d, 1) := by decide +kernel
theorem dX1_scoreOf_51 : decode cX1_scoreOf 51 = .ok (.ddiv, 1) := by decide +kernel
theorem dX1_scoreOf_52 : decode cX1_scoreOf 52 = .ok (.dstore 4, 2) := by decide +kernel
theorem dX1_scoreOf_54 : decode cX1_scoreOf 54 = .ok (.ldc2_w 105, 3) := by decide +kernel
theorem dX1_scoreOf_57 : decode cX1_scoreOf 57 = .ok (.iload_n 3, 1) := by decide +kernel
theorem dX1_scoreOf_58 : decode cX1_scoreOf 58 = .ok (.i2d, 1) := by decide +kernel
theorem dX1_scoreOf_59 : decode cX1_scoreOf 59 = .ok (.dmul, 1) := by decide +kernel
theorem dX1_scoreOf_60 : decode cX1_scoreOf 60 = .ok (.ldc2_w 107, 3) := by decide +kernel
theorem dX1_scoreOf_63 : decode cX1_scoreOf 63 = .ok (.ldc2_w 109, 3) := by decide +kernel
theorem dX1_scoreOf_66 : decode cX1_scoreOf 66 = .ok (.ldc2_w 111, 3) := by decide +kernel
theorem dX1_scoreOf_69 : decode cX1_scoreOf 69 = .ok (.aload_n 0, 1) := by decide +kernel
theorem dX1_scoreOf_70 : decode cX1_scoreOf 70 = .ok (.getfield 29, 3) := by decide +kernel
theorem dX1_scoreOf_73 : decode cX1_scoreOf 73 = .ok (.iload_n 2, 1) := by decide +kernel
theorem dX1_scoreOf_74 : decode cX1_scoreOf 74 = .ok (.iaload, 1) := by decide +kernel
theorem dX1_scoreOf_75 : decode cX1_scoreOf 75 = .ok (.i2d, 1) := by decide +kernel
theorem dX1_scoreOf_76 : decode cX1_scoreOf 76 = .ok (.dmul, 1) := by decide +kernel
theorem dX1_scoreOf_77 : decode cX1_scoreOf 77 = .ok (.dload 4, 2) := by decide +kernel
theorem dX1_scoreOf_79 : decode cX1_scoreOf 79 = .ok (.ddiv, 1) := by decide +kernel
theorem dX1_scoreOf_80 : decode cX1_scoreOf 80 = .ok (.dadd, 1) := by decide +kernel
theorem dX1_scoreOf_81 : decode cX1_scoreOf 81 = .ok (.dmul, 1) := by decide +kernel
theorem dX1_scoreOf_82 : decode cX1_scoreOf 82 = .ok (.iload_n 3, 1) := by decide +kernel
theorem dX1_scoreOf_83 : decode cX1_scoreOf 83 = .ok (.i2d, 1) := by decide +kernel
theorem dX1_scoreOf_84 : decode cX1_scoreOf 84 = .ok (.dadd, 1) := by decide +kernel
theorem dX1_scoreOf_85 : decode cX1_scoreOf 85 = .ok (.ddiv, 1) := by decide +kernel
theorem dX1_scoreOf_86 : decode cX1_scoreOf 86 = .ok (.dstore 6, 2) := by decide +kernel
theorem dX1_scoreOf_88 : decode cX1_scoreOf 88 = .ok (.aload_n 0, 1) := by decide +kernel
theorem dX1_scoreOf_89 : decode cX1_scoreOf 89 = .ok (.getfield 32, 3) := by decide +kernel
theorem dX1_scoreOf_92 : decode cX1_scoreOf 92 = .ok (.i2d, 1) := by decide +kernel
theorem dX1_scoreOf_93 : decode cX1_scoreOf 93 = .ok (.aload_n 0, 1) := by decide +kernel
theorem dX1_scoreOf_94 : decode cX1_scoreOf 94 = .ok (.getfield 15, 3) := by decide +kernel
theorem dX1_scoreOf_97 : decode cX1_scoreOf 97 = .ok (.iload_n 1, 1) := by decide +kernel
theorem dX1_scoreOf_98 : decode cX1_scoreOf 98 = .ok (.iaload, 1) := by decide +kernel
theorem dX1_scoreOf_99 : decode cX1_scoreOf 99 = .ok (.i2d, 1) := by decide +kernel
theorem dX1_scoreOf_100 : decode cX1_scoreOf 100 = .ok (.ddiv, 1) := by decide +kernel
theorem dX1_scoreOf_101 : decode cX1_scoreOf 101 = .ok (.invokestatic 113, 3) := by decide +kernel
theorem dX1_scoreOf_104 : decode cX1_scoreOf 104 = .ok (.dload 6, 2) := by decide +kernel
theorem dX1_scoreOf_106 : decode cX1_scoreOf 106 = .ok (.dmul, 1) := by decide +kernel
theorem dX1_scoreOf_107 : decode cX1_scoreOf 107 = .ok (.dreturn, 1) := by decide +kernel
theorem dX1_leastScore_0 : decode cX1_leastScore 0 = .ok (.ldc2_w 117, 3) := by decide +kernel
theorem dX1_leastScore_3 : decode cX1_leastScore 3 = .ok (.dstore_n 1, 1) := by decide +kernel
theorem dX1_leastScore_4 : decode cX1_leastScore 4 = .ok (.iconst 0, 1) := by decide +kernel
theorem dX1_leastScore_5 : decode cX1_leastScore 5 = .ok (.istore_n 3, 1) := by decide +kernel
theorem dX1_leastScore_6 : decode cX1_leastScore 6 = .ok (.iload_n 3, 1) := by decide +kernel
theorem dX1_leastScore_7 : decode cX1_leastScore 7 = .ok (.aload_n 0, 1) := by decide +kernel
theorem dX1_leastScore_8 : decode cX1_leastScore 8 = .ok (.getfield 36, 3) := by decide +kernel
theorem dX1_leastScore_11 : decode cX1_leastScore 11 = .ok (.bipush 40, 2) := by decide +kernel
theorem dX1_leastScore_13 : decode cX1_leastScore 13 = .ok (.imul, 1) := by decide +kernel
theorem dX1_leastScore_14 : decode cX1_leastScore 14 = .ok (.if_icmp .ge 41, 3) := by decide +kernel
theorem dX1_leastScore_17 : decode cX1_leastScore 17 = .ok (.aload_n 0, 1) := by decide +kernel
theorem dX1_leastScore_18 : decode cX1_leastScore 18 = .ok (.iload_n 3, 1) := by decide +kernel
theorem dX1_leastScore_19 : decode cX1_leastScore 19 = .ok (.invokevirtual 87, 3) := by decide +kernel
theorem dX1_leastScore_22 : decode cX1_leastScore 22 = .ok (.ifCond .eq 27, 3) := by decide +kernel
theorem dX1_leastScore_25 : decode cX1_leastScore 25 = .ok (.dload_n 1, 1) := by decide +kernel
theorem dX1_leastScore_26 : decode cX1_leastScore 26 = .ok (.dconst 0, 1) := by decide +kernel
theorem dX1_leastScore_27 : decode cX1_leastScore 27 = .ok (.dcmp .g, 1) := by decide +kernel
theorem dX1_leastScore_28 : decode cX1_leastScore 28 = .ok (.ifCond .lt 14, 3) := by decide +kernel
theorem dX1_leastScore_31 : decode cX1_leastScore 31 = .ok (.aload_n 0, 1) := by decide +kernel
theorem dX1_leastScore_32 : decode cX1_leastScore 32 = .ok (.getfield 22, 3) := by decide +kernel
theorem dX1_leastScore_35 : decode cX1_leastScore 35 = .ok (.iload_n 3, 1) := by decide +kernel
theorem dX1_leastScore_36 : decode cX1_leastScore 36 = .ok (.daload, 1) := by decide +kernel
theorem dX1_leastScore_37 : decode cX1_leastScore 37 = .ok (.dload_n 1, 1) := by decide +kernel
theorem dX1_leastScore_38 : decode cX1_leastScore 38 = .ok (.dcmp .g, 1) := by decide +kernel
theorem dX1_leastScore_39 : decode cX1_leastScore 39 = .ok (.ifCond .ge 10, 3) := by decide +kernel
theorem dX1_leastScore_42 : decode cX1_leastScore 42 = .ok (.aload_n 0, 1) := by decide +kernel
theorem dX1_leastScore_43 : decode cX1_leastScore 43 = .ok (.getfield 22, 3) := by decide +kernel
theorem dX1_leastScore_46 : decode cX1_leastScore 46 = .ok (.iload_n 3, 1) := by decide +kernel
theorem dX1_leastScore_47 : decode cX1_leastScore 47 = .ok (.daload, 1) := by decide +kernel
theorem dX1_leastScore_48 : decode cX1_leastScore 48 = .ok (.dstore_n 1, 1) := by decide +kernel
theorem dX1_leastScore_49 : decode cX1_leastScore 49 = .ok (.iinc 3 1, 3) := by decide +kernel
theorem dX1_leastScore_52 : decode cX1_leastScore 52 = .ok (.goto (-46), 3) := by decide +kernel
theorem dX1_leastScore_55 : decode cX1_leastScore 55 = .ok (.dload_n 1, 1) := by decide +kernel
theorem dX1_leastScore_56 : decode cX1_leastScore 56 = .ok (.dreturn, 1) := by decide +kernel
theorem dX1_greatestScore_0 : decode cX1_greatestScore 0 = .ok (.ldc2_w 117, 3) := by decide +kernel
theorem dX1_greatestScore_3 : decode cX1_greatestScore 3 = .ok (.dstore_n 1, 1) := by decide +kernel
theorem dX1_greatestScore_4 : decode cX1_greatestScore 4 = .ok (.iconst 0, 1) := by decide +kernel
theorem dX1_greatestScore_5 : decode cX1_greatestScore 5 = .ok (.istore_n 3, 1) := by decide +kernel
theorem dX1_greatestScore_6 : decode cX1_greatestScore 6 = .ok (.iload_n 3, 1) := by decide +kernel
theorem dX1_greatestScore_7 : decode cX1_greatestScore 7 = .ok (.aload_n 0, 1) := by decide +kernel
theorem dX1_greatestScore_8 : decode cX1_greatestScore 8 = .ok (.getfield 36, 3) := by decide +kernel
theorem dX1_greatestScore_11 : decode cX1_greatestScore 11 = .ok (.bipush 40, 2) := by decide +kernel
theorem dX1_greatestScore_13 : decode cX1_greatestScore 13 = .ok (.imul, 1) := by decide +kernel
theorem dX1_greatestScore_14 : decode cX1_greatestScore 14 = .ok (.if_icmp .ge 35, 3) := by decide +kernel
theorem dX1_greatestScore_17 : decode cX1_greatestScore 17 = .ok (.aload_n 0, 1) := by decide +kernel
theorem dX1_greatestScore_18 : decode cX1_greatestScore 18 = .ok (.iload_n 3, 1) := by decide +kernel
theorem dX1_greatestScore_19 : decode cX1_greatestScore 19 = .ok (.invokevirtual 87, 3) := by decide +kernel
theorem dX1_greatestScore_22 : decode cX1_greatestScore 22 = .ok (.ifCond .eq 21, 3) := by decide +kernel
theorem dX1_greatestScore_25 : decode cX1_greatestScore 25 = .ok (.aload_n 0, 1) := by decide +kernel
theorem dX1_greatestScore_26 : decode cX1_greatestScore 26 = .ok (.getfield 22, 3) := by decide +kernel
theorem dX1_greatestScore_29 : decode cX1_greatestScore 29 = .ok (.iload_n 3, 1) := by decide +kernel
theorem dX1_greatestScore_30 : decode cX1_greatestScore 30 = .ok (.daload, 1) := by decide +kernel
theorem dX1_greatestScore_31 : decode cX1_greatestScore 31 = .ok (.dload_n 1, 1) := by decide +kernel
theorem dX1_greatestScore_32 : decode cX1_greatestScore 32 = .ok (.dcmp .l, 1) := by decide +kernel
theorem dX1_greatestScore_33 : decode cX1_greatestScore 33 = .ok (.ifCond .le 10, 3) := by decide +kernel
theorem dX1_greatestScore_36 : decode cX1_greatestScore 36 = .ok (.aload_n 0, 1) := by decide +kernel
theorem dX1_greatestScore_37 : decode cX1_greatestScore 37 = .ok (.getfield 22, 3) := by decide +kernel
theorem dX1_greatestScore_40 : decode cX1_greatestScore 40 = .ok (.iload_n 3, 1) := by decide +kernel
theorem dX1_greatestScore_41 : decode cX1_greatestScore 41 = .ok (.daload, 1) := by decide +kernel
theorem dX1_greatestScore_42 : decode cX1_greatestScore 42 = .ok (.dstore_n 1, 1) := by decide +kernel
theorem dX1_greatestScore_43 : decode cX1_greatestScore 43 = .ok (.iinc 3 1, 3) := by decide +kernel
theorem dX1_greatestScore_46 : decode cX1_greatestScore 46 = .ok (.goto (-40), 3) := by decide +kernel
theorem dX1_greatestScore_49 : decode cX1_greatestScore 49 = .ok (.dload_n 1, 1) := by decide +kernel
theorem dX1_greatestScore_50 : decode cX1_greatestScore 50 = .ok (.dreturn, 1) := by decide +kernel
theorem dX1_isPosting_0 : decode cX1_isPosting 0 = .ok (.aload_n 0, 1) := by decide +kernel
theorem dX1_isPosting_1 : decode cX1_isPosting 1 = .ok (.getfield 19, 3) := by decide +kernel
theorem dX1_isPosting_4 : decode cX1_isPosting 4 = .ok (.iload_n 1, 1) := by decide +kernel
theorem dX1_isPosting_5 : decode cX1_isPosting 5 = .ok (.iaload, 1) := by decide +kernel
theorem dX1_isPosting_6 : decode cX1_isPosting 6 = .ok (.ifCond .le 7, 3) := by decide +kernel
theorem dX1_isPosting_9 : decode cX1_isPosting 9 = .ok (.iconst 1, 1) := by decide +kernel
theorem dX1_isPosting_10 : decode cX1_isPosting 10 = .ok (.goto 4, 3) := by decide +kernel
theorem dX1_isPosting_13 : decode cX1_isPosting 13 = .ok (.iconst 0, 1) := by decide +kernel
theorem dX1_isPosting_14 : decode cX1_isPosting 14 = .ok (.ireturn, 1) := by decide +kernel
theorem dX1_impactOf_0 : decode cX1_impactOf 0 = .ok (.dload 4, 2) := by decide +kernel
theorem dX1_impactOf_2 : decode cX1_impactOf 2 = .ok (.dload_n 2, 1) := by decide +kernel
theorem dX1_impactOf_3 : decode cX1_impactOf 3 = .ok (.dcmp .l, 1) := by decide +kernel
theorem dX1_impactOf_4 : decode cX1_impactOf 4 = .ok (.ifCond .ne 6, 3) := by decide +kernel
theorem dX1_impactOf_7 : decode cX1_impactOf 7 = .ok (.iload 6, 2) := by decide +kernel
theorem dX1_impactOf_9 : decode cX1_impactOf 9 = .ok (.ireturn, 1) := by decide +kernel
theorem dX1_impactOf_10 : decode cX1_impactOf 10 = .ok (.dconst 1, 1) := by decide +kernel
theorem dX1_impactOf_11 : decode cX1_impactOf 11 = .ok (.dload_n 0, 1) := by decide +kernel
theorem dX1_impactOf_12 : decode cX1_impactOf 12 = .ok (.dload_n 2, 1) := by decide +kernel
theorem dX1_impactOf_13 : decode cX1_impactOf 13 = .ok (.dsub, 1) := by decide +kernel
theorem dX1_impactOf_14 : decode cX1_impactOf 14 = .ok (.iload 6, 2) := by decide +kernel
theorem dX1_impactOf_16 : decode cX1_impactOf 16 = .ok (.iconst 1, 1) := by decide +kernel
theorem dX1_impactOf_17 : decode cX1_impactOf 17 = .ok (.isub, 1) := by decide +kernel
theorem dX1_impactOf_18 : decode cX1_impactOf 18 = .ok (.i2d, 1) := by decide +kernel
theorem dX1_impactOf_19 : decode cX1_impactOf 19 = .ok (.dmul, 1) := by decide +kernel
theorem dX1_impactOf_20 : decode cX1_impactOf 20 = .ok (.dload 4, 2) := by decide +kernel
theorem dX1_impactOf_22 : decode cX1_impactOf 22 = .ok (.dload_n 2, 1) := by decide +kernel
theorem dX1_impactOf_23 : decode cX1_impactOf 23 = .ok (.dsub, 1) := by decide +kernel
theorem dX1_impactOf_24 : decode cX1_impactOf 24 = .ok (.ddiv, 1) := by decide +kernel
theorem dX1_impactOf_25 : decode cX1_impactOf 25 = .ok (.dadd, 1) := by decide +kernel
theorem dX1_impactOf_26 : decode cX1_impactOf 26 = .ok (.ldc2_w 119, 3) := by decide +kernel
theorem dX1_impactOf_29 : decode cX1_impactOf 29 = .ok (.dadd, 1) := by decide +kernel
theorem dX1_impactOf_30 : decode cX1_impactOf 30 = .ok (.d2i, 1) := by decide +kernel
theorem dX1_impactOf_31 : decode cX1_impactOf 31 = .ok (.ireturn, 1) := by decide +kernel
theorem dX1_logarithm_0 : decode cX1_logarithm 0 = .ok (.dload_n 0, 1) := by decide +kernel
theorem dX1_logarithm_1 : decode cX1_logarithm 1 = .ok (.dstore_n 2, 1) := by decide +kernel
theorem dX1_logarithm_2 : decode cX1_logarithm 2 = .ok (.iconst 0, 1) := by decide +kernel
theorem dX1_logarithm_3 : decode cX1_logarithm 3 = .ok (.istore 4, 2) := by decide +kernel
theorem dX1_logarithm_5 : decode cX1_logarithm 5 = .ok (.dload_n 2, 1) := by decide +kernel
theorem dX1_logarithm_6 : decode cX1_logarithm 6 = .ok (.ldc2_w 121, 3) := by decide +kernel
theorem dX1_logarithm_9 : decode cX1_logarithm 9 = .ok (.dcmp .l, 1) := by decide +kernel
theorem dX1_logarithm_10 : decode cX1_logarithm 10 = .ok (.ifCond .lt 23, 3) := by decide +kernel
theorem dX1_logarithm_13 : decode cX1_logarithm 13 = .ok (.iload 4, 2) := by decide +kernel
theorem dX1_logarithm_15 : decode cX1_logarithm 15 = .ok (.sipush 1100, 3) := by decide +kernel
theorem dX1_logarithm_18 : decode cX1_logarithm 18 = .ok (.if_icmp .ge 15, 3) := by decide +kernel
theorem dX1_logarithm_21 : decode cX1_logarithm 21 = .ok (.dload_n 2, 1) := by decide +kernel
theorem dX1_logarithm_22 : decode cX1_logarithm 22 = .ok (.ldc2_w 121, 3) := by decide +kernel
theorem dX1_logarithm_25 : decode cX1_logarithm 25 = .ok (.ddiv, 1) := by decide +kernel
theorem dX1_logarithm_26 : decode cX1_logarithm 26 = .ok (.dstore_n 2, 1) := by decide +kernel
theorem dX1_logarithm_27 : decode cX1_logarithm 27 = .ok (.iinc 4 1, 3) := by decide +kernel
theorem dX1_logarithm_30 : decode cX1_logarithm 30 = .ok (.goto (-25), 3) := by decide +kernel
theorem dX1_logarithm_33 : decode cX1_logarithm 33 = .ok (.dload_n 2, 1) := by decide +kernel
theorem dX1_logarithm_34 : decode cX1_logarithm 34 = .ok (.dconst 1, 1) := by decide +kernel
theorem dX1_logarithm_35 : decode cX1_logarithm 35 = .ok (.dsub, 1) := by decide +kernel
theorem dX1_logarithm_36 : decode cX1_logarithm 36 = .ok (.dload_n 2, 1) := by decide +kernel
theorem dX1_logarithm_37 : decode cX1_logarithm 37 = .ok (.dconst 1, 1) := by decide +kernel
theorem dX1_logarithm_38 : decode cX1_logarithm 38 = .ok (.dadd, 1) := by decide +kernel
theorem dX1_logarithm_39 : decode cX1_logarithm 39 = .ok (.ddiv, 1) := by decide +kernel
theorem dX1_logarithm_40 : decode cX1_logarithm 40 = .ok (.dstore 5, 2) := by decide +kernel
theorem dX1_logarithm_42 : decode cX1_logarithm 42 = .ok (.dload 5, 2) := by decide +kernel
theorem dX1_logarithm_44 : decode cX1_logarithm 44 = .ok (.dstore 7, 2) := by decide +kernel
theorem dX1_logarithm_46 : decode cX1_logarithm 46 = .ok (.dconst 0, 1) := by decide +kernel
theorem dX1_logarithm_47 : decode cX1_logarithm 47 = .ok (.dstore 9, 2) := by decide +kernel
theorem dX1_logarithm_49 : decode cX1_logarithm 49 = .ok (.iconst 1, 1) := by decide +kernel
theorem dX1_logarithm_50 : decode cX1_logarithm 50 = .ok (.istore 11, 2) := by decide +kernel
theorem dX1_logarithm_52 : decode cX1_logarithm 52 = .ok (.iload 11, 2) := by decide +kernel
theorem dX1_logarithm_54 : decode cX1_logarithm 54 = .ok (.bipush 23, 2) := by decide +kernel
theorem dX1_logarithm_56 : decode cX1_logarithm 56 = .ok (.if_icmp .gt 30, 3) := by decide +kernel
theorem dX1_logarithm_59 : decode cX1_logarithm 59 = .ok (.dload 9, 2) := by decide +kernel
theorem dX1_logarithm_61 : decode cX1_logarithm 61 = .ok (.dload 7, 2) := by decide +kernel
theorem dX1_logarithm_63 : decode cX1_logarithm 63 = .ok (.iload 11, 2) := by decide +kernel
theorem dX1_logarithm_65 : decode cX1_logarithm 65 = .ok (.i2d, 1) := by decide +kernel
theorem dX1_logarithm_66 : decode cX1_logarithm 66 = .ok (.ddiv, 1) := by decide +kernel
theorem dX1_logarithm_67 : decode cX1_logarithm 67 = .ok (.dadd, 1) := by decide +kernel
theorem dX1_logarithm_68 : decode cX1_logarithm 68 = .ok (.dstore 9, 2) := by decide +kernel
theorem dX1_logarithm_70 : decode cX1_logarithm 70 = .ok (.dload 7, 2) := by decide +kernel
theorem dX1_logarithm_72 : decode cX1_logarithm 72 = .ok (.dload 5, 2) := by decide +kernel
theorem dX1_logarithm_74 : decode cX1_logarithm 74 = .ok (.dmul, 1) := by decide +kernel
theorem dX1_logarithm_75 : decode cX1_logarithm 75 = .ok (.dload 5, 2) := by decide +kernel
theorem dX1_logarithm_77 : decode cX1_logarithm 77 = .ok (.dmul, 1) := by decide +kernel
theorem dX1_logarithm_78 : decode cX1_logarithm 78 = .ok (.dstore 7, 2) := by decide +kernel
theorem dX1_logarithm_80 : decode cX1_logarithm 80 = .ok (.iinc 11 2, 3) := by decide +kernel
theorem dX1_logarithm_83 : decode cX1_logarithm 83 = .ok (.goto (-31), 3) := by decide +kernel
theorem dX1_logarithm_86 : decode cX1_logarithm 86 = .ok (.ldc2_w 121, 3) := by decide +kernel
theorem dX1_logarithm_89 : decode cX1_logarithm 89 = .ok (.dload 9, 2) := by decide +kernel
theorem dX1_logarithm_91 : decode cX1_logarithm 91 = .ok (.dmul, 1) := by decide +kernel
theorem dX1_logarithm_92 : decode cX1_logarithm 92 = .ok (.iload 4, 2) := by decide +kernel
theorem dX1_logarithm_94 : decode cX1_logarithm 94 = .ok (.i2d, 1) := by decide +kernel
theorem dX1_logarithm_95 : decode cX1_logarithm 95 = .ok (.ldc2_w 123, 3) := by decide +kernel
theorem dX1_logarithm_98 : decode cX1_logarithm 98 = .ok (.dmul, 1) := by decide +kernel
theorem dX1_logarithm_99 : decode cX1_logarithm 99 = .ok (.dadd, 1) := by decide +kernel
theorem dX1_logarithm_100 : decode cX1_logarithm 100 = .ok (.dreturn, 1) := by decide +kernel
theorem dX2_init_0 : decode cX2_init 0 = .ok (.aload_n 0, 1) := by decide +kernel
theorem dX2_init_1 : decode cX2_init 1 = .ok (.invokespecial 3, 3) := by decide +kernel
theorem dX2_init_4 : decode cX2_init 4 = .ok (.aload_n 0, 1) := by decide +kernel
theorem dX2_init_5 : decode cX2_init 5 = .ok (.bipush 40, 2) := by decide +kernel
theorem dX2_init_7 : decode cX2_init 7 = .ok (.newarray .int, 2) := by decide +kernel
theorem dX2_init_9 : decode cX2_init 9 = .ok (.putfield 9, 3) := by decide +kernel
theorem dX2_init_12 : decode cX2_init 12 = .ok (.aload_n 0, 1) := by decide +kernel
theorem dX2_init_13 : decode cX2_init 13 = .ok (.iconst 0, 1) := by decide +kernel
theorem dX2_init_14 : decode cX2_init 14 = .ok (.putfield 15, 3) := by decide +kernel
theorem dX2_init_17 : decode cX2_init 17 = .ok (.return_, 1) := by decide +kernel
theorem dX2_take_0 : decode cX2_take 0 = .ok (.aload_n 1, 1) := by decide +kernel
theorem dX2_take_1 : decode cX2_take 1 = .ok (.getfield 19, 3) := by decide +kernel
theorem dX2_take_4 : decode cX2_take 4 = .ok (.iload_n 2, 1) := by decide +kernel
theorem dX2_take_5 : decode cX2_take 5 = .ok (.iaload, 1) := by decide +kernel
theorem dX2_take_6 : decode cX2_take 6 = .ok (.istore_n 3, 1) := by decide +kernel
theorem dX2_take_7 : decode cX2_take 7 = .ok (.aload_n 0, 1) := by decide +kernel
theorem dX2_take_8 : decode cX2_take 8 = .ok (.aload_n 1, 1) := by decide +kernel
theorem dX2_take_9 : decode cX2_take 9 = .ok (.iload_n 2, 1) := by decide +kernel
theorem dX2_take_10 : decode cX2_take 10 = .ok (.invokevirtual 24, 3) := by decide +kernel
theorem dX2_take_13 : decode cX2_take 13 = .ok (.bipush 40, 2) := by decide +kernel
theorem dX2_take_15 : decode cX2_take 15 = .ok (.invokestatic 28, 3) := by decide +kernel
theorem dX2_take_18 : decode cX2_take 18 = .ok (.putfield 15, 3) := by decide +kernel
theorem dX2_take_21 : decode cX2_take 21 = .ok (.iconst (-1), 1) := by decide +kernel
theorem dX2_take_22 : decode cX2_take 22 = .ok (.istore 4, 2) := by decide +kernel
theorem dX2_take_24 : decode cX2_take 24 = .ok (.iconst 0, 1) := by decide +kernel
theorem dX2_take_25 : decode cX2_take 25 = .ok (.istore 5, 2) := by decide +kernel
theorem dX2_take_27 : decode cX2_take 27 = .ok (.iload 5, 2) := by decide +kernel
theorem dX2_take_29 : decode cX2_take 29 = .ok (.aload_n 0, 1) := by decide +kernel
theorem dX2_take_30 : decode cX2_take 30 = .ok (.getfield 15, 3) := by decide +kernel
theorem dX2_take_33 : decode cX2_take 33 = .ok (.if_icmp .ge 41, 3) := by decide +kernel
theorem dX2_take_36 : decode cX2_take 36 = .ok (.aload_n 0, 1) := by decide +kernel
theorem dX2_take_37 : decode cX2_take 37 = .ok (.getfield 9, 3) := by decide +kernel
theorem dX2_take_40 : decode cX2_take 40 = .ok (.iload 5, 2) := by decide +kernel
theorem dX2_take_42 : decode cX2_take 42 = .ok (.aload_n 1, 1) := by decide +kernel
theorem dX2_take_43 : decode cX2_take 43 = .ok (.getfield 34, 3) := by decide +kernel
theorem dX2_take_46 : decode cX2_take 46 = .ok (.iload_n 3, 1) := by decide +kernel
theorem dX2_take_47 : decode cX2_take 47 = .ok (.iload 5, 2) := by decide +kernel
theorem dX2_take_49 : decode cX2_take 49 = .ok (.iadd, 1) := by decide +kernel
theorem dX2_take_50 : decode cX2_take 50 = .ok (.iaload, 1) := by decide +kernel
theorem dX2_take_51 : decode cX2_take 51 = .ok (.iload 4, 2) := by decide +kernel
theorem dX2_take_53 : decode cX2_take 53 = .ok (.isub, 1) := by decide +kernel
theorem dX2_take_54 : decode cX2_take 54 = .ok (.iconst 1, 1) := by decide +kernel
theorem dX2_take_55 : decode cX2_take 55 = .ok (.isub, 1) := by decide +kernel
theorem dX2_take_56 : decode cX2_take 56 = .ok (.iastore, 1) := by decide +kernel
theorem dX2_take_57 : decode cX2_take 57 = .ok (.aload_n 1, 1) := by decide +kernel
theorem dX2_take_58 : decode cX2_take 58 = .ok (.getfield 34, 3) := by decide +kernel
theorem dX2_take_61 : decode cX2_take 61 = .ok (.iload_n 3, 1) := by decide +kernel
theorem dX2_take_62 : decode cX2_take 62 = .ok (.iload 5, 2) := by decide +kernel
theorem dX2_take_64 : decode cX2_take 64 = .ok (.iadd, 1) := by decide +kernel
theorem dX2_take_65 : decode cX2_take 65 = .ok (.iaload, 1) := by decide +kernel
theorem dX2_take_66 : decode cX2_take 66 = .ok (.istore 4, 2) := by decide +kernel
theorem dX2_take_68 : decode cX2_take 68 = .ok (.iinc 5 1, 3) := by decide +kernel
theorem dX2_take_71 : decode cX2_take 71 = .ok (.goto (-44), 3) := by decide +kernel
theorem dX2_take_74 : decode cX2_take 74 = .ok (.return_, 1) := by decide +kernel
theorem dX2_write_0 : decode cX2_write 0 = .ok (.iload_n 1, 1) := by decide +kernel
theorem dX2_write_1 : decode cX2_write 1 = .ok (.lookupswitch 43 #[(0, 27), (1, 35)], 27) := by decide +kernel
theorem dX2_write_28 : decode cX2_write 28 = .ok (.aload_n 0, 1) := by decide +kernel
theorem dX2_write_29 : decode cX2_write 29 = .ok (.aload_n 2, 1) := by decide +kernel
theorem dX2_write_30 : decode cX2_write 30 = .ok (.invokevirtual 37, 3) := by decide +kernel
theorem dX2_write_33 : decode cX2_write 33 = .ok (.goto 16, 3) := by decide +kernel
theorem dX2_write_36 : decode cX2_write 36 = .ok (.aload_n 0, 1) := by decide +kernel
theorem dX2_write_37 : decode cX2_write 37 = .ok (.aload_n 2, 1) := by decide +kernel
theorem dX2_write_38 : decode cX2_write 38 = .ok (.invokevirtual 41, 3) := by decide +kernel
theorem dX2_write_41 : decode cX2_write 41 = .ok (.goto 8, 3) := by decide +kernel
theorem dX2_write_44 : decode cX2_write 44 = .ok (.aload_n 0, 1) := by decide +kernel
theorem dX2_write_45 : decode cX2_write 45 = .ok (.aload_n 2, 1) := by decide +kernel
theorem dX2_write_46 : decode cX2_write 46 = .ok (.invokevirtual 44, 3) := by decide +kernel
theorem dX2_write_49 : decode cX2_write 49 = .ok (.return_, 1) := by decide +kernel
theorem dX2_read_0 : decode cX2_read 0 = .ok (.aload_n 0, 1) := by decide +kernel
theorem dX2_read_1 : decode cX2_read 1 = .ok (.iload_n 2, 1) := by decide +kernel
theorem dX2_read_2 : decode cX2_read 2 = .ok (.putfield 15, 3) := by decide +kernel
theorem dX2_read_5 : decode cX2_read 5 = .ok (.iload_n 1, 1) := by decide +kernel
theorem dX2_read_6 : decode cX2_read 6 = .ok (.lookupswitch 38 #[(0, 26), (1, 32)], 26) := by decide +kernel
theorem dX2_read_32 : decode cX2_read 32 = .ok (.aload_n 0, 1) := by decide +kernel
theorem dX2_read_33 : decode cX2_read 33 = .ok (.aload_n 3, 1) := by decide +kernel
theorem dX2_read_34 : decode cX2_read 34 = .ok (.invokevirtual 47, 3) := by decide +kernel
theorem dX2_read_37 : decode cX2_read 37 = .ok (.ireturn, 1) := by decide +kernel
theorem dX2_read_38 : decode cX2_read 38 = .ok (.aload_n 0, 1) := by decide +kernel
theorem dX2_read_39 : decode cX2_read 39 = .ok (.aload_n 3, 1) := by decide +kernel
theorem dX2_read_40 : decode cX2_read 40 = .ok (.invokevirtual 51, 3) := by decide +kernel
theorem dX2_read_43 : decode cX2_read 43 = .ok (.ireturn, 1) := by decide +kernel
theorem dX2_read_44 : decode cX2_read 44 = .ok (.aload_n 0, 1) := by decide +kernel
theorem dX2_read_45 : decode cX2_read 45 = .ok (.aload_n 3, 1) := by decide +kernel
theorem dX2_read_46 : decode cX2_read 46 = .ok (.invokevirtual 54, 3) := by decide +kernel
theorem dX2_read_49 : decode cX2_read 49 = .ok (.ireturn, 1) := by decide +kernel
theorem dX2_writeSevens_0 : decode cX2_writeSevens 0 = .ok (.iconst 0, 1) := by decide +kernel
theorem dX2_writeSevens_1 : decode cX2_writeSevens 1 = .ok (.istore_n 2, 1) := by decide +kernel
theorem dX2_writeSevens_2 : decode cX2_writeSevens 2 = .ok (.iload_n 2, 1) := by decide +kernel
theorem dX2_writeSevens_3 : decode cX2_writeSevens 3 = .ok (.aload_n 0, 1) := by decide +kernel
theorem dX2_writeSevens_4 : decode cX2_writeSevens 4 = .ok (.getfield 15, 3) := by decide +kernel
theorem dX2_writeSevens_7 : decode cX2_writeSevens 7 = .ok (.if_icmp .ge 23, 3) := by decide +kernel
theorem dX2_writeSevens_10 : decode cX2_writeSevens 10 = .ok (.aload_n 1, 1) := by decide +kernel
theorem dX2_writeSevens_11 : decode cX2_writeSevens 11 = .ok (.aload_n 0, 1) := by decide +kernel
theorem dX2_writeSevens_12 : decode cX2_writeSevens 12 = .ok (.getfield 9, 3) := by decide +kernel
theorem dX2_writeSevens_15 : decode cX2_writeSevens 15 = .ok (.iload_n 2, 1) := by decide +kernel
theorem dX2_writeSevens_16 : decode cX2_writeSevens 16 = .ok (.iaload, 1) := by decide +kernel
theorem dX2_writeSevens_17 : decode cX2_writeSevens 17 = .ok (.sipush 128, 3) := by decide +kernel
theorem dX2_writeSevens_20 : decode cX2_writeSevens 20 = .ok (.iadd, 1) := by decide +kernel
theorem dX2_writeSevens_21 : decode cX2_writeSevens 21 = .ok (.invokevirtual 57, 3) := by decide +kernel
theorem dX2_writeSevens_24 : decode cX2_writeSevens 24 = .ok (.iinc 2 1, 3) := by decide +kernel
theorem dX2_writeSevens_27 : decode cX2_writeSevens 27 = .ok (.goto (-25), 3) := by decide +kernel
theorem dX2_writeSevens_30 : decode cX2_writeSevens 30 = .ok (.return_, 1) := by decide +kernel
theorem dX2_readSevens_0 : decode cX2_readSevens 0 = .ok (.iconst 0, 1) := by decide +kernel
theorem dX2_readSevens_1 : decode cX2_readSevens 1 = .ok (.istore_n 2, 1) := by decide +kernel
theorem dX2_readSevens_2 : decode cX2_readSevens 2 = .ok (.iload_n 2, 1) := by decide +kernel
theorem dX2_readSevens_3 : decode cX2_readSevens 3 = .ok (.aload_n 0, 1) := by decide +kernel
theorem dX2_readSevens_4 : decode cX2_readSevens 4 = .ok (.getfield 15, 3) := by decide +kernel
theorem dX2_readSevens_7 : decode cX2_readSevens 7 = .ok (.if_icmp .ge 34, 3) := by decide +kernel
theorem dX2_readSevens_10 : decode cX2_readSevens 10 = .ok (.aload_n 1, 1) := by decide +kernel
theorem dX2_readSevens_11 : decode cX2_readSevens 11 = .ok (.invokevirtual 63, 3) := by decide +kernel
theorem dX2_readSevens_14 : decode cX2_readSevens 14 = .ok (.istore_n 3, 1) := by decide +kernel
theorem dX2_readSevens_15 : decode cX2_readSevens 15 = .ok (.iload_n 3, 1) := by decide +kernel
theorem dX2_readSevens_16 : decode cX2_readSevens 16 = .ok (.sipush 128, 3) := by decide +kernel
theorem dX2_readSevens_19 : decode cX2_readSevens 19 = .ok (.if_icmp .ge 5, 3) := by decide +kernel
theorem dX2_readSevens_22 : decode cX2_readSevens 22 = .ok (.iconst 0, 1) := by decide +kernel
theorem dX2_readSevens_23 : decode cX2_readSevens 23 = .ok (.ireturn, 1) := by decide +kernel
theorem dX2_readSevens_24 : decode cX2_readSevens 24 = .ok (.aload_n 0, 1) := by decide +kernel
theorem dX2_readSevens_25 : decode cX2_readSevens 25 = .ok (.getfield 9, 3) := by decide +kernel
theorem dX2_readSevens_28 : decode cX2_readSevens 28 = .ok (.iload_n 2, 1) := by decide +kernel
theorem dX2_readSevens_29 : decode cX2_readSevens 29 = .ok (.iload_n 3, 1) := by decide +kernel
theorem dX2_readSevens_30 : decode cX2_readSevens 30 = .ok (.sipush 128, 3) := by decide +kernel
theorem dX2_readSevens_33 : decode cX2_readSevens 33 = .ok (.isub, 1) := by decide +kernel
theorem dX2_readSevens_34 : decode cX2_readSevens 34 = .ok (.iastore, 1) := by decide +kernel
theorem dX2_readSevens_35 : decode cX2_readSevens 35 = .ok (.iinc 2 1, 3) := by decide +kernel
theorem dX2_readSevens_38 : decode cX2_readSevens 38 = .ok (.goto (-36), 3) := by decide +kernel
theorem dX2_readSevens_41 : decode cX2_readSevens 41 = .ok (.iconst 1, 1) := by decide +kernel
theorem dX2_readSevens_42 : decode cX2_readSevens 42 = .ok (.ireturn, 1) := by decide +kernel
theorem dX2_writeWords_0 : decode cX2_writeWords 0 = .ok (.iconst 0, 1) := by decide +kernel
theorem dX2_writeWords_1 : decode cX2_writeWords 1 = .ok (.istore_n 2, 1) := by decide +kernel
theorem dX2_writeWords_2 : decode cX2_writeWords 2 = .ok (.iconst 0, 1) := by decide +kernel
theorem dX2_writeWords_3 : decode cX2_writeWords 3 = .ok (.istore_n 3, 1) := by decide +kernel
theorem dX2_writeWords_4 : decode cX2_writeWords 4 = .ok (.iload_n 3, 1) := by decide +kernel
theorem dX2_writeWords_5 : decode cX2_writeWords 5 = .ok (.aload_n 0, 1) := by decide +kernel
theorem dX2_writeWords_6 : decode cX2_writeWords 6 = .ok (.getfield 15, 3) := by decide +kernel
theorem dX2_writeWords_9 : decode cX2_writeWords 9 = .ok (.if_icmp .ge 100, 3) := by decide +kernel
theorem dX2_writeWords_12 : decode cX2_writeWords 12 = .ok (.iload_n 2, 1) := by decide +kernel
theorem dX2_writeWords_13 : decode cX2_writeWords 13 = .ok (.aload_n 0, 1) := by decide +kernel
theorem dX2_writeWords_14 : decode cX2_writeWords 14 = .ok (.getfield 15, 3) := by decide +kernel
theorem dX2_writeWords_17 : decode cX2_writeWords 17 = .ok (.if_icmp .ge 92, 3) := by decide +kernel
theorem dX2_writeWords_20 : decode cX2_writeWords 20 = .ok (.aload_n 0, 1) := by decide +kernel
theorem dX2_writeWords_21 : decode cX2_writeWords 21 = .ok (.iload_n 2, 1) := by decide +kernel
theorem dX2_writeWords_22 : decode cX2_writeWords 22 = .ok (.invokevirtual 67, 3) := by decide +kernel
theorem dX2_writeWords_25 : decode cX2_writeWords 25 = .ok (.istore 4, 2) := by decide +kernel
theorem dX2_writeWords_27 : decode cX2_writeWords 27 = .ok (.getstatic 70, 3) := by decide +kernel
theorem dX2_writeWords_30 : decode cX2_writeWords 30 = .ok (.iload 4, 2) := by decide +kernel
theorem dX2_writeWords_32 : decode cX2_writeWords 32 = .ok (.iaload, 1) := by decide +kernel
theorem dX2_writeWords_33 : decode cX2_writeWords 33 = .ok (.aload_n 0, 1) := by decide +kernel
theorem dX2_writeWords_34 : decode cX2_writeWords 34 = .ok (.getfield 15, 3) := by decide +kernel
theorem dX2_writeWords_37 : decode cX2_writeWords 37 = .ok (.iload_n 2, 1) := by decide +kernel
theorem dX2_writeWords_38 : decode cX2_writeWords 38 = .ok (.isub, 1) := by decide +kernel
theorem dX2_writeWords_39 : decode cX2_writeWords 39 = .ok (.invokestatic 28, 3) := by decide +kernel
theorem dX2_writeWords_42 : decode cX2_writeWords 42 = .ok (.istore 5, 2) := by decide +kernel
theorem dX2_writeWords_44 : decode cX2_writeWords 44 = .ok (.iload 4, 2) := by decide +kernel
theorem dX2_writeWords_46 : decode cX2_writeWords 46 = .ok (.i2l, 1) := by decide +kernel
theorem dX2_writeWords_47 : decode cX2_writeWords 47 = .ok (.lstore 6, 2) := by decide +kernel
theorem dX2_writeWords_49 : decode cX2_writeWords 49 = .ok (.iconst 0, 1) := by decide +kernel
theorem dX2_writeWords_50 : decode cX2_writeWords 50 = .ok (.istore 8, 2) := by decide +kernel
theorem dX2_writeWords_52 : decode cX2_writeWords 52 = .ok (.iload 8, 2) := by decide +kernel
theorem dX2_writeWords_54 : decode cX2_writeWords 54 = .ok (.iload 5, 2) := by decide +kernel
theorem dX2_writeWords_56 : decode cX2_writeWords 56 = .ok (.if_icmp .ge 36, 3) := by decide +kernel
theorem dX2_writeWords_59 : decode cX2_writeWords 59 = .ok (.lload 6, 2) := by decide +kernel
theorem dX2_writeWords_61 : decode cX2_writeWords 61 = .ok (.aload_n 0, 1) := by decide +kernel
theorem dX2_writeWords_62 : decode cX2_writeWords 62 = .ok (.getfield 9, 3) := by decide +kernel
theorem dX2_writeWords_65 : decode cX2_writeWords 65 = .ok (.iload_n 2, 1) := by decide +kernel
theorem dX2_writeWords_66 : decode cX2_writeWords 66 = .ok (.iload 8, 2) := by decide +kernel
theorem dX2_writeWords_68 : decode cX2_writeWords 68 = .ok (.iadd, 1) := by decide +kernel
theorem dX2_writeWords_69 : decode cX2_writeWords 69 = .ok (.iaload, 1) := by decide +kernel
theorem dX2_writeWords_70 : decode cX2_writeWords 70 = .ok (.i2l, 1) := by decide +kernel
theorem dX2_writeWords_71 : decode cX2_writeWords 71 = .ok (.iconst 4, 1) := by decide +kernel
theorem dX2_writeWords_72 : decode cX2_writeWords 72 = .ok (.iload 8, 2) := by decide +kernel
theorem dX2_writeWords_74 : decode cX2_writeWords 74 = .ok (.getstatic 73, 3) := by decide +kernel
theorem dX2_writeWords_77 : decode cX2_writeWords 77 = .ok (.iload 4, 2) := by decide +kernel
theorem dX2_writeWords_79 : decode cX2_writeWords 79 = .ok (.iaload, 1) := by decide +kernel
theorem dX2_writeWords_80 : decode cX2_writeWords 80 = .ok (.imul, 1) := by decide +kernel
theorem dX2_writeWords_81 : decode cX2_writeWords 81 = .ok (.iadd, 1) := by decide +kernel
theorem dX2_writeWords_82 : decode cX2_writeWords 82 = .ok (.lshl, 1) := by decide +kernel
theorem dX2_writeWords_83 : decode cX2_writeWords 83 = .ok (.lor, 1) := by decide +kernel
theorem dX2_writeWords_84 : decode cX2_writeWords 84 = .ok (.lstore 6, 2) := by decide +kernel
theorem dX2_writeWords_86 : decode cX2_writeWords 86 = .ok (.iinc 8 1, 3) := by decide +kernel
theorem dX2_writeWords_89 : decode cX2_writeWords 89 = .ok (.goto (-37), 3) := by decide +kernel
theorem dX2_writeWords_92 : decode cX2_writeWords 92 = .ok (.aload_n 1, 1) := by decide +kernel
theorem dX2_writeWords_93 : decode cX2_writeWords 93 = .ok (.lload 6, 2) := by decide +kernel
theorem dX2_writeWords_95 : decode cX2_writeWords 95 = .ok (.invokevirtual 76, 3) := by decide +kernel
theorem dX2_writeWords_98 : decode cX2_writeWords 98 = .ok (.iload_n 2, 1) := by decide +kernel
theorem dX2_writeWords_99 : decode cX2_writeWords 99 = .ok (.iload 5, 2) := by decide +kernel
theorem dX2_writeWords_101 : decode cX2_writeWords 101 = .ok (.iadd, 1) := by decide +kernel
theorem dX2_writeWords_102 : decode cX2_writeWords 102 = .ok (.istore_n 2, 1) := by decide +kernel
theorem dX2_writeWords_103 : decode cX2_writeWords 103 = .ok (.iinc 3 1, 3) := by decide +kernel
theorem dX2_writeWords_106 : decode cX2_writeWords 106 = .ok (.goto (-102), 3) := by decide +kernel
theorem dX2_writeWords_109 : decode cX2_writeWords 109 = .ok (.return_, 1) := by decide +kernel
theorem dX2_readWords_0 : decode cX2_readWords 0 = .ok (.iconst 0, 1) := by decide +kernel
theorem dX2_readWords_1 : decode cX2_readWords 1 = .ok (.istore_n 2, 1) := by decide +kernel
theorem dX2_readWords_2 : decode cX2_readWords 2 = .ok (.iconst 0, 1) := by decide +kernel
theorem dX2_readWords_3 : decode cX2_readWords 3 = .ok (.istore_n 3, 1) := by decide +kernel
theorem dX2_readWords_4 : decode cX2_readWords 4 = .ok (.iload_n 3, 1) := by decide +kernel
theorem dX2_readWords_5 : decode cX2_readWords 5 = .ok (.aload_n 0, 1) := by decide +kernel
theorem dX2_readWords_6 : decode cX2_readWords 6 = .ok (.getfield 15, 3) := by decide +kernel
theorem dX2_readWords_9 : decode cX2_readWords 9 = .ok (.if_icmp .ge 142, 3) := by decide +kernel
theorem dX2_readWords_12 : decode cX2_readWords 12 = .ok (.iload_n 2, 1) := by decide +kernel
theorem dX2_readWords_13 : decode cX2_readWords 13 = .ok (.aload_n 0, 1) := by decide +kernel
theorem dX2_readWords_14 : decode cX2_readWords 14 = .ok (.getfield 15, 3) := by decide +kernel
theorem dX2_readWords_17 : decode cX2_readWords 17 = .ok (.if_icmp .ge 134, 3) := by decide +kernel
theorem dX2_readWords_20 : decode cX2_readWords 20 = .ok (.aload_n 1, 1) := by decide +kernel
theorem dX2_readWords_21 : decode cX2_readWords 21 = .ok (.invokevirtual 80, 3) := by decide +kernel
theorem dX2_readWords_24 : decode cX2_readWords 24 = .ok (.bipush 8, 2) := by decide +kernel
theorem dX2_readWords_26 : decode cX2_readWords 26 = .ok (.if_icmp .ge 5, 3) := by decide +kernel
theorem dX2_readWords_29 : decode cX2_readWords 29 = .ok (.iconst 0, 1) := by decide +kernel
theorem dX2_readWords_30 : decode cX2_readWords 30 = .ok (.ireturn, 1) := by decide +kernel
theorem dX2_readWords_31 : decode cX2_readWords 31 = .ok (.aload_n 1, 1) := by decide +kernel
theorem dX2_readWords_32 : decode cX2_readWords 32 = .ok (.invokevirtual 83, 3) := by decide +kernel
theorem dX2_readWords_35 : decode cX2_readWords 35 = .ok (.lstore 4, 2) := by decide +kernel
theorem dX2_readWords_37 : decode cX2_readWords 37 = .ok (.lload 4, 2) := by decide +kernel
theorem dX2_readWords_39 : decode cX2_readWords 39 = .ok (.ldc2_w 87, 3) := by decide +kernel
theorem dX2_readWords_42 : decode cX2_readWords 42 = .ok (.land, 1) := by decide +kernel
theorem dX2_readWords_43 : decode cX2_readWords 43 = .ok (.l2i, 1) := by decide +kernel
theorem dX2_readWords_44 : decode cX2_readWords 44 = .ok (.istore 6, 2) := by decide +kernel
theorem dX2_readWords_46 : decode cX2_readWords 46 = .ok (.iload 6, 2) := by decide +kernel
theorem dX2_readWords_48 : decode cX2_readWords 48 = .ok (.getstatic 70, 3) := by decide +kernel
theorem dX2_readWords_51 : decode cX2_readWords 51 = .ok (.arraylength, 1) := by decide +kernel
theorem dX2_readWords_52 : decode cX2_readWords 52 = .ok (.if_icmp .lt 5, 3) := by decide +kernel
theorem dX2_readWords_55 : decode cX2_readWords 55 = .ok (.iconst 0, 1) := by decide +kernel
theorem dX2_readWords_56 : decode cX2_readWords 56 = .ok (.ireturn, 1) := by decide +kernel
theorem dX2_readWords_57 : decode cX2_readWords 57 = .ok (.getstatic 70, 3) := by decide +kernel
theorem dX2_readWords_60 : decode cX2_readWords 60 = .ok (.iload 6, 2) := by decide +kernel
theorem dX2_readWords_62 : decode cX2_readWords 62 = .ok (.iaload, 1) := by decide +kernel
theorem dX2_readWords_63 : decode cX2_readWords 63 = .ok (.aload_n 0, 1) := by decide +kernel
theorem dX2_readWords_64 : decode cX2_readWords 64 = .ok (.getfield 15, 3) := by decide +kernel
theorem dX2_readWords_67 : decode cX2_readWords 67 = .ok (.iload_n 2, 1) := by decide +kernel
theorem dX2_readWords_68 : decode cX2_readWords 68 = .ok (.isub, 1) := by decide +kernel
theorem dX2_readWords_69 : decode cX2_readWords 69 = .ok (.invokestatic 28, 3) := by decide +kernel
theorem dX2_readWords_72 : decode cX2_readWords 72 = .ok (.istore 7, 2) := by decide +kernel
theorem dX2_readWords_74 : decode cX2_readWords 74 = .ok (.iconst 0, 1) := by decide +kernel
theorem dX2_readWords_75 : decode cX2_readWords 75 = .ok (.istore 8, 2) := by decide +kernel
theorem dX2_readWords_77 : decode cX2_readWords 77 = .ok (.iload 8, 2) := by decide +kernel
theorem dX2_readWords_79 : decode cX2_readWords 79 = .ok (.iload 7, 2) := by decide +kernel
theorem dX2_readWords_81 : decode cX2_readWords 81 = .ok (.if_icmp .ge 59, 3) := by decide +kernel
theorem dX2_readWords_84 : decode cX2_readWords 84 = .ok (.lload 4, 2) := by decide +kernel
theorem dX2_readWords_86 : decode cX2_readWords 86 = .ok (.iconst 4, 1) := by decide +kernel
theorem dX2_readWords_87 : decode cX2_readWords 87 = .ok (.iload 8, 2) := by decide +kernel
theorem dX2_readWords_89 : decode cX2_readWords 89 = .ok (.getstatic 73, 3) := by decide +kernel
theorem dX2_readWords_92 : decode cX2_readWords 92 = .ok (.iload 6, 2) := by decide +kernel
theorem dX2_readWords_94 : decode cX2_readWords 94 = .ok (.iaload, 1) := by decide +kernel
theorem dX2_readWords_95 : decode cX2_readWords 95 = .ok (.imul, 1) := by decide +kernel
theorem dX2_readWords_96 : decode cX2_readWords 96 = .ok (.iadd, 1) := by decide +kernel
theorem dX2_readWords_97 : decode cX2_readWords 97 = .ok (.lushr, 1) := by decide +kernel
theorem dX2_readWords_98 : decode cX2_readWords 98 = .ok (.lconst 1, 1) := by decide +kernel
theorem dX2_readWords_99 : decode cX2_readWords 99 = .ok (.getstatic 73, 3) := by decide +kernel
theorem dX2_readWords_102 : decode cX2_readWords 102 = .ok (.iload 6, 2) := by decide +kernel
theorem dX2_readWords_104 : decode cX2_readWords 104 = .ok (.iaload, 1) := by decide +kernel
theorem dX2_readWords_105 : decode cX2_readWords 105 = .ok (.lshl, 1) := by decide +kernel
theorem dX2_readWords_106 : decode cX2_readWords 106 = .ok (.lconst 1, 1) := by decide +kernel
theorem dX2_readWords_107 : decode cX2_readWords 107 = .ok (.lsub, 1) := by decide +kernel
theorem dX2_readWords_108 : decode cX2_readWords 108 = .ok (.land, 1) := by decide +kernel
theorem dX2_readWords_109 : decode cX2_readWords 109 = .ok (.lstore 9, 2) := by decide +kernel
theorem dX2_readWords_111 : decode cX2_readWords 111 = .ok (.lload 9, 2) := by decide +kernel
theorem dX2_readWords_113 : decode cX2_readWords 113 = .ok (.ldc2_w 89, 3) := by decide +kernel
theorem dX2_readWords_116 : decode cX2_readWords 116 = .ok (.lcmp, 1) := by decide +kernel
theorem dX2_readWords_117 : decode cX2_readWords 117 = .ok (.ifCond .lt 5, 3) := by decide +kernel
theorem dX2_readWords_120 : decode cX2_readWords 120 = .ok (.iconst 0, 1) := by decide +kernel
theorem dX2_readWords_121 : decode cX2_readWords 121 = .ok (.ireturn, 1) := by decide +kernel
theorem dX2_readWords_122 : decode cX2_readWords 122 = .ok (.aload_n 0, 1) := by decide +kernel
theorem dX2_readWords_123 : decode cX2_readWords 123 = .ok (.getfield 9, 3) := by decide +kernel
theorem dX2_readWords_126 : decode cX2_readWords 126 = .ok (.iload_n 2, 1) := by decide +kernel
theorem dX2_readWords_127 : decode cX2_readWords 127 = .ok (.iload 8, 2) := by decide +kernel
theorem dX2_readWords_129 : decode cX2_readWords 129 = .ok (.iadd, 1) := by decide +kernel
theorem dX2_readWords_130 : decode cX2_readWords 130 = .ok (.lload 9, 2) := by decide +kernel
theorem dX2_readWords_132 : decode cX2_readWords 132 = .ok (.l2i, 1) := by decide +kernel
theorem dX2_readWords_133 : decode cX2_readWords 133 = .ok (.iastore, 1) := by decide +kernel
theorem dX2_readWords_134 : decode cX2_readWords 134 = .ok (.iinc 8 1, 3) := by decide +kernel
theorem dX2_readWords_137 : decode cX2_readWords 137 = .ok (.goto (-60), 3) := by decide +kernel
theorem dX2_readWords_140 : decode cX2_readWords 140 = .ok (.iload_n 2, 1) := by decide +kernel
theorem dX2_readWords_141 : decode cX2_readWords 141 = .ok (.iload 7, 2) := by decide +kernel
theorem dX2_readWords_143 : decode cX2_readWords 143 = .ok (.iadd, 1) := by decide +kernel
theorem dX2_readWords_144 : decode cX2_readWords 144 = .ok (.istore_n 2, 1) := by decide +kernel
theorem dX2_readWords_145 : decode cX2_readWords 145 = .ok (.iinc 3 1, 3) := by decide +kernel
theorem dX2_readWords_148 : decode cX2_readWords 148 = .ok (.goto (-144), 3) := by decide +kernel
theorem dX2_readWords_151 : decode cX2_readWords 151 = .ok (.iconst 1, 1) := by decide +kernel
theorem dX2_readWords_152 : decode cX2_readWords 152 = .ok (.ireturn, 1) := by decide +kernel
theorem dX2_leastWay_0 : decode cX2_leastWay 0 = .ok (.getstatic 70, 3) := by decide +kernel
theorem dX2_leastWay_3 : decode cX2_leastWay 3 = .ok (.arraylength, 1) := by decide +kernel
theorem dX2_leastWay_4 : decode cX2_leastWay 4 = .ok (.iconst 1, 1) := by decide +kernel
theorem dX2_leastWay_5 : decode cX2_leastWay 5 = .ok (.isub, 1) := by decide +kernel
theorem dX2_leastWay_6 : decode cX2_leastWay 6 = .ok (.istore_n 2, 1) := by decide +kernel
theorem dX2_leastWay_7 : decode cX2_leastWay 7 = .ok (.iconst 0, 1) := by decide +kernel
theorem dX2_leastWay_8 : decode cX2_leastWay 8 = .ok (.istore_n 3, 1) := by decide +kernel
theorem dX2_leastWay_9 : decode cX2_leastWay 9 = .ok (.iload_n 3, 1) := by decide +kernel
theorem dX2_leastWay_10 : decode cX2_leastWay 10 = .ok (.iload_n 2, 1) := by decide +kernel
theorem dX2_leastWay_11 : decode cX2_leastWay 11 = .ok (.if_icmp .ge 67, 3) := by decide +kernel
theorem dX2_leastWay_14 : decode cX2_leastWay 14 = .ok (.iconst 0, 1) := by decide +kernel
theorem dX2_leastWay_15 : decode cX2_leastWay 15 = .ok (.istore 4, 2) := by decide +kernel
theorem dX2_leastWay_17 : decode cX2_leastWay 17 = .ok (.iload_n 1, 1) := by decide +kernel
theorem dX2_leastWay_18 : decode cX2_leastWay 18 = .ok (.istore 5, 2) := by decide +kernel
theorem dX2_leastWay_20 : decode cX2_leastWay 20 = .ok (.iload 5, 2) := by decide +kernel
theorem dX2_leastWay_22 : decode cX2_leastWay 22 = .ok (.aload_n 0, 1) := by decide +kernel
theorem dX2_leastWay_23 : decode cX2_leastWay 23 = .ok (.getfield 15, 3) := by decide +kernel
theorem dX2_leastWay_26 : decode cX2_leastWay 26 = .ok (.if_icmp .ge 33, 3) := by decide +kernel
theorem dX2_leastWay_29 : decode cX2_leastWay 29 = .ok (.iload 5, 2) := by decide +kernel
theorem dX2_leastWay_31 : decode cX2_leastWay 31 = .ok (.iload_n 1, 1) := by decide +kernel
theorem dX2_leastWay_32 : decode cX2_leastWay 32 = .ok (.getstatic 70, 3) := by decide +kernel
theorem dX2_leastWay_35 : decode cX2_leastWay 35 = .ok (.iload_n 3, 1) := by decide +kernel
theorem dX2_leastWay_36 : decode cX2_leastWay 36 = .ok (.iaload, 1) := by decide +kernel
theorem dX2_leastWay_37 : decode cX2_leastWay 37 = .ok (.iadd, 1) := by decide +kernel
theorem dX2_leastWay_38 : decode cX2_leastWay 38 = .ok (.if_icmp .ge 21, 3) := by decide +kernel
theorem dX2_leastWay_41 : decode cX2_leastWay 41 = .ok (.iload 4, 2) := by decide +kernel
theorem dX2_leastWay_43 : decode cX2_leastWay 43 = .ok (.aload_n 0, 1) := by decide +kernel
theorem dX2_leastWay_44 : decode cX2_leastWay 44 = .ok (.getfield 9, 3) := by decide +kernel
theorem dX2_leastWay_47 : decode cX2_leastWay 47 = .ok (.iload 5, 2) := by decide +kernel
theorem dX2_leastWay_49 : decode cX2_leastWay 49 = .ok (.iaload, 1) := by decide +kernel
theorem dX2_leastWay_50 : decode cX2_leastWay 50 = .ok (.ior, 1) := by decide +kernel
theorem dX2_leastWay_51 : decode cX2_leastWay 51 = .ok (.istore 4, 2) := by decide +kernel
theorem dX2_leastWay_53 : decode cX2_leastWay 53 = .ok (.iinc 5 1, 3) := by decide +kernel
theorem dX2_leastWay_56 : decode cX2_leastWay 56 = .ok (.goto (-36), 3) := by decide +kernel
theorem dX2_leastWay_59 : decode cX2_leastWay 59 = .ok (.iload 4, 2) := by decide +kernel
theorem dX2_leastWay_61 : decode cX2_leastWay 61 = .ok (.getstatic 73, 3) := by decide +kernel
theorem dX2_leastWay_64 : decode cX2_leastWay 64 = .ok (.iload_n 3, 1) := by decide +kernel
theorem dX2_leastWay_65 : decode cX2_leastWay 65 = .ok (.iaload, 1) := by decide +kernel
theorem dX2_leastWay_66 : decode cX2_leastWay 66 = .ok (.ishr, 1) := by decide +kernel
theorem dX2_leastWay_67 : decode cX2_leastWay 67 = .ok (.ifCond .ne 5, 3) := by decide +kernel
theorem dX2_leastWay_70 : decode cX2_leastWay 70 = .ok (.iload_n 3, 1) := by decide +kernel
theorem dX2_leastWay_71 : decode cX2_leastWay 71 = .ok (.ireturn, 1) := by decide +kernel
theorem dX2_leastWay_72 : decode cX2_leastWay 72 = .ok (.iinc 3 1, 3) := by decide +kernel
theorem dX2_leastWay_75 : decode cX2_leastWay 75 = .ok (.goto (-66), 3) := by decide +kernel
theorem dX2_leastWay_78 : decode cX2_leastWay 78 = .ok (.iload_n 2, 1) := by decide +kernel
theorem dX2_leastWay_79 : decode cX2_leastWay 79 = .ok (.ireturn, 1) := by decide +kernel
theorem dX2_writeEven_0 : decode cX2_writeEven 0 = .ok (.aload_n 0, 1) := by decide +kernel
theorem dX2_writeEven_1 : decode cX2_writeEven 1 = .ok (.invokevirtual 91, 3) := by decide +kernel
theorem dX2_writeEven_4 : decode cX2_writeEven 4 = .ok (.istore_n 2, 1) := by decide +kernel
theorem dX2_writeEven_5 : decode cX2_writeEven 5 = .ok (.aload_n 1, 1) := by decide +kernel
theorem dX2_writeEven_6 : decode cX2_writeEven 6 = .ok (.iload_n 2, 1) := by decide +kernel
theorem dX2_writeEven_7 : decode cX2_writeEven 7 = .ok (.invokevirtual 57, 3) := by decide +kernel
theorem dX2_writeEven_10 : decode cX2_writeEven 10 = .ok (.iconst 0, 1) := by decide +kernel
theorem dX2_writeEven_11 : decode cX2_writeEven 11 = .ok (.istore_n 3, 1) := by decide +kernel
theorem dX2_writeEven_12 : decode cX2_writeEven 12 = .ok (.iconst 0, 1) := by decide +kernel
theorem dX2_writeEven_13 : decode cX2_writeEven 13 = .ok (.istore 4, 2) := by decide +kernel
theorem dX2_writeEven_15 : decode cX2_writeEven 15 = .ok (.iconst 0, 1) := by decide +kernel
theorem dX2_writeEven_16 : decode cX2_writeEven 16 = .ok (.istore 5, 2) := by decide +kernel
theorem dX2_writeEven_18 : decode cX2_writeEven 18 = .ok (.iload 5, 2) := by decide +kernel
theorem dX2_writeEven_20 : decode cX2_writeEven 20 = .ok (.aload_n 0, 1) := by decide +kernel
theorem dX2_writeEven_21 : decode cX2_writeEven 21 = .ok (.getfield 15, 3) := by decide +kernel
theorem dX2_writeEven_24 : decode cX2_writeEven 24 = .ok (.if_icmp .ge 48, 3) := by decide +kernel
theorem dX2_writeEven_27 : decode cX2_writeEven 27 = .ok (.iload_n 3, 1) := by decide +kernel
theorem dX2_writeEven_28 : decode cX2_writeEven 28 = .ok (.aload_n 0, 1) := by decide +kernel
theorem dX2_writeEven_29 : decode cX2_writeEven 29 = .ok (.getfield 9, 3) := by decide +kernel
theorem dX2_writeEven_32 : decode cX2_writeEven 32 = .ok (.iload 5, 2) := by decide +kernel
theorem dX2_writeEven_34 : decode cX2_writeEven 34 = .ok (.iaload, 1) := by decide +kernel
theorem dX2_writeEven_35 : decode cX2_writeEven 35 = .ok (.iload 4, 2) := by decide +kernel
theorem dX2_writeEven_37 : decode cX2_writeEven 37 = .ok (.ishl, 1) := by decide +kernel
theorem dX2_writeEven_38 : decode cX2_writeEven 38 = .ok (.ior, 1) := by decide +kernel
theorem dX2_writeEven_39 : decode cX2_writeEven 39 = .ok (.istore_n 3, 1) := by decide +kernel
theorem dX2_writeEven_40 : decode cX2_writeEven 40 = .ok (.iload 4, 2) := by decide +kernel
theorem dX2_writeEven_42 : decode cX2_writeEven 42 = .ok (.iload_n 2, 1) := by decide +kernel
theorem dX2_writeEven_43 : decode cX2_writeEven 43 = .ok (.iadd, 1) := by decide +kernel
theorem dX2_writeEven_44 : decode cX2_writeEven 44 = .ok (.istore 4, 2) := by decide +kernel
theorem dX2_writeEven_46 : decode cX2_writeEven 46 = .ok (.iload 4, 2) := by decide +kernel
theorem dX2_writeEven_48 : decode cX2_writeEven 48 = .ok (.bipush 8, 2) := by decide +kernel
theorem dX2_writeEven_50 : decode cX2_writeEven 50 = .ok (.if_icmp .lt 16, 3) := by decide +kernel
theorem dX2_writeEven_53 : decode cX2_writeEven 53 = .ok (.aload_n 1, 1) := by decide +kernel
theorem dX2_writeEven_54 : decode cX2_writeEven 54 = .ok (.iload_n 3, 1) := by decide +kernel
theorem dX2_writeEven_55 : decode cX2_writeEven 55 = .ok (.invokevirtual 57, 3) := by decide +kernel
theorem dX2_writeEven_58 : decode cX2_writeEven 58 = .ok (.iload_n 3, 1) := by decide +kernel
theorem dX2_writeEven_59 : decode cX2_writeEven 59 = .ok (.bipush 8, 2) := by decide +kernel
theorem dX2_writeEven_61 : decode cX2_writeEven 61 = .ok (.iushr, 1) := by decide +kernel
theorem dX2_writeEven_62 : decode cX2_writeEven 62 = .ok (.istore_n 3, 1) := by decide +kernel
theorem dX2_writeEven_63 : decode cX2_writeEven 63 = .ok (.iinc 4 (-8), 3) := by decide +kernel
theorem dX2_writeEven_66 : decode cX2_writeEven 66 = .ok (.iinc 5 1, 3) := by decide +kernel
theorem dX2_writeEven_69 : decode cX2_writeEven 69 = .ok (.goto (-51), 3) := by decide +kernel
theorem dX2_writeEven_72 : decode cX2_writeEven 72 = .ok (.iload 4, 2) := by decide +kernel
theorem dX2_writeEven_74 : decode cX2_writeEven 74 = .ok (.ifCond .le 8, 3) := by decide +kernel
theorem dX2_writeEven_77 : decode cX2_writeEven 77 = .ok (.aload_n 1, 1) := by decide +kernel
theorem dX2_writeEven_78 : decode cX2_writeEven 78 = .ok (.iload_n 3, 1) := by decide +kernel
theorem dX2_writeEven_79 : decode cX2_writeEven 79 = .ok (.invokevirtual 57, 3) := by decide +kernel
theorem dX2_writeEven_82 : decode cX2_writeEven 82 = .ok (.return_, 1) := by decide +kernel
theorem dX2_readEven_0 : decode cX2_readEven 0 = .ok (.aload_n 1, 1) := by decide +kernel
theorem dX2_readEven_1 : decode cX2_readEven 1 = .ok (.invokevirtual 63, 3) := by decide +kernel
theorem dX2_readEven_4 : decode cX2_readEven 4 = .ok (.istore_n 2, 1) := by decide +kernel
theorem dX2_readEven_5 : decode cX2_readEven 5 = .ok (.iload_n 2, 1) := by decide +kernel
theorem dX2_readEven_6 : decode cX2_readEven 6 = .ok (.ifCond .lt 9, 3) := by decide +kernel
theorem dX2_readEven_9 : decode cX2_readEven 9 = .ok (.iload_n 2, 1) := by decide +kernel
theorem dX2_readEven_10 : decode cX2_readEven 10 = .ok (.bipush 6, 2) := by decide +kernel
theorem dX2_readEven_12 : decode cX2_readEven 12 = .ok (.if_icmp .le 5, 3) := by decide +kernel
theorem dX2_readEven_15 : decode cX2_readEven 15 = .ok (.iconst 0, 1) := by decide +kernel
theorem dX2_readEven_16 : decode cX2_readEven 16 = .ok (.ireturn, 1) := by decide +kernel
theorem dX2_readEven_17 : decode cX2_readEven 17 = .ok (.iconst 0, 1) := by decide +kernel
theorem dX2_readEven_18 : decode cX2_readEven 18 = .ok (.istore_n 3, 1) := by decide +kernel
theorem dX2_readEven_19 : decode cX2_readEven 19 = .ok (.iconst 0, 1) := by decide +kernel
theorem dX2_readEven_20 : decode cX2_readEven 20 = .ok (.istore 4, 2) := by decide +kernel
theorem dX2_readEven_22 : decode cX2_readEven 22 = .ok (.iconst 0, 1) := by decide +kernel
theorem dX2_readEven_23 : decode cX2_readEven 23 = .ok (.istore 5, 2) := by decide +kernel
theorem dX2_readEven_25 : decode cX2_readEven 25 = .ok (.iload 5, 2) := by decide +kernel
theorem dX2_readEven_27 : decode cX2_readEven 27 = .ok (.aload_n 0, 1) := by decide +kernel
theorem dX2_readEven_28 : decode cX2_readEven 28 = .ok (.getfield 15, 3) := by decide +kernel
theorem dX2_readEven_31 : decode cX2_readEven 31 = .ok (.if_icmp .ge 63, 3) := by decide +kernel
theorem dX2_readEven_34 : decode cX2_readEven 34 = .ok (.iload 4, 2) := by decide +kernel
theorem dX2_readEven_36 : decode cX2_readEven 36 = .ok (.iload_n 2, 1) := by decide +kernel
theorem dX2_readEven_37 : decode cX2_readEven 37 = .ok (.if_icmp .ge 27, 3) := by decide +kernel
theorem dX2_readEven_40 : decode cX2_readEven 40 = .ok (.aload_n 1, 1) := by decide +kernel
theorem dX2_readEven_41 : decode cX2_readEven 41 = .ok (.invokevirtual 63, 3) := by decide +kernel
theorem dX2_readEven_44 : decode cX2_readEven 44 = .ok (.istore 6, 2) := by decide +kernel
theorem dX2_readEven_46 : decode cX2_readEven 46 = .ok (.iload 6, 2) := by decide +kernel
theorem dX2_readEven_48 : decode cX2_readEven 48 = .ok (.ifCond .ge 5, 3) := by decide +kernel
theorem dX2_readEven_51 : decode cX2_readEven 51 = .ok (.iconst 0, 1) := by decide +kernel
theorem dX2_readEven_52 : decode cX2_readEven 52 = .ok (.ireturn, 1) := by decide +kernel
theorem dX2_readEven_53 : decode cX2_readEven 53 = .ok (.iload_n 3, 1) := by decide +kernel
theorem dX2_readEven_54 : decode cX2_readEven 54 = .ok (.iload 6, 2) := by decide +kernel
theorem dX2_readEven_56 : decode cX2_readEven 56 = .ok (.iload 4, 2) := by decide +kernel
theorem dX2_readEven_58 : decode cX2_readEven 58 = .ok (.ishl, 1) := by decide +kernel
theorem dX2_readEven_59 : decode cX2_readEven 59 = .ok (.ior, 1) := by decide +kernel
theorem dX2_readEven_60 : decode cX2_readEven 60 = .ok (.istore_n 3, 1) := by decide +kernel
theorem dX2_readEven_61 : decode cX2_readEven 61 = .ok (.iinc 4 8, 3) := by decide +kernel
theorem dX2_readEven_64 : decode cX2_readEven 64 = .ok (.aload_n 0, 1) := by decide +kernel
theorem dX2_readEven_65 : decode cX2_readEven 65 = .ok (.getfield 9, 3) := by decide +kernel
theorem dX2_readEven_68 : decode cX2_readEven 68 = .ok (.iload 5, 2) := by decide +kernel
theorem dX2_readEven_70 : decode cX2_readEven 70 = .ok (.iload_n 3, 1) := by decide +kernel
theorem dX2_readEven_71 : decode cX2_readEven 71 = .ok (.iconst 1, 1) := by decide +kernel
theorem dX2_readEven_72 : decode cX2_readEven 72 = .ok (.iload_n 2, 1) := by decide +kernel
theorem dX2_readEven_73 : decode cX2_readEven 73 = .ok (.ishl, 1) := by decide +kernel
theorem dX2_readEven_74 : decode cX2_readEven 74 = .ok (.iconst 1, 1) := by decide +kernel
theorem dX2_readEven_75 : decode cX2_readEven 75 = .ok (.isub, 1) := by decide +kernel
theorem dX2_readEven_76 : decode cX2_readEven 76 = .ok (.iand, 1) := by decide +kernel
theorem dX2_readEven_77 : decode cX2_readEven 77 = .ok (.iastore, 1) := by decide +kernel
theorem dX2_readEven_78 : decode cX2_readEven 78 = .ok (.iload_n 3, 1) := by decide +kernel
theorem dX2_readEven_79 : decode cX2_readEven 79 = .ok (.iload_n 2, 1) := by decide +kernel
theorem dX2_readEven_80 : decode cX2_readEven 80 = .ok (.iushr, 1) := by decide +kernel
theorem dX2_readEven_81 : decode cX2_readEven 81 = .ok (.istore_n 3, 1) := by decide +kernel
theorem dX2_readEven_82 : decode cX2_readEven 82 = .ok (.iload 4, 2) := by decide +kernel
theorem dX2_readEven_84 : decode cX2_readEven 84 = .ok (.iload_n 2, 1) := by decide +kernel
theorem dX2_readEven_85 : decode cX2_readEven 85 = .ok (.isub, 1) := by decide +kernel
theorem dX2_readEven_86 : decode cX2_readEven 86 = .ok (.istore 4, 2) := by decide +kernel
theorem dX2_readEven_88 : decode cX2_readEven 88 = .ok (.iinc 5 1, 3) := by decide +kernel
theorem dX2_readEven_91 : decode cX2_readEven 91 = .ok (.goto (-66), 3) := by decide +kernel
theorem dX2_readEven_94 : decode cX2_readEven 94 = .ok (.iconst 1, 1) := by decide +kernel
theorem dX2_readEven_95 : decode cX2_readEven 95 = .ok (.ireturn, 1) := by decide +kernel
theorem dX2_bitsOfGreatest_0 : decode cX2_bitsOfGreatest 0 = .ok (.iconst 0, 1) := by decide +kernel
theorem dX2_bitsOfGreatest_1 : decode cX2_bitsOfGreatest 1 = .ok (.istore_n 1, 1) := by decide +kernel
theorem dX2_bitsOfGreatest_2 : decode cX2_bitsOfGreatest 2 = .ok (.iconst 0, 1) := by decide +kernel
theorem dX2_bitsOfGreatest_3 : decode cX2_bitsOfGreatest 3 = .ok (.istore_n 2, 1) := by decide +kernel
theorem dX2_bitsOfGreatest_4 : decode cX2_bitsOfGreatest 4 = .ok (.iload_n 2, 1) := by decide +kernel
theorem dX2_bitsOfGreatest_5 : decode cX2_bitsOfGreatest 5 = .ok (.aload_n 0, 1) := by decide +kernel
theorem dX2_bitsOfGreatest_6 : decode cX2_bitsOfGreatest 6 = .ok (.getfield 15, 3) := by decide +kernel
theorem dX2_bitsOfGreatest_9 : decode cX2_bitsOfGreatest 9 = .ok (.if_icmp .ge 18, 3) := by decide +kernel
theorem dX2_bitsOfGreatest_12 : decode cX2_bitsOfGreatest 12 = .ok (.iload_n 1, 1) := by decide +kernel
theorem dX2_bitsOfGreatest_13 : decode cX2_bitsOfGreatest 13 = .ok (.aload_n 0, 1) := by decide +kernel
theorem dX2_bitsOfGreatest_14 : decode cX2_bitsOfGreatest 14 = .ok (.getfield 9, 3) := by decide +kernel
theorem dX2_bitsOfGreatest_17 : decode cX2_bitsOfGreatest 17 = .ok (.iload_n 2, 1) := by decide +kernel
theorem dX2_bitsOfGreatest_18 : decode cX2_bitsOfGreatest 18 = .ok (.iaload, 1) := by decide +kernel
theorem dX2_bitsOfGreatest_19 : decode cX2_bitsOfGreatest 19 = .ok (.ior, 1) := by decide +kernel
theorem dX2_bitsOfGreatest_20 : decode cX2_bitsOfGreatest 20 = .ok (.istore_n 1, 1) := by decide +kernel
theorem dX2_bitsOfGreatest_21 : decode cX2_bitsOfGreatest 21 = .ok (.iinc 2 1, 3) := by decide +kernel
theorem dX2_bitsOfGreatest_24 : decode cX2_bitsOfGreatest 24 = .ok (.goto (-20), 3) := by decide +kernel
theorem dX2_bitsOfGreatest_27 : decode cX2_bitsOfGreatest 27 = .ok (.iconst 0, 1) := by decide +kernel
theorem dX2_bitsOfGreatest_28 : decode cX2_bitsOfGreatest 28 = .ok (.istore_n 2, 1) := by decide +kernel
theorem dX2_bitsOfGreatest_29 : decode cX2_bitsOfGreatest 29 = .ok (.iload_n 2, 1) := by decide +kernel
theorem dX2_bitsOfGreatest_30 : decode cX2_bitsOfGreatest 30 = .ok (.bipush 31, 2) := by decide +kernel
theorem dX2_bitsOfGreatest_32 : decode cX2_bitsOfGreatest 32 = .ok (.if_icmp .ge 15, 3) := by decide +kernel
theorem dX2_bitsOfGreatest_35 : decode cX2_bitsOfGreatest 35 = .ok (.iload_n 1, 1) := by decide +kernel
theorem dX2_bitsOfGreatest_36 : decode cX2_bitsOfGreatest 36 = .ok (.iload_n 2, 1) := by decide +kernel
theorem dX2_bitsOfGreatest_37 : decode cX2_bitsOfGreatest 37 = .ok (.ishr, 1) := by decide +kernel
theorem dX2_bitsOfGreatest_38 : decode cX2_bitsOfGreatest 38 = .ok (.ifCond .eq 9, 3) := by decide +kernel
theorem dX2_bitsOfGreatest_41 : decode cX2_bitsOfGreatest 41 = .ok (.iinc 2 1, 3) := by decide +kernel
theorem dX2_bitsOfGreatest_44 : decode cX2_bitsOfGreatest 44 = .ok (.goto (-15), 3) := by decide +kernel
theorem dX2_bitsOfGreatest_47 : decode cX2_bitsOfGreatest 47 = .ok (.iload_n 2, 1) := by decide +kernel
theorem dX2_bitsOfGreatest_48 : decode cX2_bitsOfGreatest 48 = .ok (.ireturn, 1) := by decide +kernel
theorem dX3_init_0 : decode cX3_init 0 = .ok (.aload_n 0, 1) := by decide +kernel
theorem dX3_init_1 : decode cX3_init 1 = .ok (.invokespecial 3, 3) := by decide +kernel
theorem dX3_init_4 : decode cX3_init 4 = .ok (.aload_n 0, 1) := by decide +kernel
theorem dX3_init_5 : decode cX3_init 5 = .ok (.iconst 3, 1) := by decide +kernel
theorem dX3_init_6 : decode cX3_init 6 = .ok (.anewarray 9, 3) := by decide +kernel
theorem dX3_init_9 : decode cX3_init 9 = .ok (.putfield 11, 3) := by decide +kernel
theorem dX3_init_12 : decode cX3_init 12 = .ok (.aload_n 0, 1) := by decide +kernel
theorem dX3_init_13 : decode cX3_init 13 = .ok (.iconst 3, 1) := by decide +kernel
theorem dX3_init_14 : decode cX3_init 14 = .ok (.newarray .int, 2) := by decide +kernel
theorem dX3_init_16 : decode cX3_init 16 = .ok (.putfield 17, 3) := by decide +kernel
theorem dX3_init_19 : decode cX3_init 19 = .ok (.aload_n 0, 1) := by decide +kernel
theorem dX3_init_20 : decode cX3_init 20 = .ok (.new 9, 3) := by decide +kernel
theorem dX3_init_23 : decode cX3_init 23 = .ok (.dup, 1) := by decide +kernel
theorem dX3_init_24 : decode cX3_init 24 = .ok (.invokespecial 21, 3) := by decide +kernel
theorem dX3_init_27 : decode cX3_init 27 = .ok (.putfield 22, 3) := by decide +kernel
theorem dX3_init_30 : decode cX3_init 30 = .ok (.aload_n 0, 1) := by decide +kernel
theorem dX3_init_31 : decode cX3_init 31 = .ok (.iconst 4, 1) := by decide +kernel
theorem dX3_init_32 : decode cX3_init 32 = .ok (.newarray .int, 2) := by decide +kernel
theorem dX3_init_34 : decode cX3_init 34 = .ok (.putfield 26, 3) := by decide +kernel
theorem dX3_init_37 : decode cX3_init 37 = .ok (.aload_n 0, 1) := by decide +kernel
theorem dX3_init_38 : decode cX3_init 38 = .ok (.iconst 0, 1) := by decide +kernel
theorem dX3_init_39 : decode cX3_init 39 = .ok (.putfield 29, 3) := by decide +kernel
theorem dX3_init_42 : decode cX3_init 42 = .ok (.iconst 0, 1) := by decide +kernel
theorem dX3_init_43 : decode cX3_init 43 = .ok (.istore_n 1, 1) := by decide +kernel
theorem dX3_init_44 : decode cX3_init 44 = .ok (.iload_n 1, 1) := by decide +kernel
theorem dX3_init_45 : decode cX3_init 45 = .ok (.iconst 3, 1) := by decide +kernel
theorem dX3_init_46 : decode cX3_init 46 = .ok (.if_icmp .ge 22, 3) := by decide +kernel
theorem dX3_init_49 : decode cX3_init 49 = .ok (.aload_n 0, 1) := by decide +kernel
theorem dX3_init_50 : decode cX3_init 50 = .ok (.getfield 11, 3) := by decide +kernel
theorem dX3_init_53 : decode cX3_init 53 = .ok (.iload_n 1, 1) := by decide +kernel
theorem dX3_init_54 : decode cX3_init 54 = .ok (.new 9, 3) := by decide +kernel
theorem dX3_init_57 : decode cX3_init 57 = .ok (.dup, 1) := by decide +kernel
theorem dX3_init_58 : decode cX3_init 58 = .ok (.invokespecial 21, 3) := by decide +kernel
theorem dX3_init_61 : decode cX3_init 61 = .ok (.aastore, 1) := by decide +kernel
theorem dX3_init_62 : decode cX3_init 62 = .ok (.iinc 1 1, 3) := by decide +kernel
theorem dX3_init_65 : decode cX3_init 65 = .ok (.goto (-21), 3) := by decide +kernel
theorem dX3_init_68 : decode cX3_init 68 = .ok (.iconst 0, 1) := by decide +kernel
theorem dX3_init_69 : decode cX3_init 69 = .ok (.istore_n 1, 1) := by decide +kernel
theorem dX3_init_70 : decode cX3_init 70 = .ok (.iload_n 1, 1) := by decide +kernel
theorem dX3_init_71 : decode cX3_init 71 = .ok (.iconst 4, 1) := by decide +kernel
theorem dX3_init_72 : decode cX3_init 72 = .ok (.if_icmp .ge 16, 3) := by decide +kernel
theorem dX3_init_75 : decode cX3_init 75 = .ok (.aload_n 0, 1) := by decide +kernel
theorem dX3_init_76 : decode cX3_init 76 = .ok (.getfield 26, 3) := by decide +kernel
theorem dX3_init_79 : decode cX3_init 79 = .ok (.iload_n 1, 1) := by decide +kernel
theorem dX3_init_80 : decode cX3_init 80 = .ok (.iconst (-1), 1) := by decide +kernel
theorem dX3_init_81 : decode cX3_init 81 = .ok (.iastore, 1) := by decide +kernel
theorem dX3_init_82 : decode cX3_init 82 = .ok (.iinc 1 1, 3) := by decide +kernel
theorem dX3_init_85 : decode cX3_init 85 = .ok (.goto (-15), 3) := by decide +kernel
theorem dX3_init_88 : decode cX3_init 88 = .ok (.return_, 1) := by decide +kernel
theorem dX3_placeForNext_0 : decode cX3_placeForNext 0 = .ok (.iconst 0, 1) := by decide +kernel
theorem dX3_placeForNext_1 : decode cX3_placeForNext 1 = .ok (.istore_n 1, 1) := by decide +kernel
theorem dX3_placeForNext_2 : decode cX3_placeForNext 2 = .ok (.iload_n 1, 1) := by decide +kernel
theorem dX3_placeForNext_3 : decode cX3_placeForNext 3 = .ok (.iconst 3, 1) := by decide +kernel
theorem dX3_placeForNext_4 : decode cX3_placeForNext 4 = .ok (.if_icmp .ge 33, 3) := by decide +kernel
theorem dX3_placeForNext_7 : decode cX3_placeForNext 7 = .ok (.aload_n 0, 1) := by decide +kernel
theorem dX3_placeForNext_8 : decode cX3_placeForNext 8 = .ok (.getfield 17, 3) := by decide +kernel
theorem dX3_placeForNext_11 : decode cX3_placeForNext 11 = .ok (.iload_n 1, 1) := by decide +kernel
theorem dX3_placeForNext_12 : decode cX3_placeForNext 12 = .ok (.iaload, 1) := by decide +kernel
theorem dX3_placeForNext_13 : decode cX3_placeForNext 13 = .ok (.ifCond .eq 18, 3) := by decide +kernel
theorem dX3_placeForNext_16 : decode cX3_placeForNext 16 = .ok (.aload_n 0, 1) := by decide +kernel
theorem dX3_placeForNext_17 : decode cX3_placeForNext 17 = .ok (.aload_n 0, 1) := by decide +kernel
theorem dX3_placeForNext_18 : decode cX3_placeForNext 18 = .ok (.getfield 17, 3) := by decide +kernel
theorem dX3_placeForNext_21 : decode cX3_placeForNext 21 = .ok (.iload_n 1, 1) := by decide +kernel
theorem dX3_placeForNext_22 : decode cX3_placeForNext 22 = .ok (.iaload, 1) := by decide +kernel
theorem dX3_placeForNext_23 : decode cX3_placeForNext 23 = .ok (.invokevirtual 33, 3) := by decide +kernel
theorem dX3_placeForNext_26 : decode cX3_placeForNext 26 = .ok (.ifCond .ne 5, 3) := by decide +kernel
theorem dX3_placeForNext_29 : decode cX3_placeForNext 29 = .ok (.iload_n 1, 1) := by decide +kernel
theorem dX3_placeForNext_30 : decode cX3_placeForNext 30 = .ok (.ireturn, 1) := by decide +kernel
theorem dX3_placeForNext_31 : decode cX3_placeForNext 31 = .ok (.iinc 1 1, 3) := by decide +kernel
theorem dX3_placeForNext_34 : decode cX3_placeForNext 34 = .ok (.goto (-32), 3) := by decide +kernel
