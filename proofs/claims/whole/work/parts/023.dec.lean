theorem dX9_count_18 : decode cX9_count 18 = .ok (.iconst 1, 1) := by decide +kernel
theorem dX9_count_19 : decode cX9_count 19 = .ok (.invokevirtual 93, 3) := by decide +kernel
theorem dX9_count_22 : decode cX9_count 22 = .ok (.ifCond .eq 5, 3) := by decide +kernel
theorem dX9_count_25 : decode cX9_count 25 = .ok (.iconst 0, 1) := by decide +kernel
theorem dX9_count_26 : decode cX9_count 26 = .ok (.ireturn, 1) := by decide +kernel
theorem dX9_count_27 : decode cX9_count 27 = .ok (.iload_n 1, 1) := by decide +kernel
theorem dX9_count_28 : decode cX9_count 28 = .ok (.ifCond .ne 10, 3) := by decide +kernel
theorem dX9_count_31 : decode cX9_count 31 = .ok (.aload_n 0, 1) := by decide +kernel
theorem dX9_count_32 : decode cX9_count 32 = .ok (.getfield 120, 3) := by decide +kernel
theorem dX9_count_35 : decode cX9_count 35 = .ok (.goto 31, 3) := by decide +kernel
theorem dX9_count_38 : decode cX9_count 38 = .ok (.iload_n 1, 1) := by decide +kernel
theorem dX9_count_39 : decode cX9_count 39 = .ok (.iconst 1, 1) := by decide +kernel
theorem dX9_count_40 : decode cX9_count 40 = .ok (.if_icmp .ne 10, 3) := by decide +kernel
theorem dX9_count_43 : decode cX9_count 43 = .ok (.aload_n 0, 1) := by decide +kernel
theorem dX9_count_44 : decode cX9_count 44 = .ok (.getfield 113, 3) := by decide +kernel
theorem dX9_count_47 : decode cX9_count 47 = .ok (.goto 19, 3) := by decide +kernel
theorem dX9_count_50 : decode cX9_count 50 = .ok (.iload_n 1, 1) := by decide +kernel
theorem dX9_count_51 : decode cX9_count 51 = .ok (.iconst 2, 1) := by decide +kernel
theorem dX9_count_52 : decode cX9_count 52 = .ok (.if_icmp .ne 10, 3) := by decide +kernel
theorem dX9_count_55 : decode cX9_count 55 = .ok (.aload_n 0, 1) := by decide +kernel
theorem dX9_count_56 : decode cX9_count 56 = .ok (.invokevirtual 116, 3) := by decide +kernel
theorem dX9_count_59 : decode cX9_count 59 = .ok (.goto 7, 3) := by decide +kernel
theorem dX9_count_62 : decode cX9_count 62 = .ok (.aload_n 0, 1) := by decide +kernel
theorem dX9_count_63 : decode cX9_count 63 = .ok (.invokevirtual 136, 3) := by decide +kernel
theorem dX9_count_66 : decode cX9_count 66 = .ok (.ireturn, 1) := by decide +kernel
theorem dX9_ln_0 : decode cX9_ln 0 = .ok (.dload_n 0, 1) := by decide +kernel
theorem dX9_ln_1 : decode cX9_ln 1 = .ok (.dstore_n 2, 1) := by decide +kernel
theorem dX9_ln_2 : decode cX9_ln 2 = .ok (.iconst 0, 1) := by decide +kernel
theorem dX9_ln_3 : decode cX9_ln 3 = .ok (.istore 4, 2) := by decide +kernel
theorem dX9_ln_5 : decode cX9_ln 5 = .ok (.dload_n 2, 1) := by decide +kernel
theorem dX9_ln_6 : decode cX9_ln 6 = .ok (.ldc2_w 139, 3) := by decide +kernel
theorem dX9_ln_9 : decode cX9_ln 9 = .ok (.dcmp .l, 1) := by decide +kernel
theorem dX9_ln_10 : decode cX9_ln 10 = .ok (.ifCond .lt 15, 3) := by decide +kernel
theorem dX9_ln_13 : decode cX9_ln 13 = .ok (.dload_n 2, 1) := by decide +kernel
theorem dX9_ln_14 : decode cX9_ln 14 = .ok (.ldc2_w 139, 3) := by decide +kernel
theorem dX9_ln_17 : decode cX9_ln 17 = .ok (.ddiv, 1) := by decide +kernel
theorem dX9_ln_18 : decode cX9_ln 18 = .ok (.dstore_n 2, 1) := by decide +kernel
theorem dX9_ln_19 : decode cX9_ln 19 = .ok (.iinc 4 1, 3) := by decide +kernel
theorem dX9_ln_22 : decode cX9_ln 22 = .ok (.goto (-17), 3) := by decide +kernel
theorem dX9_ln_25 : decode cX9_ln 25 = .ok (.dload_n 2, 1) := by decide +kernel
theorem dX9_ln_26 : decode cX9_ln 26 = .ok (.dconst 1, 1) := by decide +kernel
theorem dX9_ln_27 : decode cX9_ln 27 = .ok (.dsub, 1) := by decide +kernel
theorem dX9_ln_28 : decode cX9_ln 28 = .ok (.dload_n 2, 1) := by decide +kernel
theorem dX9_ln_29 : decode cX9_ln 29 = .ok (.dconst 1, 1) := by decide +kernel
theorem dX9_ln_30 : decode cX9_ln 30 = .ok (.dadd, 1) := by decide +kernel
theorem dX9_ln_31 : decode cX9_ln 31 = .ok (.ddiv, 1) := by decide +kernel
theorem dX9_ln_32 : decode cX9_ln 32 = .ok (.dstore 5, 2) := by decide +kernel
theorem dX9_ln_34 : decode cX9_ln 34 = .ok (.dload 5, 2) := by decide +kernel
theorem dX9_ln_36 : decode cX9_ln 36 = .ok (.dstore 7, 2) := by decide +kernel
theorem dX9_ln_38 : decode cX9_ln 38 = .ok (.dconst 0, 1) := by decide +kernel
theorem dX9_ln_39 : decode cX9_ln 39 = .ok (.dstore 9, 2) := by decide +kernel
theorem dX9_ln_41 : decode cX9_ln 41 = .ok (.iconst 1, 1) := by decide +kernel
theorem dX9_ln_42 : decode cX9_ln 42 = .ok (.istore 11, 2) := by decide +kernel
theorem dX9_ln_44 : decode cX9_ln 44 = .ok (.iload 11, 2) := by decide +kernel
theorem dX9_ln_46 : decode cX9_ln 46 = .ok (.bipush 24, 2) := by decide +kernel
theorem dX9_ln_48 : decode cX9_ln 48 = .ok (.if_icmp .ge 30, 3) := by decide +kernel
theorem dX9_ln_51 : decode cX9_ln 51 = .ok (.dload 9, 2) := by decide +kernel
theorem dX9_ln_53 : decode cX9_ln 53 = .ok (.dload 7, 2) := by decide +kernel
theorem dX9_ln_55 : decode cX9_ln 55 = .ok (.iload 11, 2) := by decide +kernel
theorem dX9_ln_57 : decode cX9_ln 57 = .ok (.i2d, 1) := by decide +kernel
theorem dX9_ln_58 : decode cX9_ln 58 = .ok (.ddiv, 1) := by decide +kernel
theorem dX9_ln_59 : decode cX9_ln 59 = .ok (.dadd, 1) := by decide +kernel
theorem dX9_ln_60 : decode cX9_ln 60 = .ok (.dstore 9, 2) := by decide +kernel
theorem dX9_ln_62 : decode cX9_ln 62 = .ok (.dload 7, 2) := by decide +kernel
theorem dX9_ln_64 : decode cX9_ln 64 = .ok (.dload 5, 2) := by decide +kernel
theorem dX9_ln_66 : decode cX9_ln 66 = .ok (.dmul, 1) := by decide +kernel
theorem dX9_ln_67 : decode cX9_ln 67 = .ok (.dload 5, 2) := by decide +kernel
theorem dX9_ln_69 : decode cX9_ln 69 = .ok (.dmul, 1) := by decide +kernel
theorem dX9_ln_70 : decode cX9_ln 70 = .ok (.dstore 7, 2) := by decide +kernel
theorem dX9_ln_72 : decode cX9_ln 72 = .ok (.iinc 11 2, 3) := by decide +kernel
theorem dX9_ln_75 : decode cX9_ln 75 = .ok (.goto (-31), 3) := by decide +kernel
theorem dX9_ln_78 : decode cX9_ln 78 = .ok (.ldc2_w 139, 3) := by decide +kernel
theorem dX9_ln_81 : decode cX9_ln 81 = .ok (.dload 9, 2) := by decide +kernel
theorem dX9_ln_83 : decode cX9_ln 83 = .ok (.dmul, 1) := by decide +kernel
theorem dX9_ln_84 : decode cX9_ln 84 = .ok (.iload 4, 2) := by decide +kernel
theorem dX9_ln_86 : decode cX9_ln 86 = .ok (.i2d, 1) := by decide +kernel
theorem dX9_ln_87 : decode cX9_ln 87 = .ok (.ldc2_w 141, 3) := by decide +kernel
theorem dX9_ln_90 : decode cX9_ln 90 = .ok (.dmul, 1) := by decide +kernel
theorem dX9_ln_91 : decode cX9_ln 91 = .ok (.dadd, 1) := by decide +kernel
theorem dX9_ln_92 : decode cX9_ln 92 = .ok (.dreturn, 1) := by decide +kernel
theorem dX9_scoreOf_0 : decode cX9_scoreOf 0 = .ok (.aload_n 0, 1) := by decide +kernel
theorem dX9_scoreOf_1 : decode cX9_scoreOf 1 = .ok (.getfield 120, 3) := by decide +kernel
theorem dX9_scoreOf_4 : decode cX9_scoreOf 4 = .ok (.i2d, 1) := by decide +kernel
theorem dX9_scoreOf_5 : decode cX9_scoreOf 5 = .ok (.dstore_n 3, 1) := by decide +kernel
theorem dX9_scoreOf_6 : decode cX9_scoreOf 6 = .ok (.aload_n 0, 1) := by decide +kernel
theorem dX9_scoreOf_7 : decode cX9_scoreOf 7 = .ok (.invokevirtual 136, 3) := by decide +kernel
theorem dX9_scoreOf_10 : decode cX9_scoreOf 10 = .ok (.i2d, 1) := by decide +kernel
theorem dX9_scoreOf_11 : decode cX9_scoreOf 11 = .ok (.dload_n 3, 1) := by decide +kernel
theorem dX9_scoreOf_12 : decode cX9_scoreOf 12 = .ok (.ddiv, 1) := by decide +kernel
theorem dX9_scoreOf_13 : decode cX9_scoreOf 13 = .ok (.dstore 5, 2) := by decide +kernel
theorem dX9_scoreOf_15 : decode cX9_scoreOf 15 = .ok (.aload_n 0, 1) := by decide +kernel
theorem dX9_scoreOf_16 : decode cX9_scoreOf 16 = .ok (.getfield 19, 3) := by decide +kernel
theorem dX9_scoreOf_19 : decode cX9_scoreOf 19 = .ok (.bipush 40, 2) := by decide +kernel
theorem dX9_scoreOf_21 : decode cX9_scoreOf 21 = .ok (.iload_n 1, 1) := by decide +kernel
theorem dX9_scoreOf_22 : decode cX9_scoreOf 22 = .ok (.imul, 1) := by decide +kernel
theorem dX9_scoreOf_23 : decode cX9_scoreOf 23 = .ok (.iload_n 2, 1) := by decide +kernel
theorem dX9_scoreOf_24 : decode cX9_scoreOf 24 = .ok (.iadd, 1) := by decide +kernel
theorem dX9_scoreOf_25 : decode cX9_scoreOf 25 = .ok (.iaload, 1) := by decide +kernel
theorem dX9_scoreOf_26 : decode cX9_scoreOf 26 = .ok (.i2d, 1) := by decide +kernel
theorem dX9_scoreOf_27 : decode cX9_scoreOf 27 = .ok (.dstore 7, 2) := by decide +kernel
theorem dX9_scoreOf_29 : decode cX9_scoreOf 29 = .ok (.dload_n 3, 1) := by decide +kernel
theorem dX9_scoreOf_30 : decode cX9_scoreOf 30 = .ok (.aload_n 0, 1) := by decide +kernel
theorem dX9_scoreOf_31 : decode cX9_scoreOf 31 = .ok (.iload_n 1, 1) := by decide +kernel
theorem dX9_scoreOf_32 : decode cX9_scoreOf 32 = .ok (.invokevirtual 131, 3) := by decide +kernel
theorem dX9_scoreOf_35 : decode cX9_scoreOf 35 = .ok (.i2d, 1) := by decide +kernel
theorem dX9_scoreOf_36 : decode cX9_scoreOf 36 = .ok (.ddiv, 1) := by decide +kernel
theorem dX9_scoreOf_37 : decode cX9_scoreOf 37 = .ok (.invokestatic 143, 3) := by decide +kernel
theorem dX9_scoreOf_40 : decode cX9_scoreOf 40 = .ok (.ldc2_w 147, 3) := by decide +kernel
theorem dX9_scoreOf_43 : decode cX9_scoreOf 43 = .ok (.dload 7, 2) := by decide +kernel
theorem dX9_scoreOf_45 : decode cX9_scoreOf 45 = .ok (.dmul, 1) := by decide +kernel
theorem dX9_scoreOf_46 : decode cX9_scoreOf 46 = .ok (.ldc2_w 149, 3) := by decide +kernel
theorem dX9_scoreOf_49 : decode cX9_scoreOf 49 = .ok (.ldc2_w 151, 3) := by decide +kernel
theorem dX9_scoreOf_52 : decode cX9_scoreOf 52 = .ok (.ldc2_w 153, 3) := by decide +kernel
theorem dX9_scoreOf_55 : decode cX9_scoreOf 55 = .ok (.aload_n 0, 1) := by decide +kernel
theorem dX9_scoreOf_56 : decode cX9_scoreOf 56 = .ok (.getfield 22, 3) := by decide +kernel
theorem dX9_scoreOf_59 : decode cX9_scoreOf 59 = .ok (.iload_n 2, 1) := by decide +kernel
theorem dX9_scoreOf_60 : decode cX9_scoreOf 60 = .ok (.iaload, 1) := by decide +kernel
theorem dX9_scoreOf_61 : decode cX9_scoreOf 61 = .ok (.i2d, 1) := by decide +kernel
theorem dX9_scoreOf_62 : decode cX9_scoreOf 62 = .ok (.dmul, 1) := by decide +kernel
theorem dX9_scoreOf_63 : decode cX9_scoreOf 63 = .ok (.dload 5, 2) := by decide +kernel
theorem dX9_scoreOf_65 : decode cX9_scoreOf 65 = .ok (.ddiv, 1) := by decide +kernel
theorem dX9_scoreOf_66 : decode cX9_scoreOf 66 = .ok (.dadd, 1) := by decide +kernel
theorem dX9_scoreOf_67 : decode cX9_scoreOf 67 = .ok (.dmul, 1) := by decide +kernel
theorem dX9_scoreOf_68 : decode cX9_scoreOf 68 = .ok (.dload 7, 2) := by decide +kernel
theorem dX9_scoreOf_70 : decode cX9_scoreOf 70 = .ok (.dadd, 1) := by decide +kernel
theorem dX9_scoreOf_71 : decode cX9_scoreOf 71 = .ok (.ddiv, 1) := by decide +kernel
theorem dX9_scoreOf_72 : decode cX9_scoreOf 72 = .ok (.dmul, 1) := by decide +kernel
theorem dX9_scoreOf_73 : decode cX9_scoreOf 73 = .ok (.dreturn, 1) := by decide +kernel
theorem dX9_score_0 : decode cX9_score 0 = .ok (.aload_n 0, 1) := by decide +kernel
theorem dX9_score_1 : decode cX9_score 1 = .ok (.getfield 97, 3) := by decide +kernel
theorem dX9_score_4 : decode cX9_score 4 = .ok (.istore_n 2, 1) := by decide +kernel
theorem dX9_score_5 : decode cX9_score 5 = .ok (.aload_n 0, 1) := by decide +kernel
theorem dX9_score_6 : decode cX9_score 6 = .ok (.iconst 0, 1) := by decide +kernel
theorem dX9_score_7 : decode cX9_score 7 = .ok (.putfield 97, 3) := by decide +kernel
theorem dX9_score_10 : decode cX9_score 10 = .ok (.aload_n 0, 1) := by decide +kernel
theorem dX9_score_11 : decode cX9_score 11 = .ok (.iconst 0, 1) := by decide +kernel
theorem dX9_score_12 : decode cX9_score 12 = .ok (.putfield 102, 3) := by decide +kernel
theorem dX9_score_15 : decode cX9_score 15 = .ok (.aload_n 0, 1) := by decide +kernel
theorem dX9_score_16 : decode cX9_score 16 = .ok (.iload_n 2, 1) := by decide +kernel
theorem dX9_score_17 : decode cX9_score 17 = .ok (.invokevirtual 123, 3) := by decide +kernel
theorem dX9_score_20 : decode cX9_score 20 = .ok (.istore_n 3, 1) := by decide +kernel
theorem dX9_score_21 : decode cX9_score 21 = .ok (.iload_n 3, 1) := by decide +kernel
theorem dX9_score_22 : decode cX9_score 22 = .ok (.ifCond .eq 19, 3) := by decide +kernel
theorem dX9_score_25 : decode cX9_score 25 = .ok (.aload_n 0, 1) := by decide +kernel
theorem dX9_score_26 : decode cX9_score 26 = .ok (.aload_n 0, 1) := by decide +kernel
theorem dX9_score_27 : decode cX9_score 27 = .ok (.getfield 16, 3) := by decide +kernel
theorem dX9_score_30 : decode cX9_score 30 = .ok (.iconst 0, 1) := by decide +kernel
theorem dX9_score_31 : decode cX9_score 31 = .ok (.aload_n 0, 1) := by decide +kernel
theorem dX9_score_32 : decode cX9_score 32 = .ok (.getfield 113, 3) := by decide +kernel
theorem dX9_score_35 : decode cX9_score 35 = .ok (.invokevirtual 127, 3) := by decide +kernel
theorem dX9_score_38 : decode cX9_score 38 = .ok (.goto 4, 3) := by decide +kernel
theorem dX9_score_41 : decode cX9_score 41 = .ok (.iconst (-1), 1) := by decide +kernel
theorem dX9_score_42 : decode cX9_score 42 = .ok (.istore 4, 2) := by decide +kernel
theorem dX9_score_44 : decode cX9_score 44 = .ok (.iload_n 3, 1) := by decide +kernel
theorem dX9_score_45 : decode cX9_score 45 = .ok (.ifCond .eq 17, 3) := by decide +kernel
theorem dX9_score_48 : decode cX9_score 48 = .ok (.aload_n 0, 1) := by decide +kernel
theorem dX9_score_49 : decode cX9_score 49 = .ok (.iload_n 2, 1) := by decide +kernel
theorem dX9_score_50 : decode cX9_score 50 = .ok (.invokevirtual 123, 3) := by decide +kernel
theorem dX9_score_53 : decode cX9_score 53 = .ok (.ifCond .ne 7, 3) := by decide +kernel
theorem dX9_score_56 : decode cX9_score 56 = .ok (.iconst 1, 1) := by decide +kernel
theorem dX9_score_57 : decode cX9_score 57 = .ok (.goto 4, 3) := by decide +kernel
theorem dX9_score_60 : decode cX9_score 60 = .ok (.iconst 0, 1) := by decide +kernel
theorem dX9_score_61 : decode cX9_score 61 = .ok (.istore_n 3, 1) := by decide +kernel
theorem dX9_score_62 : decode cX9_score 62 = .ok (.aload_n 0, 1) := by decide +kernel
theorem dX9_score_63 : decode cX9_score 63 = .ok (.iload_n 3, 1) := by decide +kernel
theorem dX9_score_64 : decode cX9_score 64 = .ok (.ifCond .ne 7, 3) := by decide +kernel
theorem dX9_score_67 : decode cX9_score 67 = .ok (.iconst 1, 1) := by decide +kernel
theorem dX9_score_68 : decode cX9_score 68 = .ok (.goto 4, 3) := by decide +kernel
theorem dX9_score_71 : decode cX9_score 71 = .ok (.iconst 0, 1) := by decide +kernel
theorem dX9_score_72 : decode cX9_score 72 = .ok (.iconst 1, 1) := by decide +kernel
theorem dX9_score_73 : decode cX9_score 73 = .ok (.invokevirtual 93, 3) := by decide +kernel
theorem dX9_score_76 : decode cX9_score 76 = .ok (.ifCond .ne 32, 3) := by decide +kernel
theorem dX9_score_79 : decode cX9_score 79 = .ok (.aload_n 0, 1) := by decide +kernel
theorem dX9_score_80 : decode cX9_score 80 = .ok (.iload_n 1, 1) := by decide +kernel
theorem dX9_score_81 : decode cX9_score 81 = .ok (.i2l, 1) := by decide +kernel
theorem dX9_score_82 : decode cX9_score 82 = .ok (.lconst 0, 1) := by decide +kernel
theorem dX9_score_83 : decode cX9_score 83 = .ok (.aload_n 0, 1) := by decide +kernel
theorem dX9_score_84 : decode cX9_score 84 = .ok (.getfield 120, 3) := by decide +kernel
theorem dX9_score_87 : decode cX9_score 87 = .ok (.iconst 1, 1) := by decide +kernel
theorem dX9_score_88 : decode cX9_score 88 = .ok (.isub, 1) := by decide +kernel
theorem dX9_score_89 : decode cX9_score 89 = .ok (.i2l, 1) := by decide +kernel
theorem dX9_score_90 : decode cX9_score 90 = .ok (.invokestatic 89, 3) := by decide +kernel
theorem dX9_score_93 : decode cX9_score 93 = .ok (.ifCond .ne 7, 3) := by decide +kernel
theorem dX9_score_96 : decode cX9_score 96 = .ok (.iconst 1, 1) := by decide +kernel
theorem dX9_score_97 : decode cX9_score 97 = .ok (.goto 4, 3) := by decide +kernel
theorem dX9_score_100 : decode cX9_score 100 = .ok (.iconst 0, 1) := by decide +kernel
theorem dX9_score_101 : decode cX9_score 101 = .ok (.iconst 2, 1) := by decide +kernel
theorem dX9_score_102 : decode cX9_score 102 = .ok (.invokevirtual 93, 3) := by decide +kernel
theorem dX9_score_105 : decode cX9_score 105 = .ok (.ifCond .eq 5, 3) := by decide +kernel
theorem dX9_score_108 : decode cX9_score 108 = .ok (.dconst 0, 1) := by decide +kernel
theorem dX9_score_109 : decode cX9_score 109 = .ok (.dreturn, 1) := by decide +kernel
theorem dX9_score_110 : decode cX9_score 110 = .ok (.iload 4, 2) := by decide +kernel
theorem dX9_score_112 : decode cX9_score 112 = .ok (.ifCond .lt 18, 3) := by decide +kernel
theorem dX9_score_115 : decode cX9_score 115 = .ok (.aload_n 0, 1) := by decide +kernel
theorem dX9_score_116 : decode cX9_score 116 = .ok (.getfield 19, 3) := by decide +kernel
theorem dX9_score_119 : decode cX9_score 119 = .ok (.bipush 40, 2) := by decide +kernel
theorem dX9_score_121 : decode cX9_score 121 = .ok (.iload 4, 2) := by decide +kernel
theorem dX9_score_123 : decode cX9_score 123 = .ok (.imul, 1) := by decide +kernel
theorem dX9_score_124 : decode cX9_score 124 = .ok (.iload_n 1, 1) := by decide +kernel
theorem dX9_score_125 : decode cX9_score 125 = .ok (.iadd, 1) := by decide +kernel
theorem dX9_score_126 : decode cX9_score 126 = .ok (.iaload, 1) := by decide +kernel
theorem dX9_score_127 : decode cX9_score 127 = .ok (.ifCond .ne 7, 3) := by decide +kernel
theorem dX9_score_130 : decode cX9_score 130 = .ok (.dconst 0, 1) := by decide +kernel
theorem dX9_score_131 : decode cX9_score 131 = .ok (.goto 10, 3) := by decide +kernel
theorem dX9_score_134 : decode cX9_score 134 = .ok (.aload_n 0, 1) := by decide +kernel
theorem dX9_score_135 : decode cX9_score 135 = .ok (.iload 4, 2) := by decide +kernel
theorem dX9_score_137 : decode cX9_score 137 = .ok (.iload_n 1, 1) := by decide +kernel
theorem dX9_score_138 : decode cX9_score 138 = .ok (.invokevirtual 155, 3) := by decide +kernel
theorem dX9_score_141 : decode cX9_score 141 = .ok (.dreturn, 1) := by decide +kernel
theorem dX9_cell_0 : decode cX9_cell 0 = .ok (.sipush 2560, 3) := by decide +kernel
theorem dX9_cell_3 : decode cX9_cell 3 = .ok (.iload_n 1, 1) := by decide +kernel
theorem dX9_cell_4 : decode cX9_cell 4 = .ok (.imul, 1) := by decide +kernel
theorem dX9_cell_5 : decode cX9_cell 5 = .ok (.bipush 40, 2) := by decide +kernel
theorem dX9_cell_7 : decode cX9_cell 7 = .ok (.iload_n 2, 1) := by decide +kernel
theorem dX9_cell_8 : decode cX9_cell 8 = .ok (.imul, 1) := by decide +kernel
theorem dX9_cell_9 : decode cX9_cell 9 = .ok (.iadd, 1) := by decide +kernel
theorem dX9_cell_10 : decode cX9_cell 10 = .ok (.iload_n 3, 1) := by decide +kernel
theorem dX9_cell_11 : decode cX9_cell 11 = .ok (.iadd, 1) := by decide +kernel
theorem dX9_cell_12 : decode cX9_cell 12 = .ok (.ireturn, 1) := by decide +kernel
theorem dX9_rank_0 : decode cX9_rank 0 = .ok (.iconst 0, 1) := by decide +kernel
theorem dX9_rank_1 : decode cX9_rank 1 = .ok (.istore_n 2, 1) := by decide +kernel
theorem dX9_rank_2 : decode cX9_rank 2 = .ok (.iconst 0, 1) := by decide +kernel
theorem dX9_rank_3 : decode cX9_rank 3 = .ok (.istore_n 3, 1) := by decide +kernel
theorem dX9_rank_4 : decode cX9_rank 4 = .ok (.iload_n 3, 1) := by decide +kernel
theorem dX9_rank_5 : decode cX9_rank 5 = .ok (.bipush 8, 2) := by decide +kernel
theorem dX9_rank_7 : decode cX9_rank 7 = .ok (.if_icmp .ge 26, 3) := by decide +kernel
theorem dX9_rank_10 : decode cX9_rank 10 = .ok (.aload_n 0, 1) := by decide +kernel
theorem dX9_rank_11 : decode cX9_rank 11 = .ok (.getfield 13, 3) := by decide +kernel
theorem dX9_rank_14 : decode cX9_rank 14 = .ok (.iload_n 3, 1) := by decide +kernel
theorem dX9_rank_15 : decode cX9_rank 15 = .ok (.aload_n 0, 1) := by decide +kernel
theorem dX9_rank_16 : decode cX9_rank 16 = .ok (.getfield 16, 3) := by decide +kernel
theorem dX9_rank_19 : decode cX9_rank 19 = .ok (.bipush 8, 2) := by decide +kernel
theorem dX9_rank_21 : decode cX9_rank 21 = .ok (.iload_n 1, 1) := by decide +kernel
theorem dX9_rank_22 : decode cX9_rank 22 = .ok (.imul, 1) := by decide +kernel
theorem dX9_rank_23 : decode cX9_rank 23 = .ok (.iload_n 3, 1) := by decide +kernel
theorem dX9_rank_24 : decode cX9_rank 24 = .ok (.iadd, 1) := by decide +kernel
theorem dX9_rank_25 : decode cX9_rank 25 = .ok (.iaload, 1) := by decide +kernel
theorem dX9_rank_26 : decode cX9_rank 26 = .ok (.iastore, 1) := by decide +kernel
theorem dX9_rank_27 : decode cX9_rank 27 = .ok (.iinc 3 1, 3) := by decide +kernel
theorem dX9_rank_30 : decode cX9_rank 30 = .ok (.goto (-26), 3) := by decide +kernel
theorem dX9_rank_33 : decode cX9_rank 33 = .ok (.iconst 0, 1) := by decide +kernel
theorem dX9_rank_34 : decode cX9_rank 34 = .ok (.istore_n 3, 1) := by decide +kernel
theorem dX9_rank_35 : decode cX9_rank 35 = .ok (.iload_n 3, 1) := by decide +kernel
theorem dX9_rank_36 : decode cX9_rank 36 = .ok (.aload_n 0, 1) := by decide +kernel
theorem dX9_rank_37 : decode cX9_rank 37 = .ok (.getfield 113, 3) := by decide +kernel
theorem dX9_rank_40 : decode cX9_rank 40 = .ok (.if_icmp .ge 32, 3) := by decide +kernel
theorem dX9_rank_43 : decode cX9_rank 43 = .ok (.iload_n 2, 1) := by decide +kernel
theorem dX9_rank_44 : decode cX9_rank 44 = .ok (.aload_n 0, 1) := by decide +kernel
theorem dX9_rank_45 : decode cX9_rank 45 = .ok (.aload_n 0, 1) := by decide +kernel
theorem dX9_rank_46 : decode cX9_rank 46 = .ok (.getfield 16, 3) := by decide +kernel
theorem dX9_rank_49 : decode cX9_rank 49 = .ok (.bipush 8, 2) := by decide +kernel
theorem dX9_rank_51 : decode cX9_rank 51 = .ok (.iload_n 3, 1) := by decide +kernel
theorem dX9_rank_52 : decode cX9_rank 52 = .ok (.imul, 1) := by decide +kernel
theorem dX9_rank_53 : decode cX9_rank 53 = .ok (.invokevirtual 109, 3) := by decide +kernel
theorem dX9_rank_56 : decode cX9_rank 56 = .ok (.ifCond .le 7, 3) := by decide +kernel
theorem dX9_rank_59 : decode cX9_rank 59 = .ok (.iconst 1, 1) := by decide +kernel
theorem dX9_rank_60 : decode cX9_rank 60 = .ok (.goto 4, 3) := by decide +kernel
theorem dX9_rank_63 : decode cX9_rank 63 = .ok (.iconst 0, 1) := by decide +kernel
theorem dX9_rank_64 : decode cX9_rank 64 = .ok (.iadd, 1) := by decide +kernel
theorem dX9_rank_65 : decode cX9_rank 65 = .ok (.istore_n 2, 1) := by decide +kernel
theorem dX9_rank_66 : decode cX9_rank 66 = .ok (.iinc 3 1, 3) := by decide +kernel
theorem dX9_rank_69 : decode cX9_rank 69 = .ok (.goto (-34), 3) := by decide +kernel
theorem dX9_rank_72 : decode cX9_rank 72 = .ok (.iload_n 2, 1) := by decide +kernel
theorem dX9_rank_73 : decode cX9_rank 73 = .ok (.ireturn, 1) := by decide +kernel
theorem dX9_makes_0 : decode cX9_makes 0 = .ok (.iconst 4, 1) := by decide +kernel
theorem dX9_makes_1 : decode cX9_makes 1 = .ok (.istore_n 3, 1) := by decide +kernel
theorem dX9_makes_2 : decode cX9_makes 2 = .ok (.aload_n 0, 1) := by decide +kernel
theorem dX9_makes_3 : decode cX9_makes 3 = .ok (.getfield 28, 3) := by decide +kernel
theorem dX9_makes_6 : decode cX9_makes 6 = .ok (.iload_n 3, 1) := by decide +kernel
theorem dX9_makes_7 : decode cX9_makes 7 = .ok (.iload_n 1, 1) := by decide +kernel
theorem dX9_makes_8 : decode cX9_makes 8 = .ok (.iastore, 1) := by decide +kernel
theorem dX9_makes_9 : decode cX9_makes 9 = .ok (.aload_n 0, 1) := by decide +kernel
theorem dX9_makes_10 : decode cX9_makes 10 = .ok (.getfield 31, 3) := by decide +kernel
theorem dX9_makes_13 : decode cX9_makes 13 = .ok (.iload_n 3, 1) := by decide +kernel
theorem dX9_makes_14 : decode cX9_makes 14 = .ok (.iload_n 2, 1) := by decide +kernel
theorem dX9_makes_15 : decode cX9_makes 15 = .ok (.iastore, 1) := by decide +kernel
theorem dX9_makes_16 : decode cX9_makes 16 = .ok (.aload_n 0, 1) := by decide +kernel
theorem dX9_makes_17 : decode cX9_makes 17 = .ok (.getfield 34, 3) := by decide +kernel
theorem dX9_makes_20 : decode cX9_makes 20 = .ok (.iload_n 3, 1) := by decide +kernel
theorem dX9_makes_21 : decode cX9_makes 21 = .ok (.aload_n 0, 1) := by decide +kernel
theorem dX9_makes_22 : decode cX9_makes 22 = .ok (.getfield 120, 3) := by decide +kernel
theorem dX9_makes_25 : decode cX9_makes 25 = .ok (.iastore, 1) := by decide +kernel
theorem dX9_makes_26 : decode cX9_makes 26 = .ok (.aload_n 0, 1) := by decide +kernel
theorem dX9_makes_27 : decode cX9_makes 27 = .ok (.getfield 37, 3) := by decide +kernel
theorem dX9_makes_30 : decode cX9_makes 30 = .ok (.iload_n 3, 1) := by decide +kernel
theorem dX9_makes_31 : decode cX9_makes 31 = .ok (.aload_n 0, 1) := by decide +kernel
theorem dX9_makes_32 : decode cX9_makes 32 = .ok (.getfield 113, 3) := by decide +kernel
theorem dX9_makes_35 : decode cX9_makes 35 = .ok (.iastore, 1) := by decide +kernel
theorem dX9_makes_36 : decode cX9_makes 36 = .ok (.dconst 0, 1) := by decide +kernel
theorem dX9_makes_37 : decode cX9_makes 37 = .ok (.dstore 4, 2) := by decide +kernel
theorem dX9_makes_39 : decode cX9_makes 39 = .ok (.dconst 0, 1) := by decide +kernel
theorem dX9_makes_40 : decode cX9_makes 40 = .ok (.dstore 6, 2) := by decide +kernel
theorem dX9_makes_42 : decode cX9_makes 42 = .ok (.iconst 0, 1) := by decide +kernel
theorem dX9_makes_43 : decode cX9_makes 43 = .ok (.istore 8, 2) := by decide +kernel
theorem dX9_makes_45 : decode cX9_makes 45 = .ok (.iconst 0, 1) := by decide +kernel
theorem dX9_makes_46 : decode cX9_makes 46 = .ok (.istore 9, 2) := by decide +kernel
theorem dX9_makes_48 : decode cX9_makes 48 = .ok (.iload 9, 2) := by decide +kernel
theorem dX9_makes_50 : decode cX9_makes 50 = .ok (.bipush 40, 2) := by decide +kernel
theorem dX9_makes_52 : decode cX9_makes 52 = .ok (.aload_n 0, 1) := by decide +kernel
theorem dX9_makes_53 : decode cX9_makes 53 = .ok (.getfield 113, 3) := by decide +kernel
theorem dX9_makes_56 : decode cX9_makes 56 = .ok (.imul, 1) := by decide +kernel
theorem dX9_makes_57 : decode cX9_makes 57 = .ok (.if_icmp .ge 97, 3) := by decide +kernel
theorem dX9_makes_60 : decode cX9_makes 60 = .ok (.iload 9, 2) := by decide +kernel
theorem dX9_makes_62 : decode cX9_makes 62 = .ok (.bipush 40, 2) := by decide +kernel
theorem dX9_makes_64 : decode cX9_makes 64 = .ok (.irem, 1) := by decide +kernel
theorem dX9_makes_65 : decode cX9_makes 65 = .ok (.aload_n 0, 1) := by decide +kernel
theorem dX9_makes_66 : decode cX9_makes 66 = .ok (.getfield 120, 3) := by decide +kernel
theorem dX9_makes_69 : decode cX9_makes 69 = .ok (.if_icmp .ge 79, 3) := by decide +kernel
theorem dX9_makes_72 : decode cX9_makes 72 = .ok (.aload_n 0, 1) := by decide +kernel
theorem dX9_makes_73 : decode cX9_makes 73 = .ok (.getfield 19, 3) := by decide +kernel
theorem dX9_makes_76 : decode cX9_makes 76 = .ok (.iload 9, 2) := by decide +kernel
theorem dX9_makes_78 : decode cX9_makes 78 = .ok (.iaload, 1) := by decide +kernel
theorem dX9_makes_79 : decode cX9_makes 79 = .ok (.ifCond .ne 6, 3) := by decide +kernel
theorem dX9_makes_82 : decode cX9_makes 82 = .ok (.goto 66, 3) := by decide +kernel
theorem dX9_makes_85 : decode cX9_makes 85 = .ok (.aload_n 0, 1) := by decide +kernel
theorem dX9_makes_86 : decode cX9_makes 86 = .ok (.iload 9, 2) := by decide +kernel
theorem dX9_makes_88 : decode cX9_makes 88 = .ok (.bipush 40, 2) := by decide +kernel
theorem dX9_makes_90 : decode cX9_makes 90 = .ok (.idiv, 1) := by decide +kernel
theorem dX9_makes_91 : decode cX9_makes 91 = .ok (.iload 9, 2) := by decide +kernel
theorem dX9_makes_93 : decode cX9_makes 93 = .ok (.bipush 40, 2) := by decide +kernel
theorem dX9_makes_95 : decode cX9_makes 95 = .ok (.irem, 1) := by decide +kernel
theorem dX9_makes_96 : decode cX9_makes 96 = .ok (.invokevirtual 155, 3) := by decide +kernel
theorem dX9_makes_99 : decode cX9_makes 99 = .ok (.dstore 10, 2) := by decide +kernel
theorem dX9_makes_101 : decode cX9_makes 101 = .ok (.iload 8, 2) := by decide +kernel
theorem dX9_makes_103 : decode cX9_makes 103 = .ok (.ifCond .eq 11, 3) := by decide +kernel
theorem dX9_makes_106 : decode cX9_makes 106 = .ok (.dload 10, 2) := by decide +kernel
theorem dX9_makes_108 : decode cX9_makes 108 = .ok (.dload 4, 2) := by decide +kernel
theorem dX9_makes_110 : decode cX9_makes 110 = .ok (.dcmp .g, 1) := by decide +kernel
theorem dX9_makes_111 : decode cX9_makes 111 = .ok (.ifCond .ge 8, 3) := by decide +kernel
theorem dX9_makes_114 : decode cX9_makes 114 = .ok (.dload 10, 2) := by decide +kernel
theorem dX9_makes_116 : decode cX9_makes 116 = .ok (.goto 5, 3) := by decide +kernel
theorem dX9_makes_119 : decode cX9_makes 119 = .ok (.dload 4, 2) := by decide +kernel
theorem dX9_makes_121 : decode cX9_makes 121 = .ok (.dstore 4, 2) := by decide +kernel
theorem dX9_makes_123 : decode cX9_makes 123 = .ok (.iload 8, 2) := by decide +kernel
theorem dX9_makes_125 : decode cX9_makes 125 = .ok (.ifCond .eq 11, 3) := by decide +kernel
theorem dX9_makes_128 : decode cX9_makes 128 = .ok (.dload 10, 2) := by decide +kernel
theorem dX9_makes_130 : decode cX9_makes 130 = .ok (.dload 6, 2) := by decide +kernel
theorem dX9_makes_132 : decode cX9_makes 132 = .ok (.dcmp .l, 1) := by decide +kernel
theorem dX9_makes_133 : decode cX9_makes 133 = .ok (.ifCond .le 8, 3) := by decide +kernel
theorem dX9_makes_136 : decode cX9_makes 136 = .ok (.dload 10, 2) := by decide +kernel
theorem dX9_makes_138 : decode cX9_makes 138 = .ok (.goto 5, 3) := by decide +kernel
theorem dX9_makes_141 : decode cX9_makes 141 = .ok (.dload 6, 2) := by decide +kernel
theorem dX9_makes_143 : decode cX9_makes 143 = .ok (.dstore 6, 2) := by decide +kernel
theorem dX9_makes_145 : decode cX9_makes 145 = .ok (.iconst 1, 1) := by decide +kernel
theorem dX9_makes_146 : decode cX9_makes 146 = .ok (.istore 8, 2) := by decide +kernel
theorem dX9_makes_148 : decode cX9_makes 148 = .ok (.iinc 9 1, 3) := by decide +kernel
theorem dX9_makes_151 : decode cX9_makes 151 = .ok (.goto (-103), 3) := by decide +kernel
theorem dX9_makes_154 : decode cX9_makes 154 = .ok (.iconst 1, 1) := by decide +kernel
theorem dX9_makes_155 : decode cX9_makes 155 = .ok (.iload_n 1, 1) := by decide +kernel
theorem dX9_makes_156 : decode cX9_makes 156 = .ok (.ishl, 1) := by decide +kernel
theorem dX9_makes_157 : decode cX9_makes 157 = .ok (.iconst 1, 1) := by decide +kernel
theorem dX9_makes_158 : decode cX9_makes 158 = .ok (.isub, 1) := by decide +kernel
theorem dX9_makes_159 : decode cX9_makes 159 = .ok (.istore 9, 2) := by decide +kernel
theorem dX9_makes_161 : decode cX9_makes 161 = .ok (.iconst 0, 1) := by decide +kernel
theorem dX9_makes_162 : decode cX9_makes 162 = .ok (.istore 10, 2) := by decide +kernel
theorem dX9_makes_164 : decode cX9_makes 164 = .ok (.iload 10, 2) := by decide +kernel
theorem dX9_makes_166 : decode cX9_makes 166 = .ok (.aload_n 0, 1) := by decide +kernel
theorem dX9_makes_167 : decode cX9_makes 167 = .ok (.getfield 113, 3) := by decide +kernel
theorem dX9_makes_170 : decode cX9_makes 170 = .ok (.if_icmp .ge 192, 3) := by decide +kernel
theorem dX9_makes_173 : decode cX9_makes 173 = .ok (.aload_n 0, 1) := by decide +kernel
theorem dX9_makes_174 : decode cX9_makes 174 = .ok (.iload 10, 2) := by decide +kernel
theorem dX9_makes_176 : decode cX9_makes 176 = .ok (.invokevirtual 159, 3) := by decide +kernel
theorem dX9_makes_179 : decode cX9_makes 179 = .ok (.istore 11, 2) := by decide +kernel
theorem dX9_makes_181 : decode cX9_makes 181 = .ok (.iconst 0, 1) := by decide +kernel
theorem dX9_makes_182 : decode cX9_makes 182 = .ok (.istore 12, 2) := by decide +kernel
theorem dX9_makes_184 : decode cX9_makes 184 = .ok (.iload 12, 2) := by decide +kernel
theorem dX9_makes_186 : decode cX9_makes 186 = .ok (.bipush 8, 2) := by decide +kernel
theorem dX9_makes_188 : decode cX9_makes 188 = .ok (.if_icmp .ge 41, 3) := by decide +kernel
theorem dX9_makes_191 : decode cX9_makes 191 = .ok (.aload_n 0, 1) := by decide +kernel
theorem dX9_makes_192 : decode cX9_makes 192 = .ok (.getfield 40, 3) := by decide +kernel
theorem dX9_makes_195 : decode cX9_makes 195 = .ok (.sipush 512, 3) := by decide +kernel
theorem dX9_makes_198 : decode cX9_makes 198 = .ok (.iload_n 3, 1) := by decide +kernel
theorem dX9_makes_199 : decode cX9_makes 199 = .ok (.imul, 1) := by decide +kernel
theorem dX9_makes_200 : decode cX9_makes 200 = .ok (.bipush 8, 2) := by decide +kernel
theorem dX9_makes_202 : decode cX9_makes 202 = .ok (.iload 11, 2) := by decide +kernel
theorem dX9_makes_204 : decode cX9_makes 204 = .ok (.imul, 1) := by decide +kernel
theorem dX9_makes_205 : decode cX9_makes 205 = .ok (.iadd, 1) := by decide +kernel
theorem dX9_makes_206 : decode cX9_makes 206 = .ok (.iload 12, 2) := by decide +kernel
theorem dX9_makes_208 : decode cX9_makes 208 = .ok (.iadd, 1) := by decide +kernel
theorem dX9_makes_209 : decode cX9_makes 209 = .ok (.aload_n 0, 1) := by decide +kernel
theorem dX9_makes_210 : decode cX9_makes 210 = .ok (.getfield 16, 3) := by decide +kernel
theorem dX9_makes_213 : decode cX9_makes 213 = .ok (.bipush 8, 2) := by decide +kernel
theorem dX9_makes_215 : decode cX9_makes 215 = .ok (.iload 10, 2) := by decide +kernel
theorem dX9_makes_217 : decode cX9_makes 217 = .ok (.imul, 1) := by decide +kernel
theorem dX9_makes_218 : decode cX9_makes 218 = .ok (.iload 12, 2) := by decide +kernel
theorem dX9_makes_220 : decode cX9_makes 220 = .ok (.iadd, 1) := by decide +kernel
theorem dX9_makes_221 : decode cX9_makes 221 = .ok (.iaload, 1) := by decide +kernel
theorem dX9_makes_222 : decode cX9_makes 222 = .ok (.iastore, 1) := by decide +kernel
theorem dX9_makes_223 : decode cX9_makes 223 = .ok (.iinc 12 1, 3) := by decide +kernel
theorem dX9_makes_226 : decode cX9_makes 226 = .ok (.goto (-42), 3) := by decide +kernel
theorem dX9_makes_229 : decode cX9_makes 229 = .ok (.iconst 0, 1) := by decide +kernel
theorem dX9_makes_230 : decode cX9_makes 230 = .ok (.istore 12, 2) := by decide +kernel
theorem dX9_makes_232 : decode cX9_makes 232 = .ok (.iload 12, 2) := by decide +kernel
theorem dX9_makes_234 : decode cX9_makes 234 = .ok (.bipush 40, 2) := by decide +kernel
theorem dX9_makes_236 : decode cX9_makes 236 = .ok (.if_icmp .ge 120, 3) := by decide +kernel
theorem dX9_makes_239 : decode cX9_makes 239 = .ok (.iload 12, 2) := by decide +kernel
theorem dX9_makes_241 : decode cX9_makes 241 = .ok (.aload_n 0, 1) := by decide +kernel
theorem dX9_makes_242 : decode cX9_makes 242 = .ok (.getfield 120, 3) := by decide +kernel
theorem dX9_makes_245 : decode cX9_makes 245 = .ok (.if_icmp .ge 23, 3) := by decide +kernel
theorem dX9_makes_248 : decode cX9_makes 248 = .ok (.aload_n 0, 1) := by decide +kernel
theorem dX9_makes_249 : decode cX9_makes 249 = .ok (.getfield 19, 3) := by decide +kernel
theorem dX9_makes_252 : decode cX9_makes 252 = .ok (.bipush 40, 2) := by decide +kernel
theorem dX9_makes_254 : decode cX9_makes 254 = .ok (.iload 10, 2) := by decide +kernel
theorem dX9_makes_256 : decode cX9_makes 256 = .ok (.imul, 1) := by decide +kernel
theorem dX9_makes_257 : decode cX9_makes 257 = .ok (.iload 12, 2) := by decide +kernel
theorem dX9_makes_259 : decode cX9_makes 259 = .ok (.iadd, 1) := by decide +kernel
theorem dX9_makes_260 : decode cX9_makes 260 = .ok (.iaload, 1) := by decide +kernel
theorem dX9_makes_261 : decode cX9_makes 261 = .ok (.ifCond .le 7, 3) := by decide +kernel
theorem dX9_makes_264 : decode cX9_makes 264 = .ok (.iconst 1, 1) := by decide +kernel
theorem dX9_makes_265 : decode cX9_makes 265 = .ok (.goto 4, 3) := by decide +kernel
theorem dX9_makes_268 : decode cX9_makes 268 = .ok (.iconst 0, 1) := by decide +kernel
theorem dX9_makes_269 : decode cX9_makes 269 = .ok (.istore 13, 2) := by decide +kernel
theorem dX9_makes_271 : decode cX9_makes 271 = .ok (.iload 13, 2) := by decide +kernel
theorem dX9_makes_273 : decode cX9_makes 273 = .ok (.ifCond .eq 14, 3) := by decide +kernel
theorem dX9_makes_276 : decode cX9_makes 276 = .ok (.aload_n 0, 1) := by decide +kernel
theorem dX9_makes_277 : decode cX9_makes 277 = .ok (.iload 10, 2) := by decide +kernel
theorem dX9_makes_279 : decode cX9_makes 279 = .ok (.iload 12, 2) := by decide +kernel
theorem dX9_makes_281 : decode cX9_makes 281 = .ok (.invokevirtual 155, 3) := by decide +kernel
theorem dX9_makes_284 : decode cX9_makes 284 = .ok (.goto 4, 3) := by decide +kernel
theorem dX9_makes_287 : decode cX9_makes 287 = .ok (.dconst 0, 1) := by decide +kernel
theorem dX9_makes_288 : decode cX9_makes 288 = .ok (.dstore 14, 2) := by decide +kernel
theorem dX9_makes_290 : decode cX9_makes 290 = .ok (.aload_n 0, 1) := by decide +kernel
theorem dX9_makes_291 : decode cX9_makes 291 = .ok (.getfield 43, 3) := by decide +kernel
theorem dX9_makes_294 : decode cX9_makes 294 = .ok (.aload_n 0, 1) := by decide +kernel
theorem dX9_makes_295 : decode cX9_makes 295 = .ok (.iload_n 3, 1) := by decide +kernel
theorem dX9_makes_296 : decode cX9_makes 296 = .ok (.iload 11, 2) := by decide +kernel
theorem dX9_makes_298 : decode cX9_makes 298 = .ok (.iload 12, 2) := by decide +kernel
theorem dX9_makes_300 : decode cX9_makes 300 = .ok (.invokevirtual 162, 3) := by decide +kernel
theorem dX9_makes_303 : decode cX9_makes 303 = .ok (.iload 13, 2) := by decide +kernel
theorem dX9_makes_305 : decode cX9_makes 305 = .ok (.ifCond .ne 7, 3) := by decide +kernel
theorem dX9_makes_308 : decode cX9_makes 308 = .ok (.iconst 0, 1) := by decide +kernel
theorem dX9_makes_309 : decode cX9_makes 309 = .ok (.goto 40, 3) := by decide +kernel
theorem dX9_makes_312 : decode cX9_makes 312 = .ok (.dload 4, 2) := by decide +kernel
theorem dX9_makes_314 : decode cX9_makes 314 = .ok (.dload 6, 2) := by decide +kernel
theorem dX9_makes_316 : decode cX9_makes 316 = .ok (.dcmp .l, 1) := by decide +kernel
theorem dX9_makes_317 : decode cX9_makes 317 = .ok (.ifCond .ne 8, 3) := by decide +kernel
theorem dX9_makes_320 : decode cX9_makes 320 = .ok (.iload 9, 2) := by decide +kernel
theorem dX9_makes_322 : decode cX9_makes 322 = .ok (.goto 27, 3) := by decide +kernel
theorem dX9_makes_325 : decode cX9_makes 325 = .ok (.dconst 1, 1) := by decide +kernel
theorem dX9_makes_326 : decode cX9_makes 326 = .ok (.dload 14, 2) := by decide +kernel
theorem dX9_makes_328 : decode cX9_makes 328 = .ok (.dload 4, 2) := by decide +kernel
theorem dX9_makes_330 : decode cX9_makes 330 = .ok (.dsub, 1) := by decide +kernel
theorem dX9_makes_331 : decode cX9_makes 331 = .ok (.iload 9, 2) := by decide +kernel
theorem dX9_makes_333 : decode cX9_makes 333 = .ok (.iconst 1, 1) := by decide +kernel
theorem dX9_makes_334 : decode cX9_makes 334 = .ok (.isub, 1) := by decide +kernel
theorem dX9_makes_335 : decode cX9_makes 335 = .ok (.i2d, 1) := by decide +kernel
theorem dX9_makes_336 : decode cX9_makes 336 = .ok (.dmul, 1) := by decide +kernel
theorem dX9_makes_337 : decode cX9_makes 337 = .ok (.dload 6, 2) := by decide +kernel
theorem dX9_makes_339 : decode cX9_makes 339 = .ok (.dload 4, 2) := by decide +kernel
theorem dX9_makes_341 : decode cX9_makes 341 = .ok (.dsub, 1) := by decide +kernel
theorem dX9_makes_342 : decode cX9_makes 342 = .ok (.ddiv, 1) := by decide +kernel
theorem dX9_makes_343 : decode cX9_makes 343 = .ok (.dadd, 1) := by decide +kernel
theorem dX9_makes_344 : decode cX9_makes 344 = .ok (.ldc2_w 166, 3) := by decide +kernel
theorem dX9_makes_347 : decode cX9_makes 347 = .ok (.dadd, 1) := by decide +kernel
theorem dX9_makes_348 : decode cX9_makes 348 = .ok (.d2i, 1) := by decide +kernel
theorem dX9_makes_349 : decode cX9_makes 349 = .ok (.iastore, 1) := by decide +kernel
theorem dX9_makes_350 : decode cX9_makes 350 = .ok (.iinc 12 1, 3) := by decide +kernel
theorem dX9_makes_353 : decode cX9_makes 353 = .ok (.goto (-121), 3) := by decide +kernel
theorem dX9_makes_356 : decode cX9_makes 356 = .ok (.iinc 10 1, 3) := by decide +kernel
theorem dX9_makes_359 : decode cX9_makes 359 = .ok (.goto (-195), 3) := by decide +kernel
theorem dX9_makes_362 : decode cX9_makes 362 = .ok (.return_, 1) := by decide +kernel
theorem dX9_put_0 : decode cX9_put 0 = .ok (.aload_n 0, 1) := by decide +kernel
theorem dX9_put_1 : decode cX9_put 1 = .ok (.getfield 59, 3) := by decide +kernel
theorem dX9_put_4 : decode cX9_put 4 = .ok (.aload_n 0, 1) := by decide +kernel
theorem dX9_put_5 : decode cX9_put 5 = .ok (.getfield 168, 3) := by decide +kernel
theorem dX9_put_8 : decode cX9_put 8 = .ok (.iload_n 1, 1) := by decide +kernel
theorem dX9_put_9 : decode cX9_put 9 = .ok (.iastore, 1) := by decide +kernel
theorem dX9_put_10 : decode cX9_put 10 = .ok (.aload_n 0, 1) := by decide +kernel
theorem dX9_put_11 : decode cX9_put 11 = .ok (.dup, 1) := by decide +kernel
theorem dX9_put_12 : decode cX9_put 12 = .ok (.getfield 168, 3) := by decide +kernel
theorem dX9_put_15 : decode cX9_put 15 = .ok (.iconst 1, 1) := by decide +kernel
theorem dX9_put_16 : decode cX9_put 16 = .ok (.iadd, 1) := by decide +kernel
theorem dX9_put_17 : decode cX9_put 17 = .ok (.putfield 168, 3) := by decide +kernel
theorem dX9_put_20 : decode cX9_put 20 = .ok (.return_, 1) := by decide +kernel
theorem dX9_bitsOf_0 : decode cX9_bitsOf 0 = .ok (.iconst 0, 1) := by decide +kernel
theorem dX9_bitsOf_1 : decode cX9_bitsOf 1 = .ok (.istore_n 1, 1) := by decide +kernel
theorem dX9_bitsOf_2 : decode cX9_bitsOf 2 = .ok (.iload_n 0, 1) := by decide +kernel
theorem dX9_bitsOf_3 : decode cX9_bitsOf 3 = .ok (.iload_n 1, 1) := by decide +kernel
theorem dX9_bitsOf_4 : decode cX9_bitsOf 4 = .ok (.ishr, 1) := by decide +kernel
theorem dX9_bitsOf_5 : decode cX9_bitsOf 5 = .ok (.ifCond .le 9, 3) := by decide +kernel
theorem dX9_bitsOf_8 : decode cX9_bitsOf 8 = .ok (.iinc 1 1, 3) := by decide +kernel
theorem dX9_bitsOf_11 : decode cX9_bitsOf 11 = .ok (.goto (-9), 3) := by decide +kernel
theorem dX9_bitsOf_14 : decode cX9_bitsOf 14 = .ok (.iload_n 1, 1) := by decide +kernel
theorem dX9_bitsOf_15 : decode cX9_bitsOf 15 = .ok (.ireturn, 1) := by decide +kernel
theorem dX9_waySize_0 : decode cX9_waySize 0 = .ok (.iload_n 0, 1) := by decide +kernel
theorem dX9_waySize_1 : decode cX9_waySize 1 = .ok (.tableswitch 80 0 9 #[55, 57, 59, 61, 63, 65, 68, 71, 74, 77], 55) := by decide +kernel
theorem dX9_waySize_56 : decode cX9_waySize 56 = .ok (.iconst 1, 1) := by decide +kernel
theorem dX9_waySize_57 : decode cX9_waySize 57 = .ok (.ireturn, 1) := by decide +kernel
theorem dX9_waySize_58 : decode cX9_waySize 58 = .ok (.iconst 2, 1) := by decide +kernel
theorem dX9_waySize_59 : decode cX9_waySize 59 = .ok (.ireturn, 1) := by decide +kernel
theorem dX9_waySize_60 : decode cX9_waySize 60 = .ok (.iconst 3, 1) := by decide +kernel
theorem dX9_waySize_61 : decode cX9_waySize 61 = .ok (.ireturn, 1) := by decide +kernel
theorem dX9_waySize_62 : decode cX9_waySize 62 = .ok (.iconst 4, 1) := by decide +kernel
theorem dX9_waySize_63 : decode cX9_waySize 63 = .ok (.ireturn, 1) := by decide +kernel
theorem dX9_waySize_64 : decode cX9_waySize 64 = .ok (.iconst 5, 1) := by decide +kernel
theorem dX9_waySize_65 : decode cX9_waySize 65 = .ok (.ireturn, 1) := by decide +kernel
theorem dX9_waySize_66 : decode cX9_waySize 66 = .ok (.bipush 6, 2) := by decide +kernel
theorem dX9_waySize_68 : decode cX9_waySize 68 = .ok (.ireturn, 1) := by decide +kernel
theorem dX9_waySize_69 : decode cX9_waySize 69 = .ok (.bipush 10, 2) := by decide +kernel
theorem dX9_waySize_71 : decode cX9_waySize 71 = .ok (.ireturn, 1) := by decide +kernel
theorem dX9_waySize_72 : decode cX9_waySize 72 = .ok (.bipush 15, 2) := by decide +kernel
theorem dX9_waySize_74 : decode cX9_waySize 74 = .ok (.ireturn, 1) := by decide +kernel
theorem dX9_waySize_75 : decode cX9_waySize 75 = .ok (.bipush 20, 2) := by decide +kernel
theorem dX9_waySize_77 : decode cX9_waySize 77 = .ok (.ireturn, 1) := by decide +kernel
theorem dX9_waySize_78 : decode cX9_waySize 78 = .ok (.bipush 30, 2) := by decide +kernel
theorem dX9_waySize_80 : decode cX9_waySize 80 = .ok (.ireturn, 1) := by decide +kernel
theorem dX9_waySize_81 : decode cX9_waySize 81 = .ok (.bipush 60, 2) := by decide +kernel
theorem dX9_waySize_83 : decode cX9_waySize 83 = .ok (.ireturn, 1) := by decide +kernel
theorem dX9_putGaps_0 : decode cX9_putGaps 0 = .ok (.iload_n 1, 1) := by decide +kernel
theorem dX9_putGaps_1 : decode cX9_putGaps 1 = .ok (.ifCond .ne 33, 3) := by decide +kernel
theorem dX9_putGaps_4 : decode cX9_putGaps 4 = .ok (.iconst 0, 1) := by decide +kernel
theorem dX9_putGaps_5 : decode cX9_putGaps 5 = .ok (.istore_n 3, 1) := by decide +kernel
theorem dX9_putGaps_6 : decode cX9_putGaps 6 = .ok (.iload_n 3, 1) := by decide +kernel
theorem dX9_putGaps_7 : decode cX9_putGaps 7 = .ok (.iload_n 2, 1) := by decide +kernel
theorem dX9_putGaps_8 : decode cX9_putGaps 8 = .ok (.if_icmp .ge 23, 3) := by decide +kernel
theorem dX9_putGaps_11 : decode cX9_putGaps 11 = .ok (.aload_n 0, 1) := by decide +kernel
theorem dX9_putGaps_12 : decode cX9_putGaps 12 = .ok (.aload_n 0, 1) := by decide +kernel
theorem dX9_putGaps_13 : decode cX9_putGaps 13 = .ok (.getfield 62, 3) := by decide +kernel
theorem dX9_putGaps_16 : decode cX9_putGaps 16 = .ok (.iload_n 3, 1) := by decide +kernel
theorem dX9_putGaps_17 : decode cX9_putGaps 17 = .ok (.iaload, 1) := by decide +kernel
theorem dX9_putGaps_18 : decode cX9_putGaps 18 = .ok (.sipush 128, 3) := by decide +kernel
theorem dX9_putGaps_21 : decode cX9_putGaps 21 = .ok (.iadd, 1) := by decide +kernel
theorem dX9_putGaps_22 : decode cX9_putGaps 22 = .ok (.invokevirtual 171, 3) := by decide +kernel
theorem dX9_putGaps_25 : decode cX9_putGaps 25 = .ok (.iinc 3 1, 3) := by decide +kernel
theorem dX9_putGaps_28 : decode cX9_putGaps 28 = .ok (.goto (-22), 3) := by decide +kernel
theorem dX9_putGaps_31 : decode cX9_putGaps 31 = .ok (.goto 21, 3) := by decide +kernel
theorem dX9_putGaps_34 : decode cX9_putGaps 34 = .ok (.iload_n 1, 1) := by decide +kernel
theorem dX9_putGaps_35 : decode cX9_putGaps 35 = .ok (.iconst 1, 1) := by decide +kernel
theorem dX9_putGaps_36 : decode cX9_putGaps 36 = .ok (.if_icmp .ne 11, 3) := by decide +kernel
theorem dX9_putGaps_39 : decode cX9_putGaps 39 = .ok (.aload_n 0, 1) := by decide +kernel
theorem dX9_putGaps_40 : decode cX9_putGaps 40 = .ok (.iload_n 2, 1) := by decide +kernel
theorem dX9_putGaps_41 : decode cX9_putGaps 41 = .ok (.invokevirtual 175, 3) := by decide +kernel
theorem dX9_putGaps_44 : decode cX9_putGaps 44 = .ok (.goto 8, 3) := by decide +kernel
theorem dX9_putGaps_47 : decode cX9_putGaps 47 = .ok (.aload_n 0, 1) := by decide +kernel
theorem dX9_putGaps_48 : decode cX9_putGaps 48 = .ok (.iload_n 2, 1) := by decide +kernel
theorem dX9_putGaps_49 : decode cX9_putGaps 49 = .ok (.invokevirtual 178, 3) := by decide +kernel
theorem dX9_putGaps_52 : decode cX9_putGaps 52 = .ok (.return_, 1) := by decide +kernel
theorem dX9_putWords_0 : decode cX9_putWords 0 = .ok (.iconst 0, 1) := by decide +kernel
theorem dX9_putWords_1 : decode cX9_putWords 1 = .ok (.istore_n 2, 1) := by decide +kernel
theorem dX9_putWords_2 : decode cX9_putWords 2 = .ok (.iload_n 2, 1) := by decide +kernel
theorem dX9_putWords_3 : decode cX9_putWords 3 = .ok (.iload_n 1, 1) := by decide +kernel
theorem dX9_putWords_4 : decode cX9_putWords 4 = .ok (.if_icmp .ge 186, 3) := by decide +kernel
theorem dX9_putWords_7 : decode cX9_putWords 7 = .ok (.iconst (-1), 1) := by decide +kernel
theorem dX9_putWords_8 : decode cX9_putWords 8 = .ok (.istore_n 3, 1) := by decide +kernel
theorem dX9_putWords_9 : decode cX9_putWords 9 = .ok (.iconst 0, 1) := by decide +kernel
theorem dX9_putWords_10 : decode cX9_putWords 10 = .ok (.istore 4, 2) := by decide +kernel
theorem dX9_putWords_12 : decode cX9_putWords 12 = .ok (.iload 4, 2) := by decide +kernel
theorem dX9_putWords_14 : decode cX9_putWords 14 = .ok (.ifCond .ne 72, 3) := by decide +kernel
theorem dX9_putWords_17 : decode cX9_putWords 17 = .ok (.iinc 3 1, 3) := by decide +kernel
theorem dX9_putWords_20 : decode cX9_putWords 20 = .ok (.iconst 1, 1) := by decide +kernel
theorem dX9_putWords_21 : decode cX9_putWords 21 = .ok (.istore 4, 2) := by decide +kernel
theorem dX9_putWords_23 : decode cX9_putWords 23 = .ok (.iconst 0, 1) := by decide +kernel
theorem dX9_putWords_24 : decode cX9_putWords 24 = .ok (.istore 5, 2) := by decide +kernel
theorem dX9_putWords_26 : decode cX9_putWords 26 = .ok (.iload 5, 2) := by decide +kernel
theorem dX9_putWords_28 : decode cX9_putWords 28 = .ok (.bipush 60, 2) := by decide +kernel
theorem dX9_putWords_30 : decode cX9_putWords 30 = .ok (.iload_n 3, 1) := by decide +kernel
theorem dX9_putWords_31 : decode cX9_putWords 31 = .ok (.invokestatic 181, 3) := by decide +kernel
theorem dX9_putWords_34 : decode cX9_putWords 34 = .ok (.idiv, 1) := by decide +kernel
theorem dX9_putWords_35 : decode cX9_putWords 35 = .ok (.if_icmp .ge 48, 3) := by decide +kernel
theorem dX9_putWords_38 : decode cX9_putWords 38 = .ok (.iload_n 2, 1) := by decide +kernel
theorem dX9_putWords_39 : decode cX9_putWords 39 = .ok (.iload 5, 2) := by decide +kernel
theorem dX9_putWords_41 : decode cX9_putWords 41 = .ok (.iadd, 1) := by decide +kernel
theorem dX9_putWords_42 : decode cX9_putWords 42 = .ok (.iload_n 1, 1) := by decide +kernel
theorem dX9_putWords_43 : decode cX9_putWords 43 = .ok (.if_icmp .ge 40, 3) := by decide +kernel
theorem dX9_putWords_46 : decode cX9_putWords 46 = .ok (.iload 4, 2) := by decide +kernel
theorem dX9_putWords_48 : decode cX9_putWords 48 = .ok (.ifCond .eq 26, 3) := by decide +kernel
theorem dX9_putWords_51 : decode cX9_putWords 51 = .ok (.aload_n 0, 1) := by decide +kernel
theorem dX9_putWords_52 : decode cX9_putWords 52 = .ok (.getfield 62, 3) := by decide +kernel
theorem dX9_putWords_55 : decode cX9_putWords 55 = .ok (.iload_n 2, 1) := by decide +kernel
theorem dX9_putWords_56 : decode cX9_putWords 56 = .ok (.iload 5, 2) := by decide +kernel
theorem dX9_putWords_58 : decode cX9_putWords 58 = .ok (.iadd, 1) := by decide +kernel
theorem dX9_putWords_59 : decode cX9_putWords 59 = .ok (.iaload, 1) := by decide +kernel
theorem dX9_putWords_60 : decode cX9_putWords 60 = .ok (.invokestatic 184, 3) := by decide +kernel
theorem dX9_putWords_63 : decode cX9_putWords 63 = .ok (.iload_n 3, 1) := by decide +kernel
theorem dX9_putWords_64 : decode cX9_putWords 64 = .ok (.invokestatic 181, 3) := by decide +kernel
theorem dX9_putWords_67 : decode cX9_putWords 67 = .ok (.if_icmp .gt 7, 3) := by decide +kernel
theorem dX9_putWords_70 : decode cX9_putWords 70 = .ok (.iconst 1, 1) := by decide +kernel
theorem dX9_putWords_71 : decode cX9_putWords 71 = .ok (.goto 4, 3) := by decide +kernel
theorem dX9_putWords_74 : decode cX9_putWords 74 = .ok (.iconst 0, 1) := by decide +kernel
theorem dX9_putWords_75 : decode cX9_putWords 75 = .ok (.istore 4, 2) := by decide +kernel
theorem dX9_putWords_77 : decode cX9_putWords 77 = .ok (.iinc 5 1, 3) := by decide +kernel
theorem dX9_putWords_80 : decode cX9_putWords 80 = .ok (.goto (-54), 3) := by decide +kernel
theorem dX9_putWords_83 : decode cX9_putWords 83 = .ok (.goto (-71), 3) := by decide +kernel
theorem dX9_putWords_86 : decode cX9_putWords 86 = .ok (.iload_n 3, 1) := by decide +kernel
theorem dX9_putWords_87 : decode cX9_putWords 87 = .ok (.i2l, 1) := by decide +kernel
theorem dX9_putWords_88 : decode cX9_putWords 88 = .ok (.lstore 5, 2) := by decide +kernel
theorem dX9_putWords_90 : decode cX9_putWords 90 = .ok (.iconst 0, 1) := by decide +kernel
theorem dX9_putWords_91 : decode cX9_putWords 91 = .ok (.istore 7, 2) := by decide +kernel
theorem dX9_putWords_93 : decode cX9_putWords 93 = .ok (.iload 7, 2) := by decide +kernel
theorem dX9_putWords_95 : decode cX9_putWords 95 = .ok (.bipush 60, 2) := by decide +kernel
theorem dX9_putWords_97 : decode cX9_putWords 97 = .ok (.iload_n 3, 1) := by decide +kernel
theorem dX9_putWords_98 : decode cX9_putWords 98 = .ok (.invokestatic 181, 3) := by decide +kernel
theorem dX9_putWords_101 : decode cX9_putWords 101 = .ok (.idiv, 1) := by decide +kernel
theorem dX9_putWords_102 : decode cX9_putWords 102 = .ok (.if_icmp .ge 42, 3) := by decide +kernel
theorem dX9_putWords_105 : decode cX9_putWords 105 = .ok (.iload_n 2, 1) := by decide +kernel
theorem dX9_putWords_106 : decode cX9_putWords 106 = .ok (.iload 7, 2) := by decide +kernel
theorem dX9_putWords_108 : decode cX9_putWords 108 = .ok (.iadd, 1) := by decide +kernel
theorem dX9_putWords_109 : decode cX9_putWords 109 = .ok (.iload_n 1, 1) := by decide +kernel
theorem dX9_putWords_110 : decode cX9_putWords 110 = .ok (.if_icmp .ge 34, 3) := by decide +kernel
theorem dX9_putWords_113 : decode cX9_putWords 113 = .ok (.lload 5, 2) := by decide +kernel
theorem dX9_putWords_115 : decode cX9_putWords 115 = .ok (.aload_n 0, 1) := by decide +kernel
theorem dX9_putWords_116 : decode cX9_putWords 116 = .ok (.getfield 62, 3) := by decide +kernel
theorem dX9_putWords_119 : decode cX9_putWords 119 = .ok (.iload_n 2, 1) := by decide +kernel
theorem dX9_putWords_120 : decode cX9_putWords 120 = .ok (.iload 7, 2) := by decide +kernel
theorem dX9_putWords_122 : decode cX9_putWords 122 = .ok (.iadd, 1) := by decide +kernel
theorem dX9_putWords_123 : decode cX9_putWords 123 = .ok (.iaload, 1) := by decide +kernel
theorem dX9_putWords_124 : decode cX9_putWords 124 = .ok (.i2l, 1) := by decide +kernel
theorem dX9_putWords_125 : decode cX9_putWords 125 = .ok (.iconst 4, 1) := by decide +kernel
theorem dX9_putWords_126 : decode cX9_putWords 126 = .ok (.iload_n 3, 1) := by decide +kernel
theorem dX9_putWords_127 : decode cX9_putWords 127 = .ok (.invokestatic 181, 3) := by decide +kernel
theorem dX9_putWords_130 : decode cX9_putWords 130 = .ok (.iload 7, 2) := by decide +kernel
theorem dX9_putWords_132 : decode cX9_putWords 132 = .ok (.imul, 1) := by decide +kernel
theorem dX9_putWords_133 : decode cX9_putWords 133 = .ok (.iadd, 1) := by decide +kernel
theorem dX9_putWords_134 : decode cX9_putWords 134 = .ok (.lshl, 1) := by decide +kernel
theorem dX9_putWords_135 : decode cX9_putWords 135 = .ok (.lor, 1) := by decide +kernel
theorem dX9_putWords_136 : decode cX9_putWords 136 = .ok (.lstore 5, 2) := by decide +kernel
theorem dX9_putWords_138 : decode cX9_putWords 138 = .ok (.iinc 7 1, 3) := by decide +kernel
theorem dX9_putWords_141 : decode cX9_putWords 141 = .ok (.goto (-48), 3) := by decide +kernel
theorem dX9_putWords_144 : decode cX9_putWords 144 = .ok (.iconst 0, 1) := by decide +kernel
theorem dX9_putWords_145 : decode cX9_putWords 145 = .ok (.istore 7, 2) := by decide +kernel
theorem dX9_putWords_147 : decode cX9_putWords 147 = .ok (.iload 7, 2) := by decide +kernel
theorem dX9_putWords_149 : decode cX9_putWords 149 = .ok (.bipush 8, 2) := by decide +kernel
theorem dX9_putWords_151 : decode cX9_putWords 151 = .ok (.if_icmp .ge 26, 3) := by decide +kernel
theorem dX9_putWords_154 : decode cX9_putWords 154 = .ok (.aload_n 0, 1) := by decide +kernel
theorem dX9_putWords_155 : decode cX9_putWords 155 = .ok (.lload 5, 2) := by decide +kernel
theorem dX9_putWords_157 : decode cX9_putWords 157 = .ok (.bipush 8, 2) := by decide +kernel
theorem dX9_putWords_159 : decode cX9_putWords 159 = .ok (.iload 7, 2) := by decide +kernel
theorem dX9_putWords_161 : decode cX9_putWords 161 = .ok (.imul, 1) := by decide +kernel
theorem dX9_putWords_162 : decode cX9_putWords 162 = .ok (.lshr, 1) := by decide +kernel
theorem dX9_putWords_163 : decode cX9_putWords 163 = .ok (.ldc2_w 100, 3) := by decide +kernel
theorem dX9_putWords_166 : decode cX9_putWords 166 = .ok (.land, 1) := by decide +kernel
theorem dX9_putWords_167 : decode cX9_putWords 167 = .ok (.l2i, 1) := by decide +kernel
theorem dX9_putWords_168 : decode cX9_putWords 168 = .ok (.invokevirtual 171, 3) := by decide +kernel
theorem dX9_putWords_171 : decode cX9_putWords 171 = .ok (.iinc 7 1, 3) := by decide +kernel
theorem dX9_putWords_174 : decode cX9_putWords 174 = .ok (.goto (-27), 3) := by decide +kernel
theorem dX9_putWords_177 : decode cX9_putWords 177 = .ok (.iload_n 2, 1) := by decide +kernel
theorem dX9_putWords_178 : decode cX9_putWords 178 = .ok (.bipush 60, 2) := by decide +kernel
theorem dX9_putWords_180 : decode cX9_putWords 180 = .ok (.iload_n 3, 1) := by decide +kernel
theorem dX9_putWords_181 : decode cX9_putWords 181 = .ok (.invokestatic 181, 3) := by decide +kernel
theorem dX9_putWords_184 : decode cX9_putWords 184 = .ok (.idiv, 1) := by decide +kernel
theorem dX9_putWords_185 : decode cX9_putWords 185 = .ok (.iadd, 1) := by decide +kernel
theorem dX9_putWords_186 : decode cX9_putWords 186 = .ok (.istore_n 2, 1) := by decide +kernel
theorem dX9_putWords_187 : decode cX9_putWords 187 = .ok (.goto (-185), 3) := by decide +kernel
theorem dX9_putWords_190 : decode cX9_putWords 190 = .ok (.return_, 1) := by decide +kernel
theorem dX9_putBits_0 : decode cX9_putBits 0 = .ok (.iconst 0, 1) := by decide +kernel
theorem dX9_putBits_1 : decode cX9_putBits 1 = .ok (.istore_n 2, 1) := by decide +kernel
theorem dX9_putBits_2 : decode cX9_putBits 2 = .ok (.iconst 0, 1) := by decide +kernel
theorem dX9_putBits_3 : decode cX9_putBits 3 = .ok (.istore_n 3, 1) := by decide +kernel
theorem dX9_putBits_4 : decode cX9_putBits 4 = .ok (.iload_n 3, 1) := by decide +kernel
theorem dX9_putBits_5 : decode cX9_putBits 5 = .ok (.iload_n 1, 1) := by decide +kernel
theorem dX9_putBits_6 : decode cX9_putBits 6 = .ok (.if_icmp .ge 36, 3) := by decide +kernel
theorem dX9_putBits_9 : decode cX9_putBits 9 = .ok (.aload_n 0, 1) := by decide +kernel
theorem dX9_putBits_10 : decode cX9_putBits 10 = .ok (.getfield 62, 3) := by decide +kernel
theorem dX9_putBits_13 : decode cX9_putBits 13 = .ok (.iload_n 3, 1) := by decide +kernel
theorem dX9_putBits_14 : decode cX9_putBits 14 = .ok (.iaload, 1) := by decide +kernel
theorem dX9_putBits_15 : decode cX9_putBits 15 = .ok (.invokestatic 184, 3) := by decide +kernel
theorem dX9_putBits_18 : decode cX9_putBits 18 = .ok (.iload_n 2, 1) := by decide +kernel
theorem dX9_putBits_19 : decode cX9_putBits 19 = .ok (.if_icmp .le 15, 3) := by decide +kernel
theorem dX9_putBits_22 : decode cX9_putBits 22 = .ok (.aload_n 0, 1) := by decide +kernel
theorem dX9_putBits_23 : decode cX9_putBits 23 = .ok (.getfield 62, 3) := by decide +kernel
theorem dX9_putBits_26 : decode cX9_putBits 26 = .ok (.iload_n 3, 1) := by decide +kernel
theorem dX9_putBits_27 : decode cX9_putBits 27 = .ok (.iaload, 1) := by decide +kernel
theorem dX9_putBits_28 : decode cX9_putBits 28 = .ok (.invokestatic 184, 3) := by decide +kernel
theorem dX9_putBits_31 : decode cX9_putBits 31 = .ok (.goto 4, 3) := by decide +kernel
theorem dX9_putBits_34 : decode cX9_putBits 34 = .ok (.iload_n 2, 1) := by decide +kernel
theorem dX9_putBits_35 : decode cX9_putBits 35 = .ok (.istore_n 2, 1) := by decide +kernel
theorem dX9_putBits_36 : decode cX9_putBits 36 = .ok (.iinc 3 1, 3) := by decide +kernel
theorem dX9_putBits_39 : decode cX9_putBits 39 = .ok (.goto (-35), 3) := by decide +kernel
theorem dX9_putBits_42 : decode cX9_putBits 42 = .ok (.aload_n 0, 1) := by decide +kernel
theorem dX9_putBits_43 : decode cX9_putBits 43 = .ok (.iload_n 2, 1) := by decide +kernel
theorem dX9_putBits_44 : decode cX9_putBits 44 = .ok (.invokevirtual 171, 3) := by decide +kernel
theorem dX9_putBits_47 : decode cX9_putBits 47 = .ok (.iconst 0, 1) := by decide +kernel
theorem dX9_putBits_48 : decode cX9_putBits 48 = .ok (.istore_n 3, 1) := by decide +kernel
theorem dX9_putBits_49 : decode cX9_putBits 49 = .ok (.iload_n 3, 1) := by decide +kernel
theorem dX9_putBits_50 : decode cX9_putBits 50 = .ok (.iload_n 2, 1) := by decide +kernel
theorem dX9_putBits_51 : decode cX9_putBits 51 = .ok (.iload_n 1, 1) := by decide +kernel
theorem dX9_putBits_52 : decode cX9_putBits 52 = .ok (.imul, 1) := by decide +kernel
theorem dX9_putBits_53 : decode cX9_putBits 53 = .ok (.if_icmp .ge 70, 3) := by decide +kernel
theorem dX9_putBits_56 : decode cX9_putBits 56 = .ok (.iconst 0, 1) := by decide +kernel
theorem dX9_putBits_57 : decode cX9_putBits 57 = .ok (.istore 4, 2) := by decide +kernel
theorem dX9_putBits_59 : decode cX9_putBits 59 = .ok (.iload_n 3, 1) := by decide +kernel
theorem dX9_putBits_60 : decode cX9_putBits 60 = .ok (.istore 5, 2) := by decide +kernel
theorem dX9_putBits_62 : decode cX9_putBits 62 = .ok (.iload 5, 2) := by decide +kernel
theorem dX9_putBits_64 : decode cX9_putBits 64 = .ok (.iload_n 3, 1) := by decide +kernel
theorem dX9_putBits_65 : decode cX9_putBits 65 = .ok (.bipush 8, 2) := by decide +kernel
theorem dX9_putBits_67 : decode cX9_putBits 67 = .ok (.iadd, 1) := by decide +kernel
theorem dX9_putBits_68 : decode cX9_putBits 68 = .ok (.if_icmp .ge 43, 3) := by decide +kernel
theorem dX9_putBits_71 : decode cX9_putBits 71 = .ok (.iload 5, 2) := by decide +kernel
theorem dX9_putBits_73 : decode cX9_putBits 73 = .ok (.iload_n 2, 1) := by decide +kernel
theorem dX9_putBits_74 : decode cX9_putBits 74 = .ok (.iload_n 1, 1) := by decide +kernel
theorem dX9_putBits_75 : decode cX9_putBits 75 = .ok (.imul, 1) := by decide +kernel
theorem dX9_putBits_76 : decode cX9_putBits 76 = .ok (.if_icmp .ge 35, 3) := by decide +kernel
theorem dX9_putBits_79 : decode cX9_putBits 79 = .ok (.iload 4, 2) := by decide +kernel
theorem dX9_putBits_81 : decode cX9_putBits 81 = .ok (.aload_n 0, 1) := by decide +kernel
theorem dX9_putBits_82 : decode cX9_putBits 82 = .ok (.getfield 62, 3) := by decide +kernel
theorem dX9_putBits_85 : decode cX9_putBits 85 = .ok (.iload 5, 2) := by decide +kernel
theorem dX9_putBits_87 : decode cX9_putBits 87 = .ok (.iload_n 2, 1) := by decide +kernel
theorem dX9_putBits_88 : decode cX9_putBits 88 = .ok (.idiv, 1) := by decide +kernel
theorem dX9_putBits_89 : decode cX9_putBits 89 = .ok (.iaload, 1) := by decide +kernel
theorem dX9_putBits_90 : decode cX9_putBits 90 = .ok (.iload 5, 2) := by decide +kernel
theorem dX9_putBits_92 : decode cX9_putBits 92 = .ok (.iload_n 2, 1) := by decide +kernel
theorem dX9_putBits_93 : decode cX9_putBits 93 = .ok (.irem, 1) := by decide +kernel
theorem dX9_putBits_94 : decode cX9_putBits 94 = .ok (.ishr, 1) := by decide +kernel
theorem dX9_putBits_95 : decode cX9_putBits 95 = .ok (.iconst 1, 1) := by decide +kernel
theorem dX9_putBits_96 : decode cX9_putBits 96 = .ok (.iand, 1) := by decide +kernel
theorem dX9_putBits_97 : decode cX9_putBits 97 = .ok (.iload 5, 2) := by decide +kernel
theorem dX9_putBits_99 : decode cX9_putBits 99 = .ok (.iload_n 3, 1) := by decide +kernel
theorem dX9_putBits_100 : decode cX9_putBits 100 = .ok (.isub, 1) := by decide +kernel
theorem dX9_putBits_101 : decode cX9_putBits 101 = .ok (.ishl, 1) := by decide +kernel
theorem dX9_putBits_102 : decode cX9_putBits 102 = .ok (.ior, 1) := by decide +kernel
theorem dX9_putBits_103 : decode cX9_putBits 103 = .ok (.istore 4, 2) := by decide +kernel
theorem dX9_putBits_105 : decode cX9_putBits 105 = .ok (.iinc 5 1, 3) := by decide +kernel
theorem dX9_putBits_108 : decode cX9_putBits 108 = .ok (.goto (-46), 3) := by decide +kernel
theorem dX9_putBits_111 : decode cX9_putBits 111 = .ok (.aload_n 0, 1) := by decide +kernel
theorem dX9_putBits_112 : decode cX9_putBits 112 = .ok (.iload 4, 2) := by decide +kernel
theorem dX9_putBits_114 : decode cX9_putBits 114 = .ok (.invokevirtual 171, 3) := by decide +kernel
theorem dX9_putBits_117 : decode cX9_putBits 117 = .ok (.iinc 3 8, 3) := by decide +kernel
theorem dX9_putBits_120 : decode cX9_putBits 120 = .ok (.goto (-71), 3) := by decide +kernel
theorem dX9_putBits_123 : decode cX9_putBits 123 = .ok (.return_, 1) := by decide +kernel
theorem dX9_gaps_0 : decode cX9_gaps 0 = .ok (.iconst 0, 1) := by decide +kernel
theorem dX9_gaps_1 : decode cX9_gaps 1 = .ok (.istore 4, 2) := by decide +kernel
theorem dX9_gaps_3 : decode cX9_gaps 3 = .ok (.iconst (-1), 1) := by decide +kernel
theorem dX9_gaps_4 : decode cX9_gaps 4 = .ok (.istore 5, 2) := by decide +kernel
theorem dX9_gaps_6 : decode cX9_gaps 6 = .ok (.iconst 0, 1) := by decide +kernel
theorem dX9_gaps_7 : decode cX9_gaps 7 = .ok (.istore 6, 2) := by decide +kernel
theorem dX9_gaps_9 : decode cX9_gaps 9 = .ok (.iload 6, 2) := by decide +kernel
theorem dX9_gaps_11 : decode cX9_gaps 11 = .ok (.aload_n 0, 1) := by decide +kernel
theorem dX9_gaps_12 : decode cX9_gaps 12 = .ok (.getfield 34, 3) := by decide +kernel
theorem dX9_gaps_15 : decode cX9_gaps 15 = .ok (.iload_n 1, 1) := by decide +kernel
theorem dX9_gaps_16 : decode cX9_gaps 16 = .ok (.iaload, 1) := by decide +kernel
theorem dX9_gaps_17 : decode cX9_gaps 17 = .ok (.if_icmp .ge 50, 3) := by decide +kernel
theorem dX9_gaps_20 : decode cX9_gaps 20 = .ok (.aload_n 0, 1) := by decide +kernel
theorem dX9_gaps_21 : decode cX9_gaps 21 = .ok (.getfield 43, 3) := by decide +kernel
theorem dX9_gaps_24 : decode cX9_gaps 24 = .ok (.aload_n 0, 1) := by decide +kernel
theorem dX9_gaps_25 : decode cX9_gaps 25 = .ok (.iload_n 1, 1) := by decide +kernel
theorem dX9_gaps_26 : decode cX9_gaps 26 = .ok (.iload_n 2, 1) := by decide +kernel
theorem dX9_gaps_27 : decode cX9_gaps 27 = .ok (.iload 6, 2) := by decide +kernel
theorem dX9_gaps_29 : decode cX9_gaps 29 = .ok (.invokevirtual 162, 3) := by decide +kernel
theorem dX9_gaps_32 : decode cX9_gaps 32 = .ok (.iaload, 1) := by decide +kernel
theorem dX9_gaps_33 : decode cX9_gaps 33 = .ok (.iload_n 3, 1) := by decide +kernel
theorem dX9_gaps_34 : decode cX9_gaps 34 = .ok (.if_icmp .eq 6, 3) := by decide +kernel
theorem dX9_gaps_37 : decode cX9_gaps 37 = .ok (.goto 24, 3) := by decide +kernel
theorem dX9_gaps_40 : decode cX9_gaps 40 = .ok (.aload_n 0, 1) := by decide +kernel
theorem dX9_gaps_41 : decode cX9_gaps 41 = .ok (.getfield 62, 3) := by decide +kernel
theorem dX9_gaps_44 : decode cX9_gaps 44 = .ok (.iload 4, 2) := by decide +kernel
theorem dX9_gaps_46 : decode cX9_gaps 46 = .ok (.iload 6, 2) := by decide +kernel
theorem dX9_gaps_48 : decode cX9_gaps 48 = .ok (.iload 5, 2) := by decide +kernel
theorem dX9_gaps_50 : decode cX9_gaps 50 = .ok (.isub, 1) := by decide +kernel
theorem dX9_gaps_51 : decode cX9_gaps 51 = .ok (.iconst 1, 1) := by decide +kernel
theorem dX9_gaps_52 : decode cX9_gaps 52 = .ok (.isub, 1) := by decide +kernel
theorem dX9_gaps_53 : decode cX9_gaps 53 = .ok (.iastore, 1) := by decide +kernel
theorem dX9_gaps_54 : decode cX9_gaps 54 = .ok (.iload 6, 2) := by decide +kernel
theorem dX9_gaps_56 : decode cX9_gaps 56 = .ok (.istore 5, 2) := by decide +kernel
theorem dX9_gaps_58 : decode cX9_gaps 58 = .ok (.iinc 4 1, 3) := by decide +kernel
theorem dX9_gaps_61 : decode cX9_gaps 61 = .ok (.iinc 6 1, 3) := by decide +kernel
theorem dX9_gaps_64 : decode cX9_gaps 64 = .ok (.goto (-55), 3) := by decide +kernel
theorem dX9_gaps_67 : decode cX9_gaps 67 = .ok (.iload 4, 2) := by decide +kernel
theorem dX9_gaps_69 : decode cX9_gaps 69 = .ok (.ireturn, 1) := by decide +kernel
theorem dX9_segmentsOf_0 : decode cX9_segmentsOf 0 = .ok (.iconst 0, 1) := by decide +kernel
theorem dX9_segmentsOf_1 : decode cX9_segmentsOf 1 = .ok (.istore_n 3, 1) := by decide +kernel
theorem dX9_segmentsOf_2 : decode cX9_segmentsOf 2 = .ok (.sipush 255, 3) := by decide +kernel
theorem dX9_segmentsOf_5 : decode cX9_segmentsOf 5 = .ok (.istore 4, 2) := by decide +kernel
theorem dX9_segmentsOf_7 : decode cX9_segmentsOf 7 = .ok (.iload 4, 2) := by decide +kernel
theorem dX9_segmentsOf_9 : decode cX9_segmentsOf 9 = .ok (.ifCond .le 28, 3) := by decide +kernel
theorem dX9_segmentsOf_12 : decode cX9_segmentsOf 12 = .ok (.iload_n 3, 1) := by decide +kernel
theorem dX9_segmentsOf_13 : decode cX9_segmentsOf 13 = .ok (.aload_n 0, 1) := by decide +kernel
theorem dX9_segmentsOf_14 : decode cX9_segmentsOf 14 = .ok (.iload_n 1, 1) := by decide +kernel
theorem dX9_segmentsOf_15 : decode cX9_segmentsOf 15 = .ok (.iload_n 2, 1) := by decide +kernel
theorem dX9_segmentsOf_16 : decode cX9_segmentsOf 16 = .ok (.iload 4, 2) := by decide +kernel
theorem dX9_segmentsOf_18 : decode cX9_segmentsOf 18 = .ok (.invokevirtual 187, 3) := by decide +kernel
theorem dX9_segmentsOf_21 : decode cX9_segmentsOf 21 = .ok (.ifCond .le 7, 3) := by decide +kernel
theorem dX9_segmentsOf_24 : decode cX9_segmentsOf 24 = .ok (.iconst 1, 1) := by decide +kernel
theorem dX9_segmentsOf_25 : decode cX9_segmentsOf 25 = .ok (.goto 4, 3) := by decide +kernel
theorem dX9_segmentsOf_28 : decode cX9_segmentsOf 28 = .ok (.iconst 0, 1) := by decide +kernel
theorem dX9_segmentsOf_29 : decode cX9_segmentsOf 29 = .ok (.iadd, 1) := by decide +kernel
theorem dX9_segmentsOf_30 : decode cX9_segmentsOf 30 = .ok (.istore_n 3, 1) := by decide +kernel
theorem dX9_segmentsOf_31 : decode cX9_segmentsOf 31 = .ok (.iinc 4 (-1), 3) := by decide +kernel
theorem dX9_segmentsOf_34 : decode cX9_segmentsOf 34 = .ok (.goto (-27), 3) := by decide +kernel
theorem dX9_segmentsOf_37 : decode cX9_segmentsOf 37 = .ok (.iload_n 3, 1) := by decide +kernel
theorem dX9_segmentsOf_38 : decode cX9_segmentsOf 38 = .ok (.ireturn, 1) := by decide +kernel
theorem dX9_lettersOf_0 : decode cX9_lettersOf 0 = .ok (.iconst 0, 1) := by decide +kernel
theorem dX9_lettersOf_1 : decode cX9_lettersOf 1 = .ok (.istore_n 3, 1) := by decide +kernel
theorem dX9_lettersOf_2 : decode cX9_lettersOf 2 = .ok (.iload_n 3, 1) := by decide +kernel
theorem dX9_lettersOf_3 : decode cX9_lettersOf 3 = .ok (.bipush 8, 2) := by decide +kernel
theorem dX9_lettersOf_5 : decode cX9_lettersOf 5 = .ok (.if_icmp .ge 29, 3) := by decide +kernel
theorem dX9_lettersOf_8 : decode cX9_lettersOf 8 = .ok (.aload_n 0, 1) := by decide +kernel
theorem dX9_lettersOf_9 : decode cX9_lettersOf 9 = .ok (.getfield 40, 3) := by decide +kernel
theorem dX9_lettersOf_12 : decode cX9_lettersOf 12 = .ok (.sipush 512, 3) := by decide +kernel
theorem dX9_lettersOf_15 : decode cX9_lettersOf 15 = .ok (.iload_n 1, 1) := by decide +kernel
theorem dX9_lettersOf_16 : decode cX9_lettersOf 16 = .ok (.imul, 1) := by decide +kernel
theorem dX9_lettersOf_17 : decode cX9_lettersOf 17 = .ok (.bipush 8, 2) := by decide +kernel
theorem dX9_lettersOf_19 : decode cX9_lettersOf 19 = .ok (.iload_n 2, 1) := by decide +kernel
theorem dX9_lettersOf_20 : decode cX9_lettersOf 20 = .ok (.imul, 1) := by decide +kernel
theorem dX9_lettersOf_21 : decode cX9_lettersOf 21 = .ok (.iadd, 1) := by decide +kernel
theorem dX9_lettersOf_22 : decode cX9_lettersOf 22 = .ok (.iload_n 3, 1) := by decide +kernel
theorem dX9_lettersOf_23 : decode cX9_lettersOf 23 = .ok (.iadd, 1) := by decide +kernel
theorem dX9_lettersOf_24 : decode cX9_lettersOf 24 = .ok (.iaload, 1) := by decide +kernel
theorem dX9_lettersOf_25 : decode cX9_lettersOf 25 = .ok (.ifCond .eq 9, 3) := by decide +kernel
theorem dX9_lettersOf_28 : decode cX9_lettersOf 28 = .ok (.iinc 3 1, 3) := by decide +kernel
theorem dX9_lettersOf_31 : decode cX9_lettersOf 31 = .ok (.goto (-29), 3) := by decide +kernel
theorem dX9_lettersOf_34 : decode cX9_lettersOf 34 = .ok (.iload_n 3, 1) := by decide +kernel
theorem dX9_lettersOf_35 : decode cX9_lettersOf 35 = .ok (.ireturn, 1) := by decide +kernel
theorem dX9_writes_0 : decode cX9_writes 0 = .ok (.aload_n 0, 1) := by decide +kernel
theorem dX9_writes_1 : decode cX9_writes 1 = .ok (.iconst 0, 1) := by decide +kernel
theorem dX9_writes_2 : decode cX9_writes 2 = .ok (.putfield 168, 3) := by decide +kernel
theorem dX9_writes_5 : decode cX9_writes 5 = .ok (.aload_n 0, 1) := by decide +kernel
theorem dX9_writes_6 : decode cX9_writes 6 = .ok (.bipush 73, 2) := by decide +kernel
theorem dX9_writes_8 : decode cX9_writes 8 = .ok (.invokevirtual 171, 3) := by decide +kernel
theorem dX9_writes_11 : decode cX9_writes 11 = .ok (.aload_n 0, 1) := by decide +kernel
theorem dX9_writes_12 : decode cX9_writes 12 = .ok (.bipush 109, 2) := by decide +kernel
theorem dX9_writes_14 : decode cX9_writes 14 = .ok (.invokevirtual 171, 3) := by decide +kernel
theorem dX9_writes_17 : decode cX9_writes 17 = .ok (.aload_n 0, 1) := by decide +kernel
theorem dX9_writes_18 : decode cX9_writes 18 = .ok (.aload_n 0, 1) := by decide +kernel
theorem dX9_writes_19 : decode cX9_writes 19 = .ok (.getfield 28, 3) := by decide +kernel
theorem dX9_writes_22 : decode cX9_writes 22 = .ok (.iload_n 1, 1) := by decide +kernel
theorem dX9_writes_23 : decode cX9_writes 23 = .ok (.iaload, 1) := by decide +kernel
theorem dX9_writes_24 : decode cX9_writes 24 = .ok (.invokevirtual 171, 3) := by decide +kernel
theorem dX9_writes_27 : decode cX9_writes 27 = .ok (.aload_n 0, 1) := by decide +kernel
theorem dX9_writes_28 : decode cX9_writes 28 = .ok (.aload_n 0, 1) := by decide +kernel
theorem dX9_writes_29 : decode cX9_writes 29 = .ok (.getfield 31, 3) := by decide +kernel
theorem dX9_writes_32 : decode cX9_writes 32 = .ok (.iload_n 1, 1) := by decide +kernel
theorem dX9_writes_33 : decode cX9_writes 33 = .ok (.iaload, 1) := by decide +kernel
theorem dX9_writes_34 : decode cX9_writes 34 = .ok (.invokevirtual 171, 3) := by decide +kernel
theorem dX9_writes_37 : decode cX9_writes 37 = .ok (.aload_n 0, 1) := by decide +kernel
theorem dX9_writes_38 : decode cX9_writes 38 = .ok (.aload_n 0, 1) := by decide +kernel
theorem dX9_writes_39 : decode cX9_writes 39 = .ok (.getfield 34, 3) := by decide +kernel
theorem dX9_writes_42 : decode cX9_writes 42 = .ok (.iload_n 1, 1) := by decide +kernel
theorem dX9_writes_43 : decode cX9_writes 43 = .ok (.iaload, 1) := by decide +kernel
theorem dX9_writes_44 : decode cX9_writes 44 = .ok (.invokevirtual 171, 3) := by decide +kernel
theorem dX9_writes_47 : decode cX9_writes 47 = .ok (.aload_n 0, 1) := by decide +kernel
theorem dX9_writes_48 : decode cX9_writes 48 = .ok (.aload_n 0, 1) := by decide +kernel
theorem dX9_writes_49 : decode cX9_writes 49 = .ok (.getfield 37, 3) := by decide +kernel
theorem dX9_writes_52 : decode cX9_writes 52 = .ok (.iload_n 1, 1) := by decide +kernel
theorem dX9_writes_53 : decode cX9_writes 53 = .ok (.iaload, 1) := by decide +kernel
theorem dX9_writes_54 : decode cX9_writes 54 = .ok (.invokevirtual 171, 3) := by decide +kernel
theorem dX9_writes_57 : decode cX9_writes 57 = .ok (.iconst 0, 1) := by decide +kernel
theorem dX9_writes_58 : decode cX9_writes 58 = .ok (.istore_n 2, 1) := by decide +kernel
theorem dX9_writes_59 : decode cX9_writes 59 = .ok (.iload_n 2, 1) := by decide +kernel
theorem dX9_writes_60 : decode cX9_writes 60 = .ok (.aload_n 0, 1) := by decide +kernel
theorem dX9_writes_61 : decode cX9_writes 61 = .ok (.getfield 37, 3) := by decide +kernel
theorem dX9_writes_64 : decode cX9_writes 64 = .ok (.iload_n 1, 1) := by decide +kernel
theorem dX9_writes_65 : decode cX9_writes 65 = .ok (.iaload, 1) := by decide +kernel
theorem dX9_writes_66 : decode cX9_writes 66 = .ok (.if_icmp .ge 122, 3) := by decide +kernel
theorem dX9_writes_69 : decode cX9_writes 69 = .ok (.aload_n 0, 1) := by decide +kernel
theorem dX9_writes_70 : decode cX9_writes 70 = .ok (.aload_n 0, 1) := by decide +kernel
theorem dX9_writes_71 : decode cX9_writes 71 = .ok (.iload_n 1, 1) := by decide +kernel
theorem dX9_writes_72 : decode cX9_writes 72 = .ok (.iload_n 2, 1) := by decide +kernel
theorem dX9_writes_73 : decode cX9_writes 73 = .ok (.invokevirtual 190, 3) := by decide +kernel
theorem dX9_writes_76 : decode cX9_writes 76 = .ok (.invokevirtual 171, 3) := by decide +kernel
theorem dX9_writes_79 : decode cX9_writes 79 = .ok (.iconst 0, 1) := by decide +kernel
theorem dX9_writes_80 : decode cX9_writes 80 = .ok (.istore_n 3, 1) := by decide +kernel
theorem dX9_writes_81 : decode cX9_writes 81 = .ok (.iload_n 3, 1) := by decide +kernel
theorem dX9_writes_82 : decode cX9_writes 82 = .ok (.aload_n 0, 1) := by decide +kernel
theorem dX9_writes_83 : decode cX9_writes 83 = .ok (.iload_n 1, 1) := by decide +kernel
theorem dX9_writes_84 : decode cX9_writes 84 = .ok (.iload_n 2, 1) := by decide +kernel
theorem dX9_writes_85 : decode cX9_writes 85 = .ok (.invokevirtual 190, 3) := by decide +kernel
theorem dX9_writes_88 : decode cX9_writes 88 = .ok (.if_icmp .ge 30, 3) := by decide +kernel
theorem dX9_writes_91 : decode cX9_writes 91 = .ok (.aload_n 0, 1) := by decide +kernel
theorem dX9_writes_92 : decode cX9_writes 92 = .ok (.aload_n 0, 1) := by decide +kernel
theorem dX9_writes_93 : decode cX9_writes 93 = .ok (.getfield 40, 3) := by decide +kernel
theorem dX9_writes_96 : decode cX9_writes 96 = .ok (.sipush 512, 3) := by decide +kernel
theorem dX9_writes_99 : decode cX9_writes 99 = .ok (.iload_n 1, 1) := by decide +kernel
theorem dX9_writes_100 : decode cX9_writes 100 = .ok (.imul, 1) := by decide +kernel
theorem dX9_writes_101 : decode cX9_writes 101 = .ok (.bipush 8, 2) := by decide +kernel
theorem dX9_writes_103 : decode cX9_writes 103 = .ok (.iload_n 2, 1) := by decide +kernel
theorem dX9_writes_104 : decode cX9_writes 104 = .ok (.imul, 1) := by decide +kernel
theorem dX9_writes_105 : decode cX9_writes 105 = .ok (.iadd, 1) := by decide +kernel
theorem dX9_writes_106 : decode cX9_writes 106 = .ok (.iload_n 3, 1) := by decide +kernel
theorem dX9_writes_107 : decode cX9_writes 107 = .ok (.iadd, 1) := by decide +kernel
theorem dX9_writes_108 : decode cX9_writes 108 = .ok (.iaload, 1) := by decide +kernel
theorem dX9_writes_109 : decode cX9_writes 109 = .ok (.invokevirtual 171, 3) := by decide +kernel
theorem dX9_writes_112 : decode cX9_writes 112 = .ok (.iinc 3 1, 3) := by decide +kernel
theorem dX9_writes_115 : decode cX9_writes 115 = .ok (.goto (-34), 3) := by decide +kernel
theorem dX9_writes_118 : decode cX9_writes 118 = .ok (.aload_n 0, 1) := by decide +kernel
theorem dX9_writes_119 : decode cX9_writes 119 = .ok (.aload_n 0, 1) := by decide +kernel
theorem dX9_writes_120 : decode cX9_writes 120 = .ok (.iload_n 1, 1) := by decide +kernel
theorem dX9_writes_121 : decode cX9_writes 121 = .ok (.iload_n 2, 1) := by decide +kernel
theorem dX9_writes_122 : decode cX9_writes 122 = .ok (.invokevirtual 194, 3) := by decide +kernel
theorem dX9_writes_125 : decode cX9_writes 125 = .ok (.invokevirtual 171, 3) := by decide +kernel
theorem dX9_writes_128 : decode cX9_writes 128 = .ok (.sipush 255, 3) := by decide +kernel
theorem dX9_writes_131 : decode cX9_writes 131 = .ok (.istore_n 3, 1) := by decide +kernel
theorem dX9_writes_132 : decode cX9_writes 132 = .ok (.iload_n 3, 1) := by decide +kernel
theorem dX9_writes_133 : decode cX9_writes 133 = .ok (.ifCond .le 49, 3) := by decide +kernel
theorem dX9_writes_136 : decode cX9_writes 136 = .ok (.aload_n 0, 1) := by decide +kernel
theorem dX9_writes_137 : decode cX9_writes 137 = .ok (.iload_n 1, 1) := by decide +kernel
theorem dX9_writes_138 : decode cX9_writes 138 = .ok (.iload_n 2, 1) := by decide +kernel
theorem dX9_writes_139 : decode cX9_writes 139 = .ok (.iload_n 3, 1) := by decide +kernel
theorem dX9_writes_140 : decode cX9_writes 140 = .ok (.invokevirtual 187, 3) := by decide +kernel
theorem dX9_writes_143 : decode cX9_writes 143 = .ok (.istore 4, 2) := by decide +kernel
theorem dX9_writes_145 : decode cX9_writes 145 = .ok (.iload 4, 2) := by decide +kernel
theorem dX9_writes_147 : decode cX9_writes 147 = .ok (.ifCond .ne 6, 3) := by decide +kernel
theorem dX9_writes_150 : decode cX9_writes 150 = .ok (.goto 26, 3) := by decide +kernel
theorem dX9_writes_153 : decode cX9_writes 153 = .ok (.aload_n 0, 1) := by decide +kernel
theorem dX9_writes_154 : decode cX9_writes 154 = .ok (.iload_n 3, 1) := by decide +kernel
theorem dX9_writes_155 : decode cX9_writes 155 = .ok (.invokevirtual 171, 3) := by decide +kernel
theorem dX9_writes_158 : decode cX9_writes 158 = .ok (.aload_n 0, 1) := by decide +kernel
theorem dX9_writes_159 : decode cX9_writes 159 = .ok (.iload 4, 2) := by decide +kernel
theorem dX9_writes_161 : decode cX9_writes 161 = .ok (.invokevirtual 171, 3) := by decide +kernel
theorem dX9_writes_164 : decode cX9_writes 164 = .ok (.aload_n 0, 1) := by decide +kernel
theorem dX9_writes_165 : decode cX9_writes 165 = .ok (.aload_n 0, 1) := by decide +kernel
theorem dX9_writes_166 : decode cX9_writes 166 = .ok (.getfield 31, 3) := by decide +kernel
theorem dX9_writes_169 : decode cX9_writes 169 = .ok (.iload_n 1, 1) := by decide +kernel
theorem dX9_writes_170 : decode cX9_writes 170 = .ok (.iaload, 1) := by decide +kernel
theorem dX9_writes_171 : decode cX9_writes 171 = .ok (.iload 4, 2) := by decide +kernel
theorem dX9_writes_173 : decode cX9_writes 173 = .ok (.invokevirtual 197, 3) := by decide +kernel
theorem dX9_writes_176 : decode cX9_writes 176 = .ok (.iinc 3 (-1), 3) := by decide +kernel
theorem dX9_writes_179 : decode cX9_writes 179 = .ok (.goto (-47), 3) := by decide +kernel
theorem dX9_writes_182 : decode cX9_writes 182 = .ok (.iinc 2 1, 3) := by decide +kernel
theorem dX9_writes_185 : decode cX9_writes 185 = .ok (.goto (-126), 3) := by decide +kernel
theorem dX9_writes_188 : decode cX9_writes 188 = .ok (.aload_n 0, 1) := by decide +kernel
theorem dX9_writes_189 : decode cX9_writes 189 = .ok (.getfield 59, 3) := by decide +kernel
theorem dX9_writes_192 : decode cX9_writes 192 = .ok (.aload_n 0, 1) := by decide +kernel
theorem dX9_writes_193 : decode cX9_writes 193 = .ok (.getfield 168, 3) := by decide +kernel
theorem dX9_writes_196 : decode cX9_writes 196 = .ok (.invokestatic 201, 3) := by decide +kernel
theorem dX9_writes_199 : decode cX9_writes 199 = .ok (.lstore_n 2, 1) := by decide +kernel
theorem dX9_writes_200 : decode cX9_writes 200 = .ok (.iconst 0, 1) := by decide +kernel
theorem dX9_writes_201 : decode cX9_writes 201 = .ok (.istore 4, 2) := by decide +kernel
theorem dX9_writes_203 : decode cX9_writes 203 = .ok (.iload 4, 2) := by decide +kernel
theorem dX9_writes_205 : decode cX9_writes 205 = .ok (.iconst 4, 1) := by decide +kernel
theorem dX9_writes_206 : decode cX9_writes 206 = .ok (.if_icmp .ge 25, 3) := by decide +kernel
theorem dX9_writes_209 : decode cX9_writes 209 = .ok (.aload_n 0, 1) := by decide +kernel
theorem dX9_writes_210 : decode cX9_writes 210 = .ok (.lload_n 2, 1) := by decide +kernel
theorem dX9_writes_211 : decode cX9_writes 211 = .ok (.bipush 8, 2) := by decide +kernel
theorem dX9_writes_213 : decode cX9_writes 213 = .ok (.iload 4, 2) := by decide +kernel
theorem dX9_writes_215 : decode cX9_writes 215 = .ok (.imul, 1) := by decide +kernel
theorem dX9_writes_216 : decode cX9_writes 216 = .ok (.lshr, 1) := by decide +kernel
theorem dX9_writes_217 : decode cX9_writes 217 = .ok (.ldc2_w 100, 3) := by decide +kernel
theorem dX9_writes_220 : decode cX9_writes 220 = .ok (.land, 1) := by decide +kernel
theorem dX9_writes_221 : decode cX9_writes 221 = .ok (.l2i, 1) := by decide +kernel
theorem dX9_writes_222 : decode cX9_writes 222 = .ok (.invokevirtual 171, 3) := by decide +kernel
theorem dX9_writes_225 : decode cX9_writes 225 = .ok (.iinc 4 1, 3) := by decide +kernel
theorem dX9_writes_228 : decode cX9_writes 228 = .ok (.goto (-25), 3) := by decide +kernel
theorem dX9_writes_231 : decode cX9_writes 231 = .ok (.return_, 1) := by decide +kernel
theorem dX9_check_0 : decode cX9_check 0 = .ok (.lconst 1, 1) := by decide +kernel
theorem dX9_check_1 : decode cX9_check 1 = .ok (.lstore_n 2, 1) := by decide +kernel
theorem dX9_check_2 : decode cX9_check 2 = .ok (.lconst 0, 1) := by decide +kernel
theorem dX9_check_3 : decode cX9_check 3 = .ok (.lstore 4, 2) := by decide +kernel
theorem dX9_check_5 : decode cX9_check 5 = .ok (.iconst 0, 1) := by decide +kernel
theorem dX9_check_6 : decode cX9_check 6 = .ok (.istore 6, 2) := by decide +kernel
theorem dX9_check_8 : decode cX9_check 8 = .ok (.iload 6, 2) := by decide +kernel
theorem dX9_check_10 : decode cX9_check 10 = .ok (.iload_n 1, 1) := by decide +kernel
theorem dX9_check_11 : decode cX9_check 11 = .ok (.if_icmp .ge 31, 3) := by decide +kernel
theorem dX9_check_14 : decode cX9_check 14 = .ok (.lload_n 2, 1) := by decide +kernel
theorem dX9_check_15 : decode cX9_check 15 = .ok (.aload_n 0, 1) := by decide +kernel
theorem dX9_check_16 : decode cX9_check 16 = .ok (.iload 6, 2) := by decide +kernel
theorem dX9_check_18 : decode cX9_check 18 = .ok (.iaload, 1) := by decide +kernel
theorem dX9_check_19 : decode cX9_check 19 = .ok (.i2l, 1) := by decide +kernel
theorem dX9_check_20 : decode cX9_check 20 = .ok (.ladd, 1) := by decide +kernel
theorem dX9_check_21 : decode cX9_check 21 = .ok (.ldc2_w 205, 3) := by decide +kernel
theorem dX9_check_24 : decode cX9_check 24 = .ok (.lrem, 1) := by decide +kernel
theorem dX9_check_25 : decode cX9_check 25 = .ok (.lstore_n 2, 1) := by decide +kernel
theorem dX9_check_26 : decode cX9_check 26 = .ok (.lload 4, 2) := by decide +kernel
theorem dX9_check_28 : decode cX9_check 28 = .ok (.lload_n 2, 1) := by decide +kernel
theorem dX9_check_29 : decode cX9_check 29 = .ok (.ladd, 1) := by decide +kernel
theorem dX9_check_30 : decode cX9_check 30 = .ok (.ldc2_w 205, 3) := by decide +kernel
theorem dX9_check_33 : decode cX9_check 33 = .ok (.lrem, 1) := by decide +kernel
theorem dX9_check_34 : decode cX9_check 34 = .ok (.lstore 4, 2) := by decide +kernel
theorem dX9_check_36 : decode cX9_check 36 = .ok (.iinc 6 1, 3) := by decide +kernel
theorem dX9_check_39 : decode cX9_check 39 = .ok (.goto (-31), 3) := by decide +kernel
theorem dX9_check_42 : decode cX9_check 42 = .ok (.lload_n 2, 1) := by decide +kernel
theorem dX9_check_43 : decode cX9_check 43 = .ok (.ldc2_w 207, 3) := by decide +kernel
theorem dX9_check_46 : decode cX9_check 46 = .ok (.lload 4, 2) := by decide +kernel
theorem dX9_check_48 : decode cX9_check 48 = .ok (.lmul, 1) := by decide +kernel
theorem dX9_check_49 : decode cX9_check 49 = .ok (.ladd, 1) := by decide +kernel
theorem dX9_check_50 : decode cX9_check 50 = .ok (.ldc2_w 209, 3) := by decide +kernel
theorem dX9_check_53 : decode cX9_check 53 = .ok (.land, 1) := by decide +kernel
theorem dX9_check_54 : decode cX9_check 54 = .ok (.lreturn, 1) := by decide +kernel
theorem dX9_build_0 : decode cX9_build 0 = .ok (.aload_n 0, 1) := by decide +kernel
theorem dX9_build_1 : decode cX9_build 1 = .ok (.iload_n 1, 1) := by decide +kernel
theorem dX9_build_2 : decode cX9_build 2 = .ok (.i2l, 1) := by decide +kernel
theorem dX9_build_3 : decode cX9_build 3 = .ok (.ldc2_w 211, 3) := by decide +kernel
theorem dX9_build_6 : decode cX9_build 6 = .ok (.ldc2_w 87, 3) := by decide +kernel
theorem dX9_build_9 : decode cX9_build 9 = .ok (.invokestatic 89, 3) := by decide +kernel
theorem dX9_build_12 : decode cX9_build 12 = .ok (.ifCond .eq 15, 3) := by decide +kernel
theorem dX9_build_15 : decode cX9_build 15 = .ok (.iload_n 2, 1) := by decide +kernel
theorem dX9_build_16 : decode cX9_build 16 = .ok (.i2l, 1) := by decide +kernel
theorem dX9_build_17 : decode cX9_build 17 = .ok (.lconst 0, 1) := by decide +kernel
theorem dX9_build_18 : decode cX9_build 18 = .ok (.ldc2_w 211, 3) := by decide +kernel
theorem dX9_build_21 : decode cX9_build 21 = .ok (.invokestatic 89, 3) := by decide +kernel
theorem dX9_build_24 : decode cX9_build 24 = .ok (.ifCond .ne 7, 3) := by decide +kernel
theorem dX9_build_27 : decode cX9_build 27 = .ok (.iconst 1, 1) := by decide +kernel
theorem dX9_build_28 : decode cX9_build 28 = .ok (.goto 4, 3) := by decide +kernel
theorem dX9_build_31 : decode cX9_build 31 = .ok (.iconst 0, 1) := by decide +kernel
theorem dX9_build_32 : decode cX9_build 32 = .ok (.iconst 1, 1) := by decide +kernel
theorem dX9_build_33 : decode cX9_build 33 = .ok (.invokevirtual 93, 3) := by decide +kernel
theorem dX9_build_36 : decode cX9_build 36 = .ok (.ifCond .ne 23, 3) := by decide +kernel
theorem dX9_build_39 : decode cX9_build 39 = .ok (.aload_n 0, 1) := by decide +kernel
theorem dX9_build_40 : decode cX9_build 40 = .ok (.aload_n 0, 1) := by decide +kernel
theorem dX9_build_41 : decode cX9_build 41 = .ok (.getfield 120, 3) := by decide +kernel
theorem dX9_build_44 : decode cX9_build 44 = .ok (.ifCond .ne 7, 3) := by decide +kernel
theorem dX9_build_47 : decode cX9_build 47 = .ok (.iconst 1, 1) := by decide +kernel
theorem dX9_build_48 : decode cX9_build 48 = .ok (.goto 4, 3) := by decide +kernel
theorem dX9_build_51 : decode cX9_build 51 = .ok (.iconst 0, 1) := by decide +kernel
theorem dX9_build_52 : decode cX9_build 52 = .ok (.iconst 2, 1) := by decide +kernel
theorem dX9_build_53 : decode cX9_build 53 = .ok (.invokevirtual 93, 3) := by decide +kernel
theorem dX9_build_56 : decode cX9_build 56 = .ok (.ifCond .eq 5, 3) := by decide +kernel
theorem dX9_build_59 : decode cX9_build 59 = .ok (.iconst 0, 1) := by decide +kernel
theorem dX9_build_60 : decode cX9_build 60 = .ok (.ireturn, 1) := by decide +kernel
theorem dX9_build_61 : decode cX9_build 61 = .ok (.aload_n 0, 1) := by decide +kernel
theorem dX9_build_62 : decode cX9_build 62 = .ok (.iload_n 1, 1) := by decide +kernel
theorem dX9_build_63 : decode cX9_build 63 = .ok (.iload_n 2, 1) := by decide +kernel
theorem dX9_build_64 : decode cX9_build 64 = .ok (.invokevirtual 213, 3) := by decide +kernel
theorem dX9_build_67 : decode cX9_build 67 = .ok (.aload_n 0, 1) := by decide +kernel
theorem dX9_build_68 : decode cX9_build 68 = .ok (.iconst 4, 1) := by decide +kernel
theorem dX9_build_69 : decode cX9_build 69 = .ok (.invokevirtual 216, 3) := by decide +kernel
theorem dX9_build_72 : decode cX9_build 72 = .ok (.iconst 0, 1) := by decide +kernel
theorem dX9_build_73 : decode cX9_build 73 = .ok (.istore_n 3, 1) := by decide +kernel
theorem dX9_build_74 : decode cX9_build 74 = .ok (.iload_n 3, 1) := by decide +kernel
theorem dX9_build_75 : decode cX9_build 75 = .ok (.aload_n 0, 1) := by decide +kernel
theorem dX9_build_76 : decode cX9_build 76 = .ok (.getfield 168, 3) := by decide +kernel
theorem dX9_build_79 : decode cX9_build 79 = .ok (.if_icmp .ge 21, 3) := by decide +kernel
theorem dX9_build_82 : decode cX9_build 82 = .ok (.aload_n 0, 1) := by decide +kernel
theorem dX9_build_83 : decode cX9_build 83 = .ok (.getfield 56, 3) := by decide +kernel
theorem dX9_build_86 : decode cX9_build 86 = .ok (.iload_n 3, 1) := by decide +kernel
theorem dX9_build_87 : decode cX9_build 87 = .ok (.aload_n 0, 1) := by decide +kernel
theorem dX9_build_88 : decode cX9_build 88 = .ok (.getfield 59, 3) := by decide +kernel
theorem dX9_build_91 : decode cX9_build 91 = .ok (.iload_n 3, 1) := by decide +kernel
theorem dX9_build_92 : decode cX9_build 92 = .ok (.iaload, 1) := by decide +kernel
theorem dX9_build_93 : decode cX9_build 93 = .ok (.iastore, 1) := by decide +kernel
theorem dX9_build_94 : decode cX9_build 94 = .ok (.iinc 3 1, 3) := by decide +kernel
theorem dX9_build_97 : decode cX9_build 97 = .ok (.goto (-23), 3) := by decide +kernel
theorem dX9_build_100 : decode cX9_build 100 = .ok (.aload_n 0, 1) := by decide +kernel
theorem dX9_build_101 : decode cX9_build 101 = .ok (.aload_n 0, 1) := by decide +kernel
theorem dX9_build_102 : decode cX9_build 102 = .ok (.getfield 168, 3) := by decide +kernel
theorem dX9_build_105 : decode cX9_build 105 = .ok (.putfield 219, 3) := by decide +kernel
theorem dX9_build_108 : decode cX9_build 108 = .ok (.aload_n 0, 1) := by decide +kernel
theorem dX9_build_109 : decode cX9_build 109 = .ok (.getfield 219, 3) := by decide +kernel
theorem dX9_build_112 : decode cX9_build 112 = .ok (.ireturn, 1) := by decide +kernel
theorem dX9_file_0 : decode cX9_file 0 = .ok (.aload_n 0, 1) := by decide +kernel
theorem dX9_file_1 : decode cX9_file 1 = .ok (.iload_n 1, 1) := by decide +kernel
theorem dX9_file_2 : decode cX9_file 2 = .ok (.i2l, 1) := by decide +kernel
theorem dX9_file_3 : decode cX9_file 3 = .ok (.lconst 0, 1) := by decide +kernel
theorem dX9_file_4 : decode cX9_file 4 = .ok (.aload_n 0, 1) := by decide +kernel
theorem dX9_file_5 : decode cX9_file 5 = .ok (.getfield 219, 3) := by decide +kernel
theorem dX9_file_8 : decode cX9_file 8 = .ok (.iconst 1, 1) := by decide +kernel
theorem dX9_file_9 : decode cX9_file 9 = .ok (.isub, 1) := by decide +kernel
theorem dX9_file_10 : decode cX9_file 10 = .ok (.i2l, 1) := by decide +kernel
theorem dX9_file_11 : decode cX9_file 11 = .ok (.invokestatic 89, 3) := by decide +kernel
theorem dX9_file_14 : decode cX9_file 14 = .ok (.ifCond .ne 7, 3) := by decide +kernel
theorem dX9_file_17 : decode cX9_file 17 = .ok (.iconst 1, 1) := by decide +kernel
theorem dX9_file_18 : decode cX9_file 18 = .ok (.goto 4, 3) := by decide +kernel
theorem dX9_file_21 : decode cX9_file 21 = .ok (.iconst 0, 1) := by decide +kernel
theorem dX9_file_22 : decode cX9_file 22 = .ok (.iconst 1, 1) := by decide +kernel
theorem dX9_file_23 : decode cX9_file 23 = .ok (.invokevirtual 93, 3) := by decide +kernel
theorem dX9_file_26 : decode cX9_file 26 = .ok (.ifCond .eq 5, 3) := by decide +kernel
theorem dX9_file_29 : decode cX9_file 29 = .ok (.lconst 0, 1) := by decide +kernel
theorem dX9_file_30 : decode cX9_file 30 = .ok (.lreturn, 1) := by decide +kernel
theorem dX9_file_31 : decode cX9_file 31 = .ok (.lconst 0, 1) := by decide +kernel
theorem dX9_file_32 : decode cX9_file 32 = .ok (.lstore_n 2, 1) := by decide +kernel
theorem dX9_file_33 : decode cX9_file 33 = .ok (.iconst 0, 1) := by decide +kernel
theorem dX9_file_34 : decode cX9_file 34 = .ok (.istore 4, 2) := by decide +kernel
theorem dX9_file_36 : decode cX9_file 36 = .ok (.iload 4, 2) := by decide +kernel
theorem dX9_file_38 : decode cX9_file 38 = .ok (.bipush 8, 2) := by decide +kernel
theorem dX9_file_40 : decode cX9_file 40 = .ok (.if_icmp .ge 39, 3) := by decide +kernel
theorem dX9_file_43 : decode cX9_file 43 = .ok (.iload_n 1, 1) := by decide +kernel
theorem dX9_file_44 : decode cX9_file 44 = .ok (.iload 4, 2) := by decide +kernel
theorem dX9_file_46 : decode cX9_file 46 = .ok (.iadd, 1) := by decide +kernel
theorem dX9_file_47 : decode cX9_file 47 = .ok (.aload_n 0, 1) := by decide +kernel
theorem dX9_file_48 : decode cX9_file 48 = .ok (.getfield 219, 3) := by decide +kernel
theorem dX9_file_51 : decode cX9_file 51 = .ok (.if_icmp .ge 28, 3) := by decide +kernel
theorem dX9_file_54 : decode cX9_file 54 = .ok (.lload_n 2, 1) := by decide +kernel
theorem dX9_file_55 : decode cX9_file 55 = .ok (.aload_n 0, 1) := by decide +kernel
theorem dX9_file_56 : decode cX9_file 56 = .ok (.getfield 56, 3) := by decide +kernel
theorem dX9_file_59 : decode cX9_file 59 = .ok (.iload_n 1, 1) := by decide +kernel
theorem dX9_file_60 : decode cX9_file 60 = .ok (.iload 4, 2) := by decide +kernel
theorem dX9_file_62 : decode cX9_file 62 = .ok (.iadd, 1) := by decide +kernel
theorem dX9_file_63 : decode cX9_file 63 = .ok (.iaload, 1) := by decide +kernel
theorem dX9_file_64 : decode cX9_file 64 = .ok (.i2l, 1) := by decide +kernel
theorem dX9_file_65 : decode cX9_file 65 = .ok (.bipush 8, 2) := by decide +kernel
theorem dX9_file_67 : decode cX9_file 67 = .ok (.iload 4, 2) := by decide +kernel
theorem dX9_file_69 : decode cX9_file 69 = .ok (.imul, 1) := by decide +kernel
theorem dX9_file_70 : decode cX9_file 70 = .ok (.lshl, 1) := by decide +kernel
theorem dX9_file_71 : decode cX9_file 71 = .ok (.lor, 1) := by decide +kernel
theorem dX9_file_72 : decode cX9_file 72 = .ok (.lstore_n 2, 1) := by decide +kernel
theorem dX9_file_73 : decode cX9_file 73 = .ok (.iinc 4 1, 3) := by decide +kernel
theorem dX9_file_76 : decode cX9_file 76 = .ok (.goto (-40), 3) := by decide +kernel
theorem dX9_file_79 : decode cX9_file 79 = .ok (.lload_n 2, 1) := by decide +kernel
theorem dX9_file_80 : decode cX9_file 80 = .ok (.lreturn, 1) := by decide +kernel
theorem dX9_spoil_0 : decode cX9_spoil 0 = .ok (.aload_n 0, 1) := by decide +kernel
theorem dX9_spoil_1 : decode cX9_spoil 1 = .ok (.iload_n 1, 1) := by decide +kernel
theorem dX9_spoil_2 : decode cX9_spoil 2 = .ok (.i2l, 1) := by decide +kernel
theorem dX9_spoil_3 : decode cX9_spoil 3 = .ok (.lconst 0, 1) := by decide +kernel
theorem dX9_spoil_4 : decode cX9_spoil 4 = .ok (.aload_n 0, 1) := by decide +kernel
theorem dX9_spoil_5 : decode cX9_spoil 5 = .ok (.getfield 219, 3) := by decide +kernel
theorem dX9_spoil_8 : decode cX9_spoil 8 = .ok (.iconst 1, 1) := by decide +kernel
theorem dX9_spoil_9 : decode cX9_spoil 9 = .ok (.isub, 1) := by decide +kernel
theorem dX9_spoil_10 : decode cX9_spoil 10 = .ok (.i2l, 1) := by decide +kernel
theorem dX9_spoil_11 : decode cX9_spoil 11 = .ok (.invokestatic 89, 3) := by decide +kernel
theorem dX9_spoil_14 : decode cX9_spoil 14 = .ok (.ifCond .ne 7, 3) := by decide +kernel
theorem dX9_spoil_17 : decode cX9_spoil 17 = .ok (.iconst 1, 1) := by decide +kernel
theorem dX9_spoil_18 : decode cX9_spoil 18 = .ok (.goto 4, 3) := by decide +kernel
theorem dX9_spoil_21 : decode cX9_spoil 21 = .ok (.iconst 0, 1) := by decide +kernel
theorem dX9_spoil_22 : decode cX9_spoil 22 = .ok (.iconst 1, 1) := by decide +kernel
theorem dX9_spoil_23 : decode cX9_spoil 23 = .ok (.invokevirtual 93, 3) := by decide +kernel
theorem dX9_spoil_26 : decode cX9_spoil 26 = .ok (.ifCond .eq 5, 3) := by decide +kernel
theorem dX9_spoil_29 : decode cX9_spoil 29 = .ok (.iconst 0, 1) := by decide +kernel
theorem dX9_spoil_30 : decode cX9_spoil 30 = .ok (.ireturn, 1) := by decide +kernel
theorem dX9_spoil_31 : decode cX9_spoil 31 = .ok (.aload_n 0, 1) := by decide +kernel
theorem dX9_spoil_32 : decode cX9_spoil 32 = .ok (.getfield 56, 3) := by decide +kernel
theorem dX9_spoil_35 : decode cX9_spoil 35 = .ok (.iload_n 1, 1) := by decide +kernel
theorem dX9_spoil_36 : decode cX9_spoil 36 = .ok (.iaload, 1) := by decide +kernel
theorem dX9_spoil_37 : decode cX9_spoil 37 = .ok (.istore_n 3, 1) := by decide +kernel
theorem dX9_spoil_38 : decode cX9_spoil 38 = .ok (.aload_n 0, 1) := by decide +kernel
theorem dX9_spoil_39 : decode cX9_spoil 39 = .ok (.getfield 56, 3) := by decide +kernel
theorem dX9_spoil_42 : decode cX9_spoil 42 = .ok (.iload_n 1, 1) := by decide +kernel
theorem dX9_spoil_43 : decode cX9_spoil 43 = .ok (.iload_n 2, 1) := by decide +kernel
theorem dX9_spoil_44 : decode cX9_spoil 44 = .ok (.sipush 255, 3) := by decide +kernel
theorem dX9_spoil_47 : decode cX9_spoil 47 = .ok (.iand, 1) := by decide +kernel
theorem dX9_spoil_48 : decode cX9_spoil 48 = .ok (.iastore, 1) := by decide +kernel
theorem dX9_spoil_49 : decode cX9_spoil 49 = .ok (.iload_n 3, 1) := by decide +kernel
theorem dX9_spoil_50 : decode cX9_spoil 50 = .ok (.ireturn, 1) := by decide +kernel
theorem dX9_cut_0 : decode cX9_cut 0 = .ok (.aload_n 0, 1) := by decide +kernel
theorem dX9_cut_1 : decode cX9_cut 1 = .ok (.iconst 0, 1) := by decide +kernel
theorem dX9_cut_2 : decode cX9_cut 2 = .ok (.putfield 83, 3) := by decide +kernel
theorem dX9_cut_5 : decode cX9_cut 5 = .ok (.iload_n 1, 1) := by decide +kernel
theorem dX9_cut_6 : decode cX9_cut 6 = .ok (.i2l, 1) := by decide +kernel
theorem dX9_cut_7 : decode cX9_cut 7 = .ok (.lconst 0, 1) := by decide +kernel
theorem dX9_cut_8 : decode cX9_cut 8 = .ok (.aload_n 0, 1) := by decide +kernel
theorem dX9_cut_9 : decode cX9_cut 9 = .ok (.getfield 219, 3) := by decide +kernel
theorem dX9_cut_12 : decode cX9_cut 12 = .ok (.i2l, 1) := by decide +kernel
theorem dX9_cut_13 : decode cX9_cut 13 = .ok (.invokestatic 89, 3) := by decide +kernel
theorem dX9_cut_16 : decode cX9_cut 16 = .ok (.ifCond .ne 5, 3) := by decide +kernel
theorem dX9_cut_19 : decode cX9_cut 19 = .ok (.iconst 0, 1) := by decide +kernel
theorem dX9_cut_20 : decode cX9_cut 20 = .ok (.ireturn, 1) := by decide +kernel
theorem dX9_cut_21 : decode cX9_cut 21 = .ok (.aload_n 0, 1) := by decide +kernel
theorem dX9_cut_22 : decode cX9_cut 22 = .ok (.iload_n 1, 1) := by decide +kernel
theorem dX9_cut_23 : decode cX9_cut 23 = .ok (.putfield 219, 3) := by decide +kernel
theorem dX9_cut_26 : decode cX9_cut 26 = .ok (.iconst 1, 1) := by decide +kernel
theorem dX9_cut_27 : decode cX9_cut 27 = .ok (.ireturn, 1) := by decide +kernel
theorem dX9_mend_0 : decode cX9_mend 0 = .ok (.aload_n 0, 1) := by decide +kernel
theorem dX9_mend_1 : decode cX9_mend 1 = .ok (.iconst 0, 1) := by decide +kernel
theorem dX9_mend_2 : decode cX9_mend 2 = .ok (.putfield 83, 3) := by decide +kernel
theorem dX9_mend_5 : decode cX9_mend 5 = .ok (.aload_n 0, 1) := by decide +kernel
theorem dX9_mend_6 : decode cX9_mend 6 = .ok (.getfield 219, 3) := by decide +kernel
theorem dX9_mend_9 : decode cX9_mend 9 = .ok (.iconst 4, 1) := by decide +kernel
theorem dX9_mend_10 : decode cX9_mend 10 = .ok (.if_icmp .ge 5, 3) := by decide +kernel
theorem dX9_mend_13 : decode cX9_mend 13 = .ok (.iconst 0, 1) := by decide +kernel
theorem dX9_mend_14 : decode cX9_mend 14 = .ok (.ireturn, 1) := by decide +kernel
theorem dX9_mend_15 : decode cX9_mend 15 = .ok (.aload_n 0, 1) := by decide +kernel
theorem dX9_mend_16 : decode cX9_mend 16 = .ok (.getfield 56, 3) := by decide +kernel
theorem dX9_mend_19 : decode cX9_mend 19 = .ok (.aload_n 0, 1) := by decide +kernel
theorem dX9_mend_20 : decode cX9_mend 20 = .ok (.getfield 219, 3) := by decide +kernel
theorem dX9_mend_23 : decode cX9_mend 23 = .ok (.iconst 4, 1) := by decide +kernel
theorem dX9_mend_24 : decode cX9_mend 24 = .ok (.isub, 1) := by decide +kernel
theorem dX9_mend_25 : decode cX9_mend 25 = .ok (.invokestatic 201, 3) := by decide +kernel
theorem dX9_mend_28 : decode cX9_mend 28 = .ok (.lstore_n 1, 1) := by decide +kernel
theorem dX9_mend_29 : decode cX9_mend 29 = .ok (.iconst 0, 1) := by decide +kernel
theorem dX9_mend_30 : decode cX9_mend 30 = .ok (.istore_n 3, 1) := by decide +kernel
theorem dX9_mend_31 : decode cX9_mend 31 = .ok (.iload_n 3, 1) := by decide +kernel
theorem dX9_mend_32 : decode cX9_mend 32 = .ok (.iconst 4, 1) := by decide +kernel
theorem dX9_mend_33 : decode cX9_mend 33 = .ok (.if_icmp .ge 33, 3) := by decide +kernel
theorem dX9_mend_36 : decode cX9_mend 36 = .ok (.aload_n 0, 1) := by decide +kernel
theorem dX9_mend_37 : decode cX9_mend 37 = .ok (.getfield 56, 3) := by decide +kernel
theorem dX9_mend_40 : decode cX9_mend 40 = .ok (.aload_n 0, 1) := by decide +kernel
theorem dX9_mend_41 : decode cX9_mend 41 = .ok (.getfield 219, 3) := by decide +kernel
theorem dX9_mend_44 : decode cX9_mend 44 = .ok (.iconst 4, 1) := by decide +kernel
theorem dX9_mend_45 : decode cX9_mend 45 = .ok (.isub, 1) := by decide +kernel
theorem dX9_mend_46 : decode cX9_mend 46 = .ok (.iload_n 3, 1) := by decide +kernel
theorem dX9_mend_47 : decode cX9_mend 47 = .ok (.iadd, 1) := by decide +kernel
theorem dX9_mend_48 : decode cX9_mend 48 = .ok (.lload_n 1, 1) := by decide +kernel
theorem dX9_mend_49 : decode cX9_mend 49 = .ok (.bipush 8, 2) := by decide +kernel
theorem dX9_mend_51 : decode cX9_mend 51 = .ok (.iload_n 3, 1) := by decide +kernel
theorem dX9_mend_52 : decode cX9_mend 52 = .ok (.imul, 1) := by decide +kernel
theorem dX9_mend_53 : decode cX9_mend 53 = .ok (.lshr, 1) := by decide +kernel
theorem dX9_mend_54 : decode cX9_mend 54 = .ok (.ldc2_w 100, 3) := by decide +kernel
theorem dX9_mend_57 : decode cX9_mend 57 = .ok (.land, 1) := by decide +kernel
theorem dX9_mend_58 : decode cX9_mend 58 = .ok (.l2i, 1) := by decide +kernel
theorem dX9_mend_59 : decode cX9_mend 59 = .ok (.iastore, 1) := by decide +kernel
theorem dX9_mend_60 : decode cX9_mend 60 = .ok (.iinc 3 1, 3) := by decide +kernel
theorem dX9_mend_63 : decode cX9_mend 63 = .ok (.goto (-32), 3) := by decide +kernel
theorem dX9_mend_66 : decode cX9_mend 66 = .ok (.iconst 1, 1) := by decide +kernel
theorem dX9_mend_67 : decode cX9_mend 67 = .ok (.ireturn, 1) := by decide +kernel
theorem dX9_take_0 : decode cX9_take 0 = .ok (.aload_n 0, 1) := by decide +kernel
theorem dX9_take_1 : decode cX9_take 1 = .ok (.getfield 222, 3) := by decide +kernel
theorem dX9_take_4 : decode cX9_take 4 = .ok (.aload_n 0, 1) := by decide +kernel
theorem dX9_take_5 : decode cX9_take 5 = .ok (.getfield 219, 3) := by decide +kernel
theorem dX9_take_8 : decode cX9_take 8 = .ok (.if_icmp .lt 8, 3) := by decide +kernel
theorem dX9_take_11 : decode cX9_take 11 = .ok (.aload_n 0, 1) := by decide +kernel
theorem dX9_take_12 : decode cX9_take 12 = .ok (.iconst 1, 1) := by decide +kernel
theorem dX9_take_13 : decode cX9_take 13 = .ok (.putfield 225, 3) := by decide +kernel
theorem dX9_take_16 : decode cX9_take 16 = .ok (.aload_n 0, 1) := by decide +kernel
theorem dX9_take_17 : decode cX9_take 17 = .ok (.dup, 1) := by decide +kernel
theorem dX9_take_18 : decode cX9_take 18 = .ok (.getfield 222, 3) := by decide +kernel
theorem dX9_take_21 : decode cX9_take 21 = .ok (.iconst 1, 1) := by decide +kernel
theorem dX9_take_22 : decode cX9_take 22 = .ok (.iadd, 1) := by decide +kernel
theorem dX9_take_23 : decode cX9_take 23 = .ok (.putfield 222, 3) := by decide +kernel
theorem dX9_take_26 : decode cX9_take 26 = .ok (.aload_n 0, 1) := by decide +kernel
theorem dX9_take_27 : decode cX9_take 27 = .ok (.getfield 225, 3) := by decide +kernel
theorem dX9_take_30 : decode cX9_take 30 = .ok (.ifCond .eq 7, 3) := by decide +kernel
theorem dX9_take_33 : decode cX9_take 33 = .ok (.iconst 0, 1) := by decide +kernel
theorem dX9_take_34 : decode cX9_take 34 = .ok (.goto 14, 3) := by decide +kernel
theorem dX9_take_37 : decode cX9_take 37 = .ok (.aload_n 0, 1) := by decide +kernel
theorem dX9_take_38 : decode cX9_take 38 = .ok (.getfield 56, 3) := by decide +kernel
theorem dX9_take_41 : decode cX9_take 41 = .ok (.aload_n 0, 1) := by decide +kernel
theorem dX9_take_42 : decode cX9_take 42 = .ok (.getfield 222, 3) := by decide +kernel
theorem dX9_take_45 : decode cX9_take 45 = .ok (.iconst 1, 1) := by decide +kernel
theorem dX9_take_46 : decode cX9_take 46 = .ok (.isub, 1) := by decide +kernel
theorem dX9_take_47 : decode cX9_take 47 = .ok (.iaload, 1) := by decide +kernel
theorem dX9_take_48 : decode cX9_take 48 = .ok (.ireturn, 1) := by decide +kernel
theorem dX9_takeGaps_0 : decode cX9_takeGaps 0 = .ok (.iconst 0, 1) := by decide +kernel
theorem dX9_takeGaps_1 : decode cX9_takeGaps 1 = .ok (.istore_n 3, 1) := by decide +kernel
theorem dX9_takeGaps_2 : decode cX9_takeGaps 2 = .ok (.iload_n 1, 1) := by decide +kernel
theorem dX9_takeGaps_3 : decode cX9_takeGaps 3 = .ok (.ifCond .ne 62, 3) := by decide +kernel
theorem dX9_takeGaps_6 : decode cX9_takeGaps 6 = .ok (.iload_n 3, 1) := by decide +kernel
theorem dX9_takeGaps_7 : decode cX9_takeGaps 7 = .ok (.iload_n 2, 1) := by decide +kernel
theorem dX9_takeGaps_8 : decode cX9_takeGaps 8 = .ok (.if_icmp .ge 227, 3) := by decide +kernel
theorem dX9_takeGaps_11 : decode cX9_takeGaps 11 = .ok (.aload_n 0, 1) := by decide +kernel
theorem dX9_takeGaps_12 : decode cX9_takeGaps 12 = .ok (.getfield 225, 3) := by decide +kernel
theorem dX9_takeGaps_15 : decode cX9_takeGaps 15 = .ok (.ifCond .ne 220, 3) := by decide +kernel
theorem dX9_takeGaps_18 : decode cX9_takeGaps 18 = .ok (.aload_n 0, 1) := by decide +kernel
theorem dX9_takeGaps_19 : decode cX9_takeGaps 19 = .ok (.invokevirtual 229, 3) := by decide +kernel
theorem dX9_takeGaps_22 : decode cX9_takeGaps 22 = .ok (.istore 4, 2) := by decide +kernel
theorem dX9_takeGaps_24 : decode cX9_takeGaps 24 = .ok (.aload_n 0, 1) := by decide +kernel
theorem dX9_takeGaps_25 : decode cX9_takeGaps 25 = .ok (.aload_n 0, 1) := by decide +kernel
theorem dX9_takeGaps_26 : decode cX9_takeGaps 26 = .ok (.getfield 225, 3) := by decide +kernel
theorem dX9_takeGaps_29 : decode cX9_takeGaps 29 = .ok (.ifCond .ne 11, 3) := by decide +kernel
theorem dX9_takeGaps_32 : decode cX9_takeGaps 32 = .ok (.iload 4, 2) := by decide +kernel
theorem dX9_takeGaps_34 : decode cX9_takeGaps 34 = .ok (.sipush 128, 3) := by decide +kernel
theorem dX9_takeGaps_37 : decode cX9_takeGaps 37 = .ok (.if_icmp .ge 7, 3) := by decide +kernel
theorem dX9_takeGaps_40 : decode cX9_takeGaps 40 = .ok (.iconst 1, 1) := by decide +kernel
theorem dX9_takeGaps_41 : decode cX9_takeGaps 41 = .ok (.goto 4, 3) := by decide +kernel
theorem dX9_takeGaps_44 : decode cX9_takeGaps 44 = .ok (.iconst 0, 1) := by decide +kernel
theorem dX9_takeGaps_45 : decode cX9_takeGaps 45 = .ok (.putfield 225, 3) := by decide +kernel
theorem dX9_takeGaps_48 : decode cX9_takeGaps 48 = .ok (.aload_n 0, 1) := by decide +kernel
theorem dX9_takeGaps_49 : decode cX9_takeGaps 49 = .ok (.getfield 62, 3) := by decide +kernel
theorem dX9_takeGaps_52 : decode cX9_takeGaps 52 = .ok (.iload_n 3, 1) := by decide +kernel
theorem dX9_takeGaps_53 : decode cX9_takeGaps 53 = .ok (.iload 4, 2) := by decide +kernel
theorem dX9_takeGaps_55 : decode cX9_takeGaps 55 = .ok (.bipush 127, 2) := by decide +kernel
theorem dX9_takeGaps_57 : decode cX9_takeGaps 57 = .ok (.iand, 1) := by decide +kernel
theorem dX9_takeGaps_58 : decode cX9_takeGaps 58 = .ok (.iastore, 1) := by decide +kernel
theorem dX9_takeGaps_59 : decode cX9_takeGaps 59 = .ok (.iinc 3 1, 3) := by decide +kernel
theorem dX9_takeGaps_62 : decode cX9_takeGaps 62 = .ok (.goto (-56), 3) := by decide +kernel
theorem dX9_takeGaps_65 : decode cX9_takeGaps 65 = .ok (.iload_n 1, 1) := by decide +kernel
theorem dX9_takeGaps_66 : decode cX9_takeGaps 66 = .ok (.iconst 1, 1) := by decide +kernel
theorem dX9_takeGaps_67 : decode cX9_takeGaps 67 = .ok (.if_icmp .ne 163, 3) := by decide +kernel
theorem dX9_takeGaps_70 : decode cX9_takeGaps 70 = .ok (.iload_n 3, 1) := by decide +kernel
theorem dX9_takeGaps_71 : decode cX9_takeGaps 71 = .ok (.iload_n 2, 1) := by decide +kernel
theorem dX9_takeGaps_72 : decode cX9_takeGaps 72 = .ok (.if_icmp .ge 163, 3) := by decide +kernel
theorem dX9_takeGaps_75 : decode cX9_takeGaps 75 = .ok (.aload_n 0, 1) := by decide +kernel
theorem dX9_takeGaps_76 : decode cX9_takeGaps 76 = .ok (.getfield 225, 3) := by decide +kernel
theorem dX9_takeGaps_79 : decode cX9_takeGaps 79 = .ok (.ifCond .ne 156, 3) := by decide +kernel
theorem dX9_takeGaps_82 : decode cX9_takeGaps 82 = .ok (.lconst 0, 1) := by decide +kernel
theorem dX9_takeGaps_83 : decode cX9_takeGaps 83 = .ok (.lstore 4, 2) := by decide +kernel
theorem dX9_takeGaps_85 : decode cX9_takeGaps 85 = .ok (.iconst 0, 1) := by decide +kernel
theorem dX9_takeGaps_86 : decode cX9_takeGaps 86 = .ok (.istore 6, 2) := by decide +kernel
theorem dX9_takeGaps_88 : decode cX9_takeGaps 88 = .ok (.iload 6, 2) := by decide +kernel
theorem dX9_takeGaps_90 : decode cX9_takeGaps 90 = .ok (.bipush 8, 2) := by decide +kernel
theorem dX9_takeGaps_92 : decode cX9_takeGaps 92 = .ok (.if_icmp .ge 25, 3) := by decide +kernel
theorem dX9_takeGaps_95 : decode cX9_takeGaps 95 = .ok (.lload 4, 2) := by decide +kernel
theorem dX9_takeGaps_97 : decode cX9_takeGaps 97 = .ok (.aload_n 0, 1) := by decide +kernel
theorem dX9_takeGaps_98 : decode cX9_takeGaps 98 = .ok (.invokevirtual 229, 3) := by decide +kernel
theorem dX9_takeGaps_101 : decode cX9_takeGaps 101 = .ok (.i2l, 1) := by decide +kernel
theorem dX9_takeGaps_102 : decode cX9_takeGaps 102 = .ok (.bipush 8, 2) := by decide +kernel
theorem dX9_takeGaps_104 : decode cX9_takeGaps 104 = .ok (.iload 6, 2) := by decide +kernel
theorem dX9_takeGaps_106 : decode cX9_takeGaps 106 = .ok (.imul, 1) := by decide +kernel
theorem dX9_takeGaps_107 : decode cX9_takeGaps 107 = .ok (.lshl, 1) := by decide +kernel
theorem dX9_takeGaps_108 : decode cX9_takeGaps 108 = .ok (.lor, 1) := by decide +kernel
theorem dX9_takeGaps_109 : decode cX9_takeGaps 109 = .ok (.lstore 4, 2) := by decide +kernel
theorem dX9_takeGaps_111 : decode cX9_takeGaps 111 = .ok (.iinc 6 1, 3) := by decide +kernel
theorem dX9_takeGaps_114 : decode cX9_takeGaps 114 = .ok (.goto (-26), 3) := by decide +kernel
theorem dX9_takeGaps_117 : decode cX9_takeGaps 117 = .ok (.lload 4, 2) := by decide +kernel
theorem dX9_takeGaps_119 : decode cX9_takeGaps 119 = .ok (.ldc2_w 232, 3) := by decide +kernel
theorem dX9_takeGaps_122 : decode cX9_takeGaps 122 = .ok (.land, 1) := by decide +kernel
theorem dX9_takeGaps_123 : decode cX9_takeGaps 123 = .ok (.l2i, 1) := by decide +kernel
theorem dX9_takeGaps_124 : decode cX9_takeGaps 124 = .ok (.istore 6, 2) := by decide +kernel
theorem dX9_takeGaps_126 : decode cX9_takeGaps 126 = .ok (.aload_n 0, 1) := by decide +kernel
theorem dX9_takeGaps_127 : decode cX9_takeGaps 127 = .ok (.aload_n 0, 1) := by decide +kernel
theorem dX9_takeGaps_128 : decode cX9_takeGaps 128 = .ok (.getfield 225, 3) := by decide +kernel
theorem dX9_takeGaps_131 : decode cX9_takeGaps 131 = .ok (.ifCond .ne 10, 3) := by decide +kernel
theorem dX9_takeGaps_134 : decode cX9_takeGaps 134 = .ok (.iload 6, 2) := by decide +kernel
theorem dX9_takeGaps_136 : decode cX9_takeGaps 136 = .ok (.bipush 10, 2) := by decide +kernel
theorem dX9_takeGaps_138 : decode cX9_takeGaps 138 = .ok (.if_icmp .le 7, 3) := by decide +kernel
theorem dX9_takeGaps_141 : decode cX9_takeGaps 141 = .ok (.iconst 1, 1) := by decide +kernel
theorem dX9_takeGaps_142 : decode cX9_takeGaps 142 = .ok (.goto 4, 3) := by decide +kernel
theorem dX9_takeGaps_145 : decode cX9_takeGaps 145 = .ok (.iconst 0, 1) := by decide +kernel
theorem dX9_takeGaps_146 : decode cX9_takeGaps 146 = .ok (.putfield 225, 3) := by decide +kernel
theorem dX9_takeGaps_149 : decode cX9_takeGaps 149 = .ok (.iconst 0, 1) := by decide +kernel
theorem dX9_takeGaps_150 : decode cX9_takeGaps 150 = .ok (.istore 7, 2) := by decide +kernel
theorem dX9_takeGaps_152 : decode cX9_takeGaps 152 = .ok (.iload 7, 2) := by decide +kernel
theorem dX9_takeGaps_154 : decode cX9_takeGaps 154 = .ok (.bipush 60, 2) := by decide +kernel
theorem dX9_takeGaps_156 : decode cX9_takeGaps 156 = .ok (.iload 6, 2) := by decide +kernel
theorem dX9_takeGaps_158 : decode cX9_takeGaps 158 = .ok (.invokestatic 181, 3) := by decide +kernel
theorem dX9_takeGaps_161 : decode cX9_takeGaps 161 = .ok (.idiv, 1) := by decide +kernel
theorem dX9_takeGaps_162 : decode cX9_takeGaps 162 = .ok (.if_icmp .ge 65, 3) := by decide +kernel
theorem dX9_takeGaps_165 : decode cX9_takeGaps 165 = .ok (.iload_n 3, 1) := by decide +kernel
theorem dX9_takeGaps_166 : decode cX9_takeGaps 166 = .ok (.iload_n 2, 1) := by decide +kernel
theorem dX9_takeGaps_167 : decode cX9_takeGaps 167 = .ok (.if_icmp .ge 60, 3) := by decide +kernel
theorem dX9_takeGaps_170 : decode cX9_takeGaps 170 = .ok (.lload 4, 2) := by decide +kernel
theorem dX9_takeGaps_172 : decode cX9_takeGaps 172 = .ok (.iconst 4, 1) := by decide +kernel
theorem dX9_takeGaps_173 : decode cX9_takeGaps 173 = .ok (.iload 6, 2) := by decide +kernel
theorem dX9_takeGaps_175 : decode cX9_takeGaps 175 = .ok (.invokestatic 181, 3) := by decide +kernel
theorem dX9_takeGaps_178 : decode cX9_takeGaps 178 = .ok (.iload 7, 2) := by decide +kernel
theorem dX9_takeGaps_180 : decode cX9_takeGaps 180 = .ok (.imul, 1) := by decide +kernel
theorem dX9_takeGaps_181 : decode cX9_takeGaps 181 = .ok (.iadd, 1) := by decide +kernel
theorem dX9_takeGaps_182 : decode cX9_takeGaps 182 = .ok (.lshr, 1) := by decide +kernel
theorem dX9_takeGaps_183 : decode cX9_takeGaps 183 = .ok (.lconst 1, 1) := by decide +kernel
theorem dX9_takeGaps_184 : decode cX9_takeGaps 184 = .ok (.iload 6, 2) := by decide +kernel
theorem dX9_takeGaps_186 : decode cX9_takeGaps 186 = .ok (.invokestatic 181, 3) := by decide +kernel
theorem dX9_takeGaps_189 : decode cX9_takeGaps 189 = .ok (.lshl, 1) := by decide +kernel
theorem dX9_takeGaps_190 : decode cX9_takeGaps 190 = .ok (.lconst 1, 1) := by decide +kernel
theorem dX9_takeGaps_191 : decode cX9_takeGaps 191 = .ok (.lsub, 1) := by decide +kernel
theorem dX9_takeGaps_192 : decode cX9_takeGaps 192 = .ok (.land, 1) := by decide +kernel
theorem dX9_takeGaps_193 : decode cX9_takeGaps 193 = .ok (.lstore 8, 2) := by decide +kernel
theorem dX9_takeGaps_195 : decode cX9_takeGaps 195 = .ok (.aload_n 0, 1) := by decide +kernel
theorem dX9_takeGaps_196 : decode cX9_takeGaps 196 = .ok (.getfield 62, 3) := by decide +kernel
theorem dX9_takeGaps_199 : decode cX9_takeGaps 199 = .ok (.iload_n 3, 1) := by decide +kernel
theorem dX9_takeGaps_200 : decode cX9_takeGaps 200 = .ok (.lload 8, 2) := by decide +kernel
theorem dX9_takeGaps_202 : decode cX9_takeGaps 202 = .ok (.ldc2_w 234, 3) := by decide +kernel
theorem dX9_takeGaps_205 : decode cX9_takeGaps 205 = .ok (.lcmp, 1) := by decide +kernel
theorem dX9_takeGaps_206 : decode cX9_takeGaps 206 = .ok (.ifCond .le 8, 3) := by decide +kernel
theorem dX9_takeGaps_209 : decode cX9_takeGaps 209 = .ok (.bipush 100, 2) := by decide +kernel
theorem dX9_takeGaps_211 : decode cX9_takeGaps 211 = .ok (.goto 6, 3) := by decide +kernel
theorem dX9_takeGaps_214 : decode cX9_takeGaps 214 = .ok (.lload 8, 2) := by decide +kernel
theorem dX9_takeGaps_216 : decode cX9_takeGaps 216 = .ok (.l2i, 1) := by decide +kernel
theorem dX9_takeGaps_217 : decode cX9_takeGaps 217 = .ok (.iastore, 1) := by decide +kernel
theorem dX9_takeGaps_218 : decode cX9_takeGaps 218 = .ok (.iinc 3 1, 3) := by decide +kernel
theorem dX9_takeGaps_221 : decode cX9_takeGaps 221 = .ok (.iinc 7 1, 3) := by decide +kernel
theorem dX9_takeGaps_224 : decode cX9_takeGaps 224 = .ok (.goto (-72), 3) := by decide +kernel
theorem dX9_takeGaps_227 : decode cX9_takeGaps 227 = .ok (.goto (-157), 3) := by decide +kernel
theorem dX9_takeGaps_230 : decode cX9_takeGaps 230 = .ok (.aload_n 0, 1) := by decide +kernel
theorem dX9_takeGaps_231 : decode cX9_takeGaps 231 = .ok (.iload_n 2, 1) := by decide +kernel
theorem dX9_takeGaps_232 : decode cX9_takeGaps 232 = .ok (.invokevirtual 236, 3) := by decide +kernel
theorem dX9_takeGaps_235 : decode cX9_takeGaps 235 = .ok (.return_, 1) := by decide +kernel
theorem dX9_takeBits_0 : decode cX9_takeBits 0 = .ok (.aload_n 0, 1) := by decide +kernel
theorem dX9_takeBits_1 : decode cX9_takeBits 1 = .ok (.invokevirtual 229, 3) := by decide +kernel
theorem dX9_takeBits_4 : decode cX9_takeBits 4 = .ok (.istore_n 2, 1) := by decide +kernel
theorem dX9_takeBits_5 : decode cX9_takeBits 5 = .ok (.aload_n 0, 1) := by decide +kernel
theorem dX9_takeBits_6 : decode cX9_takeBits 6 = .ok (.aload_n 0, 1) := by decide +kernel
theorem dX9_takeBits_7 : decode cX9_takeBits 7 = .ok (.getfield 225, 3) := by decide +kernel
theorem dX9_takeBits_10 : decode cX9_takeBits 10 = .ok (.ifCond .ne 9, 3) := by decide +kernel
theorem dX9_takeBits_13 : decode cX9_takeBits 13 = .ok (.iload_n 2, 1) := by decide +kernel
theorem dX9_takeBits_14 : decode cX9_takeBits 14 = .ok (.bipush 6, 2) := by decide +kernel
theorem dX9_takeBits_16 : decode cX9_takeBits 16 = .ok (.if_icmp .le 7, 3) := by decide +kernel
theorem dX9_takeBits_19 : decode cX9_takeBits 19 = .ok (.iconst 1, 1) := by decide +kernel
theorem dX9_takeBits_20 : decode cX9_takeBits 20 = .ok (.goto 4, 3) := by decide +kernel
theorem dX9_takeBits_23 : decode cX9_takeBits 23 = .ok (.iconst 0, 1) := by decide +kernel
theorem dX9_takeBits_24 : decode cX9_takeBits 24 = .ok (.putfield 225, 3) := by decide +kernel
theorem dX9_takeBits_27 : decode cX9_takeBits 27 = .ok (.iconst 0, 1) := by decide +kernel
theorem dX9_takeBits_28 : decode cX9_takeBits 28 = .ok (.istore_n 3, 1) := by decide +kernel
theorem dX9_takeBits_29 : decode cX9_takeBits 29 = .ok (.iload_n 3, 1) := by decide +kernel
theorem dX9_takeBits_30 : decode cX9_takeBits 30 = .ok (.iload_n 1, 1) := by decide +kernel
theorem dX9_takeBits_31 : decode cX9_takeBits 31 = .ok (.if_icmp .ge 16, 3) := by decide +kernel
theorem dX9_takeBits_34 : decode cX9_takeBits 34 = .ok (.aload_n 0, 1) := by decide +kernel
theorem dX9_takeBits_35 : decode cX9_takeBits 35 = .ok (.getfield 62, 3) := by decide +kernel
theorem dX9_takeBits_38 : decode cX9_takeBits 38 = .ok (.iload_n 3, 1) := by decide +kernel
theorem dX9_takeBits_39 : decode cX9_takeBits 39 = .ok (.iconst 0, 1) := by decide +kernel
theorem dX9_takeBits_40 : decode cX9_takeBits 40 = .ok (.iastore, 1) := by decide +kernel
theorem dX9_takeBits_41 : decode cX9_takeBits 41 = .ok (.iinc 3 1, 3) := by decide +kernel
theorem dX9_takeBits_44 : decode cX9_takeBits 44 = .ok (.goto (-15), 3) := by decide +kernel
theorem dX9_takeBits_47 : decode cX9_takeBits 47 = .ok (.iconst 0, 1) := by decide +kernel
theorem dX9_takeBits_48 : decode cX9_takeBits 48 = .ok (.istore_n 3, 1) := by decide +kernel
theorem dX9_takeBits_49 : decode cX9_takeBits 49 = .ok (.iconst 0, 1) := by decide +kernel
theorem dX9_takeBits_50 : decode cX9_takeBits 50 = .ok (.istore 4, 2) := by decide +kernel
theorem dX9_takeBits_52 : decode cX9_takeBits 52 = .ok (.iload 4, 2) := by decide +kernel
theorem dX9_takeBits_54 : decode cX9_takeBits 54 = .ok (.iload_n 2, 1) := by decide +kernel
theorem dX9_takeBits_55 : decode cX9_takeBits 55 = .ok (.iload_n 1, 1) := by decide +kernel
theorem dX9_takeBits_56 : decode cX9_takeBits 56 = .ok (.imul, 1) := by decide +kernel
theorem dX9_takeBits_57 : decode cX9_takeBits 57 = .ok (.if_icmp .ge 55, 3) := by decide +kernel
theorem dX9_takeBits_60 : decode cX9_takeBits 60 = .ok (.aload_n 0, 1) := by decide +kernel
theorem dX9_takeBits_61 : decode cX9_takeBits 61 = .ok (.getfield 225, 3) := by decide +kernel
theorem dX9_takeBits_64 : decode cX9_takeBits 64 = .ok (.ifCond .ne 48, 3) := by decide +kernel
theorem dX9_takeBits_67 : decode cX9_takeBits 67 = .ok (.iload 4, 2) := by decide +kernel
theorem dX9_takeBits_69 : decode cX9_takeBits 69 = .ok (.bipush 8, 2) := by decide +kernel
theorem dX9_takeBits_71 : decode cX9_takeBits 71 = .ok (.irem, 1) := by decide +kernel
theorem dX9_takeBits_72 : decode cX9_takeBits 72 = .ok (.ifCond .ne 8, 3) := by decide +kernel
theorem dX9_takeBits_75 : decode cX9_takeBits 75 = .ok (.aload_n 0, 1) := by decide +kernel
theorem dX9_takeBits_76 : decode cX9_takeBits 76 = .ok (.invokevirtual 229, 3) := by decide +kernel
theorem dX9_takeBits_79 : decode cX9_takeBits 79 = .ok (.istore_n 3, 1) := by decide +kernel
theorem dX9_takeBits_80 : decode cX9_takeBits 80 = .ok (.aload_n 0, 1) := by decide +kernel
theorem dX9_takeBits_81 : decode cX9_takeBits 81 = .ok (.getfield 62, 3) := by decide +kernel
theorem dX9_takeBits_84 : decode cX9_takeBits 84 = .ok (.iload 4, 2) := by decide +kernel
theorem dX9_takeBits_86 : decode cX9_takeBits 86 = .ok (.iload_n 2, 1) := by decide +kernel
theorem dX9_takeBits_87 : decode cX9_takeBits 87 = .ok (.idiv, 1) := by decide +kernel
theorem dX9_takeBits_88 : decode cX9_takeBits 88 = .ok (.dup2, 1) := by decide +kernel
theorem dX9_takeBits_89 : decode cX9_takeBits 89 = .ok (.iaload, 1) := by decide +kernel
theorem dX9_takeBits_90 : decode cX9_takeBits 90 = .ok (.iload_n 3, 1) := by decide +kernel
theorem dX9_takeBits_91 : decode cX9_takeBits 91 = .ok (.iload 4, 2) := by decide +kernel
theorem dX9_takeBits_93 : decode cX9_takeBits 93 = .ok (.bipush 8, 2) := by decide +kernel
theorem dX9_takeBits_95 : decode cX9_takeBits 95 = .ok (.irem, 1) := by decide +kernel
theorem dX9_takeBits_96 : decode cX9_takeBits 96 = .ok (.ishr, 1) := by decide +kernel
theorem dX9_takeBits_97 : decode cX9_takeBits 97 = .ok (.iconst 1, 1) := by decide +kernel
theorem dX9_takeBits_98 : decode cX9_takeBits 98 = .ok (.iand, 1) := by decide +kernel
theorem dX9_takeBits_99 : decode cX9_takeBits 99 = .ok (.iload 4, 2) := by decide +kernel
theorem dX9_takeBits_101 : decode cX9_takeBits 101 = .ok (.iload_n 2, 1) := by decide +kernel
theorem dX9_takeBits_102 : decode cX9_takeBits 102 = .ok (.irem, 1) := by decide +kernel
theorem dX9_takeBits_103 : decode cX9_takeBits 103 = .ok (.ishl, 1) := by decide +kernel
theorem dX9_takeBits_104 : decode cX9_takeBits 104 = .ok (.ior, 1) := by decide +kernel
theorem dX9_takeBits_105 : decode cX9_takeBits 105 = .ok (.iastore, 1) := by decide +kernel
theorem dX9_takeBits_106 : decode cX9_takeBits 106 = .ok (.iinc 4 1, 3) := by decide +kernel
theorem dX9_takeBits_109 : decode cX9_takeBits 109 = .ok (.goto (-57), 3) := by decide +kernel
theorem dX9_takeBits_112 : decode cX9_takeBits 112 = .ok (.return_, 1) := by decide +kernel
theorem dX9_reads_0 : decode cX9_reads 0 = .ok (.iconst 4, 1) := by decide +kernel
theorem dX9_reads_1 : decode cX9_reads 1 = .ok (.istore_n 1, 1) := by decide +kernel
theorem dX9_reads_2 : decode cX9_reads 2 = .ok (.aload_n 0, 1) := by decide +kernel
theorem dX9_reads_3 : decode cX9_reads 3 = .ok (.iconst 0, 1) := by decide +kernel
theorem dX9_reads_4 : decode cX9_reads 4 = .ok (.putfield 222, 3) := by decide +kernel
theorem dX9_reads_7 : decode cX9_reads 7 = .ok (.aload_n 0, 1) := by decide +kernel
theorem dX9_reads_8 : decode cX9_reads 8 = .ok (.iconst 0, 1) := by decide +kernel
theorem dX9_reads_9 : decode cX9_reads 9 = .ok (.putfield 225, 3) := by decide +kernel
theorem dX9_reads_12 : decode cX9_reads 12 = .ok (.aload_n 0, 1) := by decide +kernel
