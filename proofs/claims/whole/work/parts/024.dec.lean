theorem dX9_reads_13 : decode cX9_reads 13 = .ok (.invokevirtual 229, 3) := by decide +kernel
theorem dX9_reads_16 : decode cX9_reads 16 = .ok (.pop, 1) := by decide +kernel
theorem dX9_reads_17 : decode cX9_reads 17 = .ok (.aload_n 0, 1) := by decide +kernel
theorem dX9_reads_18 : decode cX9_reads 18 = .ok (.invokevirtual 229, 3) := by decide +kernel
theorem dX9_reads_21 : decode cX9_reads 21 = .ok (.pop, 1) := by decide +kernel
theorem dX9_reads_22 : decode cX9_reads 22 = .ok (.aload_n 0, 1) := by decide +kernel
theorem dX9_reads_23 : decode cX9_reads 23 = .ok (.getfield 28, 3) := by decide +kernel
theorem dX9_reads_26 : decode cX9_reads 26 = .ok (.iload_n 1, 1) := by decide +kernel
theorem dX9_reads_27 : decode cX9_reads 27 = .ok (.aload_n 0, 1) := by decide +kernel
theorem dX9_reads_28 : decode cX9_reads 28 = .ok (.invokevirtual 229, 3) := by decide +kernel
theorem dX9_reads_31 : decode cX9_reads 31 = .ok (.iastore, 1) := by decide +kernel
theorem dX9_reads_32 : decode cX9_reads 32 = .ok (.aload_n 0, 1) := by decide +kernel
theorem dX9_reads_33 : decode cX9_reads 33 = .ok (.getfield 31, 3) := by decide +kernel
theorem dX9_reads_36 : decode cX9_reads 36 = .ok (.iload_n 1, 1) := by decide +kernel
theorem dX9_reads_37 : decode cX9_reads 37 = .ok (.aload_n 0, 1) := by decide +kernel
theorem dX9_reads_38 : decode cX9_reads 38 = .ok (.invokevirtual 229, 3) := by decide +kernel
theorem dX9_reads_41 : decode cX9_reads 41 = .ok (.iastore, 1) := by decide +kernel
theorem dX9_reads_42 : decode cX9_reads 42 = .ok (.aload_n 0, 1) := by decide +kernel
theorem dX9_reads_43 : decode cX9_reads 43 = .ok (.getfield 34, 3) := by decide +kernel
theorem dX9_reads_46 : decode cX9_reads 46 = .ok (.iload_n 1, 1) := by decide +kernel
theorem dX9_reads_47 : decode cX9_reads 47 = .ok (.aload_n 0, 1) := by decide +kernel
theorem dX9_reads_48 : decode cX9_reads 48 = .ok (.invokevirtual 229, 3) := by decide +kernel
theorem dX9_reads_51 : decode cX9_reads 51 = .ok (.iastore, 1) := by decide +kernel
theorem dX9_reads_52 : decode cX9_reads 52 = .ok (.aload_n 0, 1) := by decide +kernel
theorem dX9_reads_53 : decode cX9_reads 53 = .ok (.getfield 37, 3) := by decide +kernel
theorem dX9_reads_56 : decode cX9_reads 56 = .ok (.iload_n 1, 1) := by decide +kernel
theorem dX9_reads_57 : decode cX9_reads 57 = .ok (.aload_n 0, 1) := by decide +kernel
theorem dX9_reads_58 : decode cX9_reads 58 = .ok (.invokevirtual 229, 3) := by decide +kernel
theorem dX9_reads_61 : decode cX9_reads 61 = .ok (.iastore, 1) := by decide +kernel
theorem dX9_reads_62 : decode cX9_reads 62 = .ok (.aload_n 0, 1) := by decide +kernel
theorem dX9_reads_63 : decode cX9_reads 63 = .ok (.getfield 225, 3) := by decide +kernel
theorem dX9_reads_66 : decode cX9_reads 66 = .ok (.ifCond .ne 66, 3) := by decide +kernel
theorem dX9_reads_69 : decode cX9_reads 69 = .ok (.aload_n 0, 1) := by decide +kernel
theorem dX9_reads_70 : decode cX9_reads 70 = .ok (.getfield 28, 3) := by decide +kernel
theorem dX9_reads_73 : decode cX9_reads 73 = .ok (.iload_n 1, 1) := by decide +kernel
theorem dX9_reads_74 : decode cX9_reads 74 = .ok (.iaload, 1) := by decide +kernel
theorem dX9_reads_75 : decode cX9_reads 75 = .ok (.i2l, 1) := by decide +kernel
theorem dX9_reads_76 : decode cX9_reads 76 = .ok (.ldc2_w 211, 3) := by decide +kernel
theorem dX9_reads_79 : decode cX9_reads 79 = .ok (.ldc2_w 87, 3) := by decide +kernel
theorem dX9_reads_82 : decode cX9_reads 82 = .ok (.invokestatic 89, 3) := by decide +kernel
theorem dX9_reads_85 : decode cX9_reads 85 = .ok (.ifCond .eq 47, 3) := by decide +kernel
theorem dX9_reads_88 : decode cX9_reads 88 = .ok (.aload_n 0, 1) := by decide +kernel
theorem dX9_reads_89 : decode cX9_reads 89 = .ok (.getfield 31, 3) := by decide +kernel
theorem dX9_reads_92 : decode cX9_reads 92 = .ok (.iload_n 1, 1) := by decide +kernel
theorem dX9_reads_93 : decode cX9_reads 93 = .ok (.iaload, 1) := by decide +kernel
theorem dX9_reads_94 : decode cX9_reads 94 = .ok (.iconst 2, 1) := by decide +kernel
theorem dX9_reads_95 : decode cX9_reads 95 = .ok (.if_icmp .gt 37, 3) := by decide +kernel
theorem dX9_reads_98 : decode cX9_reads 98 = .ok (.aload_n 0, 1) := by decide +kernel
theorem dX9_reads_99 : decode cX9_reads 99 = .ok (.getfield 34, 3) := by decide +kernel
theorem dX9_reads_102 : decode cX9_reads 102 = .ok (.iload_n 1, 1) := by decide +kernel
theorem dX9_reads_103 : decode cX9_reads 103 = .ok (.iaload, 1) := by decide +kernel
theorem dX9_reads_104 : decode cX9_reads 104 = .ok (.i2l, 1) := by decide +kernel
theorem dX9_reads_105 : decode cX9_reads 105 = .ok (.lconst 1, 1) := by decide +kernel
theorem dX9_reads_106 : decode cX9_reads 106 = .ok (.ldc2_w 239, 3) := by decide +kernel
theorem dX9_reads_109 : decode cX9_reads 109 = .ok (.invokestatic 89, 3) := by decide +kernel
theorem dX9_reads_112 : decode cX9_reads 112 = .ok (.ifCond .eq 20, 3) := by decide +kernel
theorem dX9_reads_115 : decode cX9_reads 115 = .ok (.aload_n 0, 1) := by decide +kernel
theorem dX9_reads_116 : decode cX9_reads 116 = .ok (.getfield 37, 3) := by decide +kernel
theorem dX9_reads_119 : decode cX9_reads 119 = .ok (.iload_n 1, 1) := by decide +kernel
theorem dX9_reads_120 : decode cX9_reads 120 = .ok (.iaload, 1) := by decide +kernel
theorem dX9_reads_121 : decode cX9_reads 121 = .ok (.i2l, 1) := by decide +kernel
theorem dX9_reads_122 : decode cX9_reads 122 = .ok (.lconst 1, 1) := by decide +kernel
theorem dX9_reads_123 : decode cX9_reads 123 = .ok (.ldc2_w 241, 3) := by decide +kernel
theorem dX9_reads_126 : decode cX9_reads 126 = .ok (.invokestatic 89, 3) := by decide +kernel
theorem dX9_reads_129 : decode cX9_reads 129 = .ok (.ifCond .ne 5, 3) := by decide +kernel
theorem dX9_reads_132 : decode cX9_reads 132 = .ok (.iconst 0, 1) := by decide +kernel
theorem dX9_reads_133 : decode cX9_reads 133 = .ok (.ireturn, 1) := by decide +kernel
theorem dX9_reads_134 : decode cX9_reads 134 = .ok (.iconst 0, 1) := by decide +kernel
theorem dX9_reads_135 : decode cX9_reads 135 = .ok (.istore_n 2, 1) := by decide +kernel
theorem dX9_reads_136 : decode cX9_reads 136 = .ok (.iload_n 2, 1) := by decide +kernel
theorem dX9_reads_137 : decode cX9_reads 137 = .ok (.sipush 2560, 3) := by decide +kernel
theorem dX9_reads_140 : decode cX9_reads 140 = .ok (.if_icmp .ge 22, 3) := by decide +kernel
theorem dX9_reads_143 : decode cX9_reads 143 = .ok (.aload_n 0, 1) := by decide +kernel
theorem dX9_reads_144 : decode cX9_reads 144 = .ok (.getfield 43, 3) := by decide +kernel
theorem dX9_reads_147 : decode cX9_reads 147 = .ok (.sipush 2560, 3) := by decide +kernel
theorem dX9_reads_150 : decode cX9_reads 150 = .ok (.iload_n 1, 1) := by decide +kernel
theorem dX9_reads_151 : decode cX9_reads 151 = .ok (.imul, 1) := by decide +kernel
theorem dX9_reads_152 : decode cX9_reads 152 = .ok (.iload_n 2, 1) := by decide +kernel
theorem dX9_reads_153 : decode cX9_reads 153 = .ok (.iadd, 1) := by decide +kernel
theorem dX9_reads_154 : decode cX9_reads 154 = .ok (.iconst 0, 1) := by decide +kernel
theorem dX9_reads_155 : decode cX9_reads 155 = .ok (.iastore, 1) := by decide +kernel
theorem dX9_reads_156 : decode cX9_reads 156 = .ok (.iinc 2 1, 3) := by decide +kernel
theorem dX9_reads_159 : decode cX9_reads 159 = .ok (.goto (-23), 3) := by decide +kernel
theorem dX9_reads_162 : decode cX9_reads 162 = .ok (.iconst 0, 1) := by decide +kernel
theorem dX9_reads_163 : decode cX9_reads 163 = .ok (.istore_n 2, 1) := by decide +kernel
theorem dX9_reads_164 : decode cX9_reads 164 = .ok (.iconst 0, 1) := by decide +kernel
theorem dX9_reads_165 : decode cX9_reads 165 = .ok (.istore_n 3, 1) := by decide +kernel
theorem dX9_reads_166 : decode cX9_reads 166 = .ok (.iload_n 3, 1) := by decide +kernel
theorem dX9_reads_167 : decode cX9_reads 167 = .ok (.aload_n 0, 1) := by decide +kernel
theorem dX9_reads_168 : decode cX9_reads 168 = .ok (.getfield 37, 3) := by decide +kernel
theorem dX9_reads_171 : decode cX9_reads 171 = .ok (.iload_n 1, 1) := by decide +kernel
theorem dX9_reads_172 : decode cX9_reads 172 = .ok (.iaload, 1) := by decide +kernel
theorem dX9_reads_173 : decode cX9_reads 173 = .ok (.if_icmp .ge 29, 3) := by decide +kernel
theorem dX9_reads_176 : decode cX9_reads 176 = .ok (.aload_n 0, 1) := by decide +kernel
theorem dX9_reads_177 : decode cX9_reads 177 = .ok (.iload_n 1, 1) := by decide +kernel
theorem dX9_reads_178 : decode cX9_reads 178 = .ok (.iload_n 3, 1) := by decide +kernel
theorem dX9_reads_179 : decode cX9_reads 179 = .ok (.invokevirtual 243, 3) := by decide +kernel
theorem dX9_reads_182 : decode cX9_reads 182 = .ok (.istore 4, 2) := by decide +kernel
theorem dX9_reads_184 : decode cX9_reads 184 = .ok (.iload 4, 2) := by decide +kernel
theorem dX9_reads_186 : decode cX9_reads 186 = .ok (.ifCond .ge 5, 3) := by decide +kernel
theorem dX9_reads_189 : decode cX9_reads 189 = .ok (.iconst 0, 1) := by decide +kernel
theorem dX9_reads_190 : decode cX9_reads 190 = .ok (.ireturn, 1) := by decide +kernel
theorem dX9_reads_191 : decode cX9_reads 191 = .ok (.iload_n 2, 1) := by decide +kernel
theorem dX9_reads_192 : decode cX9_reads 192 = .ok (.iload 4, 2) := by decide +kernel
theorem dX9_reads_194 : decode cX9_reads 194 = .ok (.iadd, 1) := by decide +kernel
theorem dX9_reads_195 : decode cX9_reads 195 = .ok (.istore_n 2, 1) := by decide +kernel
theorem dX9_reads_196 : decode cX9_reads 196 = .ok (.iinc 3 1, 3) := by decide +kernel
theorem dX9_reads_199 : decode cX9_reads 199 = .ok (.goto (-33), 3) := by decide +kernel
theorem dX9_reads_202 : decode cX9_reads 202 = .ok (.iload_n 2, 1) := by decide +kernel
theorem dX9_reads_203 : decode cX9_reads 203 = .ok (.sipush 600, 3) := by decide +kernel
theorem dX9_reads_206 : decode cX9_reads 206 = .ok (.if_icmp .le 5, 3) := by decide +kernel
theorem dX9_reads_209 : decode cX9_reads 209 = .ok (.iconst 0, 1) := by decide +kernel
theorem dX9_reads_210 : decode cX9_reads 210 = .ok (.ireturn, 1) := by decide +kernel
theorem dX9_reads_211 : decode cX9_reads 211 = .ok (.aload_n 0, 1) := by decide +kernel
theorem dX9_reads_212 : decode cX9_reads 212 = .ok (.iload_n 1, 1) := by decide +kernel
theorem dX9_reads_213 : decode cX9_reads 213 = .ok (.invokevirtual 216, 3) := by decide +kernel
theorem dX9_reads_216 : decode cX9_reads 216 = .ok (.aload_n 0, 1) := by decide +kernel
theorem dX9_reads_217 : decode cX9_reads 217 = .ok (.getfield 168, 3) := by decide +kernel
theorem dX9_reads_220 : decode cX9_reads 220 = .ok (.aload_n 0, 1) := by decide +kernel
theorem dX9_reads_221 : decode cX9_reads 221 = .ok (.getfield 219, 3) := by decide +kernel
theorem dX9_reads_224 : decode cX9_reads 224 = .ok (.if_icmp .ne 7, 3) := by decide +kernel
theorem dX9_reads_227 : decode cX9_reads 227 = .ok (.iconst 1, 1) := by decide +kernel
theorem dX9_reads_228 : decode cX9_reads 228 = .ok (.goto 4, 3) := by decide +kernel
theorem dX9_reads_231 : decode cX9_reads 231 = .ok (.iconst 0, 1) := by decide +kernel
theorem dX9_reads_232 : decode cX9_reads 232 = .ok (.istore_n 3, 1) := by decide +kernel
theorem dX9_reads_233 : decode cX9_reads 233 = .ok (.iconst 0, 1) := by decide +kernel
theorem dX9_reads_234 : decode cX9_reads 234 = .ok (.istore 4, 2) := by decide +kernel
theorem dX9_reads_236 : decode cX9_reads 236 = .ok (.iload 4, 2) := by decide +kernel
theorem dX9_reads_238 : decode cX9_reads 238 = .ok (.aload_n 0, 1) := by decide +kernel
theorem dX9_reads_239 : decode cX9_reads 239 = .ok (.getfield 168, 3) := by decide +kernel
theorem dX9_reads_242 : decode cX9_reads 242 = .ok (.if_icmp .ge 36, 3) := by decide +kernel
theorem dX9_reads_245 : decode cX9_reads 245 = .ok (.iload_n 3, 1) := by decide +kernel
theorem dX9_reads_246 : decode cX9_reads 246 = .ok (.ifCond .eq 32, 3) := by decide +kernel
theorem dX9_reads_249 : decode cX9_reads 249 = .ok (.aload_n 0, 1) := by decide +kernel
theorem dX9_reads_250 : decode cX9_reads 250 = .ok (.getfield 59, 3) := by decide +kernel
theorem dX9_reads_253 : decode cX9_reads 253 = .ok (.iload 4, 2) := by decide +kernel
theorem dX9_reads_255 : decode cX9_reads 255 = .ok (.iaload, 1) := by decide +kernel
theorem dX9_reads_256 : decode cX9_reads 256 = .ok (.aload_n 0, 1) := by decide +kernel
theorem dX9_reads_257 : decode cX9_reads 257 = .ok (.getfield 56, 3) := by decide +kernel
theorem dX9_reads_260 : decode cX9_reads 260 = .ok (.iload 4, 2) := by decide +kernel
theorem dX9_reads_262 : decode cX9_reads 262 = .ok (.iaload, 1) := by decide +kernel
theorem dX9_reads_263 : decode cX9_reads 263 = .ok (.if_icmp .ne 7, 3) := by decide +kernel
theorem dX9_reads_266 : decode cX9_reads 266 = .ok (.iconst 1, 1) := by decide +kernel
theorem dX9_reads_267 : decode cX9_reads 267 = .ok (.goto 4, 3) := by decide +kernel
theorem dX9_reads_270 : decode cX9_reads 270 = .ok (.iconst 0, 1) := by decide +kernel
theorem dX9_reads_271 : decode cX9_reads 271 = .ok (.istore_n 3, 1) := by decide +kernel
theorem dX9_reads_272 : decode cX9_reads 272 = .ok (.iinc 4 1, 3) := by decide +kernel
theorem dX9_reads_275 : decode cX9_reads 275 = .ok (.goto (-39), 3) := by decide +kernel
theorem dX9_reads_278 : decode cX9_reads 278 = .ok (.iload_n 3, 1) := by decide +kernel
theorem dX9_reads_279 : decode cX9_reads 279 = .ok (.ireturn, 1) := by decide +kernel
theorem dX9_readsTerm_0 : decode cX9_readsTerm 0 = .ok (.aload_n 0, 1) := by decide +kernel
theorem dX9_readsTerm_1 : decode cX9_readsTerm 1 = .ok (.invokevirtual 229, 3) := by decide +kernel
theorem dX9_readsTerm_4 : decode cX9_readsTerm 4 = .ok (.istore_n 3, 1) := by decide +kernel
theorem dX9_readsTerm_5 : decode cX9_readsTerm 5 = .ok (.aload_n 0, 1) := by decide +kernel
theorem dX9_readsTerm_6 : decode cX9_readsTerm 6 = .ok (.getfield 225, 3) := by decide +kernel
theorem dX9_readsTerm_9 : decode cX9_readsTerm 9 = .ok (.ifCond .ne 15, 3) := by decide +kernel
theorem dX9_readsTerm_12 : decode cX9_readsTerm 12 = .ok (.iload_n 3, 1) := by decide +kernel
theorem dX9_readsTerm_13 : decode cX9_readsTerm 13 = .ok (.i2l, 1) := by decide +kernel
theorem dX9_readsTerm_14 : decode cX9_readsTerm 14 = .ok (.lconst 1, 1) := by decide +kernel
theorem dX9_readsTerm_15 : decode cX9_readsTerm 15 = .ok (.ldc2_w 87, 3) := by decide +kernel
theorem dX9_readsTerm_18 : decode cX9_readsTerm 18 = .ok (.invokestatic 89, 3) := by decide +kernel
theorem dX9_readsTerm_21 : decode cX9_readsTerm 21 = .ok (.ifCond .ne 5, 3) := by decide +kernel
theorem dX9_readsTerm_24 : decode cX9_readsTerm 24 = .ok (.iconst (-1), 1) := by decide +kernel
theorem dX9_readsTerm_25 : decode cX9_readsTerm 25 = .ok (.ireturn, 1) := by decide +kernel
theorem dX9_readsTerm_26 : decode cX9_readsTerm 26 = .ok (.iconst 0, 1) := by decide +kernel
theorem dX9_readsTerm_27 : decode cX9_readsTerm 27 = .ok (.istore 4, 2) := by decide +kernel
theorem dX9_readsTerm_29 : decode cX9_readsTerm 29 = .ok (.iload 4, 2) := by decide +kernel
theorem dX9_readsTerm_31 : decode cX9_readsTerm 31 = .ok (.bipush 8, 2) := by decide +kernel
theorem dX9_readsTerm_33 : decode cX9_readsTerm 33 = .ok (.if_icmp .ge 77, 3) := by decide +kernel
theorem dX9_readsTerm_36 : decode cX9_readsTerm 36 = .ok (.iload 4, 2) := by decide +kernel
theorem dX9_readsTerm_38 : decode cX9_readsTerm 38 = .ok (.iload_n 3, 1) := by decide +kernel
theorem dX9_readsTerm_39 : decode cX9_readsTerm 39 = .ok (.if_icmp .ge 10, 3) := by decide +kernel
theorem dX9_readsTerm_42 : decode cX9_readsTerm 42 = .ok (.aload_n 0, 1) := by decide +kernel
theorem dX9_readsTerm_43 : decode cX9_readsTerm 43 = .ok (.invokevirtual 229, 3) := by decide +kernel
theorem dX9_readsTerm_46 : decode cX9_readsTerm 46 = .ok (.goto 4, 3) := by decide +kernel
theorem dX9_readsTerm_49 : decode cX9_readsTerm 49 = .ok (.iconst 0, 1) := by decide +kernel
theorem dX9_readsTerm_50 : decode cX9_readsTerm 50 = .ok (.istore 5, 2) := by decide +kernel
theorem dX9_readsTerm_52 : decode cX9_readsTerm 52 = .ok (.iload 4, 2) := by decide +kernel
theorem dX9_readsTerm_54 : decode cX9_readsTerm 54 = .ok (.iload_n 3, 1) := by decide +kernel
theorem dX9_readsTerm_55 : decode cX9_readsTerm 55 = .ok (.if_icmp .ge 20, 3) := by decide +kernel
theorem dX9_readsTerm_58 : decode cX9_readsTerm 58 = .ok (.iload 5, 2) := by decide +kernel
theorem dX9_readsTerm_60 : decode cX9_readsTerm 60 = .ok (.i2l, 1) := by decide +kernel
theorem dX9_readsTerm_61 : decode cX9_readsTerm 61 = .ok (.ldc2_w 246, 3) := by decide +kernel
theorem dX9_readsTerm_64 : decode cX9_readsTerm 64 = .ok (.ldc2_w 248, 3) := by decide +kernel
theorem dX9_readsTerm_67 : decode cX9_readsTerm 67 = .ok (.invokestatic 89, 3) := by decide +kernel
theorem dX9_readsTerm_70 : decode cX9_readsTerm 70 = .ok (.ifCond .ne 5, 3) := by decide +kernel
theorem dX9_readsTerm_73 : decode cX9_readsTerm 73 = .ok (.iconst (-1), 1) := by decide +kernel
theorem dX9_readsTerm_74 : decode cX9_readsTerm 74 = .ok (.ireturn, 1) := by decide +kernel
theorem dX9_readsTerm_75 : decode cX9_readsTerm 75 = .ok (.aload_n 0, 1) := by decide +kernel
theorem dX9_readsTerm_76 : decode cX9_readsTerm 76 = .ok (.getfield 40, 3) := by decide +kernel
theorem dX9_readsTerm_79 : decode cX9_readsTerm 79 = .ok (.sipush 512, 3) := by decide +kernel
theorem dX9_readsTerm_82 : decode cX9_readsTerm 82 = .ok (.iload_n 1, 1) := by decide +kernel
theorem dX9_readsTerm_83 : decode cX9_readsTerm 83 = .ok (.imul, 1) := by decide +kernel
theorem dX9_readsTerm_84 : decode cX9_readsTerm 84 = .ok (.bipush 8, 2) := by decide +kernel
theorem dX9_readsTerm_86 : decode cX9_readsTerm 86 = .ok (.iload_n 2, 1) := by decide +kernel
theorem dX9_readsTerm_87 : decode cX9_readsTerm 87 = .ok (.imul, 1) := by decide +kernel
theorem dX9_readsTerm_88 : decode cX9_readsTerm 88 = .ok (.iadd, 1) := by decide +kernel
theorem dX9_readsTerm_89 : decode cX9_readsTerm 89 = .ok (.iload 4, 2) := by decide +kernel
theorem dX9_readsTerm_91 : decode cX9_readsTerm 91 = .ok (.iadd, 1) := by decide +kernel
theorem dX9_readsTerm_92 : decode cX9_readsTerm 92 = .ok (.iload 5, 2) := by decide +kernel
theorem dX9_readsTerm_94 : decode cX9_readsTerm 94 = .ok (.iastore, 1) := by decide +kernel
theorem dX9_readsTerm_95 : decode cX9_readsTerm 95 = .ok (.aload_n 0, 1) := by decide +kernel
theorem dX9_readsTerm_96 : decode cX9_readsTerm 96 = .ok (.getfield 13, 3) := by decide +kernel
theorem dX9_readsTerm_99 : decode cX9_readsTerm 99 = .ok (.iload 4, 2) := by decide +kernel
theorem dX9_readsTerm_101 : decode cX9_readsTerm 101 = .ok (.iload 5, 2) := by decide +kernel
theorem dX9_readsTerm_103 : decode cX9_readsTerm 103 = .ok (.iastore, 1) := by decide +kernel
theorem dX9_readsTerm_104 : decode cX9_readsTerm 104 = .ok (.iinc 4 1, 3) := by decide +kernel
theorem dX9_readsTerm_107 : decode cX9_readsTerm 107 = .ok (.goto (-78), 3) := by decide +kernel
theorem dX9_readsTerm_110 : decode cX9_readsTerm 110 = .ok (.iload_n 2, 1) := by decide +kernel
theorem dX9_readsTerm_111 : decode cX9_readsTerm 111 = .ok (.ifCond .le 28, 3) := by decide +kernel
theorem dX9_readsTerm_114 : decode cX9_readsTerm 114 = .ok (.aload_n 0, 1) := by decide +kernel
theorem dX9_readsTerm_115 : decode cX9_readsTerm 115 = .ok (.aload_n 0, 1) := by decide +kernel
theorem dX9_readsTerm_116 : decode cX9_readsTerm 116 = .ok (.getfield 40, 3) := by decide +kernel
theorem dX9_readsTerm_119 : decode cX9_readsTerm 119 = .ok (.sipush 512, 3) := by decide +kernel
theorem dX9_readsTerm_122 : decode cX9_readsTerm 122 = .ok (.iload_n 1, 1) := by decide +kernel
theorem dX9_readsTerm_123 : decode cX9_readsTerm 123 = .ok (.imul, 1) := by decide +kernel
theorem dX9_readsTerm_124 : decode cX9_readsTerm 124 = .ok (.bipush 8, 2) := by decide +kernel
theorem dX9_readsTerm_126 : decode cX9_readsTerm 126 = .ok (.iload_n 2, 1) := by decide +kernel
theorem dX9_readsTerm_127 : decode cX9_readsTerm 127 = .ok (.iconst 1, 1) := by decide +kernel
theorem dX9_readsTerm_128 : decode cX9_readsTerm 128 = .ok (.isub, 1) := by decide +kernel
theorem dX9_readsTerm_129 : decode cX9_readsTerm 129 = .ok (.imul, 1) := by decide +kernel
theorem dX9_readsTerm_130 : decode cX9_readsTerm 130 = .ok (.iadd, 1) := by decide +kernel
theorem dX9_readsTerm_131 : decode cX9_readsTerm 131 = .ok (.invokevirtual 109, 3) := by decide +kernel
theorem dX9_readsTerm_134 : decode cX9_readsTerm 134 = .ok (.ifCond .gt 5, 3) := by decide +kernel
theorem dX9_readsTerm_137 : decode cX9_readsTerm 137 = .ok (.iconst (-1), 1) := by decide +kernel
theorem dX9_readsTerm_138 : decode cX9_readsTerm 138 = .ok (.ireturn, 1) := by decide +kernel
theorem dX9_readsTerm_139 : decode cX9_readsTerm 139 = .ok (.aload_n 0, 1) := by decide +kernel
theorem dX9_readsTerm_140 : decode cX9_readsTerm 140 = .ok (.invokevirtual 229, 3) := by decide +kernel
theorem dX9_readsTerm_143 : decode cX9_readsTerm 143 = .ok (.istore 4, 2) := by decide +kernel
theorem dX9_readsTerm_145 : decode cX9_readsTerm 145 = .ok (.iconst 0, 1) := by decide +kernel
theorem dX9_readsTerm_146 : decode cX9_readsTerm 146 = .ok (.istore 5, 2) := by decide +kernel
theorem dX9_readsTerm_148 : decode cX9_readsTerm 148 = .ok (.aload_n 0, 1) := by decide +kernel
theorem dX9_readsTerm_149 : decode cX9_readsTerm 149 = .ok (.getfield 225, 3) := by decide +kernel
theorem dX9_readsTerm_152 : decode cX9_readsTerm 152 = .ok (.ifCond .ne 8, 3) := by decide +kernel
theorem dX9_readsTerm_155 : decode cX9_readsTerm 155 = .ok (.iload 4, 2) := by decide +kernel
theorem dX9_readsTerm_157 : decode cX9_readsTerm 157 = .ok (.ifCond .ne 5, 3) := by decide +kernel
theorem dX9_readsTerm_160 : decode cX9_readsTerm 160 = .ok (.iconst (-1), 1) := by decide +kernel
theorem dX9_readsTerm_161 : decode cX9_readsTerm 161 = .ok (.ireturn, 1) := by decide +kernel
theorem dX9_readsTerm_162 : decode cX9_readsTerm 162 = .ok (.iconst 0, 1) := by decide +kernel
theorem dX9_readsTerm_163 : decode cX9_readsTerm 163 = .ok (.istore 6, 2) := by decide +kernel
theorem dX9_readsTerm_165 : decode cX9_readsTerm 165 = .ok (.iload 6, 2) := by decide +kernel
theorem dX9_readsTerm_167 : decode cX9_readsTerm 167 = .ok (.iload 4, 2) := by decide +kernel
theorem dX9_readsTerm_169 : decode cX9_readsTerm 169 = .ok (.if_icmp .ge 170, 3) := by decide +kernel
theorem dX9_readsTerm_172 : decode cX9_readsTerm 172 = .ok (.aload_n 0, 1) := by decide +kernel
theorem dX9_readsTerm_173 : decode cX9_readsTerm 173 = .ok (.invokevirtual 229, 3) := by decide +kernel
theorem dX9_readsTerm_176 : decode cX9_readsTerm 176 = .ok (.istore 7, 2) := by decide +kernel
theorem dX9_readsTerm_178 : decode cX9_readsTerm 178 = .ok (.aload_n 0, 1) := by decide +kernel
theorem dX9_readsTerm_179 : decode cX9_readsTerm 179 = .ok (.invokevirtual 229, 3) := by decide +kernel
theorem dX9_readsTerm_182 : decode cX9_readsTerm 182 = .ok (.istore 8, 2) := by decide +kernel
theorem dX9_readsTerm_184 : decode cX9_readsTerm 184 = .ok (.aload_n 0, 1) := by decide +kernel
theorem dX9_readsTerm_185 : decode cX9_readsTerm 185 = .ok (.getfield 225, 3) := by decide +kernel
theorem dX9_readsTerm_188 : decode cX9_readsTerm 188 = .ok (.ifCond .ne 38, 3) := by decide +kernel
theorem dX9_readsTerm_191 : decode cX9_readsTerm 191 = .ok (.iload 7, 2) := by decide +kernel
theorem dX9_readsTerm_193 : decode cX9_readsTerm 193 = .ok (.ifCond .eq 33, 3) := by decide +kernel
theorem dX9_readsTerm_196 : decode cX9_readsTerm 196 = .ok (.iload 7, 2) := by decide +kernel
theorem dX9_readsTerm_198 : decode cX9_readsTerm 198 = .ok (.iconst 1, 1) := by decide +kernel
theorem dX9_readsTerm_199 : decode cX9_readsTerm 199 = .ok (.aload_n 0, 1) := by decide +kernel
theorem dX9_readsTerm_200 : decode cX9_readsTerm 200 = .ok (.getfield 28, 3) := by decide +kernel
theorem dX9_readsTerm_203 : decode cX9_readsTerm 203 = .ok (.iload_n 1, 1) := by decide +kernel
theorem dX9_readsTerm_204 : decode cX9_readsTerm 204 = .ok (.iaload, 1) := by decide +kernel
theorem dX9_readsTerm_205 : decode cX9_readsTerm 205 = .ok (.ishl, 1) := by decide +kernel
theorem dX9_readsTerm_206 : decode cX9_readsTerm 206 = .ok (.if_icmp .ge 20, 3) := by decide +kernel
theorem dX9_readsTerm_209 : decode cX9_readsTerm 209 = .ok (.iload 8, 2) := by decide +kernel
theorem dX9_readsTerm_211 : decode cX9_readsTerm 211 = .ok (.i2l, 1) := by decide +kernel
theorem dX9_readsTerm_212 : decode cX9_readsTerm 212 = .ok (.lconst 1, 1) := by decide +kernel
theorem dX9_readsTerm_213 : decode cX9_readsTerm 213 = .ok (.aload_n 0, 1) := by decide +kernel
theorem dX9_readsTerm_214 : decode cX9_readsTerm 214 = .ok (.getfield 34, 3) := by decide +kernel
theorem dX9_readsTerm_217 : decode cX9_readsTerm 217 = .ok (.iload_n 1, 1) := by decide +kernel
theorem dX9_readsTerm_218 : decode cX9_readsTerm 218 = .ok (.iaload, 1) := by decide +kernel
theorem dX9_readsTerm_219 : decode cX9_readsTerm 219 = .ok (.i2l, 1) := by decide +kernel
theorem dX9_readsTerm_220 : decode cX9_readsTerm 220 = .ok (.invokestatic 89, 3) := by decide +kernel
theorem dX9_readsTerm_223 : decode cX9_readsTerm 223 = .ok (.ifCond .ne 5, 3) := by decide +kernel
theorem dX9_readsTerm_226 : decode cX9_readsTerm 226 = .ok (.iconst (-1), 1) := by decide +kernel
theorem dX9_readsTerm_227 : decode cX9_readsTerm 227 = .ok (.ireturn, 1) := by decide +kernel
theorem dX9_readsTerm_228 : decode cX9_readsTerm 228 = .ok (.aload_n 0, 1) := by decide +kernel
theorem dX9_readsTerm_229 : decode cX9_readsTerm 229 = .ok (.aload_n 0, 1) := by decide +kernel
theorem dX9_readsTerm_230 : decode cX9_readsTerm 230 = .ok (.getfield 31, 3) := by decide +kernel
theorem dX9_readsTerm_233 : decode cX9_readsTerm 233 = .ok (.iload_n 1, 1) := by decide +kernel
theorem dX9_readsTerm_234 : decode cX9_readsTerm 234 = .ok (.iaload, 1) := by decide +kernel
theorem dX9_readsTerm_235 : decode cX9_readsTerm 235 = .ok (.iload 8, 2) := by decide +kernel
theorem dX9_readsTerm_237 : decode cX9_readsTerm 237 = .ok (.invokevirtual 250, 3) := by decide +kernel
theorem dX9_readsTerm_240 : decode cX9_readsTerm 240 = .ok (.aload_n 0, 1) := by decide +kernel
theorem dX9_readsTerm_241 : decode cX9_readsTerm 241 = .ok (.getfield 225, 3) := by decide +kernel
theorem dX9_readsTerm_244 : decode cX9_readsTerm 244 = .ok (.ifCond .eq 5, 3) := by decide +kernel
theorem dX9_readsTerm_247 : decode cX9_readsTerm 247 = .ok (.iconst (-1), 1) := by decide +kernel
theorem dX9_readsTerm_248 : decode cX9_readsTerm 248 = .ok (.ireturn, 1) := by decide +kernel
theorem dX9_readsTerm_249 : decode cX9_readsTerm 249 = .ok (.iconst (-1), 1) := by decide +kernel
theorem dX9_readsTerm_250 : decode cX9_readsTerm 250 = .ok (.istore 9, 2) := by decide +kernel
theorem dX9_readsTerm_252 : decode cX9_readsTerm 252 = .ok (.iconst 0, 1) := by decide +kernel
theorem dX9_readsTerm_253 : decode cX9_readsTerm 253 = .ok (.istore 10, 2) := by decide +kernel
theorem dX9_readsTerm_255 : decode cX9_readsTerm 255 = .ok (.iload 10, 2) := by decide +kernel
theorem dX9_readsTerm_257 : decode cX9_readsTerm 257 = .ok (.iload 8, 2) := by decide +kernel
theorem dX9_readsTerm_259 : decode cX9_readsTerm 259 = .ok (.if_icmp .ge 67, 3) := by decide +kernel
theorem dX9_readsTerm_262 : decode cX9_readsTerm 262 = .ok (.iload 9, 2) := by decide +kernel
theorem dX9_readsTerm_264 : decode cX9_readsTerm 264 = .ok (.iconst 1, 1) := by decide +kernel
theorem dX9_readsTerm_265 : decode cX9_readsTerm 265 = .ok (.aload_n 0, 1) := by decide +kernel
theorem dX9_readsTerm_266 : decode cX9_readsTerm 266 = .ok (.getfield 62, 3) := by decide +kernel
theorem dX9_readsTerm_269 : decode cX9_readsTerm 269 = .ok (.iload 10, 2) := by decide +kernel
theorem dX9_readsTerm_271 : decode cX9_readsTerm 271 = .ok (.iaload, 1) := by decide +kernel
theorem dX9_readsTerm_272 : decode cX9_readsTerm 272 = .ok (.iadd, 1) := by decide +kernel
theorem dX9_readsTerm_273 : decode cX9_readsTerm 273 = .ok (.iadd, 1) := by decide +kernel
theorem dX9_readsTerm_274 : decode cX9_readsTerm 274 = .ok (.istore 9, 2) := by decide +kernel
theorem dX9_readsTerm_276 : decode cX9_readsTerm 276 = .ok (.iload 9, 2) := by decide +kernel
theorem dX9_readsTerm_278 : decode cX9_readsTerm 278 = .ok (.aload_n 0, 1) := by decide +kernel
theorem dX9_readsTerm_279 : decode cX9_readsTerm 279 = .ok (.getfield 34, 3) := by decide +kernel
theorem dX9_readsTerm_282 : decode cX9_readsTerm 282 = .ok (.iload_n 1, 1) := by decide +kernel
theorem dX9_readsTerm_283 : decode cX9_readsTerm 283 = .ok (.iaload, 1) := by decide +kernel
theorem dX9_readsTerm_284 : decode cX9_readsTerm 284 = .ok (.if_icmp .ge 19, 3) := by decide +kernel
theorem dX9_readsTerm_287 : decode cX9_readsTerm 287 = .ok (.aload_n 0, 1) := by decide +kernel
theorem dX9_readsTerm_288 : decode cX9_readsTerm 288 = .ok (.getfield 43, 3) := by decide +kernel
theorem dX9_readsTerm_291 : decode cX9_readsTerm 291 = .ok (.aload_n 0, 1) := by decide +kernel
theorem dX9_readsTerm_292 : decode cX9_readsTerm 292 = .ok (.iload_n 1, 1) := by decide +kernel
theorem dX9_readsTerm_293 : decode cX9_readsTerm 293 = .ok (.iload_n 2, 1) := by decide +kernel
theorem dX9_readsTerm_294 : decode cX9_readsTerm 294 = .ok (.iload 9, 2) := by decide +kernel
theorem dX9_readsTerm_296 : decode cX9_readsTerm 296 = .ok (.invokevirtual 162, 3) := by decide +kernel
theorem dX9_readsTerm_299 : decode cX9_readsTerm 299 = .ok (.iaload, 1) := by decide +kernel
theorem dX9_readsTerm_300 : decode cX9_readsTerm 300 = .ok (.ifCond .le 5, 3) := by decide +kernel
theorem dX9_readsTerm_303 : decode cX9_readsTerm 303 = .ok (.iconst (-1), 1) := by decide +kernel
theorem dX9_readsTerm_304 : decode cX9_readsTerm 304 = .ok (.ireturn, 1) := by decide +kernel
theorem dX9_readsTerm_305 : decode cX9_readsTerm 305 = .ok (.aload_n 0, 1) := by decide +kernel
theorem dX9_readsTerm_306 : decode cX9_readsTerm 306 = .ok (.getfield 43, 3) := by decide +kernel
theorem dX9_readsTerm_309 : decode cX9_readsTerm 309 = .ok (.aload_n 0, 1) := by decide +kernel
theorem dX9_readsTerm_310 : decode cX9_readsTerm 310 = .ok (.iload_n 1, 1) := by decide +kernel
theorem dX9_readsTerm_311 : decode cX9_readsTerm 311 = .ok (.iload_n 2, 1) := by decide +kernel
theorem dX9_readsTerm_312 : decode cX9_readsTerm 312 = .ok (.iload 9, 2) := by decide +kernel
theorem dX9_readsTerm_314 : decode cX9_readsTerm 314 = .ok (.invokevirtual 162, 3) := by decide +kernel
theorem dX9_readsTerm_317 : decode cX9_readsTerm 317 = .ok (.iload 7, 2) := by decide +kernel
theorem dX9_readsTerm_319 : decode cX9_readsTerm 319 = .ok (.iastore, 1) := by decide +kernel
theorem dX9_readsTerm_320 : decode cX9_readsTerm 320 = .ok (.iinc 10 1, 3) := by decide +kernel
theorem dX9_readsTerm_323 : decode cX9_readsTerm 323 = .ok (.goto (-68), 3) := by decide +kernel
theorem dX9_readsTerm_326 : decode cX9_readsTerm 326 = .ok (.iload 5, 2) := by decide +kernel
theorem dX9_readsTerm_328 : decode cX9_readsTerm 328 = .ok (.iload 8, 2) := by decide +kernel
theorem dX9_readsTerm_330 : decode cX9_readsTerm 330 = .ok (.iadd, 1) := by decide +kernel
theorem dX9_readsTerm_331 : decode cX9_readsTerm 331 = .ok (.istore 5, 2) := by decide +kernel
theorem dX9_readsTerm_333 : decode cX9_readsTerm 333 = .ok (.iinc 6 1, 3) := by decide +kernel
theorem dX9_readsTerm_336 : decode cX9_readsTerm 336 = .ok (.goto (-171), 3) := by decide +kernel
theorem dX9_readsTerm_339 : decode cX9_readsTerm 339 = .ok (.iload 5, 2) := by decide +kernel
theorem dX9_readsTerm_341 : decode cX9_readsTerm 341 = .ok (.ireturn, 1) := by decide +kernel
theorem dX9_slotOf_0 : decode cX9_slotOf 0 = .ok (.iconst 0, 1) := by decide +kernel
theorem dX9_slotOf_1 : decode cX9_slotOf 1 = .ok (.istore_n 2, 1) := by decide +kernel
theorem dX9_slotOf_2 : decode cX9_slotOf 2 = .ok (.iload_n 2, 1) := by decide +kernel
theorem dX9_slotOf_3 : decode cX9_slotOf 3 = .ok (.iconst 4, 1) := by decide +kernel
theorem dX9_slotOf_4 : decode cX9_slotOf 4 = .ok (.if_icmp .ge 30, 3) := by decide +kernel
theorem dX9_slotOf_7 : decode cX9_slotOf 7 = .ok (.aload_n 0, 1) := by decide +kernel
theorem dX9_slotOf_8 : decode cX9_slotOf 8 = .ok (.getfield 49, 3) := by decide +kernel
theorem dX9_slotOf_11 : decode cX9_slotOf 11 = .ok (.iload_n 2, 1) := by decide +kernel
theorem dX9_slotOf_12 : decode cX9_slotOf 12 = .ok (.baload, 1) := by decide +kernel
theorem dX9_slotOf_13 : decode cX9_slotOf 13 = .ok (.ifCond .eq 15, 3) := by decide +kernel
theorem dX9_slotOf_16 : decode cX9_slotOf 16 = .ok (.aload_n 0, 1) := by decide +kernel
theorem dX9_slotOf_17 : decode cX9_slotOf 17 = .ok (.getfield 46, 3) := by decide +kernel
theorem dX9_slotOf_20 : decode cX9_slotOf 20 = .ok (.iload_n 2, 1) := by decide +kernel
theorem dX9_slotOf_21 : decode cX9_slotOf 21 = .ok (.iaload, 1) := by decide +kernel
theorem dX9_slotOf_22 : decode cX9_slotOf 22 = .ok (.iload_n 1, 1) := by decide +kernel
theorem dX9_slotOf_23 : decode cX9_slotOf 23 = .ok (.if_icmp .ne 5, 3) := by decide +kernel
theorem dX9_slotOf_26 : decode cX9_slotOf 26 = .ok (.iload_n 2, 1) := by decide +kernel
theorem dX9_slotOf_27 : decode cX9_slotOf 27 = .ok (.ireturn, 1) := by decide +kernel
theorem dX9_slotOf_28 : decode cX9_slotOf 28 = .ok (.iinc 2 1, 3) := by decide +kernel
theorem dX9_slotOf_31 : decode cX9_slotOf 31 = .ok (.goto (-29), 3) := by decide +kernel
theorem dX9_slotOf_34 : decode cX9_slotOf 34 = .ok (.iconst (-1), 1) := by decide +kernel
theorem dX9_slotOf_35 : decode cX9_slotOf 35 = .ok (.ireturn, 1) := by decide +kernel
theorem dX9_isHeld_0 : decode cX9_isHeld 0 = .ok (.iconst 0, 1) := by decide +kernel
theorem dX9_isHeld_1 : decode cX9_isHeld 1 = .ok (.istore_n 2, 1) := by decide +kernel
theorem dX9_isHeld_2 : decode cX9_isHeld 2 = .ok (.iconst 0, 1) := by decide +kernel
theorem dX9_isHeld_3 : decode cX9_isHeld 3 = .ok (.istore_n 3, 1) := by decide +kernel
theorem dX9_isHeld_4 : decode cX9_isHeld 4 = .ok (.iload_n 3, 1) := by decide +kernel
theorem dX9_isHeld_5 : decode cX9_isHeld 5 = .ok (.iconst 4, 1) := by decide +kernel
theorem dX9_isHeld_6 : decode cX9_isHeld 6 = .ok (.if_icmp .ge 29, 3) := by decide +kernel
theorem dX9_isHeld_9 : decode cX9_isHeld 9 = .ok (.iload_n 2, 1) := by decide +kernel
theorem dX9_isHeld_10 : decode cX9_isHeld 10 = .ok (.ifCond .ne 13, 3) := by decide +kernel
theorem dX9_isHeld_13 : decode cX9_isHeld 13 = .ok (.aload_n 0, 1) := by decide +kernel
theorem dX9_isHeld_14 : decode cX9_isHeld 14 = .ok (.getfield 53, 3) := by decide +kernel
theorem dX9_isHeld_17 : decode cX9_isHeld 17 = .ok (.iload_n 3, 1) := by decide +kernel
theorem dX9_isHeld_18 : decode cX9_isHeld 18 = .ok (.iaload, 1) := by decide +kernel
theorem dX9_isHeld_19 : decode cX9_isHeld 19 = .ok (.iload_n 1, 1) := by decide +kernel
theorem dX9_isHeld_20 : decode cX9_isHeld 20 = .ok (.if_icmp .ne 7, 3) := by decide +kernel
theorem dX9_isHeld_23 : decode cX9_isHeld 23 = .ok (.iconst 1, 1) := by decide +kernel
theorem dX9_isHeld_24 : decode cX9_isHeld 24 = .ok (.goto 4, 3) := by decide +kernel
theorem dX9_isHeld_27 : decode cX9_isHeld 27 = .ok (.iconst 0, 1) := by decide +kernel
theorem dX9_isHeld_28 : decode cX9_isHeld 28 = .ok (.istore_n 2, 1) := by decide +kernel
theorem dX9_isHeld_29 : decode cX9_isHeld 29 = .ok (.iinc 3 1, 3) := by decide +kernel
theorem dX9_isHeld_32 : decode cX9_isHeld 32 = .ok (.goto (-28), 3) := by decide +kernel
theorem dX9_isHeld_35 : decode cX9_isHeld 35 = .ok (.iload_n 2, 1) := by decide +kernel
theorem dX9_isHeld_36 : decode cX9_isHeld 36 = .ok (.ireturn, 1) := by decide +kernel
theorem dX9_keptMany_0 : decode cX9_keptMany 0 = .ok (.iconst 0, 1) := by decide +kernel
theorem dX9_keptMany_1 : decode cX9_keptMany 1 = .ok (.istore_n 1, 1) := by decide +kernel
theorem dX9_keptMany_2 : decode cX9_keptMany 2 = .ok (.iconst 0, 1) := by decide +kernel
theorem dX9_keptMany_3 : decode cX9_keptMany 3 = .ok (.istore_n 2, 1) := by decide +kernel
theorem dX9_keptMany_4 : decode cX9_keptMany 4 = .ok (.iload_n 2, 1) := by decide +kernel
theorem dX9_keptMany_5 : decode cX9_keptMany 5 = .ok (.iconst 4, 1) := by decide +kernel
theorem dX9_keptMany_6 : decode cX9_keptMany 6 = .ok (.if_icmp .ge 26, 3) := by decide +kernel
theorem dX9_keptMany_9 : decode cX9_keptMany 9 = .ok (.iload_n 1, 1) := by decide +kernel
theorem dX9_keptMany_10 : decode cX9_keptMany 10 = .ok (.aload_n 0, 1) := by decide +kernel
theorem dX9_keptMany_11 : decode cX9_keptMany 11 = .ok (.getfield 49, 3) := by decide +kernel
theorem dX9_keptMany_14 : decode cX9_keptMany 14 = .ok (.iload_n 2, 1) := by decide +kernel
theorem dX9_keptMany_15 : decode cX9_keptMany 15 = .ok (.baload, 1) := by decide +kernel
theorem dX9_keptMany_16 : decode cX9_keptMany 16 = .ok (.ifCond .eq 7, 3) := by decide +kernel
theorem dX9_keptMany_19 : decode cX9_keptMany 19 = .ok (.iconst 1, 1) := by decide +kernel
theorem dX9_keptMany_20 : decode cX9_keptMany 20 = .ok (.goto 4, 3) := by decide +kernel
theorem dX9_keptMany_23 : decode cX9_keptMany 23 = .ok (.iconst 0, 1) := by decide +kernel
theorem dX9_keptMany_24 : decode cX9_keptMany 24 = .ok (.iadd, 1) := by decide +kernel
theorem dX9_keptMany_25 : decode cX9_keptMany 25 = .ok (.istore_n 1, 1) := by decide +kernel
theorem dX9_keptMany_26 : decode cX9_keptMany 26 = .ok (.iinc 2 1, 3) := by decide +kernel
theorem dX9_keptMany_29 : decode cX9_keptMany 29 = .ok (.goto (-25), 3) := by decide +kernel
theorem dX9_keptMany_32 : decode cX9_keptMany 32 = .ok (.iload_n 1, 1) := by decide +kernel
theorem dX9_keptMany_33 : decode cX9_keptMany 33 = .ok (.ireturn, 1) := by decide +kernel
theorem dX9_publish_0 : decode cX9_publish 0 = .ok (.aload_n 0, 1) := by decide +kernel
theorem dX9_publish_1 : decode cX9_publish 1 = .ok (.aload_n 0, 1) := by decide +kernel
theorem dX9_publish_2 : decode cX9_publish 2 = .ok (.invokevirtual 253, 3) := by decide +kernel
theorem dX9_publish_5 : decode cX9_publish 5 = .ok (.ifCond .ne 7, 3) := by decide +kernel
theorem dX9_publish_8 : decode cX9_publish 8 = .ok (.iconst 1, 1) := by decide +kernel
theorem dX9_publish_9 : decode cX9_publish 9 = .ok (.goto 4, 3) := by decide +kernel
theorem dX9_publish_12 : decode cX9_publish 12 = .ok (.iconst 0, 1) := by decide +kernel
theorem dX9_publish_13 : decode cX9_publish 13 = .ok (.iconst 1, 1) := by decide +kernel
theorem dX9_publish_14 : decode cX9_publish 14 = .ok (.invokevirtual 93, 3) := by decide +kernel
theorem dX9_publish_17 : decode cX9_publish 17 = .ok (.ifCond .eq 5, 3) := by decide +kernel
theorem dX9_publish_20 : decode cX9_publish 20 = .ok (.iconst 0, 1) := by decide +kernel
theorem dX9_publish_21 : decode cX9_publish 21 = .ok (.ireturn, 1) := by decide +kernel
theorem dX9_publish_22 : decode cX9_publish 22 = .ok (.aload_n 0, 1) := by decide +kernel
theorem dX9_publish_23 : decode cX9_publish 23 = .ok (.aload_n 0, 1) := by decide +kernel
theorem dX9_publish_24 : decode cX9_publish 24 = .ok (.getfield 257, 3) := by decide +kernel
theorem dX9_publish_27 : decode cX9_publish 27 = .ok (.invokevirtual 260, 3) := by decide +kernel
theorem dX9_publish_30 : decode cX9_publish 30 = .ok (.istore_n 1, 1) := by decide +kernel
theorem dX9_publish_31 : decode cX9_publish 31 = .ok (.iload_n 1, 1) := by decide +kernel
theorem dX9_publish_32 : decode cX9_publish 32 = .ok (.ifCond .lt 18, 3) := by decide +kernel
theorem dX9_publish_35 : decode cX9_publish 35 = .ok (.aload_n 0, 1) := by decide +kernel
theorem dX9_publish_36 : decode cX9_publish 36 = .ok (.aload_n 0, 1) := by decide +kernel
theorem dX9_publish_37 : decode cX9_publish 37 = .ok (.getfield 257, 3) := by decide +kernel
theorem dX9_publish_40 : decode cX9_publish 40 = .ok (.invokevirtual 263, 3) := by decide +kernel
theorem dX9_publish_43 : decode cX9_publish 43 = .ok (.ifCond .ne 7, 3) := by decide +kernel
theorem dX9_publish_46 : decode cX9_publish 46 = .ok (.iconst 1, 1) := by decide +kernel
theorem dX9_publish_47 : decode cX9_publish 47 = .ok (.goto 4, 3) := by decide +kernel
theorem dX9_publish_50 : decode cX9_publish 50 = .ok (.iconst 0, 1) := by decide +kernel
theorem dX9_publish_51 : decode cX9_publish 51 = .ok (.istore_n 2, 1) := by decide +kernel
theorem dX9_publish_52 : decode cX9_publish 52 = .ok (.aload_n 0, 1) := by decide +kernel
theorem dX9_publish_53 : decode cX9_publish 53 = .ok (.aload_n 0, 1) := by decide +kernel
theorem dX9_publish_54 : decode cX9_publish 54 = .ok (.invokevirtual 266, 3) := by decide +kernel
theorem dX9_publish_57 : decode cX9_publish 57 = .ok (.iload_n 2, 1) := by decide +kernel
theorem dX9_publish_58 : decode cX9_publish 58 = .ok (.ifCond .eq 7, 3) := by decide +kernel
theorem dX9_publish_61 : decode cX9_publish 61 = .ok (.iconst 1, 1) := by decide +kernel
theorem dX9_publish_62 : decode cX9_publish 62 = .ok (.goto 4, 3) := by decide +kernel
theorem dX9_publish_65 : decode cX9_publish 65 = .ok (.iconst 0, 1) := by decide +kernel
theorem dX9_publish_66 : decode cX9_publish 66 = .ok (.isub, 1) := by decide +kernel
theorem dX9_publish_67 : decode cX9_publish 67 = .ok (.iconst 3, 1) := by decide +kernel
theorem dX9_publish_68 : decode cX9_publish 68 = .ok (.if_icmp .ne 7, 3) := by decide +kernel
theorem dX9_publish_71 : decode cX9_publish 71 = .ok (.iconst 1, 1) := by decide +kernel
theorem dX9_publish_72 : decode cX9_publish 72 = .ok (.goto 4, 3) := by decide +kernel
theorem dX9_publish_75 : decode cX9_publish 75 = .ok (.iconst 0, 1) := by decide +kernel
theorem dX9_publish_76 : decode cX9_publish 76 = .ok (.iconst 2, 1) := by decide +kernel
theorem dX9_publish_77 : decode cX9_publish 77 = .ok (.invokevirtual 93, 3) := by decide +kernel
theorem dX9_publish_80 : decode cX9_publish 80 = .ok (.ifCond .eq 5, 3) := by decide +kernel
theorem dX9_publish_83 : decode cX9_publish 83 = .ok (.iconst 0, 1) := by decide +kernel
theorem dX9_publish_84 : decode cX9_publish 84 = .ok (.ireturn, 1) := by decide +kernel
theorem dX9_publish_85 : decode cX9_publish 85 = .ok (.iload_n 2, 1) := by decide +kernel
theorem dX9_publish_86 : decode cX9_publish 86 = .ok (.ifCond .eq 10, 3) := by decide +kernel
theorem dX9_publish_89 : decode cX9_publish 89 = .ok (.aload_n 0, 1) := by decide +kernel
theorem dX9_publish_90 : decode cX9_publish 90 = .ok (.getfield 49, 3) := by decide +kernel
theorem dX9_publish_93 : decode cX9_publish 93 = .ok (.iload_n 1, 1) := by decide +kernel
theorem dX9_publish_94 : decode cX9_publish 94 = .ok (.iconst 0, 1) := by decide +kernel
theorem dX9_publish_95 : decode cX9_publish 95 = .ok (.bastore, 1) := by decide +kernel
theorem dX9_publish_96 : decode cX9_publish 96 = .ok (.iconst 0, 1) := by decide +kernel
theorem dX9_publish_97 : decode cX9_publish 97 = .ok (.istore_n 3, 1) := by decide +kernel
theorem dX9_publish_98 : decode cX9_publish 98 = .ok (.aload_n 0, 1) := by decide +kernel
theorem dX9_publish_99 : decode cX9_publish 99 = .ok (.getfield 49, 3) := by decide +kernel
theorem dX9_publish_102 : decode cX9_publish 102 = .ok (.iload_n 3, 1) := by decide +kernel
theorem dX9_publish_103 : decode cX9_publish 103 = .ok (.baload, 1) := by decide +kernel
theorem dX9_publish_104 : decode cX9_publish 104 = .ok (.ifCond .eq 9, 3) := by decide +kernel
theorem dX9_publish_107 : decode cX9_publish 107 = .ok (.iinc 3 1, 3) := by decide +kernel
theorem dX9_publish_110 : decode cX9_publish 110 = .ok (.goto (-12), 3) := by decide +kernel
theorem dX9_publish_113 : decode cX9_publish 113 = .ok (.aload_n 0, 1) := by decide +kernel
theorem dX9_publish_114 : decode cX9_publish 114 = .ok (.iconst 4, 1) := by decide +kernel
theorem dX9_publish_115 : decode cX9_publish 115 = .ok (.iload_n 3, 1) := by decide +kernel
theorem dX9_publish_116 : decode cX9_publish 116 = .ok (.invokevirtual 269, 3) := by decide +kernel
theorem dX9_publish_119 : decode cX9_publish 119 = .ok (.aload_n 0, 1) := by decide +kernel
theorem dX9_publish_120 : decode cX9_publish 120 = .ok (.dup, 1) := by decide +kernel
theorem dX9_publish_121 : decode cX9_publish 121 = .ok (.getfield 257, 3) := by decide +kernel
theorem dX9_publish_124 : decode cX9_publish 124 = .ok (.iconst 1, 1) := by decide +kernel
theorem dX9_publish_125 : decode cX9_publish 125 = .ok (.iadd, 1) := by decide +kernel
theorem dX9_publish_126 : decode cX9_publish 126 = .ok (.putfield 257, 3) := by decide +kernel
theorem dX9_publish_129 : decode cX9_publish 129 = .ok (.aload_n 0, 1) := by decide +kernel
theorem dX9_publish_130 : decode cX9_publish 130 = .ok (.getfield 49, 3) := by decide +kernel
theorem dX9_publish_133 : decode cX9_publish 133 = .ok (.iload_n 3, 1) := by decide +kernel
theorem dX9_publish_134 : decode cX9_publish 134 = .ok (.iconst 1, 1) := by decide +kernel
theorem dX9_publish_135 : decode cX9_publish 135 = .ok (.bastore, 1) := by decide +kernel
theorem dX9_publish_136 : decode cX9_publish 136 = .ok (.aload_n 0, 1) := by decide +kernel
theorem dX9_publish_137 : decode cX9_publish 137 = .ok (.getfield 46, 3) := by decide +kernel
theorem dX9_publish_140 : decode cX9_publish 140 = .ok (.iload_n 3, 1) := by decide +kernel
theorem dX9_publish_141 : decode cX9_publish 141 = .ok (.aload_n 0, 1) := by decide +kernel
theorem dX9_publish_142 : decode cX9_publish 142 = .ok (.getfield 257, 3) := by decide +kernel
theorem dX9_publish_145 : decode cX9_publish 145 = .ok (.iastore, 1) := by decide +kernel
theorem dX9_publish_146 : decode cX9_publish 146 = .ok (.aload_n 0, 1) := by decide +kernel
theorem dX9_publish_147 : decode cX9_publish 147 = .ok (.getfield 257, 3) := by decide +kernel
theorem dX9_publish_150 : decode cX9_publish 150 = .ok (.ireturn, 1) := by decide +kernel
theorem dX9_copies_0 : decode cX9_copies 0 = .ok (.aload_n 0, 1) := by decide +kernel
theorem dX9_copies_1 : decode cX9_copies 1 = .ok (.getfield 28, 3) := by decide +kernel
theorem dX9_copies_4 : decode cX9_copies 4 = .ok (.iload_n 2, 1) := by decide +kernel
theorem dX9_copies_5 : decode cX9_copies 5 = .ok (.aload_n 0, 1) := by decide +kernel
theorem dX9_copies_6 : decode cX9_copies 6 = .ok (.getfield 28, 3) := by decide +kernel
theorem dX9_copies_9 : decode cX9_copies 9 = .ok (.iload_n 1, 1) := by decide +kernel
theorem dX9_copies_10 : decode cX9_copies 10 = .ok (.iaload, 1) := by decide +kernel
theorem dX9_copies_11 : decode cX9_copies 11 = .ok (.iastore, 1) := by decide +kernel
theorem dX9_copies_12 : decode cX9_copies 12 = .ok (.aload_n 0, 1) := by decide +kernel
theorem dX9_copies_13 : decode cX9_copies 13 = .ok (.getfield 31, 3) := by decide +kernel
theorem dX9_copies_16 : decode cX9_copies 16 = .ok (.iload_n 2, 1) := by decide +kernel
theorem dX9_copies_17 : decode cX9_copies 17 = .ok (.aload_n 0, 1) := by decide +kernel
theorem dX9_copies_18 : decode cX9_copies 18 = .ok (.getfield 31, 3) := by decide +kernel
theorem dX9_copies_21 : decode cX9_copies 21 = .ok (.iload_n 1, 1) := by decide +kernel
theorem dX9_copies_22 : decode cX9_copies 22 = .ok (.iaload, 1) := by decide +kernel
theorem dX9_copies_23 : decode cX9_copies 23 = .ok (.iastore, 1) := by decide +kernel
theorem dX9_copies_24 : decode cX9_copies 24 = .ok (.aload_n 0, 1) := by decide +kernel
theorem dX9_copies_25 : decode cX9_copies 25 = .ok (.getfield 34, 3) := by decide +kernel
theorem dX9_copies_28 : decode cX9_copies 28 = .ok (.iload_n 2, 1) := by decide +kernel
theorem dX9_copies_29 : decode cX9_copies 29 = .ok (.aload_n 0, 1) := by decide +kernel
theorem dX9_copies_30 : decode cX9_copies 30 = .ok (.getfield 34, 3) := by decide +kernel
theorem dX9_copies_33 : decode cX9_copies 33 = .ok (.iload_n 1, 1) := by decide +kernel
theorem dX9_copies_34 : decode cX9_copies 34 = .ok (.iaload, 1) := by decide +kernel
theorem dX9_copies_35 : decode cX9_copies 35 = .ok (.iastore, 1) := by decide +kernel
theorem dX9_copies_36 : decode cX9_copies 36 = .ok (.aload_n 0, 1) := by decide +kernel
theorem dX9_copies_37 : decode cX9_copies 37 = .ok (.getfield 37, 3) := by decide +kernel
theorem dX9_copies_40 : decode cX9_copies 40 = .ok (.iload_n 2, 1) := by decide +kernel
theorem dX9_copies_41 : decode cX9_copies 41 = .ok (.aload_n 0, 1) := by decide +kernel
theorem dX9_copies_42 : decode cX9_copies 42 = .ok (.getfield 37, 3) := by decide +kernel
theorem dX9_copies_45 : decode cX9_copies 45 = .ok (.iload_n 1, 1) := by decide +kernel
theorem dX9_copies_46 : decode cX9_copies 46 = .ok (.iaload, 1) := by decide +kernel
theorem dX9_copies_47 : decode cX9_copies 47 = .ok (.iastore, 1) := by decide +kernel
theorem dX9_copies_48 : decode cX9_copies 48 = .ok (.iconst 0, 1) := by decide +kernel
theorem dX9_copies_49 : decode cX9_copies 49 = .ok (.istore_n 3, 1) := by decide +kernel
theorem dX9_copies_50 : decode cX9_copies 50 = .ok (.iload_n 3, 1) := by decide +kernel
theorem dX9_copies_51 : decode cX9_copies 51 = .ok (.sipush 512, 3) := by decide +kernel
theorem dX9_copies_54 : decode cX9_copies 54 = .ok (.if_icmp .ge 33, 3) := by decide +kernel
theorem dX9_copies_57 : decode cX9_copies 57 = .ok (.aload_n 0, 1) := by decide +kernel
theorem dX9_copies_58 : decode cX9_copies 58 = .ok (.getfield 40, 3) := by decide +kernel
theorem dX9_copies_61 : decode cX9_copies 61 = .ok (.sipush 512, 3) := by decide +kernel
theorem dX9_copies_64 : decode cX9_copies 64 = .ok (.iload_n 2, 1) := by decide +kernel
theorem dX9_copies_65 : decode cX9_copies 65 = .ok (.imul, 1) := by decide +kernel
theorem dX9_copies_66 : decode cX9_copies 66 = .ok (.iload_n 3, 1) := by decide +kernel
theorem dX9_copies_67 : decode cX9_copies 67 = .ok (.iadd, 1) := by decide +kernel
theorem dX9_copies_68 : decode cX9_copies 68 = .ok (.aload_n 0, 1) := by decide +kernel
theorem dX9_copies_69 : decode cX9_copies 69 = .ok (.getfield 40, 3) := by decide +kernel
theorem dX9_copies_72 : decode cX9_copies 72 = .ok (.sipush 512, 3) := by decide +kernel
theorem dX9_copies_75 : decode cX9_copies 75 = .ok (.iload_n 1, 1) := by decide +kernel
theorem dX9_copies_76 : decode cX9_copies 76 = .ok (.imul, 1) := by decide +kernel
theorem dX9_copies_77 : decode cX9_copies 77 = .ok (.iload_n 3, 1) := by decide +kernel
theorem dX9_copies_78 : decode cX9_copies 78 = .ok (.iadd, 1) := by decide +kernel
theorem dX9_copies_79 : decode cX9_copies 79 = .ok (.iaload, 1) := by decide +kernel
theorem dX9_copies_80 : decode cX9_copies 80 = .ok (.iastore, 1) := by decide +kernel
theorem dX9_copies_81 : decode cX9_copies 81 = .ok (.iinc 3 1, 3) := by decide +kernel
theorem dX9_copies_84 : decode cX9_copies 84 = .ok (.goto (-34), 3) := by decide +kernel
theorem dX9_copies_87 : decode cX9_copies 87 = .ok (.iconst 0, 1) := by decide +kernel
theorem dX9_copies_88 : decode cX9_copies 88 = .ok (.istore_n 3, 1) := by decide +kernel
theorem dX9_copies_89 : decode cX9_copies 89 = .ok (.iload_n 3, 1) := by decide +kernel
theorem dX9_copies_90 : decode cX9_copies 90 = .ok (.sipush 2560, 3) := by decide +kernel
theorem dX9_copies_93 : decode cX9_copies 93 = .ok (.if_icmp .ge 33, 3) := by decide +kernel
theorem dX9_copies_96 : decode cX9_copies 96 = .ok (.aload_n 0, 1) := by decide +kernel
theorem dX9_copies_97 : decode cX9_copies 97 = .ok (.getfield 43, 3) := by decide +kernel
theorem dX9_copies_100 : decode cX9_copies 100 = .ok (.sipush 2560, 3) := by decide +kernel
theorem dX9_copies_103 : decode cX9_copies 103 = .ok (.iload_n 2, 1) := by decide +kernel
theorem dX9_copies_104 : decode cX9_copies 104 = .ok (.imul, 1) := by decide +kernel
theorem dX9_copies_105 : decode cX9_copies 105 = .ok (.iload_n 3, 1) := by decide +kernel
theorem dX9_copies_106 : decode cX9_copies 106 = .ok (.iadd, 1) := by decide +kernel
theorem dX9_copies_107 : decode cX9_copies 107 = .ok (.aload_n 0, 1) := by decide +kernel
theorem dX9_copies_108 : decode cX9_copies 108 = .ok (.getfield 43, 3) := by decide +kernel
theorem dX9_copies_111 : decode cX9_copies 111 = .ok (.sipush 2560, 3) := by decide +kernel
theorem dX9_copies_114 : decode cX9_copies 114 = .ok (.iload_n 1, 1) := by decide +kernel
theorem dX9_copies_115 : decode cX9_copies 115 = .ok (.imul, 1) := by decide +kernel
theorem dX9_copies_116 : decode cX9_copies 116 = .ok (.iload_n 3, 1) := by decide +kernel
theorem dX9_copies_117 : decode cX9_copies 117 = .ok (.iadd, 1) := by decide +kernel
theorem dX9_copies_118 : decode cX9_copies 118 = .ok (.iaload, 1) := by decide +kernel
theorem dX9_copies_119 : decode cX9_copies 119 = .ok (.iastore, 1) := by decide +kernel
theorem dX9_copies_120 : decode cX9_copies 120 = .ok (.iinc 3 1, 3) := by decide +kernel
theorem dX9_copies_123 : decode cX9_copies 123 = .ok (.goto (-34), 3) := by decide +kernel
theorem dX9_copies_126 : decode cX9_copies 126 = .ok (.return_, 1) := by decide +kernel
theorem dX9_noReader_0 : decode cX9_noReader 0 = .ok (.iload_n 0, 1) := by decide +kernel
theorem dX9_noReader_1 : decode cX9_noReader 1 = .ok (.ifCond .lt 8, 3) := by decide +kernel
theorem dX9_noReader_4 : decode cX9_noReader 4 = .ok (.iload_n 0, 1) := by decide +kernel
theorem dX9_noReader_5 : decode cX9_noReader 5 = .ok (.iconst 4, 1) := by decide +kernel
theorem dX9_noReader_6 : decode cX9_noReader 6 = .ok (.if_icmp .lt 7, 3) := by decide +kernel
theorem dX9_noReader_9 : decode cX9_noReader 9 = .ok (.iconst 1, 1) := by decide +kernel
theorem dX9_noReader_10 : decode cX9_noReader 10 = .ok (.goto 4, 3) := by decide +kernel
theorem dX9_noReader_13 : decode cX9_noReader 13 = .ok (.iconst 0, 1) := by decide +kernel
theorem dX9_noReader_14 : decode cX9_noReader 14 = .ok (.ireturn, 1) := by decide +kernel
theorem dX9_open_0 : decode cX9_open 0 = .ok (.aload_n 0, 1) := by decide +kernel
theorem dX9_open_1 : decode cX9_open 1 = .ok (.iload_n 1, 1) := by decide +kernel
theorem dX9_open_2 : decode cX9_open 2 = .ok (.invokestatic 272, 3) := by decide +kernel
theorem dX9_open_5 : decode cX9_open 5 = .ok (.iconst 1, 1) := by decide +kernel
theorem dX9_open_6 : decode cX9_open 6 = .ok (.invokevirtual 93, 3) := by decide +kernel
theorem dX9_open_9 : decode cX9_open 9 = .ok (.ifCond .ne 25, 3) := by decide +kernel
theorem dX9_open_12 : decode cX9_open 12 = .ok (.aload_n 0, 1) := by decide +kernel
theorem dX9_open_13 : decode cX9_open 13 = .ok (.aload_n 0, 1) := by decide +kernel
theorem dX9_open_14 : decode cX9_open 14 = .ok (.getfield 53, 3) := by decide +kernel
theorem dX9_open_17 : decode cX9_open 17 = .ok (.iload_n 1, 1) := by decide +kernel
theorem dX9_open_18 : decode cX9_open 18 = .ok (.iaload, 1) := by decide +kernel
theorem dX9_open_19 : decode cX9_open 19 = .ok (.ifCond .lt 7, 3) := by decide +kernel
theorem dX9_open_22 : decode cX9_open 22 = .ok (.iconst 1, 1) := by decide +kernel
theorem dX9_open_23 : decode cX9_open 23 = .ok (.goto 4, 3) := by decide +kernel
theorem dX9_open_26 : decode cX9_open 26 = .ok (.iconst 0, 1) := by decide +kernel
theorem dX9_open_27 : decode cX9_open 27 = .ok (.iconst 2, 1) := by decide +kernel
theorem dX9_open_28 : decode cX9_open 28 = .ok (.invokevirtual 93, 3) := by decide +kernel
theorem dX9_open_31 : decode cX9_open 31 = .ok (.ifCond .eq 5, 3) := by decide +kernel
theorem dX9_open_34 : decode cX9_open 34 = .ok (.iconst 0, 1) := by decide +kernel
theorem dX9_open_35 : decode cX9_open 35 = .ok (.ireturn, 1) := by decide +kernel
theorem dX9_open_36 : decode cX9_open 36 = .ok (.aload_n 0, 1) := by decide +kernel
theorem dX9_open_37 : decode cX9_open 37 = .ok (.getfield 53, 3) := by decide +kernel
theorem dX9_open_40 : decode cX9_open 40 = .ok (.iload_n 1, 1) := by decide +kernel
theorem dX9_open_41 : decode cX9_open 41 = .ok (.aload_n 0, 1) := by decide +kernel
theorem dX9_open_42 : decode cX9_open 42 = .ok (.getfield 257, 3) := by decide +kernel
theorem dX9_open_45 : decode cX9_open 45 = .ok (.iastore, 1) := by decide +kernel
theorem dX9_open_46 : decode cX9_open 46 = .ok (.aload_n 0, 1) := by decide +kernel
theorem dX9_open_47 : decode cX9_open 47 = .ok (.getfield 257, 3) := by decide +kernel
theorem dX9_open_50 : decode cX9_open 50 = .ok (.ireturn, 1) := by decide +kernel
theorem dX9_close_0 : decode cX9_close 0 = .ok (.aload_n 0, 1) := by decide +kernel
theorem dX9_close_1 : decode cX9_close 1 = .ok (.iload_n 1, 1) := by decide +kernel
theorem dX9_close_2 : decode cX9_close 2 = .ok (.invokestatic 272, 3) := by decide +kernel
theorem dX9_close_5 : decode cX9_close 5 = .ok (.iconst 1, 1) := by decide +kernel
theorem dX9_close_6 : decode cX9_close 6 = .ok (.invokevirtual 93, 3) := by decide +kernel
theorem dX9_close_9 : decode cX9_close 9 = .ok (.ifCond .ne 12, 3) := by decide +kernel
theorem dX9_close_12 : decode cX9_close 12 = .ok (.aload_n 0, 1) := by decide +kernel
theorem dX9_close_13 : decode cX9_close 13 = .ok (.getfield 53, 3) := by decide +kernel
theorem dX9_close_16 : decode cX9_close 16 = .ok (.iload_n 1, 1) := by decide +kernel
theorem dX9_close_17 : decode cX9_close 17 = .ok (.iaload, 1) := by decide +kernel
theorem dX9_close_18 : decode cX9_close 18 = .ok (.ifCond .ge 5, 3) := by decide +kernel
theorem dX9_close_21 : decode cX9_close 21 = .ok (.iconst 0, 1) := by decide +kernel
theorem dX9_close_22 : decode cX9_close 22 = .ok (.ireturn, 1) := by decide +kernel
theorem dX9_close_23 : decode cX9_close 23 = .ok (.aload_n 0, 1) := by decide +kernel
theorem dX9_close_24 : decode cX9_close 24 = .ok (.getfield 53, 3) := by decide +kernel
theorem dX9_close_27 : decode cX9_close 27 = .ok (.iload_n 1, 1) := by decide +kernel
theorem dX9_close_28 : decode cX9_close 28 = .ok (.iaload, 1) := by decide +kernel
theorem dX9_close_29 : decode cX9_close 29 = .ok (.istore_n 2, 1) := by decide +kernel
theorem dX9_close_30 : decode cX9_close 30 = .ok (.aload_n 0, 1) := by decide +kernel
theorem dX9_close_31 : decode cX9_close 31 = .ok (.getfield 53, 3) := by decide +kernel
theorem dX9_close_34 : decode cX9_close 34 = .ok (.iload_n 1, 1) := by decide +kernel
theorem dX9_close_35 : decode cX9_close 35 = .ok (.iconst (-1), 1) := by decide +kernel
theorem dX9_close_36 : decode cX9_close 36 = .ok (.iastore, 1) := by decide +kernel
theorem dX9_close_37 : decode cX9_close 37 = .ok (.aload_n 0, 1) := by decide +kernel
theorem dX9_close_38 : decode cX9_close 38 = .ok (.iload_n 2, 1) := by decide +kernel
theorem dX9_close_39 : decode cX9_close 39 = .ok (.invokevirtual 260, 3) := by decide +kernel
theorem dX9_close_42 : decode cX9_close 42 = .ok (.istore_n 3, 1) := by decide +kernel
theorem dX9_close_43 : decode cX9_close 43 = .ok (.iload_n 3, 1) := by decide +kernel
theorem dX9_close_44 : decode cX9_close 44 = .ok (.ifCond .lt 26, 3) := by decide +kernel
theorem dX9_close_47 : decode cX9_close 47 = .ok (.iload_n 2, 1) := by decide +kernel
theorem dX9_close_48 : decode cX9_close 48 = .ok (.aload_n 0, 1) := by decide +kernel
theorem dX9_close_49 : decode cX9_close 49 = .ok (.getfield 257, 3) := by decide +kernel
theorem dX9_close_52 : decode cX9_close 52 = .ok (.if_icmp .eq 18, 3) := by decide +kernel
theorem dX9_close_55 : decode cX9_close 55 = .ok (.aload_n 0, 1) := by decide +kernel
theorem dX9_close_56 : decode cX9_close 56 = .ok (.iload_n 2, 1) := by decide +kernel
theorem dX9_close_57 : decode cX9_close 57 = .ok (.invokevirtual 263, 3) := by decide +kernel
theorem dX9_close_60 : decode cX9_close 60 = .ok (.ifCond .ne 10, 3) := by decide +kernel
theorem dX9_close_63 : decode cX9_close 63 = .ok (.aload_n 0, 1) := by decide +kernel
theorem dX9_close_64 : decode cX9_close 64 = .ok (.getfield 49, 3) := by decide +kernel
theorem dX9_close_67 : decode cX9_close 67 = .ok (.iload_n 3, 1) := by decide +kernel
theorem dX9_close_68 : decode cX9_close 68 = .ok (.iconst 0, 1) := by decide +kernel
theorem dX9_close_69 : decode cX9_close 69 = .ok (.bastore, 1) := by decide +kernel
theorem dX9_close_70 : decode cX9_close 70 = .ok (.iconst 1, 1) := by decide +kernel
theorem dX9_close_71 : decode cX9_close 71 = .ok (.ireturn, 1) := by decide +kernel
theorem dX9_postingsOf_0 : decode cX9_postingsOf 0 = .ok (.iconst 0, 1) := by decide +kernel
theorem dX9_postingsOf_1 : decode cX9_postingsOf 1 = .ok (.istore_n 2, 1) := by decide +kernel
theorem dX9_postingsOf_2 : decode cX9_postingsOf 2 = .ok (.sipush 2560, 3) := by decide +kernel
theorem dX9_postingsOf_5 : decode cX9_postingsOf 5 = .ok (.iload_n 1, 1) := by decide +kernel
theorem dX9_postingsOf_6 : decode cX9_postingsOf 6 = .ok (.imul, 1) := by decide +kernel
theorem dX9_postingsOf_7 : decode cX9_postingsOf 7 = .ok (.istore_n 3, 1) := by decide +kernel
theorem dX9_postingsOf_8 : decode cX9_postingsOf 8 = .ok (.iload_n 3, 1) := by decide +kernel
theorem dX9_postingsOf_9 : decode cX9_postingsOf 9 = .ok (.sipush 2560, 3) := by decide +kernel
theorem dX9_postingsOf_12 : decode cX9_postingsOf 12 = .ok (.iload_n 1, 1) := by decide +kernel
theorem dX9_postingsOf_13 : decode cX9_postingsOf 13 = .ok (.imul, 1) := by decide +kernel
theorem dX9_postingsOf_14 : decode cX9_postingsOf 14 = .ok (.bipush 40, 2) := by decide +kernel
theorem dX9_postingsOf_16 : decode cX9_postingsOf 16 = .ok (.aload_n 0, 1) := by decide +kernel
theorem dX9_postingsOf_17 : decode cX9_postingsOf 17 = .ok (.getfield 37, 3) := by decide +kernel
theorem dX9_postingsOf_20 : decode cX9_postingsOf 20 = .ok (.iload_n 1, 1) := by decide +kernel
theorem dX9_postingsOf_21 : decode cX9_postingsOf 21 = .ok (.iaload, 1) := by decide +kernel
theorem dX9_postingsOf_22 : decode cX9_postingsOf 22 = .ok (.imul, 1) := by decide +kernel
theorem dX9_postingsOf_23 : decode cX9_postingsOf 23 = .ok (.iadd, 1) := by decide +kernel
theorem dX9_postingsOf_24 : decode cX9_postingsOf 24 = .ok (.if_icmp .ge 26, 3) := by decide +kernel
theorem dX9_postingsOf_27 : decode cX9_postingsOf 27 = .ok (.iload_n 2, 1) := by decide +kernel
theorem dX9_postingsOf_28 : decode cX9_postingsOf 28 = .ok (.aload_n 0, 1) := by decide +kernel
theorem dX9_postingsOf_29 : decode cX9_postingsOf 29 = .ok (.getfield 43, 3) := by decide +kernel
theorem dX9_postingsOf_32 : decode cX9_postingsOf 32 = .ok (.iload_n 3, 1) := by decide +kernel
theorem dX9_postingsOf_33 : decode cX9_postingsOf 33 = .ok (.iaload, 1) := by decide +kernel
theorem dX9_postingsOf_34 : decode cX9_postingsOf 34 = .ok (.ifCond .le 7, 3) := by decide +kernel
theorem dX9_postingsOf_37 : decode cX9_postingsOf 37 = .ok (.iconst 1, 1) := by decide +kernel
theorem dX9_postingsOf_38 : decode cX9_postingsOf 38 = .ok (.goto 4, 3) := by decide +kernel
theorem dX9_postingsOf_41 : decode cX9_postingsOf 41 = .ok (.iconst 0, 1) := by decide +kernel
theorem dX9_postingsOf_42 : decode cX9_postingsOf 42 = .ok (.iadd, 1) := by decide +kernel
theorem dX9_postingsOf_43 : decode cX9_postingsOf 43 = .ok (.istore_n 2, 1) := by decide +kernel
theorem dX9_postingsOf_44 : decode cX9_postingsOf 44 = .ok (.iinc 3 1, 3) := by decide +kernel
theorem dX9_postingsOf_47 : decode cX9_postingsOf 47 = .ok (.goto (-39), 3) := by decide +kernel
theorem dX9_postingsOf_50 : decode cX9_postingsOf 50 = .ok (.iload_n 2, 1) := by decide +kernel
theorem dX9_postingsOf_51 : decode cX9_postingsOf 51 = .ok (.ireturn, 1) := by decide +kernel
theorem dX9_asks_0 : decode cX9_asks 0 = .ok (.iconst 0, 1) := by decide +kernel
theorem dX9_asks_1 : decode cX9_asks 1 = .ok (.istore_n 3, 1) := by decide +kernel
theorem dX9_asks_2 : decode cX9_asks 2 = .ok (.iload_n 3, 1) := by decide +kernel
theorem dX9_asks_3 : decode cX9_asks 3 = .ok (.bipush 64, 2) := by decide +kernel
theorem dX9_asks_5 : decode cX9_asks 5 = .ok (.if_icmp .ge 16, 3) := by decide +kernel
theorem dX9_asks_8 : decode cX9_asks 8 = .ok (.aload_n 0, 1) := by decide +kernel
theorem dX9_asks_9 : decode cX9_asks 9 = .ok (.getfield 65, 3) := by decide +kernel
theorem dX9_asks_12 : decode cX9_asks 12 = .ok (.iload_n 3, 1) := by decide +kernel
theorem dX9_asks_13 : decode cX9_asks 13 = .ok (.iconst 0, 1) := by decide +kernel
theorem dX9_asks_14 : decode cX9_asks 14 = .ok (.iastore, 1) := by decide +kernel
theorem dX9_asks_15 : decode cX9_asks 15 = .ok (.iinc 3 1, 3) := by decide +kernel
theorem dX9_asks_18 : decode cX9_asks 18 = .ok (.goto (-16), 3) := by decide +kernel
theorem dX9_asks_21 : decode cX9_asks 21 = .ok (.iconst 0, 1) := by decide +kernel
theorem dX9_asks_22 : decode cX9_asks 22 = .ok (.istore_n 3, 1) := by decide +kernel
theorem dX9_asks_23 : decode cX9_asks 23 = .ok (.aload_n 0, 1) := by decide +kernel
theorem dX9_asks_24 : decode cX9_asks 24 = .ok (.iconst 0, 1) := by decide +kernel
theorem dX9_asks_25 : decode cX9_asks 25 = .ok (.putfield 102, 3) := by decide +kernel
theorem dX9_asks_28 : decode cX9_asks 28 = .ok (.aload_n 0, 1) := by decide +kernel
theorem dX9_asks_29 : decode cX9_asks 29 = .ok (.iload_n 2, 1) := by decide +kernel
theorem dX9_asks_30 : decode cX9_asks 30 = .ok (.invokevirtual 123, 3) := by decide +kernel
theorem dX9_asks_33 : decode cX9_asks 33 = .ok (.ifCond .eq 65, 3) := by decide +kernel
theorem dX9_asks_36 : decode cX9_asks 36 = .ok (.iload_n 1, 1) := by decide +kernel
theorem dX9_asks_37 : decode cX9_asks 37 = .ok (.ifCond .ge 7, 3) := by decide +kernel
theorem dX9_asks_40 : decode cX9_asks 40 = .ok (.iconst (-1), 1) := by decide +kernel
theorem dX9_asks_41 : decode cX9_asks 41 = .ok (.goto 22, 3) := by decide +kernel
theorem dX9_asks_44 : decode cX9_asks 44 = .ok (.aload_n 0, 1) := by decide +kernel
theorem dX9_asks_45 : decode cX9_asks 45 = .ok (.aload_n 0, 1) := by decide +kernel
theorem dX9_asks_46 : decode cX9_asks 46 = .ok (.getfield 40, 3) := by decide +kernel
theorem dX9_asks_49 : decode cX9_asks 49 = .ok (.sipush 512, 3) := by decide +kernel
theorem dX9_asks_52 : decode cX9_asks 52 = .ok (.iload_n 1, 1) := by decide +kernel
theorem dX9_asks_53 : decode cX9_asks 53 = .ok (.imul, 1) := by decide +kernel
theorem dX9_asks_54 : decode cX9_asks 54 = .ok (.aload_n 0, 1) := by decide +kernel
theorem dX9_asks_55 : decode cX9_asks 55 = .ok (.getfield 37, 3) := by decide +kernel
theorem dX9_asks_58 : decode cX9_asks 58 = .ok (.iload_n 1, 1) := by decide +kernel
theorem dX9_asks_59 : decode cX9_asks 59 = .ok (.iaload, 1) := by decide +kernel
theorem dX9_asks_60 : decode cX9_asks 60 = .ok (.invokevirtual 127, 3) := by decide +kernel
theorem dX9_asks_63 : decode cX9_asks 63 = .ok (.istore 4, 2) := by decide +kernel
theorem dX9_asks_65 : decode cX9_asks 65 = .ok (.iload 4, 2) := by decide +kernel
theorem dX9_asks_67 : decode cX9_asks 67 = .ok (.ifCond .lt (-39), 3) := by decide +kernel
theorem dX9_asks_70 : decode cX9_asks 70 = .ok (.aload_n 0, 1) := by decide +kernel
theorem dX9_asks_71 : decode cX9_asks 71 = .ok (.getfield 65, 3) := by decide +kernel
theorem dX9_asks_74 : decode cX9_asks 74 = .ok (.iload 4, 2) := by decide +kernel
theorem dX9_asks_76 : decode cX9_asks 76 = .ok (.iaload, 1) := by decide +kernel
theorem dX9_asks_77 : decode cX9_asks 77 = .ok (.iconst 1, 1) := by decide +kernel
theorem dX9_asks_78 : decode cX9_asks 78 = .ok (.if_icmp .ne 6, 3) := by decide +kernel
theorem dX9_asks_81 : decode cX9_asks 81 = .ok (.goto (-53), 3) := by decide +kernel
theorem dX9_asks_84 : decode cX9_asks 84 = .ok (.aload_n 0, 1) := by decide +kernel
theorem dX9_asks_85 : decode cX9_asks 85 = .ok (.getfield 65, 3) := by decide +kernel
theorem dX9_asks_88 : decode cX9_asks 88 = .ok (.iload 4, 2) := by decide +kernel
theorem dX9_asks_90 : decode cX9_asks 90 = .ok (.iconst 1, 1) := by decide +kernel
theorem dX9_asks_91 : decode cX9_asks 91 = .ok (.iastore, 1) := by decide +kernel
theorem dX9_asks_92 : decode cX9_asks 92 = .ok (.iinc 3 1, 3) := by decide +kernel
theorem dX9_asks_95 : decode cX9_asks 95 = .ok (.goto (-67), 3) := by decide +kernel
theorem dX9_asks_98 : decode cX9_asks 98 = .ok (.iload_n 3, 1) := by decide +kernel
theorem dX9_asks_99 : decode cX9_asks 99 = .ok (.ireturn, 1) := by decide +kernel
theorem dX9_query_0 : decode cX9_query 0 = .ok (.aload_n 0, 1) := by decide +kernel
theorem dX9_query_1 : decode cX9_query 1 = .ok (.getfield 97, 3) := by decide +kernel
theorem dX9_query_4 : decode cX9_query 4 = .ok (.istore 6, 2) := by decide +kernel
theorem dX9_query_6 : decode cX9_query 6 = .ok (.aload_n 0, 1) := by decide +kernel
theorem dX9_query_7 : decode cX9_query 7 = .ok (.iconst 0, 1) := by decide +kernel
theorem dX9_query_8 : decode cX9_query 8 = .ok (.putfield 97, 3) := by decide +kernel
theorem dX9_query_11 : decode cX9_query 11 = .ok (.aload_n 0, 1) := by decide +kernel
theorem dX9_query_12 : decode cX9_query 12 = .ok (.iload_n 1, 1) := by decide +kernel
theorem dX9_query_13 : decode cX9_query 13 = .ok (.invokestatic 272, 3) := by decide +kernel
theorem dX9_query_16 : decode cX9_query 16 = .ok (.ifCond .ne 19, 3) := by decide +kernel
theorem dX9_query_19 : decode cX9_query 19 = .ok (.iload_n 2, 1) := by decide +kernel
theorem dX9_query_20 : decode cX9_query 20 = .ok (.i2l, 1) := by decide +kernel
theorem dX9_query_21 : decode cX9_query 21 = .ok (.lconst 1, 1) := by decide +kernel
theorem dX9_query_22 : decode cX9_query 22 = .ok (.ldc2_w 239, 3) := by decide +kernel
theorem dX9_query_25 : decode cX9_query 25 = .ok (.invokestatic 89, 3) := by decide +kernel
theorem dX9_query_28 : decode cX9_query 28 = .ok (.ifCond .eq 7, 3) := by decide +kernel
theorem dX9_query_31 : decode cX9_query 31 = .ok (.iload_n 3, 1) := by decide +kernel
theorem dX9_query_32 : decode cX9_query 32 = .ok (.ifCond .ge 7, 3) := by decide +kernel
theorem dX9_query_35 : decode cX9_query 35 = .ok (.iconst 1, 1) := by decide +kernel
theorem dX9_query_36 : decode cX9_query 36 = .ok (.goto 4, 3) := by decide +kernel
theorem dX9_query_39 : decode cX9_query 39 = .ok (.iconst 0, 1) := by decide +kernel
theorem dX9_query_40 : decode cX9_query 40 = .ok (.iconst 1, 1) := by decide +kernel
theorem dX9_query_41 : decode cX9_query 41 = .ok (.invokevirtual 93, 3) := by decide +kernel
theorem dX9_query_44 : decode cX9_query 44 = .ok (.ifCond .eq 5, 3) := by decide +kernel
theorem dX9_query_47 : decode cX9_query 47 = .ok (.iconst 0, 1) := by decide +kernel
theorem dX9_query_48 : decode cX9_query 48 = .ok (.ireturn, 1) := by decide +kernel
theorem dX9_query_49 : decode cX9_query 49 = .ok (.aload_n 0, 1) := by decide +kernel
theorem dX9_query_50 : decode cX9_query 50 = .ok (.getfield 53, 3) := by decide +kernel
theorem dX9_query_53 : decode cX9_query 53 = .ok (.iload_n 1, 1) := by decide +kernel
theorem dX9_query_54 : decode cX9_query 54 = .ok (.iaload, 1) := by decide +kernel
theorem dX9_query_55 : decode cX9_query 55 = .ok (.ifCond .ge 7, 3) := by decide +kernel
theorem dX9_query_58 : decode cX9_query 58 = .ok (.iconst (-1), 1) := by decide +kernel
theorem dX9_query_59 : decode cX9_query 59 = .ok (.goto 13, 3) := by decide +kernel
theorem dX9_query_62 : decode cX9_query 62 = .ok (.aload_n 0, 1) := by decide +kernel
theorem dX9_query_63 : decode cX9_query 63 = .ok (.aload_n 0, 1) := by decide +kernel
theorem dX9_query_64 : decode cX9_query 64 = .ok (.getfield 53, 3) := by decide +kernel
theorem dX9_query_67 : decode cX9_query 67 = .ok (.iload_n 1, 1) := by decide +kernel
theorem dX9_query_68 : decode cX9_query 68 = .ok (.iaload, 1) := by decide +kernel
theorem dX9_query_69 : decode cX9_query 69 = .ok (.invokevirtual 260, 3) := by decide +kernel
theorem dX9_query_72 : decode cX9_query 72 = .ok (.istore 7, 2) := by decide +kernel
theorem dX9_query_74 : decode cX9_query 74 = .ok (.aload_n 0, 1) := by decide +kernel
theorem dX9_query_75 : decode cX9_query 75 = .ok (.getfield 53, 3) := by decide +kernel
theorem dX9_query_78 : decode cX9_query 78 = .ok (.iload_n 1, 1) := by decide +kernel
theorem dX9_query_79 : decode cX9_query 79 = .ok (.iaload, 1) := by decide +kernel
theorem dX9_query_80 : decode cX9_query 80 = .ok (.ifCond .lt 29, 3) := by decide +kernel
theorem dX9_query_83 : decode cX9_query 83 = .ok (.aload_n 0, 1) := by decide +kernel
theorem dX9_query_84 : decode cX9_query 84 = .ok (.aload_n 0, 1) := by decide +kernel
theorem dX9_query_85 : decode cX9_query 85 = .ok (.iload 7, 2) := by decide +kernel
theorem dX9_query_87 : decode cX9_query 87 = .ok (.iload 6, 2) := by decide +kernel
theorem dX9_query_89 : decode cX9_query 89 = .ok (.invokevirtual 275, 3) := by decide +kernel
theorem dX9_query_92 : decode cX9_query 92 = .ok (.bipush 8, 2) := by decide +kernel
theorem dX9_query_94 : decode cX9_query 94 = .ok (.if_icmp .le 7, 3) := by decide +kernel
theorem dX9_query_97 : decode cX9_query 97 = .ok (.iconst 1, 1) := by decide +kernel
theorem dX9_query_98 : decode cX9_query 98 = .ok (.goto 4, 3) := by decide +kernel
theorem dX9_query_101 : decode cX9_query 101 = .ok (.iconst 0, 1) := by decide +kernel
theorem dX9_query_102 : decode cX9_query 102 = .ok (.iconst 1, 1) := by decide +kernel
theorem dX9_query_103 : decode cX9_query 103 = .ok (.invokevirtual 93, 3) := by decide +kernel
theorem dX9_query_106 : decode cX9_query 106 = .ok (.ifCond .ne 25, 3) := by decide +kernel
theorem dX9_query_109 : decode cX9_query 109 = .ok (.aload_n 0, 1) := by decide +kernel
theorem dX9_query_110 : decode cX9_query 110 = .ok (.aload_n 0, 1) := by decide +kernel
theorem dX9_query_111 : decode cX9_query 111 = .ok (.getfield 53, 3) := by decide +kernel
theorem dX9_query_114 : decode cX9_query 114 = .ok (.iload_n 1, 1) := by decide +kernel
theorem dX9_query_115 : decode cX9_query 115 = .ok (.iaload, 1) := by decide +kernel
theorem dX9_query_116 : decode cX9_query 116 = .ok (.ifCond .ge 7, 3) := by decide +kernel
theorem dX9_query_119 : decode cX9_query 119 = .ok (.iconst 1, 1) := by decide +kernel
theorem dX9_query_120 : decode cX9_query 120 = .ok (.goto 4, 3) := by decide +kernel
theorem dX9_query_123 : decode cX9_query 123 = .ok (.iconst 0, 1) := by decide +kernel
theorem dX9_query_124 : decode cX9_query 124 = .ok (.iconst 2, 1) := by decide +kernel
theorem dX9_query_125 : decode cX9_query 125 = .ok (.invokevirtual 93, 3) := by decide +kernel
theorem dX9_query_128 : decode cX9_query 128 = .ok (.ifCond .eq 5, 3) := by decide +kernel
theorem dX9_query_131 : decode cX9_query 131 = .ok (.iconst 0, 1) := by decide +kernel
theorem dX9_query_132 : decode cX9_query 132 = .ok (.ireturn, 1) := by decide +kernel
theorem dX9_query_133 : decode cX9_query 133 = .ok (.aload_n 0, 1) := by decide +kernel
theorem dX9_query_134 : decode cX9_query 134 = .ok (.aload_n 0, 1) := by decide +kernel
theorem dX9_query_135 : decode cX9_query 135 = .ok (.iload 7, 2) := by decide +kernel
theorem dX9_query_137 : decode cX9_query 137 = .ok (.iload 6, 2) := by decide +kernel
theorem dX9_query_139 : decode cX9_query 139 = .ok (.invokevirtual 278, 3) := by decide +kernel
theorem dX9_query_142 : decode cX9_query 142 = .ok (.putfield 281, 3) := by decide +kernel
theorem dX9_query_145 : decode cX9_query 145 = .ok (.aload_n 0, 1) := by decide +kernel
theorem dX9_query_146 : decode cX9_query 146 = .ok (.iload 7, 2) := by decide +kernel
theorem dX9_query_148 : decode cX9_query 148 = .ok (.invokevirtual 284, 3) := by decide +kernel
theorem dX9_query_151 : decode cX9_query 151 = .ok (.iconst 0, 1) := by decide +kernel
theorem dX9_query_152 : decode cX9_query 152 = .ok (.istore 8, 2) := by decide +kernel
theorem dX9_query_154 : decode cX9_query 154 = .ok (.iload 8, 2) := by decide +kernel
theorem dX9_query_156 : decode cX9_query 156 = .ok (.bipush 40, 2) := by decide +kernel
theorem dX9_query_158 : decode cX9_query 158 = .ok (.if_icmp .ge 17, 3) := by decide +kernel
theorem dX9_query_161 : decode cX9_query 161 = .ok (.aload_n 0, 1) := by decide +kernel
theorem dX9_query_162 : decode cX9_query 162 = .ok (.getfield 77, 3) := by decide +kernel
theorem dX9_query_165 : decode cX9_query 165 = .ok (.iload 8, 2) := by decide +kernel
theorem dX9_query_167 : decode cX9_query 167 = .ok (.iconst 0, 1) := by decide +kernel
theorem dX9_query_168 : decode cX9_query 168 = .ok (.iastore, 1) := by decide +kernel
theorem dX9_query_169 : decode cX9_query 169 = .ok (.iinc 8 1, 3) := by decide +kernel
theorem dX9_query_172 : decode cX9_query 172 = .ok (.goto (-18), 3) := by decide +kernel
theorem dX9_query_175 : decode cX9_query 175 = .ok (.aload_n 0, 1) := by decide +kernel
theorem dX9_query_176 : decode cX9_query 176 = .ok (.iconst 0, 1) := by decide +kernel
theorem dX9_query_177 : decode cX9_query 177 = .ok (.putfield 287, 3) := by decide +kernel
theorem dX9_query_180 : decode cX9_query 180 = .ok (.aload_n 0, 1) := by decide +kernel
theorem dX9_query_181 : decode cX9_query 181 = .ok (.iconst 0, 1) := by decide +kernel
theorem dX9_query_182 : decode cX9_query 182 = .ok (.putfield 290, 3) := by decide +kernel
theorem dX9_query_185 : decode cX9_query 185 = .ok (.aload_n 0, 1) := by decide +kernel
theorem dX9_query_186 : decode cX9_query 186 = .ok (.iconst 0, 1) := by decide +kernel
theorem dX9_query_187 : decode cX9_query 187 = .ok (.putfield 293, 3) := by decide +kernel
theorem dX9_query_190 : decode cX9_query 190 = .ok (.aload_n 0, 1) := by decide +kernel
theorem dX9_query_191 : decode cX9_query 191 = .ok (.getfield 287, 3) := by decide +kernel
theorem dX9_query_194 : decode cX9_query 194 = .ok (.aload_n 0, 1) := by decide +kernel
theorem dX9_query_195 : decode cX9_query 195 = .ok (.getfield 296, 3) := by decide +kernel
theorem dX9_query_198 : decode cX9_query 198 = .ok (.if_icmp .ge 57, 3) := by decide +kernel
theorem dX9_query_201 : decode cX9_query 201 = .ok (.aload_n 0, 1) := by decide +kernel
theorem dX9_query_202 : decode cX9_query 202 = .ok (.getfield 293, 3) := by decide +kernel
theorem dX9_query_205 : decode cX9_query 205 = .ok (.ifCond .ne 50, 3) := by decide +kernel
theorem dX9_query_208 : decode cX9_query 208 = .ok (.aload_n 0, 1) := by decide +kernel
theorem dX9_query_209 : decode cX9_query 209 = .ok (.aload_n 0, 1) := by decide +kernel
theorem dX9_query_210 : decode cX9_query 210 = .ok (.getfield 290, 3) := by decide +kernel
theorem dX9_query_213 : decode cX9_query 213 = .ok (.iload_n 3, 1) := by decide +kernel
theorem dX9_query_214 : decode cX9_query 214 = .ok (.if_icmp .lt 7, 3) := by decide +kernel
theorem dX9_query_217 : decode cX9_query 217 = .ok (.iconst 1, 1) := by decide +kernel
theorem dX9_query_218 : decode cX9_query 218 = .ok (.goto 18, 3) := by decide +kernel
theorem dX9_query_221 : decode cX9_query 221 = .ok (.aload_n 0, 1) := by decide +kernel
theorem dX9_query_222 : decode cX9_query 222 = .ok (.getfield 299, 3) := by decide +kernel
theorem dX9_query_225 : decode cX9_query 225 = .ok (.lload 4, 2) := by decide +kernel
theorem dX9_query_227 : decode cX9_query 227 = .ok (.lcmp, 1) := by decide +kernel
theorem dX9_query_228 : decode cX9_query 228 = .ok (.ifCond .lt 7, 3) := by decide +kernel
theorem dX9_query_231 : decode cX9_query 231 = .ok (.iconst 2, 1) := by decide +kernel
theorem dX9_query_232 : decode cX9_query 232 = .ok (.goto 4, 3) := by decide +kernel
theorem dX9_query_235 : decode cX9_query 235 = .ok (.iconst 0, 1) := by decide +kernel
theorem dX9_query_236 : decode cX9_query 236 = .ok (.putfield 293, 3) := by decide +kernel
theorem dX9_query_239 : decode cX9_query 239 = .ok (.aload_n 0, 1) := by decide +kernel
theorem dX9_query_240 : decode cX9_query 240 = .ok (.getfield 293, 3) := by decide +kernel
theorem dX9_query_243 : decode cX9_query 243 = .ok (.ifCond .ne (-53), 3) := by decide +kernel
theorem dX9_query_246 : decode cX9_query 246 = .ok (.aload_n 0, 1) := by decide +kernel
theorem dX9_query_247 : decode cX9_query 247 = .ok (.iload 7, 2) := by decide +kernel
theorem dX9_query_249 : decode cX9_query 249 = .ok (.invokevirtual 303, 3) := by decide +kernel
theorem dX9_query_252 : decode cX9_query 252 = .ok (.goto (-62), 3) := by decide +kernel
theorem dX9_query_255 : decode cX9_query 255 = .ok (.aload_n 0, 1) := by decide +kernel
theorem dX9_query_256 : decode cX9_query 256 = .ok (.iload_n 2, 1) := by decide +kernel
theorem dX9_query_257 : decode cX9_query 257 = .ok (.invokevirtual 306, 3) := by decide +kernel
theorem dX9_query_260 : decode cX9_query 260 = .ok (.aload_n 0, 1) := by decide +kernel
theorem dX9_query_261 : decode cX9_query 261 = .ok (.getfield 309, 3) := by decide +kernel
theorem dX9_query_264 : decode cX9_query 264 = .ok (.ireturn, 1) := by decide +kernel
theorem dX9_countAsked_0 : decode cX9_countAsked 0 = .ok (.iconst 0, 1) := by decide +kernel
theorem dX9_countAsked_1 : decode cX9_countAsked 1 = .ok (.istore_n 3, 1) := by decide +kernel
theorem dX9_countAsked_2 : decode cX9_countAsked 2 = .ok (.aload_n 0, 1) := by decide +kernel
theorem dX9_countAsked_3 : decode cX9_countAsked 3 = .ok (.iconst 0, 1) := by decide +kernel
theorem dX9_countAsked_4 : decode cX9_countAsked 4 = .ok (.putfield 102, 3) := by decide +kernel
theorem dX9_countAsked_7 : decode cX9_countAsked 7 = .ok (.iconst 0, 1) := by decide +kernel
theorem dX9_countAsked_8 : decode cX9_countAsked 8 = .ok (.istore 4, 2) := by decide +kernel
theorem dX9_countAsked_10 : decode cX9_countAsked 10 = .ok (.iload 4, 2) := by decide +kernel
theorem dX9_countAsked_12 : decode cX9_countAsked 12 = .ok (.bipush 64, 2) := by decide +kernel
theorem dX9_countAsked_14 : decode cX9_countAsked 14 = .ok (.if_icmp .ge 17, 3) := by decide +kernel
theorem dX9_countAsked_17 : decode cX9_countAsked 17 = .ok (.aload_n 0, 1) := by decide +kernel
theorem dX9_countAsked_18 : decode cX9_countAsked 18 = .ok (.getfield 25, 3) := by decide +kernel
theorem dX9_countAsked_21 : decode cX9_countAsked 21 = .ok (.iload 4, 2) := by decide +kernel
theorem dX9_countAsked_23 : decode cX9_countAsked 23 = .ok (.iconst 0, 1) := by decide +kernel
theorem dX9_countAsked_24 : decode cX9_countAsked 24 = .ok (.iastore, 1) := by decide +kernel
theorem dX9_countAsked_25 : decode cX9_countAsked 25 = .ok (.iinc 4 1, 3) := by decide +kernel
theorem dX9_countAsked_28 : decode cX9_countAsked 28 = .ok (.goto (-18), 3) := by decide +kernel
theorem dX9_countAsked_31 : decode cX9_countAsked 31 = .ok (.aload_n 0, 1) := by decide +kernel
theorem dX9_countAsked_32 : decode cX9_countAsked 32 = .ok (.iload_n 2, 1) := by decide +kernel
theorem dX9_countAsked_33 : decode cX9_countAsked 33 = .ok (.invokevirtual 123, 3) := by decide +kernel
theorem dX9_countAsked_36 : decode cX9_countAsked 36 = .ok (.ifCond .eq 65, 3) := by decide +kernel
theorem dX9_countAsked_39 : decode cX9_countAsked 39 = .ok (.iload_n 1, 1) := by decide +kernel
theorem dX9_countAsked_40 : decode cX9_countAsked 40 = .ok (.ifCond .ge 7, 3) := by decide +kernel
theorem dX9_countAsked_43 : decode cX9_countAsked 43 = .ok (.iconst (-1), 1) := by decide +kernel
theorem dX9_countAsked_44 : decode cX9_countAsked 44 = .ok (.goto 22, 3) := by decide +kernel
theorem dX9_countAsked_47 : decode cX9_countAsked 47 = .ok (.aload_n 0, 1) := by decide +kernel
theorem dX9_countAsked_48 : decode cX9_countAsked 48 = .ok (.aload_n 0, 1) := by decide +kernel
theorem dX9_countAsked_49 : decode cX9_countAsked 49 = .ok (.getfield 40, 3) := by decide +kernel
theorem dX9_countAsked_52 : decode cX9_countAsked 52 = .ok (.sipush 512, 3) := by decide +kernel
theorem dX9_countAsked_55 : decode cX9_countAsked 55 = .ok (.iload_n 1, 1) := by decide +kernel
theorem dX9_countAsked_56 : decode cX9_countAsked 56 = .ok (.imul, 1) := by decide +kernel
theorem dX9_countAsked_57 : decode cX9_countAsked 57 = .ok (.aload_n 0, 1) := by decide +kernel
theorem dX9_countAsked_58 : decode cX9_countAsked 58 = .ok (.getfield 37, 3) := by decide +kernel
theorem dX9_countAsked_61 : decode cX9_countAsked 61 = .ok (.iload_n 1, 1) := by decide +kernel
theorem dX9_countAsked_62 : decode cX9_countAsked 62 = .ok (.iaload, 1) := by decide +kernel
theorem dX9_countAsked_63 : decode cX9_countAsked 63 = .ok (.invokevirtual 127, 3) := by decide +kernel
theorem dX9_countAsked_66 : decode cX9_countAsked 66 = .ok (.istore 4, 2) := by decide +kernel
theorem dX9_countAsked_68 : decode cX9_countAsked 68 = .ok (.iload 4, 2) := by decide +kernel
theorem dX9_countAsked_70 : decode cX9_countAsked 70 = .ok (.ifCond .lt (-39), 3) := by decide +kernel
theorem dX9_countAsked_73 : decode cX9_countAsked 73 = .ok (.aload_n 0, 1) := by decide +kernel
theorem dX9_countAsked_74 : decode cX9_countAsked 74 = .ok (.getfield 25, 3) := by decide +kernel
theorem dX9_countAsked_77 : decode cX9_countAsked 77 = .ok (.iload 4, 2) := by decide +kernel
theorem dX9_countAsked_79 : decode cX9_countAsked 79 = .ok (.iaload, 1) := by decide +kernel
theorem dX9_countAsked_80 : decode cX9_countAsked 80 = .ok (.iconst 1, 1) := by decide +kernel
theorem dX9_countAsked_81 : decode cX9_countAsked 81 = .ok (.if_icmp .ne 6, 3) := by decide +kernel
theorem dX9_countAsked_84 : decode cX9_countAsked 84 = .ok (.goto (-53), 3) := by decide +kernel
theorem dX9_countAsked_87 : decode cX9_countAsked 87 = .ok (.aload_n 0, 1) := by decide +kernel
theorem dX9_countAsked_88 : decode cX9_countAsked 88 = .ok (.getfield 25, 3) := by decide +kernel
theorem dX9_countAsked_91 : decode cX9_countAsked 91 = .ok (.iload 4, 2) := by decide +kernel
theorem dX9_countAsked_93 : decode cX9_countAsked 93 = .ok (.iconst 1, 1) := by decide +kernel
theorem dX9_countAsked_94 : decode cX9_countAsked 94 = .ok (.iastore, 1) := by decide +kernel
theorem dX9_countAsked_95 : decode cX9_countAsked 95 = .ok (.iinc 3 1, 3) := by decide +kernel
theorem dX9_countAsked_98 : decode cX9_countAsked 98 = .ok (.goto (-67), 3) := by decide +kernel
theorem dX9_countAsked_101 : decode cX9_countAsked 101 = .ok (.iload_n 3, 1) := by decide +kernel
theorem dX9_countAsked_102 : decode cX9_countAsked 102 = .ok (.ireturn, 1) := by decide +kernel
theorem dX9_plans_0 : decode cX9_plans 0 = .ok (.aload_n 0, 1) := by decide +kernel
theorem dX9_plans_1 : decode cX9_plans 1 = .ok (.iconst 0, 1) := by decide +kernel
theorem dX9_plans_2 : decode cX9_plans 2 = .ok (.putfield 296, 3) := by decide +kernel
theorem dX9_plans_5 : decode cX9_plans 5 = .ok (.aload_n 0, 1) := by decide +kernel
theorem dX9_plans_6 : decode cX9_plans 6 = .ok (.iconst 0, 1) := by decide +kernel
theorem dX9_plans_7 : decode cX9_plans 7 = .ok (.putfield 312, 3) := by decide +kernel
theorem dX9_plans_10 : decode cX9_plans 10 = .ok (.sipush 255, 3) := by decide +kernel
theorem dX9_plans_13 : decode cX9_plans 13 = .ok (.istore_n 2, 1) := by decide +kernel
theorem dX9_plans_14 : decode cX9_plans 14 = .ok (.iload_n 2, 1) := by decide +kernel
theorem dX9_plans_15 : decode cX9_plans 15 = .ok (.ifCond .le 201, 3) := by decide +kernel
theorem dX9_plans_18 : decode cX9_plans 18 = .ok (.aload_n 0, 1) := by decide +kernel
theorem dX9_plans_19 : decode cX9_plans 19 = .ok (.getfield 281, 3) := by decide +kernel
theorem dX9_plans_22 : decode cX9_plans 22 = .ok (.ifCond .le 194, 3) := by decide +kernel
theorem dX9_plans_25 : decode cX9_plans 25 = .ok (.iconst 0, 1) := by decide +kernel
theorem dX9_plans_26 : decode cX9_plans 26 = .ok (.istore_n 3, 1) := by decide +kernel
theorem dX9_plans_27 : decode cX9_plans 27 = .ok (.iconst 0, 1) := by decide +kernel
theorem dX9_plans_28 : decode cX9_plans 28 = .ok (.istore 4, 2) := by decide +kernel
theorem dX9_plans_30 : decode cX9_plans 30 = .ok (.iload 4, 2) := by decide +kernel
theorem dX9_plans_32 : decode cX9_plans 32 = .ok (.bipush 64, 2) := by decide +kernel
theorem dX9_plans_34 : decode cX9_plans 34 = .ok (.if_icmp .ge 61, 3) := by decide +kernel
theorem dX9_plans_37 : decode cX9_plans 37 = .ok (.aload_n 0, 1) := by decide +kernel
theorem dX9_plans_38 : decode cX9_plans 38 = .ok (.getfield 25, 3) := by decide +kernel
theorem dX9_plans_41 : decode cX9_plans 41 = .ok (.iload 4, 2) := by decide +kernel
theorem dX9_plans_43 : decode cX9_plans 43 = .ok (.aload_n 0, 1) := by decide +kernel
theorem dX9_plans_44 : decode cX9_plans 44 = .ok (.getfield 65, 3) := by decide +kernel
theorem dX9_plans_47 : decode cX9_plans 47 = .ok (.iload 4, 2) := by decide +kernel
theorem dX9_plans_49 : decode cX9_plans 49 = .ok (.iaload, 1) := by decide +kernel
theorem dX9_plans_50 : decode cX9_plans 50 = .ok (.ifCond .ne 7, 3) := by decide +kernel
theorem dX9_plans_53 : decode cX9_plans 53 = .ok (.iconst 0, 1) := by decide +kernel
theorem dX9_plans_54 : decode cX9_plans 54 = .ok (.goto 11, 3) := by decide +kernel
theorem dX9_plans_57 : decode cX9_plans 57 = .ok (.aload_n 0, 1) := by decide +kernel
theorem dX9_plans_58 : decode cX9_plans 58 = .ok (.iload_n 1, 1) := by decide +kernel
theorem dX9_plans_59 : decode cX9_plans 59 = .ok (.iload 4, 2) := by decide +kernel
theorem dX9_plans_61 : decode cX9_plans 61 = .ok (.iload_n 2, 1) := by decide +kernel
theorem dX9_plans_62 : decode cX9_plans 62 = .ok (.invokevirtual 187, 3) := by decide +kernel
theorem dX9_plans_65 : decode cX9_plans 65 = .ok (.iastore, 1) := by decide +kernel
theorem dX9_plans_66 : decode cX9_plans 66 = .ok (.aload_n 0, 1) := by decide +kernel
theorem dX9_plans_67 : decode cX9_plans 67 = .ok (.getfield 25, 3) := by decide +kernel
theorem dX9_plans_70 : decode cX9_plans 70 = .ok (.iload 4, 2) := by decide +kernel
theorem dX9_plans_72 : decode cX9_plans 72 = .ok (.iaload, 1) := by decide +kernel
theorem dX9_plans_73 : decode cX9_plans 73 = .ok (.iload_n 3, 1) := by decide +kernel
theorem dX9_plans_74 : decode cX9_plans 74 = .ok (.if_icmp .le 13, 3) := by decide +kernel
theorem dX9_plans_77 : decode cX9_plans 77 = .ok (.aload_n 0, 1) := by decide +kernel
theorem dX9_plans_78 : decode cX9_plans 78 = .ok (.getfield 25, 3) := by decide +kernel
theorem dX9_plans_81 : decode cX9_plans 81 = .ok (.iload 4, 2) := by decide +kernel
theorem dX9_plans_83 : decode cX9_plans 83 = .ok (.iaload, 1) := by decide +kernel
theorem dX9_plans_84 : decode cX9_plans 84 = .ok (.goto 4, 3) := by decide +kernel
theorem dX9_plans_87 : decode cX9_plans 87 = .ok (.iload_n 3, 1) := by decide +kernel
theorem dX9_plans_88 : decode cX9_plans 88 = .ok (.istore_n 3, 1) := by decide +kernel
theorem dX9_plans_89 : decode cX9_plans 89 = .ok (.iinc 4 1, 3) := by decide +kernel
theorem dX9_plans_92 : decode cX9_plans 92 = .ok (.goto (-62), 3) := by decide +kernel
theorem dX9_plans_95 : decode cX9_plans 95 = .ok (.iconst 1, 1) := by decide +kernel
theorem dX9_plans_96 : decode cX9_plans 96 = .ok (.istore 4, 2) := by decide +kernel
theorem dX9_plans_98 : decode cX9_plans 98 = .ok (.iload 4, 2) := by decide +kernel
theorem dX9_plans_100 : decode cX9_plans 100 = .ok (.iload_n 3, 1) := by decide +kernel
theorem dX9_plans_101 : decode cX9_plans 101 = .ok (.if_icmp .gt 109, 3) := by decide +kernel
theorem dX9_plans_104 : decode cX9_plans 104 = .ok (.iconst 0, 1) := by decide +kernel
theorem dX9_plans_105 : decode cX9_plans 105 = .ok (.istore 5, 2) := by decide +kernel
theorem dX9_plans_107 : decode cX9_plans 107 = .ok (.iconst 0, 1) := by decide +kernel
theorem dX9_plans_108 : decode cX9_plans 108 = .ok (.istore 6, 2) := by decide +kernel
theorem dX9_plans_110 : decode cX9_plans 110 = .ok (.iload 6, 2) := by decide +kernel
theorem dX9_plans_112 : decode cX9_plans 112 = .ok (.bipush 64, 2) := by decide +kernel
theorem dX9_plans_114 : decode cX9_plans 114 = .ok (.if_icmp .ge 90, 3) := by decide +kernel
theorem dX9_plans_117 : decode cX9_plans 117 = .ok (.aload_n 0, 1) := by decide +kernel
theorem dX9_plans_118 : decode cX9_plans 118 = .ok (.getfield 65, 3) := by decide +kernel
theorem dX9_plans_121 : decode cX9_plans 121 = .ok (.iload 6, 2) := by decide +kernel
theorem dX9_plans_123 : decode cX9_plans 123 = .ok (.iaload, 1) := by decide +kernel
theorem dX9_plans_124 : decode cX9_plans 124 = .ok (.ifCond .ne 6, 3) := by decide +kernel
theorem dX9_plans_127 : decode cX9_plans 127 = .ok (.goto 71, 3) := by decide +kernel
theorem dX9_plans_130 : decode cX9_plans 130 = .ok (.aload_n 0, 1) := by decide +kernel
theorem dX9_plans_131 : decode cX9_plans 131 = .ok (.getfield 25, 3) := by decide +kernel
theorem dX9_plans_134 : decode cX9_plans 134 = .ok (.iload 6, 2) := by decide +kernel
theorem dX9_plans_136 : decode cX9_plans 136 = .ok (.iaload, 1) := by decide +kernel
theorem dX9_plans_137 : decode cX9_plans 137 = .ok (.iload 4, 2) := by decide +kernel
theorem dX9_plans_139 : decode cX9_plans 139 = .ok (.if_icmp .ne 56, 3) := by decide +kernel
theorem dX9_plans_142 : decode cX9_plans 142 = .ok (.aload_n 0, 1) := by decide +kernel
theorem dX9_plans_143 : decode cX9_plans 143 = .ok (.getfield 68, 3) := by decide +kernel
theorem dX9_plans_146 : decode cX9_plans 146 = .ok (.aload_n 0, 1) := by decide +kernel
theorem dX9_plans_147 : decode cX9_plans 147 = .ok (.getfield 296, 3) := by decide +kernel
theorem dX9_plans_150 : decode cX9_plans 150 = .ok (.iload 5, 2) := by decide +kernel
theorem dX9_plans_152 : decode cX9_plans 152 = .ok (.iastore, 1) := by decide +kernel
theorem dX9_plans_153 : decode cX9_plans 153 = .ok (.aload_n 0, 1) := by decide +kernel
theorem dX9_plans_154 : decode cX9_plans 154 = .ok (.getfield 71, 3) := by decide +kernel
theorem dX9_plans_157 : decode cX9_plans 157 = .ok (.aload_n 0, 1) := by decide +kernel
theorem dX9_plans_158 : decode cX9_plans 158 = .ok (.getfield 296, 3) := by decide +kernel
theorem dX9_plans_161 : decode cX9_plans 161 = .ok (.iload_n 2, 1) := by decide +kernel
theorem dX9_plans_162 : decode cX9_plans 162 = .ok (.iastore, 1) := by decide +kernel
theorem dX9_plans_163 : decode cX9_plans 163 = .ok (.aload_n 0, 1) := by decide +kernel
theorem dX9_plans_164 : decode cX9_plans 164 = .ok (.getfield 74, 3) := by decide +kernel
theorem dX9_plans_167 : decode cX9_plans 167 = .ok (.aload_n 0, 1) := by decide +kernel
theorem dX9_plans_168 : decode cX9_plans 168 = .ok (.getfield 296, 3) := by decide +kernel
theorem dX9_plans_171 : decode cX9_plans 171 = .ok (.iload 4, 2) := by decide +kernel
theorem dX9_plans_173 : decode cX9_plans 173 = .ok (.iastore, 1) := by decide +kernel
theorem dX9_plans_174 : decode cX9_plans 174 = .ok (.aload_n 0, 1) := by decide +kernel
theorem dX9_plans_175 : decode cX9_plans 175 = .ok (.dup, 1) := by decide +kernel
theorem dX9_plans_176 : decode cX9_plans 176 = .ok (.getfield 296, 3) := by decide +kernel
theorem dX9_plans_179 : decode cX9_plans 179 = .ok (.iconst 1, 1) := by decide +kernel
theorem dX9_plans_180 : decode cX9_plans 180 = .ok (.iadd, 1) := by decide +kernel
theorem dX9_plans_181 : decode cX9_plans 181 = .ok (.putfield 296, 3) := by decide +kernel
theorem dX9_plans_184 : decode cX9_plans 184 = .ok (.aload_n 0, 1) := by decide +kernel
theorem dX9_plans_185 : decode cX9_plans 185 = .ok (.dup, 1) := by decide +kernel
theorem dX9_plans_186 : decode cX9_plans 186 = .ok (.getfield 312, 3) := by decide +kernel
theorem dX9_plans_189 : decode cX9_plans 189 = .ok (.iload 4, 2) := by decide +kernel
theorem dX9_plans_191 : decode cX9_plans 191 = .ok (.iadd, 1) := by decide +kernel
theorem dX9_plans_192 : decode cX9_plans 192 = .ok (.putfield 312, 3) := by decide +kernel
theorem dX9_plans_195 : decode cX9_plans 195 = .ok (.iinc 5 1, 3) := by decide +kernel
theorem dX9_plans_198 : decode cX9_plans 198 = .ok (.iinc 6 1, 3) := by decide +kernel
theorem dX9_plans_201 : decode cX9_plans 201 = .ok (.goto (-91), 3) := by decide +kernel
theorem dX9_plans_204 : decode cX9_plans 204 = .ok (.iinc 4 1, 3) := by decide +kernel
theorem dX9_plans_207 : decode cX9_plans 207 = .ok (.goto (-109), 3) := by decide +kernel
theorem dX9_plans_210 : decode cX9_plans 210 = .ok (.iinc 2 (-1), 3) := by decide +kernel
theorem dX9_plans_213 : decode cX9_plans 213 = .ok (.goto (-199), 3) := by decide +kernel
theorem dX9_plans_216 : decode cX9_plans 216 = .ok (.return_, 1) := by decide +kernel
theorem dX9_works_0 : decode cX9_works 0 = .ok (.aload_n 0, 1) := by decide +kernel
theorem dX9_works_1 : decode cX9_works 1 = .ok (.getfield 68, 3) := by decide +kernel
theorem dX9_works_4 : decode cX9_works 4 = .ok (.aload_n 0, 1) := by decide +kernel
theorem dX9_works_5 : decode cX9_works 5 = .ok (.getfield 287, 3) := by decide +kernel
theorem dX9_works_8 : decode cX9_works 8 = .ok (.iaload, 1) := by decide +kernel
theorem dX9_works_9 : decode cX9_works 9 = .ok (.istore_n 2, 1) := by decide +kernel
theorem dX9_works_10 : decode cX9_works 10 = .ok (.iconst (-1), 1) := by decide +kernel
theorem dX9_works_11 : decode cX9_works 11 = .ok (.istore_n 3, 1) := by decide +kernel
theorem dX9_works_12 : decode cX9_works 12 = .ok (.iload_n 2, 1) := by decide +kernel
theorem dX9_works_13 : decode cX9_works 13 = .ok (.ifCond .lt 22, 3) := by decide +kernel
theorem dX9_works_16 : decode cX9_works 16 = .ok (.iinc 3 1, 3) := by decide +kernel
theorem dX9_works_19 : decode cX9_works 19 = .ok (.aload_n 0, 1) := by decide +kernel
theorem dX9_works_20 : decode cX9_works 20 = .ok (.getfield 65, 3) := by decide +kernel
theorem dX9_works_23 : decode cX9_works 23 = .ok (.iload_n 3, 1) := by decide +kernel
theorem dX9_works_24 : decode cX9_works 24 = .ok (.iaload, 1) := by decide +kernel
theorem dX9_works_25 : decode cX9_works 25 = .ok (.iconst 1, 1) := by decide +kernel
theorem dX9_works_26 : decode cX9_works 26 = .ok (.if_icmp .ne (-14), 3) := by decide +kernel
theorem dX9_works_29 : decode cX9_works 29 = .ok (.iinc 2 (-1), 3) := by decide +kernel
theorem dX9_works_32 : decode cX9_works 32 = .ok (.goto (-20), 3) := by decide +kernel
theorem dX9_works_35 : decode cX9_works 35 = .ok (.iconst 0, 1) := by decide +kernel
theorem dX9_works_36 : decode cX9_works 36 = .ok (.istore 4, 2) := by decide +kernel
theorem dX9_works_38 : decode cX9_works 38 = .ok (.iload 4, 2) := by decide +kernel
theorem dX9_works_40 : decode cX9_works 40 = .ok (.aload_n 0, 1) := by decide +kernel
theorem dX9_works_41 : decode cX9_works 41 = .ok (.getfield 34, 3) := by decide +kernel
theorem dX9_works_44 : decode cX9_works 44 = .ok (.iload_n 1, 1) := by decide +kernel
theorem dX9_works_45 : decode cX9_works 45 = .ok (.iaload, 1) := by decide +kernel
theorem dX9_works_46 : decode cX9_works 46 = .ok (.if_icmp .ge 53, 3) := by decide +kernel
theorem dX9_works_49 : decode cX9_works 49 = .ok (.aload_n 0, 1) := by decide +kernel
theorem dX9_works_50 : decode cX9_works 50 = .ok (.getfield 43, 3) := by decide +kernel
theorem dX9_works_53 : decode cX9_works 53 = .ok (.aload_n 0, 1) := by decide +kernel
theorem dX9_works_54 : decode cX9_works 54 = .ok (.iload_n 1, 1) := by decide +kernel
theorem dX9_works_55 : decode cX9_works 55 = .ok (.iload_n 3, 1) := by decide +kernel
theorem dX9_works_56 : decode cX9_works 56 = .ok (.iload 4, 2) := by decide +kernel
theorem dX9_works_58 : decode cX9_works 58 = .ok (.invokevirtual 162, 3) := by decide +kernel
theorem dX9_works_61 : decode cX9_works 61 = .ok (.iaload, 1) := by decide +kernel
theorem dX9_works_62 : decode cX9_works 62 = .ok (.aload_n 0, 1) := by decide +kernel
theorem dX9_works_63 : decode cX9_works 63 = .ok (.getfield 71, 3) := by decide +kernel
theorem dX9_works_66 : decode cX9_works 66 = .ok (.aload_n 0, 1) := by decide +kernel
theorem dX9_works_67 : decode cX9_works 67 = .ok (.getfield 287, 3) := by decide +kernel
theorem dX9_works_70 : decode cX9_works 70 = .ok (.iaload, 1) := by decide +kernel
theorem dX9_works_71 : decode cX9_works 71 = .ok (.if_icmp .ne 22, 3) := by decide +kernel
theorem dX9_works_74 : decode cX9_works 74 = .ok (.aload_n 0, 1) := by decide +kernel
theorem dX9_works_75 : decode cX9_works 75 = .ok (.getfield 77, 3) := by decide +kernel
theorem dX9_works_78 : decode cX9_works 78 = .ok (.iload 4, 2) := by decide +kernel
theorem dX9_works_80 : decode cX9_works 80 = .ok (.dup2, 1) := by decide +kernel
theorem dX9_works_81 : decode cX9_works 81 = .ok (.iaload, 1) := by decide +kernel
theorem dX9_works_82 : decode cX9_works 82 = .ok (.aload_n 0, 1) := by decide +kernel
theorem dX9_works_83 : decode cX9_works 83 = .ok (.getfield 71, 3) := by decide +kernel
theorem dX9_works_86 : decode cX9_works 86 = .ok (.aload_n 0, 1) := by decide +kernel
theorem dX9_works_87 : decode cX9_works 87 = .ok (.getfield 287, 3) := by decide +kernel
theorem dX9_works_90 : decode cX9_works 90 = .ok (.iaload, 1) := by decide +kernel
theorem dX9_works_91 : decode cX9_works 91 = .ok (.iadd, 1) := by decide +kernel
theorem dX9_works_92 : decode cX9_works 92 = .ok (.iastore, 1) := by decide +kernel
theorem dX9_works_93 : decode cX9_works 93 = .ok (.iinc 4 1, 3) := by decide +kernel
theorem dX9_works_96 : decode cX9_works 96 = .ok (.goto (-58), 3) := by decide +kernel
theorem dX9_works_99 : decode cX9_works 99 = .ok (.aload_n 0, 1) := by decide +kernel
theorem dX9_works_100 : decode cX9_works 100 = .ok (.dup, 1) := by decide +kernel
theorem dX9_works_101 : decode cX9_works 101 = .ok (.getfield 299, 3) := by decide +kernel
theorem dX9_works_104 : decode cX9_works 104 = .ok (.aload_n 0, 1) := by decide +kernel
theorem dX9_works_105 : decode cX9_works 105 = .ok (.getfield 74, 3) := by decide +kernel
theorem dX9_works_108 : decode cX9_works 108 = .ok (.aload_n 0, 1) := by decide +kernel
theorem dX9_works_109 : decode cX9_works 109 = .ok (.getfield 287, 3) := by decide +kernel
theorem dX9_works_112 : decode cX9_works 112 = .ok (.iaload, 1) := by decide +kernel
theorem dX9_works_113 : decode cX9_works 113 = .ok (.i2l, 1) := by decide +kernel
theorem dX9_works_114 : decode cX9_works 114 = .ok (.ladd, 1) := by decide +kernel
theorem dX9_works_115 : decode cX9_works 115 = .ok (.putfield 299, 3) := by decide +kernel
theorem dX9_works_118 : decode cX9_works 118 = .ok (.aload_n 0, 1) := by decide +kernel
theorem dX9_works_119 : decode cX9_works 119 = .ok (.dup, 1) := by decide +kernel
theorem dX9_works_120 : decode cX9_works 120 = .ok (.getfield 290, 3) := by decide +kernel
theorem dX9_works_123 : decode cX9_works 123 = .ok (.aload_n 0, 1) := by decide +kernel
theorem dX9_works_124 : decode cX9_works 124 = .ok (.getfield 74, 3) := by decide +kernel
theorem dX9_works_127 : decode cX9_works 127 = .ok (.aload_n 0, 1) := by decide +kernel
theorem dX9_works_128 : decode cX9_works 128 = .ok (.getfield 287, 3) := by decide +kernel
theorem dX9_works_131 : decode cX9_works 131 = .ok (.iaload, 1) := by decide +kernel
theorem dX9_works_132 : decode cX9_works 132 = .ok (.iadd, 1) := by decide +kernel
theorem dX9_works_133 : decode cX9_works 133 = .ok (.putfield 290, 3) := by decide +kernel
theorem dX9_works_136 : decode cX9_works 136 = .ok (.aload_n 0, 1) := by decide +kernel
theorem dX9_works_137 : decode cX9_works 137 = .ok (.dup, 1) := by decide +kernel
theorem dX9_works_138 : decode cX9_works 138 = .ok (.getfield 287, 3) := by decide +kernel
theorem dX9_works_141 : decode cX9_works 141 = .ok (.iconst 1, 1) := by decide +kernel
theorem dX9_works_142 : decode cX9_works 142 = .ok (.iadd, 1) := by decide +kernel
theorem dX9_works_143 : decode cX9_works 143 = .ok (.putfield 287, 3) := by decide +kernel
theorem dX9_works_146 : decode cX9_works 146 = .ok (.return_, 1) := by decide +kernel
theorem dX9_ranks_0 : decode cX9_ranks 0 = .ok (.aload_n 0, 1) := by decide +kernel
theorem dX9_ranks_1 : decode cX9_ranks 1 = .ok (.iconst 0, 1) := by decide +kernel
theorem dX9_ranks_2 : decode cX9_ranks 2 = .ok (.putfield 309, 3) := by decide +kernel
theorem dX9_ranks_5 : decode cX9_ranks 5 = .ok (.iconst 0, 1) := by decide +kernel
theorem dX9_ranks_6 : decode cX9_ranks 6 = .ok (.istore_n 2, 1) := by decide +kernel
theorem dX9_ranks_7 : decode cX9_ranks 7 = .ok (.iload_n 2, 1) := by decide +kernel
theorem dX9_ranks_8 : decode cX9_ranks 8 = .ok (.bipush 40, 2) := by decide +kernel
theorem dX9_ranks_10 : decode cX9_ranks 10 = .ok (.if_icmp .ge 107, 3) := by decide +kernel
theorem dX9_ranks_13 : decode cX9_ranks 13 = .ok (.iconst 0, 1) := by decide +kernel
theorem dX9_ranks_14 : decode cX9_ranks 14 = .ok (.istore_n 3, 1) := by decide +kernel
theorem dX9_ranks_15 : decode cX9_ranks 15 = .ok (.iconst 0, 1) := by decide +kernel
theorem dX9_ranks_16 : decode cX9_ranks 16 = .ok (.istore 4, 2) := by decide +kernel
theorem dX9_ranks_18 : decode cX9_ranks 18 = .ok (.iload 4, 2) := by decide +kernel
theorem dX9_ranks_20 : decode cX9_ranks 20 = .ok (.bipush 40, 2) := by decide +kernel
theorem dX9_ranks_22 : decode cX9_ranks 22 = .ok (.if_icmp .ge 55, 3) := by decide +kernel
theorem dX9_ranks_25 : decode cX9_ranks 25 = .ok (.iload_n 3, 1) := by decide +kernel
theorem dX9_ranks_26 : decode cX9_ranks 26 = .ok (.aload_n 0, 1) := by decide +kernel
theorem dX9_ranks_27 : decode cX9_ranks 27 = .ok (.getfield 77, 3) := by decide +kernel
theorem dX9_ranks_30 : decode cX9_ranks 30 = .ok (.iload 4, 2) := by decide +kernel
theorem dX9_ranks_32 : decode cX9_ranks 32 = .ok (.iaload, 1) := by decide +kernel
theorem dX9_ranks_33 : decode cX9_ranks 33 = .ok (.aload_n 0, 1) := by decide +kernel
theorem dX9_ranks_34 : decode cX9_ranks 34 = .ok (.getfield 77, 3) := by decide +kernel
theorem dX9_ranks_37 : decode cX9_ranks 37 = .ok (.iload_n 2, 1) := by decide +kernel
theorem dX9_ranks_38 : decode cX9_ranks 38 = .ok (.iaload, 1) := by decide +kernel
theorem dX9_ranks_39 : decode cX9_ranks 39 = .ok (.if_icmp .gt 25, 3) := by decide +kernel
theorem dX9_ranks_42 : decode cX9_ranks 42 = .ok (.aload_n 0, 1) := by decide +kernel
theorem dX9_ranks_43 : decode cX9_ranks 43 = .ok (.getfield 77, 3) := by decide +kernel
theorem dX9_ranks_46 : decode cX9_ranks 46 = .ok (.iload 4, 2) := by decide +kernel
theorem dX9_ranks_48 : decode cX9_ranks 48 = .ok (.iaload, 1) := by decide +kernel
theorem dX9_ranks_49 : decode cX9_ranks 49 = .ok (.aload_n 0, 1) := by decide +kernel
theorem dX9_ranks_50 : decode cX9_ranks 50 = .ok (.getfield 77, 3) := by decide +kernel
theorem dX9_ranks_53 : decode cX9_ranks 53 = .ok (.iload_n 2, 1) := by decide +kernel
theorem dX9_ranks_54 : decode cX9_ranks 54 = .ok (.iaload, 1) := by decide +kernel
theorem dX9_ranks_55 : decode cX9_ranks 55 = .ok (.if_icmp .ne 13, 3) := by decide +kernel
theorem dX9_ranks_58 : decode cX9_ranks 58 = .ok (.iload 4, 2) := by decide +kernel
theorem dX9_ranks_60 : decode cX9_ranks 60 = .ok (.iload_n 2, 1) := by decide +kernel
theorem dX9_ranks_61 : decode cX9_ranks 61 = .ok (.if_icmp .ge 7, 3) := by decide +kernel
theorem dX9_ranks_64 : decode cX9_ranks 64 = .ok (.iconst 1, 1) := by decide +kernel
theorem dX9_ranks_65 : decode cX9_ranks 65 = .ok (.goto 4, 3) := by decide +kernel
theorem dX9_ranks_68 : decode cX9_ranks 68 = .ok (.iconst 0, 1) := by decide +kernel
theorem dX9_ranks_69 : decode cX9_ranks 69 = .ok (.iadd, 1) := by decide +kernel
theorem dX9_ranks_70 : decode cX9_ranks 70 = .ok (.istore_n 3, 1) := by decide +kernel
theorem dX9_ranks_71 : decode cX9_ranks 71 = .ok (.iinc 4 1, 3) := by decide +kernel
theorem dX9_ranks_74 : decode cX9_ranks 74 = .ok (.goto (-56), 3) := by decide +kernel
theorem dX9_ranks_77 : decode cX9_ranks 77 = .ok (.aload_n 0, 1) := by decide +kernel
theorem dX9_ranks_78 : decode cX9_ranks 78 = .ok (.getfield 77, 3) := by decide +kernel
theorem dX9_ranks_81 : decode cX9_ranks 81 = .ok (.iload_n 2, 1) := by decide +kernel
theorem dX9_ranks_82 : decode cX9_ranks 82 = .ok (.iaload, 1) := by decide +kernel
theorem dX9_ranks_83 : decode cX9_ranks 83 = .ok (.ifCond .eq 28, 3) := by decide +kernel
theorem dX9_ranks_86 : decode cX9_ranks 86 = .ok (.iload_n 3, 1) := by decide +kernel
theorem dX9_ranks_87 : decode cX9_ranks 87 = .ok (.iload_n 1, 1) := by decide +kernel
theorem dX9_ranks_88 : decode cX9_ranks 88 = .ok (.if_icmp .lt 6, 3) := by decide +kernel
theorem dX9_ranks_91 : decode cX9_ranks 91 = .ok (.goto 20, 3) := by decide +kernel
theorem dX9_ranks_94 : decode cX9_ranks 94 = .ok (.aload_n 0, 1) := by decide +kernel
theorem dX9_ranks_95 : decode cX9_ranks 95 = .ok (.getfield 80, 3) := by decide +kernel
theorem dX9_ranks_98 : decode cX9_ranks 98 = .ok (.iload_n 3, 1) := by decide +kernel
theorem dX9_ranks_99 : decode cX9_ranks 99 = .ok (.iload_n 2, 1) := by decide +kernel
theorem dX9_ranks_100 : decode cX9_ranks 100 = .ok (.iastore, 1) := by decide +kernel
theorem dX9_ranks_101 : decode cX9_ranks 101 = .ok (.aload_n 0, 1) := by decide +kernel
theorem dX9_ranks_102 : decode cX9_ranks 102 = .ok (.dup, 1) := by decide +kernel
theorem dX9_ranks_103 : decode cX9_ranks 103 = .ok (.getfield 309, 3) := by decide +kernel
theorem dX9_ranks_106 : decode cX9_ranks 106 = .ok (.iconst 1, 1) := by decide +kernel
theorem dX9_ranks_107 : decode cX9_ranks 107 = .ok (.iadd, 1) := by decide +kernel
theorem dX9_ranks_108 : decode cX9_ranks 108 = .ok (.putfield 309, 3) := by decide +kernel
theorem dX9_ranks_111 : decode cX9_ranks 111 = .ok (.iinc 2 1, 3) := by decide +kernel
theorem dX9_ranks_114 : decode cX9_ranks 114 = .ok (.goto (-107), 3) := by decide +kernel
theorem dX9_ranks_117 : decode cX9_ranks 117 = .ok (.return_, 1) := by decide +kernel
theorem dX9_hit_0 : decode cX9_hit 0 = .ok (.aload_n 0, 1) := by decide +kernel
theorem dX9_hit_1 : decode cX9_hit 1 = .ok (.iload_n 1, 1) := by decide +kernel
theorem dX9_hit_2 : decode cX9_hit 2 = .ok (.i2l, 1) := by decide +kernel
theorem dX9_hit_3 : decode cX9_hit 3 = .ok (.lconst 0, 1) := by decide +kernel
theorem dX9_hit_4 : decode cX9_hit 4 = .ok (.aload_n 0, 1) := by decide +kernel
theorem dX9_hit_5 : decode cX9_hit 5 = .ok (.getfield 309, 3) := by decide +kernel
theorem dX9_hit_8 : decode cX9_hit 8 = .ok (.iconst 1, 1) := by decide +kernel
theorem dX9_hit_9 : decode cX9_hit 9 = .ok (.isub, 1) := by decide +kernel
theorem dX9_hit_10 : decode cX9_hit 10 = .ok (.i2l, 1) := by decide +kernel
theorem dX9_hit_11 : decode cX9_hit 11 = .ok (.invokestatic 89, 3) := by decide +kernel
theorem dX9_hit_14 : decode cX9_hit 14 = .ok (.ifCond .eq 13, 3) := by decide +kernel
theorem dX9_hit_17 : decode cX9_hit 17 = .ok (.iload_n 2, 1) := by decide +kernel
theorem dX9_hit_18 : decode cX9_hit 18 = .ok (.i2l, 1) := by decide +kernel
theorem dX9_hit_19 : decode cX9_hit 19 = .ok (.lconst 0, 1) := by decide +kernel
theorem dX9_hit_20 : decode cX9_hit 20 = .ok (.lconst 1, 1) := by decide +kernel
theorem dX9_hit_21 : decode cX9_hit 21 = .ok (.invokestatic 89, 3) := by decide +kernel
theorem dX9_hit_24 : decode cX9_hit 24 = .ok (.ifCond .ne 7, 3) := by decide +kernel
theorem dX9_hit_27 : decode cX9_hit 27 = .ok (.iconst 1, 1) := by decide +kernel
theorem dX9_hit_28 : decode cX9_hit 28 = .ok (.goto 4, 3) := by decide +kernel
theorem dX9_hit_31 : decode cX9_hit 31 = .ok (.iconst 0, 1) := by decide +kernel
theorem dX9_hit_32 : decode cX9_hit 32 = .ok (.iconst 1, 1) := by decide +kernel
theorem dX9_hit_33 : decode cX9_hit 33 = .ok (.invokevirtual 93, 3) := by decide +kernel
theorem dX9_hit_36 : decode cX9_hit 36 = .ok (.ifCond .eq 5, 3) := by decide +kernel
theorem dX9_hit_39 : decode cX9_hit 39 = .ok (.iconst 0, 1) := by decide +kernel
theorem dX9_hit_40 : decode cX9_hit 40 = .ok (.ireturn, 1) := by decide +kernel
theorem dX9_hit_41 : decode cX9_hit 41 = .ok (.iload_n 2, 1) := by decide +kernel
theorem dX9_hit_42 : decode cX9_hit 42 = .ok (.ifCond .ne 12, 3) := by decide +kernel
theorem dX9_hit_45 : decode cX9_hit 45 = .ok (.aload_n 0, 1) := by decide +kernel
theorem dX9_hit_46 : decode cX9_hit 46 = .ok (.getfield 80, 3) := by decide +kernel
theorem dX9_hit_49 : decode cX9_hit 49 = .ok (.iload_n 1, 1) := by decide +kernel
theorem dX9_hit_50 : decode cX9_hit 50 = .ok (.iaload, 1) := by decide +kernel
theorem dX9_hit_51 : decode cX9_hit 51 = .ok (.goto 14, 3) := by decide +kernel
theorem dX9_hit_54 : decode cX9_hit 54 = .ok (.aload_n 0, 1) := by decide +kernel
theorem dX9_hit_55 : decode cX9_hit 55 = .ok (.getfield 77, 3) := by decide +kernel
theorem dX9_hit_58 : decode cX9_hit 58 = .ok (.aload_n 0, 1) := by decide +kernel
theorem dX9_hit_59 : decode cX9_hit 59 = .ok (.getfield 80, 3) := by decide +kernel
theorem dX9_hit_62 : decode cX9_hit 62 = .ok (.iload_n 1, 1) := by decide +kernel
theorem dX9_hit_63 : decode cX9_hit 63 = .ok (.iaload, 1) := by decide +kernel
theorem dX9_hit_64 : decode cX9_hit 64 = .ok (.iaload, 1) := by decide +kernel
theorem dX9_hit_65 : decode cX9_hit 65 = .ok (.ireturn, 1) := by decide +kernel
theorem dX9_sum_0 : decode cX9_sum 0 = .ok (.aload_n 0, 1) := by decide +kernel
theorem dX9_sum_1 : decode cX9_sum 1 = .ok (.iload_n 1, 1) := by decide +kernel
theorem dX9_sum_2 : decode cX9_sum 2 = .ok (.i2l, 1) := by decide +kernel
theorem dX9_sum_3 : decode cX9_sum 3 = .ok (.lconst 0, 1) := by decide +kernel
theorem dX9_sum_4 : decode cX9_sum 4 = .ok (.ldc2_w 315, 3) := by decide +kernel
theorem dX9_sum_7 : decode cX9_sum 7 = .ok (.invokestatic 89, 3) := by decide +kernel
theorem dX9_sum_10 : decode cX9_sum 10 = .ok (.ifCond .ne 7, 3) := by decide +kernel
theorem dX9_sum_13 : decode cX9_sum 13 = .ok (.iconst 1, 1) := by decide +kernel
theorem dX9_sum_14 : decode cX9_sum 14 = .ok (.goto 4, 3) := by decide +kernel
theorem dX9_sum_17 : decode cX9_sum 17 = .ok (.iconst 0, 1) := by decide +kernel
theorem dX9_sum_18 : decode cX9_sum 18 = .ok (.iconst 1, 1) := by decide +kernel
theorem dX9_sum_19 : decode cX9_sum 19 = .ok (.invokevirtual 93, 3) := by decide +kernel
theorem dX9_sum_22 : decode cX9_sum 22 = .ok (.ifCond .eq 7, 3) := by decide +kernel
theorem dX9_sum_25 : decode cX9_sum 25 = .ok (.iconst 0, 1) := by decide +kernel
theorem dX9_sum_26 : decode cX9_sum 26 = .ok (.goto 9, 3) := by decide +kernel
theorem dX9_sum_29 : decode cX9_sum 29 = .ok (.aload_n 0, 1) := by decide +kernel
theorem dX9_sum_30 : decode cX9_sum 30 = .ok (.getfield 77, 3) := by decide +kernel
theorem dX9_sum_33 : decode cX9_sum 33 = .ok (.iload_n 1, 1) := by decide +kernel
theorem dX9_sum_34 : decode cX9_sum 34 = .ok (.iaload, 1) := by decide +kernel
theorem dX9_sum_35 : decode cX9_sum 35 = .ok (.ireturn, 1) := by decide +kernel
theorem dX9_last_0 : decode cX9_last 0 = .ok (.aload_n 0, 1) := by decide +kernel
theorem dX9_last_1 : decode cX9_last 1 = .ok (.iload_n 1, 1) := by decide +kernel
theorem dX9_last_2 : decode cX9_last 2 = .ok (.i2l, 1) := by decide +kernel
theorem dX9_last_3 : decode cX9_last 3 = .ok (.lconst 0, 1) := by decide +kernel
theorem dX9_last_4 : decode cX9_last 4 = .ok (.ldc2_w 317, 3) := by decide +kernel
theorem dX9_last_7 : decode cX9_last 7 = .ok (.invokestatic 89, 3) := by decide +kernel
theorem dX9_last_10 : decode cX9_last 10 = .ok (.ifCond .ne 7, 3) := by decide +kernel
theorem dX9_last_13 : decode cX9_last 13 = .ok (.iconst 1, 1) := by decide +kernel
theorem dX9_last_14 : decode cX9_last 14 = .ok (.goto 4, 3) := by decide +kernel
theorem dX9_last_17 : decode cX9_last 17 = .ok (.iconst 0, 1) := by decide +kernel
theorem dX9_last_18 : decode cX9_last 18 = .ok (.iconst 1, 1) := by decide +kernel
theorem dX9_last_19 : decode cX9_last 19 = .ok (.invokevirtual 93, 3) := by decide +kernel
theorem dX9_last_22 : decode cX9_last 22 = .ok (.ifCond .eq 5, 3) := by decide +kernel
theorem dX9_last_25 : decode cX9_last 25 = .ok (.iconst 0, 1) := by decide +kernel
theorem dX9_last_26 : decode cX9_last 26 = .ok (.ireturn, 1) := by decide +kernel
theorem dX9_last_27 : decode cX9_last 27 = .ok (.iload_n 1, 1) := by decide +kernel
theorem dX9_last_28 : decode cX9_last 28 = .ok (.tableswitch 61 0 4 #[36, 41, 46, 51, 56], 36) := by decide +kernel
theorem dX9_last_64 : decode cX9_last 64 = .ok (.aload_n 0, 1) := by decide +kernel
theorem dX9_last_65 : decode cX9_last 65 = .ok (.getfield 281, 3) := by decide +kernel
theorem dX9_last_68 : decode cX9_last 68 = .ok (.ireturn, 1) := by decide +kernel
theorem dX9_last_69 : decode cX9_last 69 = .ok (.aload_n 0, 1) := by decide +kernel
theorem dX9_last_70 : decode cX9_last 70 = .ok (.getfield 296, 3) := by decide +kernel
theorem dX9_last_73 : decode cX9_last 73 = .ok (.ireturn, 1) := by decide +kernel
theorem dX9_last_74 : decode cX9_last 74 = .ok (.aload_n 0, 1) := by decide +kernel
theorem dX9_last_75 : decode cX9_last 75 = .ok (.getfield 287, 3) := by decide +kernel
theorem dX9_last_78 : decode cX9_last 78 = .ok (.ireturn, 1) := by decide +kernel
theorem dX9_last_79 : decode cX9_last 79 = .ok (.aload_n 0, 1) := by decide +kernel
theorem dX9_last_80 : decode cX9_last 80 = .ok (.getfield 290, 3) := by decide +kernel
theorem dX9_last_83 : decode cX9_last 83 = .ok (.ireturn, 1) := by decide +kernel
theorem dX9_last_84 : decode cX9_last 84 = .ok (.aload_n 0, 1) := by decide +kernel
theorem dX9_last_85 : decode cX9_last 85 = .ok (.getfield 312, 3) := by decide +kernel
theorem dX9_last_88 : decode cX9_last 88 = .ok (.ireturn, 1) := by decide +kernel
theorem dX9_last_89 : decode cX9_last 89 = .ok (.aload_n 0, 1) := by decide +kernel
theorem dX9_last_90 : decode cX9_last 90 = .ok (.getfield 293, 3) := by decide +kernel
theorem dX9_last_93 : decode cX9_last 93 = .ok (.ireturn, 1) := by decide +kernel
theorem dX9_plan_0 : decode cX9_plan 0 = .ok (.aload_n 0, 1) := by decide +kernel
theorem dX9_plan_1 : decode cX9_plan 1 = .ok (.iload_n 1, 1) := by decide +kernel
theorem dX9_plan_2 : decode cX9_plan 2 = .ok (.i2l, 1) := by decide +kernel
theorem dX9_plan_3 : decode cX9_plan 3 = .ok (.lconst 0, 1) := by decide +kernel
theorem dX9_plan_4 : decode cX9_plan 4 = .ok (.aload_n 0, 1) := by decide +kernel
theorem dX9_plan_5 : decode cX9_plan 5 = .ok (.getfield 296, 3) := by decide +kernel
theorem dX9_plan_8 : decode cX9_plan 8 = .ok (.iconst 1, 1) := by decide +kernel
theorem dX9_plan_9 : decode cX9_plan 9 = .ok (.isub, 1) := by decide +kernel
theorem dX9_plan_10 : decode cX9_plan 10 = .ok (.i2l, 1) := by decide +kernel
theorem dX9_plan_11 : decode cX9_plan 11 = .ok (.invokestatic 89, 3) := by decide +kernel
theorem dX9_plan_14 : decode cX9_plan 14 = .ok (.ifCond .eq 15, 3) := by decide +kernel
theorem dX9_plan_17 : decode cX9_plan 17 = .ok (.iload_n 2, 1) := by decide +kernel
theorem dX9_plan_18 : decode cX9_plan 18 = .ok (.i2l, 1) := by decide +kernel
theorem dX9_plan_19 : decode cX9_plan 19 = .ok (.lconst 0, 1) := by decide +kernel
theorem dX9_plan_20 : decode cX9_plan 20 = .ok (.ldc2_w 211, 3) := by decide +kernel
theorem dX9_plan_23 : decode cX9_plan 23 = .ok (.invokestatic 89, 3) := by decide +kernel
theorem dX9_plan_26 : decode cX9_plan 26 = .ok (.ifCond .ne 7, 3) := by decide +kernel
theorem dX9_plan_29 : decode cX9_plan 29 = .ok (.iconst 1, 1) := by decide +kernel
theorem dX9_plan_30 : decode cX9_plan 30 = .ok (.goto 4, 3) := by decide +kernel
theorem dX9_plan_33 : decode cX9_plan 33 = .ok (.iconst 0, 1) := by decide +kernel
theorem dX9_plan_34 : decode cX9_plan 34 = .ok (.iconst 1, 1) := by decide +kernel
theorem dX9_plan_35 : decode cX9_plan 35 = .ok (.invokevirtual 93, 3) := by decide +kernel
theorem dX9_plan_38 : decode cX9_plan 38 = .ok (.ifCond .eq 5, 3) := by decide +kernel
theorem dX9_plan_41 : decode cX9_plan 41 = .ok (.iconst 0, 1) := by decide +kernel
theorem dX9_plan_42 : decode cX9_plan 42 = .ok (.ireturn, 1) := by decide +kernel
theorem dX9_plan_43 : decode cX9_plan 43 = .ok (.iload_n 2, 1) := by decide +kernel
theorem dX9_plan_44 : decode cX9_plan 44 = .ok (.ifCond .ne 12, 3) := by decide +kernel
theorem dX9_plan_47 : decode cX9_plan 47 = .ok (.aload_n 0, 1) := by decide +kernel
theorem dX9_plan_48 : decode cX9_plan 48 = .ok (.getfield 68, 3) := by decide +kernel
theorem dX9_plan_51 : decode cX9_plan 51 = .ok (.iload_n 1, 1) := by decide +kernel
theorem dX9_plan_52 : decode cX9_plan 52 = .ok (.iaload, 1) := by decide +kernel
theorem dX9_plan_53 : decode cX9_plan 53 = .ok (.goto 23, 3) := by decide +kernel
theorem dX9_plan_56 : decode cX9_plan 56 = .ok (.iload_n 2, 1) := by decide +kernel
theorem dX9_plan_57 : decode cX9_plan 57 = .ok (.iconst 1, 1) := by decide +kernel
theorem dX9_plan_58 : decode cX9_plan 58 = .ok (.if_icmp .ne 12, 3) := by decide +kernel
theorem dX9_plan_61 : decode cX9_plan 61 = .ok (.aload_n 0, 1) := by decide +kernel
theorem dX9_plan_62 : decode cX9_plan 62 = .ok (.getfield 71, 3) := by decide +kernel
theorem dX9_plan_65 : decode cX9_plan 65 = .ok (.iload_n 1, 1) := by decide +kernel
theorem dX9_plan_66 : decode cX9_plan 66 = .ok (.iaload, 1) := by decide +kernel
theorem dX9_plan_67 : decode cX9_plan 67 = .ok (.goto 9, 3) := by decide +kernel
theorem dX9_plan_70 : decode cX9_plan 70 = .ok (.aload_n 0, 1) := by decide +kernel
theorem dX9_plan_71 : decode cX9_plan 71 = .ok (.getfield 74, 3) := by decide +kernel
theorem dX9_plan_74 : decode cX9_plan 74 = .ok (.iload_n 1, 1) := by decide +kernel
theorem dX9_plan_75 : decode cX9_plan 75 = .ok (.iaload, 1) := by decide +kernel
theorem dX9_plan_76 : decode cX9_plan 76 = .ok (.ireturn, 1) := by decide +kernel
theorem dX9_exhaustive_0 : decode cX9_exhaustive 0 = .ok (.aload_n 0, 1) := by decide +kernel
theorem dX9_exhaustive_1 : decode cX9_exhaustive 1 = .ok (.iconst 0, 1) := by decide +kernel
theorem dX9_exhaustive_2 : decode cX9_exhaustive 2 = .ok (.putfield 83, 3) := by decide +kernel
theorem dX9_exhaustive_5 : decode cX9_exhaustive 5 = .ok (.iconst 1, 1) := by decide +kernel
theorem dX9_exhaustive_6 : decode cX9_exhaustive 6 = .ok (.ireturn, 1) := by decide +kernel
theorem dX9_look_0 : decode cX9_look 0 = .ok (.aload_n 0, 1) := by decide +kernel
theorem dX9_look_1 : decode cX9_look 1 = .ok (.iload_n 1, 1) := by decide +kernel
theorem dX9_look_2 : decode cX9_look 2 = .ok (.i2l, 1) := by decide +kernel
theorem dX9_look_3 : decode cX9_look 3 = .ok (.lconst 0, 1) := by decide +kernel
theorem dX9_look_4 : decode cX9_look 4 = .ok (.ldc2_w 319, 3) := by decide +kernel
theorem dX9_look_7 : decode cX9_look 7 = .ok (.invokestatic 89, 3) := by decide +kernel
theorem dX9_look_10 : decode cX9_look 10 = .ok (.ifCond .ne 7, 3) := by decide +kernel
theorem dX9_look_13 : decode cX9_look 13 = .ok (.iconst 1, 1) := by decide +kernel
theorem dX9_look_14 : decode cX9_look 14 = .ok (.goto 4, 3) := by decide +kernel
theorem dX9_look_17 : decode cX9_look 17 = .ok (.iconst 0, 1) := by decide +kernel
theorem dX9_look_18 : decode cX9_look 18 = .ok (.iconst 1, 1) := by decide +kernel
theorem dX9_look_19 : decode cX9_look 19 = .ok (.invokevirtual 93, 3) := by decide +kernel
theorem dX9_look_22 : decode cX9_look 22 = .ok (.ifCond .eq 5, 3) := by decide +kernel
theorem dX9_look_25 : decode cX9_look 25 = .ok (.iconst 0, 1) := by decide +kernel
theorem dX9_look_26 : decode cX9_look 26 = .ok (.ireturn, 1) := by decide +kernel
theorem dX9_look_27 : decode cX9_look 27 = .ok (.iload_n 1, 1) := by decide +kernel
theorem dX9_look_28 : decode cX9_look 28 = .ok (.tableswitch 60 0 3 #[32, 37, 42, 47], 32) := by decide +kernel
theorem dX9_look_60 : decode cX9_look 60 = .ok (.aload_n 0, 1) := by decide +kernel
theorem dX9_look_61 : decode cX9_look 61 = .ok (.getfield 257, 3) := by decide +kernel
theorem dX9_look_64 : decode cX9_look 64 = .ok (.ireturn, 1) := by decide +kernel
theorem dX9_look_65 : decode cX9_look 65 = .ok (.aload_n 0, 1) := by decide +kernel
theorem dX9_look_66 : decode cX9_look 66 = .ok (.invokevirtual 266, 3) := by decide +kernel
theorem dX9_look_69 : decode cX9_look 69 = .ok (.ireturn, 1) := by decide +kernel
theorem dX9_look_70 : decode cX9_look 70 = .ok (.aload_n 0, 1) := by decide +kernel
theorem dX9_look_71 : decode cX9_look 71 = .ok (.getfield 219, 3) := by decide +kernel
theorem dX9_look_74 : decode cX9_look 74 = .ok (.ireturn, 1) := by decide +kernel
theorem dX9_look_75 : decode cX9_look 75 = .ok (.aload_n 0, 1) := by decide +kernel
theorem dX9_look_76 : decode cX9_look 76 = .ok (.invokevirtual 253, 3) := by decide +kernel
theorem dX9_look_79 : decode cX9_look 79 = .ok (.ifCond .eq 7, 3) := by decide +kernel
theorem dX9_look_82 : decode cX9_look 82 = .ok (.iconst 1, 1) := by decide +kernel
theorem dX9_look_83 : decode cX9_look 83 = .ok (.goto 4, 3) := by decide +kernel
theorem dX9_look_86 : decode cX9_look 86 = .ok (.iconst 0, 1) := by decide +kernel
theorem dX9_look_87 : decode cX9_look 87 = .ok (.ireturn, 1) := by decide +kernel
theorem dX9_look_88 : decode cX9_look 88 = .ok (.aload_n 0, 1) := by decide +kernel
theorem dX9_look_89 : decode cX9_look 89 = .ok (.getfield 97, 3) := by decide +kernel
theorem dX9_look_92 : decode cX9_look 92 = .ok (.ireturn, 1) := by decide +kernel
theorem dX9_holds_0 : decode cX9_holds 0 = .ok (.aload_n 0, 1) := by decide +kernel
theorem dX9_holds_1 : decode cX9_holds 1 = .ok (.iload_n 1, 1) := by decide +kernel
theorem dX9_holds_2 : decode cX9_holds 2 = .ok (.invokestatic 272, 3) := by decide +kernel
theorem dX9_holds_5 : decode cX9_holds 5 = .ok (.iconst 1, 1) := by decide +kernel
theorem dX9_holds_6 : decode cX9_holds 6 = .ok (.invokevirtual 93, 3) := by decide +kernel
theorem dX9_holds_9 : decode cX9_holds 9 = .ok (.ifCond .eq 7, 3) := by decide +kernel
theorem dX9_holds_12 : decode cX9_holds 12 = .ok (.iconst 0, 1) := by decide +kernel
theorem dX9_holds_13 : decode cX9_holds 13 = .ok (.goto 9, 3) := by decide +kernel
theorem dX9_holds_16 : decode cX9_holds 16 = .ok (.aload_n 0, 1) := by decide +kernel
theorem dX9_holds_17 : decode cX9_holds 17 = .ok (.getfield 53, 3) := by decide +kernel
theorem dX9_holds_20 : decode cX9_holds 20 = .ok (.iload_n 1, 1) := by decide +kernel
theorem dX9_holds_21 : decode cX9_holds 21 = .ok (.iaload, 1) := by decide +kernel
theorem dX9_holds_22 : decode cX9_holds 22 = .ok (.ireturn, 1) := by decide +kernel
theorem dX9_index_0 : decode cX9_index 0 = .ok (.aload_n 0, 1) := by decide +kernel
theorem dX9_index_1 : decode cX9_index 1 = .ok (.iload_n 1, 1) := by decide +kernel
theorem dX9_index_2 : decode cX9_index 2 = .ok (.invokestatic 272, 3) := by decide +kernel
theorem dX9_index_5 : decode cX9_index 5 = .ok (.ifCond .ne 15, 3) := by decide +kernel
theorem dX9_index_8 : decode cX9_index 8 = .ok (.iload_n 2, 1) := by decide +kernel
theorem dX9_index_9 : decode cX9_index 9 = .ok (.i2l, 1) := by decide +kernel
theorem dX9_index_10 : decode cX9_index 10 = .ok (.lconst 0, 1) := by decide +kernel
theorem dX9_index_11 : decode cX9_index 11 = .ok (.ldc2_w 134, 3) := by decide +kernel
