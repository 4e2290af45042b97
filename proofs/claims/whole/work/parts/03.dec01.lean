theorem dX0_claimChain_9 : decode cX0_claimChain 9 = .ok (.getfield 89, 3) := by decide +kernel
theorem dX0_claimChain_12 : decode cX0_claimChain 12 = .ok (.if_icmp .gt 67, 3) := by decide +kernel
theorem dX0_claimChain_15 : decode cX0_claimChain 15 = .ok (.aload_n 0, 1) := by decide +kernel
theorem dX0_claimChain_16 : decode cX0_claimChain 16 = .ok (.getfield 28, 3) := by decide +kernel
theorem dX0_claimChain_19 : decode cX0_claimChain 19 = .ok (.iload_n 2, 1) := by decide +kernel
theorem dX0_claimChain_20 : decode cX0_claimChain 20 = .ok (.invokevirtual 96, 3) := by decide +kernel
theorem dX0_claimChain_23 : decode cX0_claimChain 23 = .ok (.ifCond .eq 12, 3) := by decide +kernel
theorem dX0_claimChain_26 : decode cX0_claimChain 26 = .ok (.aload_n 0, 1) := by decide +kernel
theorem dX0_claimChain_27 : decode cX0_claimChain 27 = .ok (.getfield 54, 3) := by decide +kernel
theorem dX0_claimChain_30 : decode cX0_claimChain 30 = .ok (.iload_n 2, 1) := by decide +kernel
theorem dX0_claimChain_31 : decode cX0_claimChain 31 = .ok (.baload, 1) := by decide +kernel
theorem dX0_claimChain_32 : decode cX0_claimChain 32 = .ok (.ifCond .eq 5, 3) := by decide +kernel
theorem dX0_claimChain_35 : decode cX0_claimChain 35 = .ok (.iconst (-1), 1) := by decide +kernel
theorem dX0_claimChain_36 : decode cX0_claimChain 36 = .ok (.ireturn, 1) := by decide +kernel
theorem dX0_claimChain_37 : decode cX0_claimChain 37 = .ok (.aload_n 0, 1) := by decide +kernel
theorem dX0_claimChain_38 : decode cX0_claimChain 38 = .ok (.getfield 28, 3) := by decide +kernel
theorem dX0_claimChain_41 : decode cX0_claimChain 41 = .ok (.iload_n 2, 1) := by decide +kernel
theorem dX0_claimChain_42 : decode cX0_claimChain 42 = .ok (.invokevirtual 92, 3) := by decide +kernel
theorem dX0_claimChain_45 : decode cX0_claimChain 45 = .ok (.istore 4, 2) := by decide +kernel
theorem dX0_claimChain_47 : decode cX0_claimChain 47 = .ok (.iload 4, 2) := by decide +kernel
theorem dX0_claimChain_49 : decode cX0_claimChain 49 = .ok (.ifCond .ne 5, 3) := by decide +kernel
theorem dX0_claimChain_52 : decode cX0_claimChain 52 = .ok (.iconst (-1), 1) := by decide +kernel
theorem dX0_claimChain_53 : decode cX0_claimChain 53 = .ok (.ireturn, 1) := by decide +kernel
theorem dX0_claimChain_54 : decode cX0_claimChain 54 = .ok (.aload_n 0, 1) := by decide +kernel
theorem dX0_claimChain_55 : decode cX0_claimChain 55 = .ok (.getfield 54, 3) := by decide +kernel
theorem dX0_claimChain_58 : decode cX0_claimChain 58 = .ok (.iload_n 2, 1) := by decide +kernel
theorem dX0_claimChain_59 : decode cX0_claimChain 59 = .ok (.iconst 1, 1) := by decide +kernel
theorem dX0_claimChain_60 : decode cX0_claimChain 60 = .ok (.bastore, 1) := by decide +kernel
theorem dX0_claimChain_61 : decode cX0_claimChain 61 = .ok (.iload 4, 2) := by decide +kernel
theorem dX0_claimChain_63 : decode cX0_claimChain 63 = .ok (.ldc 100, 2) := by decide +kernel
theorem dX0_claimChain_65 : decode cX0_claimChain 65 = .ok (.if_icmp .lt 5, 3) := by decide +kernel
theorem dX0_claimChain_68 : decode cX0_claimChain 68 = .ok (.iload_n 3, 1) := by decide +kernel
theorem dX0_claimChain_69 : decode cX0_claimChain 69 = .ok (.ireturn, 1) := by decide +kernel
theorem dX0_claimChain_70 : decode cX0_claimChain 70 = .ok (.iload 4, 2) := by decide +kernel
theorem dX0_claimChain_72 : decode cX0_claimChain 72 = .ok (.istore_n 2, 1) := by decide +kernel
theorem dX0_claimChain_73 : decode cX0_claimChain 73 = .ok (.iinc 3 1, 3) := by decide +kernel
theorem dX0_claimChain_76 : decode cX0_claimChain 76 = .ok (.goto (-72), 3) := by decide +kernel
theorem dX0_claimChain_79 : decode cX0_claimChain 79 = .ok (.iconst (-1), 1) := by decide +kernel
theorem dX0_claimChain_80 : decode cX0_claimChain 80 = .ok (.ireturn, 1) := by decide +kernel
theorem dX0_directoryFault_0 : decode cX0_directoryFault 0 = .ok (.aload_n 0, 1) := by decide +kernel
theorem dX0_directoryFault_1 : decode cX0_directoryFault 1 = .ok (.iload_n 1, 1) := by decide +kernel
theorem dX0_directoryFault_2 : decode cX0_directoryFault 2 = .ok (.invokevirtual 101, 3) := by decide +kernel
theorem dX0_directoryFault_5 : decode cX0_directoryFault 5 = .ok (.iconst (-1), 1) := by decide +kernel
theorem dX0_directoryFault_6 : decode cX0_directoryFault 6 = .ok (.if_icmp .ne 5, 3) := by decide +kernel
theorem dX0_directoryFault_9 : decode cX0_directoryFault 9 = .ok (.iconst 3, 1) := by decide +kernel
theorem dX0_directoryFault_10 : decode cX0_directoryFault 10 = .ok (.ireturn, 1) := by decide +kernel
theorem dX0_directoryFault_11 : decode cX0_directoryFault 11 = .ok (.aload_n 0, 1) := by decide +kernel
theorem dX0_directoryFault_12 : decode cX0_directoryFault 12 = .ok (.getfield 44, 3) := by decide +kernel
theorem dX0_directoryFault_15 : decode cX0_directoryFault 15 = .ok (.iload_n 1, 1) := by decide +kernel
theorem dX0_directoryFault_16 : decode cX0_directoryFault 16 = .ok (.invokevirtual 104, 3) := by decide +kernel
theorem dX0_directoryFault_19 : decode cX0_directoryFault 19 = .ok (.iload_n 3, 1) := by decide +kernel
theorem dX0_directoryFault_20 : decode cX0_directoryFault 20 = .ok (.ifCond .ne 23, 3) := by decide +kernel
theorem dX0_directoryFault_23 : decode cX0_directoryFault 23 = .ok (.aload_n 0, 1) := by decide +kernel
theorem dX0_directoryFault_24 : decode cX0_directoryFault 24 = .ok (.iconst 0, 1) := by decide +kernel
theorem dX0_directoryFault_25 : decode cX0_directoryFault 25 = .ok (.iload_n 1, 1) := by decide +kernel
theorem dX0_directoryFault_26 : decode cX0_directoryFault 26 = .ok (.invokevirtual 108, 3) := by decide +kernel
theorem dX0_directoryFault_29 : decode cX0_directoryFault 29 = .ok (.ifCond .eq 12, 3) := by decide +kernel
theorem dX0_directoryFault_32 : decode cX0_directoryFault 32 = .ok (.aload_n 0, 1) := by decide +kernel
theorem dX0_directoryFault_33 : decode cX0_directoryFault 33 = .ok (.iconst 1, 1) := by decide +kernel
theorem dX0_directoryFault_34 : decode cX0_directoryFault 34 = .ok (.iload_n 2, 1) := by decide +kernel
theorem dX0_directoryFault_35 : decode cX0_directoryFault 35 = .ok (.invokevirtual 108, 3) := by decide +kernel
theorem dX0_directoryFault_38 : decode cX0_directoryFault 38 = .ok (.ifCond .ne 5, 3) := by decide +kernel
theorem dX0_directoryFault_41 : decode cX0_directoryFault 41 = .ok (.iconst 4, 1) := by decide +kernel
theorem dX0_directoryFault_42 : decode cX0_directoryFault 42 = .ok (.ireturn, 1) := by decide +kernel
theorem dX0_directoryFault_43 : decode cX0_directoryFault 43 = .ok (.iconst 0, 1) := by decide +kernel
theorem dX0_directoryFault_44 : decode cX0_directoryFault 44 = .ok (.istore 4, 2) := by decide +kernel
theorem dX0_directoryFault_46 : decode cX0_directoryFault 46 = .ok (.iconst 0, 1) := by decide +kernel
theorem dX0_directoryFault_47 : decode cX0_directoryFault 47 = .ok (.istore 5, 2) := by decide +kernel
theorem dX0_directoryFault_49 : decode cX0_directoryFault 49 = .ok (.iload_n 3, 1) := by decide +kernel
theorem dX0_directoryFault_50 : decode cX0_directoryFault 50 = .ok (.ifCond .eq 7, 3) := by decide +kernel
theorem dX0_directoryFault_53 : decode cX0_directoryFault 53 = .ok (.iconst 0, 1) := by decide +kernel
theorem dX0_directoryFault_54 : decode cX0_directoryFault 54 = .ok (.goto 4, 3) := by decide +kernel
theorem dX0_directoryFault_57 : decode cX0_directoryFault 57 = .ok (.iconst 2, 1) := by decide +kernel
theorem dX0_directoryFault_58 : decode cX0_directoryFault 58 = .ok (.istore 6, 2) := by decide +kernel
theorem dX0_directoryFault_60 : decode cX0_directoryFault 60 = .ok (.iload 6, 2) := by decide +kernel
theorem dX0_directoryFault_62 : decode cX0_directoryFault 62 = .ok (.aload_n 0, 1) := by decide +kernel
theorem dX0_directoryFault_63 : decode cX0_directoryFault 63 = .ok (.getfield 44, 3) := by decide +kernel
theorem dX0_directoryFault_66 : decode cX0_directoryFault 66 = .ok (.getfield 112, 3) := by decide +kernel
theorem dX0_directoryFault_69 : decode cX0_directoryFault 69 = .ok (.if_icmp .ge 206, 3) := by decide +kernel
theorem dX0_directoryFault_72 : decode cX0_directoryFault 72 = .ok (.aload_n 0, 1) := by decide +kernel
theorem dX0_directoryFault_73 : decode cX0_directoryFault 73 = .ok (.getfield 44, 3) := by decide +kernel
theorem dX0_directoryFault_76 : decode cX0_directoryFault 76 = .ok (.iload 6, 2) := by decide +kernel
theorem dX0_directoryFault_78 : decode cX0_directoryFault 78 = .ok (.invokevirtual 115, 3) := by decide +kernel
theorem dX0_directoryFault_81 : decode cX0_directoryFault 81 = .ok (.istore 7, 2) := by decide +kernel
theorem dX0_directoryFault_83 : decode cX0_directoryFault 83 = .ok (.aload_n 0, 1) := by decide +kernel
theorem dX0_directoryFault_84 : decode cX0_directoryFault 84 = .ok (.getfield 38, 3) := by decide +kernel
theorem dX0_directoryFault_87 : decode cX0_directoryFault 87 = .ok (.iload 7, 2) := by decide +kernel
theorem dX0_directoryFault_89 : decode cX0_directoryFault 89 = .ok (.invokevirtual 118, 3) := by decide +kernel
theorem dX0_directoryFault_92 : decode cX0_directoryFault 92 = .ok (.istore 8, 2) := by decide +kernel
theorem dX0_directoryFault_94 : decode cX0_directoryFault 94 = .ok (.aload_n 0, 1) := by decide +kernel
theorem dX0_directoryFault_95 : decode cX0_directoryFault 95 = .ok (.getfield 38, 3) := by decide +kernel
theorem dX0_directoryFault_98 : decode cX0_directoryFault 98 = .ok (.iload 7, 2) := by decide +kernel
theorem dX0_directoryFault_100 : decode cX0_directoryFault 100 = .ok (.bipush 11, 2) := by decide +kernel
theorem dX0_directoryFault_102 : decode cX0_directoryFault 102 = .ok (.iadd, 1) := by decide +kernel
theorem dX0_directoryFault_103 : decode cX0_directoryFault 103 = .ok (.invokevirtual 118, 3) := by decide +kernel
theorem dX0_directoryFault_106 : decode cX0_directoryFault 106 = .ok (.istore 9, 2) := by decide +kernel
theorem dX0_directoryFault_108 : decode cX0_directoryFault 108 = .ok (.iload 8, 2) := by decide +kernel
theorem dX0_directoryFault_110 : decode cX0_directoryFault 110 = .ok (.ifCond .eq 165, 3) := by decide +kernel
theorem dX0_directoryFault_113 : decode cX0_directoryFault 113 = .ok (.iload 8, 2) := by decide +kernel
theorem dX0_directoryFault_115 : decode cX0_directoryFault 115 = .ok (.sipush 229, 3) := by decide +kernel
theorem dX0_directoryFault_118 : decode cX0_directoryFault 118 = .ok (.if_icmp .ne 11, 3) := by decide +kernel
theorem dX0_directoryFault_121 : decode cX0_directoryFault 121 = .ok (.iload 4, 2) := by decide +kernel
theorem dX0_directoryFault_123 : decode cX0_directoryFault 123 = .ok (.ifCond .le 6, 3) := by decide +kernel
theorem dX0_directoryFault_126 : decode cX0_directoryFault 126 = .ok (.goto 149, 3) := by decide +kernel
theorem dX0_directoryFault_129 : decode cX0_directoryFault 129 = .ok (.iload 8, 2) := by decide +kernel
theorem dX0_directoryFault_131 : decode cX0_directoryFault 131 = .ok (.sipush 229, 3) := by decide +kernel
theorem dX0_directoryFault_134 : decode cX0_directoryFault 134 = .ok (.if_icmp .ne 6, 3) := by decide +kernel
theorem dX0_directoryFault_137 : decode cX0_directoryFault 137 = .ok (.goto 132, 3) := by decide +kernel
theorem dX0_directoryFault_140 : decode cX0_directoryFault 140 = .ok (.iload 9, 2) := by decide +kernel
theorem dX0_directoryFault_142 : decode cX0_directoryFault 142 = .ok (.bipush 63, 2) := by decide +kernel
theorem dX0_directoryFault_144 : decode cX0_directoryFault 144 = .ok (.iand, 1) := by decide +kernel
theorem dX0_directoryFault_145 : decode cX0_directoryFault 145 = .ok (.bipush 15, 2) := by decide +kernel
theorem dX0_directoryFault_147 : decode cX0_directoryFault 147 = .ok (.if_icmp .ne 9, 3) := by decide +kernel
theorem dX0_directoryFault_150 : decode cX0_directoryFault 150 = .ok (.iinc 4 1, 3) := by decide +kernel
theorem dX0_directoryFault_153 : decode cX0_directoryFault 153 = .ok (.goto 116, 3) := by decide +kernel
theorem dX0_directoryFault_156 : decode cX0_directoryFault 156 = .ok (.iload 5, 2) := by decide +kernel
theorem dX0_directoryFault_158 : decode cX0_directoryFault 158 = .ok (.iload 9, 2) := by decide +kernel
theorem dX0_directoryFault_160 : decode cX0_directoryFault 160 = .ok (.bipush 8, 2) := by decide +kernel
theorem dX0_directoryFault_162 : decode cX0_directoryFault 162 = .ok (.iand, 1) := by decide +kernel
theorem dX0_directoryFault_163 : decode cX0_directoryFault 163 = .ok (.ifCond .eq 7, 3) := by decide +kernel
theorem dX0_directoryFault_166 : decode cX0_directoryFault 166 = .ok (.iconst 1, 1) := by decide +kernel
theorem dX0_directoryFault_167 : decode cX0_directoryFault 167 = .ok (.goto 4, 3) := by decide +kernel
theorem dX0_directoryFault_170 : decode cX0_directoryFault 170 = .ok (.iconst 0, 1) := by decide +kernel
theorem dX0_directoryFault_171 : decode cX0_directoryFault 171 = .ok (.iadd, 1) := by decide +kernel
theorem dX0_directoryFault_172 : decode cX0_directoryFault 172 = .ok (.istore 5, 2) := by decide +kernel
theorem dX0_directoryFault_174 : decode cX0_directoryFault 174 = .ok (.aload_n 0, 1) := by decide +kernel
theorem dX0_directoryFault_175 : decode cX0_directoryFault 175 = .ok (.iload 7, 2) := by decide +kernel
theorem dX0_directoryFault_177 : decode cX0_directoryFault 177 = .ok (.invokevirtual 121, 3) := by decide +kernel
theorem dX0_directoryFault_180 : decode cX0_directoryFault 180 = .ok (.ifCond .eq 31, 3) := by decide +kernel
theorem dX0_directoryFault_183 : decode cX0_directoryFault 183 = .ok (.aload_n 0, 1) := by decide +kernel
theorem dX0_directoryFault_184 : decode cX0_directoryFault 184 = .ok (.iload 6, 2) := by decide +kernel
theorem dX0_directoryFault_186 : decode cX0_directoryFault 186 = .ok (.iload 7, 2) := by decide +kernel
theorem dX0_directoryFault_188 : decode cX0_directoryFault 188 = .ok (.iload 4, 2) := by decide +kernel
theorem dX0_directoryFault_190 : decode cX0_directoryFault 190 = .ok (.iload_n 3, 1) := by decide +kernel
theorem dX0_directoryFault_191 : decode cX0_directoryFault 191 = .ok (.ifCond .eq 13, 3) := by decide +kernel
theorem dX0_directoryFault_194 : decode cX0_directoryFault 194 = .ok (.iload 5, 2) := by decide +kernel
theorem dX0_directoryFault_196 : decode cX0_directoryFault 196 = .ok (.iconst 2, 1) := by decide +kernel
theorem dX0_directoryFault_197 : decode cX0_directoryFault 197 = .ok (.if_icmp .ge 7, 3) := by decide +kernel
theorem dX0_directoryFault_200 : decode cX0_directoryFault 200 = .ok (.iconst 1, 1) := by decide +kernel
theorem dX0_directoryFault_201 : decode cX0_directoryFault 201 = .ok (.goto 4, 3) := by decide +kernel
theorem dX0_directoryFault_204 : decode cX0_directoryFault 204 = .ok (.iconst 0, 1) := by decide +kernel
theorem dX0_directoryFault_205 : decode cX0_directoryFault 205 = .ok (.invokevirtual 124, 3) := by decide +kernel
theorem dX0_directoryFault_208 : decode cX0_directoryFault 208 = .ok (.goto 4, 3) := by decide +kernel
theorem dX0_directoryFault_211 : decode cX0_directoryFault 211 = .ok (.iconst 4, 1) := by decide +kernel
theorem dX0_directoryFault_212 : decode cX0_directoryFault 212 = .ok (.istore 10, 2) := by decide +kernel
theorem dX0_directoryFault_214 : decode cX0_directoryFault 214 = .ok (.iload 10, 2) := by decide +kernel
theorem dX0_directoryFault_216 : decode cX0_directoryFault 216 = .ok (.ifCond .eq 6, 3) := by decide +kernel
theorem dX0_directoryFault_219 : decode cX0_directoryFault 219 = .ok (.iload 10, 2) := by decide +kernel
theorem dX0_directoryFault_221 : decode cX0_directoryFault 221 = .ok (.ireturn, 1) := by decide +kernel
theorem dX0_directoryFault_222 : decode cX0_directoryFault 222 = .ok (.iload 9, 2) := by decide +kernel
theorem dX0_directoryFault_224 : decode cX0_directoryFault 224 = .ok (.bipush 16, 2) := by decide +kernel
theorem dX0_directoryFault_226 : decode cX0_directoryFault 226 = .ok (.iand, 1) := by decide +kernel
theorem dX0_directoryFault_227 : decode cX0_directoryFault 227 = .ok (.ifCond .eq 28, 3) := by decide +kernel
theorem dX0_directoryFault_230 : decode cX0_directoryFault 230 = .ok (.aload_n 0, 1) := by decide +kernel
theorem dX0_directoryFault_231 : decode cX0_directoryFault 231 = .ok (.aload_n 0, 1) := by decide +kernel
theorem dX0_directoryFault_232 : decode cX0_directoryFault 232 = .ok (.getfield 38, 3) := by decide +kernel
theorem dX0_directoryFault_235 : decode cX0_directoryFault 235 = .ok (.iload 7, 2) := by decide +kernel
theorem dX0_directoryFault_237 : decode cX0_directoryFault 237 = .ok (.invokevirtual 128, 3) := by decide +kernel
theorem dX0_directoryFault_240 : decode cX0_directoryFault 240 = .ok (.iload_n 3, 1) := by decide +kernel
theorem dX0_directoryFault_241 : decode cX0_directoryFault 241 = .ok (.ifCond .eq 7, 3) := by decide +kernel
theorem dX0_directoryFault_244 : decode cX0_directoryFault 244 = .ok (.iconst 0, 1) := by decide +kernel
theorem dX0_directoryFault_245 : decode cX0_directoryFault 245 = .ok (.goto 4, 3) := by decide +kernel
theorem dX0_directoryFault_248 : decode cX0_directoryFault 248 = .ok (.iload_n 1, 1) := by decide +kernel
theorem dX0_directoryFault_249 : decode cX0_directoryFault 249 = .ok (.invokevirtual 78, 3) := by decide +kernel
theorem dX0_directoryFault_252 : decode cX0_directoryFault 252 = .ok (.goto 14, 3) := by decide +kernel
theorem dX0_directoryFault_255 : decode cX0_directoryFault 255 = .ok (.aload_n 0, 1) := by decide +kernel
theorem dX0_directoryFault_256 : decode cX0_directoryFault 256 = .ok (.iload 7, 2) := by decide +kernel
theorem dX0_directoryFault_258 : decode cX0_directoryFault 258 = .ok (.invokevirtual 131, 3) := by decide +kernel
theorem dX0_directoryFault_261 : decode cX0_directoryFault 261 = .ok (.ifCond .ne 5, 3) := by decide +kernel
theorem dX0_directoryFault_264 : decode cX0_directoryFault 264 = .ok (.iconst 3, 1) := by decide +kernel
theorem dX0_directoryFault_265 : decode cX0_directoryFault 265 = .ok (.ireturn, 1) := by decide +kernel
theorem dX0_directoryFault_266 : decode cX0_directoryFault 266 = .ok (.iconst 0, 1) := by decide +kernel
theorem dX0_directoryFault_267 : decode cX0_directoryFault 267 = .ok (.istore 4, 2) := by decide +kernel
theorem dX0_directoryFault_269 : decode cX0_directoryFault 269 = .ok (.iinc 6 1, 3) := by decide +kernel
theorem dX0_directoryFault_272 : decode cX0_directoryFault 272 = .ok (.goto (-212), 3) := by decide +kernel
theorem dX0_directoryFault_275 : decode cX0_directoryFault 275 = .ok (.iload 4, 2) := by decide +kernel
theorem dX0_directoryFault_277 : decode cX0_directoryFault 277 = .ok (.ifCond .le 7, 3) := by decide +kernel
theorem dX0_directoryFault_280 : decode cX0_directoryFault 280 = .ok (.iconst 4, 1) := by decide +kernel
theorem dX0_directoryFault_281 : decode cX0_directoryFault 281 = .ok (.goto 4, 3) := by decide +kernel
theorem dX0_directoryFault_284 : decode cX0_directoryFault 284 = .ok (.iconst 0, 1) := by decide +kernel
theorem dX0_directoryFault_285 : decode cX0_directoryFault 285 = .ok (.ireturn, 1) := by decide +kernel
theorem dX0_pointsAsTold_0 : decode cX0_pointsAsTold 0 = .ok (.aload_n 0, 1) := by decide +kernel
theorem dX0_pointsAsTold_1 : decode cX0_pointsAsTold 1 = .ok (.getfield 44, 3) := by decide +kernel
theorem dX0_pointsAsTold_4 : decode cX0_pointsAsTold 4 = .ok (.iload_n 1, 1) := by decide +kernel
theorem dX0_pointsAsTold_5 : decode cX0_pointsAsTold 5 = .ok (.invokevirtual 115, 3) := by decide +kernel
theorem dX0_pointsAsTold_8 : decode cX0_pointsAsTold 8 = .ok (.istore_n 3, 1) := by decide +kernel
theorem dX0_pointsAsTold_9 : decode cX0_pointsAsTold 9 = .ok (.iconst 0, 1) := by decide +kernel
theorem dX0_pointsAsTold_10 : decode cX0_pointsAsTold 10 = .ok (.istore 4, 2) := by decide +kernel
theorem dX0_pointsAsTold_12 : decode cX0_pointsAsTold 12 = .ok (.iload 4, 2) := by decide +kernel
theorem dX0_pointsAsTold_14 : decode cX0_pointsAsTold 14 = .ok (.bipush 11, 2) := by decide +kernel
theorem dX0_pointsAsTold_16 : decode cX0_pointsAsTold 16 = .ok (.if_icmp .ge 38, 3) := by decide +kernel
theorem dX0_pointsAsTold_19 : decode cX0_pointsAsTold 19 = .ok (.aload_n 0, 1) := by decide +kernel
theorem dX0_pointsAsTold_20 : decode cX0_pointsAsTold 20 = .ok (.getfield 38, 3) := by decide +kernel
theorem dX0_pointsAsTold_23 : decode cX0_pointsAsTold 23 = .ok (.iload_n 3, 1) := by decide +kernel
theorem dX0_pointsAsTold_24 : decode cX0_pointsAsTold 24 = .ok (.iload 4, 2) := by decide +kernel
theorem dX0_pointsAsTold_26 : decode cX0_pointsAsTold 26 = .ok (.iadd, 1) := by decide +kernel
theorem dX0_pointsAsTold_27 : decode cX0_pointsAsTold 27 = .ok (.invokevirtual 118, 3) := by decide +kernel
theorem dX0_pointsAsTold_30 : decode cX0_pointsAsTold 30 = .ok (.iload 4, 2) := by decide +kernel
theorem dX0_pointsAsTold_32 : decode cX0_pointsAsTold 32 = .ok (.iload_n 1, 1) := by decide +kernel
theorem dX0_pointsAsTold_33 : decode cX0_pointsAsTold 33 = .ok (.if_icmp .gt 8, 3) := by decide +kernel
theorem dX0_pointsAsTold_36 : decode cX0_pointsAsTold 36 = .ok (.bipush 46, 2) := by decide +kernel
theorem dX0_pointsAsTold_38 : decode cX0_pointsAsTold 38 = .ok (.goto 5, 3) := by decide +kernel
theorem dX0_pointsAsTold_41 : decode cX0_pointsAsTold 41 = .ok (.bipush 32, 2) := by decide +kernel
theorem dX0_pointsAsTold_43 : decode cX0_pointsAsTold 43 = .ok (.if_icmp .eq 5, 3) := by decide +kernel
theorem dX0_pointsAsTold_46 : decode cX0_pointsAsTold 46 = .ok (.iconst 0, 1) := by decide +kernel
theorem dX0_pointsAsTold_47 : decode cX0_pointsAsTold 47 = .ok (.ireturn, 1) := by decide +kernel
theorem dX0_pointsAsTold_48 : decode cX0_pointsAsTold 48 = .ok (.iinc 4 1, 3) := by decide +kernel
theorem dX0_pointsAsTold_51 : decode cX0_pointsAsTold 51 = .ok (.goto (-39), 3) := by decide +kernel
theorem dX0_pointsAsTold_54 : decode cX0_pointsAsTold 54 = .ok (.aload_n 0, 1) := by decide +kernel
theorem dX0_pointsAsTold_55 : decode cX0_pointsAsTold 55 = .ok (.getfield 38, 3) := by decide +kernel
theorem dX0_pointsAsTold_58 : decode cX0_pointsAsTold 58 = .ok (.iload_n 3, 1) := by decide +kernel
theorem dX0_pointsAsTold_59 : decode cX0_pointsAsTold 59 = .ok (.bipush 11, 2) := by decide +kernel
theorem dX0_pointsAsTold_61 : decode cX0_pointsAsTold 61 = .ok (.iadd, 1) := by decide +kernel
theorem dX0_pointsAsTold_62 : decode cX0_pointsAsTold 62 = .ok (.invokevirtual 118, 3) := by decide +kernel
theorem dX0_pointsAsTold_65 : decode cX0_pointsAsTold 65 = .ok (.bipush 16, 2) := by decide +kernel
theorem dX0_pointsAsTold_67 : decode cX0_pointsAsTold 67 = .ok (.if_icmp .ne 19, 3) := by decide +kernel
theorem dX0_pointsAsTold_70 : decode cX0_pointsAsTold 70 = .ok (.aload_n 0, 1) := by decide +kernel
theorem dX0_pointsAsTold_71 : decode cX0_pointsAsTold 71 = .ok (.getfield 38, 3) := by decide +kernel
theorem dX0_pointsAsTold_74 : decode cX0_pointsAsTold 74 = .ok (.iload_n 3, 1) := by decide +kernel
theorem dX0_pointsAsTold_75 : decode cX0_pointsAsTold 75 = .ok (.invokevirtual 128, 3) := by decide +kernel
theorem dX0_pointsAsTold_78 : decode cX0_pointsAsTold 78 = .ok (.iload_n 2, 1) := by decide +kernel
theorem dX0_pointsAsTold_79 : decode cX0_pointsAsTold 79 = .ok (.if_icmp .ne 7, 3) := by decide +kernel
theorem dX0_pointsAsTold_82 : decode cX0_pointsAsTold 82 = .ok (.iconst 1, 1) := by decide +kernel
theorem dX0_pointsAsTold_83 : decode cX0_pointsAsTold 83 = .ok (.goto 4, 3) := by decide +kernel
theorem dX0_pointsAsTold_86 : decode cX0_pointsAsTold 86 = .ok (.iconst 0, 1) := by decide +kernel
theorem dX0_pointsAsTold_87 : decode cX0_pointsAsTold 87 = .ok (.ireturn, 1) := by decide +kernel
theorem dX0_entryFault_0 : decode cX0_entryFault 0 = .ok (.aload_n 0, 1) := by decide +kernel
theorem dX0_entryFault_1 : decode cX0_entryFault 1 = .ok (.getfield 38, 3) := by decide +kernel
theorem dX0_entryFault_4 : decode cX0_entryFault 4 = .ok (.iload_n 2, 1) := by decide +kernel
theorem dX0_entryFault_5 : decode cX0_entryFault 5 = .ok (.bipush 11, 2) := by decide +kernel
theorem dX0_entryFault_7 : decode cX0_entryFault 7 = .ok (.iadd, 1) := by decide +kernel
theorem dX0_entryFault_8 : decode cX0_entryFault 8 = .ok (.invokevirtual 118, 3) := by decide +kernel
theorem dX0_entryFault_11 : decode cX0_entryFault 11 = .ok (.istore 5, 2) := by decide +kernel
theorem dX0_entryFault_13 : decode cX0_entryFault 13 = .ok (.iload 5, 2) := by decide +kernel
theorem dX0_entryFault_15 : decode cX0_entryFault 15 = .ok (.bipush 8, 2) := by decide +kernel
theorem dX0_entryFault_17 : decode cX0_entryFault 17 = .ok (.iand, 1) := by decide +kernel
theorem dX0_entryFault_18 : decode cX0_entryFault 18 = .ok (.ifCond .eq 7, 3) := by decide +kernel
theorem dX0_entryFault_21 : decode cX0_entryFault 21 = .ok (.iconst 1, 1) := by decide +kernel
theorem dX0_entryFault_22 : decode cX0_entryFault 22 = .ok (.goto 4, 3) := by decide +kernel
theorem dX0_entryFault_25 : decode cX0_entryFault 25 = .ok (.iconst 0, 1) := by decide +kernel
theorem dX0_entryFault_26 : decode cX0_entryFault 26 = .ok (.istore 6, 2) := by decide +kernel
theorem dX0_entryFault_28 : decode cX0_entryFault 28 = .ok (.aload_n 0, 1) := by decide +kernel
theorem dX0_entryFault_29 : decode cX0_entryFault 29 = .ok (.getfield 24, 3) := by decide +kernel
theorem dX0_entryFault_32 : decode cX0_entryFault 32 = .ok (.aload_n 0, 1) := by decide +kernel
theorem dX0_entryFault_33 : decode cX0_entryFault 33 = .ok (.getfield 38, 3) := by decide +kernel
theorem dX0_entryFault_36 : decode cX0_entryFault 36 = .ok (.iload_n 2, 1) := by decide +kernel
theorem dX0_entryFault_37 : decode cX0_entryFault 37 = .ok (.invokevirtual 134, 3) := by decide +kernel
theorem dX0_entryFault_40 : decode cX0_entryFault 40 = .ok (.iload 5, 2) := by decide +kernel
theorem dX0_entryFault_42 : decode cX0_entryFault 42 = .ok (.bipush 63, 2) := by decide +kernel
theorem dX0_entryFault_44 : decode cX0_entryFault 44 = .ok (.if_icmp .gt 15, 3) := by decide +kernel
theorem dX0_entryFault_47 : decode cX0_entryFault 47 = .ok (.aload_n 0, 1) := by decide +kernel
theorem dX0_entryFault_48 : decode cX0_entryFault 48 = .ok (.getfield 24, 3) := by decide +kernel
theorem dX0_entryFault_51 : decode cX0_entryFault 51 = .ok (.iload 6, 2) := by decide +kernel
theorem dX0_entryFault_53 : decode cX0_entryFault 53 = .ok (.invokevirtual 138, 3) := by decide +kernel
theorem dX0_entryFault_56 : decode cX0_entryFault 56 = .ok (.ifCond .ne 5, 3) := by decide +kernel
theorem dX0_entryFault_59 : decode cX0_entryFault 59 = .ok (.iconst 4, 1) := by decide +kernel
theorem dX0_entryFault_60 : decode cX0_entryFault 60 = .ok (.ireturn, 1) := by decide +kernel
theorem dX0_entryFault_61 : decode cX0_entryFault 61 = .ok (.iload 6, 2) := by decide +kernel
theorem dX0_entryFault_63 : decode cX0_entryFault 63 = .ok (.ifCond .eq 63, 3) := by decide +kernel
theorem dX0_entryFault_66 : decode cX0_entryFault 66 = .ok (.iload 5, 2) := by decide +kernel
theorem dX0_entryFault_68 : decode cX0_entryFault 68 = .ok (.bipush 16, 2) := by decide +kernel
theorem dX0_entryFault_70 : decode cX0_entryFault 70 = .ok (.iand, 1) := by decide +kernel
theorem dX0_entryFault_71 : decode cX0_entryFault 71 = .ok (.ifCond .ne 32, 3) := by decide +kernel
theorem dX0_entryFault_74 : decode cX0_entryFault 74 = .ok (.aload_n 0, 1) := by decide +kernel
theorem dX0_entryFault_75 : decode cX0_entryFault 75 = .ok (.getfield 38, 3) := by decide +kernel
theorem dX0_entryFault_78 : decode cX0_entryFault 78 = .ok (.iload_n 2, 1) := by decide +kernel
theorem dX0_entryFault_79 : decode cX0_entryFault 79 = .ok (.invokevirtual 128, 3) := by decide +kernel
theorem dX0_entryFault_82 : decode cX0_entryFault 82 = .ok (.ifCond .ne 21, 3) := by decide +kernel
theorem dX0_entryFault_85 : decode cX0_entryFault 85 = .ok (.aload_n 0, 1) := by decide +kernel
theorem dX0_entryFault_86 : decode cX0_entryFault 86 = .ok (.getfield 38, 3) := by decide +kernel
theorem dX0_entryFault_89 : decode cX0_entryFault 89 = .ok (.iload_n 2, 1) := by decide +kernel
theorem dX0_entryFault_90 : decode cX0_entryFault 90 = .ok (.bipush 28, 2) := by decide +kernel
theorem dX0_entryFault_92 : decode cX0_entryFault 92 = .ok (.iadd, 1) := by decide +kernel
theorem dX0_entryFault_93 : decode cX0_entryFault 93 = .ok (.invokevirtual 142, 3) := by decide +kernel
theorem dX0_entryFault_96 : decode cX0_entryFault 96 = .ok (.ifCond .ne 7, 3) := by decide +kernel
theorem dX0_entryFault_99 : decode cX0_entryFault 99 = .ok (.iconst 1, 1) := by decide +kernel
theorem dX0_entryFault_100 : decode cX0_entryFault 100 = .ok (.goto 4, 3) := by decide +kernel
theorem dX0_entryFault_103 : decode cX0_entryFault 103 = .ok (.iconst 0, 1) := by decide +kernel
theorem dX0_entryFault_104 : decode cX0_entryFault 104 = .ok (.istore 7, 2) := by decide +kernel
theorem dX0_entryFault_106 : decode cX0_entryFault 106 = .ok (.iload 4, 2) := by decide +kernel
theorem dX0_entryFault_108 : decode cX0_entryFault 108 = .ok (.ifCond .eq 16, 3) := by decide +kernel
theorem dX0_entryFault_111 : decode cX0_entryFault 111 = .ok (.iload_n 3, 1) := by decide +kernel
theorem dX0_entryFault_112 : decode cX0_entryFault 112 = .ok (.ifCond .ne 12, 3) := by decide +kernel
theorem dX0_entryFault_115 : decode cX0_entryFault 115 = .ok (.iload 7, 2) := by decide +kernel
theorem dX0_entryFault_117 : decode cX0_entryFault 117 = .ok (.ifCond .eq 7, 3) := by decide +kernel
theorem dX0_entryFault_120 : decode cX0_entryFault 120 = .ok (.iconst 0, 1) := by decide +kernel
theorem dX0_entryFault_121 : decode cX0_entryFault 121 = .ok (.goto 4, 3) := by decide +kernel
theorem dX0_entryFault_124 : decode cX0_entryFault 124 = .ok (.iconst 4, 1) := by decide +kernel
theorem dX0_entryFault_125 : decode cX0_entryFault 125 = .ok (.ireturn, 1) := by decide +kernel
theorem dX0_entryFault_126 : decode cX0_entryFault 126 = .ok (.iload 5, 2) := by decide +kernel
theorem dX0_entryFault_128 : decode cX0_entryFault 128 = .ok (.bipush 16, 2) := by decide +kernel
theorem dX0_entryFault_130 : decode cX0_entryFault 130 = .ok (.iand, 1) := by decide +kernel
theorem dX0_entryFault_131 : decode cX0_entryFault 131 = .ok (.ifCond .eq 17, 3) := by decide +kernel
theorem dX0_entryFault_134 : decode cX0_entryFault 134 = .ok (.aload_n 0, 1) := by decide +kernel
theorem dX0_entryFault_135 : decode cX0_entryFault 135 = .ok (.getfield 38, 3) := by decide +kernel
theorem dX0_entryFault_138 : decode cX0_entryFault 138 = .ok (.iload_n 2, 1) := by decide +kernel
theorem dX0_entryFault_139 : decode cX0_entryFault 139 = .ok (.bipush 28, 2) := by decide +kernel
theorem dX0_entryFault_141 : decode cX0_entryFault 141 = .ok (.iadd, 1) := by decide +kernel
theorem dX0_entryFault_142 : decode cX0_entryFault 142 = .ok (.invokevirtual 142, 3) := by decide +kernel
theorem dX0_entryFault_145 : decode cX0_entryFault 145 = .ok (.ifCond .ne 12, 3) := by decide +kernel
theorem dX0_entryFault_148 : decode cX0_entryFault 148 = .ok (.aload_n 0, 1) := by decide +kernel
theorem dX0_entryFault_149 : decode cX0_entryFault 149 = .ok (.iload_n 1, 1) := by decide +kernel
theorem dX0_entryFault_150 : decode cX0_entryFault 150 = .ok (.iload_n 3, 1) := by decide +kernel
theorem dX0_entryFault_151 : decode cX0_entryFault 151 = .ok (.invokevirtual 145, 3) := by decide +kernel
theorem dX0_entryFault_154 : decode cX0_entryFault 154 = .ok (.ifCond .ne 5, 3) := by decide +kernel
theorem dX0_entryFault_157 : decode cX0_entryFault 157 = .ok (.iconst 4, 1) := by decide +kernel
theorem dX0_entryFault_158 : decode cX0_entryFault 158 = .ok (.ireturn, 1) := by decide +kernel
theorem dX0_entryFault_159 : decode cX0_entryFault 159 = .ok (.aload_n 0, 1) := by decide +kernel
theorem dX0_entryFault_160 : decode cX0_entryFault 160 = .ok (.getfield 12, 3) := by decide +kernel
theorem dX0_entryFault_163 : decode cX0_entryFault 163 = .ok (.aload_n 0, 1) := by decide +kernel
theorem dX0_entryFault_164 : decode cX0_entryFault 164 = .ok (.getfield 44, 3) := by decide +kernel
theorem dX0_entryFault_167 : decode cX0_entryFault 167 = .ok (.iload_n 1, 1) := by decide +kernel
theorem dX0_entryFault_168 : decode cX0_entryFault 168 = .ok (.iload_n 3, 1) := by decide +kernel
theorem dX0_entryFault_169 : decode cX0_entryFault 169 = .ok (.invokevirtual 148, 3) := by decide +kernel
theorem dX0_entryFault_172 : decode cX0_entryFault 172 = .ok (.aload_n 0, 1) := by decide +kernel
theorem dX0_entryFault_173 : decode cX0_entryFault 173 = .ok (.getfield 12, 3) := by decide +kernel
theorem dX0_entryFault_176 : decode cX0_entryFault 176 = .ok (.invokevirtual 152, 3) := by decide +kernel
theorem dX0_entryFault_179 : decode cX0_entryFault 179 = .ok (.ifCond .eq 18, 3) := by decide +kernel
theorem dX0_entryFault_182 : decode cX0_entryFault 182 = .ok (.iload_n 3, 1) := by decide +kernel
theorem dX0_entryFault_183 : decode cX0_entryFault 183 = .ok (.ifCond .le 16, 3) := by decide +kernel
theorem dX0_entryFault_186 : decode cX0_entryFault 186 = .ok (.aload_n 0, 1) := by decide +kernel
theorem dX0_entryFault_187 : decode cX0_entryFault 187 = .ok (.getfield 12, 3) := by decide +kernel
theorem dX0_entryFault_190 : decode cX0_entryFault 190 = .ok (.iload_n 3, 1) := by decide +kernel
theorem dX0_entryFault_191 : decode cX0_entryFault 191 = .ok (.invokevirtual 154, 3) := by decide +kernel
theorem dX0_entryFault_194 : decode cX0_entryFault 194 = .ok (.ifCond .ne 5, 3) := by decide +kernel
theorem dX0_entryFault_197 : decode cX0_entryFault 197 = .ok (.iconst 4, 1) := by decide +kernel
theorem dX0_entryFault_198 : decode cX0_entryFault 198 = .ok (.ireturn, 1) := by decide +kernel
theorem dX0_entryFault_199 : decode cX0_entryFault 199 = .ok (.aload_n 0, 1) := by decide +kernel
theorem dX0_entryFault_200 : decode cX0_entryFault 200 = .ok (.getfield 12, 3) := by decide +kernel
theorem dX0_entryFault_203 : decode cX0_entryFault 203 = .ok (.invokevirtual 157, 3) := by decide +kernel
theorem dX0_entryFault_206 : decode cX0_entryFault 206 = .ok (.istore 7, 2) := by decide +kernel
theorem dX0_entryFault_208 : decode cX0_entryFault 208 = .ok (.aload_n 0, 1) := by decide +kernel
theorem dX0_entryFault_209 : decode cX0_entryFault 209 = .ok (.iload_n 2, 1) := by decide +kernel
theorem dX0_entryFault_210 : decode cX0_entryFault 210 = .ok (.iload 7, 2) := by decide +kernel
theorem dX0_entryFault_212 : decode cX0_entryFault 212 = .ok (.invokevirtual 161, 3) := by decide +kernel
theorem dX0_entryFault_215 : decode cX0_entryFault 215 = .ok (.ifCond .eq 5, 3) := by decide +kernel
theorem dX0_entryFault_218 : decode cX0_entryFault 218 = .ok (.iconst 5, 1) := by decide +kernel
theorem dX0_entryFault_219 : decode cX0_entryFault 219 = .ok (.ireturn, 1) := by decide +kernel
theorem dX0_entryFault_220 : decode cX0_entryFault 220 = .ok (.aload_n 0, 1) := by decide +kernel
theorem dX0_entryFault_221 : decode cX0_entryFault 221 = .ok (.getfield 44, 3) := by decide +kernel
theorem dX0_entryFault_224 : decode cX0_entryFault 224 = .ok (.iload_n 1, 1) := by decide +kernel
theorem dX0_entryFault_225 : decode cX0_entryFault 225 = .ok (.iload_n 3, 1) := by decide +kernel
theorem dX0_entryFault_226 : decode cX0_entryFault 226 = .ok (.iload 7, 2) := by decide +kernel
theorem dX0_entryFault_228 : decode cX0_entryFault 228 = .ok (.invokevirtual 164, 3) := by decide +kernel
theorem dX0_entryFault_231 : decode cX0_entryFault 231 = .ok (.iconst 0, 1) := by decide +kernel
theorem dX0_entryFault_232 : decode cX0_entryFault 232 = .ok (.ireturn, 1) := by decide +kernel
theorem dX0_timesAsTold_0 : decode cX0_timesAsTold 0 = .ok (.aload_n 0, 1) := by decide +kernel
theorem dX0_timesAsTold_1 : decode cX0_timesAsTold 1 = .ok (.getfield 38, 3) := by decide +kernel
theorem dX0_timesAsTold_4 : decode cX0_timesAsTold 4 = .ok (.iload_n 1, 1) := by decide +kernel
theorem dX0_timesAsTold_5 : decode cX0_timesAsTold 5 = .ok (.bipush 18, 2) := by decide +kernel
theorem dX0_timesAsTold_7 : decode cX0_timesAsTold 7 = .ok (.iadd, 1) := by decide +kernel
theorem dX0_timesAsTold_8 : decode cX0_timesAsTold 8 = .ok (.invokevirtual 168, 3) := by decide +kernel
theorem dX0_timesAsTold_11 : decode cX0_timesAsTold 11 = .ok (.istore_n 2, 1) := by decide +kernel
theorem dX0_timesAsTold_12 : decode cX0_timesAsTold 12 = .ok (.aload_n 0, 1) := by decide +kernel
theorem dX0_timesAsTold_13 : decode cX0_timesAsTold 13 = .ok (.getfield 38, 3) := by decide +kernel
theorem dX0_timesAsTold_16 : decode cX0_timesAsTold 16 = .ok (.iload_n 1, 1) := by decide +kernel
theorem dX0_timesAsTold_17 : decode cX0_timesAsTold 17 = .ok (.bipush 16, 2) := by decide +kernel
theorem dX0_timesAsTold_19 : decode cX0_timesAsTold 19 = .ok (.iadd, 1) := by decide +kernel
theorem dX0_timesAsTold_20 : decode cX0_timesAsTold 20 = .ok (.invokevirtual 168, 3) := by decide +kernel
theorem dX0_timesAsTold_23 : decode cX0_timesAsTold 23 = .ok (.aload_n 0, 1) := by decide +kernel
theorem dX0_timesAsTold_24 : decode cX0_timesAsTold 24 = .ok (.getfield 38, 3) := by decide +kernel
theorem dX0_timesAsTold_27 : decode cX0_timesAsTold 27 = .ok (.iload_n 1, 1) := by decide +kernel
theorem dX0_timesAsTold_28 : decode cX0_timesAsTold 28 = .ok (.bipush 14, 2) := by decide +kernel
theorem dX0_timesAsTold_30 : decode cX0_timesAsTold 30 = .ok (.iadd, 1) := by decide +kernel
theorem dX0_timesAsTold_31 : decode cX0_timesAsTold 31 = .ok (.invokevirtual 168, 3) := by decide +kernel
theorem dX0_timesAsTold_34 : decode cX0_timesAsTold 34 = .ok (.aload_n 0, 1) := by decide +kernel
theorem dX0_timesAsTold_35 : decode cX0_timesAsTold 35 = .ok (.getfield 38, 3) := by decide +kernel
theorem dX0_timesAsTold_38 : decode cX0_timesAsTold 38 = .ok (.iload_n 1, 1) := by decide +kernel
theorem dX0_timesAsTold_39 : decode cX0_timesAsTold 39 = .ok (.bipush 13, 2) := by decide +kernel
theorem dX0_timesAsTold_41 : decode cX0_timesAsTold 41 = .ok (.iadd, 1) := by decide +kernel
theorem dX0_timesAsTold_42 : decode cX0_timesAsTold 42 = .ok (.invokevirtual 118, 3) := by decide +kernel
theorem dX0_timesAsTold_45 : decode cX0_timesAsTold 45 = .ok (.invokestatic 171, 3) := by decide +kernel
theorem dX0_timesAsTold_48 : decode cX0_timesAsTold 48 = .ok (.ifCond .eq 52, 3) := by decide +kernel
theorem dX0_timesAsTold_51 : decode cX0_timesAsTold 51 = .ok (.iload_n 2, 1) := by decide +kernel
theorem dX0_timesAsTold_52 : decode cX0_timesAsTold 52 = .ok (.ifCond .eq 10, 3) := by decide +kernel
theorem dX0_timesAsTold_55 : decode cX0_timesAsTold 55 = .ok (.iload_n 2, 1) := by decide +kernel
theorem dX0_timesAsTold_56 : decode cX0_timesAsTold 56 = .ok (.invokestatic 177, 3) := by decide +kernel
theorem dX0_timesAsTold_59 : decode cX0_timesAsTold 59 = .ok (.ifCond .eq 41, 3) := by decide +kernel
theorem dX0_timesAsTold_62 : decode cX0_timesAsTold 62 = .ok (.aload_n 0, 1) := by decide +kernel
theorem dX0_timesAsTold_63 : decode cX0_timesAsTold 63 = .ok (.getfield 38, 3) := by decide +kernel
theorem dX0_timesAsTold_66 : decode cX0_timesAsTold 66 = .ok (.iload_n 1, 1) := by decide +kernel
theorem dX0_timesAsTold_67 : decode cX0_timesAsTold 67 = .ok (.bipush 24, 2) := by decide +kernel
theorem dX0_timesAsTold_69 : decode cX0_timesAsTold 69 = .ok (.iadd, 1) := by decide +kernel
theorem dX0_timesAsTold_70 : decode cX0_timesAsTold 70 = .ok (.invokevirtual 168, 3) := by decide +kernel
theorem dX0_timesAsTold_73 : decode cX0_timesAsTold 73 = .ok (.invokestatic 177, 3) := by decide +kernel
theorem dX0_timesAsTold_76 : decode cX0_timesAsTold 76 = .ok (.ifCond .eq 24, 3) := by decide +kernel
theorem dX0_timesAsTold_79 : decode cX0_timesAsTold 79 = .ok (.aload_n 0, 1) := by decide +kernel
theorem dX0_timesAsTold_80 : decode cX0_timesAsTold 80 = .ok (.getfield 38, 3) := by decide +kernel
theorem dX0_timesAsTold_83 : decode cX0_timesAsTold 83 = .ok (.iload_n 1, 1) := by decide +kernel
theorem dX0_timesAsTold_84 : decode cX0_timesAsTold 84 = .ok (.bipush 22, 2) := by decide +kernel
theorem dX0_timesAsTold_86 : decode cX0_timesAsTold 86 = .ok (.iadd, 1) := by decide +kernel
theorem dX0_timesAsTold_87 : decode cX0_timesAsTold 87 = .ok (.invokevirtual 168, 3) := by decide +kernel
theorem dX0_timesAsTold_90 : decode cX0_timesAsTold 90 = .ok (.invokestatic 180, 3) := by decide +kernel
theorem dX0_timesAsTold_93 : decode cX0_timesAsTold 93 = .ok (.ifCond .eq 7, 3) := by decide +kernel
theorem dX0_timesAsTold_96 : decode cX0_timesAsTold 96 = .ok (.iconst 1, 1) := by decide +kernel
theorem dX0_timesAsTold_97 : decode cX0_timesAsTold 97 = .ok (.goto 4, 3) := by decide +kernel
theorem dX0_timesAsTold_100 : decode cX0_timesAsTold 100 = .ok (.iconst 0, 1) := by decide +kernel
theorem dX0_timesAsTold_101 : decode cX0_timesAsTold 101 = .ok (.ireturn, 1) := by decide +kernel
theorem dX0_isTwin_0 : decode cX0_isTwin 0 = .ok (.iconst 0, 1) := by decide +kernel
theorem dX0_isTwin_1 : decode cX0_isTwin 1 = .ok (.istore_n 3, 1) := by decide +kernel
theorem dX0_isTwin_2 : decode cX0_isTwin 2 = .ok (.iload_n 3, 1) := by decide +kernel
theorem dX0_isTwin_3 : decode cX0_isTwin 3 = .ok (.aload_n 0, 1) := by decide +kernel
theorem dX0_isTwin_4 : decode cX0_isTwin 4 = .ok (.getfield 44, 3) := by decide +kernel
theorem dX0_isTwin_7 : decode cX0_isTwin 7 = .ok (.getfield 183, 3) := by decide +kernel
theorem dX0_isTwin_10 : decode cX0_isTwin 10 = .ok (.if_icmp .ge 90, 3) := by decide +kernel
theorem dX0_isTwin_13 : decode cX0_isTwin 13 = .ok (.aload_n 0, 1) := by decide +kernel
theorem dX0_isTwin_14 : decode cX0_isTwin 14 = .ok (.getfield 44, 3) := by decide +kernel
theorem dX0_isTwin_17 : decode cX0_isTwin 17 = .ok (.iload_n 3, 1) := by decide +kernel
theorem dX0_isTwin_18 : decode cX0_isTwin 18 = .ok (.invokevirtual 186, 3) := by decide +kernel
theorem dX0_isTwin_21 : decode cX0_isTwin 21 = .ok (.istore 4, 2) := by decide +kernel
theorem dX0_isTwin_23 : decode cX0_isTwin 23 = .ok (.aload_n 0, 1) := by decide +kernel
theorem dX0_isTwin_24 : decode cX0_isTwin 24 = .ok (.getfield 38, 3) := by decide +kernel
theorem dX0_isTwin_27 : decode cX0_isTwin 27 = .ok (.iload_n 1, 1) := by decide +kernel
theorem dX0_isTwin_28 : decode cX0_isTwin 28 = .ok (.aload_n 0, 1) := by decide +kernel
theorem dX0_isTwin_29 : decode cX0_isTwin 29 = .ok (.getfield 44, 3) := by decide +kernel
theorem dX0_isTwin_32 : decode cX0_isTwin 32 = .ok (.iload 4, 2) := by decide +kernel
theorem dX0_isTwin_34 : decode cX0_isTwin 34 = .ok (.invokevirtual 115, 3) := by decide +kernel
theorem dX0_isTwin_37 : decode cX0_isTwin 37 = .ok (.invokevirtual 189, 3) := by decide +kernel
theorem dX0_isTwin_40 : decode cX0_isTwin 40 = .ok (.ifCond .eq 5, 3) := by decide +kernel
theorem dX0_isTwin_43 : decode cX0_isTwin 43 = .ok (.iconst 1, 1) := by decide +kernel
theorem dX0_isTwin_44 : decode cX0_isTwin 44 = .ok (.ireturn, 1) := by decide +kernel
theorem dX0_isTwin_45 : decode cX0_isTwin 45 = .ok (.aload_n 0, 1) := by decide +kernel
theorem dX0_isTwin_46 : decode cX0_isTwin 46 = .ok (.getfield 44, 3) := by decide +kernel
theorem dX0_isTwin_49 : decode cX0_isTwin 49 = .ok (.iload_n 3, 1) := by decide +kernel
theorem dX0_isTwin_50 : decode cX0_isTwin 50 = .ok (.invokevirtual 192, 3) := by decide +kernel
theorem dX0_isTwin_53 : decode cX0_isTwin 53 = .ok (.iload_n 2, 1) := by decide +kernel
theorem dX0_isTwin_54 : decode cX0_isTwin 54 = .ok (.if_icmp .ne 40, 3) := by decide +kernel
theorem dX0_isTwin_57 : decode cX0_isTwin 57 = .ok (.aload_n 0, 1) := by decide +kernel
theorem dX0_isTwin_58 : decode cX0_isTwin 58 = .ok (.getfield 18, 3) := by decide +kernel
theorem dX0_isTwin_61 : decode cX0_isTwin 61 = .ok (.aload_n 0, 1) := by decide +kernel
theorem dX0_isTwin_62 : decode cX0_isTwin 62 = .ok (.getfield 44, 3) := by decide +kernel
theorem dX0_isTwin_65 : decode cX0_isTwin 65 = .ok (.iload 4, 2) := by decide +kernel
theorem dX0_isTwin_67 : decode cX0_isTwin 67 = .ok (.aload_n 0, 1) := by decide +kernel
theorem dX0_isTwin_68 : decode cX0_isTwin 68 = .ok (.getfield 44, 3) := by decide +kernel
theorem dX0_isTwin_71 : decode cX0_isTwin 71 = .ok (.iload_n 3, 1) := by decide +kernel
theorem dX0_isTwin_72 : decode cX0_isTwin 72 = .ok (.invokevirtual 195, 3) := by decide +kernel
theorem dX0_isTwin_75 : decode cX0_isTwin 75 = .ok (.invokevirtual 148, 3) := by decide +kernel
theorem dX0_isTwin_78 : decode cX0_isTwin 78 = .ok (.aload_n 0, 1) := by decide +kernel
theorem dX0_isTwin_79 : decode cX0_isTwin 79 = .ok (.getfield 12, 3) := by decide +kernel
theorem dX0_isTwin_82 : decode cX0_isTwin 82 = .ok (.aload_n 0, 1) := by decide +kernel
theorem dX0_isTwin_83 : decode cX0_isTwin 83 = .ok (.getfield 18, 3) := by decide +kernel
theorem dX0_isTwin_86 : decode cX0_isTwin 86 = .ok (.invokevirtual 198, 3) := by decide +kernel
theorem dX0_isTwin_89 : decode cX0_isTwin 89 = .ok (.ifCond .eq 5, 3) := by decide +kernel
theorem dX0_isTwin_92 : decode cX0_isTwin 92 = .ok (.iconst 1, 1) := by decide +kernel
theorem dX0_isTwin_93 : decode cX0_isTwin 93 = .ok (.ireturn, 1) := by decide +kernel
theorem dX0_isTwin_94 : decode cX0_isTwin 94 = .ok (.iinc 3 1, 3) := by decide +kernel
theorem dX0_isTwin_97 : decode cX0_isTwin 97 = .ok (.goto (-95), 3) := by decide +kernel
theorem dX0_isTwin_100 : decode cX0_isTwin 100 = .ok (.iconst 0, 1) := by decide +kernel
theorem dX0_isTwin_101 : decode cX0_isTwin 101 = .ok (.ireturn, 1) := by decide +kernel
theorem dX0_partsAsTold_0 : decode cX0_partsAsTold 0 = .ok (.iload_n 2, 1) := by decide +kernel
theorem dX0_partsAsTold_1 : decode cX0_partsAsTold 1 = .ok (.bipush 20, 2) := by decide +kernel
theorem dX0_partsAsTold_3 : decode cX0_partsAsTold 3 = .ok (.if_icmp .le 5, 3) := by decide +kernel
theorem dX0_partsAsTold_6 : decode cX0_partsAsTold 6 = .ok (.iconst 0, 1) := by decide +kernel
theorem dX0_partsAsTold_7 : decode cX0_partsAsTold 7 = .ok (.ireturn, 1) := by decide +kernel
theorem dX0_partsAsTold_8 : decode cX0_partsAsTold 8 = .ok (.aload_n 0, 1) := by decide +kernel
theorem dX0_partsAsTold_9 : decode cX0_partsAsTold 9 = .ok (.getfield 24, 3) := by decide +kernel
theorem dX0_partsAsTold_12 : decode cX0_partsAsTold 12 = .ok (.invokevirtual 202, 3) := by decide +kernel
theorem dX0_partsAsTold_15 : decode cX0_partsAsTold 15 = .ok (.istore_n 3, 1) := by decide +kernel
theorem dX0_partsAsTold_16 : decode cX0_partsAsTold 16 = .ok (.iconst 1, 1) := by decide +kernel
theorem dX0_partsAsTold_17 : decode cX0_partsAsTold 17 = .ok (.istore 4, 2) := by decide +kernel
theorem dX0_partsAsTold_19 : decode cX0_partsAsTold 19 = .ok (.iload 4, 2) := by decide +kernel
theorem dX0_partsAsTold_21 : decode cX0_partsAsTold 21 = .ok (.iload_n 2, 1) := by decide +kernel
theorem dX0_partsAsTold_22 : decode cX0_partsAsTold 22 = .ok (.if_icmp .gt 98, 3) := by decide +kernel
theorem dX0_partsAsTold_25 : decode cX0_partsAsTold 25 = .ok (.aload_n 0, 1) := by decide +kernel
theorem dX0_partsAsTold_26 : decode cX0_partsAsTold 26 = .ok (.getfield 44, 3) := by decide +kernel
theorem dX0_partsAsTold_29 : decode cX0_partsAsTold 29 = .ok (.iload_n 1, 1) := by decide +kernel
theorem dX0_partsAsTold_30 : decode cX0_partsAsTold 30 = .ok (.iload 4, 2) := by decide +kernel
theorem dX0_partsAsTold_32 : decode cX0_partsAsTold 32 = .ok (.isub, 1) := by decide +kernel
theorem dX0_partsAsTold_33 : decode cX0_partsAsTold 33 = .ok (.invokevirtual 115, 3) := by decide +kernel
theorem dX0_partsAsTold_36 : decode cX0_partsAsTold 36 = .ok (.istore 5, 2) := by decide +kernel
theorem dX0_partsAsTold_38 : decode cX0_partsAsTold 38 = .ok (.aload_n 0, 1) := by decide +kernel
theorem dX0_partsAsTold_39 : decode cX0_partsAsTold 39 = .ok (.getfield 38, 3) := by decide +kernel
theorem dX0_partsAsTold_42 : decode cX0_partsAsTold 42 = .ok (.iload 5, 2) := by decide +kernel
theorem dX0_partsAsTold_44 : decode cX0_partsAsTold 44 = .ok (.invokevirtual 118, 3) := by decide +kernel
theorem dX0_partsAsTold_47 : decode cX0_partsAsTold 47 = .ok (.iload 4, 2) := by decide +kernel
theorem dX0_partsAsTold_49 : decode cX0_partsAsTold 49 = .ok (.iload_n 2, 1) := by decide +kernel
theorem dX0_partsAsTold_50 : decode cX0_partsAsTold 50 = .ok (.if_icmp .ne 11, 3) := by decide +kernel
theorem dX0_partsAsTold_53 : decode cX0_partsAsTold 53 = .ok (.iload 4, 2) := by decide +kernel
theorem dX0_partsAsTold_55 : decode cX0_partsAsTold 55 = .ok (.bipush 64, 2) := by decide +kernel
theorem dX0_partsAsTold_57 : decode cX0_partsAsTold 57 = .ok (.iadd, 1) := by decide +kernel
theorem dX0_partsAsTold_58 : decode cX0_partsAsTold 58 = .ok (.goto 5, 3) := by decide +kernel
theorem dX0_partsAsTold_61 : decode cX0_partsAsTold 61 = .ok (.iload 4, 2) := by decide +kernel
theorem dX0_partsAsTold_63 : decode cX0_partsAsTold 63 = .ok (.if_icmp .ne 49, 3) := by decide +kernel
theorem dX0_partsAsTold_66 : decode cX0_partsAsTold 66 = .ok (.aload_n 0, 1) := by decide +kernel
theorem dX0_partsAsTold_67 : decode cX0_partsAsTold 67 = .ok (.getfield 38, 3) := by decide +kernel
theorem dX0_partsAsTold_70 : decode cX0_partsAsTold 70 = .ok (.iload 5, 2) := by decide +kernel
theorem dX0_partsAsTold_72 : decode cX0_partsAsTold 72 = .ok (.bipush 12, 2) := by decide +kernel
theorem dX0_partsAsTold_74 : decode cX0_partsAsTold 74 = .ok (.iadd, 1) := by decide +kernel
theorem dX0_partsAsTold_75 : decode cX0_partsAsTold 75 = .ok (.invokevirtual 118, 3) := by decide +kernel
theorem dX0_partsAsTold_78 : decode cX0_partsAsTold 78 = .ok (.ifCond .ne 34, 3) := by decide +kernel
theorem dX0_partsAsTold_81 : decode cX0_partsAsTold 81 = .ok (.aload_n 0, 1) := by decide +kernel
theorem dX0_partsAsTold_82 : decode cX0_partsAsTold 82 = .ok (.getfield 38, 3) := by decide +kernel
theorem dX0_partsAsTold_85 : decode cX0_partsAsTold 85 = .ok (.iload 5, 2) := by decide +kernel
theorem dX0_partsAsTold_87 : decode cX0_partsAsTold 87 = .ok (.bipush 13, 2) := by decide +kernel
theorem dX0_partsAsTold_89 : decode cX0_partsAsTold 89 = .ok (.iadd, 1) := by decide +kernel
theorem dX0_partsAsTold_90 : decode cX0_partsAsTold 90 = .ok (.invokevirtual 118, 3) := by decide +kernel
theorem dX0_partsAsTold_93 : decode cX0_partsAsTold 93 = .ok (.iload_n 3, 1) := by decide +kernel
theorem dX0_partsAsTold_94 : decode cX0_partsAsTold 94 = .ok (.if_icmp .ne 18, 3) := by decide +kernel
theorem dX0_partsAsTold_97 : decode cX0_partsAsTold 97 = .ok (.aload_n 0, 1) := by decide +kernel
theorem dX0_partsAsTold_98 : decode cX0_partsAsTold 98 = .ok (.getfield 38, 3) := by decide +kernel
theorem dX0_partsAsTold_101 : decode cX0_partsAsTold 101 = .ok (.iload 5, 2) := by decide +kernel
theorem dX0_partsAsTold_103 : decode cX0_partsAsTold 103 = .ok (.bipush 26, 2) := by decide +kernel
theorem dX0_partsAsTold_105 : decode cX0_partsAsTold 105 = .ok (.iadd, 1) := by decide +kernel
theorem dX0_partsAsTold_106 : decode cX0_partsAsTold 106 = .ok (.invokevirtual 168, 3) := by decide +kernel
theorem dX0_partsAsTold_109 : decode cX0_partsAsTold 109 = .ok (.ifCond .eq 5, 3) := by decide +kernel
theorem dX0_partsAsTold_112 : decode cX0_partsAsTold 112 = .ok (.iconst 0, 1) := by decide +kernel
theorem dX0_partsAsTold_113 : decode cX0_partsAsTold 113 = .ok (.ireturn, 1) := by decide +kernel
theorem dX0_partsAsTold_114 : decode cX0_partsAsTold 114 = .ok (.iinc 4 1, 3) := by decide +kernel
theorem dX0_partsAsTold_117 : decode cX0_partsAsTold 117 = .ok (.goto (-98), 3) := by decide +kernel
theorem dX0_partsAsTold_120 : decode cX0_partsAsTold 120 = .ok (.iconst 1, 1) := by decide +kernel
theorem dX0_partsAsTold_121 : decode cX0_partsAsTold 121 = .ok (.ireturn, 1) := by decide +kernel
theorem dX0_fileChainAsTold_0 : decode cX0_fileChainAsTold 0 = .ok (.aload_n 0, 1) := by decide +kernel
theorem dX0_fileChainAsTold_1 : decode cX0_fileChainAsTold 1 = .ok (.getfield 38, 3) := by decide +kernel
theorem dX0_fileChainAsTold_4 : decode cX0_fileChainAsTold 4 = .ok (.iload_n 1, 1) := by decide +kernel
theorem dX0_fileChainAsTold_5 : decode cX0_fileChainAsTold 5 = .ok (.bipush 28, 2) := by decide +kernel
theorem dX0_fileChainAsTold_7 : decode cX0_fileChainAsTold 7 = .ok (.iadd, 1) := by decide +kernel
theorem dX0_fileChainAsTold_8 : decode cX0_fileChainAsTold 8 = .ok (.invokevirtual 142, 3) := by decide +kernel
theorem dX0_fileChainAsTold_11 : decode cX0_fileChainAsTold 11 = .ok (.istore_n 2, 1) := by decide +kernel
theorem dX0_fileChainAsTold_12 : decode cX0_fileChainAsTold 12 = .ok (.aload_n 0, 1) := by decide +kernel
theorem dX0_fileChainAsTold_13 : decode cX0_fileChainAsTold 13 = .ok (.getfield 38, 3) := by decide +kernel
theorem dX0_fileChainAsTold_16 : decode cX0_fileChainAsTold 16 = .ok (.iload_n 1, 1) := by decide +kernel
theorem dX0_fileChainAsTold_17 : decode cX0_fileChainAsTold 17 = .ok (.invokevirtual 128, 3) := by decide +kernel
theorem dX0_fileChainAsTold_20 : decode cX0_fileChainAsTold 20 = .ok (.istore_n 3, 1) := by decide +kernel
theorem dX0_fileChainAsTold_21 : decode cX0_fileChainAsTold 21 = .ok (.iload_n 2, 1) := by decide +kernel
theorem dX0_fileChainAsTold_22 : decode cX0_fileChainAsTold 22 = .ok (.ifCond .ne 13, 3) := by decide +kernel
theorem dX0_fileChainAsTold_25 : decode cX0_fileChainAsTold 25 = .ok (.iload_n 3, 1) := by decide +kernel
theorem dX0_fileChainAsTold_26 : decode cX0_fileChainAsTold 26 = .ok (.ifCond .ne 7, 3) := by decide +kernel
theorem dX0_fileChainAsTold_29 : decode cX0_fileChainAsTold 29 = .ok (.iconst 1, 1) := by decide +kernel
theorem dX0_fileChainAsTold_30 : decode cX0_fileChainAsTold 30 = .ok (.goto 4, 3) := by decide +kernel
theorem dX0_fileChainAsTold_33 : decode cX0_fileChainAsTold 33 = .ok (.iconst 0, 1) := by decide +kernel
theorem dX0_fileChainAsTold_34 : decode cX0_fileChainAsTold 34 = .ok (.ireturn, 1) := by decide +kernel
theorem dX0_fileChainAsTold_35 : decode cX0_fileChainAsTold 35 = .ok (.iload_n 2, 1) := by decide +kernel
theorem dX0_fileChainAsTold_36 : decode cX0_fileChainAsTold 36 = .ok (.ifCond .le 23, 3) := by decide +kernel
theorem dX0_fileChainAsTold_39 : decode cX0_fileChainAsTold 39 = .ok (.aload_n 0, 1) := by decide +kernel
theorem dX0_fileChainAsTold_40 : decode cX0_fileChainAsTold 40 = .ok (.iload_n 3, 1) := by decide +kernel
theorem dX0_fileChainAsTold_41 : decode cX0_fileChainAsTold 41 = .ok (.invokevirtual 101, 3) := by decide +kernel
theorem dX0_fileChainAsTold_44 : decode cX0_fileChainAsTold 44 = .ok (.aload_n 0, 1) := by decide +kernel
theorem dX0_fileChainAsTold_45 : decode cX0_fileChainAsTold 45 = .ok (.getfield 28, 3) := by decide +kernel
theorem dX0_fileChainAsTold_48 : decode cX0_fileChainAsTold 48 = .ok (.iload_n 2, 1) := by decide +kernel
theorem dX0_fileChainAsTold_49 : decode cX0_fileChainAsTold 49 = .ok (.invokevirtual 205, 3) := by decide +kernel
theorem dX0_fileChainAsTold_52 : decode cX0_fileChainAsTold 52 = .ok (.if_icmp .ne 7, 3) := by decide +kernel
theorem dX0_fileChainAsTold_55 : decode cX0_fileChainAsTold 55 = .ok (.iconst 1, 1) := by decide +kernel
theorem dX0_fileChainAsTold_56 : decode cX0_fileChainAsTold 56 = .ok (.goto 4, 3) := by decide +kernel
theorem dX0_fileChainAsTold_59 : decode cX0_fileChainAsTold 59 = .ok (.iconst 0, 1) := by decide +kernel
theorem dX0_fileChainAsTold_60 : decode cX0_fileChainAsTold 60 = .ok (.ireturn, 1) := by decide +kernel
theorem dX1_daysOfMonth_0 : decode cX1_daysOfMonth 0 = .ok (.iload_n 1, 1) := by decide +kernel
theorem dX1_daysOfMonth_1 : decode cX1_daysOfMonth 1 = .ok (.iconst 1, 1) := by decide +kernel
theorem dX1_daysOfMonth_2 : decode cX1_daysOfMonth 2 = .ok (.if_icmp .lt 9, 3) := by decide +kernel
theorem dX1_daysOfMonth_5 : decode cX1_daysOfMonth 5 = .ok (.iload_n 1, 1) := by decide +kernel
theorem dX1_daysOfMonth_6 : decode cX1_daysOfMonth 6 = .ok (.bipush 12, 2) := by decide +kernel
theorem dX1_daysOfMonth_8 : decode cX1_daysOfMonth 8 = .ok (.if_icmp .le 5, 3) := by decide +kernel
theorem dX1_daysOfMonth_11 : decode cX1_daysOfMonth 11 = .ok (.iconst 0, 1) := by decide +kernel
theorem dX1_daysOfMonth_12 : decode cX1_daysOfMonth 12 = .ok (.ireturn, 1) := by decide +kernel
theorem dX1_daysOfMonth_13 : decode cX1_daysOfMonth 13 = .ok (.iload_n 0, 1) := by decide +kernel
theorem dX1_daysOfMonth_14 : decode cX1_daysOfMonth 14 = .ok (.iconst 4, 1) := by decide +kernel
theorem dX1_daysOfMonth_15 : decode cX1_daysOfMonth 15 = .ok (.irem, 1) := by decide +kernel
theorem dX1_daysOfMonth_16 : decode cX1_daysOfMonth 16 = .ok (.ifCond .ne 22, 3) := by decide +kernel
theorem dX1_daysOfMonth_19 : decode cX1_daysOfMonth 19 = .ok (.iload_n 0, 1) := by decide +kernel
theorem dX1_daysOfMonth_20 : decode cX1_daysOfMonth 20 = .ok (.bipush 100, 2) := by decide +kernel
theorem dX1_daysOfMonth_22 : decode cX1_daysOfMonth 22 = .ok (.irem, 1) := by decide +kernel
theorem dX1_daysOfMonth_23 : decode cX1_daysOfMonth 23 = .ok (.ifCond .ne 11, 3) := by decide +kernel
theorem dX1_daysOfMonth_26 : decode cX1_daysOfMonth 26 = .ok (.iload_n 0, 1) := by decide +kernel
theorem dX1_daysOfMonth_27 : decode cX1_daysOfMonth 27 = .ok (.sipush 400, 3) := by decide +kernel
theorem dX1_daysOfMonth_30 : decode cX1_daysOfMonth 30 = .ok (.irem, 1) := by decide +kernel
theorem dX1_daysOfMonth_31 : decode cX1_daysOfMonth 31 = .ok (.ifCond .ne 7, 3) := by decide +kernel
theorem dX1_daysOfMonth_34 : decode cX1_daysOfMonth 34 = .ok (.iconst 1, 1) := by decide +kernel
theorem dX1_daysOfMonth_35 : decode cX1_daysOfMonth 35 = .ok (.goto 4, 3) := by decide +kernel
theorem dX1_daysOfMonth_38 : decode cX1_daysOfMonth 38 = .ok (.iconst 0, 1) := by decide +kernel
theorem dX1_daysOfMonth_39 : decode cX1_daysOfMonth 39 = .ok (.istore_n 2, 1) := by decide +kernel
theorem dX1_daysOfMonth_40 : decode cX1_daysOfMonth 40 = .ok (.iload_n 1, 1) := by decide +kernel
theorem dX1_daysOfMonth_41 : decode cX1_daysOfMonth 41 = .ok (.iconst 2, 1) := by decide +kernel
theorem dX1_daysOfMonth_42 : decode cX1_daysOfMonth 42 = .ok (.if_icmp .ne 12, 3) := by decide +kernel
theorem dX1_daysOfMonth_45 : decode cX1_daysOfMonth 45 = .ok (.iload_n 2, 1) := by decide +kernel
theorem dX1_daysOfMonth_46 : decode cX1_daysOfMonth 46 = .ok (.ifCond .eq 8, 3) := by decide +kernel
theorem dX1_daysOfMonth_49 : decode cX1_daysOfMonth 49 = .ok (.bipush 29, 2) := by decide +kernel
theorem dX1_daysOfMonth_51 : decode cX1_daysOfMonth 51 = .ok (.goto 10, 3) := by decide +kernel
theorem dX1_daysOfMonth_54 : decode cX1_daysOfMonth 54 = .ok (.getstatic 7, 3) := by decide +kernel
theorem dX1_daysOfMonth_57 : decode cX1_daysOfMonth 57 = .ok (.iload_n 1, 1) := by decide +kernel
theorem dX1_daysOfMonth_58 : decode cX1_daysOfMonth 58 = .ok (.iconst 1, 1) := by decide +kernel
theorem dX1_daysOfMonth_59 : decode cX1_daysOfMonth 59 = .ok (.isub, 1) := by decide +kernel
theorem dX1_daysOfMonth_60 : decode cX1_daysOfMonth 60 = .ok (.iaload, 1) := by decide +kernel
theorem dX1_daysOfMonth_61 : decode cX1_daysOfMonth 61 = .ok (.ireturn, 1) := by decide +kernel
theorem dX1_dayAsTold_0 : decode cX1_dayAsTold 0 = .ok (.iload_n 0, 1) := by decide +kernel
theorem dX1_dayAsTold_1 : decode cX1_dayAsTold 1 = .ok (.ifCond .lt 9, 3) := by decide +kernel
theorem dX1_dayAsTold_4 : decode cX1_dayAsTold 4 = .ok (.iload_n 0, 1) := by decide +kernel
theorem dX1_dayAsTold_5 : decode cX1_dayAsTold 5 = .ok (.ldc 13, 2) := by decide +kernel
theorem dX1_dayAsTold_7 : decode cX1_dayAsTold 7 = .ok (.if_icmp .le 5, 3) := by decide +kernel
theorem dX1_dayAsTold_10 : decode cX1_dayAsTold 10 = .ok (.iconst 0, 1) := by decide +kernel
theorem dX1_dayAsTold_11 : decode cX1_dayAsTold 11 = .ok (.ireturn, 1) := by decide +kernel
theorem dX1_dayAsTold_12 : decode cX1_dayAsTold 12 = .ok (.iload_n 0, 1) := by decide +kernel
theorem dX1_dayAsTold_13 : decode cX1_dayAsTold 13 = .ok (.bipush 31, 2) := by decide +kernel
theorem dX1_dayAsTold_15 : decode cX1_dayAsTold 15 = .ok (.iand, 1) := by decide +kernel
theorem dX1_dayAsTold_16 : decode cX1_dayAsTold 16 = .ok (.istore_n 1, 1) := by decide +kernel
theorem dX1_dayAsTold_17 : decode cX1_dayAsTold 17 = .ok (.iload_n 1, 1) := by decide +kernel
theorem dX1_dayAsTold_18 : decode cX1_dayAsTold 18 = .ok (.iconst 1, 1) := by decide +kernel
theorem dX1_dayAsTold_19 : decode cX1_dayAsTold 19 = .ok (.if_icmp .lt 28, 3) := by decide +kernel
theorem dX1_dayAsTold_22 : decode cX1_dayAsTold 22 = .ok (.iload_n 1, 1) := by decide +kernel
theorem dX1_dayAsTold_23 : decode cX1_dayAsTold 23 = .ok (.sipush 1980, 3) := by decide +kernel
theorem dX1_dayAsTold_26 : decode cX1_dayAsTold 26 = .ok (.iload_n 0, 1) := by decide +kernel
theorem dX1_dayAsTold_27 : decode cX1_dayAsTold 27 = .ok (.bipush 9, 2) := by decide +kernel
theorem dX1_dayAsTold_29 : decode cX1_dayAsTold 29 = .ok (.ishr, 1) := by decide +kernel
theorem dX1_dayAsTold_30 : decode cX1_dayAsTold 30 = .ok (.iadd, 1) := by decide +kernel
theorem dX1_dayAsTold_31 : decode cX1_dayAsTold 31 = .ok (.iload_n 0, 1) := by decide +kernel
theorem dX1_dayAsTold_32 : decode cX1_dayAsTold 32 = .ok (.iconst 5, 1) := by decide +kernel
theorem dX1_dayAsTold_33 : decode cX1_dayAsTold 33 = .ok (.ishr, 1) := by decide +kernel
theorem dX1_dayAsTold_34 : decode cX1_dayAsTold 34 = .ok (.bipush 15, 2) := by decide +kernel
theorem dX1_dayAsTold_36 : decode cX1_dayAsTold 36 = .ok (.iand, 1) := by decide +kernel
theorem dX1_dayAsTold_37 : decode cX1_dayAsTold 37 = .ok (.invokestatic 14, 3) := by decide +kernel
theorem dX1_dayAsTold_40 : decode cX1_dayAsTold 40 = .ok (.if_icmp .gt 7, 3) := by decide +kernel
theorem dX1_dayAsTold_43 : decode cX1_dayAsTold 43 = .ok (.iconst 1, 1) := by decide +kernel
theorem dX1_dayAsTold_44 : decode cX1_dayAsTold 44 = .ok (.goto 4, 3) := by decide +kernel
theorem dX1_dayAsTold_47 : decode cX1_dayAsTold 47 = .ok (.iconst 0, 1) := by decide +kernel
theorem dX1_dayAsTold_48 : decode cX1_dayAsTold 48 = .ok (.ireturn, 1) := by decide +kernel
theorem dX1_timeAsTold_0 : decode cX1_timeAsTold 0 = .ok (.iload_n 0, 1) := by decide +kernel
theorem dX1_timeAsTold_1 : decode cX1_timeAsTold 1 = .ok (.ifCond .lt 36, 3) := by decide +kernel
theorem dX1_timeAsTold_4 : decode cX1_timeAsTold 4 = .ok (.iload_n 0, 1) := by decide +kernel
theorem dX1_timeAsTold_5 : decode cX1_timeAsTold 5 = .ok (.bipush 11, 2) := by decide +kernel
theorem dX1_timeAsTold_7 : decode cX1_timeAsTold 7 = .ok (.ishr, 1) := by decide +kernel
theorem dX1_timeAsTold_8 : decode cX1_timeAsTold 8 = .ok (.bipush 24, 2) := by decide +kernel
theorem dX1_timeAsTold_10 : decode cX1_timeAsTold 10 = .ok (.if_icmp .ge 27, 3) := by decide +kernel
theorem dX1_timeAsTold_13 : decode cX1_timeAsTold 13 = .ok (.iload_n 0, 1) := by decide +kernel
theorem dX1_timeAsTold_14 : decode cX1_timeAsTold 14 = .ok (.iconst 5, 1) := by decide +kernel
theorem dX1_timeAsTold_15 : decode cX1_timeAsTold 15 = .ok (.ishr, 1) := by decide +kernel
theorem dX1_timeAsTold_16 : decode cX1_timeAsTold 16 = .ok (.bipush 63, 2) := by decide +kernel
theorem dX1_timeAsTold_18 : decode cX1_timeAsTold 18 = .ok (.iand, 1) := by decide +kernel
theorem dX1_timeAsTold_19 : decode cX1_timeAsTold 19 = .ok (.bipush 60, 2) := by decide +kernel
theorem dX1_timeAsTold_21 : decode cX1_timeAsTold 21 = .ok (.if_icmp .ge 16, 3) := by decide +kernel
theorem dX1_timeAsTold_24 : decode cX1_timeAsTold 24 = .ok (.iload_n 0, 1) := by decide +kernel
theorem dX1_timeAsTold_25 : decode cX1_timeAsTold 25 = .ok (.bipush 31, 2) := by decide +kernel
theorem dX1_timeAsTold_27 : decode cX1_timeAsTold 27 = .ok (.iand, 1) := by decide +kernel
theorem dX1_timeAsTold_28 : decode cX1_timeAsTold 28 = .ok (.bipush 30, 2) := by decide +kernel
theorem dX1_timeAsTold_30 : decode cX1_timeAsTold 30 = .ok (.if_icmp .ge 7, 3) := by decide +kernel
theorem dX1_timeAsTold_33 : decode cX1_timeAsTold 33 = .ok (.iconst 1, 1) := by decide +kernel
theorem dX1_timeAsTold_34 : decode cX1_timeAsTold 34 = .ok (.goto 4, 3) := by decide +kernel
theorem dX1_timeAsTold_37 : decode cX1_timeAsTold 37 = .ok (.iconst 0, 1) := by decide +kernel
theorem dX1_timeAsTold_38 : decode cX1_timeAsTold 38 = .ok (.ireturn, 1) := by decide +kernel
theorem dX1_madeAsTold_0 : decode cX1_madeAsTold 0 = .ok (.iload_n 0, 1) := by decide +kernel
theorem dX1_madeAsTold_1 : decode cX1_madeAsTold 1 = .ok (.ifCond .ne 17, 3) := by decide +kernel
theorem dX1_madeAsTold_4 : decode cX1_madeAsTold 4 = .ok (.iload_n 1, 1) := by decide +kernel
theorem dX1_madeAsTold_5 : decode cX1_madeAsTold 5 = .ok (.ifCond .ne 11, 3) := by decide +kernel
theorem dX1_madeAsTold_8 : decode cX1_madeAsTold 8 = .ok (.iload_n 2, 1) := by decide +kernel
theorem dX1_madeAsTold_9 : decode cX1_madeAsTold 9 = .ok (.ifCond .ne 7, 3) := by decide +kernel
theorem dX1_madeAsTold_12 : decode cX1_madeAsTold 12 = .ok (.iconst 1, 1) := by decide +kernel
theorem dX1_madeAsTold_13 : decode cX1_madeAsTold 13 = .ok (.goto 4, 3) := by decide +kernel
theorem dX1_madeAsTold_16 : decode cX1_madeAsTold 16 = .ok (.iconst 0, 1) := by decide +kernel
theorem dX1_madeAsTold_17 : decode cX1_madeAsTold 17 = .ok (.ireturn, 1) := by decide +kernel
theorem dX1_madeAsTold_18 : decode cX1_madeAsTold 18 = .ok (.iload_n 0, 1) := by decide +kernel
theorem dX1_madeAsTold_19 : decode cX1_madeAsTold 19 = .ok (.invokestatic 18, 3) := by decide +kernel
theorem dX1_madeAsTold_22 : decode cX1_madeAsTold 22 = .ok (.ifCond .eq 25, 3) := by decide +kernel
theorem dX1_madeAsTold_25 : decode cX1_madeAsTold 25 = .ok (.iload_n 1, 1) := by decide +kernel
theorem dX1_madeAsTold_26 : decode cX1_madeAsTold 26 = .ok (.invokestatic 22, 3) := by decide +kernel
theorem dX1_madeAsTold_29 : decode cX1_madeAsTold 29 = .ok (.ifCond .eq 18, 3) := by decide +kernel
theorem dX1_madeAsTold_32 : decode cX1_madeAsTold 32 = .ok (.iload_n 2, 1) := by decide +kernel
theorem dX1_madeAsTold_33 : decode cX1_madeAsTold 33 = .ok (.ifCond .lt 14, 3) := by decide +kernel
theorem dX1_madeAsTold_36 : decode cX1_madeAsTold 36 = .ok (.iload_n 2, 1) := by decide +kernel
theorem dX1_madeAsTold_37 : decode cX1_madeAsTold 37 = .ok (.sipush 199, 3) := by decide +kernel
theorem dX1_madeAsTold_40 : decode cX1_madeAsTold 40 = .ok (.if_icmp .gt 7, 3) := by decide +kernel
theorem dX1_madeAsTold_43 : decode cX1_madeAsTold 43 = .ok (.iconst 1, 1) := by decide +kernel
theorem dX1_madeAsTold_44 : decode cX1_madeAsTold 44 = .ok (.goto 4, 3) := by decide +kernel
theorem dX1_madeAsTold_47 : decode cX1_madeAsTold 47 = .ok (.iconst 0, 1) := by decide +kernel
theorem dX1_madeAsTold_48 : decode cX1_madeAsTold 48 = .ok (.ireturn, 1) := by decide +kernel
theorem dX1_seconds_0 : decode cX1_seconds 0 = .ok (.sipush 1980, 3) := by decide +kernel
theorem dX1_seconds_3 : decode cX1_seconds 3 = .ok (.iload_n 0, 1) := by decide +kernel
theorem dX1_seconds_4 : decode cX1_seconds 4 = .ok (.bipush 9, 2) := by decide +kernel
theorem dX1_seconds_6 : decode cX1_seconds 6 = .ok (.ishr, 1) := by decide +kernel
theorem dX1_seconds_7 : decode cX1_seconds 7 = .ok (.iadd, 1) := by decide +kernel
theorem dX1_seconds_8 : decode cX1_seconds 8 = .ok (.istore_n 2, 1) := by decide +kernel
theorem dX1_seconds_9 : decode cX1_seconds 9 = .ok (.iload_n 0, 1) := by decide +kernel
theorem dX1_seconds_10 : decode cX1_seconds 10 = .ok (.bipush 31, 2) := by decide +kernel
theorem dX1_seconds_12 : decode cX1_seconds 12 = .ok (.iand, 1) := by decide +kernel
theorem dX1_seconds_13 : decode cX1_seconds 13 = .ok (.iconst 1, 1) := by decide +kernel
theorem dX1_seconds_14 : decode cX1_seconds 14 = .ok (.isub, 1) := by decide +kernel
theorem dX1_seconds_15 : decode cX1_seconds 15 = .ok (.istore_n 3, 1) := by decide +kernel
theorem dX1_seconds_16 : decode cX1_seconds 16 = .ok (.sipush 1970, 3) := by decide +kernel
theorem dX1_seconds_19 : decode cX1_seconds 19 = .ok (.istore 4, 2) := by decide +kernel
theorem dX1_seconds_21 : decode cX1_seconds 21 = .ok (.iload 4, 2) := by decide +kernel
theorem dX1_seconds_23 : decode cX1_seconds 23 = .ok (.iload_n 2, 1) := by decide +kernel
theorem dX1_seconds_24 : decode cX1_seconds 24 = .ok (.if_icmp .ge 22, 3) := by decide +kernel
theorem dX1_seconds_27 : decode cX1_seconds 27 = .ok (.iload_n 3, 1) := by decide +kernel
theorem dX1_seconds_28 : decode cX1_seconds 28 = .ok (.sipush 337, 3) := by decide +kernel
theorem dX1_seconds_31 : decode cX1_seconds 31 = .ok (.iload 4, 2) := by decide +kernel
theorem dX1_seconds_33 : decode cX1_seconds 33 = .ok (.iconst 2, 1) := by decide +kernel
theorem dX1_seconds_34 : decode cX1_seconds 34 = .ok (.invokestatic 14, 3) := by decide +kernel
theorem dX1_seconds_37 : decode cX1_seconds 37 = .ok (.iadd, 1) := by decide +kernel
theorem dX1_seconds_38 : decode cX1_seconds 38 = .ok (.iadd, 1) := by decide +kernel
theorem dX1_seconds_39 : decode cX1_seconds 39 = .ok (.istore_n 3, 1) := by decide +kernel
theorem dX1_seconds_40 : decode cX1_seconds 40 = .ok (.iinc 4 1, 3) := by decide +kernel
theorem dX1_seconds_43 : decode cX1_seconds 43 = .ok (.goto (-22), 3) := by decide +kernel
theorem dX1_seconds_46 : decode cX1_seconds 46 = .ok (.iconst 1, 1) := by decide +kernel
theorem dX1_seconds_47 : decode cX1_seconds 47 = .ok (.istore 4, 2) := by decide +kernel
theorem dX1_seconds_49 : decode cX1_seconds 49 = .ok (.iload 4, 2) := by decide +kernel
theorem dX1_seconds_51 : decode cX1_seconds 51 = .ok (.iload_n 0, 1) := by decide +kernel
theorem dX1_seconds_52 : decode cX1_seconds 52 = .ok (.iconst 5, 1) := by decide +kernel
theorem dX1_seconds_53 : decode cX1_seconds 53 = .ok (.ishr, 1) := by decide +kernel
theorem dX1_seconds_54 : decode cX1_seconds 54 = .ok (.bipush 15, 2) := by decide +kernel
theorem dX1_seconds_56 : decode cX1_seconds 56 = .ok (.iand, 1) := by decide +kernel
theorem dX1_seconds_57 : decode cX1_seconds 57 = .ok (.if_icmp .ge 18, 3) := by decide +kernel
theorem dX1_seconds_60 : decode cX1_seconds 60 = .ok (.iload_n 3, 1) := by decide +kernel
theorem dX1_seconds_61 : decode cX1_seconds 61 = .ok (.iload_n 2, 1) := by decide +kernel
theorem dX1_seconds_62 : decode cX1_seconds 62 = .ok (.iload 4, 2) := by decide +kernel
theorem dX1_seconds_64 : decode cX1_seconds 64 = .ok (.invokestatic 14, 3) := by decide +kernel
theorem dX1_seconds_67 : decode cX1_seconds 67 = .ok (.iadd, 1) := by decide +kernel
theorem dX1_seconds_68 : decode cX1_seconds 68 = .ok (.istore_n 3, 1) := by decide +kernel
theorem dX1_seconds_69 : decode cX1_seconds 69 = .ok (.iinc 4 1, 3) := by decide +kernel
theorem dX1_seconds_72 : decode cX1_seconds 72 = .ok (.goto (-23), 3) := by decide +kernel
theorem dX1_seconds_75 : decode cX1_seconds 75 = .ok (.iload_n 3, 1) := by decide +kernel
theorem dX1_seconds_76 : decode cX1_seconds 76 = .ok (.i2l, 1) := by decide +kernel
theorem dX1_seconds_77 : decode cX1_seconds 77 = .ok (.ldc2_w 25, 3) := by decide +kernel
theorem dX1_seconds_80 : decode cX1_seconds 80 = .ok (.lmul, 1) := by decide +kernel
theorem dX1_seconds_81 : decode cX1_seconds 81 = .ok (.iload_n 1, 1) := by decide +kernel
theorem dX1_seconds_82 : decode cX1_seconds 82 = .ok (.bipush 11, 2) := by decide +kernel
theorem dX1_seconds_84 : decode cX1_seconds 84 = .ok (.ishr, 1) := by decide +kernel
theorem dX1_seconds_85 : decode cX1_seconds 85 = .ok (.sipush 3600, 3) := by decide +kernel
theorem dX1_seconds_88 : decode cX1_seconds 88 = .ok (.imul, 1) := by decide +kernel
theorem dX1_seconds_89 : decode cX1_seconds 89 = .ok (.i2l, 1) := by decide +kernel
theorem dX1_seconds_90 : decode cX1_seconds 90 = .ok (.ladd, 1) := by decide +kernel
theorem dX1_seconds_91 : decode cX1_seconds 91 = .ok (.iload_n 1, 1) := by decide +kernel
theorem dX1_seconds_92 : decode cX1_seconds 92 = .ok (.iconst 5, 1) := by decide +kernel
theorem dX1_seconds_93 : decode cX1_seconds 93 = .ok (.ishr, 1) := by decide +kernel
theorem dX1_seconds_94 : decode cX1_seconds 94 = .ok (.bipush 63, 2) := by decide +kernel
theorem dX1_seconds_96 : decode cX1_seconds 96 = .ok (.iand, 1) := by decide +kernel
theorem dX1_seconds_97 : decode cX1_seconds 97 = .ok (.bipush 60, 2) := by decide +kernel
theorem dX1_seconds_99 : decode cX1_seconds 99 = .ok (.imul, 1) := by decide +kernel
theorem dX1_seconds_100 : decode cX1_seconds 100 = .ok (.i2l, 1) := by decide +kernel
theorem dX1_seconds_101 : decode cX1_seconds 101 = .ok (.ladd, 1) := by decide +kernel
theorem dX1_seconds_102 : decode cX1_seconds 102 = .ok (.iload_n 1, 1) := by decide +kernel
theorem dX1_seconds_103 : decode cX1_seconds 103 = .ok (.bipush 31, 2) := by decide +kernel
theorem dX1_seconds_105 : decode cX1_seconds 105 = .ok (.iand, 1) := by decide +kernel
theorem dX1_seconds_106 : decode cX1_seconds 106 = .ok (.iconst 2, 1) := by decide +kernel
theorem dX1_seconds_107 : decode cX1_seconds 107 = .ok (.imul, 1) := by decide +kernel
theorem dX1_seconds_108 : decode cX1_seconds 108 = .ok (.i2l, 1) := by decide +kernel
theorem dX1_seconds_109 : decode cX1_seconds 109 = .ok (.ladd, 1) := by decide +kernel
theorem dX1_seconds_110 : decode cX1_seconds 110 = .ok (.lreturn, 1) := by decide +kernel
theorem dX10_init_0 : decode cX10_init 0 = .ok (.aload_n 0, 1) := by decide +kernel
theorem dX10_init_1 : decode cX10_init 1 = .ok (.invokespecial 1, 3) := by decide +kernel
theorem dX10_init_4 : decode cX10_init 4 = .ok (.sipush 256, 3) := by decide +kernel
theorem dX10_init_7 : decode cX10_init 7 = .ok (.sipush 1024, 3) := by decide +kernel
theorem dX10_init_10 : decode cX10_init 10 = .ok (.iload_n 1, 1) := by decide +kernel
theorem dX10_init_11 : decode cX10_init 11 = .ok (.invokestatic 7, 3) := by decide +kernel
theorem dX10_init_14 : decode cX10_init 14 = .ok (.invokestatic 13, 3) := by decide +kernel
theorem dX10_init_17 : decode cX10_init 17 = .ok (.istore_n 2, 1) := by decide +kernel
theorem dX10_init_18 : decode cX10_init 18 = .ok (.aload_n 0, 1) := by decide +kernel
theorem dX10_init_19 : decode cX10_init 19 = .ok (.new 16, 3) := by decide +kernel
theorem dX10_init_22 : decode cX10_init 22 = .ok (.dup, 1) := by decide +kernel
theorem dX10_init_23 : decode cX10_init 23 = .ok (.iload_n 2, 1) := by decide +kernel
theorem dX10_init_24 : decode cX10_init 24 = .ok (.iload_n 2, 1) := by decide +kernel
theorem dX10_init_25 : decode cX10_init 25 = .ok (.iconst 1, 1) := by decide +kernel
theorem dX10_init_26 : decode cX10_init 26 = .ok (.iand, 1) := by decide +kernel
theorem dX10_init_27 : decode cX10_init 27 = .ok (.isub, 1) := by decide +kernel
theorem dX10_init_28 : decode cX10_init 28 = .ok (.invokespecial 18, 3) := by decide +kernel
theorem dX10_init_31 : decode cX10_init 31 = .ok (.putfield 21, 3) := by decide +kernel
theorem dX10_init_34 : decode cX10_init 34 = .ok (.aload_n 0, 1) := by decide +kernel
theorem dX10_init_35 : decode cX10_init 35 = .ok (.new 27, 3) := by decide +kernel
theorem dX10_init_38 : decode cX10_init 38 = .ok (.dup, 1) := by decide +kernel
theorem dX10_init_39 : decode cX10_init 39 = .ok (.invokespecial 29, 3) := by decide +kernel
theorem dX10_init_42 : decode cX10_init 42 = .ok (.putfield 30, 3) := by decide +kernel
theorem dX10_init_45 : decode cX10_init 45 = .ok (.aload_n 0, 1) := by decide +kernel
theorem dX10_init_46 : decode cX10_init 46 = .ok (.new 34, 3) := by decide +kernel
theorem dX10_init_49 : decode cX10_init 49 = .ok (.dup, 1) := by decide +kernel
theorem dX10_init_50 : decode cX10_init 50 = .ok (.aload_n 0, 1) := by decide +kernel
theorem dX10_init_51 : decode cX10_init 51 = .ok (.getfield 21, 3) := by decide +kernel
theorem dX10_init_54 : decode cX10_init 54 = .ok (.invokespecial 36, 3) := by decide +kernel
theorem dX10_init_57 : decode cX10_init 57 = .ok (.putfield 39, 3) := by decide +kernel
theorem dX10_init_60 : decode cX10_init 60 = .ok (.aload_n 0, 1) := by decide +kernel
theorem dX10_init_61 : decode cX10_init 61 = .ok (.new 43, 3) := by decide +kernel
theorem dX10_init_64 : decode cX10_init 64 = .ok (.dup, 1) := by decide +kernel
theorem dX10_init_65 : decode cX10_init 65 = .ok (.aload_n 0, 1) := by decide +kernel
theorem dX10_init_66 : decode cX10_init 66 = .ok (.getfield 39, 3) := by decide +kernel
theorem dX10_init_69 : decode cX10_init 69 = .ok (.invokespecial 45, 3) := by decide +kernel
theorem dX10_init_72 : decode cX10_init 72 = .ok (.putfield 48, 3) := by decide +kernel
theorem dX10_init_75 : decode cX10_init 75 = .ok (.aload_n 0, 1) := by decide +kernel
theorem dX10_init_76 : decode cX10_init 76 = .ok (.new 52, 3) := by decide +kernel
theorem dX10_init_79 : decode cX10_init 79 = .ok (.dup, 1) := by decide +kernel
theorem dX10_init_80 : decode cX10_init 80 = .ok (.aload_n 0, 1) := by decide +kernel
theorem dX10_init_81 : decode cX10_init 81 = .ok (.getfield 39, 3) := by decide +kernel
theorem dX10_init_84 : decode cX10_init 84 = .ok (.invokespecial 54, 3) := by decide +kernel
theorem dX10_init_87 : decode cX10_init 87 = .ok (.putfield 55, 3) := by decide +kernel
theorem dX10_init_90 : decode cX10_init 90 = .ok (.aload_n 0, 1) := by decide +kernel
theorem dX10_init_91 : decode cX10_init 91 = .ok (.new 52, 3) := by decide +kernel
theorem dX10_init_94 : decode cX10_init 94 = .ok (.dup, 1) := by decide +kernel
theorem dX10_init_95 : decode cX10_init 95 = .ok (.aload_n 0, 1) := by decide +kernel
theorem dX10_init_96 : decode cX10_init 96 = .ok (.getfield 39, 3) := by decide +kernel
theorem dX10_init_99 : decode cX10_init 99 = .ok (.invokespecial 54, 3) := by decide +kernel
theorem dX10_init_102 : decode cX10_init 102 = .ok (.putfield 59, 3) := by decide +kernel
theorem dX10_init_105 : decode cX10_init 105 = .ok (.aload_n 0, 1) := by decide +kernel
theorem dX10_init_106 : decode cX10_init 106 = .ok (.new 62, 3) := by decide +kernel
theorem dX10_init_109 : decode cX10_init 109 = .ok (.dup, 1) := by decide +kernel
theorem dX10_init_110 : decode cX10_init 110 = .ok (.invokespecial 64, 3) := by decide +kernel
theorem dX10_init_113 : decode cX10_init 113 = .ok (.putfield 65, 3) := by decide +kernel
theorem dX10_init_116 : decode cX10_init 116 = .ok (.aload_n 0, 1) := by decide +kernel
theorem dX10_init_117 : decode cX10_init 117 = .ok (.new 62, 3) := by decide +kernel
theorem dX10_init_120 : decode cX10_init 120 = .ok (.dup, 1) := by decide +kernel
theorem dX10_init_121 : decode cX10_init 121 = .ok (.invokespecial 64, 3) := by decide +kernel
theorem dX10_init_124 : decode cX10_init 124 = .ok (.putfield 69, 3) := by decide +kernel
theorem dX10_init_127 : decode cX10_init 127 = .ok (.aload_n 0, 1) := by decide +kernel
theorem dX10_init_128 : decode cX10_init 128 = .ok (.new 72, 3) := by decide +kernel
theorem dX10_init_131 : decode cX10_init 131 = .ok (.dup, 1) := by decide +kernel
theorem dX10_init_132 : decode cX10_init 132 = .ok (.invokespecial 74, 3) := by decide +kernel
theorem dX10_init_135 : decode cX10_init 135 = .ok (.putfield 75, 3) := by decide +kernel
theorem dX10_init_138 : decode cX10_init 138 = .ok (.aload_n 0, 1) := by decide +kernel
theorem dX10_init_139 : decode cX10_init 139 = .ok (.iconst 0, 1) := by decide +kernel
theorem dX10_init_140 : decode cX10_init 140 = .ok (.putfield 79, 3) := by decide +kernel
theorem dX10_init_143 : decode cX10_init 143 = .ok (.aload_n 0, 1) := by decide +kernel
theorem dX10_init_144 : decode cX10_init 144 = .ok (.iconst (-1), 1) := by decide +kernel
theorem dX10_init_145 : decode cX10_init 145 = .ok (.putfield 83, 3) := by decide +kernel
theorem dX10_init_148 : decode cX10_init 148 = .ok (.return_, 1) := by decide +kernel
theorem dX10_feed_0 : decode cX10_feed 0 = .ok (.aload_n 0, 1) := by decide +kernel
theorem dX10_feed_1 : decode cX10_feed 1 = .ok (.getfield 30, 3) := by decide +kernel
theorem dX10_feed_4 : decode cX10_feed 4 = .ok (.iload_n 1, 1) := by decide +kernel
theorem dX10_feed_5 : decode cX10_feed 5 = .ok (.iload_n 2, 1) := by decide +kernel
theorem dX10_feed_6 : decode cX10_feed 6 = .ok (.iload_n 3, 1) := by decide +kernel
theorem dX10_feed_7 : decode cX10_feed 7 = .ok (.iload 4, 2) := by decide +kernel
theorem dX10_feed_9 : decode cX10_feed 9 = .ok (.iload 5, 2) := by decide +kernel
theorem dX10_feed_11 : decode cX10_feed 11 = .ok (.invokevirtual 86, 3) := by decide +kernel
theorem dX10_feed_14 : decode cX10_feed 14 = .ok (.return_, 1) := by decide +kernel
theorem dX10_end_0 : decode cX10_end 0 = .ok (.aload_n 0, 1) := by decide +kernel
theorem dX10_end_1 : decode cX10_end 1 = .ok (.getfield 30, 3) := by decide +kernel
theorem dX10_end_4 : decode cX10_end 4 = .ok (.iload_n 1, 1) := by decide +kernel
theorem dX10_end_5 : decode cX10_end 5 = .ok (.invokevirtual 90, 3) := by decide +kernel
theorem dX10_end_8 : decode cX10_end 8 = .ok (.ireturn, 1) := by decide +kernel
theorem dX10_clear_0 : decode cX10_clear 0 = .ok (.aload_n 0, 1) := by decide +kernel
theorem dX10_clear_1 : decode cX10_clear 1 = .ok (.getfield 30, 3) := by decide +kernel
theorem dX10_clear_4 : decode cX10_clear 4 = .ok (.invokevirtual 94, 3) := by decide +kernel
theorem dX10_clear_7 : decode cX10_clear 7 = .ok (.pop, 1) := by decide +kernel
theorem dX10_clear_8 : decode cX10_clear 8 = .ok (.return_, 1) := by decide +kernel
theorem dX10_format_0 : decode cX10_format 0 = .ok (.aload_n 0, 1) := by decide +kernel
theorem dX10_format_1 : decode cX10_format 1 = .ok (.getfield 30, 3) := by decide +kernel
theorem dX10_format_4 : decode cX10_format 4 = .ok (.invokevirtual 94, 3) := by decide +kernel
theorem dX10_format_7 : decode cX10_format 7 = .ok (.istore 5, 2) := by decide +kernel
theorem dX10_format_9 : decode cX10_format 9 = .ok (.aload_n 0, 1) := by decide +kernel
theorem dX10_format_10 : decode cX10_format 10 = .ok (.getfield 39, 3) := by decide +kernel
theorem dX10_format_13 : decode cX10_format 13 = .ok (.iload_n 1, 1) := by decide +kernel
theorem dX10_format_14 : decode cX10_format 14 = .ok (.iload_n 2, 1) := by decide +kernel
theorem dX10_format_15 : decode cX10_format 15 = .ok (.iload_n 3, 1) := by decide +kernel
theorem dX10_format_16 : decode cX10_format 16 = .ok (.invokevirtual 98, 3) := by decide +kernel
theorem dX10_format_19 : decode cX10_format 19 = .ok (.istore 6, 2) := by decide +kernel
theorem dX10_format_21 : decode cX10_format 21 = .ok (.iload 6, 2) := by decide +kernel
theorem dX10_format_23 : decode cX10_format 23 = .ok (.ifCond .eq 19, 3) := by decide +kernel
theorem dX10_format_26 : decode cX10_format 26 = .ok (.aload_n 0, 1) := by decide +kernel
theorem dX10_format_27 : decode cX10_format 27 = .ok (.getfield 75, 3) := by decide +kernel
theorem dX10_format_30 : decode cX10_format 30 = .ok (.aload_n 0, 1) := by decide +kernel
theorem dX10_format_31 : decode cX10_format 31 = .ok (.getfield 30, 3) := by decide +kernel
theorem dX10_format_34 : decode cX10_format 34 = .ok (.iload 5, 2) := by decide +kernel
theorem dX10_format_36 : decode cX10_format 36 = .ok (.invokevirtual 102, 3) := by decide +kernel
theorem dX10_format_39 : decode cX10_format 39 = .ok (.ifCond .ne 13, 3) := by decide +kernel
theorem dX10_format_42 : decode cX10_format 42 = .ok (.new 106, 3) := by decide +kernel
theorem dX10_format_45 : decode cX10_format 45 = .ok (.dup, 1) := by decide +kernel
theorem dX10_format_46 : decode cX10_format 46 = .ok (.ldc 108, 2) := by decide +kernel
theorem dX10_format_48 : decode cX10_format 48 = .ok (.invokespecial 110, 3) := by decide +kernel
theorem dX10_format_51 : decode cX10_format 51 = .ok (.athrow, 1) := by decide +kernel
theorem dX10_format_52 : decode cX10_format 52 = .ok (.aload_n 0, 1) := by decide +kernel
theorem dX10_format_53 : decode cX10_format 53 = .ok (.getfield 21, 3) := by decide +kernel
theorem dX10_format_56 : decode cX10_format 56 = .ok (.invokevirtual 113, 3) := by decide +kernel
theorem dX10_format_59 : decode cX10_format 59 = .ok (.aload_n 0, 1) := by decide +kernel
theorem dX10_format_60 : decode cX10_format 60 = .ok (.getfield 39, 3) := by decide +kernel
theorem dX10_format_63 : decode cX10_format 63 = .ok (.iload_n 1, 1) := by decide +kernel
theorem dX10_format_64 : decode cX10_format 64 = .ok (.iload_n 2, 1) := by decide +kernel
theorem dX10_format_65 : decode cX10_format 65 = .ok (.iload_n 3, 1) := by decide +kernel
theorem dX10_format_66 : decode cX10_format 66 = .ok (.iload 6, 2) := by decide +kernel
theorem dX10_format_68 : decode cX10_format 68 = .ok (.iload 4, 2) := by decide +kernel
theorem dX10_format_70 : decode cX10_format 70 = .ok (.invokevirtual 116, 3) := by decide +kernel
theorem dX10_format_73 : decode cX10_format 73 = .ok (.iload 5, 2) := by decide +kernel
theorem dX10_format_75 : decode cX10_format 75 = .ok (.ifCond .le 24, 3) := by decide +kernel
theorem dX10_format_78 : decode cX10_format 78 = .ok (.aload_n 0, 1) := by decide +kernel
theorem dX10_format_79 : decode cX10_format 79 = .ok (.aload_n 0, 1) := by decide +kernel
theorem dX10_format_80 : decode cX10_format 80 = .ok (.getfield 39, 3) := by decide +kernel
theorem dX10_format_83 : decode cX10_format 83 = .ok (.aload_n 0, 1) := by decide +kernel
theorem dX10_format_84 : decode cX10_format 84 = .ok (.getfield 39, 3) := by decide +kernel
theorem dX10_format_87 : decode cX10_format 87 = .ok (.getfield 119, 3) := by decide +kernel
theorem dX10_format_90 : decode cX10_format 90 = .ok (.invokevirtual 122, 3) := by decide +kernel
theorem dX10_format_93 : decode cX10_format 93 = .ok (.bipush 8, 2) := by decide +kernel
theorem dX10_format_95 : decode cX10_format 95 = .ok (.iconst 0, 1) := by decide +kernel
theorem dX10_format_96 : decode cX10_format 96 = .ok (.invokevirtual 125, 3) := by decide +kernel
theorem dX10_format_99 : decode cX10_format 99 = .ok (.aload_n 0, 1) := by decide +kernel
theorem dX10_format_100 : decode cX10_format 100 = .ok (.invokevirtual 129, 3) := by decide +kernel
theorem dX10_format_103 : decode cX10_format 103 = .ok (.aload_n 0, 1) := by decide +kernel
theorem dX10_format_104 : decode cX10_format 104 = .ok (.getfield 39, 3) := by decide +kernel
theorem dX10_format_107 : decode cX10_format 107 = .ok (.getfield 132, 3) := by decide +kernel
theorem dX10_format_110 : decode cX10_format 110 = .ok (.ireturn, 1) := by decide +kernel
theorem dX10_poke_0 : decode cX10_poke 0 = .ok (.aload_n 0, 1) := by decide +kernel
theorem dX10_poke_1 : decode cX10_poke 1 = .ok (.getfield 21, 3) := by decide +kernel
theorem dX10_poke_4 : decode cX10_poke 4 = .ok (.iload_n 1, 1) := by decide +kernel
theorem dX10_poke_5 : decode cX10_poke 5 = .ok (.iload_n 2, 1) := by decide +kernel
theorem dX10_poke_6 : decode cX10_poke 6 = .ok (.invokevirtual 135, 3) := by decide +kernel
theorem dX10_poke_9 : decode cX10_poke 9 = .ok (.ifCond .ne 5, 3) := by decide +kernel
theorem dX10_poke_12 : decode cX10_poke 12 = .ok (.iconst 0, 1) := by decide +kernel
theorem dX10_poke_13 : decode cX10_poke 13 = .ok (.ireturn, 1) := by decide +kernel
theorem dX10_poke_14 : decode cX10_poke 14 = .ok (.aload_n 0, 1) := by decide +kernel
theorem dX10_poke_15 : decode cX10_poke 15 = .ok (.getfield 21, 3) := by decide +kernel
theorem dX10_poke_18 : decode cX10_poke 18 = .ok (.iload_n 1, 1) := by decide +kernel
theorem dX10_poke_19 : decode cX10_poke 19 = .ok (.sipush 512, 3) := by decide +kernel
theorem dX10_poke_22 : decode cX10_poke 22 = .ok (.imul, 1) := by decide +kernel
theorem dX10_poke_23 : decode cX10_poke 23 = .ok (.iload_n 2, 1) := by decide +kernel
theorem dX10_poke_24 : decode cX10_poke 24 = .ok (.iadd, 1) := by decide +kernel
theorem dX10_poke_25 : decode cX10_poke 25 = .ok (.iload_n 3, 1) := by decide +kernel
theorem dX10_poke_26 : decode cX10_poke 26 = .ok (.invokevirtual 139, 3) := by decide +kernel
theorem dX10_poke_29 : decode cX10_poke 29 = .ok (.aload_n 0, 1) := by decide +kernel
theorem dX10_poke_30 : decode cX10_poke 30 = .ok (.invokevirtual 129, 3) := by decide +kernel
theorem dX10_poke_33 : decode cX10_poke 33 = .ok (.iconst 1, 1) := by decide +kernel
theorem dX10_poke_34 : decode cX10_poke 34 = .ok (.ireturn, 1) := by decide +kernel
theorem dX10_fault_0 : decode cX10_fault 0 = .ok (.aload_n 0, 1) := by decide +kernel
theorem dX10_fault_1 : decode cX10_fault 1 = .ok (.getfield 83, 3) := by decide +kernel
theorem dX10_fault_4 : decode cX10_fault 4 = .ok (.iconst (-1), 1) := by decide +kernel
theorem dX10_fault_5 : decode cX10_fault 5 = .ok (.if_icmp .ne 14, 3) := by decide +kernel
theorem dX10_fault_8 : decode cX10_fault 8 = .ok (.aload_n 0, 1) := by decide +kernel
theorem dX10_fault_9 : decode cX10_fault 9 = .ok (.aload_n 0, 1) := by decide +kernel
theorem dX10_fault_10 : decode cX10_fault 10 = .ok (.getfield 48, 3) := by decide +kernel
theorem dX10_fault_13 : decode cX10_fault 13 = .ok (.invokevirtual 143, 3) := by decide +kernel
theorem dX10_fault_16 : decode cX10_fault 16 = .ok (.putfield 83, 3) := by decide +kernel
theorem dX10_fault_19 : decode cX10_fault 19 = .ok (.aload_n 0, 1) := by decide +kernel
theorem dX10_fault_20 : decode cX10_fault 20 = .ok (.getfield 83, 3) := by decide +kernel
theorem dX10_fault_23 : decode cX10_fault 23 = .ok (.ireturn, 1) := by decide +kernel
theorem dX10_byteAt_0 : decode cX10_byteAt 0 = .ok (.aload_n 0, 1) := by decide +kernel
theorem dX10_byteAt_1 : decode cX10_byteAt 1 = .ok (.getfield 21, 3) := by decide +kernel
theorem dX10_byteAt_4 : decode cX10_byteAt 4 = .ok (.iload_n 1, 1) := by decide +kernel
theorem dX10_byteAt_5 : decode cX10_byteAt 5 = .ok (.iload_n 2, 1) := by decide +kernel
theorem dX10_byteAt_6 : decode cX10_byteAt 6 = .ok (.invokevirtual 135, 3) := by decide +kernel
theorem dX10_byteAt_9 : decode cX10_byteAt 9 = .ok (.ifCond .ne 5, 3) := by decide +kernel
theorem dX10_byteAt_12 : decode cX10_byteAt 12 = .ok (.iconst (-1), 1) := by decide +kernel
theorem dX10_byteAt_13 : decode cX10_byteAt 13 = .ok (.ireturn, 1) := by decide +kernel
theorem dX10_byteAt_14 : decode cX10_byteAt 14 = .ok (.aload_n 0, 1) := by decide +kernel
theorem dX10_byteAt_15 : decode cX10_byteAt 15 = .ok (.getfield 39, 3) := by decide +kernel
theorem dX10_byteAt_18 : decode cX10_byteAt 18 = .ok (.invokevirtual 146, 3) := by decide +kernel
theorem dX10_byteAt_21 : decode cX10_byteAt 21 = .ok (.ifCond .eq 16, 3) := by decide +kernel
theorem dX10_byteAt_24 : decode cX10_byteAt 24 = .ok (.aload_n 0, 1) := by decide +kernel
theorem dX10_byteAt_25 : decode cX10_byteAt 25 = .ok (.getfield 39, 3) := by decide +kernel
theorem dX10_byteAt_28 : decode cX10_byteAt 28 = .ok (.iload_n 1, 1) := by decide +kernel
theorem dX10_byteAt_29 : decode cX10_byteAt 29 = .ok (.invokevirtual 150, 3) := by decide +kernel
theorem dX10_byteAt_32 : decode cX10_byteAt 32 = .ok (.ifCond .ne 5, 3) := by decide +kernel
theorem dX10_byteAt_35 : decode cX10_byteAt 35 = .ok (.iconst (-1), 1) := by decide +kernel
theorem dX10_byteAt_36 : decode cX10_byteAt 36 = .ok (.ireturn, 1) := by decide +kernel
theorem dX10_byteAt_37 : decode cX10_byteAt 37 = .ok (.aload_n 0, 1) := by decide +kernel
theorem dX10_byteAt_38 : decode cX10_byteAt 38 = .ok (.getfield 21, 3) := by decide +kernel
theorem dX10_byteAt_41 : decode cX10_byteAt 41 = .ok (.iload_n 1, 1) := by decide +kernel
theorem dX10_byteAt_42 : decode cX10_byteAt 42 = .ok (.sipush 512, 3) := by decide +kernel
theorem dX10_byteAt_45 : decode cX10_byteAt 45 = .ok (.imul, 1) := by decide +kernel
theorem dX10_byteAt_46 : decode cX10_byteAt 46 = .ok (.iload_n 2, 1) := by decide +kernel
theorem dX10_byteAt_47 : decode cX10_byteAt 47 = .ok (.iadd, 1) := by decide +kernel
theorem dX10_byteAt_48 : decode cX10_byteAt 48 = .ok (.invokevirtual 154, 3) := by decide +kernel
theorem dX10_byteAt_51 : decode cX10_byteAt 51 = .ok (.ireturn, 1) := by decide +kernel
theorem dX10_free_0 : decode cX10_free 0 = .ok (.aload_n 0, 1) := by decide +kernel
theorem dX10_free_1 : decode cX10_free 1 = .ok (.getfield 39, 3) := by decide +kernel
theorem dX10_free_4 : decode cX10_free 4 = .ok (.invokevirtual 146, 3) := by decide +kernel
theorem dX10_free_7 : decode cX10_free 7 = .ok (.ifCond .eq 13, 3) := by decide +kernel
theorem dX10_free_10 : decode cX10_free 10 = .ok (.aload_n 0, 1) := by decide +kernel
theorem dX10_free_11 : decode cX10_free 11 = .ok (.getfield 39, 3) := by decide +kernel
theorem dX10_free_14 : decode cX10_free 14 = .ok (.invokevirtual 157, 3) := by decide +kernel
theorem dX10_free_17 : decode cX10_free 17 = .ok (.goto 4, 3) := by decide +kernel
theorem dX10_free_20 : decode cX10_free 20 = .ok (.iconst (-1), 1) := by decide +kernel
theorem dX10_free_21 : decode cX10_free 21 = .ok (.ireturn, 1) := by decide +kernel
theorem dX10_items_0 : decode cX10_items 0 = .ok (.aload_n 0, 1) := by decide +kernel
theorem dX10_items_1 : decode cX10_items 1 = .ok (.invokevirtual 160, 3) := by decide +kernel
theorem dX10_items_4 : decode cX10_items 4 = .ok (.aload_n 0, 1) := by decide +kernel
theorem dX10_items_5 : decode cX10_items 5 = .ok (.getfield 55, 3) := by decide +kernel
theorem dX10_items_8 : decode cX10_items 8 = .ok (.getfield 163, 3) := by decide +kernel
theorem dX10_items_11 : decode cX10_items 11 = .ok (.ireturn, 1) := by decide +kernel
theorem dX10_letter_0 : decode cX10_letter 0 = .ok (.aload_n 0, 1) := by decide +kernel
theorem dX10_letter_1 : decode cX10_letter 1 = .ok (.invokevirtual 160, 3) := by decide +kernel
theorem dX10_letter_4 : decode cX10_letter 4 = .ok (.aload_n 0, 1) := by decide +kernel
theorem dX10_letter_5 : decode cX10_letter 5 = .ok (.iload_n 1, 1) := by decide +kernel
theorem dX10_letter_6 : decode cX10_letter 6 = .ok (.invokevirtual 166, 3) := by decide +kernel
theorem dX10_letter_9 : decode cX10_letter 9 = .ok (.pop, 1) := by decide +kernel
theorem dX10_letter_10 : decode cX10_letter 10 = .ok (.aload_n 0, 1) := by decide +kernel
theorem dX10_letter_11 : decode cX10_letter 11 = .ok (.getfield 65, 3) := by decide +kernel
theorem dX10_letter_14 : decode cX10_letter 14 = .ok (.aload_n 0, 1) := by decide +kernel
theorem dX10_letter_15 : decode cX10_letter 15 = .ok (.getfield 55, 3) := by decide +kernel
theorem dX10_letter_18 : decode cX10_letter 18 = .ok (.aload_n 0, 1) := by decide +kernel
theorem dX10_letter_19 : decode cX10_letter 19 = .ok (.getfield 55, 3) := by decide +kernel
theorem dX10_letter_22 : decode cX10_letter 22 = .ok (.iload_n 1, 1) := by decide +kernel
theorem dX10_letter_23 : decode cX10_letter 23 = .ok (.invokevirtual 169, 3) := by decide +kernel
theorem dX10_letter_26 : decode cX10_letter 26 = .ok (.aload_n 0, 1) := by decide +kernel
theorem dX10_letter_27 : decode cX10_letter 27 = .ok (.getfield 55, 3) := by decide +kernel
theorem dX10_letter_30 : decode cX10_letter 30 = .ok (.iload_n 1, 1) := by decide +kernel
theorem dX10_letter_31 : decode cX10_letter 31 = .ok (.invokevirtual 172, 3) := by decide +kernel
theorem dX10_letter_34 : decode cX10_letter 34 = .ok (.invokevirtual 175, 3) := by decide +kernel
theorem dX10_letter_37 : decode cX10_letter 37 = .ok (.aload_n 0, 1) := by decide +kernel
theorem dX10_letter_38 : decode cX10_letter 38 = .ok (.getfield 65, 3) := by decide +kernel
theorem dX10_letter_41 : decode cX10_letter 41 = .ok (.iload_n 2, 1) := by decide +kernel
theorem dX10_letter_42 : decode cX10_letter 42 = .ok (.invokevirtual 179, 3) := by decide +kernel
theorem dX10_letter_45 : decode cX10_letter 45 = .ok (.ireturn, 1) := by decide +kernel
theorem dX10_about_0 : decode cX10_about 0 = .ok (.aload_n 0, 1) := by decide +kernel
theorem dX10_about_1 : decode cX10_about 1 = .ok (.invokevirtual 160, 3) := by decide +kernel
theorem dX10_about_4 : decode cX10_about 4 = .ok (.aload_n 0, 1) := by decide +kernel
theorem dX10_about_5 : decode cX10_about 5 = .ok (.iload_n 1, 1) := by decide +kernel
theorem dX10_about_6 : decode cX10_about 6 = .ok (.invokevirtual 166, 3) := by decide +kernel
theorem dX10_about_9 : decode cX10_about 9 = .ok (.istore_n 3, 1) := by decide +kernel
theorem dX10_about_10 : decode cX10_about 10 = .ok (.iload_n 2, 1) := by decide +kernel
theorem dX10_about_11 : decode cX10_about 11 = .ok (.tableswitch 111 0 6 #[41, 55, 70, 76, 82, 88, 101], 41) := by decide +kernel
theorem dX10_about_52 : decode cX10_about 52 = .ok (.aload_n 0, 1) := by decide +kernel
theorem dX10_about_53 : decode cX10_about 53 = .ok (.iload_n 3, 1) := by decide +kernel
theorem dX10_about_54 : decode cX10_about 54 = .ok (.invokevirtual 182, 3) := by decide +kernel
theorem dX10_about_57 : decode cX10_about 57 = .ok (.ifCond .eq 7, 3) := by decide +kernel
theorem dX10_about_60 : decode cX10_about 60 = .ok (.lconst 1, 1) := by decide +kernel
theorem dX10_about_61 : decode cX10_about 61 = .ok (.goto 4, 3) := by decide +kernel
theorem dX10_about_64 : decode cX10_about 64 = .ok (.lconst 0, 1) := by decide +kernel
theorem dX10_about_65 : decode cX10_about 65 = .ok (.lreturn, 1) := by decide +kernel
theorem dX10_about_66 : decode cX10_about 66 = .ok (.aload_n 0, 1) := by decide +kernel
theorem dX10_about_67 : decode cX10_about 67 = .ok (.getfield 21, 3) := by decide +kernel
theorem dX10_about_70 : decode cX10_about 70 = .ok (.iload_n 3, 1) := by decide +kernel
theorem dX10_about_71 : decode cX10_about 71 = .ok (.bipush 11, 2) := by decide +kernel
theorem dX10_about_73 : decode cX10_about 73 = .ok (.iadd, 1) := by decide +kernel
theorem dX10_about_74 : decode cX10_about 74 = .ok (.invokevirtual 154, 3) := by decide +kernel
theorem dX10_about_77 : decode cX10_about 77 = .ok (.iconst 1, 1) := by decide +kernel
theorem dX10_about_78 : decode cX10_about 78 = .ok (.iand, 1) := by decide +kernel
theorem dX10_about_79 : decode cX10_about 79 = .ok (.i2l, 1) := by decide +kernel
theorem dX10_about_80 : decode cX10_about 80 = .ok (.lreturn, 1) := by decide +kernel
theorem dX10_about_81 : decode cX10_about 81 = .ok (.aload_n 0, 1) := by decide +kernel
theorem dX10_about_82 : decode cX10_about 82 = .ok (.iload_n 3, 1) := by decide +kernel
theorem dX10_about_83 : decode cX10_about 83 = .ok (.invokevirtual 185, 3) := by decide +kernel
theorem dX10_about_86 : decode cX10_about 86 = .ok (.lreturn, 1) := by decide +kernel
theorem dX10_about_87 : decode cX10_about 87 = .ok (.aload_n 0, 1) := by decide +kernel
theorem dX10_about_88 : decode cX10_about 88 = .ok (.iload_n 3, 1) := by decide +kernel
theorem dX10_about_89 : decode cX10_about 89 = .ok (.invokevirtual 189, 3) := by decide +kernel
theorem dX10_about_92 : decode cX10_about 92 = .ok (.lreturn, 1) := by decide +kernel
theorem dX10_about_93 : decode cX10_about 93 = .ok (.aload_n 0, 1) := by decide +kernel
theorem dX10_about_94 : decode cX10_about 94 = .ok (.iload_n 3, 1) := by decide +kernel
theorem dX10_about_95 : decode cX10_about 95 = .ok (.invokevirtual 192, 3) := by decide +kernel
theorem dX10_about_98 : decode cX10_about 98 = .ok (.lreturn, 1) := by decide +kernel
theorem dX10_about_99 : decode cX10_about 99 = .ok (.aload_n 0, 1) := by decide +kernel
theorem dX10_about_100 : decode cX10_about 100 = .ok (.getfield 21, 3) := by decide +kernel
theorem dX10_about_103 : decode cX10_about 103 = .ok (.iload_n 3, 1) := by decide +kernel
theorem dX10_about_104 : decode cX10_about 104 = .ok (.bipush 28, 2) := by decide +kernel
theorem dX10_about_106 : decode cX10_about 106 = .ok (.iadd, 1) := by decide +kernel
theorem dX10_about_107 : decode cX10_about 107 = .ok (.invokevirtual 195, 3) := by decide +kernel
theorem dX10_about_110 : decode cX10_about 110 = .ok (.i2l, 1) := by decide +kernel
theorem dX10_about_111 : decode cX10_about 111 = .ok (.lreturn, 1) := by decide +kernel
theorem dX10_about_112 : decode cX10_about 112 = .ok (.aload_n 0, 1) := by decide +kernel
theorem dX10_about_113 : decode cX10_about 113 = .ok (.getfield 55, 3) := by decide +kernel
theorem dX10_about_116 : decode cX10_about 116 = .ok (.iload_n 1, 1) := by decide +kernel
theorem dX10_about_117 : decode cX10_about 117 = .ok (.invokevirtual 172, 3) := by decide +kernel
theorem dX10_about_120 : decode cX10_about 120 = .ok (.i2l, 1) := by decide +kernel
theorem dX10_about_121 : decode cX10_about 121 = .ok (.lreturn, 1) := by decide +kernel
theorem dX10_about_122 : decode cX10_about 122 = .ok (.new 106, 3) := by decide +kernel
theorem dX10_about_125 : decode cX10_about 125 = .ok (.dup, 1) := by decide +kernel
theorem dX10_about_126 : decode cX10_about 126 = .ok (.ldc 198, 2) := by decide +kernel
theorem dX10_about_128 : decode cX10_about 128 = .ok (.invokespecial 110, 3) := by decide +kernel
theorem dX10_about_131 : decode cX10_about 131 = .ok (.athrow, 1) := by decide +kernel
theorem dX10_content_0 : decode cX10_content 0 = .ok (.aload_n 0, 1) := by decide +kernel
theorem dX10_content_1 : decode cX10_content 1 = .ok (.invokevirtual 160, 3) := by decide +kernel
theorem dX10_content_4 : decode cX10_content 4 = .ok (.aload_n 0, 1) := by decide +kernel
theorem dX10_content_5 : decode cX10_content 5 = .ok (.iload_n 1, 1) := by decide +kernel
theorem dX10_content_6 : decode cX10_content 6 = .ok (.invokevirtual 166, 3) := by decide +kernel
theorem dX10_content_9 : decode cX10_content 9 = .ok (.istore_n 3, 1) := by decide +kernel
theorem dX10_content_10 : decode cX10_content 10 = .ok (.iload_n 2, 1) := by decide +kernel
theorem dX10_content_11 : decode cX10_content 11 = .ok (.ifCond .lt 18, 3) := by decide +kernel
theorem dX10_content_14 : decode cX10_content 14 = .ok (.iload_n 2, 1) := by decide +kernel
theorem dX10_content_15 : decode cX10_content 15 = .ok (.aload_n 0, 1) := by decide +kernel
theorem dX10_content_16 : decode cX10_content 16 = .ok (.getfield 21, 3) := by decide +kernel
theorem dX10_content_19 : decode cX10_content 19 = .ok (.iload_n 3, 1) := by decide +kernel
theorem dX10_content_20 : decode cX10_content 20 = .ok (.bipush 28, 2) := by decide +kernel
theorem dX10_content_22 : decode cX10_content 22 = .ok (.iadd, 1) := by decide +kernel
theorem dX10_content_23 : decode cX10_content 23 = .ok (.invokevirtual 195, 3) := by decide +kernel
theorem dX10_content_26 : decode cX10_content 26 = .ok (.if_icmp .lt 5, 3) := by decide +kernel
theorem dX10_content_29 : decode cX10_content 29 = .ok (.iconst (-1), 1) := by decide +kernel
theorem dX10_content_30 : decode cX10_content 30 = .ok (.ireturn, 1) := by decide +kernel
theorem dX10_content_31 : decode cX10_content 31 = .ok (.aload_n 0, 1) := by decide +kernel
theorem dX10_content_32 : decode cX10_content 32 = .ok (.getfield 39, 3) := by decide +kernel
theorem dX10_content_35 : decode cX10_content 35 = .ok (.aload_n 0, 1) := by decide +kernel
theorem dX10_content_36 : decode cX10_content 36 = .ok (.getfield 21, 3) := by decide +kernel
theorem dX10_content_39 : decode cX10_content 39 = .ok (.iload_n 3, 1) := by decide +kernel
theorem dX10_content_40 : decode cX10_content 40 = .ok (.invokevirtual 200, 3) := by decide +kernel
theorem dX10_content_43 : decode cX10_content 43 = .ok (.iload_n 2, 1) := by decide +kernel
theorem dX10_content_44 : decode cX10_content 44 = .ok (.aload_n 0, 1) := by decide +kernel
theorem dX10_content_45 : decode cX10_content 45 = .ok (.getfield 39, 3) := by decide +kernel
theorem dX10_content_48 : decode cX10_content 48 = .ok (.invokevirtual 203, 3) := by decide +kernel
theorem dX10_content_51 : decode cX10_content 51 = .ok (.ishr, 1) := by decide +kernel
theorem dX10_content_52 : decode cX10_content 52 = .ok (.invokevirtual 206, 3) := by decide +kernel
theorem dX10_content_55 : decode cX10_content 55 = .ok (.istore 4, 2) := by decide +kernel
theorem dX10_content_57 : decode cX10_content 57 = .ok (.aload_n 0, 1) := by decide +kernel
theorem dX10_content_58 : decode cX10_content 58 = .ok (.getfield 21, 3) := by decide +kernel
theorem dX10_content_61 : decode cX10_content 61 = .ok (.aload_n 0, 1) := by decide +kernel
theorem dX10_content_62 : decode cX10_content 62 = .ok (.getfield 39, 3) := by decide +kernel
theorem dX10_content_65 : decode cX10_content 65 = .ok (.iload 4, 2) := by decide +kernel
theorem dX10_content_67 : decode cX10_content 67 = .ok (.invokevirtual 122, 3) := by decide +kernel
theorem dX10_content_70 : decode cX10_content 70 = .ok (.iload_n 2, 1) := by decide +kernel
theorem dX10_content_71 : decode cX10_content 71 = .ok (.aload_n 0, 1) := by decide +kernel
theorem dX10_content_72 : decode cX10_content 72 = .ok (.getfield 39, 3) := by decide +kernel
theorem dX10_content_75 : decode cX10_content 75 = .ok (.invokevirtual 209, 3) := by decide +kernel
theorem dX10_content_78 : decode cX10_content 78 = .ok (.iand, 1) := by decide +kernel
theorem dX10_content_79 : decode cX10_content 79 = .ok (.iadd, 1) := by decide +kernel
theorem dX10_content_80 : decode cX10_content 80 = .ok (.invokevirtual 154, 3) := by decide +kernel
theorem dX10_content_83 : decode cX10_content 83 = .ok (.ireturn, 1) := by decide +kernel
theorem dX10_enter_0 : decode cX10_enter 0 = .ok (.aload_n 0, 1) := by decide +kernel
theorem dX10_enter_1 : decode cX10_enter 1 = .ok (.invokevirtual 160, 3) := by decide +kernel
theorem dX10_enter_4 : decode cX10_enter 4 = .ok (.aload_n 0, 1) := by decide +kernel
theorem dX10_enter_5 : decode cX10_enter 5 = .ok (.iload_n 1, 1) := by decide +kernel
theorem dX10_enter_6 : decode cX10_enter 6 = .ok (.invokevirtual 166, 3) := by decide +kernel
theorem dX10_enter_9 : decode cX10_enter 9 = .ok (.istore_n 2, 1) := by decide +kernel
theorem dX10_enter_10 : decode cX10_enter 10 = .ok (.aload_n 0, 1) := by decide +kernel
theorem dX10_enter_11 : decode cX10_enter 11 = .ok (.iload_n 2, 1) := by decide +kernel
theorem dX10_enter_12 : decode cX10_enter 12 = .ok (.invokevirtual 182, 3) := by decide +kernel
theorem dX10_enter_15 : decode cX10_enter 15 = .ok (.ifCond .ne 13, 3) := by decide +kernel
theorem dX10_enter_18 : decode cX10_enter 18 = .ok (.new 106, 3) := by decide +kernel
theorem dX10_enter_21 : decode cX10_enter 21 = .ok (.dup, 1) := by decide +kernel
theorem dX10_enter_22 : decode cX10_enter 22 = .ok (.ldc 212, 2) := by decide +kernel
theorem dX10_enter_24 : decode cX10_enter 24 = .ok (.invokespecial 110, 3) := by decide +kernel
theorem dX10_enter_27 : decode cX10_enter 27 = .ok (.athrow, 1) := by decide +kernel
theorem dX10_enter_28 : decode cX10_enter 28 = .ok (.aload_n 0, 1) := by decide +kernel
theorem dX10_enter_29 : decode cX10_enter 29 = .ok (.aload_n 0, 1) := by decide +kernel
theorem dX10_enter_30 : decode cX10_enter 30 = .ok (.getfield 21, 3) := by decide +kernel
theorem dX10_enter_33 : decode cX10_enter 33 = .ok (.iload_n 2, 1) := by decide +kernel
theorem dX10_enter_34 : decode cX10_enter 34 = .ok (.invokevirtual 200, 3) := by decide +kernel
theorem dX10_enter_37 : decode cX10_enter 37 = .ok (.putfield 79, 3) := by decide +kernel
theorem dX10_enter_40 : decode cX10_enter 40 = .ok (.aload_n 0, 1) := by decide +kernel
theorem dX10_enter_41 : decode cX10_enter 41 = .ok (.getfield 55, 3) := by decide +kernel
theorem dX10_enter_44 : decode cX10_enter 44 = .ok (.aload_n 0, 1) := by decide +kernel
theorem dX10_enter_45 : decode cX10_enter 45 = .ok (.getfield 79, 3) := by decide +kernel
theorem dX10_enter_48 : decode cX10_enter 48 = .ok (.invokevirtual 214, 3) := by decide +kernel
theorem dX10_enter_51 : decode cX10_enter 51 = .ok (.aload_n 0, 1) := by decide +kernel
theorem dX10_enter_52 : decode cX10_enter 52 = .ok (.getfield 55, 3) := by decide +kernel
theorem dX10_enter_55 : decode cX10_enter 55 = .ok (.getfield 163, 3) := by decide +kernel
theorem dX10_enter_58 : decode cX10_enter 58 = .ok (.ireturn, 1) := by decide +kernel
theorem dX10_up_0 : decode cX10_up 0 = .ok (.aload_n 0, 1) := by decide +kernel
theorem dX10_up_1 : decode cX10_up 1 = .ok (.invokevirtual 160, 3) := by decide +kernel
theorem dX10_up_4 : decode cX10_up 4 = .ok (.aload_n 0, 1) := by decide +kernel
theorem dX10_up_5 : decode cX10_up 5 = .ok (.getfield 79, 3) := by decide +kernel
theorem dX10_up_8 : decode cX10_up 8 = .ok (.ifCond .ne 5, 3) := by decide +kernel
theorem dX10_up_11 : decode cX10_up 11 = .ok (.iconst 0, 1) := by decide +kernel
theorem dX10_up_12 : decode cX10_up 12 = .ok (.ireturn, 1) := by decide +kernel
theorem dX10_up_13 : decode cX10_up 13 = .ok (.aload_n 0, 1) := by decide +kernel
theorem dX10_up_14 : decode cX10_up 14 = .ok (.aload_n 0, 1) := by decide +kernel
theorem dX10_up_15 : decode cX10_up 15 = .ok (.getfield 21, 3) := by decide +kernel
theorem dX10_up_18 : decode cX10_up 18 = .ok (.aload_n 0, 1) := by decide +kernel
theorem dX10_up_19 : decode cX10_up 19 = .ok (.getfield 55, 3) := by decide +kernel
theorem dX10_up_22 : decode cX10_up 22 = .ok (.iconst 1, 1) := by decide +kernel
theorem dX10_up_23 : decode cX10_up 23 = .ok (.invokevirtual 217, 3) := by decide +kernel
theorem dX10_up_26 : decode cX10_up 26 = .ok (.invokevirtual 200, 3) := by decide +kernel
theorem dX10_up_29 : decode cX10_up 29 = .ok (.putfield 79, 3) := by decide +kernel
theorem dX10_up_32 : decode cX10_up 32 = .ok (.iconst 1, 1) := by decide +kernel
theorem dX10_up_33 : decode cX10_up 33 = .ok (.ireturn, 1) := by decide +kernel
theorem dX10_make_0 : decode cX10_make 0 = .ok (.aload_n 0, 1) := by decide +kernel
theorem dX10_make_1 : decode cX10_make 1 = .ok (.getfield 30, 3) := by decide +kernel
theorem dX10_make_4 : decode cX10_make 4 = .ok (.invokevirtual 94, 3) := by decide +kernel
theorem dX10_make_7 : decode cX10_make 7 = .ok (.istore_n 2, 1) := by decide +kernel
theorem dX10_make_8 : decode cX10_make 8 = .ok (.aload_n 0, 1) := by decide +kernel
theorem dX10_make_9 : decode cX10_make 9 = .ok (.invokevirtual 160, 3) := by decide +kernel
theorem dX10_make_12 : decode cX10_make 12 = .ok (.aload_n 0, 1) := by decide +kernel
theorem dX10_make_13 : decode cX10_make 13 = .ok (.getfield 65, 3) := by decide +kernel
theorem dX10_make_16 : decode cX10_make 16 = .ok (.aload_n 0, 1) := by decide +kernel
theorem dX10_make_17 : decode cX10_make 17 = .ok (.getfield 30, 3) := by decide +kernel
theorem dX10_make_20 : decode cX10_make 20 = .ok (.iload_n 2, 1) := by decide +kernel
theorem dX10_make_21 : decode cX10_make 21 = .ok (.invokevirtual 220, 3) := by decide +kernel
theorem dX10_make_24 : decode cX10_make 24 = .ok (.ifCond .eq 10, 3) := by decide +kernel
theorem dX10_make_27 : decode cX10_make 27 = .ok (.aload_n 0, 1) := by decide +kernel
theorem dX10_make_28 : decode cX10_make 28 = .ok (.invokevirtual 223, 3) := by decide +kernel
theorem dX10_make_31 : decode cX10_make 31 = .ok (.ifCond .eq 13, 3) := by decide +kernel
theorem dX10_make_34 : decode cX10_make 34 = .ok (.new 106, 3) := by decide +kernel
theorem dX10_make_37 : decode cX10_make 37 = .ok (.dup, 1) := by decide +kernel
theorem dX10_make_38 : decode cX10_make 38 = .ok (.ldc 226, 2) := by decide +kernel
theorem dX10_make_40 : decode cX10_make 40 = .ok (.invokespecial 110, 3) := by decide +kernel
theorem dX10_make_43 : decode cX10_make 43 = .ok (.athrow, 1) := by decide +kernel
theorem dX10_make_44 : decode cX10_make 44 = .ok (.aload_n 0, 1) := by decide +kernel
theorem dX10_make_45 : decode cX10_make 45 = .ok (.getfield 75, 3) := by decide +kernel
theorem dX10_make_48 : decode cX10_make 48 = .ok (.aload_n 0, 1) := by decide +kernel
theorem dX10_make_49 : decode cX10_make 49 = .ok (.getfield 65, 3) := by decide +kernel
theorem dX10_make_52 : decode cX10_make 52 = .ok (.invokevirtual 228, 3) := by decide +kernel
theorem dX10_make_55 : decode cX10_make 55 = .ok (.istore_n 3, 1) := by decide +kernel
theorem dX10_make_56 : decode cX10_make 56 = .ok (.iload_n 3, 1) := by decide +kernel
theorem dX10_make_57 : decode cX10_make 57 = .ok (.ifCond .eq 27, 3) := by decide +kernel
theorem dX10_make_60 : decode cX10_make 60 = .ok (.aload_n 0, 1) := by decide +kernel
theorem dX10_make_61 : decode cX10_make 61 = .ok (.getfield 55, 3) := by decide +kernel
theorem dX10_make_64 : decode cX10_make 64 = .ok (.aload_n 0, 1) := by decide +kernel
theorem dX10_make_65 : decode cX10_make 65 = .ok (.getfield 75, 3) := by decide +kernel
theorem dX10_make_68 : decode cX10_make 68 = .ok (.invokevirtual 232, 3) := by decide +kernel
theorem dX10_make_71 : decode cX10_make 71 = .ok (.ifCond .eq 13, 3) := by decide +kernel
theorem dX10_make_74 : decode cX10_make 74 = .ok (.new 106, 3) := by decide +kernel
theorem dX10_make_77 : decode cX10_make 77 = .ok (.dup, 1) := by decide +kernel
theorem dX10_make_78 : decode cX10_make 78 = .ok (.ldc 236, 2) := by decide +kernel
theorem dX10_make_80 : decode cX10_make 80 = .ok (.invokespecial 110, 3) := by decide +kernel
theorem dX10_make_83 : decode cX10_make 83 = .ok (.athrow, 1) := by decide +kernel
theorem dX10_make_84 : decode cX10_make 84 = .ok (.iload_n 3, 1) := by decide +kernel
theorem dX10_make_85 : decode cX10_make 85 = .ok (.ifCond .ne 7, 3) := by decide +kernel
theorem dX10_make_88 : decode cX10_make 88 = .ok (.aload_n 0, 1) := by decide +kernel
theorem dX10_make_89 : decode cX10_make 89 = .ok (.invokevirtual 238, 3) := by decide +kernel
theorem dX10_make_92 : decode cX10_make 92 = .ok (.iload_n 3, 1) := by decide +kernel
theorem dX10_make_93 : decode cX10_make 93 = .ok (.ifCond .eq 7, 3) := by decide +kernel
theorem dX10_make_96 : decode cX10_make 96 = .ok (.iconst 0, 1) := by decide +kernel
theorem dX10_make_97 : decode cX10_make 97 = .ok (.goto 10, 3) := by decide +kernel
theorem dX10_make_100 : decode cX10_make 100 = .ok (.aload_n 0, 1) := by decide +kernel
theorem dX10_make_101 : decode cX10_make 101 = .ok (.getfield 65, 3) := by decide +kernel
theorem dX10_make_104 : decode cX10_make 104 = .ok (.invokevirtual 241, 3) := by decide +kernel
theorem dX10_make_107 : decode cX10_make 107 = .ok (.istore 4, 2) := by decide +kernel
theorem dX10_make_109 : decode cX10_make 109 = .ok (.aload_n 0, 1) := by decide +kernel
theorem dX10_make_110 : decode cX10_make 110 = .ok (.getfield 55, 3) := by decide +kernel
theorem dX10_make_113 : decode cX10_make 113 = .ok (.iload 4, 2) := by decide +kernel
theorem dX10_make_115 : decode cX10_make 115 = .ok (.iconst 1, 1) := by decide +kernel
theorem dX10_make_116 : decode cX10_make 116 = .ok (.iadd, 1) := by decide +kernel
theorem dX10_make_117 : decode cX10_make 117 = .ok (.invokevirtual 244, 3) := by decide +kernel
theorem dX10_make_120 : decode cX10_make 120 = .ok (.istore 5, 2) := by decide +kernel
theorem dX10_make_122 : decode cX10_make 122 = .ok (.aload_n 0, 1) := by decide +kernel
theorem dX10_make_123 : decode cX10_make 123 = .ok (.getfield 55, 3) := by decide +kernel
theorem dX10_make_126 : decode cX10_make 126 = .ok (.iload 5, 2) := by decide +kernel
theorem dX10_make_128 : decode cX10_make 128 = .ok (.iload 4, 2) := by decide +kernel
theorem dX10_make_130 : decode cX10_make 130 = .ok (.iadd, 1) := by decide +kernel
theorem dX10_make_131 : decode cX10_make 131 = .ok (.iconst 1, 1) := by decide +kernel
theorem dX10_make_132 : decode cX10_make 132 = .ok (.iadd, 1) := by decide +kernel
theorem dX10_make_133 : decode cX10_make 133 = .ok (.invokevirtual 247, 3) := by decide +kernel
theorem dX10_make_136 : decode cX10_make 136 = .ok (.istore 6, 2) := by decide +kernel
theorem dX10_make_138 : decode cX10_make 138 = .ok (.aload_n 0, 1) := by decide +kernel
theorem dX10_make_139 : decode cX10_make 139 = .ok (.getfield 39, 3) := by decide +kernel
theorem dX10_make_142 : decode cX10_make 142 = .ok (.invokevirtual 157, 3) := by decide +kernel
theorem dX10_make_145 : decode cX10_make 145 = .ok (.iload 6, 2) := by decide +kernel
theorem dX10_make_147 : decode cX10_make 147 = .ok (.iload_n 1, 1) := by decide +kernel
theorem dX10_make_148 : decode cX10_make 148 = .ok (.ifCond .eq 7, 3) := by decide +kernel
theorem dX10_make_151 : decode cX10_make 151 = .ok (.iconst 1, 1) := by decide +kernel
theorem dX10_make_152 : decode cX10_make 152 = .ok (.goto 4, 3) := by decide +kernel
theorem dX10_make_155 : decode cX10_make 155 = .ok (.iconst 0, 1) := by decide +kernel
theorem dX10_make_156 : decode cX10_make 156 = .ok (.iadd, 1) := by decide +kernel
theorem dX10_make_157 : decode cX10_make 157 = .ok (.if_icmp .ge 13, 3) := by decide +kernel
theorem dX10_make_160 : decode cX10_make 160 = .ok (.new 250, 3) := by decide +kernel
theorem dX10_make_163 : decode cX10_make 163 = .ok (.dup, 1) := by decide +kernel
theorem dX10_make_164 : decode cX10_make 164 = .ok (.ldc 252, 2) := by decide +kernel
theorem dX10_make_166 : decode cX10_make 166 = .ok (.invokespecial 254, 3) := by decide +kernel
theorem dX10_make_169 : decode cX10_make 169 = .ok (.athrow, 1) := by decide +kernel
theorem dX10_make_170 : decode cX10_make 170 = .ok (.iload_n 1, 1) := by decide +kernel
theorem dX10_make_171 : decode cX10_make 171 = .ok (.ifCond .eq 10, 3) := by decide +kernel
theorem dX10_make_174 : decode cX10_make 174 = .ok (.aload_n 0, 1) := by decide +kernel
theorem dX10_make_175 : decode cX10_make 175 = .ok (.invokevirtual 255, 3) := by decide +kernel
theorem dX10_make_178 : decode cX10_make 178 = .ok (.goto 4, 3) := by decide +kernel
theorem dX10_make_181 : decode cX10_make 181 = .ok (.iconst 0, 1) := by decide +kernel
theorem dX10_make_182 : decode cX10_make 182 = .ok (.istore 7, 2) := by decide +kernel
theorem dX10_make_184 : decode cX10_make 184 = .ok (.aload_n 0, 1) := by decide +kernel
theorem dX10_make_185 : decode cX10_make 185 = .ok (.getfield 55, 3) := by decide +kernel
theorem dX10_make_188 : decode cX10_make 188 = .ok (.iload 6, 2) := by decide +kernel
theorem dX10_make_190 : decode cX10_make 190 = .ok (.invokevirtual 258, 3) := by decide +kernel
theorem dX10_make_193 : decode cX10_make 193 = .ok (.aload_n 0, 1) := by decide +kernel
theorem dX10_make_194 : decode cX10_make 194 = .ok (.iload 5, 2) := by decide +kernel
theorem dX10_make_196 : decode cX10_make 196 = .ok (.iload 4, 2) := by decide +kernel
theorem dX10_make_198 : decode cX10_make 198 = .ok (.iload_n 1, 1) := by decide +kernel
theorem dX10_make_199 : decode cX10_make 199 = .ok (.ifCond .eq 8, 3) := by decide +kernel
theorem dX10_make_202 : decode cX10_make 202 = .ok (.bipush 48, 2) := by decide +kernel
theorem dX10_make_204 : decode cX10_make 204 = .ok (.goto 5, 3) := by decide +kernel
theorem dX10_make_207 : decode cX10_make 207 = .ok (.bipush 32, 2) := by decide +kernel
theorem dX10_make_209 : decode cX10_make 209 = .ok (.iload 7, 2) := by decide +kernel
theorem dX10_make_211 : decode cX10_make 211 = .ok (.invokevirtual 261, 3) := by decide +kernel
theorem dX10_make_214 : decode cX10_make 214 = .ok (.aload_n 0, 1) := by decide +kernel
theorem dX10_make_215 : decode cX10_make 215 = .ok (.getfield 55, 3) := by decide +kernel
theorem dX10_make_218 : decode cX10_make 218 = .ok (.iload 5, 2) := by decide +kernel
theorem dX10_make_220 : decode cX10_make 220 = .ok (.invokevirtual 265, 3) := by decide +kernel
theorem dX10_make_223 : decode cX10_make 223 = .ok (.ireturn, 1) := by decide +kernel
theorem dX10_write_0 : decode cX10_write 0 = .ok (.aload_n 0, 1) := by decide +kernel
theorem dX10_write_1 : decode cX10_write 1 = .ok (.getfield 30, 3) := by decide +kernel
theorem dX10_write_4 : decode cX10_write 4 = .ok (.invokevirtual 94, 3) := by decide +kernel
theorem dX10_write_7 : decode cX10_write 7 = .ok (.istore_n 2, 1) := by decide +kernel
theorem dX10_write_8 : decode cX10_write 8 = .ok (.aload_n 0, 1) := by decide +kernel
theorem dX10_write_9 : decode cX10_write 9 = .ok (.invokevirtual 160, 3) := by decide +kernel
theorem dX10_write_12 : decode cX10_write 12 = .ok (.aload_n 0, 1) := by decide +kernel
theorem dX10_write_13 : decode cX10_write 13 = .ok (.aload_n 0, 1) := by decide +kernel
theorem dX10_write_14 : decode cX10_write 14 = .ok (.iload_n 1, 1) := by decide +kernel
theorem dX10_write_15 : decode cX10_write 15 = .ok (.invokevirtual 268, 3) := by decide +kernel
theorem dX10_write_18 : decode cX10_write 18 = .ok (.iload_n 2, 1) := by decide +kernel
theorem dX10_write_19 : decode cX10_write 19 = .ok (.iconst 1, 1) := by decide +kernel
theorem dX10_write_20 : decode cX10_write 20 = .ok (.iconst 0, 1) := by decide +kernel
theorem dX10_write_21 : decode cX10_write 21 = .ok (.invokevirtual 271, 3) := by decide +kernel
theorem dX10_write_24 : decode cX10_write 24 = .ok (.ireturn, 1) := by decide +kernel
theorem dX10_grow_0 : decode cX10_grow 0 = .ok (.aload_n 0, 1) := by decide +kernel
theorem dX10_grow_1 : decode cX10_grow 1 = .ok (.invokevirtual 160, 3) := by decide +kernel
theorem dX10_grow_4 : decode cX10_grow 4 = .ok (.aload_n 0, 1) := by decide +kernel
theorem dX10_grow_5 : decode cX10_grow 5 = .ok (.iload_n 1, 1) := by decide +kernel
theorem dX10_grow_6 : decode cX10_grow 6 = .ok (.invokevirtual 268, 3) := by decide +kernel
theorem dX10_grow_9 : decode cX10_grow 9 = .ok (.istore 4, 2) := by decide +kernel
theorem dX10_grow_11 : decode cX10_grow 11 = .ok (.iload_n 2, 1) := by decide +kernel
theorem dX10_grow_12 : decode cX10_grow 12 = .ok (.ifCond .lt 10, 3) := by decide +kernel
theorem dX10_grow_15 : decode cX10_grow 15 = .ok (.iload_n 2, 1) := by decide +kernel
theorem dX10_grow_16 : decode cX10_grow 16 = .ok (.ldc_w 275, 3) := by decide +kernel
theorem dX10_grow_19 : decode cX10_grow 19 = .ok (.if_icmp .le 14, 3) := by decide +kernel
theorem dX10_grow_22 : decode cX10_grow 22 = .ok (.new 106, 3) := by decide +kernel
theorem dX10_grow_25 : decode cX10_grow 25 = .ok (.dup, 1) := by decide +kernel
theorem dX10_grow_26 : decode cX10_grow 26 = .ok (.ldc_w 276, 3) := by decide +kernel
theorem dX10_grow_29 : decode cX10_grow 29 = .ok (.invokespecial 110, 3) := by decide +kernel
theorem dX10_grow_32 : decode cX10_grow 32 = .ok (.athrow, 1) := by decide +kernel
theorem dX10_grow_33 : decode cX10_grow 33 = .ok (.aload_n 0, 1) := by decide +kernel
theorem dX10_grow_34 : decode cX10_grow 34 = .ok (.iload 4, 2) := by decide +kernel
theorem dX10_grow_36 : decode cX10_grow 36 = .ok (.iload_n 2, 1) := by decide +kernel
theorem dX10_grow_37 : decode cX10_grow 37 = .ok (.iconst 0, 1) := by decide +kernel
theorem dX10_grow_38 : decode cX10_grow 38 = .ok (.iload_n 3, 1) := by decide +kernel
theorem dX10_grow_39 : decode cX10_grow 39 = .ok (.invokevirtual 271, 3) := by decide +kernel
theorem dX10_grow_42 : decode cX10_grow 42 = .ok (.ireturn, 1) := by decide +kernel
theorem dX10_cut_0 : decode cX10_cut 0 = .ok (.aload_n 0, 1) := by decide +kernel
theorem dX10_cut_1 : decode cX10_cut 1 = .ok (.invokevirtual 160, 3) := by decide +kernel
theorem dX10_cut_4 : decode cX10_cut 4 = .ok (.aload_n 0, 1) := by decide +kernel
theorem dX10_cut_5 : decode cX10_cut 5 = .ok (.iload_n 1, 1) := by decide +kernel
theorem dX10_cut_6 : decode cX10_cut 6 = .ok (.invokevirtual 268, 3) := by decide +kernel
theorem dX10_cut_9 : decode cX10_cut 9 = .ok (.istore_n 3, 1) := by decide +kernel
theorem dX10_cut_10 : decode cX10_cut 10 = .ok (.aload_n 0, 1) := by decide +kernel
theorem dX10_cut_11 : decode cX10_cut 11 = .ok (.getfield 21, 3) := by decide +kernel
theorem dX10_cut_14 : decode cX10_cut 14 = .ok (.iload_n 3, 1) := by decide +kernel
theorem dX10_cut_15 : decode cX10_cut 15 = .ok (.bipush 28, 2) := by decide +kernel
theorem dX10_cut_17 : decode cX10_cut 17 = .ok (.iadd, 1) := by decide +kernel
theorem dX10_cut_18 : decode cX10_cut 18 = .ok (.invokevirtual 195, 3) := by decide +kernel
theorem dX10_cut_21 : decode cX10_cut 21 = .ok (.istore 4, 2) := by decide +kernel
theorem dX10_cut_23 : decode cX10_cut 23 = .ok (.iload_n 2, 1) := by decide +kernel
theorem dX10_cut_24 : decode cX10_cut 24 = .ok (.ifCond .lt 9, 3) := by decide +kernel
theorem dX10_cut_27 : decode cX10_cut 27 = .ok (.iload_n 2, 1) := by decide +kernel
theorem dX10_cut_28 : decode cX10_cut 28 = .ok (.iload 4, 2) := by decide +kernel
theorem dX10_cut_30 : decode cX10_cut 30 = .ok (.if_icmp .le 14, 3) := by decide +kernel
theorem dX10_cut_33 : decode cX10_cut 33 = .ok (.new 106, 3) := by decide +kernel
theorem dX10_cut_36 : decode cX10_cut 36 = .ok (.dup, 1) := by decide +kernel
theorem dX10_cut_37 : decode cX10_cut 37 = .ok (.ldc_w 278, 3) := by decide +kernel
theorem dX10_cut_40 : decode cX10_cut 40 = .ok (.invokespecial 110, 3) := by decide +kernel
theorem dX10_cut_43 : decode cX10_cut 43 = .ok (.athrow, 1) := by decide +kernel
theorem dX10_cut_44 : decode cX10_cut 44 = .ok (.aload_n 0, 1) := by decide +kernel
theorem dX10_cut_45 : decode cX10_cut 45 = .ok (.getfield 39, 3) := by decide +kernel
theorem dX10_cut_48 : decode cX10_cut 48 = .ok (.iload_n 2, 1) := by decide +kernel
theorem dX10_cut_49 : decode cX10_cut 49 = .ok (.invokevirtual 280, 3) := by decide +kernel
theorem dX10_cut_52 : decode cX10_cut 52 = .ok (.istore 5, 2) := by decide +kernel
theorem dX10_cut_54 : decode cX10_cut 54 = .ok (.aload_n 0, 1) := by decide +kernel
theorem dX10_cut_55 : decode cX10_cut 55 = .ok (.getfield 39, 3) := by decide +kernel
theorem dX10_cut_58 : decode cX10_cut 58 = .ok (.iload 4, 2) := by decide +kernel
theorem dX10_cut_60 : decode cX10_cut 60 = .ok (.invokevirtual 280, 3) := by decide +kernel
theorem dX10_cut_63 : decode cX10_cut 63 = .ok (.iload 5, 2) := by decide +kernel
theorem dX10_cut_65 : decode cX10_cut 65 = .ok (.isub, 1) := by decide +kernel
theorem dX10_cut_66 : decode cX10_cut 66 = .ok (.istore 6, 2) := by decide +kernel
theorem dX10_cut_68 : decode cX10_cut 68 = .ok (.iload 6, 2) := by decide +kernel
theorem dX10_cut_70 : decode cX10_cut 70 = .ok (.ifCond .le 10, 3) := by decide +kernel
theorem dX10_cut_73 : decode cX10_cut 73 = .ok (.aload_n 0, 1) := by decide +kernel
theorem dX10_cut_74 : decode cX10_cut 74 = .ok (.iload_n 3, 1) := by decide +kernel
theorem dX10_cut_75 : decode cX10_cut 75 = .ok (.iload 5, 2) := by decide +kernel
theorem dX10_cut_77 : decode cX10_cut 77 = .ok (.invokevirtual 283, 3) := by decide +kernel
theorem dX10_cut_80 : decode cX10_cut 80 = .ok (.aload_n 0, 1) := by decide +kernel
theorem dX10_cut_81 : decode cX10_cut 81 = .ok (.getfield 21, 3) := by decide +kernel
theorem dX10_cut_84 : decode cX10_cut 84 = .ok (.iload_n 3, 1) := by decide +kernel
theorem dX10_cut_85 : decode cX10_cut 85 = .ok (.bipush 28, 2) := by decide +kernel
theorem dX10_cut_87 : decode cX10_cut 87 = .ok (.iadd, 1) := by decide +kernel
theorem dX10_cut_88 : decode cX10_cut 88 = .ok (.iload_n 2, 1) := by decide +kernel
theorem dX10_cut_89 : decode cX10_cut 89 = .ok (.invokevirtual 286, 3) := by decide +kernel
theorem dX10_cut_92 : decode cX10_cut 92 = .ok (.iload 6, 2) := by decide +kernel
theorem dX10_cut_94 : decode cX10_cut 94 = .ok (.ireturn, 1) := by decide +kernel
theorem dX10_remove_0 : decode cX10_remove 0 = .ok (.aload_n 0, 1) := by decide +kernel
theorem dX10_remove_1 : decode cX10_remove 1 = .ok (.invokevirtual 160, 3) := by decide +kernel
theorem dX10_remove_4 : decode cX10_remove 4 = .ok (.aload_n 0, 1) := by decide +kernel
theorem dX10_remove_5 : decode cX10_remove 5 = .ok (.iload_n 1, 1) := by decide +kernel
theorem dX10_remove_6 : decode cX10_remove 6 = .ok (.invokevirtual 166, 3) := by decide +kernel
theorem dX10_remove_9 : decode cX10_remove 9 = .ok (.istore_n 2, 1) := by decide +kernel
theorem dX10_remove_10 : decode cX10_remove 10 = .ok (.aload_n 0, 1) := by decide +kernel
theorem dX10_remove_11 : decode cX10_remove 11 = .ok (.getfield 21, 3) := by decide +kernel
theorem dX10_remove_14 : decode cX10_remove 14 = .ok (.iload_n 2, 1) := by decide +kernel
theorem dX10_remove_15 : decode cX10_remove 15 = .ok (.invokevirtual 200, 3) := by decide +kernel
theorem dX10_remove_18 : decode cX10_remove 18 = .ok (.istore_n 3, 1) := by decide +kernel
theorem dX10_remove_19 : decode cX10_remove 19 = .ok (.aload_n 0, 1) := by decide +kernel
theorem dX10_remove_20 : decode cX10_remove 20 = .ok (.iload_n 2, 1) := by decide +kernel
theorem dX10_remove_21 : decode cX10_remove 21 = .ok (.invokevirtual 182, 3) := by decide +kernel
theorem dX10_remove_24 : decode cX10_remove 24 = .ok (.ifCond .eq 32, 3) := by decide +kernel
theorem dX10_remove_27 : decode cX10_remove 27 = .ok (.aload_n 0, 1) := by decide +kernel
theorem dX10_remove_28 : decode cX10_remove 28 = .ok (.getfield 59, 3) := by decide +kernel
theorem dX10_remove_31 : decode cX10_remove 31 = .ok (.iload_n 3, 1) := by decide +kernel
theorem dX10_remove_32 : decode cX10_remove 32 = .ok (.invokevirtual 214, 3) := by decide +kernel
theorem dX10_remove_35 : decode cX10_remove 35 = .ok (.aload_n 0, 1) := by decide +kernel
theorem dX10_remove_36 : decode cX10_remove 36 = .ok (.getfield 59, 3) := by decide +kernel
theorem dX10_remove_39 : decode cX10_remove 39 = .ok (.getfield 163, 3) := by decide +kernel
theorem dX10_remove_42 : decode cX10_remove 42 = .ok (.ifCond .le 14, 3) := by decide +kernel
theorem dX10_remove_45 : decode cX10_remove 45 = .ok (.new 106, 3) := by decide +kernel
theorem dX10_remove_48 : decode cX10_remove 48 = .ok (.dup, 1) := by decide +kernel
theorem dX10_remove_49 : decode cX10_remove 49 = .ok (.ldc_w 289, 3) := by decide +kernel
theorem dX10_remove_52 : decode cX10_remove 52 = .ok (.invokespecial 110, 3) := by decide +kernel
theorem dX10_remove_55 : decode cX10_remove 55 = .ok (.athrow, 1) := by decide +kernel
theorem dX10_remove_56 : decode cX10_remove 56 = .ok (.aload_n 0, 1) := by decide +kernel
theorem dX10_remove_57 : decode cX10_remove 57 = .ok (.getfield 55, 3) := by decide +kernel
theorem dX10_remove_60 : decode cX10_remove 60 = .ok (.iload_n 1, 1) := by decide +kernel
theorem dX10_remove_61 : decode cX10_remove 61 = .ok (.invokevirtual 169, 3) := by decide +kernel
theorem dX10_remove_64 : decode cX10_remove 64 = .ok (.istore 4, 2) := by decide +kernel
theorem dX10_remove_66 : decode cX10_remove 66 = .ok (.iload 4, 2) := by decide +kernel
theorem dX10_remove_68 : decode cX10_remove 68 = .ok (.aload_n 0, 1) := by decide +kernel
theorem dX10_remove_69 : decode cX10_remove 69 = .ok (.getfield 55, 3) := by decide +kernel
theorem dX10_remove_72 : decode cX10_remove 72 = .ok (.iload_n 1, 1) := by decide +kernel
theorem dX10_remove_73 : decode cX10_remove 73 = .ok (.invokevirtual 172, 3) := by decide +kernel
theorem dX10_remove_76 : decode cX10_remove 76 = .ok (.isub, 1) := by decide +kernel
theorem dX10_remove_77 : decode cX10_remove 77 = .ok (.istore 5, 2) := by decide +kernel
theorem dX10_remove_79 : decode cX10_remove 79 = .ok (.iload 5, 2) := by decide +kernel
theorem dX10_remove_81 : decode cX10_remove 81 = .ok (.iload 4, 2) := by decide +kernel
theorem dX10_remove_83 : decode cX10_remove 83 = .ok (.if_icmp .gt 28, 3) := by decide +kernel
theorem dX10_remove_86 : decode cX10_remove 86 = .ok (.aload_n 0, 1) := by decide +kernel
theorem dX10_remove_87 : decode cX10_remove 87 = .ok (.getfield 21, 3) := by decide +kernel
theorem dX10_remove_90 : decode cX10_remove 90 = .ok (.aload_n 0, 1) := by decide +kernel
theorem dX10_remove_91 : decode cX10_remove 91 = .ok (.getfield 55, 3) := by decide +kernel
theorem dX10_remove_94 : decode cX10_remove 94 = .ok (.iload 5, 2) := by decide +kernel
theorem dX10_remove_96 : decode cX10_remove 96 = .ok (.invokevirtual 217, 3) := by decide +kernel
theorem dX10_remove_99 : decode cX10_remove 99 = .ok (.sipush 229, 3) := by decide +kernel
theorem dX10_remove_102 : decode cX10_remove 102 = .ok (.invokevirtual 139, 3) := by decide +kernel
theorem dX10_remove_105 : decode cX10_remove 105 = .ok (.iinc 5 1, 3) := by decide +kernel
theorem dX10_remove_108 : decode cX10_remove 108 = .ok (.goto (-29), 3) := by decide +kernel
theorem dX10_remove_111 : decode cX10_remove 111 = .ok (.aload_n 0, 1) := by decide +kernel
theorem dX10_remove_112 : decode cX10_remove 112 = .ok (.getfield 39, 3) := by decide +kernel
theorem dX10_remove_115 : decode cX10_remove 115 = .ok (.iload_n 3, 1) := by decide +kernel
theorem dX10_remove_116 : decode cX10_remove 116 = .ok (.invokevirtual 291, 3) := by decide +kernel
theorem dX10_remove_119 : decode cX10_remove 119 = .ok (.return_, 1) := by decide +kernel
theorem dX10_stamp_0 : decode cX10_stamp 0 = .ok (.aload_n 0, 1) := by decide +kernel
theorem dX10_stamp_1 : decode cX10_stamp 1 = .ok (.invokevirtual 160, 3) := by decide +kernel
theorem dX10_stamp_4 : decode cX10_stamp 4 = .ok (.aload_n 0, 1) := by decide +kernel
theorem dX10_stamp_5 : decode cX10_stamp 5 = .ok (.iload_n 1, 1) := by decide +kernel
theorem dX10_stamp_6 : decode cX10_stamp 6 = .ok (.invokevirtual 166, 3) := by decide +kernel
theorem dX10_stamp_9 : decode cX10_stamp 9 = .ok (.istore 5, 2) := by decide +kernel
theorem dX10_stamp_11 : decode cX10_stamp 11 = .ok (.aload_n 0, 1) := by decide +kernel
theorem dX10_stamp_12 : decode cX10_stamp 12 = .ok (.iload 5, 2) := by decide +kernel
theorem dX10_stamp_14 : decode cX10_stamp 14 = .ok (.iload_n 2, 1) := by decide +kernel
theorem dX10_stamp_15 : decode cX10_stamp 15 = .ok (.iload_n 3, 1) := by decide +kernel
theorem dX10_stamp_16 : decode cX10_stamp 16 = .ok (.iload 4, 2) := by decide +kernel
theorem dX10_stamp_18 : decode cX10_stamp 18 = .ok (.invokevirtual 294, 3) := by decide +kernel
theorem dX10_stamp_21 : decode cX10_stamp 21 = .ok (.ifCond .ne 14, 3) := by decide +kernel
theorem dX10_stamp_24 : decode cX10_stamp 24 = .ok (.new 106, 3) := by decide +kernel
theorem dX10_stamp_27 : decode cX10_stamp 27 = .ok (.dup, 1) := by decide +kernel
theorem dX10_stamp_28 : decode cX10_stamp 28 = .ok (.ldc_w 298, 3) := by decide +kernel
theorem dX10_stamp_31 : decode cX10_stamp 31 = .ok (.invokespecial 110, 3) := by decide +kernel
theorem dX10_stamp_34 : decode cX10_stamp 34 = .ok (.athrow, 1) := by decide +kernel
theorem dX10_stamp_35 : decode cX10_stamp 35 = .ok (.iload_n 2, 1) := by decide +kernel
theorem dX10_stamp_36 : decode cX10_stamp 36 = .ok (.tableswitch 125 0 3 #[32, 62, 78, 108], 32) := by decide +kernel
theorem dX10_stamp_68 : decode cX10_stamp 68 = .ok (.aload_n 0, 1) := by decide +kernel
theorem dX10_stamp_69 : decode cX10_stamp 69 = .ok (.getfield 21, 3) := by decide +kernel
theorem dX10_stamp_72 : decode cX10_stamp 72 = .ok (.iload 5, 2) := by decide +kernel
theorem dX10_stamp_74 : decode cX10_stamp 74 = .ok (.bipush 14, 2) := by decide +kernel
theorem dX10_stamp_76 : decode cX10_stamp 76 = .ok (.iadd, 1) := by decide +kernel
theorem dX10_stamp_77 : decode cX10_stamp 77 = .ok (.iload 4, 2) := by decide +kernel
theorem dX10_stamp_79 : decode cX10_stamp 79 = .ok (.invokevirtual 300, 3) := by decide +kernel
theorem dX10_stamp_82 : decode cX10_stamp 82 = .ok (.aload_n 0, 1) := by decide +kernel
theorem dX10_stamp_83 : decode cX10_stamp 83 = .ok (.getfield 21, 3) := by decide +kernel
theorem dX10_stamp_86 : decode cX10_stamp 86 = .ok (.iload 5, 2) := by decide +kernel
theorem dX10_stamp_88 : decode cX10_stamp 88 = .ok (.bipush 16, 2) := by decide +kernel
theorem dX10_stamp_90 : decode cX10_stamp 90 = .ok (.iadd, 1) := by decide +kernel
theorem dX10_stamp_91 : decode cX10_stamp 91 = .ok (.iload_n 3, 1) := by decide +kernel
theorem dX10_stamp_92 : decode cX10_stamp 92 = .ok (.invokevirtual 300, 3) := by decide +kernel
theorem dX10_stamp_95 : decode cX10_stamp 95 = .ok (.goto 96, 3) := by decide +kernel
theorem dX10_stamp_98 : decode cX10_stamp 98 = .ok (.aload_n 0, 1) := by decide +kernel
theorem dX10_stamp_99 : decode cX10_stamp 99 = .ok (.getfield 21, 3) := by decide +kernel
theorem dX10_stamp_102 : decode cX10_stamp 102 = .ok (.iload 5, 2) := by decide +kernel
theorem dX10_stamp_104 : decode cX10_stamp 104 = .ok (.bipush 18, 2) := by decide +kernel
theorem dX10_stamp_106 : decode cX10_stamp 106 = .ok (.iadd, 1) := by decide +kernel
theorem dX10_stamp_107 : decode cX10_stamp 107 = .ok (.iload_n 3, 1) := by decide +kernel
theorem dX10_stamp_108 : decode cX10_stamp 108 = .ok (.invokevirtual 300, 3) := by decide +kernel
theorem dX10_stamp_111 : decode cX10_stamp 111 = .ok (.goto 80, 3) := by decide +kernel
theorem dX10_stamp_114 : decode cX10_stamp 114 = .ok (.aload_n 0, 1) := by decide +kernel
theorem dX10_stamp_115 : decode cX10_stamp 115 = .ok (.getfield 21, 3) := by decide +kernel
theorem dX10_stamp_118 : decode cX10_stamp 118 = .ok (.iload 5, 2) := by decide +kernel
theorem dX10_stamp_120 : decode cX10_stamp 120 = .ok (.bipush 22, 2) := by decide +kernel
theorem dX10_stamp_122 : decode cX10_stamp 122 = .ok (.iadd, 1) := by decide +kernel
theorem dX10_stamp_123 : decode cX10_stamp 123 = .ok (.iload 4, 2) := by decide +kernel
theorem dX10_stamp_125 : decode cX10_stamp 125 = .ok (.invokevirtual 300, 3) := by decide +kernel
theorem dX10_stamp_128 : decode cX10_stamp 128 = .ok (.aload_n 0, 1) := by decide +kernel
theorem dX10_stamp_129 : decode cX10_stamp 129 = .ok (.getfield 21, 3) := by decide +kernel
theorem dX10_stamp_132 : decode cX10_stamp 132 = .ok (.iload 5, 2) := by decide +kernel
theorem dX10_stamp_134 : decode cX10_stamp 134 = .ok (.bipush 24, 2) := by decide +kernel
theorem dX10_stamp_136 : decode cX10_stamp 136 = .ok (.iadd, 1) := by decide +kernel
theorem dX10_stamp_137 : decode cX10_stamp 137 = .ok (.iload_n 3, 1) := by decide +kernel
theorem dX10_stamp_138 : decode cX10_stamp 138 = .ok (.invokevirtual 300, 3) := by decide +kernel
theorem dX10_stamp_141 : decode cX10_stamp 141 = .ok (.goto 50, 3) := by decide +kernel
theorem dX10_stamp_144 : decode cX10_stamp 144 = .ok (.aload_n 0, 1) := by decide +kernel
theorem dX10_stamp_145 : decode cX10_stamp 145 = .ok (.getfield 21, 3) := by decide +kernel
theorem dX10_stamp_148 : decode cX10_stamp 148 = .ok (.iload 5, 2) := by decide +kernel
theorem dX10_stamp_150 : decode cX10_stamp 150 = .ok (.bipush 13, 2) := by decide +kernel
theorem dX10_stamp_152 : decode cX10_stamp 152 = .ok (.iadd, 1) := by decide +kernel
theorem dX10_stamp_153 : decode cX10_stamp 153 = .ok (.iload 4, 2) := by decide +kernel
theorem dX10_stamp_155 : decode cX10_stamp 155 = .ok (.invokevirtual 139, 3) := by decide +kernel
theorem dX10_stamp_158 : decode cX10_stamp 158 = .ok (.goto 33, 3) := by decide +kernel
theorem dX10_stamp_161 : decode cX10_stamp 161 = .ok (.aload_n 0, 1) := by decide +kernel
theorem dX10_stamp_162 : decode cX10_stamp 162 = .ok (.getfield 21, 3) := by decide +kernel
theorem dX10_stamp_165 : decode cX10_stamp 165 = .ok (.iload 5, 2) := by decide +kernel
theorem dX10_stamp_167 : decode cX10_stamp 167 = .ok (.bipush 11, 2) := by decide +kernel
theorem dX10_stamp_169 : decode cX10_stamp 169 = .ok (.iadd, 1) := by decide +kernel
theorem dX10_stamp_170 : decode cX10_stamp 170 = .ok (.aload_n 0, 1) := by decide +kernel
theorem dX10_stamp_171 : decode cX10_stamp 171 = .ok (.getfield 21, 3) := by decide +kernel
theorem dX10_stamp_174 : decode cX10_stamp 174 = .ok (.iload 5, 2) := by decide +kernel
theorem dX10_stamp_176 : decode cX10_stamp 176 = .ok (.bipush 11, 2) := by decide +kernel
theorem dX10_stamp_178 : decode cX10_stamp 178 = .ok (.iadd, 1) := by decide +kernel
theorem dX10_stamp_179 : decode cX10_stamp 179 = .ok (.invokevirtual 154, 3) := by decide +kernel
theorem dX10_stamp_182 : decode cX10_stamp 182 = .ok (.bipush (-2), 2) := by decide +kernel
theorem dX10_stamp_184 : decode cX10_stamp 184 = .ok (.iand, 1) := by decide +kernel
theorem dX10_stamp_185 : decode cX10_stamp 185 = .ok (.iload 4, 2) := by decide +kernel
theorem dX10_stamp_187 : decode cX10_stamp 187 = .ok (.ior, 1) := by decide +kernel
theorem dX10_stamp_188 : decode cX10_stamp 188 = .ok (.invokevirtual 139, 3) := by decide +kernel
theorem dX10_stamp_191 : decode cX10_stamp 191 = .ok (.return_, 1) := by decide +kernel
theorem dX10_forgetState_0 : decode cX10_forgetState 0 = .ok (.aload_n 0, 1) := by decide +kernel
theorem dX10_forgetState_1 : decode cX10_forgetState 1 = .ok (.iconst 0, 1) := by decide +kernel
theorem dX10_forgetState_2 : decode cX10_forgetState 2 = .ok (.putfield 79, 3) := by decide +kernel
theorem dX10_forgetState_5 : decode cX10_forgetState 5 = .ok (.aload_n 0, 1) := by decide +kernel
theorem dX10_forgetState_6 : decode cX10_forgetState 6 = .ok (.iconst (-1), 1) := by decide +kernel
theorem dX10_forgetState_7 : decode cX10_forgetState 7 = .ok (.putfield 83, 3) := by decide +kernel
theorem dX10_forgetState_10 : decode cX10_forgetState 10 = .ok (.return_, 1) := by decide +kernel
theorem dX10_openHere_0 : decode cX10_openHere 0 = .ok (.aload_n 0, 1) := by decide +kernel
theorem dX10_openHere_1 : decode cX10_openHere 1 = .ok (.getfield 83, 3) := by decide +kernel
theorem dX10_openHere_4 : decode cX10_openHere 4 = .ok (.iconst (-1), 1) := by decide +kernel
theorem dX10_openHere_5 : decode cX10_openHere 5 = .ok (.if_icmp .ne 14, 3) := by decide +kernel
theorem dX10_openHere_8 : decode cX10_openHere 8 = .ok (.aload_n 0, 1) := by decide +kernel
theorem dX10_openHere_9 : decode cX10_openHere 9 = .ok (.aload_n 0, 1) := by decide +kernel
theorem dX10_openHere_10 : decode cX10_openHere 10 = .ok (.getfield 48, 3) := by decide +kernel
theorem dX10_openHere_13 : decode cX10_openHere 13 = .ok (.invokevirtual 143, 3) := by decide +kernel
theorem dX10_openHere_16 : decode cX10_openHere 16 = .ok (.putfield 83, 3) := by decide +kernel
theorem dX10_openHere_19 : decode cX10_openHere 19 = .ok (.aload_n 0, 1) := by decide +kernel
theorem dX10_openHere_20 : decode cX10_openHere 20 = .ok (.getfield 83, 3) := by decide +kernel
theorem dX10_openHere_23 : decode cX10_openHere 23 = .ok (.ifCond .eq 14, 3) := by decide +kernel
theorem dX10_openHere_26 : decode cX10_openHere 26 = .ok (.new 303, 3) := by decide +kernel
theorem dX10_openHere_29 : decode cX10_openHere 29 = .ok (.dup, 1) := by decide +kernel
theorem dX10_openHere_30 : decode cX10_openHere 30 = .ok (.ldc_w 305, 3) := by decide +kernel
theorem dX10_openHere_33 : decode cX10_openHere 33 = .ok (.invokespecial 307, 3) := by decide +kernel
theorem dX10_openHere_36 : decode cX10_openHere 36 = .ok (.athrow, 1) := by decide +kernel
theorem dX10_openHere_37 : decode cX10_openHere 37 = .ok (.aload_n 0, 1) := by decide +kernel
theorem dX10_openHere_38 : decode cX10_openHere 38 = .ok (.getfield 55, 3) := by decide +kernel
theorem dX10_openHere_41 : decode cX10_openHere 41 = .ok (.aload_n 0, 1) := by decide +kernel
theorem dX10_openHere_42 : decode cX10_openHere 42 = .ok (.getfield 79, 3) := by decide +kernel
theorem dX10_openHere_45 : decode cX10_openHere 45 = .ok (.ifCond .ne 13, 3) := by decide +kernel
theorem dX10_openHere_48 : decode cX10_openHere 48 = .ok (.aload_n 0, 1) := by decide +kernel
theorem dX10_openHere_49 : decode cX10_openHere 49 = .ok (.getfield 39, 3) := by decide +kernel
