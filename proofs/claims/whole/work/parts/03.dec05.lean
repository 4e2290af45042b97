theorem dX11_append_79 : decode cX11_append 79 = .ok (.invokevirtual 171, 3) := by decide +kernel
theorem dX11_append_82 : decode cX11_append 82 = .ok (.iconst 0, 1) := by decide +kernel
theorem dX11_append_83 : decode cX11_append 83 = .ok (.istore 9, 2) := by decide +kernel
theorem dX11_append_85 : decode cX11_append 85 = .ok (.iload 9, 2) := by decide +kernel
theorem dX11_append_87 : decode cX11_append 87 = .ok (.iload 8, 2) := by decide +kernel
theorem dX11_append_89 : decode cX11_append 89 = .ok (.if_icmp .ge 103, 3) := by decide +kernel
theorem dX11_append_92 : decode cX11_append 92 = .ok (.aload_n 0, 1) := by decide +kernel
theorem dX11_append_93 : decode cX11_append 93 = .ok (.getfield 54, 3) := by decide +kernel
theorem dX11_append_96 : decode cX11_append 96 = .ok (.aload_n 0, 1) := by decide +kernel
theorem dX11_append_97 : decode cX11_append 97 = .ok (.getfield 129, 3) := by decide +kernel
theorem dX11_append_100 : decode cX11_append 100 = .ok (.aload_n 0, 1) := by decide +kernel
theorem dX11_append_101 : decode cX11_append 101 = .ok (.invokevirtual 375, 3) := by decide +kernel
theorem dX11_append_104 : decode cX11_append 104 = .ok (.iastore, 1) := by decide +kernel
theorem dX11_append_105 : decode cX11_append 105 = .ok (.aload_n 0, 1) := by decide +kernel
theorem dX11_append_106 : decode cX11_append 106 = .ok (.getfield 129, 3) := by decide +kernel
theorem dX11_append_109 : decode cX11_append 109 = .ok (.ifCond .le 30, 3) := by decide +kernel
theorem dX11_append_112 : decode cX11_append 112 = .ok (.aload_n 0, 1) := by decide +kernel
theorem dX11_append_113 : decode cX11_append 113 = .ok (.aload_n 0, 1) := by decide +kernel
theorem dX11_append_114 : decode cX11_append 114 = .ok (.getfield 54, 3) := by decide +kernel
theorem dX11_append_117 : decode cX11_append 117 = .ok (.aload_n 0, 1) := by decide +kernel
theorem dX11_append_118 : decode cX11_append 118 = .ok (.getfield 129, 3) := by decide +kernel
theorem dX11_append_121 : decode cX11_append 121 = .ok (.iconst 1, 1) := by decide +kernel
theorem dX11_append_122 : decode cX11_append 122 = .ok (.isub, 1) := by decide +kernel
theorem dX11_append_123 : decode cX11_append 123 = .ok (.iaload, 1) := by decide +kernel
theorem dX11_append_124 : decode cX11_append 124 = .ok (.aload_n 0, 1) := by decide +kernel
theorem dX11_append_125 : decode cX11_append 125 = .ok (.getfield 54, 3) := by decide +kernel
theorem dX11_append_128 : decode cX11_append 128 = .ok (.aload_n 0, 1) := by decide +kernel
theorem dX11_append_129 : decode cX11_append 129 = .ok (.getfield 129, 3) := by decide +kernel
theorem dX11_append_132 : decode cX11_append 132 = .ok (.iaload, 1) := by decide +kernel
theorem dX11_append_133 : decode cX11_append 133 = .ok (.invokevirtual 307, 3) := by decide +kernel
theorem dX11_append_136 : decode cX11_append 136 = .ok (.goto 40, 3) := by decide +kernel
theorem dX11_append_139 : decode cX11_append 139 = .ok (.aload_n 0, 1) := by decide +kernel
theorem dX11_append_140 : decode cX11_append 140 = .ok (.iload 5, 2) := by decide +kernel
theorem dX11_append_142 : decode cX11_append 142 = .ok (.bipush 20, 2) := by decide +kernel
theorem dX11_append_144 : decode cX11_append 144 = .ok (.iadd, 1) := by decide +kernel
theorem dX11_append_145 : decode cX11_append 145 = .ok (.iconst 2, 1) := by decide +kernel
theorem dX11_append_146 : decode cX11_append 146 = .ok (.aload_n 0, 1) := by decide +kernel
theorem dX11_append_147 : decode cX11_append 147 = .ok (.getfield 54, 3) := by decide +kernel
theorem dX11_append_150 : decode cX11_append 150 = .ok (.iconst 0, 1) := by decide +kernel
theorem dX11_append_151 : decode cX11_append 151 = .ok (.iaload, 1) := by decide +kernel
theorem dX11_append_152 : decode cX11_append 152 = .ok (.bipush 16, 2) := by decide +kernel
theorem dX11_append_154 : decode cX11_append 154 = .ok (.ishr, 1) := by decide +kernel
theorem dX11_append_155 : decode cX11_append 155 = .ok (.i2l, 1) := by decide +kernel
theorem dX11_append_156 : decode cX11_append 156 = .ok (.invokevirtual 104, 3) := by decide +kernel
theorem dX11_append_159 : decode cX11_append 159 = .ok (.aload_n 0, 1) := by decide +kernel
theorem dX11_append_160 : decode cX11_append 160 = .ok (.iload 5, 2) := by decide +kernel
theorem dX11_append_162 : decode cX11_append 162 = .ok (.bipush 26, 2) := by decide +kernel
theorem dX11_append_164 : decode cX11_append 164 = .ok (.iadd, 1) := by decide +kernel
theorem dX11_append_165 : decode cX11_append 165 = .ok (.iconst 2, 1) := by decide +kernel
theorem dX11_append_166 : decode cX11_append 166 = .ok (.aload_n 0, 1) := by decide +kernel
theorem dX11_append_167 : decode cX11_append 167 = .ok (.getfield 54, 3) := by decide +kernel
theorem dX11_append_170 : decode cX11_append 170 = .ok (.iconst 0, 1) := by decide +kernel
theorem dX11_append_171 : decode cX11_append 171 = .ok (.iaload, 1) := by decide +kernel
theorem dX11_append_172 : decode cX11_append 172 = .ok (.i2l, 1) := by decide +kernel
theorem dX11_append_173 : decode cX11_append 173 = .ok (.invokevirtual 104, 3) := by decide +kernel
theorem dX11_append_176 : decode cX11_append 176 = .ok (.aload_n 0, 1) := by decide +kernel
theorem dX11_append_177 : decode cX11_append 177 = .ok (.dup, 1) := by decide +kernel
theorem dX11_append_178 : decode cX11_append 178 = .ok (.getfield 129, 3) := by decide +kernel
theorem dX11_append_181 : decode cX11_append 181 = .ok (.iconst 1, 1) := by decide +kernel
theorem dX11_append_182 : decode cX11_append 182 = .ok (.iadd, 1) := by decide +kernel
theorem dX11_append_183 : decode cX11_append 183 = .ok (.putfield 129, 3) := by decide +kernel
theorem dX11_append_186 : decode cX11_append 186 = .ok (.iinc 9 1, 3) := by decide +kernel
theorem dX11_append_189 : decode cX11_append 189 = .ok (.goto (-104), 3) := by decide +kernel
theorem dX11_append_192 : decode cX11_append 192 = .ok (.iconst 0, 1) := by decide +kernel
theorem dX11_append_193 : decode cX11_append 193 = .ok (.istore 9, 2) := by decide +kernel
theorem dX11_append_195 : decode cX11_append 195 = .ok (.iload 9, 2) := by decide +kernel
theorem dX11_append_197 : decode cX11_append 197 = .ok (.iload_n 2, 1) := by decide +kernel
theorem dX11_append_198 : decode cX11_append 198 = .ok (.if_icmp .ge 70, 3) := by decide +kernel
theorem dX11_append_201 : decode cX11_append 201 = .ok (.iload 6, 2) := by decide +kernel
theorem dX11_append_203 : decode cX11_append 203 = .ok (.iload 9, 2) := by decide +kernel
theorem dX11_append_205 : decode cX11_append 205 = .ok (.iadd, 1) := by decide +kernel
theorem dX11_append_206 : decode cX11_append 206 = .ok (.istore 10, 2) := by decide +kernel
theorem dX11_append_208 : decode cX11_append 208 = .ok (.aload_n 0, 1) := by decide +kernel
theorem dX11_append_209 : decode cX11_append 209 = .ok (.getfield 8, 3) := by decide +kernel
theorem dX11_append_212 : decode cX11_append 212 = .ok (.aload_n 0, 1) := by decide +kernel
theorem dX11_append_213 : decode cX11_append 213 = .ok (.aload_n 0, 1) := by decide +kernel
theorem dX11_append_214 : decode cX11_append 214 = .ok (.getfield 54, 3) := by decide +kernel
theorem dX11_append_217 : decode cX11_append 217 = .ok (.iload 10, 2) := by decide +kernel
theorem dX11_append_219 : decode cX11_append 219 = .ok (.iload 7, 2) := by decide +kernel
theorem dX11_append_221 : decode cX11_append 221 = .ok (.idiv, 1) := by decide +kernel
theorem dX11_append_222 : decode cX11_append 222 = .ok (.iaload, 1) := by decide +kernel
theorem dX11_append_223 : decode cX11_append 223 = .ok (.invokevirtual 135, 3) := by decide +kernel
theorem dX11_append_226 : decode cX11_append 226 = .ok (.iload 10, 2) := by decide +kernel
theorem dX11_append_228 : decode cX11_append 228 = .ok (.iload 7, 2) := by decide +kernel
theorem dX11_append_230 : decode cX11_append 230 = .ok (.irem, 1) := by decide +kernel
theorem dX11_append_231 : decode cX11_append 231 = .ok (.iadd, 1) := by decide +kernel
theorem dX11_append_232 : decode cX11_append 232 = .ok (.iload_n 3, 1) := by decide +kernel
theorem dX11_append_233 : decode cX11_append 233 = .ok (.ifCond .eq 13, 3) := by decide +kernel
theorem dX11_append_236 : decode cX11_append 236 = .ok (.aload_n 0, 1) := by decide +kernel
theorem dX11_append_237 : decode cX11_append 237 = .ok (.getfield 14, 3) := by decide +kernel
theorem dX11_append_240 : decode cX11_append 240 = .ok (.iload 9, 2) := by decide +kernel
theorem dX11_append_242 : decode cX11_append 242 = .ok (.baload, 1) := by decide +kernel
theorem dX11_append_243 : decode cX11_append 243 = .ok (.goto 18, 3) := by decide +kernel
theorem dX11_append_246 : decode cX11_append 246 = .ok (.iload 4, 2) := by decide +kernel
theorem dX11_append_248 : decode cX11_append 248 = .ok (.iload 9, 2) := by decide +kernel
theorem dX11_append_250 : decode cX11_append 250 = .ok (.iload 9, 2) := by decide +kernel
theorem dX11_append_252 : decode cX11_append 252 = .ok (.imul, 1) := by decide +kernel
theorem dX11_append_253 : decode cX11_append 253 = .ok (.iadd, 1) := by decide +kernel
theorem dX11_append_254 : decode cX11_append 254 = .ok (.iload 9, 2) := by decide +kernel
theorem dX11_append_256 : decode cX11_append 256 = .ok (.bipush 8, 2) := by decide +kernel
theorem dX11_append_258 : decode cX11_append 258 = .ok (.ishr, 1) := by decide +kernel
theorem dX11_append_259 : decode cX11_append 259 = .ok (.iadd, 1) := by decide +kernel
theorem dX11_append_260 : decode cX11_append 260 = .ok (.i2b, 1) := by decide +kernel
theorem dX11_append_261 : decode cX11_append 261 = .ok (.bastore, 1) := by decide +kernel
theorem dX11_append_262 : decode cX11_append 262 = .ok (.iinc 9 1, 3) := by decide +kernel
theorem dX11_append_265 : decode cX11_append 265 = .ok (.goto (-70), 3) := by decide +kernel
theorem dX11_append_268 : decode cX11_append 268 = .ok (.aload_n 0, 1) := by decide +kernel
theorem dX11_append_269 : decode cX11_append 269 = .ok (.iload 5, 2) := by decide +kernel
theorem dX11_append_271 : decode cX11_append 271 = .ok (.bipush 28, 2) := by decide +kernel
theorem dX11_append_273 : decode cX11_append 273 = .ok (.iadd, 1) := by decide +kernel
theorem dX11_append_274 : decode cX11_append 274 = .ok (.iconst 4, 1) := by decide +kernel
theorem dX11_append_275 : decode cX11_append 275 = .ok (.iload 6, 2) := by decide +kernel
theorem dX11_append_277 : decode cX11_append 277 = .ok (.iload_n 2, 1) := by decide +kernel
theorem dX11_append_278 : decode cX11_append 278 = .ok (.iadd, 1) := by decide +kernel
theorem dX11_append_279 : decode cX11_append 279 = .ok (.i2l, 1) := by decide +kernel
theorem dX11_append_280 : decode cX11_append 280 = .ok (.invokevirtual 104, 3) := by decide +kernel
theorem dX11_append_283 : decode cX11_append 283 = .ok (.aload_n 0, 1) := by decide +kernel
theorem dX11_append_284 : decode cX11_append 284 = .ok (.invokevirtual 278, 3) := by decide +kernel
theorem dX11_append_287 : decode cX11_append 287 = .ok (.iload 6, 2) := by decide +kernel
theorem dX11_append_289 : decode cX11_append 289 = .ok (.iload_n 2, 1) := by decide +kernel
theorem dX11_append_290 : decode cX11_append 290 = .ok (.iadd, 1) := by decide +kernel
theorem dX11_append_291 : decode cX11_append 291 = .ok (.ireturn, 1) := by decide +kernel
theorem dX11_noFile_0 : decode cX11_noFile 0 = .ok (.aload_n 0, 1) := by decide +kernel
theorem dX11_noFile_1 : decode cX11_noFile 1 = .ok (.invokevirtual 322, 3) := by decide +kernel
theorem dX11_noFile_4 : decode cX11_noFile 4 = .ok (.ifCond .ne 57, 3) := by decide +kernel
theorem dX11_noFile_7 : decode cX11_noFile 7 = .ok (.aload_n 0, 1) := by decide +kernel
theorem dX11_noFile_8 : decode cX11_noFile 8 = .ok (.iload_n 1, 1) := by decide +kernel
theorem dX11_noFile_9 : decode cX11_noFile 9 = .ok (.ifCond .lt 11, 3) := by decide +kernel
theorem dX11_noFile_12 : decode cX11_noFile 12 = .ok (.iload_n 1, 1) := by decide +kernel
theorem dX11_noFile_13 : decode cX11_noFile 13 = .ok (.aload_n 0, 1) := by decide +kernel
theorem dX11_noFile_14 : decode cX11_noFile 14 = .ok (.invokevirtual 325, 3) := by decide +kernel
theorem dX11_noFile_17 : decode cX11_noFile 17 = .ok (.if_icmp .lt 7, 3) := by decide +kernel
theorem dX11_noFile_20 : decode cX11_noFile 20 = .ok (.iconst 1, 1) := by decide +kernel
theorem dX11_noFile_21 : decode cX11_noFile 21 = .ok (.goto 4, 3) := by decide +kernel
theorem dX11_noFile_24 : decode cX11_noFile 24 = .ok (.iconst 0, 1) := by decide +kernel
theorem dX11_noFile_25 : decode cX11_noFile 25 = .ok (.iconst 2, 1) := by decide +kernel
theorem dX11_noFile_26 : decode cX11_noFile 26 = .ok (.invokevirtual 287, 3) := by decide +kernel
theorem dX11_noFile_29 : decode cX11_noFile 29 = .ok (.ifCond .ne 32, 3) := by decide +kernel
theorem dX11_noFile_32 : decode cX11_noFile 32 = .ok (.aload_n 0, 1) := by decide +kernel
theorem dX11_noFile_33 : decode cX11_noFile 33 = .ok (.aload_n 0, 1) := by decide +kernel
theorem dX11_noFile_34 : decode cX11_noFile 34 = .ok (.aload_n 0, 1) := by decide +kernel
theorem dX11_noFile_35 : decode cX11_noFile 35 = .ok (.iload_n 1, 1) := by decide +kernel
theorem dX11_noFile_36 : decode cX11_noFile 36 = .ok (.invokevirtual 334, 3) := by decide +kernel
theorem dX11_noFile_39 : decode cX11_noFile 39 = .ok (.invokevirtual 161, 3) := by decide +kernel
theorem dX11_noFile_42 : decode cX11_noFile 42 = .ok (.ifCond .ne 7, 3) := by decide +kernel
theorem dX11_noFile_45 : decode cX11_noFile 45 = .ok (.iload_n 2, 1) := by decide +kernel
theorem dX11_noFile_46 : decode cX11_noFile 46 = .ok (.ifCond .eq 7, 3) := by decide +kernel
theorem dX11_noFile_49 : decode cX11_noFile 49 = .ok (.iconst 1, 1) := by decide +kernel
theorem dX11_noFile_50 : decode cX11_noFile 50 = .ok (.goto 4, 3) := by decide +kernel
theorem dX11_noFile_53 : decode cX11_noFile 53 = .ok (.iconst 0, 1) := by decide +kernel
theorem dX11_noFile_54 : decode cX11_noFile 54 = .ok (.iconst 3, 1) := by decide +kernel
theorem dX11_noFile_55 : decode cX11_noFile 55 = .ok (.invokevirtual 287, 3) := by decide +kernel
theorem dX11_noFile_58 : decode cX11_noFile 58 = .ok (.ifCond .eq 7, 3) := by decide +kernel
theorem dX11_noFile_61 : decode cX11_noFile 61 = .ok (.iconst 1, 1) := by decide +kernel
theorem dX11_noFile_62 : decode cX11_noFile 62 = .ok (.goto 4, 3) := by decide +kernel
theorem dX11_noFile_65 : decode cX11_noFile 65 = .ok (.iconst 0, 1) := by decide +kernel
theorem dX11_noFile_66 : decode cX11_noFile 66 = .ok (.ireturn, 1) := by decide +kernel
theorem dX11_write_0 : decode cX11_write 0 = .ok (.aload_n 0, 1) := by decide +kernel
theorem dX11_write_1 : decode cX11_write 1 = .ok (.getfield 272, 3) := by decide +kernel
theorem dX11_write_4 : decode cX11_write 4 = .ok (.istore_n 2, 1) := by decide +kernel
theorem dX11_write_5 : decode cX11_write 5 = .ok (.aload_n 0, 1) := by decide +kernel
theorem dX11_write_6 : decode cX11_write 6 = .ok (.iconst 0, 1) := by decide +kernel
theorem dX11_write_7 : decode cX11_write 7 = .ok (.putfield 272, 3) := by decide +kernel
theorem dX11_write_10 : decode cX11_write 10 = .ok (.aload_n 0, 1) := by decide +kernel
theorem dX11_write_11 : decode cX11_write 11 = .ok (.iload_n 1, 1) := by decide +kernel
theorem dX11_write_12 : decode cX11_write 12 = .ok (.iconst 0, 1) := by decide +kernel
theorem dX11_write_13 : decode cX11_write 13 = .ok (.invokevirtual 392, 3) := by decide +kernel
theorem dX11_write_16 : decode cX11_write 16 = .ok (.ifCond .eq 7, 3) := by decide +kernel
theorem dX11_write_19 : decode cX11_write 19 = .ok (.iconst 0, 1) := by decide +kernel
theorem dX11_write_20 : decode cX11_write 20 = .ok (.goto 15, 3) := by decide +kernel
theorem dX11_write_23 : decode cX11_write 23 = .ok (.aload_n 0, 1) := by decide +kernel
theorem dX11_write_24 : decode cX11_write 24 = .ok (.aload_n 0, 1) := by decide +kernel
theorem dX11_write_25 : decode cX11_write 25 = .ok (.iload_n 1, 1) := by decide +kernel
theorem dX11_write_26 : decode cX11_write 26 = .ok (.invokevirtual 334, 3) := by decide +kernel
theorem dX11_write_29 : decode cX11_write 29 = .ok (.iload_n 2, 1) := by decide +kernel
theorem dX11_write_30 : decode cX11_write 30 = .ok (.iconst 1, 1) := by decide +kernel
theorem dX11_write_31 : decode cX11_write 31 = .ok (.iconst 0, 1) := by decide +kernel
theorem dX11_write_32 : decode cX11_write 32 = .ok (.invokevirtual 395, 3) := by decide +kernel
theorem dX11_write_35 : decode cX11_write 35 = .ok (.ireturn, 1) := by decide +kernel
theorem dX11_grow_0 : decode cX11_grow 0 = .ok (.aload_n 0, 1) := by decide +kernel
theorem dX11_grow_1 : decode cX11_grow 1 = .ok (.iload_n 1, 1) := by decide +kernel
theorem dX11_grow_2 : decode cX11_grow 2 = .ok (.iload_n 2, 1) := by decide +kernel
theorem dX11_grow_3 : decode cX11_grow 3 = .ok (.ifCond .lt 10, 3) := by decide +kernel
theorem dX11_grow_6 : decode cX11_grow 6 = .ok (.iload_n 2, 1) := by decide +kernel
theorem dX11_grow_7 : decode cX11_grow 7 = .ok (.ldc_w 399, 3) := by decide +kernel
theorem dX11_grow_10 : decode cX11_grow 10 = .ok (.if_icmp .le 7, 3) := by decide +kernel
theorem dX11_grow_13 : decode cX11_grow 13 = .ok (.iconst 1, 1) := by decide +kernel
theorem dX11_grow_14 : decode cX11_grow 14 = .ok (.goto 4, 3) := by decide +kernel
theorem dX11_grow_17 : decode cX11_grow 17 = .ok (.iconst 0, 1) := by decide +kernel
theorem dX11_grow_18 : decode cX11_grow 18 = .ok (.invokevirtual 392, 3) := by decide +kernel
theorem dX11_grow_21 : decode cX11_grow 21 = .ok (.ifCond .eq 7, 3) := by decide +kernel
theorem dX11_grow_24 : decode cX11_grow 24 = .ok (.iconst 0, 1) := by decide +kernel
theorem dX11_grow_25 : decode cX11_grow 25 = .ok (.goto 15, 3) := by decide +kernel
theorem dX11_grow_28 : decode cX11_grow 28 = .ok (.aload_n 0, 1) := by decide +kernel
theorem dX11_grow_29 : decode cX11_grow 29 = .ok (.aload_n 0, 1) := by decide +kernel
theorem dX11_grow_30 : decode cX11_grow 30 = .ok (.iload_n 1, 1) := by decide +kernel
theorem dX11_grow_31 : decode cX11_grow 31 = .ok (.invokevirtual 334, 3) := by decide +kernel
theorem dX11_grow_34 : decode cX11_grow 34 = .ok (.iload_n 2, 1) := by decide +kernel
theorem dX11_grow_35 : decode cX11_grow 35 = .ok (.iconst 0, 1) := by decide +kernel
theorem dX11_grow_36 : decode cX11_grow 36 = .ok (.iload_n 3, 1) := by decide +kernel
theorem dX11_grow_37 : decode cX11_grow 37 = .ok (.invokevirtual 395, 3) := by decide +kernel
theorem dX11_grow_40 : decode cX11_grow 40 = .ok (.ireturn, 1) := by decide +kernel
theorem dX11_cut_0 : decode cX11_cut 0 = .ok (.aload_n 0, 1) := by decide +kernel
theorem dX11_cut_1 : decode cX11_cut 1 = .ok (.iload_n 1, 1) := by decide +kernel
theorem dX11_cut_2 : decode cX11_cut 2 = .ok (.iload_n 2, 1) := by decide +kernel
theorem dX11_cut_3 : decode cX11_cut 3 = .ok (.ifCond .ge 7, 3) := by decide +kernel
theorem dX11_cut_6 : decode cX11_cut 6 = .ok (.iconst 1, 1) := by decide +kernel
theorem dX11_cut_7 : decode cX11_cut 7 = .ok (.goto 4, 3) := by decide +kernel
theorem dX11_cut_10 : decode cX11_cut 10 = .ok (.iconst 0, 1) := by decide +kernel
theorem dX11_cut_11 : decode cX11_cut 11 = .ok (.invokevirtual 392, 3) := by decide +kernel
theorem dX11_cut_14 : decode cX11_cut 14 = .ok (.ifCond .ne 37, 3) := by decide +kernel
theorem dX11_cut_17 : decode cX11_cut 17 = .ok (.aload_n 0, 1) := by decide +kernel
theorem dX11_cut_18 : decode cX11_cut 18 = .ok (.iload_n 2, 1) := by decide +kernel
theorem dX11_cut_19 : decode cX11_cut 19 = .ok (.aload_n 0, 1) := by decide +kernel
theorem dX11_cut_20 : decode cX11_cut 20 = .ok (.aload_n 0, 1) := by decide +kernel
theorem dX11_cut_21 : decode cX11_cut 21 = .ok (.getfield 24, 3) := by decide +kernel
theorem dX11_cut_24 : decode cX11_cut 24 = .ok (.aload_n 0, 1) := by decide +kernel
theorem dX11_cut_25 : decode cX11_cut 25 = .ok (.iload_n 1, 1) := by decide +kernel
theorem dX11_cut_26 : decode cX11_cut 26 = .ok (.invokevirtual 334, 3) := by decide +kernel
theorem dX11_cut_29 : decode cX11_cut 29 = .ok (.iaload, 1) := by decide +kernel
theorem dX11_cut_30 : decode cX11_cut 30 = .ok (.bipush 28, 2) := by decide +kernel
theorem dX11_cut_32 : decode cX11_cut 32 = .ok (.iadd, 1) := by decide +kernel
theorem dX11_cut_33 : decode cX11_cut 33 = .ok (.invokevirtual 96, 3) := by decide +kernel
theorem dX11_cut_36 : decode cX11_cut 36 = .ok (.if_icmp .le 7, 3) := by decide +kernel
theorem dX11_cut_39 : decode cX11_cut 39 = .ok (.iconst 1, 1) := by decide +kernel
theorem dX11_cut_40 : decode cX11_cut 40 = .ok (.goto 4, 3) := by decide +kernel
theorem dX11_cut_43 : decode cX11_cut 43 = .ok (.iconst 0, 1) := by decide +kernel
theorem dX11_cut_44 : decode cX11_cut 44 = .ok (.iconst 3, 1) := by decide +kernel
theorem dX11_cut_45 : decode cX11_cut 45 = .ok (.invokevirtual 287, 3) := by decide +kernel
theorem dX11_cut_48 : decode cX11_cut 48 = .ok (.ifCond .eq 5, 3) := by decide +kernel
theorem dX11_cut_51 : decode cX11_cut 51 = .ok (.iconst 0, 1) := by decide +kernel
theorem dX11_cut_52 : decode cX11_cut 52 = .ok (.ireturn, 1) := by decide +kernel
theorem dX11_cut_53 : decode cX11_cut 53 = .ok (.aload_n 0, 1) := by decide +kernel
theorem dX11_cut_54 : decode cX11_cut 54 = .ok (.getfield 24, 3) := by decide +kernel
theorem dX11_cut_57 : decode cX11_cut 57 = .ok (.aload_n 0, 1) := by decide +kernel
theorem dX11_cut_58 : decode cX11_cut 58 = .ok (.iload_n 1, 1) := by decide +kernel
theorem dX11_cut_59 : decode cX11_cut 59 = .ok (.invokevirtual 334, 3) := by decide +kernel
theorem dX11_cut_62 : decode cX11_cut 62 = .ok (.iaload, 1) := by decide +kernel
theorem dX11_cut_63 : decode cX11_cut 63 = .ok (.istore_n 3, 1) := by decide +kernel
theorem dX11_cut_64 : decode cX11_cut 64 = .ok (.iload_n 2, 1) := by decide +kernel
theorem dX11_cut_65 : decode cX11_cut 65 = .ok (.sipush 512, 3) := by decide +kernel
theorem dX11_cut_68 : decode cX11_cut 68 = .ok (.aload_n 0, 1) := by decide +kernel
theorem dX11_cut_69 : decode cX11_cut 69 = .ok (.getfield 114, 3) := by decide +kernel
theorem dX11_cut_72 : decode cX11_cut 72 = .ok (.imul, 1) := by decide +kernel
theorem dX11_cut_73 : decode cX11_cut 73 = .ok (.invokestatic 238, 3) := by decide +kernel
theorem dX11_cut_76 : decode cX11_cut 76 = .ok (.istore 4, 2) := by decide +kernel
theorem dX11_cut_78 : decode cX11_cut 78 = .ok (.aload_n 0, 1) := by decide +kernel
theorem dX11_cut_79 : decode cX11_cut 79 = .ok (.aload_n 0, 1) := by decide +kernel
theorem dX11_cut_80 : decode cX11_cut 80 = .ok (.iload_n 3, 1) := by decide +kernel
theorem dX11_cut_81 : decode cX11_cut 81 = .ok (.invokevirtual 132, 3) := by decide +kernel
theorem dX11_cut_84 : decode cX11_cut 84 = .ok (.invokevirtual 171, 3) := by decide +kernel
theorem dX11_cut_87 : decode cX11_cut 87 = .ok (.iload 4, 2) := by decide +kernel
theorem dX11_cut_89 : decode cX11_cut 89 = .ok (.istore 5, 2) := by decide +kernel
theorem dX11_cut_91 : decode cX11_cut 91 = .ok (.iload 5, 2) := by decide +kernel
theorem dX11_cut_93 : decode cX11_cut 93 = .ok (.aload_n 0, 1) := by decide +kernel
theorem dX11_cut_94 : decode cX11_cut 94 = .ok (.getfield 129, 3) := by decide +kernel
theorem dX11_cut_97 : decode cX11_cut 97 = .ok (.if_icmp .ge 21, 3) := by decide +kernel
theorem dX11_cut_100 : decode cX11_cut 100 = .ok (.aload_n 0, 1) := by decide +kernel
theorem dX11_cut_101 : decode cX11_cut 101 = .ok (.aload_n 0, 1) := by decide +kernel
theorem dX11_cut_102 : decode cX11_cut 102 = .ok (.getfield 54, 3) := by decide +kernel
theorem dX11_cut_105 : decode cX11_cut 105 = .ok (.iload 5, 2) := by decide +kernel
theorem dX11_cut_107 : decode cX11_cut 107 = .ok (.iaload, 1) := by decide +kernel
theorem dX11_cut_108 : decode cX11_cut 108 = .ok (.iconst 0, 1) := by decide +kernel
theorem dX11_cut_109 : decode cX11_cut 109 = .ok (.invokevirtual 307, 3) := by decide +kernel
theorem dX11_cut_112 : decode cX11_cut 112 = .ok (.iinc 5 1, 3) := by decide +kernel
theorem dX11_cut_115 : decode cX11_cut 115 = .ok (.goto (-24), 3) := by decide +kernel
theorem dX11_cut_118 : decode cX11_cut 118 = .ok (.iload 4, 2) := by decide +kernel
theorem dX11_cut_120 : decode cX11_cut 120 = .ok (.ifCond .le 30, 3) := by decide +kernel
theorem dX11_cut_123 : decode cX11_cut 123 = .ok (.aload_n 0, 1) := by decide +kernel
theorem dX11_cut_124 : decode cX11_cut 124 = .ok (.getfield 129, 3) := by decide +kernel
theorem dX11_cut_127 : decode cX11_cut 127 = .ok (.iload 4, 2) := by decide +kernel
theorem dX11_cut_129 : decode cX11_cut 129 = .ok (.if_icmp .le 41, 3) := by decide +kernel
theorem dX11_cut_132 : decode cX11_cut 132 = .ok (.aload_n 0, 1) := by decide +kernel
theorem dX11_cut_133 : decode cX11_cut 133 = .ok (.aload_n 0, 1) := by decide +kernel
theorem dX11_cut_134 : decode cX11_cut 134 = .ok (.getfield 54, 3) := by decide +kernel
theorem dX11_cut_137 : decode cX11_cut 137 = .ok (.iload 4, 2) := by decide +kernel
theorem dX11_cut_139 : decode cX11_cut 139 = .ok (.iconst 1, 1) := by decide +kernel
theorem dX11_cut_140 : decode cX11_cut 140 = .ok (.isub, 1) := by decide +kernel
theorem dX11_cut_141 : decode cX11_cut 141 = .ok (.iaload, 1) := by decide +kernel
theorem dX11_cut_142 : decode cX11_cut 142 = .ok (.ldc 99, 2) := by decide +kernel
theorem dX11_cut_144 : decode cX11_cut 144 = .ok (.invokevirtual 307, 3) := by decide +kernel
theorem dX11_cut_147 : decode cX11_cut 147 = .ok (.goto 23, 3) := by decide +kernel
theorem dX11_cut_150 : decode cX11_cut 150 = .ok (.aload_n 0, 1) := by decide +kernel
theorem dX11_cut_151 : decode cX11_cut 151 = .ok (.iload_n 3, 1) := by decide +kernel
theorem dX11_cut_152 : decode cX11_cut 152 = .ok (.bipush 20, 2) := by decide +kernel
theorem dX11_cut_154 : decode cX11_cut 154 = .ok (.iadd, 1) := by decide +kernel
theorem dX11_cut_155 : decode cX11_cut 155 = .ok (.iconst 2, 1) := by decide +kernel
theorem dX11_cut_156 : decode cX11_cut 156 = .ok (.lconst 0, 1) := by decide +kernel
theorem dX11_cut_157 : decode cX11_cut 157 = .ok (.invokevirtual 104, 3) := by decide +kernel
theorem dX11_cut_160 : decode cX11_cut 160 = .ok (.aload_n 0, 1) := by decide +kernel
theorem dX11_cut_161 : decode cX11_cut 161 = .ok (.iload_n 3, 1) := by decide +kernel
theorem dX11_cut_162 : decode cX11_cut 162 = .ok (.bipush 26, 2) := by decide +kernel
theorem dX11_cut_164 : decode cX11_cut 164 = .ok (.iadd, 1) := by decide +kernel
theorem dX11_cut_165 : decode cX11_cut 165 = .ok (.iconst 2, 1) := by decide +kernel
theorem dX11_cut_166 : decode cX11_cut 166 = .ok (.lconst 0, 1) := by decide +kernel
theorem dX11_cut_167 : decode cX11_cut 167 = .ok (.invokevirtual 104, 3) := by decide +kernel
theorem dX11_cut_170 : decode cX11_cut 170 = .ok (.aload_n 0, 1) := by decide +kernel
theorem dX11_cut_171 : decode cX11_cut 171 = .ok (.iload_n 3, 1) := by decide +kernel
theorem dX11_cut_172 : decode cX11_cut 172 = .ok (.bipush 28, 2) := by decide +kernel
theorem dX11_cut_174 : decode cX11_cut 174 = .ok (.iadd, 1) := by decide +kernel
theorem dX11_cut_175 : decode cX11_cut 175 = .ok (.iconst 4, 1) := by decide +kernel
theorem dX11_cut_176 : decode cX11_cut 176 = .ok (.iload_n 2, 1) := by decide +kernel
theorem dX11_cut_177 : decode cX11_cut 177 = .ok (.i2l, 1) := by decide +kernel
theorem dX11_cut_178 : decode cX11_cut 178 = .ok (.invokevirtual 104, 3) := by decide +kernel
theorem dX11_cut_181 : decode cX11_cut 181 = .ok (.aload_n 0, 1) := by decide +kernel
theorem dX11_cut_182 : decode cX11_cut 182 = .ok (.invokevirtual 278, 3) := by decide +kernel
theorem dX11_cut_185 : decode cX11_cut 185 = .ok (.aload_n 0, 1) := by decide +kernel
theorem dX11_cut_186 : decode cX11_cut 186 = .ok (.getfield 129, 3) := by decide +kernel
theorem dX11_cut_189 : decode cX11_cut 189 = .ok (.iload 4, 2) := by decide +kernel
theorem dX11_cut_191 : decode cX11_cut 191 = .ok (.isub, 1) := by decide +kernel
theorem dX11_cut_192 : decode cX11_cut 192 = .ok (.ireturn, 1) := by decide +kernel
theorem dX11_remove_0 : decode cX11_remove 0 = .ok (.aload_n 0, 1) := by decide +kernel
theorem dX11_remove_1 : decode cX11_remove 1 = .ok (.invokevirtual 322, 3) := by decide +kernel
theorem dX11_remove_4 : decode cX11_remove 4 = .ok (.ifCond .ne 28, 3) := by decide +kernel
theorem dX11_remove_7 : decode cX11_remove 7 = .ok (.aload_n 0, 1) := by decide +kernel
theorem dX11_remove_8 : decode cX11_remove 8 = .ok (.iload_n 1, 1) := by decide +kernel
theorem dX11_remove_9 : decode cX11_remove 9 = .ok (.ifCond .lt 11, 3) := by decide +kernel
theorem dX11_remove_12 : decode cX11_remove 12 = .ok (.iload_n 1, 1) := by decide +kernel
theorem dX11_remove_13 : decode cX11_remove 13 = .ok (.aload_n 0, 1) := by decide +kernel
theorem dX11_remove_14 : decode cX11_remove 14 = .ok (.invokevirtual 325, 3) := by decide +kernel
theorem dX11_remove_17 : decode cX11_remove 17 = .ok (.if_icmp .lt 7, 3) := by decide +kernel
theorem dX11_remove_20 : decode cX11_remove 20 = .ok (.iconst 1, 1) := by decide +kernel
theorem dX11_remove_21 : decode cX11_remove 21 = .ok (.goto 4, 3) := by decide +kernel
theorem dX11_remove_24 : decode cX11_remove 24 = .ok (.iconst 0, 1) := by decide +kernel
theorem dX11_remove_25 : decode cX11_remove 25 = .ok (.iconst 2, 1) := by decide +kernel
theorem dX11_remove_26 : decode cX11_remove 26 = .ok (.invokevirtual 287, 3) := by decide +kernel
theorem dX11_remove_29 : decode cX11_remove 29 = .ok (.ifCond .eq 4, 3) := by decide +kernel
theorem dX11_remove_32 : decode cX11_remove 32 = .ok (.return_, 1) := by decide +kernel
theorem dX11_remove_33 : decode cX11_remove 33 = .ok (.aload_n 0, 1) := by decide +kernel
theorem dX11_remove_34 : decode cX11_remove 34 = .ok (.iload_n 1, 1) := by decide +kernel
theorem dX11_remove_35 : decode cX11_remove 35 = .ok (.invokevirtual 334, 3) := by decide +kernel
theorem dX11_remove_38 : decode cX11_remove 38 = .ok (.istore_n 2, 1) := by decide +kernel
theorem dX11_remove_39 : decode cX11_remove 39 = .ok (.aload_n 0, 1) := by decide +kernel
theorem dX11_remove_40 : decode cX11_remove 40 = .ok (.aload_n 0, 1) := by decide +kernel
theorem dX11_remove_41 : decode cX11_remove 41 = .ok (.iload_n 2, 1) := by decide +kernel
theorem dX11_remove_42 : decode cX11_remove 42 = .ok (.invokevirtual 161, 3) := by decide +kernel
theorem dX11_remove_45 : decode cX11_remove 45 = .ok (.ifCond .eq 16, 3) := by decide +kernel
theorem dX11_remove_48 : decode cX11_remove 48 = .ok (.aload_n 0, 1) := by decide +kernel
theorem dX11_remove_49 : decode cX11_remove 49 = .ok (.getfield 37, 3) := by decide +kernel
theorem dX11_remove_52 : decode cX11_remove 52 = .ok (.iload_n 2, 1) := by decide +kernel
theorem dX11_remove_53 : decode cX11_remove 53 = .ok (.iaload, 1) := by decide +kernel
theorem dX11_remove_54 : decode cX11_remove 54 = .ok (.ifCond .le 7, 3) := by decide +kernel
theorem dX11_remove_57 : decode cX11_remove 57 = .ok (.iconst 1, 1) := by decide +kernel
theorem dX11_remove_58 : decode cX11_remove 58 = .ok (.goto 4, 3) := by decide +kernel
theorem dX11_remove_61 : decode cX11_remove 61 = .ok (.iconst 0, 1) := by decide +kernel
theorem dX11_remove_62 : decode cX11_remove 62 = .ok (.iconst 3, 1) := by decide +kernel
theorem dX11_remove_63 : decode cX11_remove 63 = .ok (.invokevirtual 287, 3) := by decide +kernel
theorem dX11_remove_66 : decode cX11_remove 66 = .ok (.ifCond .eq 4, 3) := by decide +kernel
theorem dX11_remove_69 : decode cX11_remove 69 = .ok (.return_, 1) := by decide +kernel
theorem dX11_remove_70 : decode cX11_remove 70 = .ok (.aload_n 0, 1) := by decide +kernel
theorem dX11_remove_71 : decode cX11_remove 71 = .ok (.aload_n 0, 1) := by decide +kernel
theorem dX11_remove_72 : decode cX11_remove 72 = .ok (.invokevirtual 319, 3) := by decide +kernel
theorem dX11_remove_75 : decode cX11_remove 75 = .ok (.invokevirtual 372, 3) := by decide +kernel
theorem dX11_remove_78 : decode cX11_remove 78 = .ok (.aload_n 0, 1) := by decide +kernel
theorem dX11_remove_79 : decode cX11_remove 79 = .ok (.aload_n 0, 1) := by decide +kernel
theorem dX11_remove_80 : decode cX11_remove 80 = .ok (.iload_n 2, 1) := by decide +kernel
theorem dX11_remove_81 : decode cX11_remove 81 = .ok (.invokevirtual 168, 3) := by decide +kernel
theorem dX11_remove_84 : decode cX11_remove 84 = .ok (.invokevirtual 171, 3) := by decide +kernel
theorem dX11_remove_87 : decode cX11_remove 87 = .ok (.iconst 0, 1) := by decide +kernel
theorem dX11_remove_88 : decode cX11_remove 88 = .ok (.istore_n 3, 1) := by decide +kernel
theorem dX11_remove_89 : decode cX11_remove 89 = .ok (.iload_n 3, 1) := by decide +kernel
theorem dX11_remove_90 : decode cX11_remove 90 = .ok (.aload_n 0, 1) := by decide +kernel
theorem dX11_remove_91 : decode cX11_remove 91 = .ok (.getfield 129, 3) := by decide +kernel
theorem dX11_remove_94 : decode cX11_remove 94 = .ok (.if_icmp .ge 20, 3) := by decide +kernel
theorem dX11_remove_97 : decode cX11_remove 97 = .ok (.aload_n 0, 1) := by decide +kernel
theorem dX11_remove_98 : decode cX11_remove 98 = .ok (.aload_n 0, 1) := by decide +kernel
theorem dX11_remove_99 : decode cX11_remove 99 = .ok (.getfield 54, 3) := by decide +kernel
theorem dX11_remove_102 : decode cX11_remove 102 = .ok (.iload_n 3, 1) := by decide +kernel
theorem dX11_remove_103 : decode cX11_remove 103 = .ok (.iaload, 1) := by decide +kernel
theorem dX11_remove_104 : decode cX11_remove 104 = .ok (.iconst 0, 1) := by decide +kernel
theorem dX11_remove_105 : decode cX11_remove 105 = .ok (.invokevirtual 307, 3) := by decide +kernel
theorem dX11_remove_108 : decode cX11_remove 108 = .ok (.iinc 3 1, 3) := by decide +kernel
theorem dX11_remove_111 : decode cX11_remove 111 = .ok (.goto (-22), 3) := by decide +kernel
theorem dX11_remove_114 : decode cX11_remove 114 = .ok (.aload_n 0, 1) := by decide +kernel
theorem dX11_remove_115 : decode cX11_remove 115 = .ok (.getfield 28, 3) := by decide +kernel
theorem dX11_remove_118 : decode cX11_remove 118 = .ok (.iload_n 2, 1) := by decide +kernel
theorem dX11_remove_119 : decode cX11_remove 119 = .ok (.iaload, 1) := by decide +kernel
theorem dX11_remove_120 : decode cX11_remove 120 = .ok (.aload_n 0, 1) := by decide +kernel
theorem dX11_remove_121 : decode cX11_remove 121 = .ok (.getfield 31, 3) := by decide +kernel
theorem dX11_remove_124 : decode cX11_remove 124 = .ok (.iload_n 2, 1) := by decide +kernel
theorem dX11_remove_125 : decode cX11_remove 125 = .ok (.iaload, 1) := by decide +kernel
theorem dX11_remove_126 : decode cX11_remove 126 = .ok (.isub, 1) := by decide +kernel
theorem dX11_remove_127 : decode cX11_remove 127 = .ok (.istore_n 3, 1) := by decide +kernel
theorem dX11_remove_128 : decode cX11_remove 128 = .ok (.iload_n 3, 1) := by decide +kernel
theorem dX11_remove_129 : decode cX11_remove 129 = .ok (.aload_n 0, 1) := by decide +kernel
theorem dX11_remove_130 : decode cX11_remove 130 = .ok (.getfield 28, 3) := by decide +kernel
theorem dX11_remove_133 : decode cX11_remove 133 = .ok (.iload_n 2, 1) := by decide +kernel
theorem dX11_remove_134 : decode cX11_remove 134 = .ok (.iaload, 1) := by decide +kernel
theorem dX11_remove_135 : decode cX11_remove 135 = .ok (.if_icmp .gt 21, 3) := by decide +kernel
theorem dX11_remove_138 : decode cX11_remove 138 = .ok (.aload_n 0, 1) := by decide +kernel
theorem dX11_remove_139 : decode cX11_remove 139 = .ok (.getfield 8, 3) := by decide +kernel
theorem dX11_remove_142 : decode cX11_remove 142 = .ok (.aload_n 0, 1) := by decide +kernel
theorem dX11_remove_143 : decode cX11_remove 143 = .ok (.iload_n 3, 1) := by decide +kernel
theorem dX11_remove_144 : decode cX11_remove 144 = .ok (.invokevirtual 186, 3) := by decide +kernel
theorem dX11_remove_147 : decode cX11_remove 147 = .ok (.bipush (-27), 2) := by decide +kernel
theorem dX11_remove_149 : decode cX11_remove 149 = .ok (.bastore, 1) := by decide +kernel
theorem dX11_remove_150 : decode cX11_remove 150 = .ok (.iinc 3 1, 3) := by decide +kernel
theorem dX11_remove_153 : decode cX11_remove 153 = .ok (.goto (-25), 3) := by decide +kernel
theorem dX11_remove_156 : decode cX11_remove 156 = .ok (.aload_n 0, 1) := by decide +kernel
theorem dX11_remove_157 : decode cX11_remove 157 = .ok (.invokevirtual 278, 3) := by decide +kernel
theorem dX11_remove_160 : decode cX11_remove 160 = .ok (.return_, 1) := by decide +kernel
theorem dX11_stamp_0 : decode cX11_stamp 0 = .ok (.aload_n 0, 1) := by decide +kernel
theorem dX11_stamp_1 : decode cX11_stamp 1 = .ok (.invokevirtual 322, 3) := by decide +kernel
theorem dX11_stamp_4 : decode cX11_stamp 4 = .ok (.ifCond .ne 28, 3) := by decide +kernel
theorem dX11_stamp_7 : decode cX11_stamp 7 = .ok (.aload_n 0, 1) := by decide +kernel
theorem dX11_stamp_8 : decode cX11_stamp 8 = .ok (.iload_n 1, 1) := by decide +kernel
theorem dX11_stamp_9 : decode cX11_stamp 9 = .ok (.ifCond .lt 11, 3) := by decide +kernel
theorem dX11_stamp_12 : decode cX11_stamp 12 = .ok (.iload_n 1, 1) := by decide +kernel
theorem dX11_stamp_13 : decode cX11_stamp 13 = .ok (.aload_n 0, 1) := by decide +kernel
theorem dX11_stamp_14 : decode cX11_stamp 14 = .ok (.invokevirtual 325, 3) := by decide +kernel
theorem dX11_stamp_17 : decode cX11_stamp 17 = .ok (.if_icmp .lt 7, 3) := by decide +kernel
theorem dX11_stamp_20 : decode cX11_stamp 20 = .ok (.iconst 1, 1) := by decide +kernel
theorem dX11_stamp_21 : decode cX11_stamp 21 = .ok (.goto 4, 3) := by decide +kernel
theorem dX11_stamp_24 : decode cX11_stamp 24 = .ok (.iconst 0, 1) := by decide +kernel
theorem dX11_stamp_25 : decode cX11_stamp 25 = .ok (.iconst 2, 1) := by decide +kernel
theorem dX11_stamp_26 : decode cX11_stamp 26 = .ok (.invokevirtual 287, 3) := by decide +kernel
theorem dX11_stamp_29 : decode cX11_stamp 29 = .ok (.ifCond .eq 4, 3) := by decide +kernel
theorem dX11_stamp_32 : decode cX11_stamp 32 = .ok (.return_, 1) := by decide +kernel
theorem dX11_stamp_33 : decode cX11_stamp 33 = .ok (.aload_n 0, 1) := by decide +kernel
theorem dX11_stamp_34 : decode cX11_stamp 34 = .ok (.getfield 24, 3) := by decide +kernel
theorem dX11_stamp_37 : decode cX11_stamp 37 = .ok (.aload_n 0, 1) := by decide +kernel
theorem dX11_stamp_38 : decode cX11_stamp 38 = .ok (.iload_n 1, 1) := by decide +kernel
theorem dX11_stamp_39 : decode cX11_stamp 39 = .ok (.invokevirtual 334, 3) := by decide +kernel
theorem dX11_stamp_42 : decode cX11_stamp 42 = .ok (.iaload, 1) := by decide +kernel
theorem dX11_stamp_43 : decode cX11_stamp 43 = .ok (.istore 5, 2) := by decide +kernel
theorem dX11_stamp_45 : decode cX11_stamp 45 = .ok (.iload_n 2, 1) := by decide +kernel
theorem dX11_stamp_46 : decode cX11_stamp 46 = .ok (.ifCond .ne 21, 3) := by decide +kernel
theorem dX11_stamp_49 : decode cX11_stamp 49 = .ok (.iload_n 3, 1) := by decide +kernel
theorem dX11_stamp_50 : decode cX11_stamp 50 = .ok (.iload 4, 2) := by decide +kernel
theorem dX11_stamp_52 : decode cX11_stamp 52 = .ok (.aload_n 0, 1) := by decide +kernel
theorem dX11_stamp_53 : decode cX11_stamp 53 = .ok (.iload 5, 2) := by decide +kernel
theorem dX11_stamp_55 : decode cX11_stamp 55 = .ok (.bipush 13, 2) := by decide +kernel
theorem dX11_stamp_57 : decode cX11_stamp 57 = .ok (.iadd, 1) := by decide +kernel
theorem dX11_stamp_58 : decode cX11_stamp 58 = .ok (.invokevirtual 79, 3) := by decide +kernel
theorem dX11_stamp_61 : decode cX11_stamp 61 = .ok (.invokestatic 229, 3) := by decide +kernel
theorem dX11_stamp_64 : decode cX11_stamp 64 = .ok (.goto 112, 3) := by decide +kernel
theorem dX11_stamp_67 : decode cX11_stamp 67 = .ok (.iload_n 2, 1) := by decide +kernel
theorem dX11_stamp_68 : decode cX11_stamp 68 = .ok (.iconst 1, 1) := by decide +kernel
theorem dX11_stamp_69 : decode cX11_stamp 69 = .ok (.if_icmp .ne 27, 3) := by decide +kernel
theorem dX11_stamp_72 : decode cX11_stamp 72 = .ok (.iload 4, 2) := by decide +kernel
theorem dX11_stamp_74 : decode cX11_stamp 74 = .ok (.ifCond .ne 18, 3) := by decide +kernel
theorem dX11_stamp_77 : decode cX11_stamp 77 = .ok (.iload_n 3, 1) := by decide +kernel
theorem dX11_stamp_78 : decode cX11_stamp 78 = .ok (.ifCond .eq 10, 3) := by decide +kernel
theorem dX11_stamp_81 : decode cX11_stamp 81 = .ok (.iload_n 3, 1) := by decide +kernel
theorem dX11_stamp_82 : decode cX11_stamp 82 = .ok (.invokestatic 223, 3) := by decide +kernel
theorem dX11_stamp_85 : decode cX11_stamp 85 = .ok (.ifCond .eq 7, 3) := by decide +kernel
theorem dX11_stamp_88 : decode cX11_stamp 88 = .ok (.iconst 1, 1) := by decide +kernel
theorem dX11_stamp_89 : decode cX11_stamp 89 = .ok (.goto 87, 3) := by decide +kernel
theorem dX11_stamp_92 : decode cX11_stamp 92 = .ok (.iconst 0, 1) := by decide +kernel
theorem dX11_stamp_93 : decode cX11_stamp 93 = .ok (.goto 83, 3) := by decide +kernel
theorem dX11_stamp_96 : decode cX11_stamp 96 = .ok (.iload_n 2, 1) := by decide +kernel
theorem dX11_stamp_97 : decode cX11_stamp 97 = .ok (.iconst 2, 1) := by decide +kernel
theorem dX11_stamp_98 : decode cX11_stamp 98 = .ok (.if_icmp .ne 26, 3) := by decide +kernel
theorem dX11_stamp_101 : decode cX11_stamp 101 = .ok (.iload_n 3, 1) := by decide +kernel
theorem dX11_stamp_102 : decode cX11_stamp 102 = .ok (.invokestatic 223, 3) := by decide +kernel
theorem dX11_stamp_105 : decode cX11_stamp 105 = .ok (.ifCond .eq 15, 3) := by decide +kernel
theorem dX11_stamp_108 : decode cX11_stamp 108 = .ok (.iload 4, 2) := by decide +kernel
theorem dX11_stamp_110 : decode cX11_stamp 110 = .ok (.invokestatic 226, 3) := by decide +kernel
theorem dX11_stamp_113 : decode cX11_stamp 113 = .ok (.ifCond .eq 7, 3) := by decide +kernel
theorem dX11_stamp_116 : decode cX11_stamp 116 = .ok (.iconst 1, 1) := by decide +kernel
theorem dX11_stamp_117 : decode cX11_stamp 117 = .ok (.goto 59, 3) := by decide +kernel
theorem dX11_stamp_120 : decode cX11_stamp 120 = .ok (.iconst 0, 1) := by decide +kernel
theorem dX11_stamp_121 : decode cX11_stamp 121 = .ok (.goto 55, 3) := by decide +kernel
theorem dX11_stamp_124 : decode cX11_stamp 124 = .ok (.iload_n 2, 1) := by decide +kernel
theorem dX11_stamp_125 : decode cX11_stamp 125 = .ok (.iconst 3, 1) := by decide +kernel
theorem dX11_stamp_126 : decode cX11_stamp 126 = .ok (.if_icmp .ne 29, 3) := by decide +kernel
theorem dX11_stamp_129 : decode cX11_stamp 129 = .ok (.aload_n 0, 1) := by decide +kernel
theorem dX11_stamp_130 : decode cX11_stamp 130 = .ok (.iload 5, 2) := by decide +kernel
theorem dX11_stamp_132 : decode cX11_stamp 132 = .ok (.bipush 16, 2) := by decide +kernel
theorem dX11_stamp_134 : decode cX11_stamp 134 = .ok (.iadd, 1) := by decide +kernel
theorem dX11_stamp_135 : decode cX11_stamp 135 = .ok (.invokevirtual 83, 3) := by decide +kernel
theorem dX11_stamp_138 : decode cX11_stamp 138 = .ok (.aload_n 0, 1) := by decide +kernel
theorem dX11_stamp_139 : decode cX11_stamp 139 = .ok (.iload 5, 2) := by decide +kernel
theorem dX11_stamp_141 : decode cX11_stamp 141 = .ok (.bipush 14, 2) := by decide +kernel
theorem dX11_stamp_143 : decode cX11_stamp 143 = .ok (.iadd, 1) := by decide +kernel
theorem dX11_stamp_144 : decode cX11_stamp 144 = .ok (.invokevirtual 83, 3) := by decide +kernel
theorem dX11_stamp_147 : decode cX11_stamp 147 = .ok (.iload 4, 2) := by decide +kernel
theorem dX11_stamp_149 : decode cX11_stamp 149 = .ok (.invokestatic 229, 3) := by decide +kernel
theorem dX11_stamp_152 : decode cX11_stamp 152 = .ok (.goto 24, 3) := by decide +kernel
theorem dX11_stamp_155 : decode cX11_stamp 155 = .ok (.iload_n 2, 1) := by decide +kernel
theorem dX11_stamp_156 : decode cX11_stamp 156 = .ok (.iconst 4, 1) := by decide +kernel
theorem dX11_stamp_157 : decode cX11_stamp 157 = .ok (.if_icmp .ne 18, 3) := by decide +kernel
theorem dX11_stamp_160 : decode cX11_stamp 160 = .ok (.iload 4, 2) := by decide +kernel
theorem dX11_stamp_162 : decode cX11_stamp 162 = .ok (.ifCond .eq 9, 3) := by decide +kernel
theorem dX11_stamp_165 : decode cX11_stamp 165 = .ok (.iload 4, 2) := by decide +kernel
theorem dX11_stamp_167 : decode cX11_stamp 167 = .ok (.iconst 1, 1) := by decide +kernel
theorem dX11_stamp_168 : decode cX11_stamp 168 = .ok (.if_icmp .ne 7, 3) := by decide +kernel
theorem dX11_stamp_171 : decode cX11_stamp 171 = .ok (.iconst 1, 1) := by decide +kernel
theorem dX11_stamp_172 : decode cX11_stamp 172 = .ok (.goto 4, 3) := by decide +kernel
theorem dX11_stamp_175 : decode cX11_stamp 175 = .ok (.iconst 0, 1) := by decide +kernel
theorem dX11_stamp_176 : decode cX11_stamp 176 = .ok (.istore 6, 2) := by decide +kernel
theorem dX11_stamp_178 : decode cX11_stamp 178 = .ok (.aload_n 0, 1) := by decide +kernel
theorem dX11_stamp_179 : decode cX11_stamp 179 = .ok (.iload 6, 2) := by decide +kernel
theorem dX11_stamp_181 : decode cX11_stamp 181 = .ok (.ifCond .ne 7, 3) := by decide +kernel
theorem dX11_stamp_184 : decode cX11_stamp 184 = .ok (.iconst 1, 1) := by decide +kernel
theorem dX11_stamp_185 : decode cX11_stamp 185 = .ok (.goto 4, 3) := by decide +kernel
theorem dX11_stamp_188 : decode cX11_stamp 188 = .ok (.iconst 0, 1) := by decide +kernel
theorem dX11_stamp_189 : decode cX11_stamp 189 = .ok (.iconst 3, 1) := by decide +kernel
theorem dX11_stamp_190 : decode cX11_stamp 190 = .ok (.invokevirtual 287, 3) := by decide +kernel
theorem dX11_stamp_193 : decode cX11_stamp 193 = .ok (.ifCond .eq 4, 3) := by decide +kernel
theorem dX11_stamp_196 : decode cX11_stamp 196 = .ok (.return_, 1) := by decide +kernel
theorem dX11_stamp_197 : decode cX11_stamp 197 = .ok (.iload_n 2, 1) := by decide +kernel
theorem dX11_stamp_198 : decode cX11_stamp 198 = .ok (.iconst 3, 1) := by decide +kernel
theorem dX11_stamp_199 : decode cX11_stamp 199 = .ok (.if_icmp .ge 34, 3) := by decide +kernel
theorem dX11_stamp_202 : decode cX11_stamp 202 = .ok (.aload_n 0, 1) := by decide +kernel
theorem dX11_stamp_203 : decode cX11_stamp 203 = .ok (.iload 5, 2) := by decide +kernel
theorem dX11_stamp_205 : decode cX11_stamp 205 = .ok (.iload_n 2, 1) := by decide +kernel
theorem dX11_stamp_206 : decode cX11_stamp 206 = .ok (.ifCond .ne 8, 3) := by decide +kernel
theorem dX11_stamp_209 : decode cX11_stamp 209 = .ok (.bipush 16, 2) := by decide +kernel
theorem dX11_stamp_211 : decode cX11_stamp 211 = .ok (.goto 15, 3) := by decide +kernel
theorem dX11_stamp_214 : decode cX11_stamp 214 = .ok (.iload_n 2, 1) := by decide +kernel
theorem dX11_stamp_215 : decode cX11_stamp 215 = .ok (.iconst 1, 1) := by decide +kernel
theorem dX11_stamp_216 : decode cX11_stamp 216 = .ok (.if_icmp .ne 8, 3) := by decide +kernel
theorem dX11_stamp_219 : decode cX11_stamp 219 = .ok (.bipush 18, 2) := by decide +kernel
theorem dX11_stamp_221 : decode cX11_stamp 221 = .ok (.goto 5, 3) := by decide +kernel
theorem dX11_stamp_224 : decode cX11_stamp 224 = .ok (.bipush 24, 2) := by decide +kernel
theorem dX11_stamp_226 : decode cX11_stamp 226 = .ok (.iadd, 1) := by decide +kernel
theorem dX11_stamp_227 : decode cX11_stamp 227 = .ok (.iconst 2, 1) := by decide +kernel
theorem dX11_stamp_228 : decode cX11_stamp 228 = .ok (.iload_n 3, 1) := by decide +kernel
theorem dX11_stamp_229 : decode cX11_stamp 229 = .ok (.i2l, 1) := by decide +kernel
theorem dX11_stamp_230 : decode cX11_stamp 230 = .ok (.invokevirtual 104, 3) := by decide +kernel
theorem dX11_stamp_233 : decode cX11_stamp 233 = .ok (.iload_n 2, 1) := by decide +kernel
theorem dX11_stamp_234 : decode cX11_stamp 234 = .ok (.ifCond .eq 8, 3) := by decide +kernel
theorem dX11_stamp_237 : decode cX11_stamp 237 = .ok (.iload_n 2, 1) := by decide +kernel
theorem dX11_stamp_238 : decode cX11_stamp 238 = .ok (.iconst 2, 1) := by decide +kernel
theorem dX11_stamp_239 : decode cX11_stamp 239 = .ok (.if_icmp .ne 25, 3) := by decide +kernel
theorem dX11_stamp_242 : decode cX11_stamp 242 = .ok (.aload_n 0, 1) := by decide +kernel
theorem dX11_stamp_243 : decode cX11_stamp 243 = .ok (.iload 5, 2) := by decide +kernel
theorem dX11_stamp_245 : decode cX11_stamp 245 = .ok (.iload_n 2, 1) := by decide +kernel
theorem dX11_stamp_246 : decode cX11_stamp 246 = .ok (.ifCond .ne 8, 3) := by decide +kernel
theorem dX11_stamp_249 : decode cX11_stamp 249 = .ok (.bipush 14, 2) := by decide +kernel
theorem dX11_stamp_251 : decode cX11_stamp 251 = .ok (.goto 5, 3) := by decide +kernel
theorem dX11_stamp_254 : decode cX11_stamp 254 = .ok (.bipush 22, 2) := by decide +kernel
theorem dX11_stamp_256 : decode cX11_stamp 256 = .ok (.iadd, 1) := by decide +kernel
theorem dX11_stamp_257 : decode cX11_stamp 257 = .ok (.iconst 2, 1) := by decide +kernel
theorem dX11_stamp_258 : decode cX11_stamp 258 = .ok (.iload 4, 2) := by decide +kernel
theorem dX11_stamp_260 : decode cX11_stamp 260 = .ok (.i2l, 1) := by decide +kernel
theorem dX11_stamp_261 : decode cX11_stamp 261 = .ok (.invokevirtual 104, 3) := by decide +kernel
theorem dX11_stamp_264 : decode cX11_stamp 264 = .ok (.iload_n 2, 1) := by decide +kernel
theorem dX11_stamp_265 : decode cX11_stamp 265 = .ok (.iconst 3, 1) := by decide +kernel
theorem dX11_stamp_266 : decode cX11_stamp 266 = .ok (.if_icmp .ne 16, 3) := by decide +kernel
theorem dX11_stamp_269 : decode cX11_stamp 269 = .ok (.aload_n 0, 1) := by decide +kernel
theorem dX11_stamp_270 : decode cX11_stamp 270 = .ok (.iload 5, 2) := by decide +kernel
theorem dX11_stamp_272 : decode cX11_stamp 272 = .ok (.bipush 13, 2) := by decide +kernel
theorem dX11_stamp_274 : decode cX11_stamp 274 = .ok (.iadd, 1) := by decide +kernel
theorem dX11_stamp_275 : decode cX11_stamp 275 = .ok (.iconst 1, 1) := by decide +kernel
theorem dX11_stamp_276 : decode cX11_stamp 276 = .ok (.iload 4, 2) := by decide +kernel
theorem dX11_stamp_278 : decode cX11_stamp 278 = .ok (.i2l, 1) := by decide +kernel
theorem dX11_stamp_279 : decode cX11_stamp 279 = .ok (.invokevirtual 104, 3) := by decide +kernel
theorem dX11_stamp_282 : decode cX11_stamp 282 = .ok (.iload_n 2, 1) := by decide +kernel
theorem dX11_stamp_283 : decode cX11_stamp 283 = .ok (.iconst 4, 1) := by decide +kernel
theorem dX11_stamp_284 : decode cX11_stamp 284 = .ok (.if_icmp .ne 30, 3) := by decide +kernel
theorem dX11_stamp_287 : decode cX11_stamp 287 = .ok (.aload_n 0, 1) := by decide +kernel
theorem dX11_stamp_288 : decode cX11_stamp 288 = .ok (.iload 5, 2) := by decide +kernel
theorem dX11_stamp_290 : decode cX11_stamp 290 = .ok (.bipush 11, 2) := by decide +kernel
theorem dX11_stamp_292 : decode cX11_stamp 292 = .ok (.iadd, 1) := by decide +kernel
theorem dX11_stamp_293 : decode cX11_stamp 293 = .ok (.iconst 1, 1) := by decide +kernel
theorem dX11_stamp_294 : decode cX11_stamp 294 = .ok (.aload_n 0, 1) := by decide +kernel
theorem dX11_stamp_295 : decode cX11_stamp 295 = .ok (.iload 5, 2) := by decide +kernel
theorem dX11_stamp_297 : decode cX11_stamp 297 = .ok (.bipush 11, 2) := by decide +kernel
theorem dX11_stamp_299 : decode cX11_stamp 299 = .ok (.iadd, 1) := by decide +kernel
theorem dX11_stamp_300 : decode cX11_stamp 300 = .ok (.invokevirtual 79, 3) := by decide +kernel
theorem dX11_stamp_303 : decode cX11_stamp 303 = .ok (.sipush 254, 3) := by decide +kernel
theorem dX11_stamp_306 : decode cX11_stamp 306 = .ok (.iand, 1) := by decide +kernel
theorem dX11_stamp_307 : decode cX11_stamp 307 = .ok (.iload 4, 2) := by decide +kernel
theorem dX11_stamp_309 : decode cX11_stamp 309 = .ok (.ior, 1) := by decide +kernel
theorem dX11_stamp_310 : decode cX11_stamp 310 = .ok (.i2l, 1) := by decide +kernel
theorem dX11_stamp_311 : decode cX11_stamp 311 = .ok (.invokevirtual 104, 3) := by decide +kernel
theorem dX11_stamp_314 : decode cX11_stamp 314 = .ok (.aload_n 0, 1) := by decide +kernel
theorem dX11_stamp_315 : decode cX11_stamp 315 = .ok (.invokevirtual 278, 3) := by decide +kernel
theorem dX11_stamp_318 : decode cX11_stamp 318 = .ok (.return_, 1) := by decide +kernel
theorem dX2_init_0 : decode cX2_init 0 = .ok (.aload_n 0, 1) := by decide +kernel
theorem dX2_init_1 : decode cX2_init 1 = .ok (.invokespecial 3, 3) := by decide +kernel
theorem dX2_init_4 : decode cX2_init 4 = .ok (.aload_n 0, 1) := by decide +kernel
theorem dX2_init_5 : decode cX2_init 5 = .ok (.bipush 64, 2) := by decide +kernel
theorem dX2_init_7 : decode cX2_init 7 = .ok (.newarray .int, 2) := by decide +kernel
theorem dX2_init_9 : decode cX2_init 9 = .ok (.putfield 9, 3) := by decide +kernel
theorem dX2_init_12 : decode cX2_init 12 = .ok (.aload_n 0, 1) := by decide +kernel
theorem dX2_init_13 : decode cX2_init 13 = .ok (.bipush 64, 2) := by decide +kernel
theorem dX2_init_15 : decode cX2_init 15 = .ok (.newarray .int, 2) := by decide +kernel
theorem dX2_init_17 : decode cX2_init 17 = .ok (.putfield 15, 3) := by decide +kernel
theorem dX2_init_20 : decode cX2_init 20 = .ok (.aload_n 0, 1) := by decide +kernel
theorem dX2_init_21 : decode cX2_init 21 = .ok (.bipush 64, 2) := by decide +kernel
theorem dX2_init_23 : decode cX2_init 23 = .ok (.newarray .int, 2) := by decide +kernel
theorem dX2_init_25 : decode cX2_init 25 = .ok (.putfield 18, 3) := by decide +kernel
theorem dX2_init_28 : decode cX2_init 28 = .ok (.aload_n 0, 1) := by decide +kernel
theorem dX2_init_29 : decode cX2_init 29 = .ok (.aload_n 1, 1) := by decide +kernel
theorem dX2_init_30 : decode cX2_init 30 = .ok (.putfield 21, 3) := by decide +kernel
theorem dX2_init_33 : decode cX2_init 33 = .ok (.aload_n 0, 1) := by decide +kernel
theorem dX2_init_34 : decode cX2_init 34 = .ok (.aload_n 1, 1) := by decide +kernel
theorem dX2_init_35 : decode cX2_init 35 = .ok (.getfield 25, 3) := by decide +kernel
theorem dX2_init_38 : decode cX2_init 38 = .ok (.putfield 31, 3) := by decide +kernel
theorem dX2_init_41 : decode cX2_init 41 = .ok (.aload_n 0, 1) := by decide +kernel
theorem dX2_init_42 : decode cX2_init 42 = .ok (.aload_n 0, 1) := by decide +kernel
theorem dX2_init_43 : decode cX2_init 43 = .ok (.getfield 31, 3) := by decide +kernel
theorem dX2_init_46 : decode cX2_init 46 = .ok (.getfield 32, 3) := by decide +kernel
theorem dX2_init_49 : decode cX2_init 49 = .ok (.iconst 2, 1) := by decide +kernel
theorem dX2_init_50 : decode cX2_init 50 = .ok (.idiv, 1) := by decide +kernel
theorem dX2_init_51 : decode cX2_init 51 = .ok (.newarray .int, 2) := by decide +kernel
theorem dX2_init_53 : decode cX2_init 53 = .ok (.putfield 38, 3) := by decide +kernel
theorem dX2_init_56 : decode cX2_init 56 = .ok (.return_, 1) := by decide +kernel
theorem dX2_openChain_0 : decode cX2_openChain 0 = .ok (.aload_n 0, 1) := by decide +kernel
theorem dX2_openChain_1 : decode cX2_openChain 1 = .ok (.iconst 0, 1) := by decide +kernel
theorem dX2_openChain_2 : decode cX2_openChain 2 = .ok (.putfield 41, 3) := by decide +kernel
theorem dX2_openChain_5 : decode cX2_openChain 5 = .ok (.aload_n 0, 1) := by decide +kernel
theorem dX2_openChain_6 : decode cX2_openChain 6 = .ok (.iconst 0, 1) := by decide +kernel
theorem dX2_openChain_7 : decode cX2_openChain 7 = .ok (.putfield 44, 3) := by decide +kernel
theorem dX2_openChain_10 : decode cX2_openChain 10 = .ok (.aload_n 0, 1) := by decide +kernel
theorem dX2_openChain_11 : decode cX2_openChain 11 = .ok (.iconst 0, 1) := by decide +kernel
theorem dX2_openChain_12 : decode cX2_openChain 12 = .ok (.putfield 47, 3) := by decide +kernel
theorem dX2_openChain_15 : decode cX2_openChain 15 = .ok (.iload_n 1, 1) := by decide +kernel
theorem dX2_openChain_16 : decode cX2_openChain 16 = .ok (.istore_n 2, 1) := by decide +kernel
theorem dX2_openChain_17 : decode cX2_openChain 17 = .ok (.aload_n 0, 1) := by decide +kernel
theorem dX2_openChain_18 : decode cX2_openChain 18 = .ok (.getfield 44, 3) := by decide +kernel
theorem dX2_openChain_21 : decode cX2_openChain 21 = .ok (.aload_n 0, 1) := by decide +kernel
theorem dX2_openChain_22 : decode cX2_openChain 22 = .ok (.getfield 38, 3) := by decide +kernel
theorem dX2_openChain_25 : decode cX2_openChain 25 = .ok (.arraylength, 1) := by decide +kernel
theorem dX2_openChain_26 : decode cX2_openChain 26 = .ok (.if_icmp .ge 58, 3) := by decide +kernel
theorem dX2_openChain_29 : decode cX2_openChain 29 = .ok (.aload_n 0, 1) := by decide +kernel
theorem dX2_openChain_30 : decode cX2_openChain 30 = .ok (.getfield 21, 3) := by decide +kernel
theorem dX2_openChain_33 : decode cX2_openChain 33 = .ok (.iload_n 2, 1) := by decide +kernel
theorem dX2_openChain_34 : decode cX2_openChain 34 = .ok (.invokevirtual 50, 3) := by decide +kernel
theorem dX2_openChain_37 : decode cX2_openChain 37 = .ok (.ifCond .eq 47, 3) := by decide +kernel
theorem dX2_openChain_40 : decode cX2_openChain 40 = .ok (.aload_n 0, 1) := by decide +kernel
theorem dX2_openChain_41 : decode cX2_openChain 41 = .ok (.getfield 38, 3) := by decide +kernel
theorem dX2_openChain_44 : decode cX2_openChain 44 = .ok (.aload_n 0, 1) := by decide +kernel
theorem dX2_openChain_45 : decode cX2_openChain 45 = .ok (.getfield 44, 3) := by decide +kernel
theorem dX2_openChain_48 : decode cX2_openChain 48 = .ok (.aload_n 0, 1) := by decide +kernel
theorem dX2_openChain_49 : decode cX2_openChain 49 = .ok (.getfield 21, 3) := by decide +kernel
theorem dX2_openChain_52 : decode cX2_openChain 52 = .ok (.iload_n 2, 1) := by decide +kernel
theorem dX2_openChain_53 : decode cX2_openChain 53 = .ok (.invokevirtual 54, 3) := by decide +kernel
theorem dX2_openChain_56 : decode cX2_openChain 56 = .ok (.iastore, 1) := by decide +kernel
theorem dX2_openChain_57 : decode cX2_openChain 57 = .ok (.aload_n 0, 1) := by decide +kernel
theorem dX2_openChain_58 : decode cX2_openChain 58 = .ok (.dup, 1) := by decide +kernel
theorem dX2_openChain_59 : decode cX2_openChain 59 = .ok (.getfield 44, 3) := by decide +kernel
theorem dX2_openChain_62 : decode cX2_openChain 62 = .ok (.iconst 1, 1) := by decide +kernel
theorem dX2_openChain_63 : decode cX2_openChain 63 = .ok (.iadd, 1) := by decide +kernel
theorem dX2_openChain_64 : decode cX2_openChain 64 = .ok (.putfield 44, 3) := by decide +kernel
theorem dX2_openChain_67 : decode cX2_openChain 67 = .ok (.aload_n 0, 1) := by decide +kernel
theorem dX2_openChain_68 : decode cX2_openChain 68 = .ok (.iload_n 2, 1) := by decide +kernel
theorem dX2_openChain_69 : decode cX2_openChain 69 = .ok (.putfield 47, 3) := by decide +kernel
theorem dX2_openChain_72 : decode cX2_openChain 72 = .ok (.aload_n 0, 1) := by decide +kernel
theorem dX2_openChain_73 : decode cX2_openChain 73 = .ok (.getfield 21, 3) := by decide +kernel
theorem dX2_openChain_76 : decode cX2_openChain 76 = .ok (.iload_n 2, 1) := by decide +kernel
theorem dX2_openChain_77 : decode cX2_openChain 77 = .ok (.invokevirtual 58, 3) := by decide +kernel
theorem dX2_openChain_80 : decode cX2_openChain 80 = .ok (.istore_n 2, 1) := by decide +kernel
theorem dX2_openChain_81 : decode cX2_openChain 81 = .ok (.goto (-64), 3) := by decide +kernel
theorem dX2_openChain_84 : decode cX2_openChain 84 = .ok (.aload_n 0, 1) := by decide +kernel
theorem dX2_openChain_85 : decode cX2_openChain 85 = .ok (.aload_n 0, 1) := by decide +kernel
theorem dX2_openChain_86 : decode cX2_openChain 86 = .ok (.getfield 21, 3) := by decide +kernel
theorem dX2_openChain_89 : decode cX2_openChain 89 = .ok (.invokevirtual 61, 3) := by decide +kernel
theorem dX2_openChain_92 : decode cX2_openChain 92 = .ok (.putfield 65, 3) := by decide +kernel
theorem dX2_openChain_95 : decode cX2_openChain 95 = .ok (.aload_n 0, 1) := by decide +kernel
theorem dX2_openChain_96 : decode cX2_openChain 96 = .ok (.aload_n 0, 1) := by decide +kernel
theorem dX2_openChain_97 : decode cX2_openChain 97 = .ok (.getfield 44, 3) := by decide +kernel
theorem dX2_openChain_100 : decode cX2_openChain 100 = .ok (.aload_n 0, 1) := by decide +kernel
theorem dX2_openChain_101 : decode cX2_openChain 101 = .ok (.getfield 65, 3) := by decide +kernel
theorem dX2_openChain_104 : decode cX2_openChain 104 = .ok (.ishl, 1) := by decide +kernel
theorem dX2_openChain_105 : decode cX2_openChain 105 = .ok (.putfield 67, 3) := by decide +kernel
theorem dX2_openChain_108 : decode cX2_openChain 108 = .ok (.aload_n 0, 1) := by decide +kernel
theorem dX2_openChain_109 : decode cX2_openChain 109 = .ok (.aload_n 0, 1) := by decide +kernel
theorem dX2_openChain_110 : decode cX2_openChain 110 = .ok (.getfield 67, 3) := by decide +kernel
theorem dX2_openChain_113 : decode cX2_openChain 113 = .ok (.putfield 70, 3) := by decide +kernel
theorem dX2_openChain_116 : decode cX2_openChain 116 = .ok (.return_, 1) := by decide +kernel
theorem dX2_list_0 : decode cX2_list 0 = .ok (.aload_n 0, 1) := by decide +kernel
theorem dX2_list_1 : decode cX2_list 1 = .ok (.iload_n 1, 1) := by decide +kernel
theorem dX2_list_2 : decode cX2_list 2 = .ok (.invokevirtual 73, 3) := by decide +kernel
theorem dX2_list_5 : decode cX2_list 5 = .ok (.iconst 0, 1) := by decide +kernel
theorem dX2_list_6 : decode cX2_list 6 = .ok (.istore_n 2, 1) := by decide +kernel
theorem dX2_list_7 : decode cX2_list 7 = .ok (.iconst 0, 1) := by decide +kernel
theorem dX2_list_8 : decode cX2_list 8 = .ok (.istore_n 3, 1) := by decide +kernel
theorem dX2_list_9 : decode cX2_list 9 = .ok (.iload_n 3, 1) := by decide +kernel
theorem dX2_list_10 : decode cX2_list 10 = .ok (.aload_n 0, 1) := by decide +kernel
theorem dX2_list_11 : decode cX2_list 11 = .ok (.getfield 67, 3) := by decide +kernel
theorem dX2_list_14 : decode cX2_list 14 = .ok (.if_icmp .ge 103, 3) := by decide +kernel
theorem dX2_list_17 : decode cX2_list 17 = .ok (.aload_n 0, 1) := by decide +kernel
theorem dX2_list_18 : decode cX2_list 18 = .ok (.iload_n 3, 1) := by decide +kernel
theorem dX2_list_19 : decode cX2_list 19 = .ok (.invokevirtual 77, 3) := by decide +kernel
theorem dX2_list_22 : decode cX2_list 22 = .ok (.istore 4, 2) := by decide +kernel
theorem dX2_list_24 : decode cX2_list 24 = .ok (.aload_n 0, 1) := by decide +kernel
theorem dX2_list_25 : decode cX2_list 25 = .ok (.getfield 31, 3) := by decide +kernel
theorem dX2_list_28 : decode cX2_list 28 = .ok (.iload 4, 2) := by decide +kernel
theorem dX2_list_30 : decode cX2_list 30 = .ok (.invokevirtual 80, 3) := by decide +kernel
theorem dX2_list_33 : decode cX2_list 33 = .ok (.istore 5, 2) := by decide +kernel
theorem dX2_list_35 : decode cX2_list 35 = .ok (.aload_n 0, 1) := by decide +kernel
theorem dX2_list_36 : decode cX2_list 36 = .ok (.getfield 31, 3) := by decide +kernel
theorem dX2_list_39 : decode cX2_list 39 = .ok (.iload 4, 2) := by decide +kernel
theorem dX2_list_41 : decode cX2_list 41 = .ok (.bipush 11, 2) := by decide +kernel
theorem dX2_list_43 : decode cX2_list 43 = .ok (.iadd, 1) := by decide +kernel
theorem dX2_list_44 : decode cX2_list 44 = .ok (.invokevirtual 80, 3) := by decide +kernel
theorem dX2_list_47 : decode cX2_list 47 = .ok (.istore 6, 2) := by decide +kernel
theorem dX2_list_49 : decode cX2_list 49 = .ok (.iload 5, 2) := by decide +kernel
theorem dX2_list_51 : decode cX2_list 51 = .ok (.ifCond .ne 9, 3) := by decide +kernel
theorem dX2_list_54 : decode cX2_list 54 = .ok (.aload_n 0, 1) := by decide +kernel
theorem dX2_list_55 : decode cX2_list 55 = .ok (.iload_n 3, 1) := by decide +kernel
theorem dX2_list_56 : decode cX2_list 56 = .ok (.putfield 70, 3) := by decide +kernel
theorem dX2_list_59 : decode cX2_list 59 = .ok (.return_, 1) := by decide +kernel
theorem dX2_list_60 : decode cX2_list 60 = .ok (.iload 5, 2) := by decide +kernel
theorem dX2_list_62 : decode cX2_list 62 = .ok (.sipush 229, 3) := by decide +kernel
theorem dX2_list_65 : decode cX2_list 65 = .ok (.if_icmp .ne 6, 3) := by decide +kernel
theorem dX2_list_68 : decode cX2_list 68 = .ok (.goto 43, 3) := by decide +kernel
theorem dX2_list_71 : decode cX2_list 71 = .ok (.iload 6, 2) := by decide +kernel
theorem dX2_list_73 : decode cX2_list 73 = .ok (.bipush 63, 2) := by decide +kernel
theorem dX2_list_75 : decode cX2_list 75 = .ok (.iand, 1) := by decide +kernel
theorem dX2_list_76 : decode cX2_list 76 = .ok (.bipush 15, 2) := by decide +kernel
theorem dX2_list_78 : decode cX2_list 78 = .ok (.if_icmp .ne 9, 3) := by decide +kernel
theorem dX2_list_81 : decode cX2_list 81 = .ok (.iinc 2 1, 3) := by decide +kernel
theorem dX2_list_84 : decode cX2_list 84 = .ok (.goto 27, 3) := by decide +kernel
theorem dX2_list_87 : decode cX2_list 87 = .ok (.iload 6, 2) := by decide +kernel
theorem dX2_list_89 : decode cX2_list 89 = .ok (.bipush 8, 2) := by decide +kernel
theorem dX2_list_91 : decode cX2_list 91 = .ok (.iand, 1) := by decide +kernel
theorem dX2_list_92 : decode cX2_list 92 = .ok (.ifCond .ne 17, 3) := by decide +kernel
theorem dX2_list_95 : decode cX2_list 95 = .ok (.iload 5, 2) := by decide +kernel
theorem dX2_list_97 : decode cX2_list 97 = .ok (.bipush 46, 2) := by decide +kernel
theorem dX2_list_99 : decode cX2_list 99 = .ok (.if_icmp .eq 10, 3) := by decide +kernel
theorem dX2_list_102 : decode cX2_list 102 = .ok (.aload_n 0, 1) := by decide +kernel
theorem dX2_list_103 : decode cX2_list 103 = .ok (.iload_n 3, 1) := by decide +kernel
theorem dX2_list_104 : decode cX2_list 104 = .ok (.iload_n 2, 1) := by decide +kernel
theorem dX2_list_105 : decode cX2_list 105 = .ok (.iconst 0, 1) := by decide +kernel
theorem dX2_list_106 : decode cX2_list 106 = .ok (.invokevirtual 83, 3) := by decide +kernel
theorem dX2_list_109 : decode cX2_list 109 = .ok (.iconst 0, 1) := by decide +kernel
theorem dX2_list_110 : decode cX2_list 110 = .ok (.istore_n 2, 1) := by decide +kernel
theorem dX2_list_111 : decode cX2_list 111 = .ok (.iinc 3 1, 3) := by decide +kernel
theorem dX2_list_114 : decode cX2_list 114 = .ok (.goto (-105), 3) := by decide +kernel
theorem dX2_list_117 : decode cX2_list 117 = .ok (.return_, 1) := by decide +kernel
theorem dX2_add_0 : decode cX2_add 0 = .ok (.aload_n 0, 1) := by decide +kernel
theorem dX2_add_1 : decode cX2_add 1 = .ok (.getfield 41, 3) := by decide +kernel
theorem dX2_add_4 : decode cX2_add 4 = .ok (.aload_n 0, 1) := by decide +kernel
theorem dX2_add_5 : decode cX2_add 5 = .ok (.getfield 9, 3) := by decide +kernel
theorem dX2_add_8 : decode cX2_add 8 = .ok (.arraylength, 1) := by decide +kernel
theorem dX2_add_9 : decode cX2_add 9 = .ok (.if_icmp .ne 54, 3) := by decide +kernel
theorem dX2_add_12 : decode cX2_add 12 = .ok (.aload_n 0, 1) := by decide +kernel
theorem dX2_add_13 : decode cX2_add 13 = .ok (.aload_n 0, 1) := by decide +kernel
theorem dX2_add_14 : decode cX2_add 14 = .ok (.getfield 9, 3) := by decide +kernel
theorem dX2_add_17 : decode cX2_add 17 = .ok (.iconst 2, 1) := by decide +kernel
theorem dX2_add_18 : decode cX2_add 18 = .ok (.aload_n 0, 1) := by decide +kernel
theorem dX2_add_19 : decode cX2_add 19 = .ok (.getfield 41, 3) := by decide +kernel
theorem dX2_add_22 : decode cX2_add 22 = .ok (.imul, 1) := by decide +kernel
theorem dX2_add_23 : decode cX2_add 23 = .ok (.invokestatic 87, 3) := by decide +kernel
theorem dX2_add_26 : decode cX2_add 26 = .ok (.putfield 9, 3) := by decide +kernel
theorem dX2_add_29 : decode cX2_add 29 = .ok (.aload_n 0, 1) := by decide +kernel
theorem dX2_add_30 : decode cX2_add 30 = .ok (.aload_n 0, 1) := by decide +kernel
theorem dX2_add_31 : decode cX2_add 31 = .ok (.getfield 15, 3) := by decide +kernel
theorem dX2_add_34 : decode cX2_add 34 = .ok (.iconst 2, 1) := by decide +kernel
theorem dX2_add_35 : decode cX2_add 35 = .ok (.aload_n 0, 1) := by decide +kernel
theorem dX2_add_36 : decode cX2_add 36 = .ok (.getfield 41, 3) := by decide +kernel
theorem dX2_add_39 : decode cX2_add 39 = .ok (.imul, 1) := by decide +kernel
theorem dX2_add_40 : decode cX2_add 40 = .ok (.invokestatic 87, 3) := by decide +kernel
theorem dX2_add_43 : decode cX2_add 43 = .ok (.putfield 15, 3) := by decide +kernel
theorem dX2_add_46 : decode cX2_add 46 = .ok (.aload_n 0, 1) := by decide +kernel
theorem dX2_add_47 : decode cX2_add 47 = .ok (.aload_n 0, 1) := by decide +kernel
theorem dX2_add_48 : decode cX2_add 48 = .ok (.getfield 18, 3) := by decide +kernel
theorem dX2_add_51 : decode cX2_add 51 = .ok (.iconst 2, 1) := by decide +kernel
theorem dX2_add_52 : decode cX2_add 52 = .ok (.aload_n 0, 1) := by decide +kernel
theorem dX2_add_53 : decode cX2_add 53 = .ok (.getfield 41, 3) := by decide +kernel
theorem dX2_add_56 : decode cX2_add 56 = .ok (.imul, 1) := by decide +kernel
theorem dX2_add_57 : decode cX2_add 57 = .ok (.invokestatic 87, 3) := by decide +kernel
theorem dX2_add_60 : decode cX2_add 60 = .ok (.putfield 18, 3) := by decide +kernel
theorem dX2_add_63 : decode cX2_add 63 = .ok (.aload_n 0, 1) := by decide +kernel
theorem dX2_add_64 : decode cX2_add 64 = .ok (.getfield 9, 3) := by decide +kernel
theorem dX2_add_67 : decode cX2_add 67 = .ok (.aload_n 0, 1) := by decide +kernel
theorem dX2_add_68 : decode cX2_add 68 = .ok (.getfield 41, 3) := by decide +kernel
theorem dX2_add_71 : decode cX2_add 71 = .ok (.iload_n 1, 1) := by decide +kernel
theorem dX2_add_72 : decode cX2_add 72 = .ok (.iastore, 1) := by decide +kernel
theorem dX2_add_73 : decode cX2_add 73 = .ok (.aload_n 0, 1) := by decide +kernel
theorem dX2_add_74 : decode cX2_add 74 = .ok (.getfield 15, 3) := by decide +kernel
theorem dX2_add_77 : decode cX2_add 77 = .ok (.aload_n 0, 1) := by decide +kernel
theorem dX2_add_78 : decode cX2_add 78 = .ok (.getfield 41, 3) := by decide +kernel
theorem dX2_add_81 : decode cX2_add 81 = .ok (.iload_n 2, 1) := by decide +kernel
theorem dX2_add_82 : decode cX2_add 82 = .ok (.iastore, 1) := by decide +kernel
theorem dX2_add_83 : decode cX2_add 83 = .ok (.aload_n 0, 1) := by decide +kernel
theorem dX2_add_84 : decode cX2_add 84 = .ok (.getfield 18, 3) := by decide +kernel
theorem dX2_add_87 : decode cX2_add 87 = .ok (.aload_n 0, 1) := by decide +kernel
theorem dX2_add_88 : decode cX2_add 88 = .ok (.getfield 41, 3) := by decide +kernel
theorem dX2_add_91 : decode cX2_add 91 = .ok (.iload_n 3, 1) := by decide +kernel
theorem dX2_add_92 : decode cX2_add 92 = .ok (.iastore, 1) := by decide +kernel
theorem dX2_add_93 : decode cX2_add 93 = .ok (.aload_n 0, 1) := by decide +kernel
theorem dX2_add_94 : decode cX2_add 94 = .ok (.dup, 1) := by decide +kernel
theorem dX2_add_95 : decode cX2_add 95 = .ok (.getfield 41, 3) := by decide +kernel
theorem dX2_add_98 : decode cX2_add 98 = .ok (.iconst 1, 1) := by decide +kernel
theorem dX2_add_99 : decode cX2_add 99 = .ok (.iadd, 1) := by decide +kernel
theorem dX2_add_100 : decode cX2_add 100 = .ok (.putfield 41, 3) := by decide +kernel
theorem dX2_add_103 : decode cX2_add 103 = .ok (.return_, 1) := by decide +kernel
theorem dX2_slotAddress_0 : decode cX2_slotAddress 0 = .ok (.iload_n 1, 1) := by decide +kernel
theorem dX2_slotAddress_1 : decode cX2_slotAddress 1 = .ok (.aload_n 0, 1) := by decide +kernel
theorem dX2_slotAddress_2 : decode cX2_slotAddress 2 = .ok (.getfield 65, 3) := by decide +kernel
theorem dX2_slotAddress_5 : decode cX2_slotAddress 5 = .ok (.ishr, 1) := by decide +kernel
theorem dX2_slotAddress_6 : decode cX2_slotAddress 6 = .ok (.istore_n 2, 1) := by decide +kernel
theorem dX2_slotAddress_7 : decode cX2_slotAddress 7 = .ok (.iload_n 2, 1) := by decide +kernel
theorem dX2_slotAddress_8 : decode cX2_slotAddress 8 = .ok (.ifCond .lt 11, 3) := by decide +kernel
theorem dX2_slotAddress_11 : decode cX2_slotAddress 11 = .ok (.iload_n 2, 1) := by decide +kernel
theorem dX2_slotAddress_12 : decode cX2_slotAddress 12 = .ok (.aload_n 0, 1) := by decide +kernel
theorem dX2_slotAddress_13 : decode cX2_slotAddress 13 = .ok (.getfield 44, 3) := by decide +kernel
theorem dX2_slotAddress_16 : decode cX2_slotAddress 16 = .ok (.if_icmp .lt 5, 3) := by decide +kernel
theorem dX2_slotAddress_19 : decode cX2_slotAddress 19 = .ok (.iconst (-1), 1) := by decide +kernel
theorem dX2_slotAddress_20 : decode cX2_slotAddress 20 = .ok (.ireturn, 1) := by decide +kernel
theorem dX2_slotAddress_21 : decode cX2_slotAddress 21 = .ok (.aload_n 0, 1) := by decide +kernel
theorem dX2_slotAddress_22 : decode cX2_slotAddress 22 = .ok (.getfield 38, 3) := by decide +kernel
theorem dX2_slotAddress_25 : decode cX2_slotAddress 25 = .ok (.iload_n 2, 1) := by decide +kernel
theorem dX2_slotAddress_26 : decode cX2_slotAddress 26 = .ok (.iaload, 1) := by decide +kernel
theorem dX2_slotAddress_27 : decode cX2_slotAddress 27 = .ok (.iload_n 1, 1) := by decide +kernel
theorem dX2_slotAddress_28 : decode cX2_slotAddress 28 = .ok (.iload_n 2, 1) := by decide +kernel
theorem dX2_slotAddress_29 : decode cX2_slotAddress 29 = .ok (.aload_n 0, 1) := by decide +kernel
theorem dX2_slotAddress_30 : decode cX2_slotAddress 30 = .ok (.getfield 65, 3) := by decide +kernel
theorem dX2_slotAddress_33 : decode cX2_slotAddress 33 = .ok (.ishl, 1) := by decide +kernel
theorem dX2_slotAddress_34 : decode cX2_slotAddress 34 = .ok (.isub, 1) := by decide +kernel
theorem dX2_slotAddress_35 : decode cX2_slotAddress 35 = .ok (.bipush 32, 2) := by decide +kernel
theorem dX2_slotAddress_37 : decode cX2_slotAddress 37 = .ok (.imul, 1) := by decide +kernel
theorem dX2_slotAddress_38 : decode cX2_slotAddress 38 = .ok (.iadd, 1) := by decide +kernel
theorem dX2_slotAddress_39 : decode cX2_slotAddress 39 = .ok (.ireturn, 1) := by decide +kernel
theorem dX2_slotOf_0 : decode cX2_slotOf 0 = .ok (.iload_n 1, 1) := by decide +kernel
theorem dX2_slotOf_1 : decode cX2_slotOf 1 = .ok (.ifCond .lt 11, 3) := by decide +kernel
theorem dX2_slotOf_4 : decode cX2_slotOf 4 = .ok (.iload_n 1, 1) := by decide +kernel
theorem dX2_slotOf_5 : decode cX2_slotOf 5 = .ok (.aload_n 0, 1) := by decide +kernel
theorem dX2_slotOf_6 : decode cX2_slotOf 6 = .ok (.getfield 41, 3) := by decide +kernel
theorem dX2_slotOf_9 : decode cX2_slotOf 9 = .ok (.if_icmp .lt 7, 3) := by decide +kernel
theorem dX2_slotOf_12 : decode cX2_slotOf 12 = .ok (.iconst (-1), 1) := by decide +kernel
theorem dX2_slotOf_13 : decode cX2_slotOf 13 = .ok (.goto 9, 3) := by decide +kernel
theorem dX2_slotOf_16 : decode cX2_slotOf 16 = .ok (.aload_n 0, 1) := by decide +kernel
theorem dX2_slotOf_17 : decode cX2_slotOf 17 = .ok (.getfield 9, 3) := by decide +kernel
theorem dX2_slotOf_20 : decode cX2_slotOf 20 = .ok (.iload_n 1, 1) := by decide +kernel
theorem dX2_slotOf_21 : decode cX2_slotOf 21 = .ok (.iaload, 1) := by decide +kernel
theorem dX2_slotOf_22 : decode cX2_slotOf 22 = .ok (.ireturn, 1) := by decide +kernel
theorem dX2_partsOf_0 : decode cX2_partsOf 0 = .ok (.iload_n 1, 1) := by decide +kernel
theorem dX2_partsOf_1 : decode cX2_partsOf 1 = .ok (.ifCond .lt 11, 3) := by decide +kernel
theorem dX2_partsOf_4 : decode cX2_partsOf 4 = .ok (.iload_n 1, 1) := by decide +kernel
theorem dX2_partsOf_5 : decode cX2_partsOf 5 = .ok (.aload_n 0, 1) := by decide +kernel
theorem dX2_partsOf_6 : decode cX2_partsOf 6 = .ok (.getfield 41, 3) := by decide +kernel
theorem dX2_partsOf_9 : decode cX2_partsOf 9 = .ok (.if_icmp .lt 7, 3) := by decide +kernel
theorem dX2_partsOf_12 : decode cX2_partsOf 12 = .ok (.iconst 0, 1) := by decide +kernel
theorem dX2_partsOf_13 : decode cX2_partsOf 13 = .ok (.goto 9, 3) := by decide +kernel
theorem dX2_partsOf_16 : decode cX2_partsOf 16 = .ok (.aload_n 0, 1) := by decide +kernel
theorem dX2_partsOf_17 : decode cX2_partsOf 17 = .ok (.getfield 15, 3) := by decide +kernel
theorem dX2_partsOf_20 : decode cX2_partsOf 20 = .ok (.iload_n 1, 1) := by decide +kernel
theorem dX2_partsOf_21 : decode cX2_partsOf 21 = .ok (.iaload, 1) := by decide +kernel
theorem dX2_partsOf_22 : decode cX2_partsOf 22 = .ok (.ireturn, 1) := by decide +kernel
theorem dX2_hashOf_0 : decode cX2_hashOf 0 = .ok (.iload_n 1, 1) := by decide +kernel
theorem dX2_hashOf_1 : decode cX2_hashOf 1 = .ok (.ifCond .lt 11, 3) := by decide +kernel
theorem dX2_hashOf_4 : decode cX2_hashOf 4 = .ok (.iload_n 1, 1) := by decide +kernel
theorem dX2_hashOf_5 : decode cX2_hashOf 5 = .ok (.aload_n 0, 1) := by decide +kernel
theorem dX2_hashOf_6 : decode cX2_hashOf 6 = .ok (.getfield 41, 3) := by decide +kernel
theorem dX2_hashOf_9 : decode cX2_hashOf 9 = .ok (.if_icmp .lt 7, 3) := by decide +kernel
theorem dX2_hashOf_12 : decode cX2_hashOf 12 = .ok (.iconst 0, 1) := by decide +kernel
theorem dX2_hashOf_13 : decode cX2_hashOf 13 = .ok (.goto 9, 3) := by decide +kernel
theorem dX2_hashOf_16 : decode cX2_hashOf 16 = .ok (.aload_n 0, 1) := by decide +kernel
theorem dX2_hashOf_17 : decode cX2_hashOf 17 = .ok (.getfield 18, 3) := by decide +kernel
theorem dX2_hashOf_20 : decode cX2_hashOf 20 = .ok (.iload_n 1, 1) := by decide +kernel
theorem dX2_hashOf_21 : decode cX2_hashOf 21 = .ok (.iaload, 1) := by decide +kernel
theorem dX2_hashOf_22 : decode cX2_hashOf 22 = .ok (.ireturn, 1) := by decide +kernel
theorem dX2_hasShort_0 : decode cX2_hasShort 0 = .ok (.iconst 0, 1) := by decide +kernel
theorem dX2_hasShort_1 : decode cX2_hasShort 1 = .ok (.istore_n 2, 1) := by decide +kernel
theorem dX2_hasShort_2 : decode cX2_hasShort 2 = .ok (.iload_n 2, 1) := by decide +kernel
theorem dX2_hasShort_3 : decode cX2_hasShort 3 = .ok (.aload_n 0, 1) := by decide +kernel
theorem dX2_hasShort_4 : decode cX2_hasShort 4 = .ok (.getfield 41, 3) := by decide +kernel
theorem dX2_hasShort_7 : decode cX2_hasShort 7 = .ok (.if_icmp .ge 32, 3) := by decide +kernel
theorem dX2_hasShort_10 : decode cX2_hasShort 10 = .ok (.aload_n 1, 1) := by decide +kernel
theorem dX2_hasShort_11 : decode cX2_hasShort 11 = .ok (.aload_n 0, 1) := by decide +kernel
theorem dX2_hasShort_12 : decode cX2_hasShort 12 = .ok (.getfield 31, 3) := by decide +kernel
theorem dX2_hasShort_15 : decode cX2_hasShort 15 = .ok (.aload_n 0, 1) := by decide +kernel
theorem dX2_hasShort_16 : decode cX2_hasShort 16 = .ok (.aload_n 0, 1) := by decide +kernel
theorem dX2_hasShort_17 : decode cX2_hasShort 17 = .ok (.getfield 9, 3) := by decide +kernel
theorem dX2_hasShort_20 : decode cX2_hasShort 20 = .ok (.iload_n 2, 1) := by decide +kernel
theorem dX2_hasShort_21 : decode cX2_hasShort 21 = .ok (.iaload, 1) := by decide +kernel
theorem dX2_hasShort_22 : decode cX2_hasShort 22 = .ok (.invokevirtual 77, 3) := by decide +kernel
theorem dX2_hasShort_25 : decode cX2_hasShort 25 = .ok (.invokevirtual 93, 3) := by decide +kernel
theorem dX2_hasShort_28 : decode cX2_hasShort 28 = .ok (.ifCond .eq 5, 3) := by decide +kernel
theorem dX2_hasShort_31 : decode cX2_hasShort 31 = .ok (.iconst 1, 1) := by decide +kernel
theorem dX2_hasShort_32 : decode cX2_hasShort 32 = .ok (.ireturn, 1) := by decide +kernel
theorem dX2_hasShort_33 : decode cX2_hasShort 33 = .ok (.iinc 2 1, 3) := by decide +kernel
theorem dX2_hasShort_36 : decode cX2_hasShort 36 = .ok (.goto (-34), 3) := by decide +kernel
theorem dX2_hasShort_39 : decode cX2_hasShort 39 = .ok (.iconst 0, 1) := by decide +kernel
theorem dX2_hasShort_40 : decode cX2_hasShort 40 = .ok (.ireturn, 1) := by decide +kernel
theorem dX2_itemsBefore_0 : decode cX2_itemsBefore 0 = .ok (.iconst 0, 1) := by decide +kernel
theorem dX2_itemsBefore_1 : decode cX2_itemsBefore 1 = .ok (.istore_n 2, 1) := by decide +kernel
theorem dX2_itemsBefore_2 : decode cX2_itemsBefore 2 = .ok (.iconst 0, 1) := by decide +kernel
theorem dX2_itemsBefore_3 : decode cX2_itemsBefore 3 = .ok (.istore_n 3, 1) := by decide +kernel
theorem dX2_itemsBefore_4 : decode cX2_itemsBefore 4 = .ok (.iload_n 3, 1) := by decide +kernel
theorem dX2_itemsBefore_5 : decode cX2_itemsBefore 5 = .ok (.aload_n 0, 1) := by decide +kernel
theorem dX2_itemsBefore_6 : decode cX2_itemsBefore 6 = .ok (.getfield 41, 3) := by decide +kernel
theorem dX2_itemsBefore_9 : decode cX2_itemsBefore 9 = .ok (.if_icmp .ge 22, 3) := by decide +kernel
theorem dX2_itemsBefore_12 : decode cX2_itemsBefore 12 = .ok (.aload_n 0, 1) := by decide +kernel
theorem dX2_itemsBefore_13 : decode cX2_itemsBefore 13 = .ok (.getfield 9, 3) := by decide +kernel
theorem dX2_itemsBefore_16 : decode cX2_itemsBefore 16 = .ok (.iload_n 3, 1) := by decide +kernel
theorem dX2_itemsBefore_17 : decode cX2_itemsBefore 17 = .ok (.iaload, 1) := by decide +kernel
theorem dX2_itemsBefore_18 : decode cX2_itemsBefore 18 = .ok (.iload_n 1, 1) := by decide +kernel
theorem dX2_itemsBefore_19 : decode cX2_itemsBefore 19 = .ok (.if_icmp .ge 6, 3) := by decide +kernel
theorem dX2_itemsBefore_22 : decode cX2_itemsBefore 22 = .ok (.iinc 2 1, 3) := by decide +kernel
theorem dX2_itemsBefore_25 : decode cX2_itemsBefore 25 = .ok (.iinc 3 1, 3) := by decide +kernel
theorem dX2_itemsBefore_28 : decode cX2_itemsBefore 28 = .ok (.goto (-24), 3) := by decide +kernel
theorem dX2_itemsBefore_31 : decode cX2_itemsBefore 31 = .ok (.iload_n 2, 1) := by decide +kernel
theorem dX2_itemsBefore_32 : decode cX2_itemsBefore 32 = .ok (.ireturn, 1) := by decide +kernel
theorem dX2_roomFor_0 : decode cX2_roomFor 0 = .ok (.iconst 0, 1) := by decide +kernel
theorem dX2_roomFor_1 : decode cX2_roomFor 1 = .ok (.istore_n 2, 1) := by decide +kernel
theorem dX2_roomFor_2 : decode cX2_roomFor 2 = .ok (.iconst 0, 1) := by decide +kernel
theorem dX2_roomFor_3 : decode cX2_roomFor 3 = .ok (.istore_n 3, 1) := by decide +kernel
theorem dX2_roomFor_4 : decode cX2_roomFor 4 = .ok (.iload_n 3, 1) := by decide +kernel
theorem dX2_roomFor_5 : decode cX2_roomFor 5 = .ok (.aload_n 0, 1) := by decide +kernel
theorem dX2_roomFor_6 : decode cX2_roomFor 6 = .ok (.getfield 67, 3) := by decide +kernel
theorem dX2_roomFor_9 : decode cX2_roomFor 9 = .ok (.if_icmp .ge 66, 3) := by decide +kernel
theorem dX2_roomFor_12 : decode cX2_roomFor 12 = .ok (.iload_n 3, 1) := by decide +kernel
theorem dX2_roomFor_13 : decode cX2_roomFor 13 = .ok (.aload_n 0, 1) := by decide +kernel
theorem dX2_roomFor_14 : decode cX2_roomFor 14 = .ok (.getfield 70, 3) := by decide +kernel
theorem dX2_roomFor_17 : decode cX2_roomFor 17 = .ok (.if_icmp .ge 25, 3) := by decide +kernel
theorem dX2_roomFor_20 : decode cX2_roomFor 20 = .ok (.aload_n 0, 1) := by decide +kernel
theorem dX2_roomFor_21 : decode cX2_roomFor 21 = .ok (.getfield 31, 3) := by decide +kernel
theorem dX2_roomFor_24 : decode cX2_roomFor 24 = .ok (.aload_n 0, 1) := by decide +kernel
theorem dX2_roomFor_25 : decode cX2_roomFor 25 = .ok (.iload_n 3, 1) := by decide +kernel
theorem dX2_roomFor_26 : decode cX2_roomFor 26 = .ok (.invokevirtual 77, 3) := by decide +kernel
theorem dX2_roomFor_29 : decode cX2_roomFor 29 = .ok (.invokevirtual 80, 3) := by decide +kernel
theorem dX2_roomFor_32 : decode cX2_roomFor 32 = .ok (.sipush 229, 3) := by decide +kernel
theorem dX2_roomFor_35 : decode cX2_roomFor 35 = .ok (.if_icmp .eq 7, 3) := by decide +kernel
theorem dX2_roomFor_38 : decode cX2_roomFor 38 = .ok (.iconst 1, 1) := by decide +kernel
theorem dX2_roomFor_39 : decode cX2_roomFor 39 = .ok (.goto 4, 3) := by decide +kernel
theorem dX2_roomFor_42 : decode cX2_roomFor 42 = .ok (.iconst 0, 1) := by decide +kernel
theorem dX2_roomFor_43 : decode cX2_roomFor 43 = .ok (.istore 4, 2) := by decide +kernel
theorem dX2_roomFor_45 : decode cX2_roomFor 45 = .ok (.iload 4, 2) := by decide +kernel
theorem dX2_roomFor_47 : decode cX2_roomFor 47 = .ok (.ifCond .eq 7, 3) := by decide +kernel
theorem dX2_roomFor_50 : decode cX2_roomFor 50 = .ok (.iconst 0, 1) := by decide +kernel
theorem dX2_roomFor_51 : decode cX2_roomFor 51 = .ok (.goto 6, 3) := by decide +kernel
theorem dX2_roomFor_54 : decode cX2_roomFor 54 = .ok (.iload_n 2, 1) := by decide +kernel
theorem dX2_roomFor_55 : decode cX2_roomFor 55 = .ok (.iconst 1, 1) := by decide +kernel
theorem dX2_roomFor_56 : decode cX2_roomFor 56 = .ok (.iadd, 1) := by decide +kernel
theorem dX2_roomFor_57 : decode cX2_roomFor 57 = .ok (.istore_n 2, 1) := by decide +kernel
theorem dX2_roomFor_58 : decode cX2_roomFor 58 = .ok (.iload_n 2, 1) := by decide +kernel
theorem dX2_roomFor_59 : decode cX2_roomFor 59 = .ok (.iload_n 1, 1) := by decide +kernel
theorem dX2_roomFor_60 : decode cX2_roomFor 60 = .ok (.if_icmp .ne 9, 3) := by decide +kernel
theorem dX2_roomFor_63 : decode cX2_roomFor 63 = .ok (.iload_n 3, 1) := by decide +kernel
theorem dX2_roomFor_64 : decode cX2_roomFor 64 = .ok (.iconst 1, 1) := by decide +kernel
theorem dX2_roomFor_65 : decode cX2_roomFor 65 = .ok (.iadd, 1) := by decide +kernel
theorem dX2_roomFor_66 : decode cX2_roomFor 66 = .ok (.iload_n 1, 1) := by decide +kernel
theorem dX2_roomFor_67 : decode cX2_roomFor 67 = .ok (.isub, 1) := by decide +kernel
theorem dX2_roomFor_68 : decode cX2_roomFor 68 = .ok (.ireturn, 1) := by decide +kernel
theorem dX2_roomFor_69 : decode cX2_roomFor 69 = .ok (.iinc 3 1, 3) := by decide +kernel
theorem dX2_roomFor_72 : decode cX2_roomFor 72 = .ok (.goto (-68), 3) := by decide +kernel
theorem dX2_roomFor_75 : decode cX2_roomFor 75 = .ok (.aload_n 0, 1) := by decide +kernel
theorem dX2_roomFor_76 : decode cX2_roomFor 76 = .ok (.getfield 67, 3) := by decide +kernel
theorem dX2_roomFor_79 : decode cX2_roomFor 79 = .ok (.iload_n 2, 1) := by decide +kernel
theorem dX2_roomFor_80 : decode cX2_roomFor 80 = .ok (.isub, 1) := by decide +kernel
theorem dX2_roomFor_81 : decode cX2_roomFor 81 = .ok (.ireturn, 1) := by decide +kernel
theorem dX2_clustersMissing_0 : decode cX2_clustersMissing 0 = .ok (.iload_n 1, 1) := by decide +kernel
theorem dX2_clustersMissing_1 : decode cX2_clustersMissing 1 = .ok (.aload_n 0, 1) := by decide +kernel
theorem dX2_clustersMissing_2 : decode cX2_clustersMissing 2 = .ok (.getfield 67, 3) := by decide +kernel
theorem dX2_clustersMissing_5 : decode cX2_clustersMissing 5 = .ok (.isub, 1) := by decide +kernel
theorem dX2_clustersMissing_6 : decode cX2_clustersMissing 6 = .ok (.istore_n 2, 1) := by decide +kernel
theorem dX2_clustersMissing_7 : decode cX2_clustersMissing 7 = .ok (.iload_n 2, 1) := by decide +kernel
theorem dX2_clustersMissing_8 : decode cX2_clustersMissing 8 = .ok (.ifCond .gt 7, 3) := by decide +kernel
theorem dX2_clustersMissing_11 : decode cX2_clustersMissing 11 = .ok (.iconst 0, 1) := by decide +kernel
theorem dX2_clustersMissing_12 : decode cX2_clustersMissing 12 = .ok (.goto 13, 3) := by decide +kernel
theorem dX2_clustersMissing_15 : decode cX2_clustersMissing 15 = .ok (.iload_n 2, 1) := by decide +kernel
theorem dX2_clustersMissing_16 : decode cX2_clustersMissing 16 = .ok (.iconst 1, 1) := by decide +kernel
theorem dX2_clustersMissing_17 : decode cX2_clustersMissing 17 = .ok (.isub, 1) := by decide +kernel
theorem dX2_clustersMissing_18 : decode cX2_clustersMissing 18 = .ok (.aload_n 0, 1) := by decide +kernel
theorem dX2_clustersMissing_19 : decode cX2_clustersMissing 19 = .ok (.getfield 65, 3) := by decide +kernel
theorem dX2_clustersMissing_22 : decode cX2_clustersMissing 22 = .ok (.ishr, 1) := by decide +kernel
theorem dX2_clustersMissing_23 : decode cX2_clustersMissing 23 = .ok (.iconst 1, 1) := by decide +kernel
theorem dX2_clustersMissing_24 : decode cX2_clustersMissing 24 = .ok (.iadd, 1) := by decide +kernel
theorem dX2_clustersMissing_25 : decode cX2_clustersMissing 25 = .ok (.ireturn, 1) := by decide +kernel
theorem dX2_lengthen_0 : decode cX2_lengthen 0 = .ok (.iconst 0, 1) := by decide +kernel
theorem dX2_lengthen_1 : decode cX2_lengthen 1 = .ok (.istore_n 2, 1) := by decide +kernel
theorem dX2_lengthen_2 : decode cX2_lengthen 2 = .ok (.iload_n 2, 1) := by decide +kernel
theorem dX2_lengthen_3 : decode cX2_lengthen 3 = .ok (.iload_n 1, 1) := by decide +kernel
theorem dX2_lengthen_4 : decode cX2_lengthen 4 = .ok (.if_icmp .ge 73, 3) := by decide +kernel
theorem dX2_lengthen_7 : decode cX2_lengthen 7 = .ok (.aload_n 0, 1) := by decide +kernel
theorem dX2_lengthen_8 : decode cX2_lengthen 8 = .ok (.getfield 44, 3) := by decide +kernel
theorem dX2_lengthen_11 : decode cX2_lengthen 11 = .ok (.aload_n 0, 1) := by decide +kernel
theorem dX2_lengthen_12 : decode cX2_lengthen 12 = .ok (.getfield 38, 3) := by decide +kernel
theorem dX2_lengthen_15 : decode cX2_lengthen 15 = .ok (.arraylength, 1) := by decide +kernel
theorem dX2_lengthen_16 : decode cX2_lengthen 16 = .ok (.if_icmp .ge 61, 3) := by decide +kernel
theorem dX2_lengthen_19 : decode cX2_lengthen 19 = .ok (.aload_n 0, 1) := by decide +kernel
theorem dX2_lengthen_20 : decode cX2_lengthen 20 = .ok (.getfield 21, 3) := by decide +kernel
theorem dX2_lengthen_23 : decode cX2_lengthen 23 = .ok (.invokevirtual 99, 3) := by decide +kernel
theorem dX2_lengthen_26 : decode cX2_lengthen 26 = .ok (.istore_n 3, 1) := by decide +kernel
theorem dX2_lengthen_27 : decode cX2_lengthen 27 = .ok (.aload_n 0, 1) := by decide +kernel
theorem dX2_lengthen_28 : decode cX2_lengthen 28 = .ok (.getfield 21, 3) := by decide +kernel
theorem dX2_lengthen_31 : decode cX2_lengthen 31 = .ok (.aload_n 0, 1) := by decide +kernel
theorem dX2_lengthen_32 : decode cX2_lengthen 32 = .ok (.getfield 47, 3) := by decide +kernel
theorem dX2_lengthen_35 : decode cX2_lengthen 35 = .ok (.iload_n 3, 1) := by decide +kernel
theorem dX2_lengthen_36 : decode cX2_lengthen 36 = .ok (.invokevirtual 102, 3) := by decide +kernel
theorem dX2_lengthen_39 : decode cX2_lengthen 39 = .ok (.aload_n 0, 1) := by decide +kernel
theorem dX2_lengthen_40 : decode cX2_lengthen 40 = .ok (.iload_n 3, 1) := by decide +kernel
theorem dX2_lengthen_41 : decode cX2_lengthen 41 = .ok (.putfield 47, 3) := by decide +kernel
theorem dX2_lengthen_44 : decode cX2_lengthen 44 = .ok (.aload_n 0, 1) := by decide +kernel
theorem dX2_lengthen_45 : decode cX2_lengthen 45 = .ok (.getfield 38, 3) := by decide +kernel
theorem dX2_lengthen_48 : decode cX2_lengthen 48 = .ok (.aload_n 0, 1) := by decide +kernel
theorem dX2_lengthen_49 : decode cX2_lengthen 49 = .ok (.getfield 44, 3) := by decide +kernel
theorem dX2_lengthen_52 : decode cX2_lengthen 52 = .ok (.aload_n 0, 1) := by decide +kernel
theorem dX2_lengthen_53 : decode cX2_lengthen 53 = .ok (.getfield 21, 3) := by decide +kernel
theorem dX2_lengthen_56 : decode cX2_lengthen 56 = .ok (.iload_n 3, 1) := by decide +kernel
theorem dX2_lengthen_57 : decode cX2_lengthen 57 = .ok (.invokevirtual 54, 3) := by decide +kernel
theorem dX2_lengthen_60 : decode cX2_lengthen 60 = .ok (.iastore, 1) := by decide +kernel
theorem dX2_lengthen_61 : decode cX2_lengthen 61 = .ok (.aload_n 0, 1) := by decide +kernel
theorem dX2_lengthen_62 : decode cX2_lengthen 62 = .ok (.dup, 1) := by decide +kernel
theorem dX2_lengthen_63 : decode cX2_lengthen 63 = .ok (.getfield 44, 3) := by decide +kernel
theorem dX2_lengthen_66 : decode cX2_lengthen 66 = .ok (.iconst 1, 1) := by decide +kernel
theorem dX2_lengthen_67 : decode cX2_lengthen 67 = .ok (.iadd, 1) := by decide +kernel
theorem dX2_lengthen_68 : decode cX2_lengthen 68 = .ok (.putfield 44, 3) := by decide +kernel
theorem dX2_lengthen_71 : decode cX2_lengthen 71 = .ok (.iinc 2 1, 3) := by decide +kernel
theorem dX2_lengthen_74 : decode cX2_lengthen 74 = .ok (.goto (-72), 3) := by decide +kernel
theorem dX2_lengthen_77 : decode cX2_lengthen 77 = .ok (.aload_n 0, 1) := by decide +kernel
theorem dX2_lengthen_78 : decode cX2_lengthen 78 = .ok (.aload_n 0, 1) := by decide +kernel
theorem dX2_lengthen_79 : decode cX2_lengthen 79 = .ok (.getfield 44, 3) := by decide +kernel
theorem dX2_lengthen_82 : decode cX2_lengthen 82 = .ok (.aload_n 0, 1) := by decide +kernel
theorem dX2_lengthen_83 : decode cX2_lengthen 83 = .ok (.getfield 65, 3) := by decide +kernel
theorem dX2_lengthen_86 : decode cX2_lengthen 86 = .ok (.ishl, 1) := by decide +kernel
theorem dX2_lengthen_87 : decode cX2_lengthen 87 = .ok (.putfield 67, 3) := by decide +kernel
theorem dX2_lengthen_90 : decode cX2_lengthen 90 = .ok (.return_, 1) := by decide +kernel
theorem dX3_init_0 : decode cX3_init 0 = .ok (.aload_n 0, 1) := by decide +kernel
theorem dX3_init_1 : decode cX3_init 1 = .ok (.invokespecial 1, 3) := by decide +kernel
theorem dX3_init_4 : decode cX3_init 4 = .ok (.aload_n 0, 1) := by decide +kernel
theorem dX3_init_5 : decode cX3_init 5 = .ok (.iload_n 1, 1) := by decide +kernel
theorem dX3_init_6 : decode cX3_init 6 = .ok (.putfield 7, 3) := by decide +kernel
theorem dX3_init_9 : decode cX3_init 9 = .ok (.aload_n 0, 1) := by decide +kernel
theorem dX3_init_10 : decode cX3_init 10 = .ok (.iload_n 1, 1) := by decide +kernel
theorem dX3_init_11 : decode cX3_init 11 = .ok (.sipush 128, 3) := by decide +kernel
theorem dX3_init_14 : decode cX3_init 14 = .ok (.imul, 1) := by decide +kernel
theorem dX3_init_15 : decode cX3_init 15 = .ok (.newarray .int, 2) := by decide +kernel
theorem dX3_init_17 : decode cX3_init 17 = .ok (.putfield 13, 3) := by decide +kernel
theorem dX3_init_20 : decode cX3_init 20 = .ok (.return_, 1) := by decide +kernel
theorem dX3_has_0 : decode cX3_has 0 = .ok (.iload_n 1, 1) := by decide +kernel
theorem dX3_has_1 : decode cX3_has 1 = .ok (.ifCond .lt 26, 3) := by decide +kernel
theorem dX3_has_4 : decode cX3_has 4 = .ok (.iload_n 1, 1) := by decide +kernel
theorem dX3_has_5 : decode cX3_has 5 = .ok (.aload_n 0, 1) := by decide +kernel
theorem dX3_has_6 : decode cX3_has 6 = .ok (.getfield 7, 3) := by decide +kernel
theorem dX3_has_9 : decode cX3_has 9 = .ok (.if_icmp .ge 18, 3) := by decide +kernel
theorem dX3_has_12 : decode cX3_has 12 = .ok (.iload_n 2, 1) := by decide +kernel
theorem dX3_has_13 : decode cX3_has 13 = .ok (.ifCond .lt 14, 3) := by decide +kernel
theorem dX3_has_16 : decode cX3_has 16 = .ok (.iload_n 2, 1) := by decide +kernel
theorem dX3_has_17 : decode cX3_has 17 = .ok (.sipush 512, 3) := by decide +kernel
theorem dX3_has_20 : decode cX3_has 20 = .ok (.if_icmp .ge 7, 3) := by decide +kernel
theorem dX3_has_23 : decode cX3_has 23 = .ok (.iconst 1, 1) := by decide +kernel
theorem dX3_has_24 : decode cX3_has 24 = .ok (.goto 4, 3) := by decide +kernel
theorem dX3_has_27 : decode cX3_has 27 = .ok (.iconst 0, 1) := by decide +kernel
theorem dX3_has_28 : decode cX3_has 28 = .ok (.ireturn, 1) := by decide +kernel
theorem dX3_one_0 : decode cX3_one 0 = .ok (.iload_n 1, 1) := by decide +kernel
theorem dX3_one_1 : decode cX3_one 1 = .ok (.iconst 2, 1) := by decide +kernel
theorem dX3_one_2 : decode cX3_one 2 = .ok (.ishr, 1) := by decide +kernel
theorem dX3_one_3 : decode cX3_one 3 = .ok (.istore_n 2, 1) := by decide +kernel
theorem dX3_one_4 : decode cX3_one 4 = .ok (.iload_n 2, 1) := by decide +kernel
theorem dX3_one_5 : decode cX3_one 5 = .ok (.ifCond .lt 12, 3) := by decide +kernel
theorem dX3_one_8 : decode cX3_one 8 = .ok (.iload_n 2, 1) := by decide +kernel
theorem dX3_one_9 : decode cX3_one 9 = .ok (.aload_n 0, 1) := by decide +kernel
theorem dX3_one_10 : decode cX3_one 10 = .ok (.getfield 13, 3) := by decide +kernel
theorem dX3_one_13 : decode cX3_one 13 = .ok (.arraylength, 1) := by decide +kernel
theorem dX3_one_14 : decode cX3_one 14 = .ok (.if_icmp .lt 5, 3) := by decide +kernel
theorem dX3_one_17 : decode cX3_one 17 = .ok (.iconst 0, 1) := by decide +kernel
theorem dX3_one_18 : decode cX3_one 18 = .ok (.ireturn, 1) := by decide +kernel
theorem dX3_one_19 : decode cX3_one 19 = .ok (.aload_n 0, 1) := by decide +kernel
theorem dX3_one_20 : decode cX3_one 20 = .ok (.getfield 13, 3) := by decide +kernel
theorem dX3_one_23 : decode cX3_one 23 = .ok (.iload_n 2, 1) := by decide +kernel
theorem dX3_one_24 : decode cX3_one 24 = .ok (.iaload, 1) := by decide +kernel
theorem dX3_one_25 : decode cX3_one 25 = .ok (.iload_n 1, 1) := by decide +kernel
theorem dX3_one_26 : decode cX3_one 26 = .ok (.iconst 3, 1) := by decide +kernel
theorem dX3_one_27 : decode cX3_one 27 = .ok (.iand, 1) := by decide +kernel
theorem dX3_one_28 : decode cX3_one 28 = .ok (.iconst 3, 1) := by decide +kernel
theorem dX3_one_29 : decode cX3_one 29 = .ok (.ishl, 1) := by decide +kernel
theorem dX3_one_30 : decode cX3_one 30 = .ok (.iushr, 1) := by decide +kernel
theorem dX3_one_31 : decode cX3_one 31 = .ok (.sipush 255, 3) := by decide +kernel
theorem dX3_one_34 : decode cX3_one 34 = .ok (.iand, 1) := by decide +kernel
theorem dX3_one_35 : decode cX3_one 35 = .ok (.ireturn, 1) := by decide +kernel
theorem dX3_two_0 : decode cX3_two 0 = .ok (.iload_n 1, 1) := by decide +kernel
theorem dX3_two_1 : decode cX3_two 1 = .ok (.iconst 2, 1) := by decide +kernel
theorem dX3_two_2 : decode cX3_two 2 = .ok (.ishr, 1) := by decide +kernel
theorem dX3_two_3 : decode cX3_two 3 = .ok (.istore_n 2, 1) := by decide +kernel
theorem dX3_two_4 : decode cX3_two 4 = .ok (.iload_n 2, 1) := by decide +kernel
theorem dX3_two_5 : decode cX3_two 5 = .ok (.ifCond .lt 12, 3) := by decide +kernel
theorem dX3_two_8 : decode cX3_two 8 = .ok (.iload_n 2, 1) := by decide +kernel
theorem dX3_two_9 : decode cX3_two 9 = .ok (.aload_n 0, 1) := by decide +kernel
theorem dX3_two_10 : decode cX3_two 10 = .ok (.getfield 13, 3) := by decide +kernel
theorem dX3_two_13 : decode cX3_two 13 = .ok (.arraylength, 1) := by decide +kernel
theorem dX3_two_14 : decode cX3_two 14 = .ok (.if_icmp .lt 5, 3) := by decide +kernel
theorem dX3_two_17 : decode cX3_two 17 = .ok (.iconst 0, 1) := by decide +kernel
theorem dX3_two_18 : decode cX3_two 18 = .ok (.ireturn, 1) := by decide +kernel
theorem dX3_two_19 : decode cX3_two 19 = .ok (.aload_n 0, 1) := by decide +kernel
theorem dX3_two_20 : decode cX3_two 20 = .ok (.getfield 13, 3) := by decide +kernel
theorem dX3_two_23 : decode cX3_two 23 = .ok (.iload_n 2, 1) := by decide +kernel
theorem dX3_two_24 : decode cX3_two 24 = .ok (.iaload, 1) := by decide +kernel
theorem dX3_two_25 : decode cX3_two 25 = .ok (.iload_n 1, 1) := by decide +kernel
theorem dX3_two_26 : decode cX3_two 26 = .ok (.iconst 3, 1) := by decide +kernel
theorem dX3_two_27 : decode cX3_two 27 = .ok (.iand, 1) := by decide +kernel
theorem dX3_two_28 : decode cX3_two 28 = .ok (.iconst 3, 1) := by decide +kernel
theorem dX3_two_29 : decode cX3_two 29 = .ok (.ishl, 1) := by decide +kernel
theorem dX3_two_30 : decode cX3_two 30 = .ok (.iushr, 1) := by decide +kernel
theorem dX3_two_31 : decode cX3_two 31 = .ok (.istore_n 3, 1) := by decide +kernel
theorem dX3_two_32 : decode cX3_two 32 = .ok (.iload_n 1, 1) := by decide +kernel
theorem dX3_two_33 : decode cX3_two 33 = .ok (.iconst 3, 1) := by decide +kernel
theorem dX3_two_34 : decode cX3_two 34 = .ok (.iand, 1) := by decide +kernel
theorem dX3_two_35 : decode cX3_two 35 = .ok (.iconst 3, 1) := by decide +kernel
theorem dX3_two_36 : decode cX3_two 36 = .ok (.if_icmp .ne 18, 3) := by decide +kernel
theorem dX3_two_39 : decode cX3_two 39 = .ok (.iload_n 2, 1) := by decide +kernel
theorem dX3_two_40 : decode cX3_two 40 = .ok (.iconst 1, 1) := by decide +kernel
theorem dX3_two_41 : decode cX3_two 41 = .ok (.iadd, 1) := by decide +kernel
theorem dX3_two_42 : decode cX3_two 42 = .ok (.aload_n 0, 1) := by decide +kernel
theorem dX3_two_43 : decode cX3_two 43 = .ok (.getfield 13, 3) := by decide +kernel
theorem dX3_two_46 : decode cX3_two 46 = .ok (.arraylength, 1) := by decide +kernel
theorem dX3_two_47 : decode cX3_two 47 = .ok (.if_icmp .ge 7, 3) := by decide +kernel
theorem dX3_two_50 : decode cX3_two 50 = .ok (.iconst 1, 1) := by decide +kernel
theorem dX3_two_51 : decode cX3_two 51 = .ok (.goto 4, 3) := by decide +kernel
theorem dX3_two_54 : decode cX3_two 54 = .ok (.iconst 0, 1) := by decide +kernel
theorem dX3_two_55 : decode cX3_two 55 = .ok (.istore 4, 2) := by decide +kernel
theorem dX3_two_57 : decode cX3_two 57 = .ok (.iload 4, 2) := by decide +kernel
theorem dX3_two_59 : decode cX3_two 59 = .ok (.ifCond .eq 19, 3) := by decide +kernel
theorem dX3_two_62 : decode cX3_two 62 = .ok (.iload_n 3, 1) := by decide +kernel
theorem dX3_two_63 : decode cX3_two 63 = .ok (.aload_n 0, 1) := by decide +kernel
theorem dX3_two_64 : decode cX3_two 64 = .ok (.getfield 13, 3) := by decide +kernel
theorem dX3_two_67 : decode cX3_two 67 = .ok (.iload_n 2, 1) := by decide +kernel
theorem dX3_two_68 : decode cX3_two 68 = .ok (.iconst 1, 1) := by decide +kernel
theorem dX3_two_69 : decode cX3_two 69 = .ok (.iadd, 1) := by decide +kernel
theorem dX3_two_70 : decode cX3_two 70 = .ok (.iaload, 1) := by decide +kernel
theorem dX3_two_71 : decode cX3_two 71 = .ok (.bipush 8, 2) := by decide +kernel
theorem dX3_two_73 : decode cX3_two 73 = .ok (.ishl, 1) := by decide +kernel
theorem dX3_two_74 : decode cX3_two 74 = .ok (.ior, 1) := by decide +kernel
theorem dX3_two_75 : decode cX3_two 75 = .ok (.goto 4, 3) := by decide +kernel
theorem dX3_two_78 : decode cX3_two 78 = .ok (.iload_n 3, 1) := by decide +kernel
theorem dX3_two_79 : decode cX3_two 79 = .ok (.ldc 17, 2) := by decide +kernel
theorem dX3_two_81 : decode cX3_two 81 = .ok (.iand, 1) := by decide +kernel
theorem dX3_two_82 : decode cX3_two 82 = .ok (.ireturn, 1) := by decide +kernel
theorem dX3_four_0 : decode cX3_four 0 = .ok (.iload_n 1, 1) := by decide +kernel
theorem dX3_four_1 : decode cX3_four 1 = .ok (.iconst 2, 1) := by decide +kernel
theorem dX3_four_2 : decode cX3_four 2 = .ok (.ishr, 1) := by decide +kernel
theorem dX3_four_3 : decode cX3_four 3 = .ok (.istore_n 2, 1) := by decide +kernel
theorem dX3_four_4 : decode cX3_four 4 = .ok (.iload_n 2, 1) := by decide +kernel
theorem dX3_four_5 : decode cX3_four 5 = .ok (.ifCond .lt 12, 3) := by decide +kernel
theorem dX3_four_8 : decode cX3_four 8 = .ok (.iload_n 2, 1) := by decide +kernel
theorem dX3_four_9 : decode cX3_four 9 = .ok (.aload_n 0, 1) := by decide +kernel
theorem dX3_four_10 : decode cX3_four 10 = .ok (.getfield 13, 3) := by decide +kernel
theorem dX3_four_13 : decode cX3_four 13 = .ok (.arraylength, 1) := by decide +kernel
theorem dX3_four_14 : decode cX3_four 14 = .ok (.if_icmp .lt 7, 3) := by decide +kernel
theorem dX3_four_17 : decode cX3_four 17 = .ok (.iconst 0, 1) := by decide +kernel
theorem dX3_four_18 : decode cX3_four 18 = .ok (.goto 9, 3) := by decide +kernel
theorem dX3_four_21 : decode cX3_four 21 = .ok (.aload_n 0, 1) := by decide +kernel
theorem dX3_four_22 : decode cX3_four 22 = .ok (.getfield 13, 3) := by decide +kernel
theorem dX3_four_25 : decode cX3_four 25 = .ok (.iload_n 2, 1) := by decide +kernel
theorem dX3_four_26 : decode cX3_four 26 = .ok (.iaload, 1) := by decide +kernel
theorem dX3_four_27 : decode cX3_four 27 = .ok (.ireturn, 1) := by decide +kernel
theorem dX3_firstCluster_0 : decode cX3_firstCluster 0 = .ok (.aload_n 0, 1) := by decide +kernel
theorem dX3_firstCluster_1 : decode cX3_firstCluster 1 = .ok (.iload_n 1, 1) := by decide +kernel
theorem dX3_firstCluster_2 : decode cX3_firstCluster 2 = .ok (.bipush 20, 2) := by decide +kernel
theorem dX3_firstCluster_4 : decode cX3_firstCluster 4 = .ok (.iadd, 1) := by decide +kernel
theorem dX3_firstCluster_5 : decode cX3_firstCluster 5 = .ok (.invokevirtual 18, 3) := by decide +kernel
theorem dX3_firstCluster_8 : decode cX3_firstCluster 8 = .ok (.bipush 16, 2) := by decide +kernel
theorem dX3_firstCluster_10 : decode cX3_firstCluster 10 = .ok (.ishl, 1) := by decide +kernel
theorem dX3_firstCluster_11 : decode cX3_firstCluster 11 = .ok (.aload_n 0, 1) := by decide +kernel
theorem dX3_firstCluster_12 : decode cX3_firstCluster 12 = .ok (.iload_n 1, 1) := by decide +kernel
theorem dX3_firstCluster_13 : decode cX3_firstCluster 13 = .ok (.bipush 26, 2) := by decide +kernel
theorem dX3_firstCluster_15 : decode cX3_firstCluster 15 = .ok (.iadd, 1) := by decide +kernel
theorem dX3_firstCluster_16 : decode cX3_firstCluster 16 = .ok (.invokevirtual 18, 3) := by decide +kernel
theorem dX3_firstCluster_19 : decode cX3_firstCluster 19 = .ok (.ior, 1) := by decide +kernel
theorem dX3_firstCluster_20 : decode cX3_firstCluster 20 = .ok (.ireturn, 1) := by decide +kernel
theorem dX3_putOne_0 : decode cX3_putOne 0 = .ok (.iload_n 1, 1) := by decide +kernel
theorem dX3_putOne_1 : decode cX3_putOne 1 = .ok (.iconst 2, 1) := by decide +kernel
theorem dX3_putOne_2 : decode cX3_putOne 2 = .ok (.ishr, 1) := by decide +kernel
theorem dX3_putOne_3 : decode cX3_putOne 3 = .ok (.istore_n 3, 1) := by decide +kernel
theorem dX3_putOne_4 : decode cX3_putOne 4 = .ok (.iload_n 3, 1) := by decide +kernel
theorem dX3_putOne_5 : decode cX3_putOne 5 = .ok (.ifCond .lt 49, 3) := by decide +kernel
theorem dX3_putOne_8 : decode cX3_putOne 8 = .ok (.iload_n 3, 1) := by decide +kernel
theorem dX3_putOne_9 : decode cX3_putOne 9 = .ok (.aload_n 0, 1) := by decide +kernel
theorem dX3_putOne_10 : decode cX3_putOne 10 = .ok (.getfield 13, 3) := by decide +kernel
theorem dX3_putOne_13 : decode cX3_putOne 13 = .ok (.arraylength, 1) := by decide +kernel
theorem dX3_putOne_14 : decode cX3_putOne 14 = .ok (.if_icmp .ge 40, 3) := by decide +kernel
theorem dX3_putOne_17 : decode cX3_putOne 17 = .ok (.iload_n 1, 1) := by decide +kernel
theorem dX3_putOne_18 : decode cX3_putOne 18 = .ok (.iconst 3, 1) := by decide +kernel
theorem dX3_putOne_19 : decode cX3_putOne 19 = .ok (.iand, 1) := by decide +kernel
theorem dX3_putOne_20 : decode cX3_putOne 20 = .ok (.iconst 3, 1) := by decide +kernel
theorem dX3_putOne_21 : decode cX3_putOne 21 = .ok (.ishl, 1) := by decide +kernel
theorem dX3_putOne_22 : decode cX3_putOne 22 = .ok (.istore 4, 2) := by decide +kernel
theorem dX3_putOne_24 : decode cX3_putOne 24 = .ok (.aload_n 0, 1) := by decide +kernel
theorem dX3_putOne_25 : decode cX3_putOne 25 = .ok (.getfield 13, 3) := by decide +kernel
theorem dX3_putOne_28 : decode cX3_putOne 28 = .ok (.iload_n 3, 1) := by decide +kernel
theorem dX3_putOne_29 : decode cX3_putOne 29 = .ok (.aload_n 0, 1) := by decide +kernel
theorem dX3_putOne_30 : decode cX3_putOne 30 = .ok (.getfield 13, 3) := by decide +kernel
theorem dX3_putOne_33 : decode cX3_putOne 33 = .ok (.iload_n 3, 1) := by decide +kernel
theorem dX3_putOne_34 : decode cX3_putOne 34 = .ok (.iaload, 1) := by decide +kernel
theorem dX3_putOne_35 : decode cX3_putOne 35 = .ok (.sipush 255, 3) := by decide +kernel
theorem dX3_putOne_38 : decode cX3_putOne 38 = .ok (.iload 4, 2) := by decide +kernel
theorem dX3_putOne_40 : decode cX3_putOne 40 = .ok (.ishl, 1) := by decide +kernel
theorem dX3_putOne_41 : decode cX3_putOne 41 = .ok (.iconst (-1), 1) := by decide +kernel
theorem dX3_putOne_42 : decode cX3_putOne 42 = .ok (.ixor, 1) := by decide +kernel
theorem dX3_putOne_43 : decode cX3_putOne 43 = .ok (.iand, 1) := by decide +kernel
theorem dX3_putOne_44 : decode cX3_putOne 44 = .ok (.iload_n 2, 1) := by decide +kernel
theorem dX3_putOne_45 : decode cX3_putOne 45 = .ok (.sipush 255, 3) := by decide +kernel
theorem dX3_putOne_48 : decode cX3_putOne 48 = .ok (.iand, 1) := by decide +kernel
theorem dX3_putOne_49 : decode cX3_putOne 49 = .ok (.iload 4, 2) := by decide +kernel
theorem dX3_putOne_51 : decode cX3_putOne 51 = .ok (.ishl, 1) := by decide +kernel
theorem dX3_putOne_52 : decode cX3_putOne 52 = .ok (.ior, 1) := by decide +kernel
theorem dX3_putOne_53 : decode cX3_putOne 53 = .ok (.iastore, 1) := by decide +kernel
theorem dX3_putOne_54 : decode cX3_putOne 54 = .ok (.return_, 1) := by decide +kernel
theorem dX3_putTwo_0 : decode cX3_putTwo 0 = .ok (.aload_n 0, 1) := by decide +kernel
theorem dX3_putTwo_1 : decode cX3_putTwo 1 = .ok (.iload_n 1, 1) := by decide +kernel
theorem dX3_putTwo_2 : decode cX3_putTwo 2 = .ok (.iload_n 2, 1) := by decide +kernel
theorem dX3_putTwo_3 : decode cX3_putTwo 3 = .ok (.invokevirtual 22, 3) := by decide +kernel
theorem dX3_putTwo_6 : decode cX3_putTwo 6 = .ok (.aload_n 0, 1) := by decide +kernel
theorem dX3_putTwo_7 : decode cX3_putTwo 7 = .ok (.iload_n 1, 1) := by decide +kernel
theorem dX3_putTwo_8 : decode cX3_putTwo 8 = .ok (.iconst 1, 1) := by decide +kernel
theorem dX3_putTwo_9 : decode cX3_putTwo 9 = .ok (.iadd, 1) := by decide +kernel
theorem dX3_putTwo_10 : decode cX3_putTwo 10 = .ok (.iload_n 2, 1) := by decide +kernel
theorem dX3_putTwo_11 : decode cX3_putTwo 11 = .ok (.bipush 8, 2) := by decide +kernel
theorem dX3_putTwo_13 : decode cX3_putTwo 13 = .ok (.ishr, 1) := by decide +kernel
theorem dX3_putTwo_14 : decode cX3_putTwo 14 = .ok (.invokevirtual 22, 3) := by decide +kernel
theorem dX3_putTwo_17 : decode cX3_putTwo 17 = .ok (.return_, 1) := by decide +kernel
theorem dX3_putFour_0 : decode cX3_putFour 0 = .ok (.aload_n 0, 1) := by decide +kernel
theorem dX3_putFour_1 : decode cX3_putFour 1 = .ok (.iload_n 1, 1) := by decide +kernel
theorem dX3_putFour_2 : decode cX3_putFour 2 = .ok (.iload_n 2, 1) := by decide +kernel
theorem dX3_putFour_3 : decode cX3_putFour 3 = .ok (.invokevirtual 26, 3) := by decide +kernel
theorem dX3_putFour_6 : decode cX3_putFour 6 = .ok (.aload_n 0, 1) := by decide +kernel
theorem dX3_putFour_7 : decode cX3_putFour 7 = .ok (.iload_n 1, 1) := by decide +kernel
theorem dX3_putFour_8 : decode cX3_putFour 8 = .ok (.iconst 2, 1) := by decide +kernel
theorem dX3_putFour_9 : decode cX3_putFour 9 = .ok (.iadd, 1) := by decide +kernel
theorem dX3_putFour_10 : decode cX3_putFour 10 = .ok (.iload_n 2, 1) := by decide +kernel
theorem dX3_putFour_11 : decode cX3_putFour 11 = .ok (.bipush 16, 2) := by decide +kernel
theorem dX3_putFour_13 : decode cX3_putFour 13 = .ok (.ishr, 1) := by decide +kernel
theorem dX3_putFour_14 : decode cX3_putFour 14 = .ok (.invokevirtual 26, 3) := by decide +kernel
theorem dX3_putFour_17 : decode cX3_putFour 17 = .ok (.return_, 1) := by decide +kernel
theorem dX3_putFirstCluster_0 : decode cX3_putFirstCluster 0 = .ok (.aload_n 0, 1) := by decide +kernel
theorem dX3_putFirstCluster_1 : decode cX3_putFirstCluster 1 = .ok (.iload_n 1, 1) := by decide +kernel
theorem dX3_putFirstCluster_2 : decode cX3_putFirstCluster 2 = .ok (.bipush 20, 2) := by decide +kernel
theorem dX3_putFirstCluster_4 : decode cX3_putFirstCluster 4 = .ok (.iadd, 1) := by decide +kernel
theorem dX3_putFirstCluster_5 : decode cX3_putFirstCluster 5 = .ok (.iload_n 2, 1) := by decide +kernel
theorem dX3_putFirstCluster_6 : decode cX3_putFirstCluster 6 = .ok (.bipush 16, 2) := by decide +kernel
theorem dX3_putFirstCluster_8 : decode cX3_putFirstCluster 8 = .ok (.ishr, 1) := by decide +kernel
theorem dX3_putFirstCluster_9 : decode cX3_putFirstCluster 9 = .ok (.invokevirtual 26, 3) := by decide +kernel
theorem dX3_putFirstCluster_12 : decode cX3_putFirstCluster 12 = .ok (.aload_n 0, 1) := by decide +kernel
theorem dX3_putFirstCluster_13 : decode cX3_putFirstCluster 13 = .ok (.iload_n 1, 1) := by decide +kernel
theorem dX3_putFirstCluster_14 : decode cX3_putFirstCluster 14 = .ok (.bipush 26, 2) := by decide +kernel
theorem dX3_putFirstCluster_16 : decode cX3_putFirstCluster 16 = .ok (.iadd, 1) := by decide +kernel
theorem dX3_putFirstCluster_17 : decode cX3_putFirstCluster 17 = .ok (.iload_n 2, 1) := by decide +kernel
theorem dX3_putFirstCluster_18 : decode cX3_putFirstCluster 18 = .ok (.invokevirtual 26, 3) := by decide +kernel
theorem dX3_putFirstCluster_21 : decode cX3_putFirstCluster 21 = .ok (.return_, 1) := by decide +kernel
theorem dX3_fill_0 : decode cX3_fill 0 = .ok (.iconst 0, 1) := by decide +kernel
theorem dX3_fill_1 : decode cX3_fill 1 = .ok (.istore 4, 2) := by decide +kernel
theorem dX3_fill_3 : decode cX3_fill 3 = .ok (.iload 4, 2) := by decide +kernel
theorem dX3_fill_5 : decode cX3_fill 5 = .ok (.iload_n 2, 1) := by decide +kernel
theorem dX3_fill_6 : decode cX3_fill 6 = .ok (.if_icmp .ge 18, 3) := by decide +kernel
theorem dX3_fill_9 : decode cX3_fill 9 = .ok (.aload_n 0, 1) := by decide +kernel
theorem dX3_fill_10 : decode cX3_fill 10 = .ok (.iload_n 1, 1) := by decide +kernel
theorem dX3_fill_11 : decode cX3_fill 11 = .ok (.iload 4, 2) := by decide +kernel
theorem dX3_fill_13 : decode cX3_fill 13 = .ok (.iadd, 1) := by decide +kernel
theorem dX3_fill_14 : decode cX3_fill 14 = .ok (.iload_n 3, 1) := by decide +kernel
theorem dX3_fill_15 : decode cX3_fill 15 = .ok (.invokevirtual 22, 3) := by decide +kernel
theorem dX3_fill_18 : decode cX3_fill 18 = .ok (.iinc 4 1, 3) := by decide +kernel
theorem dX3_fill_21 : decode cX3_fill 21 = .ok (.goto (-18), 3) := by decide +kernel
theorem dX3_fill_24 : decode cX3_fill 24 = .ok (.return_, 1) := by decide +kernel
theorem dX3_wipe_0 : decode cX3_wipe 0 = .ok (.aload_n 0, 1) := by decide +kernel
theorem dX3_wipe_1 : decode cX3_wipe 1 = .ok (.getfield 13, 3) := by decide +kernel
theorem dX3_wipe_4 : decode cX3_wipe 4 = .ok (.iconst 0, 1) := by decide +kernel
theorem dX3_wipe_5 : decode cX3_wipe 5 = .ok (.invokestatic 29, 3) := by decide +kernel
theorem dX3_wipe_8 : decode cX3_wipe 8 = .ok (.return_, 1) := by decide +kernel
theorem dX3_wipeSector_0 : decode cX3_wipeSector 0 = .ok (.iconst 0, 1) := by decide +kernel
theorem dX3_wipeSector_1 : decode cX3_wipeSector 1 = .ok (.istore_n 2, 1) := by decide +kernel
theorem dX3_wipeSector_2 : decode cX3_wipeSector 2 = .ok (.iload_n 2, 1) := by decide +kernel
theorem dX3_wipeSector_3 : decode cX3_wipeSector 3 = .ok (.sipush 128, 3) := by decide +kernel
theorem dX3_wipeSector_6 : decode cX3_wipeSector 6 = .ok (.if_icmp .ge 37, 3) := by decide +kernel
theorem dX3_wipeSector_9 : decode cX3_wipeSector 9 = .ok (.iload_n 1, 1) := by decide +kernel
theorem dX3_wipeSector_10 : decode cX3_wipeSector 10 = .ok (.sipush 128, 3) := by decide +kernel
theorem dX3_wipeSector_13 : decode cX3_wipeSector 13 = .ok (.imul, 1) := by decide +kernel
theorem dX3_wipeSector_14 : decode cX3_wipeSector 14 = .ok (.iload_n 2, 1) := by decide +kernel
theorem dX3_wipeSector_15 : decode cX3_wipeSector 15 = .ok (.iadd, 1) := by decide +kernel
theorem dX3_wipeSector_16 : decode cX3_wipeSector 16 = .ok (.istore_n 3, 1) := by decide +kernel
theorem dX3_wipeSector_17 : decode cX3_wipeSector 17 = .ok (.iload_n 3, 1) := by decide +kernel
theorem dX3_wipeSector_18 : decode cX3_wipeSector 18 = .ok (.ifCond .lt 19, 3) := by decide +kernel
theorem dX3_wipeSector_21 : decode cX3_wipeSector 21 = .ok (.iload_n 3, 1) := by decide +kernel
theorem dX3_wipeSector_22 : decode cX3_wipeSector 22 = .ok (.aload_n 0, 1) := by decide +kernel
theorem dX3_wipeSector_23 : decode cX3_wipeSector 23 = .ok (.getfield 13, 3) := by decide +kernel
theorem dX3_wipeSector_26 : decode cX3_wipeSector 26 = .ok (.arraylength, 1) := by decide +kernel
theorem dX3_wipeSector_27 : decode cX3_wipeSector 27 = .ok (.if_icmp .ge 10, 3) := by decide +kernel
theorem dX3_wipeSector_30 : decode cX3_wipeSector 30 = .ok (.aload_n 0, 1) := by decide +kernel
theorem dX3_wipeSector_31 : decode cX3_wipeSector 31 = .ok (.getfield 13, 3) := by decide +kernel
theorem dX3_wipeSector_34 : decode cX3_wipeSector 34 = .ok (.iload_n 3, 1) := by decide +kernel
theorem dX3_wipeSector_35 : decode cX3_wipeSector 35 = .ok (.iconst 0, 1) := by decide +kernel
theorem dX3_wipeSector_36 : decode cX3_wipeSector 36 = .ok (.iastore, 1) := by decide +kernel
theorem dX3_wipeSector_37 : decode cX3_wipeSector 37 = .ok (.iinc 2 1, 3) := by decide +kernel
theorem dX3_wipeSector_40 : decode cX3_wipeSector 40 = .ok (.goto (-38), 3) := by decide +kernel
theorem dX3_wipeSector_43 : decode cX3_wipeSector 43 = .ok (.return_, 1) := by decide +kernel
theorem dX3_copySector_0 : decode cX3_copySector 0 = .ok (.iconst 0, 1) := by decide +kernel
theorem dX3_copySector_1 : decode cX3_copySector 1 = .ok (.istore_n 3, 1) := by decide +kernel
theorem dX3_copySector_2 : decode cX3_copySector 2 = .ok (.iload_n 3, 1) := by decide +kernel
theorem dX3_copySector_3 : decode cX3_copySector 3 = .ok (.sipush 512, 3) := by decide +kernel
theorem dX3_copySector_6 : decode cX3_copySector 6 = .ok (.if_icmp .ge 31, 3) := by decide +kernel
theorem dX3_copySector_9 : decode cX3_copySector 9 = .ok (.aload_n 0, 1) := by decide +kernel
theorem dX3_copySector_10 : decode cX3_copySector 10 = .ok (.iload_n 2, 1) := by decide +kernel
theorem dX3_copySector_11 : decode cX3_copySector 11 = .ok (.sipush 512, 3) := by decide +kernel
theorem dX3_copySector_14 : decode cX3_copySector 14 = .ok (.imul, 1) := by decide +kernel
theorem dX3_copySector_15 : decode cX3_copySector 15 = .ok (.iload_n 3, 1) := by decide +kernel
theorem dX3_copySector_16 : decode cX3_copySector 16 = .ok (.iadd, 1) := by decide +kernel
theorem dX3_copySector_17 : decode cX3_copySector 17 = .ok (.aload_n 0, 1) := by decide +kernel
theorem dX3_copySector_18 : decode cX3_copySector 18 = .ok (.iload_n 1, 1) := by decide +kernel
theorem dX3_copySector_19 : decode cX3_copySector 19 = .ok (.sipush 512, 3) := by decide +kernel
theorem dX3_copySector_22 : decode cX3_copySector 22 = .ok (.imul, 1) := by decide +kernel
theorem dX3_copySector_23 : decode cX3_copySector 23 = .ok (.iload_n 3, 1) := by decide +kernel
theorem dX3_copySector_24 : decode cX3_copySector 24 = .ok (.iadd, 1) := by decide +kernel
theorem dX3_copySector_25 : decode cX3_copySector 25 = .ok (.invokevirtual 35, 3) := by decide +kernel
theorem dX3_copySector_28 : decode cX3_copySector 28 = .ok (.invokevirtual 22, 3) := by decide +kernel
theorem dX3_copySector_31 : decode cX3_copySector 31 = .ok (.iinc 3 1, 3) := by decide +kernel
theorem dX3_copySector_34 : decode cX3_copySector 34 = .ok (.goto (-32), 3) := by decide +kernel
theorem dX3_copySector_37 : decode cX3_copySector 37 = .ok (.return_, 1) := by decide +kernel
theorem dX3_sameShortName_0 : decode cX3_sameShortName 0 = .ok (.aload_n 0, 1) := by decide +kernel
theorem dX3_sameShortName_1 : decode cX3_sameShortName 1 = .ok (.iload_n 1, 1) := by decide +kernel
theorem dX3_sameShortName_2 : decode cX3_sameShortName 2 = .ok (.invokevirtual 38, 3) := by decide +kernel
theorem dX3_sameShortName_5 : decode cX3_sameShortName 5 = .ok (.aload_n 0, 1) := by decide +kernel
theorem dX3_sameShortName_6 : decode cX3_sameShortName 6 = .ok (.iload_n 2, 1) := by decide +kernel
theorem dX3_sameShortName_7 : decode cX3_sameShortName 7 = .ok (.invokevirtual 38, 3) := by decide +kernel
theorem dX3_sameShortName_10 : decode cX3_sameShortName 10 = .ok (.if_icmp .ne 49, 3) := by decide +kernel
theorem dX3_sameShortName_13 : decode cX3_sameShortName 13 = .ok (.aload_n 0, 1) := by decide +kernel
theorem dX3_sameShortName_14 : decode cX3_sameShortName 14 = .ok (.iload_n 1, 1) := by decide +kernel
theorem dX3_sameShortName_15 : decode cX3_sameShortName 15 = .ok (.iconst 4, 1) := by decide +kernel
theorem dX3_sameShortName_16 : decode cX3_sameShortName 16 = .ok (.iadd, 1) := by decide +kernel
theorem dX3_sameShortName_17 : decode cX3_sameShortName 17 = .ok (.invokevirtual 38, 3) := by decide +kernel
theorem dX3_sameShortName_20 : decode cX3_sameShortName 20 = .ok (.aload_n 0, 1) := by decide +kernel
theorem dX3_sameShortName_21 : decode cX3_sameShortName 21 = .ok (.iload_n 2, 1) := by decide +kernel
theorem dX3_sameShortName_22 : decode cX3_sameShortName 22 = .ok (.iconst 4, 1) := by decide +kernel
theorem dX3_sameShortName_23 : decode cX3_sameShortName 23 = .ok (.iadd, 1) := by decide +kernel
theorem dX3_sameShortName_24 : decode cX3_sameShortName 24 = .ok (.invokevirtual 38, 3) := by decide +kernel
theorem dX3_sameShortName_27 : decode cX3_sameShortName 27 = .ok (.if_icmp .ne 32, 3) := by decide +kernel
theorem dX3_sameShortName_30 : decode cX3_sameShortName 30 = .ok (.aload_n 0, 1) := by decide +kernel
theorem dX3_sameShortName_31 : decode cX3_sameShortName 31 = .ok (.iload_n 1, 1) := by decide +kernel
theorem dX3_sameShortName_32 : decode cX3_sameShortName 32 = .ok (.bipush 8, 2) := by decide +kernel
theorem dX3_sameShortName_34 : decode cX3_sameShortName 34 = .ok (.iadd, 1) := by decide +kernel
theorem dX3_sameShortName_35 : decode cX3_sameShortName 35 = .ok (.invokevirtual 38, 3) := by decide +kernel
theorem dX3_sameShortName_38 : decode cX3_sameShortName 38 = .ok (.ldc 41, 2) := by decide +kernel
theorem dX3_sameShortName_40 : decode cX3_sameShortName 40 = .ok (.iand, 1) := by decide +kernel
theorem dX3_sameShortName_41 : decode cX3_sameShortName 41 = .ok (.aload_n 0, 1) := by decide +kernel
theorem dX3_sameShortName_42 : decode cX3_sameShortName 42 = .ok (.iload_n 2, 1) := by decide +kernel
theorem dX3_sameShortName_43 : decode cX3_sameShortName 43 = .ok (.bipush 8, 2) := by decide +kernel
theorem dX3_sameShortName_45 : decode cX3_sameShortName 45 = .ok (.iadd, 1) := by decide +kernel
theorem dX3_sameShortName_46 : decode cX3_sameShortName 46 = .ok (.invokevirtual 38, 3) := by decide +kernel
theorem dX3_sameShortName_49 : decode cX3_sameShortName 49 = .ok (.ldc 41, 2) := by decide +kernel
theorem dX3_sameShortName_51 : decode cX3_sameShortName 51 = .ok (.iand, 1) := by decide +kernel
theorem dX3_sameShortName_52 : decode cX3_sameShortName 52 = .ok (.if_icmp .ne 7, 3) := by decide +kernel
theorem dX3_sameShortName_55 : decode cX3_sameShortName 55 = .ok (.iconst 1, 1) := by decide +kernel
theorem dX3_sameShortName_56 : decode cX3_sameShortName 56 = .ok (.goto 4, 3) := by decide +kernel
theorem dX3_sameShortName_59 : decode cX3_sameShortName 59 = .ok (.iconst 0, 1) := by decide +kernel
theorem dX3_sameShortName_60 : decode cX3_sameShortName 60 = .ok (.ireturn, 1) := by decide +kernel
theorem dX4_init_0 : decode cX4_init 0 = .ok (.aload_n 0, 1) := by decide +kernel
theorem dX4_init_1 : decode cX4_init 1 = .ok (.invokespecial 1, 3) := by decide +kernel
theorem dX4_init_4 : decode cX4_init 4 = .ok (.aload_n 0, 1) := by decide +kernel
theorem dX4_init_5 : decode cX4_init 5 = .ok (.aload_n 1, 1) := by decide +kernel
theorem dX4_init_6 : decode cX4_init 6 = .ok (.putfield 7, 3) := by decide +kernel
theorem dX4_init_9 : decode cX4_init 9 = .ok (.aload_n 0, 1) := by decide +kernel
theorem dX4_init_10 : decode cX4_init 10 = .ok (.aload_n 1, 1) := by decide +kernel
theorem dX4_init_11 : decode cX4_init 11 = .ok (.getfield 13, 3) := by decide +kernel
theorem dX4_init_14 : decode cX4_init 14 = .ok (.putfield 19, 3) := by decide +kernel
theorem dX4_init_17 : decode cX4_init 17 = .ok (.aload_n 0, 1) := by decide +kernel
theorem dX4_init_18 : decode cX4_init 18 = .ok (.getfield 19, 3) := by decide +kernel
theorem dX4_init_21 : decode cX4_init 21 = .ok (.iload_n 2, 1) := by decide +kernel
theorem dX4_init_22 : decode cX4_init 22 = .ok (.bipush 28, 2) := by decide +kernel
theorem dX4_init_24 : decode cX4_init 24 = .ok (.iadd, 1) := by decide +kernel
theorem dX4_init_25 : decode cX4_init 25 = .ok (.invokevirtual 20, 3) := by decide +kernel
theorem dX4_init_28 : decode cX4_init 28 = .ok (.istore_n 3, 1) := by decide +kernel
theorem dX4_init_29 : decode cX4_init 29 = .ok (.iload_n 3, 1) := by decide +kernel
theorem dX4_init_30 : decode cX4_init 30 = .ok (.aload_n 1, 1) := by decide +kernel
theorem dX4_init_31 : decode cX4_init 31 = .ok (.invokevirtual 26, 3) := by decide +kernel
theorem dX4_init_34 : decode cX4_init 34 = .ok (.iand, 1) := by decide +kernel
theorem dX4_init_35 : decode cX4_init 35 = .ok (.istore 4, 2) := by decide +kernel
theorem dX4_init_37 : decode cX4_init 37 = .ok (.aload_n 0, 1) := by decide +kernel
theorem dX4_init_38 : decode cX4_init 38 = .ok (.aload_n 1, 1) := by decide +kernel
theorem dX4_init_39 : decode cX4_init 39 = .ok (.aload_n 0, 1) := by decide +kernel
theorem dX4_init_40 : decode cX4_init 40 = .ok (.getfield 19, 3) := by decide +kernel
theorem dX4_init_43 : decode cX4_init 43 = .ok (.iload_n 2, 1) := by decide +kernel
theorem dX4_init_44 : decode cX4_init 44 = .ok (.invokevirtual 30, 3) := by decide +kernel
theorem dX4_init_47 : decode cX4_init 47 = .ok (.iload_n 3, 1) := by decide +kernel
theorem dX4_init_48 : decode cX4_init 48 = .ok (.aload_n 1, 1) := by decide +kernel
theorem dX4_init_49 : decode cX4_init 49 = .ok (.invokevirtual 33, 3) := by decide +kernel
theorem dX4_init_52 : decode cX4_init 52 = .ok (.ishr, 1) := by decide +kernel
theorem dX4_init_53 : decode cX4_init 53 = .ok (.invokevirtual 36, 3) := by decide +kernel
theorem dX4_init_56 : decode cX4_init 56 = .ok (.putfield 40, 3) := by decide +kernel
theorem dX4_init_59 : decode cX4_init 59 = .ok (.aload_n 0, 1) := by decide +kernel
theorem dX4_init_60 : decode cX4_init 60 = .ok (.aload_n 1, 1) := by decide +kernel
theorem dX4_init_61 : decode cX4_init 61 = .ok (.aload_n 0, 1) := by decide +kernel
theorem dX4_init_62 : decode cX4_init 62 = .ok (.getfield 40, 3) := by decide +kernel
theorem dX4_init_65 : decode cX4_init 65 = .ok (.invokevirtual 44, 3) := by decide +kernel
theorem dX4_init_68 : decode cX4_init 68 = .ok (.iload 4, 2) := by decide +kernel
theorem dX4_init_70 : decode cX4_init 70 = .ok (.iadd, 1) := by decide +kernel
theorem dX4_init_71 : decode cX4_init 71 = .ok (.putfield 47, 3) := by decide +kernel
theorem dX4_init_74 : decode cX4_init 74 = .ok (.aload_n 0, 1) := by decide +kernel
theorem dX4_init_75 : decode cX4_init 75 = .ok (.aload_n 1, 1) := by decide +kernel
theorem dX4_init_76 : decode cX4_init 76 = .ok (.invokevirtual 26, 3) := by decide +kernel
theorem dX4_init_79 : decode cX4_init 79 = .ok (.iconst 1, 1) := by decide +kernel
theorem dX4_init_80 : decode cX4_init 80 = .ok (.iadd, 1) := by decide +kernel
theorem dX4_init_81 : decode cX4_init 81 = .ok (.iload 4, 2) := by decide +kernel
theorem dX4_init_83 : decode cX4_init 83 = .ok (.isub, 1) := by decide +kernel
theorem dX4_init_84 : decode cX4_init 84 = .ok (.putfield 50, 3) := by decide +kernel
theorem dX4_init_87 : decode cX4_init 87 = .ok (.return_, 1) := by decide +kernel
theorem dX4_append_0 : decode cX4_append 0 = .ok (.aload_n 0, 1) := by decide +kernel
theorem dX4_append_1 : decode cX4_append 1 = .ok (.getfield 50, 3) := by decide +kernel
theorem dX4_append_4 : decode cX4_append 4 = .ok (.ifCond .ne 46, 3) := by decide +kernel
theorem dX4_append_7 : decode cX4_append 7 = .ok (.aload_n 0, 1) := by decide +kernel
theorem dX4_append_8 : decode cX4_append 8 = .ok (.aload_n 0, 1) := by decide +kernel
theorem dX4_append_9 : decode cX4_append 9 = .ok (.getfield 7, 3) := by decide +kernel
theorem dX4_append_12 : decode cX4_append 12 = .ok (.aload_n 0, 1) := by decide +kernel
theorem dX4_append_13 : decode cX4_append 13 = .ok (.getfield 40, 3) := by decide +kernel
theorem dX4_append_16 : decode cX4_append 16 = .ok (.invokevirtual 53, 3) := by decide +kernel
theorem dX4_append_19 : decode cX4_append 19 = .ok (.putfield 40, 3) := by decide +kernel
theorem dX4_append_22 : decode cX4_append 22 = .ok (.aload_n 0, 1) := by decide +kernel
theorem dX4_append_23 : decode cX4_append 23 = .ok (.aload_n 0, 1) := by decide +kernel
theorem dX4_append_24 : decode cX4_append 24 = .ok (.getfield 7, 3) := by decide +kernel
theorem dX4_append_27 : decode cX4_append 27 = .ok (.aload_n 0, 1) := by decide +kernel
theorem dX4_append_28 : decode cX4_append 28 = .ok (.getfield 40, 3) := by decide +kernel
theorem dX4_append_31 : decode cX4_append 31 = .ok (.invokevirtual 44, 3) := by decide +kernel
theorem dX4_append_34 : decode cX4_append 34 = .ok (.putfield 47, 3) := by decide +kernel
theorem dX4_append_37 : decode cX4_append 37 = .ok (.aload_n 0, 1) := by decide +kernel
theorem dX4_append_38 : decode cX4_append 38 = .ok (.aload_n 0, 1) := by decide +kernel
theorem dX4_append_39 : decode cX4_append 39 = .ok (.getfield 7, 3) := by decide +kernel
theorem dX4_append_42 : decode cX4_append 42 = .ok (.invokevirtual 26, 3) := by decide +kernel
theorem dX4_append_45 : decode cX4_append 45 = .ok (.iconst 1, 1) := by decide +kernel
theorem dX4_append_46 : decode cX4_append 46 = .ok (.iadd, 1) := by decide +kernel
theorem dX4_append_47 : decode cX4_append 47 = .ok (.putfield 50, 3) := by decide +kernel
theorem dX4_append_50 : decode cX4_append 50 = .ok (.aload_n 0, 1) := by decide +kernel
theorem dX4_append_51 : decode cX4_append 51 = .ok (.getfield 19, 3) := by decide +kernel
theorem dX4_append_54 : decode cX4_append 54 = .ok (.aload_n 0, 1) := by decide +kernel
theorem dX4_append_55 : decode cX4_append 55 = .ok (.getfield 47, 3) := by decide +kernel
theorem dX4_append_58 : decode cX4_append 58 = .ok (.iload_n 1, 1) := by decide +kernel
theorem dX4_append_59 : decode cX4_append 59 = .ok (.invokevirtual 56, 3) := by decide +kernel
theorem dX4_append_62 : decode cX4_append 62 = .ok (.aload_n 0, 1) := by decide +kernel
theorem dX4_append_63 : decode cX4_append 63 = .ok (.dup, 1) := by decide +kernel
theorem dX4_append_64 : decode cX4_append 64 = .ok (.getfield 47, 3) := by decide +kernel
theorem dX4_append_67 : decode cX4_append 67 = .ok (.iconst 1, 1) := by decide +kernel
theorem dX4_append_68 : decode cX4_append 68 = .ok (.iadd, 1) := by decide +kernel
theorem dX4_append_69 : decode cX4_append 69 = .ok (.putfield 47, 3) := by decide +kernel
theorem dX4_append_72 : decode cX4_append 72 = .ok (.aload_n 0, 1) := by decide +kernel
theorem dX4_append_73 : decode cX4_append 73 = .ok (.dup, 1) := by decide +kernel
theorem dX4_append_74 : decode cX4_append 74 = .ok (.getfield 50, 3) := by decide +kernel
theorem dX4_append_77 : decode cX4_append 77 = .ok (.iconst 1, 1) := by decide +kernel
theorem dX4_append_78 : decode cX4_append 78 = .ok (.isub, 1) := by decide +kernel
theorem dX4_append_79 : decode cX4_append 79 = .ok (.putfield 50, 3) := by decide +kernel
theorem dX4_append_82 : decode cX4_append 82 = .ok (.return_, 1) := by decide +kernel
theorem dX5_mayStandInShortName_0 : decode cX5_mayStandInShortName 0 = .ok (.iload_n 0, 1) := by decide +kernel
theorem dX5_mayStandInShortName_1 : decode cX5_mayStandInShortName 1 = .ok (.bipush 65, 2) := by decide +kernel
theorem dX5_mayStandInShortName_3 : decode cX5_mayStandInShortName 3 = .ok (.if_icmp .lt 9, 3) := by decide +kernel
theorem dX5_mayStandInShortName_6 : decode cX5_mayStandInShortName 6 = .ok (.iload_n 0, 1) := by decide +kernel
theorem dX5_mayStandInShortName_7 : decode cX5_mayStandInShortName 7 = .ok (.bipush 90, 2) := by decide +kernel
theorem dX5_mayStandInShortName_9 : decode cX5_mayStandInShortName 9 = .ok (.if_icmp .le 36, 3) := by decide +kernel
theorem dX5_mayStandInShortName_12 : decode cX5_mayStandInShortName 12 = .ok (.iload_n 0, 1) := by decide +kernel
theorem dX5_mayStandInShortName_13 : decode cX5_mayStandInShortName 13 = .ok (.bipush 48, 2) := by decide +kernel
theorem dX5_mayStandInShortName_15 : decode cX5_mayStandInShortName 15 = .ok (.if_icmp .lt 9, 3) := by decide +kernel
theorem dX5_mayStandInShortName_18 : decode cX5_mayStandInShortName 18 = .ok (.iload_n 0, 1) := by decide +kernel
theorem dX5_mayStandInShortName_19 : decode cX5_mayStandInShortName 19 = .ok (.bipush 57, 2) := by decide +kernel
theorem dX5_mayStandInShortName_21 : decode cX5_mayStandInShortName 21 = .ok (.if_icmp .le 24, 3) := by decide +kernel
theorem dX5_mayStandInShortName_24 : decode cX5_mayStandInShortName 24 = .ok (.iload_n 0, 1) := by decide +kernel
theorem dX5_mayStandInShortName_25 : decode cX5_mayStandInShortName 25 = .ok (.sipush 128, 3) := by decide +kernel
theorem dX5_mayStandInShortName_28 : decode cX5_mayStandInShortName 28 = .ok (.if_icmp .ge 21, 3) := by decide +kernel
theorem dX5_mayStandInShortName_31 : decode cX5_mayStandInShortName 31 = .ok (.iload_n 0, 1) := by decide +kernel
theorem dX5_mayStandInShortName_32 : decode cX5_mayStandInShortName 32 = .ok (.ifCond .lt 17, 3) := by decide +kernel
theorem dX5_mayStandInShortName_35 : decode cX5_mayStandInShortName 35 = .ok (.ldc 11, 2) := by decide +kernel
theorem dX5_mayStandInShortName_37 : decode cX5_mayStandInShortName 37 = .ok (.iload_n 0, 1) := by decide +kernel
theorem dX5_mayStandInShortName_38 : decode cX5_mayStandInShortName 38 = .ok (.i2c, 1) := by decide +kernel
theorem dX5_mayStandInShortName_39 : decode cX5_mayStandInShortName 39 = .ok (.invokevirtual 13, 3) := by decide +kernel
theorem dX5_mayStandInShortName_42 : decode cX5_mayStandInShortName 42 = .ok (.ifCond .lt 7, 3) := by decide +kernel
theorem dX5_mayStandInShortName_45 : decode cX5_mayStandInShortName 45 = .ok (.iconst 1, 1) := by decide +kernel
theorem dX5_mayStandInShortName_46 : decode cX5_mayStandInShortName 46 = .ok (.goto 4, 3) := by decide +kernel
theorem dX5_mayStandInShortName_49 : decode cX5_mayStandInShortName 49 = .ok (.iconst 0, 1) := by decide +kernel
theorem dX5_mayStandInShortName_50 : decode cX5_mayStandInShortName 50 = .ok (.ireturn, 1) := by decide +kernel
theorem dX5_mayStandInName_0 : decode cX5_mayStandInName 0 = .ok (.iload_n 0, 1) := by decide +kernel
theorem dX5_mayStandInName_1 : decode cX5_mayStandInName 1 = .ok (.bipush 32, 2) := by decide +kernel
theorem dX5_mayStandInName_3 : decode cX5_mayStandInName 3 = .ok (.if_icmp .lt 27, 3) := by decide +kernel
theorem dX5_mayStandInName_6 : decode cX5_mayStandInName 6 = .ok (.iload_n 0, 1) := by decide +kernel
theorem dX5_mayStandInName_7 : decode cX5_mayStandInName 7 = .ok (.bipush 127, 2) := by decide +kernel
theorem dX5_mayStandInName_9 : decode cX5_mayStandInName 9 = .ok (.if_icmp .eq 21, 3) := by decide +kernel
theorem dX5_mayStandInName_12 : decode cX5_mayStandInName 12 = .ok (.iload_n 0, 1) := by decide +kernel
theorem dX5_mayStandInName_13 : decode cX5_mayStandInName 13 = .ok (.ldc 19, 2) := by decide +kernel
theorem dX5_mayStandInName_15 : decode cX5_mayStandInName 15 = .ok (.if_icmp .lt 9, 3) := by decide +kernel
theorem dX5_mayStandInName_18 : decode cX5_mayStandInName 18 = .ok (.iload_n 0, 1) := by decide +kernel
theorem dX5_mayStandInName_19 : decode cX5_mayStandInName 19 = .ok (.ldc 20, 2) := by decide +kernel
theorem dX5_mayStandInName_21 : decode cX5_mayStandInName 21 = .ok (.if_icmp .le 9, 3) := by decide +kernel
theorem dX5_mayStandInName_24 : decode cX5_mayStandInName 24 = .ok (.iload_n 0, 1) := by decide +kernel
theorem dX5_mayStandInName_25 : decode cX5_mayStandInName 25 = .ok (.ldc 21, 2) := by decide +kernel
theorem dX5_mayStandInName_27 : decode cX5_mayStandInName 27 = .ok (.if_icmp .le 5, 3) := by decide +kernel
theorem dX5_mayStandInName_30 : decode cX5_mayStandInName 30 = .ok (.iconst 0, 1) := by decide +kernel
theorem dX5_mayStandInName_31 : decode cX5_mayStandInName 31 = .ok (.ireturn, 1) := by decide +kernel
theorem dX5_mayStandInName_32 : decode cX5_mayStandInName 32 = .ok (.iload_n 0, 1) := by decide +kernel
theorem dX5_mayStandInName_33 : decode cX5_mayStandInName 33 = .ok (.bipush 127, 2) := by decide +kernel
theorem dX5_mayStandInName_35 : decode cX5_mayStandInName 35 = .ok (.if_icmp .gt 13, 3) := by decide +kernel
theorem dX5_mayStandInName_38 : decode cX5_mayStandInName 38 = .ok (.ldc 22, 2) := by decide +kernel
theorem dX5_mayStandInName_40 : decode cX5_mayStandInName 40 = .ok (.iload_n 0, 1) := by decide +kernel
theorem dX5_mayStandInName_41 : decode cX5_mayStandInName 41 = .ok (.i2c, 1) := by decide +kernel
theorem dX5_mayStandInName_42 : decode cX5_mayStandInName 42 = .ok (.invokevirtual 13, 3) := by decide +kernel
theorem dX5_mayStandInName_45 : decode cX5_mayStandInName 45 = .ok (.ifCond .ge 7, 3) := by decide +kernel
theorem dX5_mayStandInName_48 : decode cX5_mayStandInName 48 = .ok (.iconst 1, 1) := by decide +kernel
theorem dX5_mayStandInName_49 : decode cX5_mayStandInName 49 = .ok (.goto 4, 3) := by decide +kernel
theorem dX5_mayStandInName_52 : decode cX5_mayStandInName 52 = .ok (.iconst 0, 1) := by decide +kernel
theorem dX5_mayStandInName_53 : decode cX5_mayStandInName 53 = .ok (.ireturn, 1) := by decide +kernel
theorem dX5_capital_0 : decode cX5_capital 0 = .ok (.iload_n 0, 1) := by decide +kernel
theorem dX5_capital_1 : decode cX5_capital 1 = .ok (.bipush 97, 2) := by decide +kernel
theorem dX5_capital_3 : decode cX5_capital 3 = .ok (.if_icmp .lt 16, 3) := by decide +kernel
theorem dX5_capital_6 : decode cX5_capital 6 = .ok (.iload_n 0, 1) := by decide +kernel
theorem dX5_capital_7 : decode cX5_capital 7 = .ok (.bipush 122, 2) := by decide +kernel
theorem dX5_capital_9 : decode cX5_capital 9 = .ok (.if_icmp .gt 10, 3) := by decide +kernel
theorem dX5_capital_12 : decode cX5_capital 12 = .ok (.iload_n 0, 1) := by decide +kernel
theorem dX5_capital_13 : decode cX5_capital 13 = .ok (.bipush 32, 2) := by decide +kernel
theorem dX5_capital_15 : decode cX5_capital 15 = .ok (.isub, 1) := by decide +kernel
theorem dX5_capital_16 : decode cX5_capital 16 = .ok (.goto 4, 3) := by decide +kernel
theorem dX5_capital_19 : decode cX5_capital 19 = .ok (.iload_n 0, 1) := by decide +kernel
theorem dX5_capital_20 : decode cX5_capital 20 = .ok (.ireturn, 1) := by decide +kernel
theorem dX5_shortened_0 : decode cX5_shortened 0 = .ok (.iload_n 0, 1) := by decide +kernel
theorem dX5_shortened_1 : decode cX5_shortened 1 = .ok (.bipush 32, 2) := by decide +kernel
theorem dX5_shortened_3 : decode cX5_shortened 3 = .ok (.if_icmp .eq 9, 3) := by decide +kernel
theorem dX5_shortened_6 : decode cX5_shortened 6 = .ok (.iload_n 0, 1) := by decide +kernel
theorem dX5_shortened_7 : decode cX5_shortened 7 = .ok (.bipush 46, 2) := by decide +kernel
theorem dX5_shortened_9 : decode cX5_shortened 9 = .ok (.if_icmp .ne 5, 3) := by decide +kernel
theorem dX5_shortened_12 : decode cX5_shortened 12 = .ok (.iconst 0, 1) := by decide +kernel
theorem dX5_shortened_13 : decode cX5_shortened 13 = .ok (.ireturn, 1) := by decide +kernel
theorem dX5_shortened_14 : decode cX5_shortened 14 = .ok (.iload_n 0, 1) := by decide +kernel
