theorem dX5_shortened_15 : decode cX5_shortened 15 = .ok (.invokestatic 24, 3) := by decide +kernel
theorem dX5_shortened_18 : decode cX5_shortened 18 = .ok (.istore_n 1, 1) := by decide +kernel
theorem dX5_shortened_19 : decode cX5_shortened 19 = .ok (.iload_n 1, 1) := by decide +kernel
theorem dX5_shortened_20 : decode cX5_shortened 20 = .ok (.invokestatic 27, 3) := by decide +kernel
theorem dX5_shortened_23 : decode cX5_shortened 23 = .ok (.ifCond .eq 7, 3) := by decide +kernel
theorem dX5_shortened_26 : decode cX5_shortened 26 = .ok (.iload_n 1, 1) := by decide +kernel
theorem dX5_shortened_27 : decode cX5_shortened 27 = .ok (.goto 5, 3) := by decide +kernel
theorem dX5_shortened_30 : decode cX5_shortened 30 = .ok (.bipush 95, 2) := by decide +kernel
theorem dX5_shortened_32 : decode cX5_shortened 32 = .ok (.ireturn, 1) := by decide +kernel
theorem dX5_encoded_0 : decode cX5_encoded 0 = .ok (.iload_n 1, 1) := by decide +kernel
theorem dX5_encoded_1 : decode cX5_encoded 1 = .ok (.iconst 1, 1) := by decide +kernel
theorem dX5_encoded_2 : decode cX5_encoded 2 = .ok (.if_icmp .ne 5, 3) := by decide +kernel
theorem dX5_encoded_5 : decode cX5_encoded 5 = .ok (.iload_n 0, 1) := by decide +kernel
theorem dX5_encoded_6 : decode cX5_encoded 6 = .ok (.ireturn, 1) := by decide +kernel
theorem dX5_encoded_7 : decode cX5_encoded 7 = .ok (.iload_n 2, 1) := by decide +kernel
theorem dX5_encoded_8 : decode cX5_encoded 8 = .ok (.ifCond .le 21, 3) := by decide +kernel
theorem dX5_encoded_11 : decode cX5_encoded 11 = .ok (.sipush 128, 3) := by decide +kernel
theorem dX5_encoded_14 : decode cX5_encoded 14 = .ok (.iload_n 0, 1) := by decide +kernel
theorem dX5_encoded_15 : decode cX5_encoded 15 = .ok (.bipush 6, 2) := by decide +kernel
theorem dX5_encoded_17 : decode cX5_encoded 17 = .ok (.iload_n 1, 1) := by decide +kernel
theorem dX5_encoded_18 : decode cX5_encoded 18 = .ok (.iconst 1, 1) := by decide +kernel
theorem dX5_encoded_19 : decode cX5_encoded 19 = .ok (.isub, 1) := by decide +kernel
theorem dX5_encoded_20 : decode cX5_encoded 20 = .ok (.iload_n 2, 1) := by decide +kernel
theorem dX5_encoded_21 : decode cX5_encoded 21 = .ok (.isub, 1) := by decide +kernel
theorem dX5_encoded_22 : decode cX5_encoded 22 = .ok (.imul, 1) := by decide +kernel
theorem dX5_encoded_23 : decode cX5_encoded 23 = .ok (.ishr, 1) := by decide +kernel
theorem dX5_encoded_24 : decode cX5_encoded 24 = .ok (.bipush 63, 2) := by decide +kernel
theorem dX5_encoded_26 : decode cX5_encoded 26 = .ok (.iand, 1) := by decide +kernel
theorem dX5_encoded_27 : decode cX5_encoded 27 = .ok (.ior, 1) := by decide +kernel
theorem dX5_encoded_28 : decode cX5_encoded 28 = .ok (.ireturn, 1) := by decide +kernel
theorem dX5_encoded_29 : decode cX5_encoded 29 = .ok (.iload_n 1, 1) := by decide +kernel
theorem dX5_encoded_30 : decode cX5_encoded 30 = .ok (.iconst 2, 1) := by decide +kernel
theorem dX5_encoded_31 : decode cX5_encoded 31 = .ok (.if_icmp .ne 14, 3) := by decide +kernel
theorem dX5_encoded_34 : decode cX5_encoded 34 = .ok (.sipush 192, 3) := by decide +kernel
theorem dX5_encoded_37 : decode cX5_encoded 37 = .ok (.iload_n 0, 1) := by decide +kernel
theorem dX5_encoded_38 : decode cX5_encoded 38 = .ok (.bipush 6, 2) := by decide +kernel
theorem dX5_encoded_40 : decode cX5_encoded 40 = .ok (.ishr, 1) := by decide +kernel
theorem dX5_encoded_41 : decode cX5_encoded 41 = .ok (.ior, 1) := by decide +kernel
theorem dX5_encoded_42 : decode cX5_encoded 42 = .ok (.goto 11, 3) := by decide +kernel
theorem dX5_encoded_45 : decode cX5_encoded 45 = .ok (.sipush 224, 3) := by decide +kernel
theorem dX5_encoded_48 : decode cX5_encoded 48 = .ok (.iload_n 0, 1) := by decide +kernel
theorem dX5_encoded_49 : decode cX5_encoded 49 = .ok (.bipush 12, 2) := by decide +kernel
theorem dX5_encoded_51 : decode cX5_encoded 51 = .ok (.ishr, 1) := by decide +kernel
theorem dX5_encoded_52 : decode cX5_encoded 52 = .ok (.ior, 1) := by decide +kernel
theorem dX5_encoded_53 : decode cX5_encoded 53 = .ok (.ireturn, 1) := by decide +kernel
theorem dX6_init_0 : decode cX6_init 0 = .ok (.aload_n 0, 1) := by decide +kernel
theorem dX6_init_1 : decode cX6_init 1 = .ok (.invokespecial 3, 3) := by decide +kernel
theorem dX6_init_4 : decode cX6_init 4 = .ok (.aload_n 0, 1) := by decide +kernel
theorem dX6_init_5 : decode cX6_init 5 = .ok (.sipush 260, 3) := by decide +kernel
theorem dX6_init_8 : decode cX6_init 8 = .ok (.newarray .int, 2) := by decide +kernel
theorem dX6_init_10 : decode cX6_init 10 = .ok (.putfield 11, 3) := by decide +kernel
theorem dX6_init_13 : decode cX6_init 13 = .ok (.return_, 1) := by decide +kernel
theorem dX6_unit_0 : decode cX6_unit 0 = .ok (.iload_n 1, 1) := by decide +kernel
theorem dX6_unit_1 : decode cX6_unit 1 = .ok (.ifCond .lt 12, 3) := by decide +kernel
theorem dX6_unit_4 : decode cX6_unit 4 = .ok (.iload_n 1, 1) := by decide +kernel
theorem dX6_unit_5 : decode cX6_unit 5 = .ok (.aload_n 0, 1) := by decide +kernel
theorem dX6_unit_6 : decode cX6_unit 6 = .ok (.getfield 11, 3) := by decide +kernel
theorem dX6_unit_9 : decode cX6_unit 9 = .ok (.arraylength, 1) := by decide +kernel
theorem dX6_unit_10 : decode cX6_unit 10 = .ok (.if_icmp .lt 7, 3) := by decide +kernel
theorem dX6_unit_13 : decode cX6_unit 13 = .ok (.iconst 0, 1) := by decide +kernel
theorem dX6_unit_14 : decode cX6_unit 14 = .ok (.goto 9, 3) := by decide +kernel
theorem dX6_unit_17 : decode cX6_unit 17 = .ok (.aload_n 0, 1) := by decide +kernel
theorem dX6_unit_18 : decode cX6_unit 18 = .ok (.getfield 11, 3) := by decide +kernel
theorem dX6_unit_21 : decode cX6_unit 21 = .ok (.iload_n 1, 1) := by decide +kernel
theorem dX6_unit_22 : decode cX6_unit 22 = .ok (.iaload, 1) := by decide +kernel
theorem dX6_unit_23 : decode cX6_unit 23 = .ok (.ireturn, 1) := by decide +kernel
theorem dX6_partsWanted_0 : decode cX6_partsWanted 0 = .ok (.aload_n 0, 1) := by decide +kernel
theorem dX6_partsWanted_1 : decode cX6_partsWanted 1 = .ok (.getfield 15, 3) := by decide +kernel
theorem dX6_partsWanted_4 : decode cX6_partsWanted 4 = .ok (.bipush 13, 2) := by decide +kernel
theorem dX6_partsWanted_6 : decode cX6_partsWanted 6 = .ok (.iadd, 1) := by decide +kernel
theorem dX6_partsWanted_7 : decode cX6_partsWanted 7 = .ok (.iconst 1, 1) := by decide +kernel
theorem dX6_partsWanted_8 : decode cX6_partsWanted 8 = .ok (.isub, 1) := by decide +kernel
theorem dX6_partsWanted_9 : decode cX6_partsWanted 9 = .ok (.bipush 13, 2) := by decide +kernel
theorem dX6_partsWanted_11 : decode cX6_partsWanted 11 = .ok (.idiv, 1) := by decide +kernel
theorem dX6_partsWanted_12 : decode cX6_partsWanted 12 = .ok (.ireturn, 1) := by decide +kernel
theorem dX6_read_0 : decode cX6_read 0 = .ok (.aload_n 0, 1) := by decide +kernel
theorem dX6_read_1 : decode cX6_read 1 = .ok (.iconst 0, 1) := by decide +kernel
theorem dX6_read_2 : decode cX6_read 2 = .ok (.putfield 15, 3) := by decide +kernel
theorem dX6_read_5 : decode cX6_read 5 = .ok (.aload_n 1, 1) := by decide +kernel
theorem dX6_read_6 : decode cX6_read 6 = .ok (.iload_n 2, 1) := by decide +kernel
theorem dX6_read_7 : decode cX6_read 7 = .ok (.invokevirtual 19, 3) := by decide +kernel
theorem dX6_read_10 : decode cX6_read 10 = .ok (.istore 4, 2) := by decide +kernel
theorem dX6_read_12 : decode cX6_read 12 = .ok (.iconst 0, 1) := by decide +kernel
theorem dX6_read_13 : decode cX6_read 13 = .ok (.istore 5, 2) := by decide +kernel
theorem dX6_read_15 : decode cX6_read 15 = .ok (.iload_n 3, 1) := by decide +kernel
theorem dX6_read_16 : decode cX6_read 16 = .ok (.ifCond .ne 93, 3) := by decide +kernel
theorem dX6_read_19 : decode cX6_read 19 = .ok (.iload 5, 2) := by decide +kernel
theorem dX6_read_21 : decode cX6_read 21 = .ok (.bipush 11, 2) := by decide +kernel
theorem dX6_read_23 : decode cX6_read 23 = .ok (.if_icmp .ge 86, 3) := by decide +kernel
theorem dX6_read_26 : decode cX6_read 26 = .ok (.aload_n 1, 1) := by decide +kernel
theorem dX6_read_27 : decode cX6_read 27 = .ok (.getfield 25, 3) := by decide +kernel
theorem dX6_read_30 : decode cX6_read 30 = .ok (.iload 4, 2) := by decide +kernel
theorem dX6_read_32 : decode cX6_read 32 = .ok (.iload 5, 2) := by decide +kernel
theorem dX6_read_34 : decode cX6_read 34 = .ok (.iadd, 1) := by decide +kernel
theorem dX6_read_35 : decode cX6_read 35 = .ok (.invokevirtual 29, 3) := by decide +kernel
theorem dX6_read_38 : decode cX6_read 38 = .ok (.istore 6, 2) := by decide +kernel
theorem dX6_read_40 : decode cX6_read 40 = .ok (.iload 5, 2) := by decide +kernel
theorem dX6_read_42 : decode cX6_read 42 = .ok (.bipush 8, 2) := by decide +kernel
theorem dX6_read_44 : decode cX6_read 44 = .ok (.if_icmp .ne 31, 3) := by decide +kernel
theorem dX6_read_47 : decode cX6_read 47 = .ok (.iload 6, 2) := by decide +kernel
theorem dX6_read_49 : decode cX6_read 49 = .ok (.bipush 32, 2) := by decide +kernel
theorem dX6_read_51 : decode cX6_read 51 = .ok (.if_icmp .eq 24, 3) := by decide +kernel
theorem dX6_read_54 : decode cX6_read 54 = .ok (.aload_n 0, 1) := by decide +kernel
theorem dX6_read_55 : decode cX6_read 55 = .ok (.getfield 11, 3) := by decide +kernel
theorem dX6_read_58 : decode cX6_read 58 = .ok (.aload_n 0, 1) := by decide +kernel
theorem dX6_read_59 : decode cX6_read 59 = .ok (.getfield 15, 3) := by decide +kernel
theorem dX6_read_62 : decode cX6_read 62 = .ok (.bipush 46, 2) := by decide +kernel
theorem dX6_read_64 : decode cX6_read 64 = .ok (.iastore, 1) := by decide +kernel
theorem dX6_read_65 : decode cX6_read 65 = .ok (.aload_n 0, 1) := by decide +kernel
theorem dX6_read_66 : decode cX6_read 66 = .ok (.dup, 1) := by decide +kernel
theorem dX6_read_67 : decode cX6_read 67 = .ok (.getfield 15, 3) := by decide +kernel
theorem dX6_read_70 : decode cX6_read 70 = .ok (.iconst 1, 1) := by decide +kernel
theorem dX6_read_71 : decode cX6_read 71 = .ok (.iadd, 1) := by decide +kernel
theorem dX6_read_72 : decode cX6_read 72 = .ok (.putfield 15, 3) := by decide +kernel
theorem dX6_read_75 : decode cX6_read 75 = .ok (.iload 6, 2) := by decide +kernel
theorem dX6_read_77 : decode cX6_read 77 = .ok (.bipush 32, 2) := by decide +kernel
theorem dX6_read_79 : decode cX6_read 79 = .ok (.if_icmp .eq 24, 3) := by decide +kernel
theorem dX6_read_82 : decode cX6_read 82 = .ok (.aload_n 0, 1) := by decide +kernel
theorem dX6_read_83 : decode cX6_read 83 = .ok (.getfield 11, 3) := by decide +kernel
theorem dX6_read_86 : decode cX6_read 86 = .ok (.aload_n 0, 1) := by decide +kernel
theorem dX6_read_87 : decode cX6_read 87 = .ok (.getfield 15, 3) := by decide +kernel
theorem dX6_read_90 : decode cX6_read 90 = .ok (.iload 6, 2) := by decide +kernel
theorem dX6_read_92 : decode cX6_read 92 = .ok (.iastore, 1) := by decide +kernel
theorem dX6_read_93 : decode cX6_read 93 = .ok (.aload_n 0, 1) := by decide +kernel
theorem dX6_read_94 : decode cX6_read 94 = .ok (.dup, 1) := by decide +kernel
theorem dX6_read_95 : decode cX6_read 95 = .ok (.getfield 15, 3) := by decide +kernel
theorem dX6_read_98 : decode cX6_read 98 = .ok (.iconst 1, 1) := by decide +kernel
theorem dX6_read_99 : decode cX6_read 99 = .ok (.iadd, 1) := by decide +kernel
theorem dX6_read_100 : decode cX6_read 100 = .ok (.putfield 15, 3) := by decide +kernel
theorem dX6_read_103 : decode cX6_read 103 = .ok (.iinc 5 1, 3) := by decide +kernel
theorem dX6_read_106 : decode cX6_read 106 = .ok (.goto (-91), 3) := by decide +kernel
theorem dX6_read_109 : decode cX6_read 109 = .ok (.iload_n 3, 1) := by decide +kernel
theorem dX6_read_110 : decode cX6_read 110 = .ok (.bipush 13, 2) := by decide +kernel
theorem dX6_read_112 : decode cX6_read 112 = .ok (.imul, 1) := by decide +kernel
theorem dX6_read_113 : decode cX6_read 113 = .ok (.aload_n 0, 1) := by decide +kernel
theorem dX6_read_114 : decode cX6_read 114 = .ok (.getfield 11, 3) := by decide +kernel
theorem dX6_read_117 : decode cX6_read 117 = .ok (.arraylength, 1) := by decide +kernel
theorem dX6_read_118 : decode cX6_read 118 = .ok (.invokestatic 34, 3) := by decide +kernel
theorem dX6_read_121 : decode cX6_read 121 = .ok (.istore 5, 2) := by decide +kernel
theorem dX6_read_123 : decode cX6_read 123 = .ok (.iconst 0, 1) := by decide +kernel
theorem dX6_read_124 : decode cX6_read 124 = .ok (.istore 6, 2) := by decide +kernel
theorem dX6_read_126 : decode cX6_read 126 = .ok (.iload 6, 2) := by decide +kernel
theorem dX6_read_128 : decode cX6_read 128 = .ok (.iload 5, 2) := by decide +kernel
theorem dX6_read_130 : decode cX6_read 130 = .ok (.if_icmp .ge 59, 3) := by decide +kernel
theorem dX6_read_133 : decode cX6_read 133 = .ok (.iload 6, 2) := by decide +kernel
theorem dX6_read_135 : decode cX6_read 135 = .ok (.bipush 13, 2) := by decide +kernel
theorem dX6_read_137 : decode cX6_read 137 = .ok (.irem, 1) := by decide +kernel
theorem dX6_read_138 : decode cX6_read 138 = .ok (.istore 7, 2) := by decide +kernel
theorem dX6_read_140 : decode cX6_read 140 = .ok (.iload 7, 2) := by decide +kernel
theorem dX6_read_142 : decode cX6_read 142 = .ok (.ifCond .ne 18, 3) := by decide +kernel
theorem dX6_read_145 : decode cX6_read 145 = .ok (.aload_n 1, 1) := by decide +kernel
theorem dX6_read_146 : decode cX6_read 146 = .ok (.iload_n 2, 1) := by decide +kernel
theorem dX6_read_147 : decode cX6_read 147 = .ok (.iconst 1, 1) := by decide +kernel
theorem dX6_read_148 : decode cX6_read 148 = .ok (.isub, 1) := by decide +kernel
theorem dX6_read_149 : decode cX6_read 149 = .ok (.iload 6, 2) := by decide +kernel
theorem dX6_read_151 : decode cX6_read 151 = .ok (.bipush 13, 2) := by decide +kernel
theorem dX6_read_153 : decode cX6_read 153 = .ok (.idiv, 1) := by decide +kernel
theorem dX6_read_154 : decode cX6_read 154 = .ok (.isub, 1) := by decide +kernel
theorem dX6_read_155 : decode cX6_read 155 = .ok (.invokevirtual 19, 3) := by decide +kernel
theorem dX6_read_158 : decode cX6_read 158 = .ok (.istore 4, 2) := by decide +kernel
theorem dX6_read_160 : decode cX6_read 160 = .ok (.aload_n 0, 1) := by decide +kernel
theorem dX6_read_161 : decode cX6_read 161 = .ok (.getfield 11, 3) := by decide +kernel
theorem dX6_read_164 : decode cX6_read 164 = .ok (.iload 6, 2) := by decide +kernel
theorem dX6_read_166 : decode cX6_read 166 = .ok (.aload_n 1, 1) := by decide +kernel
theorem dX6_read_167 : decode cX6_read 167 = .ok (.getfield 25, 3) := by decide +kernel
theorem dX6_read_170 : decode cX6_read 170 = .ok (.iload 4, 2) := by decide +kernel
theorem dX6_read_172 : decode cX6_read 172 = .ok (.getstatic 40, 3) := by decide +kernel
theorem dX6_read_175 : decode cX6_read 175 = .ok (.iload 7, 2) := by decide +kernel
theorem dX6_read_177 : decode cX6_read 177 = .ok (.iaload, 1) := by decide +kernel
theorem dX6_read_178 : decode cX6_read 178 = .ok (.iadd, 1) := by decide +kernel
theorem dX6_read_179 : decode cX6_read 179 = .ok (.invokevirtual 43, 3) := by decide +kernel
theorem dX6_read_182 : decode cX6_read 182 = .ok (.iastore, 1) := by decide +kernel
theorem dX6_read_183 : decode cX6_read 183 = .ok (.iinc 6 1, 3) := by decide +kernel
theorem dX6_read_186 : decode cX6_read 186 = .ok (.goto (-60), 3) := by decide +kernel
theorem dX6_read_189 : decode cX6_read 189 = .ok (.aload_n 0, 1) := by decide +kernel
theorem dX6_read_190 : decode cX6_read 190 = .ok (.getfield 15, 3) := by decide +kernel
theorem dX6_read_193 : decode cX6_read 193 = .ok (.iload 5, 2) := by decide +kernel
theorem dX6_read_195 : decode cX6_read 195 = .ok (.if_icmp .ge 28, 3) := by decide +kernel
theorem dX6_read_198 : decode cX6_read 198 = .ok (.aload_n 0, 1) := by decide +kernel
theorem dX6_read_199 : decode cX6_read 199 = .ok (.getfield 11, 3) := by decide +kernel
theorem dX6_read_202 : decode cX6_read 202 = .ok (.aload_n 0, 1) := by decide +kernel
theorem dX6_read_203 : decode cX6_read 203 = .ok (.getfield 15, 3) := by decide +kernel
theorem dX6_read_206 : decode cX6_read 206 = .ok (.iaload, 1) := by decide +kernel
theorem dX6_read_207 : decode cX6_read 207 = .ok (.ifCond .eq 16, 3) := by decide +kernel
theorem dX6_read_210 : decode cX6_read 210 = .ok (.aload_n 0, 1) := by decide +kernel
theorem dX6_read_211 : decode cX6_read 211 = .ok (.dup, 1) := by decide +kernel
theorem dX6_read_212 : decode cX6_read 212 = .ok (.getfield 15, 3) := by decide +kernel
theorem dX6_read_215 : decode cX6_read 215 = .ok (.iconst 1, 1) := by decide +kernel
theorem dX6_read_216 : decode cX6_read 216 = .ok (.iadd, 1) := by decide +kernel
theorem dX6_read_217 : decode cX6_read 217 = .ok (.putfield 15, 3) := by decide +kernel
theorem dX6_read_220 : decode cX6_read 220 = .ok (.goto (-31), 3) := by decide +kernel
theorem dX6_read_223 : decode cX6_read 223 = .ok (.return_, 1) := by decide +kernel
theorem dX6_readTape_0 : decode cX6_readTape 0 = .ok (.aload_n 0, 1) := by decide +kernel
theorem dX6_readTape_1 : decode cX6_readTape 1 = .ok (.iconst 0, 1) := by decide +kernel
theorem dX6_readTape_2 : decode cX6_readTape 2 = .ok (.putfield 15, 3) := by decide +kernel
theorem dX6_readTape_5 : decode cX6_readTape 5 = .ok (.iload_n 2, 1) := by decide +kernel
theorem dX6_readTape_6 : decode cX6_readTape 6 = .ok (.iconst 1, 1) := by decide +kernel
theorem dX6_readTape_7 : decode cX6_readTape 7 = .ok (.iand, 1) := by decide +kernel
theorem dX6_readTape_8 : decode cX6_readTape 8 = .ok (.ifCond .ne 10, 3) := by decide +kernel
theorem dX6_readTape_11 : decode cX6_readTape 11 = .ok (.iload_n 2, 1) := by decide +kernel
theorem dX6_readTape_12 : decode cX6_readTape 12 = .ok (.sipush 510, 3) := by decide +kernel
theorem dX6_readTape_15 : decode cX6_readTape 15 = .ok (.if_icmp .le 5, 3) := by decide +kernel
theorem dX6_readTape_18 : decode cX6_readTape 18 = .ok (.iconst 0, 1) := by decide +kernel
theorem dX6_readTape_19 : decode cX6_readTape 19 = .ok (.ireturn, 1) := by decide +kernel
theorem dX6_readTape_20 : decode cX6_readTape 20 = .ok (.iconst 0, 1) := by decide +kernel
theorem dX6_readTape_21 : decode cX6_readTape 21 = .ok (.istore_n 3, 1) := by decide +kernel
theorem dX6_readTape_22 : decode cX6_readTape 22 = .ok (.iload_n 3, 1) := by decide +kernel
theorem dX6_readTape_23 : decode cX6_readTape 23 = .ok (.iload_n 2, 1) := by decide +kernel
theorem dX6_readTape_24 : decode cX6_readTape 24 = .ok (.iconst 2, 1) := by decide +kernel
theorem dX6_readTape_25 : decode cX6_readTape 25 = .ok (.idiv, 1) := by decide +kernel
theorem dX6_readTape_26 : decode cX6_readTape 26 = .ok (.if_icmp .ge 54, 3) := by decide +kernel
theorem dX6_readTape_29 : decode cX6_readTape 29 = .ok (.iload_n 3, 1) := by decide +kernel
theorem dX6_readTape_30 : decode cX6_readTape 30 = .ok (.aload_n 0, 1) := by decide +kernel
theorem dX6_readTape_31 : decode cX6_readTape 31 = .ok (.getfield 11, 3) := by decide +kernel
theorem dX6_readTape_34 : decode cX6_readTape 34 = .ok (.arraylength, 1) := by decide +kernel
theorem dX6_readTape_35 : decode cX6_readTape 35 = .ok (.if_icmp .ge 45, 3) := by decide +kernel
theorem dX6_readTape_38 : decode cX6_readTape 38 = .ok (.aload_n 0, 1) := by decide +kernel
theorem dX6_readTape_39 : decode cX6_readTape 39 = .ok (.getfield 11, 3) := by decide +kernel
theorem dX6_readTape_42 : decode cX6_readTape 42 = .ok (.iload_n 3, 1) := by decide +kernel
theorem dX6_readTape_43 : decode cX6_readTape 43 = .ok (.aload_n 1, 1) := by decide +kernel
theorem dX6_readTape_44 : decode cX6_readTape 44 = .ok (.iconst 2, 1) := by decide +kernel
theorem dX6_readTape_45 : decode cX6_readTape 45 = .ok (.iload_n 3, 1) := by decide +kernel
theorem dX6_readTape_46 : decode cX6_readTape 46 = .ok (.imul, 1) := by decide +kernel
theorem dX6_readTape_47 : decode cX6_readTape 47 = .ok (.invokevirtual 46, 3) := by decide +kernel
theorem dX6_readTape_50 : decode cX6_readTape 50 = .ok (.bipush 8, 2) := by decide +kernel
theorem dX6_readTape_52 : decode cX6_readTape 52 = .ok (.ishl, 1) := by decide +kernel
theorem dX6_readTape_53 : decode cX6_readTape 53 = .ok (.aload_n 1, 1) := by decide +kernel
theorem dX6_readTape_54 : decode cX6_readTape 54 = .ok (.iconst 2, 1) := by decide +kernel
theorem dX6_readTape_55 : decode cX6_readTape 55 = .ok (.iload_n 3, 1) := by decide +kernel
theorem dX6_readTape_56 : decode cX6_readTape 56 = .ok (.imul, 1) := by decide +kernel
theorem dX6_readTape_57 : decode cX6_readTape 57 = .ok (.iconst 1, 1) := by decide +kernel
theorem dX6_readTape_58 : decode cX6_readTape 58 = .ok (.iadd, 1) := by decide +kernel
theorem dX6_readTape_59 : decode cX6_readTape 59 = .ok (.invokevirtual 46, 3) := by decide +kernel
theorem dX6_readTape_62 : decode cX6_readTape 62 = .ok (.ior, 1) := by decide +kernel
theorem dX6_readTape_63 : decode cX6_readTape 63 = .ok (.iastore, 1) := by decide +kernel
theorem dX6_readTape_64 : decode cX6_readTape 64 = .ok (.aload_n 0, 1) := by decide +kernel
theorem dX6_readTape_65 : decode cX6_readTape 65 = .ok (.dup, 1) := by decide +kernel
theorem dX6_readTape_66 : decode cX6_readTape 66 = .ok (.getfield 15, 3) := by decide +kernel
theorem dX6_readTape_69 : decode cX6_readTape 69 = .ok (.iconst 1, 1) := by decide +kernel
theorem dX6_readTape_70 : decode cX6_readTape 70 = .ok (.iadd, 1) := by decide +kernel
theorem dX6_readTape_71 : decode cX6_readTape 71 = .ok (.putfield 15, 3) := by decide +kernel
theorem dX6_readTape_74 : decode cX6_readTape 74 = .ok (.iinc 3 1, 3) := by decide +kernel
theorem dX6_readTape_77 : decode cX6_readTape 77 = .ok (.goto (-55), 3) := by decide +kernel
theorem dX6_readTape_80 : decode cX6_readTape 80 = .ok (.aload_n 0, 1) := by decide +kernel
theorem dX6_readTape_81 : decode cX6_readTape 81 = .ok (.invokevirtual 51, 3) := by decide +kernel
theorem dX6_readTape_84 : decode cX6_readTape 84 = .ok (.ireturn, 1) := by decide +kernel
theorem dX6_asTold_0 : decode cX6_asTold 0 = .ok (.aload_n 0, 1) := by decide +kernel
theorem dX6_asTold_1 : decode cX6_asTold 1 = .ok (.getfield 15, 3) := by decide +kernel
theorem dX6_asTold_4 : decode cX6_asTold 4 = .ok (.iconst 1, 1) := by decide +kernel
theorem dX6_asTold_5 : decode cX6_asTold 5 = .ok (.if_icmp .lt 25, 3) := by decide +kernel
theorem dX6_asTold_8 : decode cX6_asTold 8 = .ok (.aload_n 0, 1) := by decide +kernel
theorem dX6_asTold_9 : decode cX6_asTold 9 = .ok (.getfield 15, 3) := by decide +kernel
theorem dX6_asTold_12 : decode cX6_asTold 12 = .ok (.sipush 255, 3) := by decide +kernel
theorem dX6_asTold_15 : decode cX6_asTold 15 = .ok (.if_icmp .gt 15, 3) := by decide +kernel
theorem dX6_asTold_18 : decode cX6_asTold 18 = .ok (.aload_n 0, 1) := by decide +kernel
theorem dX6_asTold_19 : decode cX6_asTold 19 = .ok (.getfield 15, 3) := by decide +kernel
theorem dX6_asTold_22 : decode cX6_asTold 22 = .ok (.aload_n 0, 1) := by decide +kernel
theorem dX6_asTold_23 : decode cX6_asTold 23 = .ok (.getfield 11, 3) := by decide +kernel
theorem dX6_asTold_26 : decode cX6_asTold 26 = .ok (.arraylength, 1) := by decide +kernel
theorem dX6_asTold_27 : decode cX6_asTold 27 = .ok (.if_icmp .le 5, 3) := by decide +kernel
theorem dX6_asTold_30 : decode cX6_asTold 30 = .ok (.iconst 0, 1) := by decide +kernel
theorem dX6_asTold_31 : decode cX6_asTold 31 = .ok (.ireturn, 1) := by decide +kernel
theorem dX6_asTold_32 : decode cX6_asTold 32 = .ok (.iconst 0, 1) := by decide +kernel
theorem dX6_asTold_33 : decode cX6_asTold 33 = .ok (.istore_n 1, 1) := by decide +kernel
theorem dX6_asTold_34 : decode cX6_asTold 34 = .ok (.iload_n 1, 1) := by decide +kernel
theorem dX6_asTold_35 : decode cX6_asTold 35 = .ok (.aload_n 0, 1) := by decide +kernel
theorem dX6_asTold_36 : decode cX6_asTold 36 = .ok (.getfield 15, 3) := by decide +kernel
theorem dX6_asTold_39 : decode cX6_asTold 39 = .ok (.if_icmp .ge 23, 3) := by decide +kernel
theorem dX6_asTold_42 : decode cX6_asTold 42 = .ok (.aload_n 0, 1) := by decide +kernel
theorem dX6_asTold_43 : decode cX6_asTold 43 = .ok (.getfield 11, 3) := by decide +kernel
theorem dX6_asTold_46 : decode cX6_asTold 46 = .ok (.iload_n 1, 1) := by decide +kernel
theorem dX6_asTold_47 : decode cX6_asTold 47 = .ok (.iaload, 1) := by decide +kernel
theorem dX6_asTold_48 : decode cX6_asTold 48 = .ok (.invokestatic 55, 3) := by decide +kernel
theorem dX6_asTold_51 : decode cX6_asTold 51 = .ok (.ifCond .ne 5, 3) := by decide +kernel
theorem dX6_asTold_54 : decode cX6_asTold 54 = .ok (.iconst 0, 1) := by decide +kernel
theorem dX6_asTold_55 : decode cX6_asTold 55 = .ok (.ireturn, 1) := by decide +kernel
theorem dX6_asTold_56 : decode cX6_asTold 56 = .ok (.iinc 1 1, 3) := by decide +kernel
theorem dX6_asTold_59 : decode cX6_asTold 59 = .ok (.goto (-25), 3) := by decide +kernel
theorem dX6_asTold_62 : decode cX6_asTold 62 = .ok (.aload_n 0, 1) := by decide +kernel
theorem dX6_asTold_63 : decode cX6_asTold 63 = .ok (.getfield 11, 3) := by decide +kernel
theorem dX6_asTold_66 : decode cX6_asTold 66 = .ok (.aload_n 0, 1) := by decide +kernel
theorem dX6_asTold_67 : decode cX6_asTold 67 = .ok (.getfield 15, 3) := by decide +kernel
theorem dX6_asTold_70 : decode cX6_asTold 70 = .ok (.iconst 1, 1) := by decide +kernel
theorem dX6_asTold_71 : decode cX6_asTold 71 = .ok (.isub, 1) := by decide +kernel
theorem dX6_asTold_72 : decode cX6_asTold 72 = .ok (.iaload, 1) := by decide +kernel
theorem dX6_asTold_73 : decode cX6_asTold 73 = .ok (.bipush 32, 2) := by decide +kernel
theorem dX6_asTold_75 : decode cX6_asTold 75 = .ok (.if_icmp .eq 23, 3) := by decide +kernel
theorem dX6_asTold_78 : decode cX6_asTold 78 = .ok (.aload_n 0, 1) := by decide +kernel
theorem dX6_asTold_79 : decode cX6_asTold 79 = .ok (.getfield 11, 3) := by decide +kernel
theorem dX6_asTold_82 : decode cX6_asTold 82 = .ok (.aload_n 0, 1) := by decide +kernel
theorem dX6_asTold_83 : decode cX6_asTold 83 = .ok (.getfield 15, 3) := by decide +kernel
theorem dX6_asTold_86 : decode cX6_asTold 86 = .ok (.iconst 1, 1) := by decide +kernel
theorem dX6_asTold_87 : decode cX6_asTold 87 = .ok (.isub, 1) := by decide +kernel
theorem dX6_asTold_88 : decode cX6_asTold 88 = .ok (.iaload, 1) := by decide +kernel
theorem dX6_asTold_89 : decode cX6_asTold 89 = .ok (.bipush 46, 2) := by decide +kernel
theorem dX6_asTold_91 : decode cX6_asTold 91 = .ok (.if_icmp .eq 7, 3) := by decide +kernel
theorem dX6_asTold_94 : decode cX6_asTold 94 = .ok (.iconst 1, 1) := by decide +kernel
theorem dX6_asTold_95 : decode cX6_asTold 95 = .ok (.goto 4, 3) := by decide +kernel
theorem dX6_asTold_98 : decode cX6_asTold 98 = .ok (.iconst 0, 1) := by decide +kernel
theorem dX6_asTold_99 : decode cX6_asTold 99 = .ok (.ireturn, 1) := by decide +kernel
theorem dX6_fills_0 : decode cX6_fills 0 = .ok (.aload_n 0, 1) := by decide +kernel
theorem dX6_fills_1 : decode cX6_fills 1 = .ok (.invokevirtual 61, 3) := by decide +kernel
theorem dX6_fills_4 : decode cX6_fills 4 = .ok (.iload_n 1, 1) := by decide +kernel
theorem dX6_fills_5 : decode cX6_fills 5 = .ok (.if_icmp .eq 5, 3) := by decide +kernel
theorem dX6_fills_8 : decode cX6_fills 8 = .ok (.iconst 0, 1) := by decide +kernel
theorem dX6_fills_9 : decode cX6_fills 9 = .ok (.ireturn, 1) := by decide +kernel
theorem dX6_fills_10 : decode cX6_fills 10 = .ok (.aload_n 0, 1) := by decide +kernel
theorem dX6_fills_11 : decode cX6_fills 11 = .ok (.getfield 15, 3) := by decide +kernel
theorem dX6_fills_14 : decode cX6_fills 14 = .ok (.iconst 1, 1) := by decide +kernel
theorem dX6_fills_15 : decode cX6_fills 15 = .ok (.iadd, 1) := by decide +kernel
theorem dX6_fills_16 : decode cX6_fills 16 = .ok (.istore_n 2, 1) := by decide +kernel
theorem dX6_fills_17 : decode cX6_fills 17 = .ok (.iload_n 2, 1) := by decide +kernel
theorem dX6_fills_18 : decode cX6_fills 18 = .ok (.iload_n 1, 1) := by decide +kernel
theorem dX6_fills_19 : decode cX6_fills 19 = .ok (.bipush 13, 2) := by decide +kernel
theorem dX6_fills_21 : decode cX6_fills 21 = .ok (.imul, 1) := by decide +kernel
theorem dX6_fills_22 : decode cX6_fills 22 = .ok (.if_icmp .ge 31, 3) := by decide +kernel
theorem dX6_fills_25 : decode cX6_fills 25 = .ok (.iload_n 2, 1) := by decide +kernel
theorem dX6_fills_26 : decode cX6_fills 26 = .ok (.aload_n 0, 1) := by decide +kernel
theorem dX6_fills_27 : decode cX6_fills 27 = .ok (.getfield 11, 3) := by decide +kernel
theorem dX6_fills_30 : decode cX6_fills 30 = .ok (.arraylength, 1) := by decide +kernel
theorem dX6_fills_31 : decode cX6_fills 31 = .ok (.if_icmp .ge 22, 3) := by decide +kernel
theorem dX6_fills_34 : decode cX6_fills 34 = .ok (.aload_n 0, 1) := by decide +kernel
theorem dX6_fills_35 : decode cX6_fills 35 = .ok (.getfield 11, 3) := by decide +kernel
theorem dX6_fills_38 : decode cX6_fills 38 = .ok (.iload_n 2, 1) := by decide +kernel
theorem dX6_fills_39 : decode cX6_fills 39 = .ok (.iaload, 1) := by decide +kernel
theorem dX6_fills_40 : decode cX6_fills 40 = .ok (.ldc 65, 2) := by decide +kernel
theorem dX6_fills_42 : decode cX6_fills 42 = .ok (.if_icmp .eq 5, 3) := by decide +kernel
theorem dX6_fills_45 : decode cX6_fills 45 = .ok (.iconst 0, 1) := by decide +kernel
theorem dX6_fills_46 : decode cX6_fills 46 = .ok (.ireturn, 1) := by decide +kernel
theorem dX6_fills_47 : decode cX6_fills 47 = .ok (.iinc 2 1, 3) := by decide +kernel
theorem dX6_fills_50 : decode cX6_fills 50 = .ok (.goto (-33), 3) := by decide +kernel
theorem dX6_fills_53 : decode cX6_fills 53 = .ok (.iconst 1, 1) := by decide +kernel
theorem dX6_fills_54 : decode cX6_fills 54 = .ok (.ireturn, 1) := by decide +kernel
theorem dX6_writePart_0 : decode cX6_writePart 0 = .ok (.aload_n 1, 1) := by decide +kernel
theorem dX6_writePart_1 : decode cX6_writePart 1 = .ok (.iload_n 2, 1) := by decide +kernel
theorem dX6_writePart_2 : decode cX6_writePart 2 = .ok (.bipush 32, 2) := by decide +kernel
theorem dX6_writePart_4 : decode cX6_writePart 4 = .ok (.iconst 0, 1) := by decide +kernel
theorem dX6_writePart_5 : decode cX6_writePart 5 = .ok (.invokevirtual 66, 3) := by decide +kernel
theorem dX6_writePart_8 : decode cX6_writePart 8 = .ok (.aload_n 1, 1) := by decide +kernel
theorem dX6_writePart_9 : decode cX6_writePart 9 = .ok (.iload_n 2, 1) := by decide +kernel
theorem dX6_writePart_10 : decode cX6_writePart 10 = .ok (.iload 4, 2) := by decide +kernel
theorem dX6_writePart_12 : decode cX6_writePart 12 = .ok (.invokevirtual 70, 3) := by decide +kernel
theorem dX6_writePart_15 : decode cX6_writePart 15 = .ok (.aload_n 1, 1) := by decide +kernel
theorem dX6_writePart_16 : decode cX6_writePart 16 = .ok (.iload_n 2, 1) := by decide +kernel
theorem dX6_writePart_17 : decode cX6_writePart 17 = .ok (.bipush 11, 2) := by decide +kernel
theorem dX6_writePart_19 : decode cX6_writePart 19 = .ok (.iadd, 1) := by decide +kernel
theorem dX6_writePart_20 : decode cX6_writePart 20 = .ok (.bipush 15, 2) := by decide +kernel
theorem dX6_writePart_22 : decode cX6_writePart 22 = .ok (.invokevirtual 70, 3) := by decide +kernel
theorem dX6_writePart_25 : decode cX6_writePart 25 = .ok (.aload_n 1, 1) := by decide +kernel
theorem dX6_writePart_26 : decode cX6_writePart 26 = .ok (.iload_n 2, 1) := by decide +kernel
theorem dX6_writePart_27 : decode cX6_writePart 27 = .ok (.bipush 13, 2) := by decide +kernel
theorem dX6_writePart_29 : decode cX6_writePart 29 = .ok (.iadd, 1) := by decide +kernel
theorem dX6_writePart_30 : decode cX6_writePart 30 = .ok (.iload 5, 2) := by decide +kernel
theorem dX6_writePart_32 : decode cX6_writePart 32 = .ok (.invokevirtual 70, 3) := by decide +kernel
theorem dX6_writePart_35 : decode cX6_writePart 35 = .ok (.iconst 0, 1) := by decide +kernel
theorem dX6_writePart_36 : decode cX6_writePart 36 = .ok (.istore 6, 2) := by decide +kernel
theorem dX6_writePart_38 : decode cX6_writePart 38 = .ok (.iload 6, 2) := by decide +kernel
theorem dX6_writePart_40 : decode cX6_writePart 40 = .ok (.bipush 13, 2) := by decide +kernel
theorem dX6_writePart_42 : decode cX6_writePart 42 = .ok (.if_icmp .ge 69, 3) := by decide +kernel
theorem dX6_writePart_45 : decode cX6_writePart 45 = .ok (.iload_n 3, 1) := by decide +kernel
theorem dX6_writePart_46 : decode cX6_writePart 46 = .ok (.iconst 1, 1) := by decide +kernel
theorem dX6_writePart_47 : decode cX6_writePart 47 = .ok (.isub, 1) := by decide +kernel
theorem dX6_writePart_48 : decode cX6_writePart 48 = .ok (.bipush 13, 2) := by decide +kernel
theorem dX6_writePart_50 : decode cX6_writePart 50 = .ok (.imul, 1) := by decide +kernel
theorem dX6_writePart_51 : decode cX6_writePart 51 = .ok (.iload 6, 2) := by decide +kernel
theorem dX6_writePart_53 : decode cX6_writePart 53 = .ok (.iadd, 1) := by decide +kernel
theorem dX6_writePart_54 : decode cX6_writePart 54 = .ok (.istore 7, 2) := by decide +kernel
theorem dX6_writePart_56 : decode cX6_writePart 56 = .ok (.iload 7, 2) := by decide +kernel
theorem dX6_writePart_58 : decode cX6_writePart 58 = .ok (.aload_n 0, 1) := by decide +kernel
theorem dX6_writePart_59 : decode cX6_writePart 59 = .ok (.getfield 15, 3) := by decide +kernel
theorem dX6_writePart_62 : decode cX6_writePart 62 = .ok (.if_icmp .ne 7, 3) := by decide +kernel
theorem dX6_writePart_65 : decode cX6_writePart 65 = .ok (.iconst 0, 1) := by decide +kernel
theorem dX6_writePart_66 : decode cX6_writePart 66 = .ok (.goto 5, 3) := by decide +kernel
theorem dX6_writePart_69 : decode cX6_writePart 69 = .ok (.ldc 65, 2) := by decide +kernel
theorem dX6_writePart_71 : decode cX6_writePart 71 = .ok (.istore 8, 2) := by decide +kernel
theorem dX6_writePart_73 : decode cX6_writePart 73 = .ok (.aload_n 1, 1) := by decide +kernel
theorem dX6_writePart_74 : decode cX6_writePart 74 = .ok (.iload_n 2, 1) := by decide +kernel
theorem dX6_writePart_75 : decode cX6_writePart 75 = .ok (.getstatic 40, 3) := by decide +kernel
theorem dX6_writePart_78 : decode cX6_writePart 78 = .ok (.iload 6, 2) := by decide +kernel
theorem dX6_writePart_80 : decode cX6_writePart 80 = .ok (.iaload, 1) := by decide +kernel
theorem dX6_writePart_81 : decode cX6_writePart 81 = .ok (.iadd, 1) := by decide +kernel
theorem dX6_writePart_82 : decode cX6_writePart 82 = .ok (.iload 7, 2) := by decide +kernel
theorem dX6_writePart_84 : decode cX6_writePart 84 = .ok (.aload_n 0, 1) := by decide +kernel
theorem dX6_writePart_85 : decode cX6_writePart 85 = .ok (.getfield 15, 3) := by decide +kernel
theorem dX6_writePart_88 : decode cX6_writePart 88 = .ok (.if_icmp .ge 12, 3) := by decide +kernel
theorem dX6_writePart_91 : decode cX6_writePart 91 = .ok (.aload_n 0, 1) := by decide +kernel
theorem dX6_writePart_92 : decode cX6_writePart 92 = .ok (.iload 7, 2) := by decide +kernel
theorem dX6_writePart_94 : decode cX6_writePart 94 = .ok (.invokevirtual 74, 3) := by decide +kernel
theorem dX6_writePart_97 : decode cX6_writePart 97 = .ok (.goto 5, 3) := by decide +kernel
theorem dX6_writePart_100 : decode cX6_writePart 100 = .ok (.iload 8, 2) := by decide +kernel
theorem dX6_writePart_102 : decode cX6_writePart 102 = .ok (.invokevirtual 77, 3) := by decide +kernel
theorem dX6_writePart_105 : decode cX6_writePart 105 = .ok (.iinc 6 1, 3) := by decide +kernel
theorem dX6_writePart_108 : decode cX6_writePart 108 = .ok (.goto (-70), 3) := by decide +kernel
theorem dX6_writePart_111 : decode cX6_writePart 111 = .ok (.return_, 1) := by decide +kernel
theorem dX6_hash_0 : decode cX6_hash 0 = .ok (.aload_n 0, 1) := by decide +kernel
theorem dX6_hash_1 : decode cX6_hash 1 = .ok (.getfield 15, 3) := by decide +kernel
theorem dX6_hash_4 : decode cX6_hash 4 = .ok (.istore_n 1, 1) := by decide +kernel
theorem dX6_hash_5 : decode cX6_hash 5 = .ok (.iconst 0, 1) := by decide +kernel
theorem dX6_hash_6 : decode cX6_hash 6 = .ok (.istore_n 2, 1) := by decide +kernel
theorem dX6_hash_7 : decode cX6_hash 7 = .ok (.iload_n 2, 1) := by decide +kernel
theorem dX6_hash_8 : decode cX6_hash 8 = .ok (.aload_n 0, 1) := by decide +kernel
theorem dX6_hash_9 : decode cX6_hash 9 = .ok (.getfield 15, 3) := by decide +kernel
theorem dX6_hash_12 : decode cX6_hash 12 = .ok (.if_icmp .ge 33, 3) := by decide +kernel
theorem dX6_hash_15 : decode cX6_hash 15 = .ok (.iload_n 2, 1) := by decide +kernel
theorem dX6_hash_16 : decode cX6_hash 16 = .ok (.aload_n 0, 1) := by decide +kernel
theorem dX6_hash_17 : decode cX6_hash 17 = .ok (.getfield 11, 3) := by decide +kernel
theorem dX6_hash_20 : decode cX6_hash 20 = .ok (.arraylength, 1) := by decide +kernel
theorem dX6_hash_21 : decode cX6_hash 21 = .ok (.if_icmp .ge 24, 3) := by decide +kernel
theorem dX6_hash_24 : decode cX6_hash 24 = .ok (.bipush 31, 2) := by decide +kernel
theorem dX6_hash_26 : decode cX6_hash 26 = .ok (.iload_n 1, 1) := by decide +kernel
theorem dX6_hash_27 : decode cX6_hash 27 = .ok (.imul, 1) := by decide +kernel
theorem dX6_hash_28 : decode cX6_hash 28 = .ok (.aload_n 0, 1) := by decide +kernel
theorem dX6_hash_29 : decode cX6_hash 29 = .ok (.getfield 11, 3) := by decide +kernel
theorem dX6_hash_32 : decode cX6_hash 32 = .ok (.iload_n 2, 1) := by decide +kernel
theorem dX6_hash_33 : decode cX6_hash 33 = .ok (.iaload, 1) := by decide +kernel
theorem dX6_hash_34 : decode cX6_hash 34 = .ok (.invokestatic 80, 3) := by decide +kernel
theorem dX6_hash_37 : decode cX6_hash 37 = .ok (.iadd, 1) := by decide +kernel
theorem dX6_hash_38 : decode cX6_hash 38 = .ok (.istore_n 1, 1) := by decide +kernel
theorem dX6_hash_39 : decode cX6_hash 39 = .ok (.iinc 2 1, 3) := by decide +kernel
theorem dX6_hash_42 : decode cX6_hash 42 = .ok (.goto (-35), 3) := by decide +kernel
theorem dX6_hash_45 : decode cX6_hash 45 = .ok (.iload_n 1, 1) := by decide +kernel
theorem dX6_hash_46 : decode cX6_hash 46 = .ok (.ireturn, 1) := by decide +kernel
theorem dX6_isAlike_0 : decode cX6_isAlike 0 = .ok (.aload_n 0, 1) := by decide +kernel
theorem dX6_isAlike_1 : decode cX6_isAlike 1 = .ok (.getfield 15, 3) := by decide +kernel
theorem dX6_isAlike_4 : decode cX6_isAlike 4 = .ok (.aload_n 1, 1) := by decide +kernel
theorem dX6_isAlike_5 : decode cX6_isAlike 5 = .ok (.getfield 15, 3) := by decide +kernel
theorem dX6_isAlike_8 : decode cX6_isAlike 8 = .ok (.if_icmp .eq 5, 3) := by decide +kernel
theorem dX6_isAlike_11 : decode cX6_isAlike 11 = .ok (.iconst 0, 1) := by decide +kernel
theorem dX6_isAlike_12 : decode cX6_isAlike 12 = .ok (.ireturn, 1) := by decide +kernel
theorem dX6_isAlike_13 : decode cX6_isAlike 13 = .ok (.iconst 0, 1) := by decide +kernel
theorem dX6_isAlike_14 : decode cX6_isAlike 14 = .ok (.istore_n 2, 1) := by decide +kernel
theorem dX6_isAlike_15 : decode cX6_isAlike 15 = .ok (.iload_n 2, 1) := by decide +kernel
theorem dX6_isAlike_16 : decode cX6_isAlike 16 = .ok (.aload_n 0, 1) := by decide +kernel
theorem dX6_isAlike_17 : decode cX6_isAlike 17 = .ok (.getfield 15, 3) := by decide +kernel
theorem dX6_isAlike_20 : decode cX6_isAlike 20 = .ok (.if_icmp .ge 30, 3) := by decide +kernel
theorem dX6_isAlike_23 : decode cX6_isAlike 23 = .ok (.aload_n 0, 1) := by decide +kernel
theorem dX6_isAlike_24 : decode cX6_isAlike 24 = .ok (.iload_n 2, 1) := by decide +kernel
theorem dX6_isAlike_25 : decode cX6_isAlike 25 = .ok (.invokevirtual 74, 3) := by decide +kernel
theorem dX6_isAlike_28 : decode cX6_isAlike 28 = .ok (.invokestatic 80, 3) := by decide +kernel
theorem dX6_isAlike_31 : decode cX6_isAlike 31 = .ok (.aload_n 1, 1) := by decide +kernel
theorem dX6_isAlike_32 : decode cX6_isAlike 32 = .ok (.iload_n 2, 1) := by decide +kernel
theorem dX6_isAlike_33 : decode cX6_isAlike 33 = .ok (.invokevirtual 74, 3) := by decide +kernel
theorem dX6_isAlike_36 : decode cX6_isAlike 36 = .ok (.invokestatic 80, 3) := by decide +kernel
theorem dX6_isAlike_39 : decode cX6_isAlike 39 = .ok (.if_icmp .eq 5, 3) := by decide +kernel
theorem dX6_isAlike_42 : decode cX6_isAlike 42 = .ok (.iconst 0, 1) := by decide +kernel
theorem dX6_isAlike_43 : decode cX6_isAlike 43 = .ok (.ireturn, 1) := by decide +kernel
theorem dX6_isAlike_44 : decode cX6_isAlike 44 = .ok (.iinc 2 1, 3) := by decide +kernel
theorem dX6_isAlike_47 : decode cX6_isAlike 47 = .ok (.goto (-32), 3) := by decide +kernel
theorem dX6_isAlike_50 : decode cX6_isAlike 50 = .ok (.iconst 1, 1) := by decide +kernel
theorem dX6_isAlike_51 : decode cX6_isAlike 51 = .ok (.ireturn, 1) := by decide +kernel
theorem dX6_lastPoint_0 : decode cX6_lastPoint 0 = .ok (.aload_n 0, 1) := by decide +kernel
theorem dX6_lastPoint_1 : decode cX6_lastPoint 1 = .ok (.getfield 15, 3) := by decide +kernel
theorem dX6_lastPoint_4 : decode cX6_lastPoint 4 = .ok (.iconst 1, 1) := by decide +kernel
theorem dX6_lastPoint_5 : decode cX6_lastPoint 5 = .ok (.isub, 1) := by decide +kernel
theorem dX6_lastPoint_6 : decode cX6_lastPoint 6 = .ok (.istore_n 1, 1) := by decide +kernel
theorem dX6_lastPoint_7 : decode cX6_lastPoint 7 = .ok (.iload_n 1, 1) := by decide +kernel
theorem dX6_lastPoint_8 : decode cX6_lastPoint 8 = .ok (.ifCond .lt 21, 3) := by decide +kernel
theorem dX6_lastPoint_11 : decode cX6_lastPoint 11 = .ok (.aload_n 0, 1) := by decide +kernel
theorem dX6_lastPoint_12 : decode cX6_lastPoint 12 = .ok (.iload_n 1, 1) := by decide +kernel
theorem dX6_lastPoint_13 : decode cX6_lastPoint 13 = .ok (.invokevirtual 74, 3) := by decide +kernel
theorem dX6_lastPoint_16 : decode cX6_lastPoint 16 = .ok (.bipush 46, 2) := by decide +kernel
theorem dX6_lastPoint_18 : decode cX6_lastPoint 18 = .ok (.if_icmp .ne 5, 3) := by decide +kernel
theorem dX6_lastPoint_21 : decode cX6_lastPoint 21 = .ok (.iload_n 1, 1) := by decide +kernel
theorem dX6_lastPoint_22 : decode cX6_lastPoint 22 = .ok (.ireturn, 1) := by decide +kernel
theorem dX6_lastPoint_23 : decode cX6_lastPoint 23 = .ok (.iinc 1 (-1), 3) := by decide +kernel
theorem dX6_lastPoint_26 : decode cX6_lastPoint 26 = .ok (.goto (-19), 3) := by decide +kernel
theorem dX6_lastPoint_29 : decode cX6_lastPoint 29 = .ok (.iconst (-1), 1) := by decide +kernel
theorem dX6_lastPoint_30 : decode cX6_lastPoint 30 = .ok (.ireturn, 1) := by decide +kernel
theorem dX6_encodedByte_0 : decode cX6_encodedByte 0 = .ok (.iload_n 1, 1) := by decide +kernel
theorem dX6_encodedByte_1 : decode cX6_encodedByte 1 = .ok (.istore_n 2, 1) := by decide +kernel
theorem dX6_encodedByte_2 : decode cX6_encodedByte 2 = .ok (.iconst 0, 1) := by decide +kernel
theorem dX6_encodedByte_3 : decode cX6_encodedByte 3 = .ok (.istore_n 3, 1) := by decide +kernel
theorem dX6_encodedByte_4 : decode cX6_encodedByte 4 = .ok (.iload_n 3, 1) := by decide +kernel
theorem dX6_encodedByte_5 : decode cX6_encodedByte 5 = .ok (.aload_n 0, 1) := by decide +kernel
theorem dX6_encodedByte_6 : decode cX6_encodedByte 6 = .ok (.getfield 15, 3) := by decide +kernel
theorem dX6_encodedByte_9 : decode cX6_encodedByte 9 = .ok (.if_icmp .ge 67, 3) := by decide +kernel
theorem dX6_encodedByte_12 : decode cX6_encodedByte 12 = .ok (.iload_n 2, 1) := by decide +kernel
theorem dX6_encodedByte_13 : decode cX6_encodedByte 13 = .ok (.ifCond .lt 63, 3) := by decide +kernel
theorem dX6_encodedByte_16 : decode cX6_encodedByte 16 = .ok (.aload_n 0, 1) := by decide +kernel
theorem dX6_encodedByte_17 : decode cX6_encodedByte 17 = .ok (.iload_n 3, 1) := by decide +kernel
theorem dX6_encodedByte_18 : decode cX6_encodedByte 18 = .ok (.invokevirtual 74, 3) := by decide +kernel
theorem dX6_encodedByte_21 : decode cX6_encodedByte 21 = .ok (.istore 4, 2) := by decide +kernel
theorem dX6_encodedByte_23 : decode cX6_encodedByte 23 = .ok (.iload 4, 2) := by decide +kernel
theorem dX6_encodedByte_25 : decode cX6_encodedByte 25 = .ok (.sipush 128, 3) := by decide +kernel
theorem dX6_encodedByte_28 : decode cX6_encodedByte 28 = .ok (.if_icmp .ge 7, 3) := by decide +kernel
theorem dX6_encodedByte_31 : decode cX6_encodedByte 31 = .ok (.iconst 1, 1) := by decide +kernel
theorem dX6_encodedByte_32 : decode cX6_encodedByte 32 = .ok (.goto 16, 3) := by decide +kernel
theorem dX6_encodedByte_35 : decode cX6_encodedByte 35 = .ok (.iload 4, 2) := by decide +kernel
theorem dX6_encodedByte_37 : decode cX6_encodedByte 37 = .ok (.sipush 2048, 3) := by decide +kernel
theorem dX6_encodedByte_40 : decode cX6_encodedByte 40 = .ok (.if_icmp .ge 7, 3) := by decide +kernel
theorem dX6_encodedByte_43 : decode cX6_encodedByte 43 = .ok (.iconst 2, 1) := by decide +kernel
theorem dX6_encodedByte_44 : decode cX6_encodedByte 44 = .ok (.goto 4, 3) := by decide +kernel
theorem dX6_encodedByte_47 : decode cX6_encodedByte 47 = .ok (.iconst 3, 1) := by decide +kernel
theorem dX6_encodedByte_48 : decode cX6_encodedByte 48 = .ok (.istore 5, 2) := by decide +kernel
theorem dX6_encodedByte_50 : decode cX6_encodedByte 50 = .ok (.iload_n 2, 1) := by decide +kernel
theorem dX6_encodedByte_51 : decode cX6_encodedByte 51 = .ok (.iload 5, 2) := by decide +kernel
theorem dX6_encodedByte_53 : decode cX6_encodedByte 53 = .ok (.if_icmp .ge 12, 3) := by decide +kernel
theorem dX6_encodedByte_56 : decode cX6_encodedByte 56 = .ok (.iload 4, 2) := by decide +kernel
theorem dX6_encodedByte_58 : decode cX6_encodedByte 58 = .ok (.iload 5, 2) := by decide +kernel
theorem dX6_encodedByte_60 : decode cX6_encodedByte 60 = .ok (.iload_n 2, 1) := by decide +kernel
theorem dX6_encodedByte_61 : decode cX6_encodedByte 61 = .ok (.invokestatic 83, 3) := by decide +kernel
theorem dX6_encodedByte_64 : decode cX6_encodedByte 64 = .ok (.ireturn, 1) := by decide +kernel
theorem dX6_encodedByte_65 : decode cX6_encodedByte 65 = .ok (.iload_n 2, 1) := by decide +kernel
theorem dX6_encodedByte_66 : decode cX6_encodedByte 66 = .ok (.iload 5, 2) := by decide +kernel
theorem dX6_encodedByte_68 : decode cX6_encodedByte 68 = .ok (.isub, 1) := by decide +kernel
theorem dX6_encodedByte_69 : decode cX6_encodedByte 69 = .ok (.istore_n 2, 1) := by decide +kernel
theorem dX6_encodedByte_70 : decode cX6_encodedByte 70 = .ok (.iinc 3 1, 3) := by decide +kernel
theorem dX6_encodedByte_73 : decode cX6_encodedByte 73 = .ok (.goto (-69), 3) := by decide +kernel
theorem dX6_encodedByte_76 : decode cX6_encodedByte 76 = .ok (.iconst (-1), 1) := by decide +kernel
theorem dX6_encodedByte_77 : decode cX6_encodedByte 77 = .ok (.ireturn, 1) := by decide +kernel
theorem dX7_init_0 : decode cX7_init 0 = .ok (.aload_n 0, 1) := by decide +kernel
theorem dX7_init_1 : decode cX7_init 1 = .ok (.invokespecial 3, 3) := by decide +kernel
theorem dX7_init_4 : decode cX7_init 4 = .ok (.aload_n 0, 1) := by decide +kernel
theorem dX7_init_5 : decode cX7_init 5 = .ok (.bipush 11, 2) := by decide +kernel
theorem dX7_init_7 : decode cX7_init 7 = .ok (.newarray .int, 2) := by decide +kernel
theorem dX7_init_9 : decode cX7_init 9 = .ok (.putfield 9, 3) := by decide +kernel
theorem dX7_init_12 : decode cX7_init 12 = .ok (.aload_n 0, 1) := by decide +kernel
theorem dX7_init_13 : decode cX7_init 13 = .ok (.bipush 6, 2) := by decide +kernel
theorem dX7_init_15 : decode cX7_init 15 = .ok (.newarray .int, 2) := by decide +kernel
theorem dX7_init_17 : decode cX7_init 17 = .ok (.putfield 15, 3) := by decide +kernel
theorem dX7_init_20 : decode cX7_init 20 = .ok (.return_, 1) := by decide +kernel
theorem dX7_readLabel_0 : decode cX7_readLabel 0 = .ok (.iload_n 2, 1) := by decide +kernel
theorem dX7_readLabel_1 : decode cX7_readLabel 1 = .ok (.bipush 11, 2) := by decide +kernel
theorem dX7_readLabel_3 : decode cX7_readLabel 3 = .ok (.if_icmp .gt 17, 3) := by decide +kernel
theorem dX7_readLabel_6 : decode cX7_readLabel 6 = .ok (.iload_n 2, 1) := by decide +kernel
theorem dX7_readLabel_7 : decode cX7_readLabel 7 = .ok (.ifCond .le 15, 3) := by decide +kernel
theorem dX7_readLabel_10 : decode cX7_readLabel 10 = .ok (.aload_n 1, 1) := by decide +kernel
theorem dX7_readLabel_11 : decode cX7_readLabel 11 = .ok (.iconst 0, 1) := by decide +kernel
theorem dX7_readLabel_12 : decode cX7_readLabel 12 = .ok (.invokevirtual 18, 3) := by decide +kernel
theorem dX7_readLabel_15 : decode cX7_readLabel 15 = .ok (.bipush 32, 2) := by decide +kernel
theorem dX7_readLabel_17 : decode cX7_readLabel 17 = .ok (.if_icmp .ne 5, 3) := by decide +kernel
theorem dX7_readLabel_20 : decode cX7_readLabel 20 = .ok (.iconst 0, 1) := by decide +kernel
theorem dX7_readLabel_21 : decode cX7_readLabel 21 = .ok (.ireturn, 1) := by decide +kernel
theorem dX7_readLabel_22 : decode cX7_readLabel 22 = .ok (.aload_n 0, 1) := by decide +kernel
theorem dX7_readLabel_23 : decode cX7_readLabel 23 = .ok (.getfield 9, 3) := by decide +kernel
theorem dX7_readLabel_26 : decode cX7_readLabel 26 = .ok (.bipush 32, 2) := by decide +kernel
theorem dX7_readLabel_28 : decode cX7_readLabel 28 = .ok (.invokestatic 24, 3) := by decide +kernel
theorem dX7_readLabel_31 : decode cX7_readLabel 31 = .ok (.iconst 0, 1) := by decide +kernel
theorem dX7_readLabel_32 : decode cX7_readLabel 32 = .ok (.istore_n 3, 1) := by decide +kernel
theorem dX7_readLabel_33 : decode cX7_readLabel 33 = .ok (.iload_n 3, 1) := by decide +kernel
theorem dX7_readLabel_34 : decode cX7_readLabel 34 = .ok (.iload_n 2, 1) := by decide +kernel
theorem dX7_readLabel_35 : decode cX7_readLabel 35 = .ok (.if_icmp .ge 41, 3) := by decide +kernel
theorem dX7_readLabel_38 : decode cX7_readLabel 38 = .ok (.aload_n 1, 1) := by decide +kernel
theorem dX7_readLabel_39 : decode cX7_readLabel 39 = .ok (.iload_n 3, 1) := by decide +kernel
theorem dX7_readLabel_40 : decode cX7_readLabel 40 = .ok (.invokevirtual 18, 3) := by decide +kernel
theorem dX7_readLabel_43 : decode cX7_readLabel 43 = .ok (.istore 4, 2) := by decide +kernel
theorem dX7_readLabel_45 : decode cX7_readLabel 45 = .ok (.iload 4, 2) := by decide +kernel
theorem dX7_readLabel_47 : decode cX7_readLabel 47 = .ok (.bipush 32, 2) := by decide +kernel
theorem dX7_readLabel_49 : decode cX7_readLabel 49 = .ok (.if_icmp .eq 13, 3) := by decide +kernel
theorem dX7_readLabel_52 : decode cX7_readLabel 52 = .ok (.iload 4, 2) := by decide +kernel
theorem dX7_readLabel_54 : decode cX7_readLabel 54 = .ok (.invokestatic 30, 3) := by decide +kernel
theorem dX7_readLabel_57 : decode cX7_readLabel 57 = .ok (.ifCond .ne 5, 3) := by decide +kernel
theorem dX7_readLabel_60 : decode cX7_readLabel 60 = .ok (.iconst 0, 1) := by decide +kernel
theorem dX7_readLabel_61 : decode cX7_readLabel 61 = .ok (.ireturn, 1) := by decide +kernel
theorem dX7_readLabel_62 : decode cX7_readLabel 62 = .ok (.aload_n 0, 1) := by decide +kernel
theorem dX7_readLabel_63 : decode cX7_readLabel 63 = .ok (.getfield 9, 3) := by decide +kernel
theorem dX7_readLabel_66 : decode cX7_readLabel 66 = .ok (.iload_n 3, 1) := by decide +kernel
theorem dX7_readLabel_67 : decode cX7_readLabel 67 = .ok (.iload 4, 2) := by decide +kernel
theorem dX7_readLabel_69 : decode cX7_readLabel 69 = .ok (.iastore, 1) := by decide +kernel
theorem dX7_readLabel_70 : decode cX7_readLabel 70 = .ok (.iinc 3 1, 3) := by decide +kernel
theorem dX7_readLabel_73 : decode cX7_readLabel 73 = .ok (.goto (-40), 3) := by decide +kernel
theorem dX7_readLabel_76 : decode cX7_readLabel 76 = .ok (.iconst 1, 1) := by decide +kernel
theorem dX7_readLabel_77 : decode cX7_readLabel 77 = .ok (.ireturn, 1) := by decide +kernel
theorem dX7_readShown_0 : decode cX7_readShown 0 = .ok (.aload_n 0, 1) := by decide +kernel
theorem dX7_readShown_1 : decode cX7_readShown 1 = .ok (.getfield 9, 3) := by decide +kernel
theorem dX7_readShown_4 : decode cX7_readShown 4 = .ok (.bipush 32, 2) := by decide +kernel
theorem dX7_readShown_6 : decode cX7_readShown 6 = .ok (.invokestatic 24, 3) := by decide +kernel
theorem dX7_readShown_9 : decode cX7_readShown 9 = .ok (.iconst 0, 1) := by decide +kernel
theorem dX7_readShown_10 : decode cX7_readShown 10 = .ok (.istore_n 2, 1) := by decide +kernel
theorem dX7_readShown_11 : decode cX7_readShown 11 = .ok (.bipush 8, 2) := by decide +kernel
theorem dX7_readShown_13 : decode cX7_readShown 13 = .ok (.istore_n 3, 1) := by decide +kernel
theorem dX7_readShown_14 : decode cX7_readShown 14 = .ok (.iconst 0, 1) := by decide +kernel
theorem dX7_readShown_15 : decode cX7_readShown 15 = .ok (.istore 4, 2) := by decide +kernel
theorem dX7_readShown_17 : decode cX7_readShown 17 = .ok (.iload 4, 2) := by decide +kernel
theorem dX7_readShown_19 : decode cX7_readShown 19 = .ok (.aload_n 1, 1) := by decide +kernel
theorem dX7_readShown_20 : decode cX7_readShown 20 = .ok (.getfield 36, 3) := by decide +kernel
theorem dX7_readShown_23 : decode cX7_readShown 23 = .ok (.if_icmp .ge 72, 3) := by decide +kernel
theorem dX7_readShown_26 : decode cX7_readShown 26 = .ok (.aload_n 1, 1) := by decide +kernel
theorem dX7_readShown_27 : decode cX7_readShown 27 = .ok (.iload 4, 2) := by decide +kernel
theorem dX7_readShown_29 : decode cX7_readShown 29 = .ok (.invokevirtual 42, 3) := by decide +kernel
theorem dX7_readShown_32 : decode cX7_readShown 32 = .ok (.istore 5, 2) := by decide +kernel
theorem dX7_readShown_34 : decode cX7_readShown 34 = .ok (.iload 5, 2) := by decide +kernel
theorem dX7_readShown_36 : decode cX7_readShown 36 = .ok (.bipush 46, 2) := by decide +kernel
theorem dX7_readShown_38 : decode cX7_readShown 38 = .ok (.if_icmp .ne 22, 3) := by decide +kernel
theorem dX7_readShown_41 : decode cX7_readShown 41 = .ok (.iload_n 2, 1) := by decide +kernel
theorem dX7_readShown_42 : decode cX7_readShown 42 = .ok (.ifCond .le 18, 3) := by decide +kernel
theorem dX7_readShown_45 : decode cX7_readShown 45 = .ok (.iload_n 3, 1) := by decide +kernel
theorem dX7_readShown_46 : decode cX7_readShown 46 = .ok (.bipush 8, 2) := by decide +kernel
theorem dX7_readShown_48 : decode cX7_readShown 48 = .ok (.if_icmp .ne 12, 3) := by decide +kernel
theorem dX7_readShown_51 : decode cX7_readShown 51 = .ok (.bipush 8, 2) := by decide +kernel
theorem dX7_readShown_53 : decode cX7_readShown 53 = .ok (.istore_n 2, 1) := by decide +kernel
theorem dX7_readShown_54 : decode cX7_readShown 54 = .ok (.bipush 11, 2) := by decide +kernel
theorem dX7_readShown_56 : decode cX7_readShown 56 = .ok (.istore_n 3, 1) := by decide +kernel
theorem dX7_readShown_57 : decode cX7_readShown 57 = .ok (.goto 32, 3) := by decide +kernel
theorem dX7_readShown_60 : decode cX7_readShown 60 = .ok (.iload_n 2, 1) := by decide +kernel
theorem dX7_readShown_61 : decode cX7_readShown 61 = .ok (.iload_n 3, 1) := by decide +kernel
theorem dX7_readShown_62 : decode cX7_readShown 62 = .ok (.if_icmp .ge 25, 3) := by decide +kernel
theorem dX7_readShown_65 : decode cX7_readShown 65 = .ok (.iload 5, 2) := by decide +kernel
theorem dX7_readShown_67 : decode cX7_readShown 67 = .ok (.invokestatic 30, 3) := by decide +kernel
theorem dX7_readShown_70 : decode cX7_readShown 70 = .ok (.ifCond .eq 17, 3) := by decide +kernel
theorem dX7_readShown_73 : decode cX7_readShown 73 = .ok (.aload_n 0, 1) := by decide +kernel
theorem dX7_readShown_74 : decode cX7_readShown 74 = .ok (.getfield 9, 3) := by decide +kernel
theorem dX7_readShown_77 : decode cX7_readShown 77 = .ok (.iload_n 2, 1) := by decide +kernel
theorem dX7_readShown_78 : decode cX7_readShown 78 = .ok (.iload 5, 2) := by decide +kernel
theorem dX7_readShown_80 : decode cX7_readShown 80 = .ok (.iastore, 1) := by decide +kernel
theorem dX7_readShown_81 : decode cX7_readShown 81 = .ok (.iinc 2 1, 3) := by decide +kernel
theorem dX7_readShown_84 : decode cX7_readShown 84 = .ok (.goto 5, 3) := by decide +kernel
theorem dX7_readShown_87 : decode cX7_readShown 87 = .ok (.iconst 0, 1) := by decide +kernel
theorem dX7_readShown_88 : decode cX7_readShown 88 = .ok (.ireturn, 1) := by decide +kernel
theorem dX7_readShown_89 : decode cX7_readShown 89 = .ok (.iinc 4 1, 3) := by decide +kernel
theorem dX7_readShown_92 : decode cX7_readShown 92 = .ok (.goto (-75), 3) := by decide +kernel
theorem dX7_readShown_95 : decode cX7_readShown 95 = .ok (.iload_n 2, 1) := by decide +kernel
theorem dX7_readShown_96 : decode cX7_readShown 96 = .ok (.ifCond .le 19, 3) := by decide +kernel
theorem dX7_readShown_99 : decode cX7_readShown 99 = .ok (.iload_n 3, 1) := by decide +kernel
theorem dX7_readShown_100 : decode cX7_readShown 100 = .ok (.bipush 8, 2) := by decide +kernel
theorem dX7_readShown_102 : decode cX7_readShown 102 = .ok (.if_icmp .eq 9, 3) := by decide +kernel
theorem dX7_readShown_105 : decode cX7_readShown 105 = .ok (.iload_n 2, 1) := by decide +kernel
theorem dX7_readShown_106 : decode cX7_readShown 106 = .ok (.bipush 8, 2) := by decide +kernel
theorem dX7_readShown_108 : decode cX7_readShown 108 = .ok (.if_icmp .le 7, 3) := by decide +kernel
theorem dX7_readShown_111 : decode cX7_readShown 111 = .ok (.iconst 1, 1) := by decide +kernel
theorem dX7_readShown_112 : decode cX7_readShown 112 = .ok (.goto 4, 3) := by decide +kernel
theorem dX7_readShown_115 : decode cX7_readShown 115 = .ok (.iconst 0, 1) := by decide +kernel
theorem dX7_readShown_116 : decode cX7_readShown 116 = .ok (.ireturn, 1) := by decide +kernel
theorem dX7_readLong_0 : decode cX7_readLong 0 = .ok (.aload_n 1, 1) := by decide +kernel
theorem dX7_readLong_1 : decode cX7_readLong 1 = .ok (.invokevirtual 45, 3) := by decide +kernel
theorem dX7_readLong_4 : decode cX7_readLong 4 = .ok (.istore_n 2, 1) := by decide +kernel
theorem dX7_readLong_5 : decode cX7_readLong 5 = .ok (.iload_n 2, 1) := by decide +kernel
theorem dX7_readLong_6 : decode cX7_readLong 6 = .ok (.ifCond .le 7, 3) := by decide +kernel
theorem dX7_readLong_9 : decode cX7_readLong 9 = .ok (.iload_n 2, 1) := by decide +kernel
theorem dX7_readLong_10 : decode cX7_readLong 10 = .ok (.goto 7, 3) := by decide +kernel
theorem dX7_readLong_13 : decode cX7_readLong 13 = .ok (.aload_n 1, 1) := by decide +kernel
theorem dX7_readLong_14 : decode cX7_readLong 14 = .ok (.getfield 36, 3) := by decide +kernel
theorem dX7_readLong_17 : decode cX7_readLong 17 = .ok (.istore_n 3, 1) := by decide +kernel
theorem dX7_readLong_18 : decode cX7_readLong 18 = .ok (.aload_n 0, 1) := by decide +kernel
theorem dX7_readLong_19 : decode cX7_readLong 19 = .ok (.getfield 9, 3) := by decide +kernel
theorem dX7_readLong_22 : decode cX7_readLong 22 = .ok (.bipush 32, 2) := by decide +kernel
theorem dX7_readLong_24 : decode cX7_readLong 24 = .ok (.invokestatic 24, 3) := by decide +kernel
theorem dX7_readLong_27 : decode cX7_readLong 27 = .ok (.aload_n 0, 1) := by decide +kernel
theorem dX7_readLong_28 : decode cX7_readLong 28 = .ok (.iconst 0, 1) := by decide +kernel
theorem dX7_readLong_29 : decode cX7_readLong 29 = .ok (.putfield 49, 3) := by decide +kernel
theorem dX7_readLong_32 : decode cX7_readLong 32 = .ok (.iconst 0, 1) := by decide +kernel
theorem dX7_readLong_33 : decode cX7_readLong 33 = .ok (.istore 4, 2) := by decide +kernel
theorem dX7_readLong_35 : decode cX7_readLong 35 = .ok (.iload 4, 2) := by decide +kernel
theorem dX7_readLong_37 : decode cX7_readLong 37 = .ok (.iload_n 3, 1) := by decide +kernel
theorem dX7_readLong_38 : decode cX7_readLong 38 = .ok (.if_icmp .ge 58, 3) := by decide +kernel
theorem dX7_readLong_41 : decode cX7_readLong 41 = .ok (.aload_n 0, 1) := by decide +kernel
theorem dX7_readLong_42 : decode cX7_readLong 42 = .ok (.getfield 49, 3) := by decide +kernel
theorem dX7_readLong_45 : decode cX7_readLong 45 = .ok (.aload_n 0, 1) := by decide +kernel
theorem dX7_readLong_46 : decode cX7_readLong 46 = .ok (.getfield 15, 3) := by decide +kernel
theorem dX7_readLong_49 : decode cX7_readLong 49 = .ok (.arraylength, 1) := by decide +kernel
theorem dX7_readLong_50 : decode cX7_readLong 50 = .ok (.if_icmp .ge 46, 3) := by decide +kernel
theorem dX7_readLong_53 : decode cX7_readLong 53 = .ok (.aload_n 1, 1) := by decide +kernel
theorem dX7_readLong_54 : decode cX7_readLong 54 = .ok (.iload 4, 2) := by decide +kernel
theorem dX7_readLong_56 : decode cX7_readLong 56 = .ok (.invokevirtual 42, 3) := by decide +kernel
theorem dX7_readLong_59 : decode cX7_readLong 59 = .ok (.invokestatic 52, 3) := by decide +kernel
theorem dX7_readLong_62 : decode cX7_readLong 62 = .ok (.istore 5, 2) := by decide +kernel
theorem dX7_readLong_64 : decode cX7_readLong 64 = .ok (.iload 5, 2) := by decide +kernel
theorem dX7_readLong_66 : decode cX7_readLong 66 = .ok (.ifCond .eq 24, 3) := by decide +kernel
theorem dX7_readLong_69 : decode cX7_readLong 69 = .ok (.aload_n 0, 1) := by decide +kernel
theorem dX7_readLong_70 : decode cX7_readLong 70 = .ok (.getfield 15, 3) := by decide +kernel
theorem dX7_readLong_73 : decode cX7_readLong 73 = .ok (.aload_n 0, 1) := by decide +kernel
theorem dX7_readLong_74 : decode cX7_readLong 74 = .ok (.getfield 49, 3) := by decide +kernel
theorem dX7_readLong_77 : decode cX7_readLong 77 = .ok (.iload 5, 2) := by decide +kernel
theorem dX7_readLong_79 : decode cX7_readLong 79 = .ok (.iastore, 1) := by decide +kernel
theorem dX7_readLong_80 : decode cX7_readLong 80 = .ok (.aload_n 0, 1) := by decide +kernel
theorem dX7_readLong_81 : decode cX7_readLong 81 = .ok (.dup, 1) := by decide +kernel
theorem dX7_readLong_82 : decode cX7_readLong 82 = .ok (.getfield 49, 3) := by decide +kernel
theorem dX7_readLong_85 : decode cX7_readLong 85 = .ok (.iconst 1, 1) := by decide +kernel
theorem dX7_readLong_86 : decode cX7_readLong 86 = .ok (.iadd, 1) := by decide +kernel
theorem dX7_readLong_87 : decode cX7_readLong 87 = .ok (.putfield 49, 3) := by decide +kernel
theorem dX7_readLong_90 : decode cX7_readLong 90 = .ok (.iinc 4 1, 3) := by decide +kernel
theorem dX7_readLong_93 : decode cX7_readLong 93 = .ok (.goto (-58), 3) := by decide +kernel
theorem dX7_readLong_96 : decode cX7_readLong 96 = .ok (.bipush 8, 2) := by decide +kernel
theorem dX7_readLong_98 : decode cX7_readLong 98 = .ok (.istore 4, 2) := by decide +kernel
theorem dX7_readLong_100 : decode cX7_readLong 100 = .ok (.iload_n 3, 1) := by decide +kernel
theorem dX7_readLong_101 : decode cX7_readLong 101 = .ok (.iconst 1, 1) := by decide +kernel
theorem dX7_readLong_102 : decode cX7_readLong 102 = .ok (.iadd, 1) := by decide +kernel
theorem dX7_readLong_103 : decode cX7_readLong 103 = .ok (.istore 5, 2) := by decide +kernel
theorem dX7_readLong_105 : decode cX7_readLong 105 = .ok (.iload 5, 2) := by decide +kernel
theorem dX7_readLong_107 : decode cX7_readLong 107 = .ok (.aload_n 1, 1) := by decide +kernel
theorem dX7_readLong_108 : decode cX7_readLong 108 = .ok (.getfield 36, 3) := by decide +kernel
theorem dX7_readLong_111 : decode cX7_readLong 111 = .ok (.if_icmp .ge 44, 3) := by decide +kernel
theorem dX7_readLong_114 : decode cX7_readLong 114 = .ok (.iload 4, 2) := by decide +kernel
theorem dX7_readLong_116 : decode cX7_readLong 116 = .ok (.bipush 11, 2) := by decide +kernel
theorem dX7_readLong_118 : decode cX7_readLong 118 = .ok (.if_icmp .ge 37, 3) := by decide +kernel
theorem dX7_readLong_121 : decode cX7_readLong 121 = .ok (.aload_n 1, 1) := by decide +kernel
theorem dX7_readLong_122 : decode cX7_readLong 122 = .ok (.iload 5, 2) := by decide +kernel
theorem dX7_readLong_124 : decode cX7_readLong 124 = .ok (.invokevirtual 42, 3) := by decide +kernel
theorem dX7_readLong_127 : decode cX7_readLong 127 = .ok (.invokestatic 52, 3) := by decide +kernel
theorem dX7_readLong_130 : decode cX7_readLong 130 = .ok (.istore 6, 2) := by decide +kernel
theorem dX7_readLong_132 : decode cX7_readLong 132 = .ok (.iload 6, 2) := by decide +kernel
theorem dX7_readLong_134 : decode cX7_readLong 134 = .ok (.ifCond .eq 15, 3) := by decide +kernel
theorem dX7_readLong_137 : decode cX7_readLong 137 = .ok (.aload_n 0, 1) := by decide +kernel
theorem dX7_readLong_138 : decode cX7_readLong 138 = .ok (.getfield 9, 3) := by decide +kernel
theorem dX7_readLong_141 : decode cX7_readLong 141 = .ok (.iload 4, 2) := by decide +kernel
theorem dX7_readLong_143 : decode cX7_readLong 143 = .ok (.iload 6, 2) := by decide +kernel
theorem dX7_readLong_145 : decode cX7_readLong 145 = .ok (.iastore, 1) := by decide +kernel
theorem dX7_readLong_146 : decode cX7_readLong 146 = .ok (.iinc 4 1, 3) := by decide +kernel
theorem dX7_readLong_149 : decode cX7_readLong 149 = .ok (.iinc 5 1, 3) := by decide +kernel
theorem dX7_readLong_152 : decode cX7_readLong 152 = .ok (.goto (-47), 3) := by decide +kernel
theorem dX7_readLong_155 : decode cX7_readLong 155 = .ok (.return_, 1) := by decide +kernel
theorem dX7_setTail_0 : decode cX7_setTail 0 = .ok (.iconst 1, 1) := by decide +kernel
theorem dX7_setTail_1 : decode cX7_setTail 1 = .ok (.istore_n 2, 1) := by decide +kernel
theorem dX7_setTail_2 : decode cX7_setTail 2 = .ok (.iload_n 1, 1) := by decide +kernel
theorem dX7_setTail_3 : decode cX7_setTail 3 = .ok (.bipush 10, 2) := by decide +kernel
theorem dX7_setTail_5 : decode cX7_setTail 5 = .ok (.idiv, 1) := by decide +kernel
theorem dX7_setTail_6 : decode cX7_setTail 6 = .ok (.istore_n 3, 1) := by decide +kernel
theorem dX7_setTail_7 : decode cX7_setTail 7 = .ok (.iload_n 3, 1) := by decide +kernel
theorem dX7_setTail_8 : decode cX7_setTail 8 = .ok (.ifCond .le 20, 3) := by decide +kernel
theorem dX7_setTail_11 : decode cX7_setTail 11 = .ok (.iload_n 2, 1) := by decide +kernel
theorem dX7_setTail_12 : decode cX7_setTail 12 = .ok (.bipush 7, 2) := by decide +kernel
theorem dX7_setTail_14 : decode cX7_setTail 14 = .ok (.if_icmp .ge 14, 3) := by decide +kernel
theorem dX7_setTail_17 : decode cX7_setTail 17 = .ok (.iinc 2 1, 3) := by decide +kernel
theorem dX7_setTail_20 : decode cX7_setTail 20 = .ok (.iload_n 3, 1) := by decide +kernel
theorem dX7_setTail_21 : decode cX7_setTail 21 = .ok (.bipush 10, 2) := by decide +kernel
theorem dX7_setTail_23 : decode cX7_setTail 23 = .ok (.idiv, 1) := by decide +kernel
theorem dX7_setTail_24 : decode cX7_setTail 24 = .ok (.istore_n 3, 1) := by decide +kernel
theorem dX7_setTail_25 : decode cX7_setTail 25 = .ok (.goto (-18), 3) := by decide +kernel
theorem dX7_setTail_28 : decode cX7_setTail 28 = .ok (.bipush 7, 2) := by decide +kernel
theorem dX7_setTail_30 : decode cX7_setTail 30 = .ok (.iload_n 2, 1) := by decide +kernel
theorem dX7_setTail_31 : decode cX7_setTail 31 = .ok (.isub, 1) := by decide +kernel
theorem dX7_setTail_32 : decode cX7_setTail 32 = .ok (.aload_n 0, 1) := by decide +kernel
theorem dX7_setTail_33 : decode cX7_setTail 33 = .ok (.getfield 49, 3) := by decide +kernel
theorem dX7_setTail_36 : decode cX7_setTail 36 = .ok (.invokestatic 55, 3) := by decide +kernel
theorem dX7_setTail_39 : decode cX7_setTail 39 = .ok (.istore_n 3, 1) := by decide +kernel
theorem dX7_setTail_40 : decode cX7_setTail 40 = .ok (.iconst 0, 1) := by decide +kernel
theorem dX7_setTail_41 : decode cX7_setTail 41 = .ok (.istore 4, 2) := by decide +kernel
theorem dX7_setTail_43 : decode cX7_setTail 43 = .ok (.iload 4, 2) := by decide +kernel
theorem dX7_setTail_45 : decode cX7_setTail 45 = .ok (.bipush 8, 2) := by decide +kernel
theorem dX7_setTail_47 : decode cX7_setTail 47 = .ok (.if_icmp .ge 34, 3) := by decide +kernel
theorem dX7_setTail_50 : decode cX7_setTail 50 = .ok (.aload_n 0, 1) := by decide +kernel
theorem dX7_setTail_51 : decode cX7_setTail 51 = .ok (.getfield 9, 3) := by decide +kernel
theorem dX7_setTail_54 : decode cX7_setTail 54 = .ok (.iload 4, 2) := by decide +kernel
theorem dX7_setTail_56 : decode cX7_setTail 56 = .ok (.iload 4, 2) := by decide +kernel
theorem dX7_setTail_58 : decode cX7_setTail 58 = .ok (.iload_n 3, 1) := by decide +kernel
theorem dX7_setTail_59 : decode cX7_setTail 59 = .ok (.if_icmp .ge 13, 3) := by decide +kernel
theorem dX7_setTail_62 : decode cX7_setTail 62 = .ok (.aload_n 0, 1) := by decide +kernel
theorem dX7_setTail_63 : decode cX7_setTail 63 = .ok (.getfield 15, 3) := by decide +kernel
theorem dX7_setTail_66 : decode cX7_setTail 66 = .ok (.iload 4, 2) := by decide +kernel
theorem dX7_setTail_68 : decode cX7_setTail 68 = .ok (.iaload, 1) := by decide +kernel
theorem dX7_setTail_69 : decode cX7_setTail 69 = .ok (.goto 5, 3) := by decide +kernel
theorem dX7_setTail_72 : decode cX7_setTail 72 = .ok (.bipush 32, 2) := by decide +kernel
theorem dX7_setTail_74 : decode cX7_setTail 74 = .ok (.iastore, 1) := by decide +kernel
theorem dX7_setTail_75 : decode cX7_setTail 75 = .ok (.iinc 4 1, 3) := by decide +kernel
theorem dX7_setTail_78 : decode cX7_setTail 78 = .ok (.goto (-35), 3) := by decide +kernel
theorem dX7_setTail_81 : decode cX7_setTail 81 = .ok (.aload_n 0, 1) := by decide +kernel
theorem dX7_setTail_82 : decode cX7_setTail 82 = .ok (.getfield 9, 3) := by decide +kernel
theorem dX7_setTail_85 : decode cX7_setTail 85 = .ok (.iload_n 3, 1) := by decide +kernel
theorem dX7_setTail_86 : decode cX7_setTail 86 = .ok (.bipush 126, 2) := by decide +kernel
theorem dX7_setTail_88 : decode cX7_setTail 88 = .ok (.iastore, 1) := by decide +kernel
theorem dX7_setTail_89 : decode cX7_setTail 89 = .ok (.iload_n 1, 1) := by decide +kernel
theorem dX7_setTail_90 : decode cX7_setTail 90 = .ok (.istore 4, 2) := by decide +kernel
theorem dX7_setTail_92 : decode cX7_setTail 92 = .ok (.iload_n 3, 1) := by decide +kernel
theorem dX7_setTail_93 : decode cX7_setTail 93 = .ok (.iload_n 2, 1) := by decide +kernel
theorem dX7_setTail_94 : decode cX7_setTail 94 = .ok (.iadd, 1) := by decide +kernel
theorem dX7_setTail_95 : decode cX7_setTail 95 = .ok (.istore 5, 2) := by decide +kernel
theorem dX7_setTail_97 : decode cX7_setTail 97 = .ok (.iload 5, 2) := by decide +kernel
theorem dX7_setTail_99 : decode cX7_setTail 99 = .ok (.iload_n 3, 1) := by decide +kernel
theorem dX7_setTail_100 : decode cX7_setTail 100 = .ok (.if_icmp .le 31, 3) := by decide +kernel
theorem dX7_setTail_103 : decode cX7_setTail 103 = .ok (.aload_n 0, 1) := by decide +kernel
theorem dX7_setTail_104 : decode cX7_setTail 104 = .ok (.getfield 9, 3) := by decide +kernel
theorem dX7_setTail_107 : decode cX7_setTail 107 = .ok (.iload 5, 2) := by decide +kernel
theorem dX7_setTail_109 : decode cX7_setTail 109 = .ok (.bipush 48, 2) := by decide +kernel
theorem dX7_setTail_111 : decode cX7_setTail 111 = .ok (.iload 4, 2) := by decide +kernel
theorem dX7_setTail_113 : decode cX7_setTail 113 = .ok (.bipush 10, 2) := by decide +kernel
theorem dX7_setTail_115 : decode cX7_setTail 115 = .ok (.irem, 1) := by decide +kernel
theorem dX7_setTail_116 : decode cX7_setTail 116 = .ok (.iadd, 1) := by decide +kernel
theorem dX7_setTail_117 : decode cX7_setTail 117 = .ok (.iastore, 1) := by decide +kernel
theorem dX7_setTail_118 : decode cX7_setTail 118 = .ok (.iload 4, 2) := by decide +kernel
theorem dX7_setTail_120 : decode cX7_setTail 120 = .ok (.bipush 10, 2) := by decide +kernel
theorem dX7_setTail_122 : decode cX7_setTail 122 = .ok (.idiv, 1) := by decide +kernel
theorem dX7_setTail_123 : decode cX7_setTail 123 = .ok (.istore 4, 2) := by decide +kernel
theorem dX7_setTail_125 : decode cX7_setTail 125 = .ok (.iinc 5 (-1), 3) := by decide +kernel
theorem dX7_setTail_128 : decode cX7_setTail 128 = .ok (.goto (-31), 3) := by decide +kernel
theorem dX7_setTail_131 : decode cX7_setTail 131 = .ok (.return_, 1) := by decide +kernel
theorem dX7_sum_0 : decode cX7_sum 0 = .ok (.iconst 0, 1) := by decide +kernel
theorem dX7_sum_1 : decode cX7_sum 1 = .ok (.istore_n 1, 1) := by decide +kernel
theorem dX7_sum_2 : decode cX7_sum 2 = .ok (.iconst 0, 1) := by decide +kernel
theorem dX7_sum_3 : decode cX7_sum 3 = .ok (.istore_n 2, 1) := by decide +kernel
theorem dX7_sum_4 : decode cX7_sum 4 = .ok (.iload_n 2, 1) := by decide +kernel
theorem dX7_sum_5 : decode cX7_sum 5 = .ok (.bipush 11, 2) := by decide +kernel
theorem dX7_sum_7 : decode cX7_sum 7 = .ok (.if_icmp .ge 31, 3) := by decide +kernel
theorem dX7_sum_10 : decode cX7_sum 10 = .ok (.iload_n 1, 1) := by decide +kernel
theorem dX7_sum_11 : decode cX7_sum 11 = .ok (.iconst 1, 1) := by decide +kernel
theorem dX7_sum_12 : decode cX7_sum 12 = .ok (.iand, 1) := by decide +kernel
theorem dX7_sum_13 : decode cX7_sum 13 = .ok (.bipush 7, 2) := by decide +kernel
theorem dX7_sum_15 : decode cX7_sum 15 = .ok (.ishl, 1) := by decide +kernel
theorem dX7_sum_16 : decode cX7_sum 16 = .ok (.iload_n 1, 1) := by decide +kernel
theorem dX7_sum_17 : decode cX7_sum 17 = .ok (.iconst 1, 1) := by decide +kernel
theorem dX7_sum_18 : decode cX7_sum 18 = .ok (.ishr, 1) := by decide +kernel
theorem dX7_sum_19 : decode cX7_sum 19 = .ok (.iadd, 1) := by decide +kernel
theorem dX7_sum_20 : decode cX7_sum 20 = .ok (.aload_n 0, 1) := by decide +kernel
theorem dX7_sum_21 : decode cX7_sum 21 = .ok (.getfield 9, 3) := by decide +kernel
theorem dX7_sum_24 : decode cX7_sum 24 = .ok (.iload_n 2, 1) := by decide +kernel
theorem dX7_sum_25 : decode cX7_sum 25 = .ok (.iaload, 1) := by decide +kernel
theorem dX7_sum_26 : decode cX7_sum 26 = .ok (.iadd, 1) := by decide +kernel
theorem dX7_sum_27 : decode cX7_sum 27 = .ok (.sipush 255, 3) := by decide +kernel
theorem dX7_sum_30 : decode cX7_sum 30 = .ok (.iand, 1) := by decide +kernel
theorem dX7_sum_31 : decode cX7_sum 31 = .ok (.istore_n 1, 1) := by decide +kernel
theorem dX7_sum_32 : decode cX7_sum 32 = .ok (.iinc 2 1, 3) := by decide +kernel
theorem dX7_sum_35 : decode cX7_sum 35 = .ok (.goto (-31), 3) := by decide +kernel
theorem dX7_sum_38 : decode cX7_sum 38 = .ok (.iload_n 1, 1) := by decide +kernel
theorem dX7_sum_39 : decode cX7_sum 39 = .ok (.ireturn, 1) := by decide +kernel
theorem dX7_load_0 : decode cX7_load 0 = .ok (.iconst 0, 1) := by decide +kernel
theorem dX7_load_1 : decode cX7_load 1 = .ok (.istore_n 3, 1) := by decide +kernel
theorem dX7_load_2 : decode cX7_load 2 = .ok (.iload_n 3, 1) := by decide +kernel
theorem dX7_load_3 : decode cX7_load 3 = .ok (.bipush 11, 2) := by decide +kernel
theorem dX7_load_5 : decode cX7_load 5 = .ok (.if_icmp .ge 22, 3) := by decide +kernel
theorem dX7_load_8 : decode cX7_load 8 = .ok (.aload_n 0, 1) := by decide +kernel
theorem dX7_load_9 : decode cX7_load 9 = .ok (.getfield 9, 3) := by decide +kernel
theorem dX7_load_12 : decode cX7_load 12 = .ok (.iload_n 3, 1) := by decide +kernel
theorem dX7_load_13 : decode cX7_load 13 = .ok (.aload_n 1, 1) := by decide +kernel
theorem dX7_load_14 : decode cX7_load 14 = .ok (.iload_n 2, 1) := by decide +kernel
theorem dX7_load_15 : decode cX7_load 15 = .ok (.iload_n 3, 1) := by decide +kernel
theorem dX7_load_16 : decode cX7_load 16 = .ok (.iadd, 1) := by decide +kernel
theorem dX7_load_17 : decode cX7_load 17 = .ok (.invokevirtual 61, 3) := by decide +kernel
theorem dX7_load_20 : decode cX7_load 20 = .ok (.iastore, 1) := by decide +kernel
theorem dX7_load_21 : decode cX7_load 21 = .ok (.iinc 3 1, 3) := by decide +kernel
theorem dX7_load_24 : decode cX7_load 24 = .ok (.goto (-22), 3) := by decide +kernel
theorem dX7_load_27 : decode cX7_load 27 = .ok (.return_, 1) := by decide +kernel
theorem dX7_store_0 : decode cX7_store 0 = .ok (.iconst 0, 1) := by decide +kernel
theorem dX7_store_1 : decode cX7_store 1 = .ok (.istore_n 3, 1) := by decide +kernel
theorem dX7_store_2 : decode cX7_store 2 = .ok (.iload_n 3, 1) := by decide +kernel
theorem dX7_store_3 : decode cX7_store 3 = .ok (.bipush 11, 2) := by decide +kernel
theorem dX7_store_5 : decode cX7_store 5 = .ok (.if_icmp .ge 22, 3) := by decide +kernel
theorem dX7_store_8 : decode cX7_store 8 = .ok (.aload_n 1, 1) := by decide +kernel
theorem dX7_store_9 : decode cX7_store 9 = .ok (.iload_n 2, 1) := by decide +kernel
theorem dX7_store_10 : decode cX7_store 10 = .ok (.iload_n 3, 1) := by decide +kernel
theorem dX7_store_11 : decode cX7_store 11 = .ok (.iadd, 1) := by decide +kernel
theorem dX7_store_12 : decode cX7_store 12 = .ok (.aload_n 0, 1) := by decide +kernel
theorem dX7_store_13 : decode cX7_store 13 = .ok (.getfield 9, 3) := by decide +kernel
theorem dX7_store_16 : decode cX7_store 16 = .ok (.iload_n 3, 1) := by decide +kernel
theorem dX7_store_17 : decode cX7_store 17 = .ok (.iaload, 1) := by decide +kernel
theorem dX7_store_18 : decode cX7_store 18 = .ok (.invokevirtual 66, 3) := by decide +kernel
theorem dX7_store_21 : decode cX7_store 21 = .ok (.iinc 3 1, 3) := by decide +kernel
theorem dX7_store_24 : decode cX7_store 24 = .ok (.goto (-22), 3) := by decide +kernel
theorem dX7_store_27 : decode cX7_store 27 = .ok (.return_, 1) := by decide +kernel
theorem dX7_isAt_0 : decode cX7_isAt 0 = .ok (.iconst 0, 1) := by decide +kernel
theorem dX7_isAt_1 : decode cX7_isAt 1 = .ok (.istore_n 3, 1) := by decide +kernel
theorem dX7_isAt_2 : decode cX7_isAt 2 = .ok (.iload_n 3, 1) := by decide +kernel
theorem dX7_isAt_3 : decode cX7_isAt 3 = .ok (.bipush 11, 2) := by decide +kernel
theorem dX7_isAt_5 : decode cX7_isAt 5 = .ok (.if_icmp .ge 27, 3) := by decide +kernel
theorem dX7_isAt_8 : decode cX7_isAt 8 = .ok (.aload_n 1, 1) := by decide +kernel
theorem dX7_isAt_9 : decode cX7_isAt 9 = .ok (.iload_n 2, 1) := by decide +kernel
theorem dX7_isAt_10 : decode cX7_isAt 10 = .ok (.iload_n 3, 1) := by decide +kernel
theorem dX7_isAt_11 : decode cX7_isAt 11 = .ok (.iadd, 1) := by decide +kernel
theorem dX7_isAt_12 : decode cX7_isAt 12 = .ok (.invokevirtual 61, 3) := by decide +kernel
theorem dX7_isAt_15 : decode cX7_isAt 15 = .ok (.aload_n 0, 1) := by decide +kernel
theorem dX7_isAt_16 : decode cX7_isAt 16 = .ok (.getfield 9, 3) := by decide +kernel
theorem dX7_isAt_19 : decode cX7_isAt 19 = .ok (.iload_n 3, 1) := by decide +kernel
theorem dX7_isAt_20 : decode cX7_isAt 20 = .ok (.iaload, 1) := by decide +kernel
theorem dX7_isAt_21 : decode cX7_isAt 21 = .ok (.if_icmp .eq 5, 3) := by decide +kernel
theorem dX7_isAt_24 : decode cX7_isAt 24 = .ok (.iconst 0, 1) := by decide +kernel
theorem dX7_isAt_25 : decode cX7_isAt 25 = .ok (.ireturn, 1) := by decide +kernel
theorem dX7_isAt_26 : decode cX7_isAt 26 = .ok (.iinc 3 1, 3) := by decide +kernel
theorem dX7_isAt_29 : decode cX7_isAt 29 = .ok (.goto (-27), 3) := by decide +kernel
theorem dX7_isAt_32 : decode cX7_isAt 32 = .ok (.iconst 1, 1) := by decide +kernel
theorem dX7_isAt_33 : decode cX7_isAt 33 = .ok (.ireturn, 1) := by decide +kernel
theorem dX7_asTold_0 : decode cX7_asTold 0 = .ok (.aload_n 0, 1) := by decide +kernel
theorem dX7_asTold_1 : decode cX7_asTold 1 = .ok (.getfield 9, 3) := by decide +kernel
theorem dX7_asTold_4 : decode cX7_asTold 4 = .ok (.iconst 0, 1) := by decide +kernel
theorem dX7_asTold_5 : decode cX7_asTold 5 = .ok (.iaload, 1) := by decide +kernel
theorem dX7_asTold_6 : decode cX7_asTold 6 = .ok (.bipush 32, 2) := by decide +kernel
theorem dX7_asTold_8 : decode cX7_asTold 8 = .ok (.if_icmp .ne 5, 3) := by decide +kernel
theorem dX7_asTold_11 : decode cX7_asTold 11 = .ok (.iconst 0, 1) := by decide +kernel
theorem dX7_asTold_12 : decode cX7_asTold 12 = .ok (.ireturn, 1) := by decide +kernel
theorem dX7_asTold_13 : decode cX7_asTold 13 = .ok (.iconst 0, 1) := by decide +kernel
theorem dX7_asTold_14 : decode cX7_asTold 14 = .ok (.istore_n 2, 1) := by decide +kernel
theorem dX7_asTold_15 : decode cX7_asTold 15 = .ok (.iload_n 2, 1) := by decide +kernel
theorem dX7_asTold_16 : decode cX7_asTold 16 = .ok (.bipush 11, 2) := by decide +kernel
theorem dX7_asTold_18 : decode cX7_asTold 18 = .ok (.if_icmp .ge 71, 3) := by decide +kernel
theorem dX7_asTold_21 : decode cX7_asTold 21 = .ok (.iload_n 2, 1) := by decide +kernel
theorem dX7_asTold_22 : decode cX7_asTold 22 = .ok (.ifCond .eq 26, 3) := by decide +kernel
theorem dX7_asTold_25 : decode cX7_asTold 25 = .ok (.iload_n 2, 1) := by decide +kernel
theorem dX7_asTold_26 : decode cX7_asTold 26 = .ok (.bipush 8, 2) := by decide +kernel
theorem dX7_asTold_28 : decode cX7_asTold 28 = .ok (.if_icmp .eq 20, 3) := by decide +kernel
theorem dX7_asTold_31 : decode cX7_asTold 31 = .ok (.aload_n 0, 1) := by decide +kernel
theorem dX7_asTold_32 : decode cX7_asTold 32 = .ok (.getfield 9, 3) := by decide +kernel
theorem dX7_asTold_35 : decode cX7_asTold 35 = .ok (.iload_n 2, 1) := by decide +kernel
theorem dX7_asTold_36 : decode cX7_asTold 36 = .ok (.iconst 1, 1) := by decide +kernel
theorem dX7_asTold_37 : decode cX7_asTold 37 = .ok (.isub, 1) := by decide +kernel
theorem dX7_asTold_38 : decode cX7_asTold 38 = .ok (.iaload, 1) := by decide +kernel
theorem dX7_asTold_39 : decode cX7_asTold 39 = .ok (.bipush 32, 2) := by decide +kernel
theorem dX7_asTold_41 : decode cX7_asTold 41 = .ok (.if_icmp .ne 7, 3) := by decide +kernel
theorem dX7_asTold_44 : decode cX7_asTold 44 = .ok (.iconst 1, 1) := by decide +kernel
theorem dX7_asTold_45 : decode cX7_asTold 45 = .ok (.goto 4, 3) := by decide +kernel
theorem dX7_asTold_48 : decode cX7_asTold 48 = .ok (.iconst 0, 1) := by decide +kernel
theorem dX7_asTold_49 : decode cX7_asTold 49 = .ok (.istore_n 3, 1) := by decide +kernel
theorem dX7_asTold_50 : decode cX7_asTold 50 = .ok (.aload_n 0, 1) := by decide +kernel
theorem dX7_asTold_51 : decode cX7_asTold 51 = .ok (.getfield 9, 3) := by decide +kernel
theorem dX7_asTold_54 : decode cX7_asTold 54 = .ok (.iload_n 2, 1) := by decide +kernel
theorem dX7_asTold_55 : decode cX7_asTold 55 = .ok (.iaload, 1) := by decide +kernel
theorem dX7_asTold_56 : decode cX7_asTold 56 = .ok (.bipush 32, 2) := by decide +kernel
theorem dX7_asTold_58 : decode cX7_asTold 58 = .ok (.if_icmp .eq 25, 3) := by decide +kernel
theorem dX7_asTold_61 : decode cX7_asTold 61 = .ok (.aload_n 0, 1) := by decide +kernel
theorem dX7_asTold_62 : decode cX7_asTold 62 = .ok (.getfield 9, 3) := by decide +kernel
theorem dX7_asTold_65 : decode cX7_asTold 65 = .ok (.iload_n 2, 1) := by decide +kernel
theorem dX7_asTold_66 : decode cX7_asTold 66 = .ok (.iaload, 1) := by decide +kernel
theorem dX7_asTold_67 : decode cX7_asTold 67 = .ok (.invokestatic 30, 3) := by decide +kernel
theorem dX7_asTold_70 : decode cX7_asTold 70 = .ok (.ifCond .eq 11, 3) := by decide +kernel
theorem dX7_asTold_73 : decode cX7_asTold 73 = .ok (.iload_n 3, 1) := by decide +kernel
theorem dX7_asTold_74 : decode cX7_asTold 74 = .ok (.ifCond .eq 9, 3) := by decide +kernel
theorem dX7_asTold_77 : decode cX7_asTold 77 = .ok (.iload_n 1, 1) := by decide +kernel
theorem dX7_asTold_78 : decode cX7_asTold 78 = .ok (.ifCond .ne 5, 3) := by decide +kernel
theorem dX7_asTold_81 : decode cX7_asTold 81 = .ok (.iconst 0, 1) := by decide +kernel
theorem dX7_asTold_82 : decode cX7_asTold 82 = .ok (.ireturn, 1) := by decide +kernel
theorem dX7_asTold_83 : decode cX7_asTold 83 = .ok (.iinc 2 1, 3) := by decide +kernel
theorem dX7_asTold_86 : decode cX7_asTold 86 = .ok (.goto (-71), 3) := by decide +kernel
theorem dX7_asTold_89 : decode cX7_asTold 89 = .ok (.iconst 1, 1) := by decide +kernel
theorem dX7_asTold_90 : decode cX7_asTold 90 = .ok (.ireturn, 1) := by decide +kernel
theorem dX8_init_0 : decode cX8_init 0 = .ok (.aload_n 0, 1) := by decide +kernel
theorem dX8_init_1 : decode cX8_init 1 = .ok (.invokespecial 3, 3) := by decide +kernel
theorem dX8_init_4 : decode cX8_init 4 = .ok (.aload_n 0, 1) := by decide +kernel
theorem dX8_init_5 : decode cX8_init 5 = .ok (.sipush 4096, 3) := by decide +kernel
theorem dX8_init_8 : decode cX8_init 8 = .ok (.newarray .byte, 2) := by decide +kernel
theorem dX8_init_10 : decode cX8_init 10 = .ok (.putfield 11, 3) := by decide +kernel
theorem dX8_init_13 : decode cX8_init 13 = .ok (.aload_n 0, 1) := by decide +kernel
theorem dX8_init_14 : decode cX8_init 14 = .ok (.iconst 5, 1) := by decide +kernel
theorem dX8_init_15 : decode cX8_init 15 = .ok (.newarray .int, 2) := by decide +kernel
theorem dX8_init_17 : decode cX8_init 17 = .ok (.putfield 15, 3) := by decide +kernel
theorem dX8_init_20 : decode cX8_init 20 = .ok (.return_, 1) := by decide +kernel
theorem dX8_prepare_0 : decode cX8_prepare 0 = .ok (.aload_n 0, 1) := by decide +kernel
theorem dX8_prepare_1 : decode cX8_prepare 1 = .ok (.getfield 15, 3) := by decide +kernel
theorem dX8_prepare_4 : decode cX8_prepare 4 = .ok (.iconst 0, 1) := by decide +kernel
theorem dX8_prepare_5 : decode cX8_prepare 5 = .ok (.iload_n 1, 1) := by decide +kernel
theorem dX8_prepare_6 : decode cX8_prepare 6 = .ok (.iastore, 1) := by decide +kernel
theorem dX8_prepare_7 : decode cX8_prepare 7 = .ok (.aload_n 0, 1) := by decide +kernel
theorem dX8_prepare_8 : decode cX8_prepare 8 = .ok (.getfield 15, 3) := by decide +kernel
theorem dX8_prepare_11 : decode cX8_prepare 11 = .ok (.iconst 1, 1) := by decide +kernel
theorem dX8_prepare_12 : decode cX8_prepare 12 = .ok (.iload_n 2, 1) := by decide +kernel
theorem dX8_prepare_13 : decode cX8_prepare 13 = .ok (.iastore, 1) := by decide +kernel
theorem dX8_prepare_14 : decode cX8_prepare 14 = .ok (.aload_n 0, 1) := by decide +kernel
theorem dX8_prepare_15 : decode cX8_prepare 15 = .ok (.getfield 15, 3) := by decide +kernel
theorem dX8_prepare_18 : decode cX8_prepare 18 = .ok (.iconst 2, 1) := by decide +kernel
theorem dX8_prepare_19 : decode cX8_prepare 19 = .ok (.iload_n 3, 1) := by decide +kernel
theorem dX8_prepare_20 : decode cX8_prepare 20 = .ok (.iastore, 1) := by decide +kernel
theorem dX8_prepare_21 : decode cX8_prepare 21 = .ok (.aload_n 0, 1) := by decide +kernel
theorem dX8_prepare_22 : decode cX8_prepare 22 = .ok (.getfield 15, 3) := by decide +kernel
theorem dX8_prepare_25 : decode cX8_prepare 25 = .ok (.iconst 3, 1) := by decide +kernel
theorem dX8_prepare_26 : decode cX8_prepare 26 = .ok (.iload 4, 2) := by decide +kernel
theorem dX8_prepare_28 : decode cX8_prepare 28 = .ok (.iastore, 1) := by decide +kernel
theorem dX8_prepare_29 : decode cX8_prepare 29 = .ok (.aload_n 0, 1) := by decide +kernel
theorem dX8_prepare_30 : decode cX8_prepare 30 = .ok (.getfield 15, 3) := by decide +kernel
theorem dX8_prepare_33 : decode cX8_prepare 33 = .ok (.iconst 4, 1) := by decide +kernel
theorem dX8_prepare_34 : decode cX8_prepare 34 = .ok (.iload 5, 2) := by decide +kernel
theorem dX8_prepare_36 : decode cX8_prepare 36 = .ok (.iastore, 1) := by decide +kernel
theorem dX8_prepare_37 : decode cX8_prepare 37 = .ok (.return_, 1) := by decide +kernel
theorem dX8_append_0 : decode cX8_append 0 = .ok (.iload_n 1, 1) := by decide +kernel
theorem dX8_append_1 : decode cX8_append 1 = .ok (.ifCond .lt 21, 3) := by decide +kernel
theorem dX8_append_4 : decode cX8_append 4 = .ok (.iload_n 1, 1) := by decide +kernel
theorem dX8_append_5 : decode cX8_append 5 = .ok (.bipush 20, 2) := by decide +kernel
theorem dX8_append_7 : decode cX8_append 7 = .ok (.if_icmp .gt 15, 3) := by decide +kernel
theorem dX8_append_10 : decode cX8_append 10 = .ok (.aload_n 0, 1) := by decide +kernel
theorem dX8_append_11 : decode cX8_append 11 = .ok (.getfield 19, 3) := by decide +kernel
theorem dX8_append_14 : decode cX8_append 14 = .ok (.iload_n 1, 1) := by decide +kernel
theorem dX8_append_15 : decode cX8_append 15 = .ok (.iadd, 1) := by decide +kernel
theorem dX8_append_16 : decode cX8_append 16 = .ok (.sipush 4096, 3) := by decide +kernel
theorem dX8_append_19 : decode cX8_append 19 = .ok (.if_icmp .le 5, 3) := by decide +kernel
theorem dX8_append_22 : decode cX8_append 22 = .ok (.iconst (-1), 1) := by decide +kernel
theorem dX8_append_23 : decode cX8_append 23 = .ok (.ireturn, 1) := by decide +kernel
theorem dX8_append_24 : decode cX8_append 24 = .ok (.iconst 0, 1) := by decide +kernel
theorem dX8_append_25 : decode cX8_append 25 = .ok (.istore_n 2, 1) := by decide +kernel
theorem dX8_append_26 : decode cX8_append 26 = .ok (.iload_n 2, 1) := by decide +kernel
theorem dX8_append_27 : decode cX8_append 27 = .ok (.iload_n 1, 1) := by decide +kernel
theorem dX8_append_28 : decode cX8_append 28 = .ok (.if_icmp .ge 38, 3) := by decide +kernel
theorem dX8_append_31 : decode cX8_append 31 = .ok (.aload_n 0, 1) := by decide +kernel
theorem dX8_append_32 : decode cX8_append 32 = .ok (.getfield 11, 3) := by decide +kernel
theorem dX8_append_35 : decode cX8_append 35 = .ok (.aload_n 0, 1) := by decide +kernel
theorem dX8_append_36 : decode cX8_append 36 = .ok (.getfield 19, 3) := by decide +kernel
theorem dX8_append_39 : decode cX8_append 39 = .ok (.iload_n 2, 1) := by decide +kernel
theorem dX8_append_40 : decode cX8_append 40 = .ok (.iadd, 1) := by decide +kernel
theorem dX8_append_41 : decode cX8_append 41 = .ok (.aload_n 0, 1) := by decide +kernel
theorem dX8_append_42 : decode cX8_append 42 = .ok (.getfield 15, 3) := by decide +kernel
theorem dX8_append_45 : decode cX8_append 45 = .ok (.iload_n 2, 1) := by decide +kernel
theorem dX8_append_46 : decode cX8_append 46 = .ok (.iconst 2, 1) := by decide +kernel
theorem dX8_append_47 : decode cX8_append 47 = .ok (.ishr, 1) := by decide +kernel
theorem dX8_append_48 : decode cX8_append 48 = .ok (.iaload, 1) := by decide +kernel
theorem dX8_append_49 : decode cX8_append 49 = .ok (.bipush 24, 2) := by decide +kernel
theorem dX8_append_51 : decode cX8_append 51 = .ok (.iload_n 2, 1) := by decide +kernel
theorem dX8_append_52 : decode cX8_append 52 = .ok (.iconst 3, 1) := by decide +kernel
theorem dX8_append_53 : decode cX8_append 53 = .ok (.iand, 1) := by decide +kernel
theorem dX8_append_54 : decode cX8_append 54 = .ok (.iconst 3, 1) := by decide +kernel
theorem dX8_append_55 : decode cX8_append 55 = .ok (.ishl, 1) := by decide +kernel
theorem dX8_append_56 : decode cX8_append 56 = .ok (.isub, 1) := by decide +kernel
theorem dX8_append_57 : decode cX8_append 57 = .ok (.ishr, 1) := by decide +kernel
theorem dX8_append_58 : decode cX8_append 58 = .ok (.i2b, 1) := by decide +kernel
theorem dX8_append_59 : decode cX8_append 59 = .ok (.bastore, 1) := by decide +kernel
theorem dX8_append_60 : decode cX8_append 60 = .ok (.iinc 2 1, 3) := by decide +kernel
theorem dX8_append_63 : decode cX8_append 63 = .ok (.goto (-37), 3) := by decide +kernel
theorem dX8_append_66 : decode cX8_append 66 = .ok (.aload_n 0, 1) := by decide +kernel
theorem dX8_append_67 : decode cX8_append 67 = .ok (.dup, 1) := by decide +kernel
theorem dX8_append_68 : decode cX8_append 68 = .ok (.getfield 19, 3) := by decide +kernel
theorem dX8_append_71 : decode cX8_append 71 = .ok (.iload_n 1, 1) := by decide +kernel
theorem dX8_append_72 : decode cX8_append 72 = .ok (.iadd, 1) := by decide +kernel
theorem dX8_append_73 : decode cX8_append 73 = .ok (.putfield 19, 3) := by decide +kernel
theorem dX8_append_76 : decode cX8_append 76 = .ok (.aload_n 0, 1) := by decide +kernel
theorem dX8_append_77 : decode cX8_append 77 = .ok (.getfield 15, 3) := by decide +kernel
theorem dX8_append_80 : decode cX8_append 80 = .ok (.iconst 0, 1) := by decide +kernel
theorem dX8_append_81 : decode cX8_append 81 = .ok (.invokestatic 23, 3) := by decide +kernel
theorem dX8_append_84 : decode cX8_append 84 = .ok (.aload_n 0, 1) := by decide +kernel
theorem dX8_append_85 : decode cX8_append 85 = .ok (.getfield 19, 3) := by decide +kernel
theorem dX8_append_88 : decode cX8_append 88 = .ok (.ireturn, 1) := by decide +kernel
theorem dX8_take_0 : decode cX8_take 0 = .ok (.aload_n 0, 1) := by decide +kernel
theorem dX8_take_1 : decode cX8_take 1 = .ok (.getfield 19, 3) := by decide +kernel
theorem dX8_take_4 : decode cX8_take 4 = .ok (.istore_n 1, 1) := by decide +kernel
theorem dX8_take_5 : decode cX8_take 5 = .ok (.aload_n 0, 1) := by decide +kernel
theorem dX8_take_6 : decode cX8_take 6 = .ok (.iconst 0, 1) := by decide +kernel
theorem dX8_take_7 : decode cX8_take 7 = .ok (.putfield 19, 3) := by decide +kernel
theorem dX8_take_10 : decode cX8_take 10 = .ok (.iload_n 1, 1) := by decide +kernel
theorem dX8_take_11 : decode cX8_take 11 = .ok (.ireturn, 1) := by decide +kernel
theorem dX8_at_0 : decode cX8_at 0 = .ok (.iload_n 1, 1) := by decide +kernel
theorem dX8_at_1 : decode cX8_at 1 = .ok (.ifCond .lt 10, 3) := by decide +kernel
theorem dX8_at_4 : decode cX8_at 4 = .ok (.iload_n 1, 1) := by decide +kernel
theorem dX8_at_5 : decode cX8_at 5 = .ok (.sipush 4096, 3) := by decide +kernel
theorem dX8_at_8 : decode cX8_at 8 = .ok (.if_icmp .lt 7, 3) := by decide +kernel
theorem dX8_at_11 : decode cX8_at 11 = .ok (.iconst 0, 1) := by decide +kernel
theorem dX8_at_12 : decode cX8_at 12 = .ok (.goto 13, 3) := by decide +kernel
theorem dX8_at_15 : decode cX8_at 15 = .ok (.aload_n 0, 1) := by decide +kernel
theorem dX8_at_16 : decode cX8_at 16 = .ok (.getfield 11, 3) := by decide +kernel
theorem dX8_at_19 : decode cX8_at 19 = .ok (.iload_n 1, 1) := by decide +kernel
theorem dX8_at_20 : decode cX8_at 20 = .ok (.baload, 1) := by decide +kernel
theorem dX8_at_21 : decode cX8_at 21 = .ok (.sipush 255, 3) := by decide +kernel
theorem dX8_at_24 : decode cX8_at 24 = .ok (.iand, 1) := by decide +kernel
theorem dX8_at_25 : decode cX8_at 25 = .ok (.ireturn, 1) := by decide +kernel
theorem dX9_init_0 : decode cX9_init 0 = .ok (.aload_n 0, 1) := by decide +kernel
theorem dX9_init_1 : decode cX9_init 1 = .ok (.invokespecial 3, 3) := by decide +kernel
theorem dX9_init_4 : decode cX9_init 4 = .ok (.aload_n 0, 1) := by decide +kernel
theorem dX9_init_5 : decode cX9_init 5 = .ok (.iconst 1, 1) := by decide +kernel
theorem dX9_init_6 : decode cX9_init 6 = .ok (.putfield 9, 3) := by decide +kernel
theorem dX9_init_9 : decode cX9_init 9 = .ok (.aload_n 0, 1) := by decide +kernel
theorem dX9_init_10 : decode cX9_init 10 = .ok (.aload_n 1, 1) := by decide +kernel
theorem dX9_init_11 : decode cX9_init 11 = .ok (.putfield 15, 3) := by decide +kernel
theorem dX9_init_14 : decode cX9_init 14 = .ok (.return_, 1) := by decide +kernel
theorem dX9_readSectorZero_0 : decode cX9_readSectorZero 0 = .ok (.aload_n 0, 1) := by decide +kernel
theorem dX9_readSectorZero_1 : decode cX9_readSectorZero 1 = .ok (.getfield 15, 3) := by decide +kernel
theorem dX9_readSectorZero_4 : decode cX9_readSectorZero 4 = .ok (.bipush 11, 2) := by decide +kernel
theorem dX9_readSectorZero_6 : decode cX9_readSectorZero 6 = .ok (.invokevirtual 19, 3) := by decide +kernel
theorem dX9_readSectorZero_9 : decode cX9_readSectorZero 9 = .ok (.sipush 512, 3) := by decide +kernel
theorem dX9_readSectorZero_12 : decode cX9_readSectorZero 12 = .ok (.if_icmp .ne 104, 3) := by decide +kernel
theorem dX9_readSectorZero_15 : decode cX9_readSectorZero 15 = .ok (.aload_n 0, 1) := by decide +kernel
theorem dX9_readSectorZero_16 : decode cX9_readSectorZero 16 = .ok (.getfield 15, 3) := by decide +kernel
theorem dX9_readSectorZero_19 : decode cX9_readSectorZero 19 = .ok (.bipush 17, 2) := by decide +kernel
theorem dX9_readSectorZero_21 : decode cX9_readSectorZero 21 = .ok (.invokevirtual 19, 3) := by decide +kernel
theorem dX9_readSectorZero_24 : decode cX9_readSectorZero 24 = .ok (.ifCond .ne 92, 3) := by decide +kernel
theorem dX9_readSectorZero_27 : decode cX9_readSectorZero 27 = .ok (.aload_n 0, 1) := by decide +kernel
theorem dX9_readSectorZero_28 : decode cX9_readSectorZero 28 = .ok (.getfield 15, 3) := by decide +kernel
theorem dX9_readSectorZero_31 : decode cX9_readSectorZero 31 = .ok (.bipush 19, 2) := by decide +kernel
theorem dX9_readSectorZero_33 : decode cX9_readSectorZero 33 = .ok (.invokevirtual 19, 3) := by decide +kernel
theorem dX9_readSectorZero_36 : decode cX9_readSectorZero 36 = .ok (.ifCond .ne 80, 3) := by decide +kernel
theorem dX9_readSectorZero_39 : decode cX9_readSectorZero 39 = .ok (.aload_n 0, 1) := by decide +kernel
theorem dX9_readSectorZero_40 : decode cX9_readSectorZero 40 = .ok (.getfield 15, 3) := by decide +kernel
theorem dX9_readSectorZero_43 : decode cX9_readSectorZero 43 = .ok (.bipush 22, 2) := by decide +kernel
theorem dX9_readSectorZero_45 : decode cX9_readSectorZero 45 = .ok (.invokevirtual 19, 3) := by decide +kernel
theorem dX9_readSectorZero_48 : decode cX9_readSectorZero 48 = .ok (.ifCond .ne 68, 3) := by decide +kernel
theorem dX9_readSectorZero_51 : decode cX9_readSectorZero 51 = .ok (.aload_n 0, 1) := by decide +kernel
theorem dX9_readSectorZero_52 : decode cX9_readSectorZero 52 = .ok (.getfield 15, 3) := by decide +kernel
theorem dX9_readSectorZero_55 : decode cX9_readSectorZero 55 = .ok (.bipush 32, 2) := by decide +kernel
theorem dX9_readSectorZero_57 : decode cX9_readSectorZero 57 = .ok (.invokevirtual 25, 3) := by decide +kernel
theorem dX9_readSectorZero_60 : decode cX9_readSectorZero 60 = .ok (.aload_n 0, 1) := by decide +kernel
theorem dX9_readSectorZero_61 : decode cX9_readSectorZero 61 = .ok (.getfield 15, 3) := by decide +kernel
theorem dX9_readSectorZero_64 : decode cX9_readSectorZero 64 = .ok (.getfield 28, 3) := by decide +kernel
theorem dX9_readSectorZero_67 : decode cX9_readSectorZero 67 = .ok (.if_icmp .ne 49, 3) := by decide +kernel
theorem dX9_readSectorZero_70 : decode cX9_readSectorZero 70 = .ok (.aload_n 0, 1) := by decide +kernel
theorem dX9_readSectorZero_71 : decode cX9_readSectorZero 71 = .ok (.getfield 15, 3) := by decide +kernel
theorem dX9_readSectorZero_74 : decode cX9_readSectorZero 74 = .ok (.bipush 48, 2) := by decide +kernel
theorem dX9_readSectorZero_76 : decode cX9_readSectorZero 76 = .ok (.invokevirtual 19, 3) := by decide +kernel
theorem dX9_readSectorZero_79 : decode cX9_readSectorZero 79 = .ok (.iconst 1, 1) := by decide +kernel
theorem dX9_readSectorZero_80 : decode cX9_readSectorZero 80 = .ok (.if_icmp .ne 36, 3) := by decide +kernel
theorem dX9_readSectorZero_83 : decode cX9_readSectorZero 83 = .ok (.aload_n 0, 1) := by decide +kernel
theorem dX9_readSectorZero_84 : decode cX9_readSectorZero 84 = .ok (.getfield 15, 3) := by decide +kernel
theorem dX9_readSectorZero_87 : decode cX9_readSectorZero 87 = .ok (.bipush 50, 2) := by decide +kernel
theorem dX9_readSectorZero_89 : decode cX9_readSectorZero 89 = .ok (.invokevirtual 19, 3) := by decide +kernel
theorem dX9_readSectorZero_92 : decode cX9_readSectorZero 92 = .ok (.bipush 6, 2) := by decide +kernel
theorem dX9_readSectorZero_94 : decode cX9_readSectorZero 94 = .ok (.if_icmp .ne 22, 3) := by decide +kernel
theorem dX9_readSectorZero_97 : decode cX9_readSectorZero 97 = .ok (.aload_n 0, 1) := by decide +kernel
theorem dX9_readSectorZero_98 : decode cX9_readSectorZero 98 = .ok (.getfield 15, 3) := by decide +kernel
theorem dX9_readSectorZero_101 : decode cX9_readSectorZero 101 = .ok (.sipush 510, 3) := by decide +kernel
theorem dX9_readSectorZero_104 : decode cX9_readSectorZero 104 = .ok (.invokevirtual 19, 3) := by decide +kernel
theorem dX9_readSectorZero_107 : decode cX9_readSectorZero 107 = .ok (.ldc 31, 2) := by decide +kernel
theorem dX9_readSectorZero_109 : decode cX9_readSectorZero 109 = .ok (.if_icmp .ne 7, 3) := by decide +kernel
theorem dX9_readSectorZero_112 : decode cX9_readSectorZero 112 = .ok (.iconst 1, 1) := by decide +kernel
theorem dX9_readSectorZero_113 : decode cX9_readSectorZero 113 = .ok (.goto 4, 3) := by decide +kernel
theorem dX9_readSectorZero_116 : decode cX9_readSectorZero 116 = .ok (.iconst 0, 1) := by decide +kernel
theorem dX9_readSectorZero_117 : decode cX9_readSectorZero 117 = .ok (.istore_n 1, 1) := by decide +kernel
theorem dX9_readSectorZero_118 : decode cX9_readSectorZero 118 = .ok (.aload_n 0, 1) := by decide +kernel
theorem dX9_readSectorZero_119 : decode cX9_readSectorZero 119 = .ok (.getfield 15, 3) := by decide +kernel
theorem dX9_readSectorZero_122 : decode cX9_readSectorZero 122 = .ok (.bipush 13, 2) := by decide +kernel
theorem dX9_readSectorZero_124 : decode cX9_readSectorZero 124 = .ok (.invokevirtual 32, 3) := by decide +kernel
theorem dX9_readSectorZero_127 : decode cX9_readSectorZero 127 = .ok (.istore_n 2, 1) := by decide +kernel
theorem dX9_readSectorZero_128 : decode cX9_readSectorZero 128 = .ok (.aload_n 0, 1) := by decide +kernel
theorem dX9_readSectorZero_129 : decode cX9_readSectorZero 129 = .ok (.getfield 15, 3) := by decide +kernel
theorem dX9_readSectorZero_132 : decode cX9_readSectorZero 132 = .ok (.bipush 44, 2) := by decide +kernel
theorem dX9_readSectorZero_134 : decode cX9_readSectorZero 134 = .ok (.invokevirtual 25, 3) := by decide +kernel
theorem dX9_readSectorZero_137 : decode cX9_readSectorZero 137 = .ok (.istore_n 3, 1) := by decide +kernel
theorem dX9_readSectorZero_138 : decode cX9_readSectorZero 138 = .ok (.aload_n 0, 1) := by decide +kernel
theorem dX9_readSectorZero_139 : decode cX9_readSectorZero 139 = .ok (.getfield 15, 3) := by decide +kernel
theorem dX9_readSectorZero_142 : decode cX9_readSectorZero 142 = .ok (.bipush 36, 2) := by decide +kernel
theorem dX9_readSectorZero_144 : decode cX9_readSectorZero 144 = .ok (.invokevirtual 25, 3) := by decide +kernel
theorem dX9_readSectorZero_147 : decode cX9_readSectorZero 147 = .ok (.istore 4, 2) := by decide +kernel
theorem dX9_readSectorZero_149 : decode cX9_readSectorZero 149 = .ok (.iload_n 1, 1) := by decide +kernel
theorem dX9_readSectorZero_150 : decode cX9_readSectorZero 150 = .ok (.ifCond .eq 31, 3) := by decide +kernel
theorem dX9_readSectorZero_153 : decode cX9_readSectorZero 153 = .ok (.aload_n 0, 1) := by decide +kernel
theorem dX9_readSectorZero_154 : decode cX9_readSectorZero 154 = .ok (.iload_n 2, 1) := by decide +kernel
theorem dX9_readSectorZero_155 : decode cX9_readSectorZero 155 = .ok (.aload_n 0, 1) := by decide +kernel
theorem dX9_readSectorZero_156 : decode cX9_readSectorZero 156 = .ok (.getfield 15, 3) := by decide +kernel
theorem dX9_readSectorZero_159 : decode cX9_readSectorZero 159 = .ok (.bipush 14, 2) := by decide +kernel
theorem dX9_readSectorZero_161 : decode cX9_readSectorZero 161 = .ok (.invokevirtual 19, 3) := by decide +kernel
theorem dX9_readSectorZero_164 : decode cX9_readSectorZero 164 = .ok (.aload_n 0, 1) := by decide +kernel
theorem dX9_readSectorZero_165 : decode cX9_readSectorZero 165 = .ok (.getfield 15, 3) := by decide +kernel
theorem dX9_readSectorZero_168 : decode cX9_readSectorZero 168 = .ok (.bipush 16, 2) := by decide +kernel
theorem dX9_readSectorZero_170 : decode cX9_readSectorZero 170 = .ok (.invokevirtual 32, 3) := by decide +kernel
theorem dX9_readSectorZero_173 : decode cX9_readSectorZero 173 = .ok (.iload 4, 2) := by decide +kernel
theorem dX9_readSectorZero_175 : decode cX9_readSectorZero 175 = .ok (.invokevirtual 35, 3) := by decide +kernel
theorem dX9_readSectorZero_178 : decode cX9_readSectorZero 178 = .ok (.ifCond .ne 5, 3) := by decide +kernel
theorem dX9_readSectorZero_181 : decode cX9_readSectorZero 181 = .ok (.iconst 0, 1) := by decide +kernel
theorem dX9_readSectorZero_182 : decode cX9_readSectorZero 182 = .ok (.ireturn, 1) := by decide +kernel
theorem dX9_readSectorZero_183 : decode cX9_readSectorZero 183 = .ok (.iload_n 3, 1) := by decide +kernel
theorem dX9_readSectorZero_184 : decode cX9_readSectorZero 184 = .ok (.iconst 2, 1) := by decide +kernel
theorem dX9_readSectorZero_185 : decode cX9_readSectorZero 185 = .ok (.if_icmp .lt 36, 3) := by decide +kernel
theorem dX9_readSectorZero_188 : decode cX9_readSectorZero 188 = .ok (.iload_n 3, 1) := by decide +kernel
theorem dX9_readSectorZero_189 : decode cX9_readSectorZero 189 = .ok (.aload_n 0, 1) := by decide +kernel
theorem dX9_readSectorZero_190 : decode cX9_readSectorZero 190 = .ok (.iload_n 2, 1) := by decide +kernel
theorem dX9_readSectorZero_191 : decode cX9_readSectorZero 191 = .ok (.aload_n 0, 1) := by decide +kernel
theorem dX9_readSectorZero_192 : decode cX9_readSectorZero 192 = .ok (.getfield 15, 3) := by decide +kernel
theorem dX9_readSectorZero_195 : decode cX9_readSectorZero 195 = .ok (.bipush 14, 2) := by decide +kernel
theorem dX9_readSectorZero_197 : decode cX9_readSectorZero 197 = .ok (.invokevirtual 19, 3) := by decide +kernel
theorem dX9_readSectorZero_200 : decode cX9_readSectorZero 200 = .ok (.aload_n 0, 1) := by decide +kernel
theorem dX9_readSectorZero_201 : decode cX9_readSectorZero 201 = .ok (.getfield 15, 3) := by decide +kernel
theorem dX9_readSectorZero_204 : decode cX9_readSectorZero 204 = .ok (.bipush 16, 2) := by decide +kernel
theorem dX9_readSectorZero_206 : decode cX9_readSectorZero 206 = .ok (.invokevirtual 32, 3) := by decide +kernel
theorem dX9_readSectorZero_209 : decode cX9_readSectorZero 209 = .ok (.iload 4, 2) := by decide +kernel
theorem dX9_readSectorZero_211 : decode cX9_readSectorZero 211 = .ok (.imul, 1) := by decide +kernel
theorem dX9_readSectorZero_212 : decode cX9_readSectorZero 212 = .ok (.iadd, 1) := by decide +kernel
theorem dX9_readSectorZero_213 : decode cX9_readSectorZero 213 = .ok (.invokevirtual 39, 3) := by decide +kernel
theorem dX9_readSectorZero_216 : decode cX9_readSectorZero 216 = .ok (.iconst 1, 1) := by decide +kernel
theorem dX9_readSectorZero_217 : decode cX9_readSectorZero 217 = .ok (.iadd, 1) := by decide +kernel
theorem dX9_readSectorZero_218 : decode cX9_readSectorZero 218 = .ok (.if_icmp .le 5, 3) := by decide +kernel
theorem dX9_readSectorZero_221 : decode cX9_readSectorZero 221 = .ok (.iconst 0, 1) := by decide +kernel
theorem dX9_readSectorZero_222 : decode cX9_readSectorZero 222 = .ok (.ireturn, 1) := by decide +kernel
theorem dX9_readSectorZero_223 : decode cX9_readSectorZero 223 = .ok (.aload_n 0, 1) := by decide +kernel
theorem dX9_readSectorZero_224 : decode cX9_readSectorZero 224 = .ok (.iload_n 2, 1) := by decide +kernel
theorem dX9_readSectorZero_225 : decode cX9_readSectorZero 225 = .ok (.aload_n 0, 1) := by decide +kernel
theorem dX9_readSectorZero_226 : decode cX9_readSectorZero 226 = .ok (.getfield 15, 3) := by decide +kernel
theorem dX9_readSectorZero_229 : decode cX9_readSectorZero 229 = .ok (.bipush 14, 2) := by decide +kernel
theorem dX9_readSectorZero_231 : decode cX9_readSectorZero 231 = .ok (.invokevirtual 19, 3) := by decide +kernel
theorem dX9_readSectorZero_234 : decode cX9_readSectorZero 234 = .ok (.aload_n 0, 1) := by decide +kernel
theorem dX9_readSectorZero_235 : decode cX9_readSectorZero 235 = .ok (.getfield 15, 3) := by decide +kernel
theorem dX9_readSectorZero_238 : decode cX9_readSectorZero 238 = .ok (.bipush 16, 2) := by decide +kernel
theorem dX9_readSectorZero_240 : decode cX9_readSectorZero 240 = .ok (.invokevirtual 32, 3) := by decide +kernel
theorem dX9_readSectorZero_243 : decode cX9_readSectorZero 243 = .ok (.iload 4, 2) := by decide +kernel
theorem dX9_readSectorZero_245 : decode cX9_readSectorZero 245 = .ok (.iload_n 3, 1) := by decide +kernel
theorem dX9_readSectorZero_246 : decode cX9_readSectorZero 246 = .ok (.invokevirtual 43, 3) := by decide +kernel
theorem dX9_readSectorZero_249 : decode cX9_readSectorZero 249 = .ok (.iconst 1, 1) := by decide +kernel
theorem dX9_readSectorZero_250 : decode cX9_readSectorZero 250 = .ok (.ireturn, 1) := by decide +kernel
theorem dX9_adopt_0 : decode cX9_adopt 0 = .ok (.aload_n 0, 1) := by decide +kernel
theorem dX9_adopt_1 : decode cX9_adopt 1 = .ok (.iload_n 1, 1) := by decide +kernel
theorem dX9_adopt_2 : decode cX9_adopt 2 = .ok (.invokestatic 47, 3) := by decide +kernel
theorem dX9_adopt_5 : decode cX9_adopt 5 = .ok (.putfield 9, 3) := by decide +kernel
theorem dX9_adopt_8 : decode cX9_adopt 8 = .ok (.aload_n 0, 1) := by decide +kernel
theorem dX9_adopt_9 : decode cX9_adopt 9 = .ok (.iload_n 2, 1) := by decide +kernel
theorem dX9_adopt_10 : decode cX9_adopt 10 = .ok (.putfield 50, 3) := by decide +kernel
theorem dX9_adopt_13 : decode cX9_adopt 13 = .ok (.aload_n 0, 1) := by decide +kernel
theorem dX9_adopt_14 : decode cX9_adopt 14 = .ok (.iload_n 3, 1) := by decide +kernel
theorem dX9_adopt_15 : decode cX9_adopt 15 = .ok (.putfield 53, 3) := by decide +kernel
theorem dX9_adopt_18 : decode cX9_adopt 18 = .ok (.aload_n 0, 1) := by decide +kernel
theorem dX9_adopt_19 : decode cX9_adopt 19 = .ok (.iload 4, 2) := by decide +kernel
theorem dX9_adopt_21 : decode cX9_adopt 21 = .ok (.putfield 56, 3) := by decide +kernel
theorem dX9_adopt_24 : decode cX9_adopt 24 = .ok (.aload_n 0, 1) := by decide +kernel
theorem dX9_adopt_25 : decode cX9_adopt 25 = .ok (.iload_n 2, 1) := by decide +kernel
theorem dX9_adopt_26 : decode cX9_adopt 26 = .ok (.iload_n 3, 1) := by decide +kernel
theorem dX9_adopt_27 : decode cX9_adopt 27 = .ok (.iload 4, 2) := by decide +kernel
theorem dX9_adopt_29 : decode cX9_adopt 29 = .ok (.imul, 1) := by decide +kernel
theorem dX9_adopt_30 : decode cX9_adopt 30 = .ok (.iadd, 1) := by decide +kernel
theorem dX9_adopt_31 : decode cX9_adopt 31 = .ok (.putfield 59, 3) := by decide +kernel
theorem dX9_adopt_34 : decode cX9_adopt 34 = .ok (.aload_n 0, 1) := by decide +kernel
theorem dX9_adopt_35 : decode cX9_adopt 35 = .ok (.aload_n 0, 1) := by decide +kernel
theorem dX9_adopt_36 : decode cX9_adopt 36 = .ok (.iload_n 1, 1) := by decide +kernel
theorem dX9_adopt_37 : decode cX9_adopt 37 = .ok (.aload_n 0, 1) := by decide +kernel
theorem dX9_adopt_38 : decode cX9_adopt 38 = .ok (.getfield 59, 3) := by decide +kernel
theorem dX9_adopt_41 : decode cX9_adopt 41 = .ok (.invokevirtual 39, 3) := by decide +kernel
theorem dX9_adopt_44 : decode cX9_adopt 44 = .ok (.putfield 62, 3) := by decide +kernel
theorem dX9_adopt_47 : decode cX9_adopt 47 = .ok (.aload_n 0, 1) := by decide +kernel
theorem dX9_adopt_48 : decode cX9_adopt 48 = .ok (.iload 5, 2) := by decide +kernel
theorem dX9_adopt_50 : decode cX9_adopt 50 = .ok (.putfield 65, 3) := by decide +kernel
theorem dX9_adopt_53 : decode cX9_adopt 53 = .ok (.return_, 1) := by decide +kernel
theorem dX9_shiftOf_0 : decode cX9_shiftOf 0 = .ok (.iload_n 0, 1) := by decide +kernel
theorem dX9_shiftOf_1 : decode cX9_shiftOf 1 = .ok (.bipush 8, 2) := by decide +kernel
theorem dX9_shiftOf_3 : decode cX9_shiftOf 3 = .ok (.if_icmp .ne 7, 3) := by decide +kernel
theorem dX9_shiftOf_6 : decode cX9_shiftOf 6 = .ok (.iconst 3, 1) := by decide +kernel
theorem dX9_shiftOf_7 : decode cX9_shiftOf 7 = .ok (.goto 13, 3) := by decide +kernel
theorem dX9_shiftOf_10 : decode cX9_shiftOf 10 = .ok (.iload_n 0, 1) := by decide +kernel
theorem dX9_shiftOf_11 : decode cX9_shiftOf 11 = .ok (.iconst 4, 1) := by decide +kernel
theorem dX9_shiftOf_12 : decode cX9_shiftOf 12 = .ok (.if_icmp .ne 7, 3) := by decide +kernel
theorem dX9_shiftOf_15 : decode cX9_shiftOf 15 = .ok (.iconst 2, 1) := by decide +kernel
theorem dX9_shiftOf_16 : decode cX9_shiftOf 16 = .ok (.goto 4, 3) := by decide +kernel
theorem dX9_shiftOf_19 : decode cX9_shiftOf 19 = .ok (.iconst 1, 1) := by decide +kernel
theorem dX9_shiftOf_20 : decode cX9_shiftOf 20 = .ok (.ireturn, 1) := by decide +kernel
theorem dX9_clusterCount_0 : decode cX9_clusterCount 0 = .ok (.aload_n 0, 1) := by decide +kernel
theorem dX9_clusterCount_1 : decode cX9_clusterCount 1 = .ok (.getfield 15, 3) := by decide +kernel
theorem dX9_clusterCount_4 : decode cX9_clusterCount 4 = .ok (.getfield 28, 3) := by decide +kernel
theorem dX9_clusterCount_7 : decode cX9_clusterCount 7 = .ok (.iload_n 2, 1) := by decide +kernel
theorem dX9_clusterCount_8 : decode cX9_clusterCount 8 = .ok (.isub, 1) := by decide +kernel
theorem dX9_clusterCount_9 : decode cX9_clusterCount 9 = .ok (.iload_n 1, 1) := by decide +kernel
theorem dX9_clusterCount_10 : decode cX9_clusterCount 10 = .ok (.invokestatic 47, 3) := by decide +kernel
theorem dX9_clusterCount_13 : decode cX9_clusterCount 13 = .ok (.ishr, 1) := by decide +kernel
theorem dX9_clusterCount_14 : decode cX9_clusterCount 14 = .ok (.ireturn, 1) := by decide +kernel
theorem dX9_tableFits_0 : decode cX9_tableFits 0 = .ok (.iload_n 1, 1) := by decide +kernel
theorem dX9_tableFits_1 : decode cX9_tableFits 1 = .ok (.iconst 2, 1) := by decide +kernel
theorem dX9_tableFits_2 : decode cX9_tableFits 2 = .ok (.if_icmp .eq 14, 3) := by decide +kernel
theorem dX9_tableFits_5 : decode cX9_tableFits 5 = .ok (.iload_n 1, 1) := by decide +kernel
theorem dX9_tableFits_6 : decode cX9_tableFits 6 = .ok (.iconst 4, 1) := by decide +kernel
theorem dX9_tableFits_7 : decode cX9_tableFits 7 = .ok (.if_icmp .eq 9, 3) := by decide +kernel
theorem dX9_tableFits_10 : decode cX9_tableFits 10 = .ok (.iload_n 1, 1) := by decide +kernel
theorem dX9_tableFits_11 : decode cX9_tableFits 11 = .ok (.bipush 8, 2) := by decide +kernel
theorem dX9_tableFits_13 : decode cX9_tableFits 13 = .ok (.if_icmp .ne 42, 3) := by decide +kernel
theorem dX9_tableFits_16 : decode cX9_tableFits 16 = .ok (.iload_n 2, 1) := by decide +kernel
theorem dX9_tableFits_17 : decode cX9_tableFits 17 = .ok (.bipush 8, 2) := by decide +kernel
theorem dX9_tableFits_19 : decode cX9_tableFits 19 = .ok (.if_icmp .lt 36, 3) := by decide +kernel
theorem dX9_tableFits_22 : decode cX9_tableFits 22 = .ok (.iload_n 2, 1) := by decide +kernel
theorem dX9_tableFits_23 : decode cX9_tableFits 23 = .ok (.bipush 64, 2) := by decide +kernel
theorem dX9_tableFits_25 : decode cX9_tableFits 25 = .ok (.if_icmp .gt 30, 3) := by decide +kernel
theorem dX9_tableFits_28 : decode cX9_tableFits 28 = .ok (.iload_n 3, 1) := by decide +kernel
theorem dX9_tableFits_29 : decode cX9_tableFits 29 = .ok (.iconst 1, 1) := by decide +kernel
theorem dX9_tableFits_30 : decode cX9_tableFits 30 = .ok (.if_icmp .eq 8, 3) := by decide +kernel
theorem dX9_tableFits_33 : decode cX9_tableFits 33 = .ok (.iload_n 3, 1) := by decide +kernel
theorem dX9_tableFits_34 : decode cX9_tableFits 34 = .ok (.iconst 2, 1) := by decide +kernel
theorem dX9_tableFits_35 : decode cX9_tableFits 35 = .ok (.if_icmp .ne 20, 3) := by decide +kernel
theorem dX9_tableFits_38 : decode cX9_tableFits 38 = .ok (.iload 4, 2) := by decide +kernel
theorem dX9_tableFits_40 : decode cX9_tableFits 40 = .ok (.iconst 1, 1) := by decide +kernel
theorem dX9_tableFits_41 : decode cX9_tableFits 41 = .ok (.if_icmp .lt 14, 3) := by decide +kernel
theorem dX9_tableFits_44 : decode cX9_tableFits 44 = .ok (.iload 4, 2) := by decide +kernel
theorem dX9_tableFits_46 : decode cX9_tableFits 46 = .ok (.bipush 32, 2) := by decide +kernel
theorem dX9_tableFits_48 : decode cX9_tableFits 48 = .ok (.if_icmp .gt 7, 3) := by decide +kernel
theorem dX9_tableFits_51 : decode cX9_tableFits 51 = .ok (.iconst 1, 1) := by decide +kernel
theorem dX9_tableFits_52 : decode cX9_tableFits 52 = .ok (.goto 4, 3) := by decide +kernel
theorem dX9_tableFits_55 : decode cX9_tableFits 55 = .ok (.iconst 0, 1) := by decide +kernel
theorem dX9_tableFits_56 : decode cX9_tableFits 56 = .ok (.istore 5, 2) := by decide +kernel
theorem dX9_tableFits_58 : decode cX9_tableFits 58 = .ok (.iload 5, 2) := by decide +kernel
theorem dX9_tableFits_60 : decode cX9_tableFits 60 = .ok (.ifCond .ne 5, 3) := by decide +kernel
theorem dX9_tableFits_63 : decode cX9_tableFits 63 = .ok (.iconst 0, 1) := by decide +kernel
theorem dX9_tableFits_64 : decode cX9_tableFits 64 = .ok (.ireturn, 1) := by decide +kernel
theorem dX9_tableFits_65 : decode cX9_tableFits 65 = .ok (.aload_n 0, 1) := by decide +kernel
theorem dX9_tableFits_66 : decode cX9_tableFits 66 = .ok (.iload_n 1, 1) := by decide +kernel
theorem dX9_tableFits_67 : decode cX9_tableFits 67 = .ok (.iload_n 2, 1) := by decide +kernel
theorem dX9_tableFits_68 : decode cX9_tableFits 68 = .ok (.iload_n 3, 1) := by decide +kernel
theorem dX9_tableFits_69 : decode cX9_tableFits 69 = .ok (.iload 4, 2) := by decide +kernel
theorem dX9_tableFits_71 : decode cX9_tableFits 71 = .ok (.imul, 1) := by decide +kernel
theorem dX9_tableFits_72 : decode cX9_tableFits 72 = .ok (.iadd, 1) := by decide +kernel
theorem dX9_tableFits_73 : decode cX9_tableFits 73 = .ok (.invokevirtual 39, 3) := by decide +kernel
theorem dX9_tableFits_76 : decode cX9_tableFits 76 = .ok (.istore 6, 2) := by decide +kernel
theorem dX9_tableFits_78 : decode cX9_tableFits 78 = .ok (.iload 6, 2) := by decide +kernel
theorem dX9_tableFits_80 : decode cX9_tableFits 80 = .ok (.iconst 4, 1) := by decide +kernel
theorem dX9_tableFits_81 : decode cX9_tableFits 81 = .ok (.if_icmp .lt 20, 3) := by decide +kernel
theorem dX9_tableFits_84 : decode cX9_tableFits 84 = .ok (.sipush 128, 3) := by decide +kernel
theorem dX9_tableFits_87 : decode cX9_tableFits 87 = .ok (.iload 4, 2) := by decide +kernel
theorem dX9_tableFits_89 : decode cX9_tableFits 89 = .ok (.imul, 1) := by decide +kernel
theorem dX9_tableFits_90 : decode cX9_tableFits 90 = .ok (.iload 6, 2) := by decide +kernel
theorem dX9_tableFits_92 : decode cX9_tableFits 92 = .ok (.iconst 2, 1) := by decide +kernel
theorem dX9_tableFits_93 : decode cX9_tableFits 93 = .ok (.iadd, 1) := by decide +kernel
theorem dX9_tableFits_94 : decode cX9_tableFits 94 = .ok (.if_icmp .lt 7, 3) := by decide +kernel
theorem dX9_tableFits_97 : decode cX9_tableFits 97 = .ok (.iconst 1, 1) := by decide +kernel
theorem dX9_tableFits_98 : decode cX9_tableFits 98 = .ok (.goto 4, 3) := by decide +kernel
theorem dX9_tableFits_101 : decode cX9_tableFits 101 = .ok (.iconst 0, 1) := by decide +kernel
theorem dX9_tableFits_102 : decode cX9_tableFits 102 = .ok (.ireturn, 1) := by decide +kernel
theorem dX9_leastTable_0 : decode cX9_leastTable 0 = .ok (.iconst 1, 1) := by decide +kernel
theorem dX9_leastTable_1 : decode cX9_leastTable 1 = .ok (.istore 4, 2) := by decide +kernel
theorem dX9_leastTable_3 : decode cX9_leastTable 3 = .ok (.iload 4, 2) := by decide +kernel
theorem dX9_leastTable_5 : decode cX9_leastTable 5 = .ok (.bipush 32, 2) := by decide +kernel
theorem dX9_leastTable_7 : decode cX9_leastTable 7 = .ok (.if_icmp .gt 24, 3) := by decide +kernel
theorem dX9_leastTable_10 : decode cX9_leastTable 10 = .ok (.aload_n 0, 1) := by decide +kernel
theorem dX9_leastTable_11 : decode cX9_leastTable 11 = .ok (.iload_n 1, 1) := by decide +kernel
theorem dX9_leastTable_12 : decode cX9_leastTable 12 = .ok (.iload_n 2, 1) := by decide +kernel
theorem dX9_leastTable_13 : decode cX9_leastTable 13 = .ok (.iload_n 3, 1) := by decide +kernel
theorem dX9_leastTable_14 : decode cX9_leastTable 14 = .ok (.iload 4, 2) := by decide +kernel
theorem dX9_leastTable_16 : decode cX9_leastTable 16 = .ok (.invokevirtual 35, 3) := by decide +kernel
theorem dX9_leastTable_19 : decode cX9_leastTable 19 = .ok (.ifCond .eq 6, 3) := by decide +kernel
theorem dX9_leastTable_22 : decode cX9_leastTable 22 = .ok (.iload 4, 2) := by decide +kernel
theorem dX9_leastTable_24 : decode cX9_leastTable 24 = .ok (.ireturn, 1) := by decide +kernel
theorem dX9_leastTable_25 : decode cX9_leastTable 25 = .ok (.iinc 4 1, 3) := by decide +kernel
theorem dX9_leastTable_28 : decode cX9_leastTable 28 = .ok (.goto (-25), 3) := by decide +kernel
theorem dX9_leastTable_31 : decode cX9_leastTable 31 = .ok (.iconst 0, 1) := by decide +kernel
theorem dX9_leastTable_32 : decode cX9_leastTable 32 = .ok (.ireturn, 1) := by decide +kernel
theorem dX9_lay_0 : decode cX9_lay 0 = .ok (.aload_n 0, 1) := by decide +kernel
theorem dX9_lay_1 : decode cX9_lay 1 = .ok (.getfield 15, 3) := by decide +kernel
theorem dX9_lay_4 : decode cX9_lay 4 = .ok (.iconst 3, 1) := by decide +kernel
theorem dX9_lay_5 : decode cX9_lay 5 = .ok (.bipush 8, 2) := by decide +kernel
theorem dX9_lay_7 : decode cX9_lay 7 = .ok (.bipush 32, 2) := by decide +kernel
theorem dX9_lay_9 : decode cX9_lay 9 = .ok (.invokevirtual 68, 3) := by decide +kernel
theorem dX9_lay_12 : decode cX9_lay 12 = .ok (.aload_n 0, 1) := by decide +kernel
theorem dX9_lay_13 : decode cX9_lay 13 = .ok (.getfield 15, 3) := by decide +kernel
theorem dX9_lay_16 : decode cX9_lay 16 = .ok (.bipush 11, 2) := by decide +kernel
theorem dX9_lay_18 : decode cX9_lay 18 = .ok (.sipush 512, 3) := by decide +kernel
theorem dX9_lay_21 : decode cX9_lay 21 = .ok (.invokevirtual 72, 3) := by decide +kernel
theorem dX9_lay_24 : decode cX9_lay 24 = .ok (.aload_n 0, 1) := by decide +kernel
theorem dX9_lay_25 : decode cX9_lay 25 = .ok (.getfield 15, 3) := by decide +kernel
theorem dX9_lay_28 : decode cX9_lay 28 = .ok (.bipush 13, 2) := by decide +kernel
theorem dX9_lay_30 : decode cX9_lay 30 = .ok (.iload_n 1, 1) := by decide +kernel
theorem dX9_lay_31 : decode cX9_lay 31 = .ok (.invokevirtual 76, 3) := by decide +kernel
theorem dX9_lay_34 : decode cX9_lay 34 = .ok (.aload_n 0, 1) := by decide +kernel
theorem dX9_lay_35 : decode cX9_lay 35 = .ok (.getfield 15, 3) := by decide +kernel
theorem dX9_lay_38 : decode cX9_lay 38 = .ok (.bipush 14, 2) := by decide +kernel
theorem dX9_lay_40 : decode cX9_lay 40 = .ok (.iload_n 2, 1) := by decide +kernel
theorem dX9_lay_41 : decode cX9_lay 41 = .ok (.invokevirtual 72, 3) := by decide +kernel
theorem dX9_lay_44 : decode cX9_lay 44 = .ok (.aload_n 0, 1) := by decide +kernel
theorem dX9_lay_45 : decode cX9_lay 45 = .ok (.getfield 15, 3) := by decide +kernel
theorem dX9_lay_48 : decode cX9_lay 48 = .ok (.bipush 16, 2) := by decide +kernel
theorem dX9_lay_50 : decode cX9_lay 50 = .ok (.iload_n 3, 1) := by decide +kernel
theorem dX9_lay_51 : decode cX9_lay 51 = .ok (.invokevirtual 76, 3) := by decide +kernel
theorem dX9_lay_54 : decode cX9_lay 54 = .ok (.aload_n 0, 1) := by decide +kernel
theorem dX9_lay_55 : decode cX9_lay 55 = .ok (.getfield 15, 3) := by decide +kernel
theorem dX9_lay_58 : decode cX9_lay 58 = .ok (.bipush 32, 2) := by decide +kernel
theorem dX9_lay_60 : decode cX9_lay 60 = .ok (.aload_n 0, 1) := by decide +kernel
theorem dX9_lay_61 : decode cX9_lay 61 = .ok (.getfield 15, 3) := by decide +kernel
theorem dX9_lay_64 : decode cX9_lay 64 = .ok (.getfield 28, 3) := by decide +kernel
theorem dX9_lay_67 : decode cX9_lay 67 = .ok (.invokevirtual 79, 3) := by decide +kernel
theorem dX9_lay_70 : decode cX9_lay 70 = .ok (.aload_n 0, 1) := by decide +kernel
theorem dX9_lay_71 : decode cX9_lay 71 = .ok (.getfield 15, 3) := by decide +kernel
theorem dX9_lay_74 : decode cX9_lay 74 = .ok (.bipush 36, 2) := by decide +kernel
theorem dX9_lay_76 : decode cX9_lay 76 = .ok (.iload 4, 2) := by decide +kernel
theorem dX9_lay_78 : decode cX9_lay 78 = .ok (.invokevirtual 79, 3) := by decide +kernel
theorem dX9_lay_81 : decode cX9_lay 81 = .ok (.aload_n 0, 1) := by decide +kernel
theorem dX9_lay_82 : decode cX9_lay 82 = .ok (.getfield 15, 3) := by decide +kernel
theorem dX9_lay_85 : decode cX9_lay 85 = .ok (.bipush 44, 2) := by decide +kernel
theorem dX9_lay_87 : decode cX9_lay 87 = .ok (.iconst 2, 1) := by decide +kernel
theorem dX9_lay_88 : decode cX9_lay 88 = .ok (.invokevirtual 79, 3) := by decide +kernel
theorem dX9_lay_91 : decode cX9_lay 91 = .ok (.aload_n 0, 1) := by decide +kernel
theorem dX9_lay_92 : decode cX9_lay 92 = .ok (.getfield 15, 3) := by decide +kernel
theorem dX9_lay_95 : decode cX9_lay 95 = .ok (.bipush 48, 2) := by decide +kernel
theorem dX9_lay_97 : decode cX9_lay 97 = .ok (.iconst 1, 1) := by decide +kernel
theorem dX9_lay_98 : decode cX9_lay 98 = .ok (.invokevirtual 72, 3) := by decide +kernel
theorem dX9_lay_101 : decode cX9_lay 101 = .ok (.aload_n 0, 1) := by decide +kernel
theorem dX9_lay_102 : decode cX9_lay 102 = .ok (.getfield 15, 3) := by decide +kernel
theorem dX9_lay_105 : decode cX9_lay 105 = .ok (.bipush 50, 2) := by decide +kernel
theorem dX9_lay_107 : decode cX9_lay 107 = .ok (.bipush 6, 2) := by decide +kernel
theorem dX9_lay_109 : decode cX9_lay 109 = .ok (.invokevirtual 72, 3) := by decide +kernel
theorem dX9_lay_112 : decode cX9_lay 112 = .ok (.aload_n 0, 1) := by decide +kernel
theorem dX9_lay_113 : decode cX9_lay 113 = .ok (.getfield 15, 3) := by decide +kernel
theorem dX9_lay_116 : decode cX9_lay 116 = .ok (.bipush 67, 2) := by decide +kernel
theorem dX9_lay_118 : decode cX9_lay 118 = .ok (.iload 5, 2) := by decide +kernel
theorem dX9_lay_120 : decode cX9_lay 120 = .ok (.invokevirtual 79, 3) := by decide +kernel
theorem dX9_lay_123 : decode cX9_lay 123 = .ok (.aload_n 0, 1) := by decide +kernel
theorem dX9_lay_124 : decode cX9_lay 124 = .ok (.getfield 15, 3) := by decide +kernel
theorem dX9_lay_127 : decode cX9_lay 127 = .ok (.sipush 510, 3) := by decide +kernel
theorem dX9_lay_130 : decode cX9_lay 130 = .ok (.ldc 31, 2) := by decide +kernel
theorem dX9_lay_132 : decode cX9_lay 132 = .ok (.invokevirtual 72, 3) := by decide +kernel
theorem dX9_lay_135 : decode cX9_lay 135 = .ok (.aload_n 0, 1) := by decide +kernel
theorem dX9_lay_136 : decode cX9_lay 136 = .ok (.getfield 15, 3) := by decide +kernel
theorem dX9_lay_139 : decode cX9_lay 139 = .ok (.iconst 0, 1) := by decide +kernel
theorem dX9_lay_140 : decode cX9_lay 140 = .ok (.bipush 6, 2) := by decide +kernel
theorem dX9_lay_142 : decode cX9_lay 142 = .ok (.invokevirtual 82, 3) := by decide +kernel
theorem dX9_lay_145 : decode cX9_lay 145 = .ok (.aload_n 0, 1) := by decide +kernel
theorem dX9_lay_146 : decode cX9_lay 146 = .ok (.getfield 15, 3) := by decide +kernel
theorem dX9_lay_149 : decode cX9_lay 149 = .ok (.sipush 512, 3) := by decide +kernel
theorem dX9_lay_152 : decode cX9_lay 152 = .ok (.ldc 85, 2) := by decide +kernel
theorem dX9_lay_154 : decode cX9_lay 154 = .ok (.invokevirtual 79, 3) := by decide +kernel
theorem dX9_lay_157 : decode cX9_lay 157 = .ok (.aload_n 0, 1) := by decide +kernel
theorem dX9_lay_158 : decode cX9_lay 158 = .ok (.getfield 15, 3) := by decide +kernel
theorem dX9_lay_161 : decode cX9_lay 161 = .ok (.sipush 996, 3) := by decide +kernel
theorem dX9_lay_164 : decode cX9_lay 164 = .ok (.ldc 86, 2) := by decide +kernel
theorem dX9_lay_166 : decode cX9_lay 166 = .ok (.invokevirtual 79, 3) := by decide +kernel
theorem dX9_lay_169 : decode cX9_lay 169 = .ok (.aload_n 0, 1) := by decide +kernel
theorem dX9_lay_170 : decode cX9_lay 170 = .ok (.getfield 15, 3) := by decide +kernel
theorem dX9_lay_173 : decode cX9_lay 173 = .ok (.sipush 1000, 3) := by decide +kernel
theorem dX9_lay_176 : decode cX9_lay 176 = .ok (.iconst (-1), 1) := by decide +kernel
theorem dX9_lay_177 : decode cX9_lay 177 = .ok (.invokevirtual 79, 3) := by decide +kernel
theorem dX9_lay_180 : decode cX9_lay 180 = .ok (.aload_n 0, 1) := by decide +kernel
theorem dX9_lay_181 : decode cX9_lay 181 = .ok (.getfield 15, 3) := by decide +kernel
theorem dX9_lay_184 : decode cX9_lay 184 = .ok (.sipush 1004, 3) := by decide +kernel
theorem dX9_lay_187 : decode cX9_lay 187 = .ok (.iconst (-1), 1) := by decide +kernel
theorem dX9_lay_188 : decode cX9_lay 188 = .ok (.invokevirtual 79, 3) := by decide +kernel
theorem dX9_lay_191 : decode cX9_lay 191 = .ok (.aload_n 0, 1) := by decide +kernel
theorem dX9_lay_192 : decode cX9_lay 192 = .ok (.getfield 15, 3) := by decide +kernel
theorem dX9_lay_195 : decode cX9_lay 195 = .ok (.sipush 1020, 3) := by decide +kernel
theorem dX9_lay_198 : decode cX9_lay 198 = .ok (.ldc 87, 2) := by decide +kernel
theorem dX9_lay_200 : decode cX9_lay 200 = .ok (.invokevirtual 79, 3) := by decide +kernel
theorem dX9_lay_203 : decode cX9_lay 203 = .ok (.aload_n 0, 1) := by decide +kernel
theorem dX9_lay_204 : decode cX9_lay 204 = .ok (.iload_n 1, 1) := by decide +kernel
theorem dX9_lay_205 : decode cX9_lay 205 = .ok (.iload_n 2, 1) := by decide +kernel
theorem dX9_lay_206 : decode cX9_lay 206 = .ok (.iload_n 3, 1) := by decide +kernel
theorem dX9_lay_207 : decode cX9_lay 207 = .ok (.iload 4, 2) := by decide +kernel
theorem dX9_lay_209 : decode cX9_lay 209 = .ok (.iconst 2, 1) := by decide +kernel
theorem dX9_lay_210 : decode cX9_lay 210 = .ok (.invokevirtual 43, 3) := by decide +kernel
theorem dX9_lay_213 : decode cX9_lay 213 = .ok (.aload_n 0, 1) := by decide +kernel
theorem dX9_lay_214 : decode cX9_lay 214 = .ok (.iconst 0, 1) := by decide +kernel
theorem dX9_lay_215 : decode cX9_lay 215 = .ok (.ldc 88, 2) := by decide +kernel
theorem dX9_lay_217 : decode cX9_lay 217 = .ok (.invokevirtual 89, 3) := by decide +kernel
theorem dX9_lay_220 : decode cX9_lay 220 = .ok (.aload_n 0, 1) := by decide +kernel
theorem dX9_lay_221 : decode cX9_lay 221 = .ok (.iconst 1, 1) := by decide +kernel
theorem dX9_lay_222 : decode cX9_lay 222 = .ok (.ldc 92, 2) := by decide +kernel
theorem dX9_lay_224 : decode cX9_lay 224 = .ok (.invokevirtual 89, 3) := by decide +kernel
theorem dX9_lay_227 : decode cX9_lay 227 = .ok (.aload_n 0, 1) := by decide +kernel
theorem dX9_lay_228 : decode cX9_lay 228 = .ok (.iconst 2, 1) := by decide +kernel
theorem dX9_lay_229 : decode cX9_lay 229 = .ok (.ldc 92, 2) := by decide +kernel
theorem dX9_lay_231 : decode cX9_lay 231 = .ok (.invokevirtual 89, 3) := by decide +kernel
theorem dX9_lay_234 : decode cX9_lay 234 = .ok (.return_, 1) := by decide +kernel
theorem dX9_isCluster_0 : decode cX9_isCluster 0 = .ok (.iload_n 1, 1) := by decide +kernel
theorem dX9_isCluster_1 : decode cX9_isCluster 1 = .ok (.iconst 2, 1) := by decide +kernel
theorem dX9_isCluster_2 : decode cX9_isCluster 2 = .ok (.if_icmp .lt 17, 3) := by decide +kernel
theorem dX9_isCluster_5 : decode cX9_isCluster 5 = .ok (.iload_n 1, 1) := by decide +kernel
theorem dX9_isCluster_6 : decode cX9_isCluster 6 = .ok (.aload_n 0, 1) := by decide +kernel
theorem dX9_isCluster_7 : decode cX9_isCluster 7 = .ok (.getfield 62, 3) := by decide +kernel
theorem dX9_isCluster_10 : decode cX9_isCluster 10 = .ok (.iconst 1, 1) := by decide +kernel
theorem dX9_isCluster_11 : decode cX9_isCluster 11 = .ok (.iadd, 1) := by decide +kernel
theorem dX9_isCluster_12 : decode cX9_isCluster 12 = .ok (.if_icmp .gt 7, 3) := by decide +kernel
theorem dX9_isCluster_15 : decode cX9_isCluster 15 = .ok (.iconst 1, 1) := by decide +kernel
theorem dX9_isCluster_16 : decode cX9_isCluster 16 = .ok (.goto 4, 3) := by decide +kernel
theorem dX9_isCluster_19 : decode cX9_isCluster 19 = .ok (.iconst 0, 1) := by decide +kernel
theorem dX9_isCluster_20 : decode cX9_isCluster 20 = .ok (.ireturn, 1) := by decide +kernel
theorem dX9_addressOf_0 : decode cX9_addressOf 0 = .ok (.aload_n 0, 1) := by decide +kernel
theorem dX9_addressOf_1 : decode cX9_addressOf 1 = .ok (.getfield 59, 3) := by decide +kernel
theorem dX9_addressOf_4 : decode cX9_addressOf 4 = .ok (.iload_n 1, 1) := by decide +kernel
theorem dX9_addressOf_5 : decode cX9_addressOf 5 = .ok (.iconst 2, 1) := by decide +kernel
theorem dX9_addressOf_6 : decode cX9_addressOf 6 = .ok (.isub, 1) := by decide +kernel
theorem dX9_addressOf_7 : decode cX9_addressOf 7 = .ok (.aload_n 0, 1) := by decide +kernel
theorem dX9_addressOf_8 : decode cX9_addressOf 8 = .ok (.getfield 9, 3) := by decide +kernel
theorem dX9_addressOf_11 : decode cX9_addressOf 11 = .ok (.ishl, 1) := by decide +kernel
theorem dX9_addressOf_12 : decode cX9_addressOf 12 = .ok (.iadd, 1) := by decide +kernel
theorem dX9_addressOf_13 : decode cX9_addressOf 13 = .ok (.bipush 9, 2) := by decide +kernel
theorem dX9_addressOf_15 : decode cX9_addressOf 15 = .ok (.ishl, 1) := by decide +kernel
theorem dX9_addressOf_16 : decode cX9_addressOf 16 = .ok (.ireturn, 1) := by decide +kernel
theorem dX9_byteShift_0 : decode cX9_byteShift 0 = .ok (.aload_n 0, 1) := by decide +kernel
theorem dX9_byteShift_1 : decode cX9_byteShift 1 = .ok (.getfield 9, 3) := by decide +kernel
theorem dX9_byteShift_4 : decode cX9_byteShift 4 = .ok (.bipush 9, 2) := by decide +kernel
theorem dX9_byteShift_6 : decode cX9_byteShift 6 = .ok (.iadd, 1) := by decide +kernel
theorem dX9_byteShift_7 : decode cX9_byteShift 7 = .ok (.ireturn, 1) := by decide +kernel
theorem dX9_byteMask_0 : decode cX9_byteMask 0 = .ok (.sipush 512, 3) := by decide +kernel
theorem dX9_byteMask_3 : decode cX9_byteMask 3 = .ok (.aload_n 0, 1) := by decide +kernel
theorem dX9_byteMask_4 : decode cX9_byteMask 4 = .ok (.getfield 9, 3) := by decide +kernel
theorem dX9_byteMask_7 : decode cX9_byteMask 7 = .ok (.ishl, 1) := by decide +kernel
theorem dX9_byteMask_8 : decode cX9_byteMask 8 = .ok (.iconst 1, 1) := by decide +kernel
theorem dX9_byteMask_9 : decode cX9_byteMask 9 = .ok (.isub, 1) := by decide +kernel
theorem dX9_byteMask_10 : decode cX9_byteMask 10 = .ok (.ireturn, 1) := by decide +kernel
theorem dX9_slotShift_0 : decode cX9_slotShift 0 = .ok (.aload_n 0, 1) := by decide +kernel
theorem dX9_slotShift_1 : decode cX9_slotShift 1 = .ok (.getfield 9, 3) := by decide +kernel
theorem dX9_slotShift_4 : decode cX9_slotShift 4 = .ok (.iconst 4, 1) := by decide +kernel
theorem dX9_slotShift_5 : decode cX9_slotShift 5 = .ok (.iadd, 1) := by decide +kernel
theorem dX9_slotShift_6 : decode cX9_slotShift 6 = .ok (.ireturn, 1) := by decide +kernel
theorem dX9_clustersFor_0 : decode cX9_clustersFor 0 = .ok (.iload_n 1, 1) := by decide +kernel
theorem dX9_clustersFor_1 : decode cX9_clustersFor 1 = .ok (.aload_n 0, 1) := by decide +kernel
theorem dX9_clustersFor_2 : decode cX9_clustersFor 2 = .ok (.invokevirtual 93, 3) := by decide +kernel
theorem dX9_clustersFor_5 : decode cX9_clustersFor 5 = .ok (.ishr, 1) := by decide +kernel
theorem dX9_clustersFor_6 : decode cX9_clustersFor 6 = .ok (.iload_n 1, 1) := by decide +kernel
theorem dX9_clustersFor_7 : decode cX9_clustersFor 7 = .ok (.aload_n 0, 1) := by decide +kernel
theorem dX9_clustersFor_8 : decode cX9_clustersFor 8 = .ok (.invokevirtual 97, 3) := by decide +kernel
theorem dX9_clustersFor_11 : decode cX9_clustersFor 11 = .ok (.iand, 1) := by decide +kernel
theorem dX9_clustersFor_12 : decode cX9_clustersFor 12 = .ok (.ifCond .ne 7, 3) := by decide +kernel
theorem dX9_clustersFor_15 : decode cX9_clustersFor 15 = .ok (.iconst 0, 1) := by decide +kernel
theorem dX9_clustersFor_16 : decode cX9_clustersFor 16 = .ok (.goto 4, 3) := by decide +kernel
theorem dX9_clustersFor_19 : decode cX9_clustersFor 19 = .ok (.iconst 1, 1) := by decide +kernel
theorem dX9_clustersFor_20 : decode cX9_clustersFor 20 = .ok (.iadd, 1) := by decide +kernel
theorem dX9_clustersFor_21 : decode cX9_clustersFor 21 = .ok (.ireturn, 1) := by decide +kernel
theorem dX9_inUse_0 : decode cX9_inUse 0 = .ok (.iload_n 1, 1) := by decide +kernel
theorem dX9_inUse_1 : decode cX9_inUse 1 = .ok (.aload_n 0, 1) := by decide +kernel
theorem dX9_inUse_2 : decode cX9_inUse 2 = .ok (.getfield 59, 3) := by decide +kernel
theorem dX9_inUse_5 : decode cX9_inUse 5 = .ok (.if_icmp .ge 5, 3) := by decide +kernel
theorem dX9_inUse_8 : decode cX9_inUse 8 = .ok (.iconst 1, 1) := by decide +kernel
theorem dX9_inUse_9 : decode cX9_inUse 9 = .ok (.ireturn, 1) := by decide +kernel
theorem dX9_inUse_10 : decode cX9_inUse 10 = .ok (.iload_n 1, 1) := by decide +kernel
theorem dX9_inUse_11 : decode cX9_inUse 11 = .ok (.aload_n 0, 1) := by decide +kernel
theorem dX9_inUse_12 : decode cX9_inUse 12 = .ok (.getfield 59, 3) := by decide +kernel
theorem dX9_inUse_15 : decode cX9_inUse 15 = .ok (.isub, 1) := by decide +kernel
theorem dX9_inUse_16 : decode cX9_inUse 16 = .ok (.aload_n 0, 1) := by decide +kernel
theorem dX9_inUse_17 : decode cX9_inUse 17 = .ok (.getfield 9, 3) := by decide +kernel
theorem dX9_inUse_20 : decode cX9_inUse 20 = .ok (.ishr, 1) := by decide +kernel
theorem dX9_inUse_21 : decode cX9_inUse 21 = .ok (.iconst 2, 1) := by decide +kernel
theorem dX9_inUse_22 : decode cX9_inUse 22 = .ok (.iadd, 1) := by decide +kernel
theorem dX9_inUse_23 : decode cX9_inUse 23 = .ok (.istore_n 2, 1) := by decide +kernel
theorem dX9_inUse_24 : decode cX9_inUse 24 = .ok (.aload_n 0, 1) := by decide +kernel
theorem dX9_inUse_25 : decode cX9_inUse 25 = .ok (.iload_n 2, 1) := by decide +kernel
theorem dX9_inUse_26 : decode cX9_inUse 26 = .ok (.invokevirtual 100, 3) := by decide +kernel
theorem dX9_inUse_29 : decode cX9_inUse 29 = .ok (.ifCond .eq 15, 3) := by decide +kernel
theorem dX9_inUse_32 : decode cX9_inUse 32 = .ok (.aload_n 0, 1) := by decide +kernel
theorem dX9_inUse_33 : decode cX9_inUse 33 = .ok (.iload_n 2, 1) := by decide +kernel
theorem dX9_inUse_34 : decode cX9_inUse 34 = .ok (.invokevirtual 104, 3) := by decide +kernel
theorem dX9_inUse_37 : decode cX9_inUse 37 = .ok (.ifCond .eq 7, 3) := by decide +kernel
theorem dX9_inUse_40 : decode cX9_inUse 40 = .ok (.iconst 1, 1) := by decide +kernel
theorem dX9_inUse_41 : decode cX9_inUse 41 = .ok (.goto 4, 3) := by decide +kernel
theorem dX9_inUse_44 : decode cX9_inUse 44 = .ok (.iconst 0, 1) := by decide +kernel
theorem dX9_inUse_45 : decode cX9_inUse 45 = .ok (.ireturn, 1) := by decide +kernel
theorem dX9_next_0 : decode cX9_next 0 = .ok (.aload_n 0, 1) := by decide +kernel
theorem dX9_next_1 : decode cX9_next 1 = .ok (.getfield 15, 3) := by decide +kernel
theorem dX9_next_4 : decode cX9_next 4 = .ok (.aload_n 0, 1) := by decide +kernel
theorem dX9_next_5 : decode cX9_next 5 = .ok (.getfield 50, 3) := by decide +kernel
theorem dX9_next_8 : decode cX9_next 8 = .ok (.sipush 512, 3) := by decide +kernel
theorem dX9_next_11 : decode cX9_next 11 = .ok (.imul, 1) := by decide +kernel
theorem dX9_next_12 : decode cX9_next 12 = .ok (.iconst 4, 1) := by decide +kernel
theorem dX9_next_13 : decode cX9_next 13 = .ok (.iload_n 1, 1) := by decide +kernel
theorem dX9_next_14 : decode cX9_next 14 = .ok (.imul, 1) := by decide +kernel
theorem dX9_next_15 : decode cX9_next 15 = .ok (.iadd, 1) := by decide +kernel
theorem dX9_next_16 : decode cX9_next 16 = .ok (.invokevirtual 25, 3) := by decide +kernel
theorem dX9_next_19 : decode cX9_next 19 = .ok (.ldc 92, 2) := by decide +kernel
theorem dX9_next_21 : decode cX9_next 21 = .ok (.iand, 1) := by decide +kernel
theorem dX9_next_22 : decode cX9_next 22 = .ok (.ireturn, 1) := by decide +kernel
theorem dX9_link_0 : decode cX9_link 0 = .ok (.iconst 0, 1) := by decide +kernel
theorem dX9_link_1 : decode cX9_link 1 = .ok (.istore_n 3, 1) := by decide +kernel
theorem dX9_link_2 : decode cX9_link 2 = .ok (.iload_n 3, 1) := by decide +kernel
theorem dX9_link_3 : decode cX9_link 3 = .ok (.aload_n 0, 1) := by decide +kernel
theorem dX9_link_4 : decode cX9_link 4 = .ok (.getfield 53, 3) := by decide +kernel
theorem dX9_link_7 : decode cX9_link 7 = .ok (.if_icmp .ge 53, 3) := by decide +kernel
theorem dX9_link_10 : decode cX9_link 10 = .ok (.aload_n 0, 1) := by decide +kernel
