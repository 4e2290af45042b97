theorem dX11_part_35 : decode cX11_part 35 = .ok (.aload_n 0, 1) := by decide +kernel
theorem dX11_part_36 : decode cX11_part 36 = .ok (.bipush 13, 2) := by decide +kernel
theorem dX11_part_38 : decode cX11_part 38 = .ok (.aload_n 0, 1) := by decide +kernel
theorem dX11_part_39 : decode cX11_part 39 = .ok (.getfield 183, 3) := by decide +kernel
theorem dX11_part_42 : decode cX11_part 42 = .ok (.imul, 1) := by decide +kernel
theorem dX11_part_43 : decode cX11_part 43 = .ok (.putfield 200, 3) := by decide +kernel
theorem dX11_part_46 : decode cX11_part 46 = .ok (.aload_n 0, 1) := by decide +kernel
theorem dX11_part_47 : decode cX11_part 47 = .ok (.aload_n 0, 1) := by decide +kernel
theorem dX11_part_48 : decode cX11_part 48 = .ok (.iload_n 1, 1) := by decide +kernel
theorem dX11_part_49 : decode cX11_part 49 = .ok (.bipush 13, 2) := by decide +kernel
theorem dX11_part_51 : decode cX11_part 51 = .ok (.iadd, 1) := by decide +kernel
theorem dX11_part_52 : decode cX11_part 52 = .ok (.invokevirtual 79, 3) := by decide +kernel
theorem dX11_part_55 : decode cX11_part 55 = .ok (.putfield 203, 3) := by decide +kernel
theorem dX11_part_58 : decode cX11_part 58 = .ok (.goto 13, 3) := by decide +kernel
theorem dX11_part_61 : decode cX11_part 61 = .ok (.iload_n 2, 1) := by decide +kernel
theorem dX11_part_62 : decode cX11_part 62 = .ok (.aload_n 0, 1) := by decide +kernel
theorem dX11_part_63 : decode cX11_part 63 = .ok (.getfield 183, 3) := by decide +kernel
theorem dX11_part_66 : decode cX11_part 66 = .ok (.if_icmp .eq 5, 3) := by decide +kernel
theorem dX11_part_69 : decode cX11_part 69 = .ok (.iconst 0, 1) := by decide +kernel
theorem dX11_part_70 : decode cX11_part 70 = .ok (.ireturn, 1) := by decide +kernel
theorem dX11_part_71 : decode cX11_part 71 = .ok (.aload_n 0, 1) := by decide +kernel
theorem dX11_part_72 : decode cX11_part 72 = .ok (.getfield 183, 3) := by decide +kernel
theorem dX11_part_75 : decode cX11_part 75 = .ok (.ifCond .eq 40, 3) := by decide +kernel
theorem dX11_part_78 : decode cX11_part 78 = .ok (.aload_n 0, 1) := by decide +kernel
theorem dX11_part_79 : decode cX11_part 79 = .ok (.iload_n 1, 1) := by decide +kernel
theorem dX11_part_80 : decode cX11_part 80 = .ok (.bipush 12, 2) := by decide +kernel
theorem dX11_part_82 : decode cX11_part 82 = .ok (.iadd, 1) := by decide +kernel
theorem dX11_part_83 : decode cX11_part 83 = .ok (.invokevirtual 79, 3) := by decide +kernel
theorem dX11_part_86 : decode cX11_part 86 = .ok (.ifCond .ne 29, 3) := by decide +kernel
theorem dX11_part_89 : decode cX11_part 89 = .ok (.aload_n 0, 1) := by decide +kernel
theorem dX11_part_90 : decode cX11_part 90 = .ok (.iload_n 1, 1) := by decide +kernel
theorem dX11_part_91 : decode cX11_part 91 = .ok (.bipush 26, 2) := by decide +kernel
theorem dX11_part_93 : decode cX11_part 93 = .ok (.iadd, 1) := by decide +kernel
theorem dX11_part_94 : decode cX11_part 94 = .ok (.invokevirtual 83, 3) := by decide +kernel
theorem dX11_part_97 : decode cX11_part 97 = .ok (.ifCond .ne 18, 3) := by decide +kernel
theorem dX11_part_100 : decode cX11_part 100 = .ok (.aload_n 0, 1) := by decide +kernel
theorem dX11_part_101 : decode cX11_part 101 = .ok (.iload_n 1, 1) := by decide +kernel
theorem dX11_part_102 : decode cX11_part 102 = .ok (.bipush 13, 2) := by decide +kernel
theorem dX11_part_104 : decode cX11_part 104 = .ok (.iadd, 1) := by decide +kernel
theorem dX11_part_105 : decode cX11_part 105 = .ok (.invokevirtual 79, 3) := by decide +kernel
theorem dX11_part_108 : decode cX11_part 108 = .ok (.aload_n 0, 1) := by decide +kernel
theorem dX11_part_109 : decode cX11_part 109 = .ok (.getfield 203, 3) := by decide +kernel
theorem dX11_part_112 : decode cX11_part 112 = .ok (.if_icmp .eq 5, 3) := by decide +kernel
theorem dX11_part_115 : decode cX11_part 115 = .ok (.iconst 0, 1) := by decide +kernel
theorem dX11_part_116 : decode cX11_part 116 = .ok (.ireturn, 1) := by decide +kernel
theorem dX11_part_117 : decode cX11_part 117 = .ok (.iconst 0, 1) := by decide +kernel
theorem dX11_part_118 : decode cX11_part 118 = .ok (.istore_n 3, 1) := by decide +kernel
theorem dX11_part_119 : decode cX11_part 119 = .ok (.iload_n 3, 1) := by decide +kernel
theorem dX11_part_120 : decode cX11_part 120 = .ok (.bipush 13, 2) := by decide +kernel
theorem dX11_part_122 : decode cX11_part 122 = .ok (.if_icmp .ge 65, 3) := by decide +kernel
theorem dX11_part_125 : decode cX11_part 125 = .ok (.aload_n 0, 1) := by decide +kernel
theorem dX11_part_126 : decode cX11_part 126 = .ok (.getfield 60, 3) := by decide +kernel
theorem dX11_part_129 : decode cX11_part 129 = .ok (.bipush 13, 2) := by decide +kernel
theorem dX11_part_131 : decode cX11_part 131 = .ok (.aload_n 0, 1) := by decide +kernel
theorem dX11_part_132 : decode cX11_part 132 = .ok (.getfield 183, 3) := by decide +kernel
theorem dX11_part_135 : decode cX11_part 135 = .ok (.iconst 1, 1) := by decide +kernel
theorem dX11_part_136 : decode cX11_part 136 = .ok (.isub, 1) := by decide +kernel
theorem dX11_part_137 : decode cX11_part 137 = .ok (.imul, 1) := by decide +kernel
theorem dX11_part_138 : decode cX11_part 138 = .ok (.iload_n 3, 1) := by decide +kernel
theorem dX11_part_139 : decode cX11_part 139 = .ok (.iadd, 1) := by decide +kernel
theorem dX11_part_140 : decode cX11_part 140 = .ok (.aload_n 0, 1) := by decide +kernel
theorem dX11_part_141 : decode cX11_part 141 = .ok (.iload_n 1, 1) := by decide +kernel
theorem dX11_part_142 : decode cX11_part 142 = .ok (.iload_n 3, 1) := by decide +kernel
theorem dX11_part_143 : decode cX11_part 143 = .ok (.iconst 5, 1) := by decide +kernel
theorem dX11_part_144 : decode cX11_part 144 = .ok (.if_icmp .ge 11, 3) := by decide +kernel
theorem dX11_part_147 : decode cX11_part 147 = .ok (.iconst 1, 1) := by decide +kernel
theorem dX11_part_148 : decode cX11_part 148 = .ok (.iconst 2, 1) := by decide +kernel
theorem dX11_part_149 : decode cX11_part 149 = .ok (.iload_n 3, 1) := by decide +kernel
theorem dX11_part_150 : decode cX11_part 150 = .ok (.imul, 1) := by decide +kernel
theorem dX11_part_151 : decode cX11_part 151 = .ok (.iadd, 1) := by decide +kernel
theorem dX11_part_152 : decode cX11_part 152 = .ok (.goto 23, 3) := by decide +kernel
theorem dX11_part_155 : decode cX11_part 155 = .ok (.iload_n 3, 1) := by decide +kernel
theorem dX11_part_156 : decode cX11_part 156 = .ok (.bipush 11, 2) := by decide +kernel
theorem dX11_part_158 : decode cX11_part 158 = .ok (.if_icmp .ge 11, 3) := by decide +kernel
theorem dX11_part_161 : decode cX11_part 161 = .ok (.iconst 4, 1) := by decide +kernel
theorem dX11_part_162 : decode cX11_part 162 = .ok (.iconst 2, 1) := by decide +kernel
theorem dX11_part_163 : decode cX11_part 163 = .ok (.iload_n 3, 1) := by decide +kernel
theorem dX11_part_164 : decode cX11_part 164 = .ok (.imul, 1) := by decide +kernel
theorem dX11_part_165 : decode cX11_part 165 = .ok (.iadd, 1) := by decide +kernel
theorem dX11_part_166 : decode cX11_part 166 = .ok (.goto 9, 3) := by decide +kernel
theorem dX11_part_169 : decode cX11_part 169 = .ok (.bipush 6, 2) := by decide +kernel
theorem dX11_part_171 : decode cX11_part 171 = .ok (.iconst 2, 1) := by decide +kernel
theorem dX11_part_172 : decode cX11_part 172 = .ok (.iload_n 3, 1) := by decide +kernel
theorem dX11_part_173 : decode cX11_part 173 = .ok (.imul, 1) := by decide +kernel
theorem dX11_part_174 : decode cX11_part 174 = .ok (.iadd, 1) := by decide +kernel
theorem dX11_part_175 : decode cX11_part 175 = .ok (.iadd, 1) := by decide +kernel
theorem dX11_part_176 : decode cX11_part 176 = .ok (.invokevirtual 83, 3) := by decide +kernel
theorem dX11_part_179 : decode cX11_part 179 = .ok (.i2c, 1) := by decide +kernel
theorem dX11_part_180 : decode cX11_part 180 = .ok (.castore, 1) := by decide +kernel
theorem dX11_part_181 : decode cX11_part 181 = .ok (.iinc 3 1, 3) := by decide +kernel
theorem dX11_part_184 : decode cX11_part 184 = .ok (.goto (-65), 3) := by decide +kernel
theorem dX11_part_187 : decode cX11_part 187 = .ok (.aload_n 0, 1) := by decide +kernel
theorem dX11_part_188 : decode cX11_part 188 = .ok (.dup, 1) := by decide +kernel
theorem dX11_part_189 : decode cX11_part 189 = .ok (.getfield 180, 3) := by decide +kernel
theorem dX11_part_192 : decode cX11_part 192 = .ok (.iconst 1, 1) := by decide +kernel
theorem dX11_part_193 : decode cX11_part 193 = .ok (.iadd, 1) := by decide +kernel
theorem dX11_part_194 : decode cX11_part 194 = .ok (.putfield 180, 3) := by decide +kernel
theorem dX11_part_197 : decode cX11_part 197 = .ok (.aload_n 0, 1) := by decide +kernel
theorem dX11_part_198 : decode cX11_part 198 = .ok (.dup, 1) := by decide +kernel
theorem dX11_part_199 : decode cX11_part 199 = .ok (.getfield 183, 3) := by decide +kernel
theorem dX11_part_202 : decode cX11_part 202 = .ok (.iconst 1, 1) := by decide +kernel
theorem dX11_part_203 : decode cX11_part 203 = .ok (.isub, 1) := by decide +kernel
theorem dX11_part_204 : decode cX11_part 204 = .ok (.putfield 183, 3) := by decide +kernel
theorem dX11_part_207 : decode cX11_part 207 = .ok (.iconst 1, 1) := by decide +kernel
theorem dX11_part_208 : decode cX11_part 208 = .ok (.ireturn, 1) := by decide +kernel
theorem dX11_isShortSign_0 : decode cX11_isShortSign 0 = .ok (.iload_n 0, 1) := by decide +kernel
theorem dX11_isShortSign_1 : decode cX11_isShortSign 1 = .ok (.bipush 65, 2) := by decide +kernel
theorem dX11_isShortSign_3 : decode cX11_isShortSign 3 = .ok (.if_icmp .lt 9, 3) := by decide +kernel
theorem dX11_isShortSign_6 : decode cX11_isShortSign 6 = .ok (.iload_n 0, 1) := by decide +kernel
theorem dX11_isShortSign_7 : decode cX11_isShortSign 7 = .ok (.bipush 90, 2) := by decide +kernel
theorem dX11_isShortSign_9 : decode cX11_isShortSign 9 = .ok (.if_icmp .le 29, 3) := by decide +kernel
theorem dX11_isShortSign_12 : decode cX11_isShortSign 12 = .ok (.iload_n 0, 1) := by decide +kernel
theorem dX11_isShortSign_13 : decode cX11_isShortSign 13 = .ok (.bipush 48, 2) := by decide +kernel
theorem dX11_isShortSign_15 : decode cX11_isShortSign 15 = .ok (.if_icmp .lt 9, 3) := by decide +kernel
theorem dX11_isShortSign_18 : decode cX11_isShortSign 18 = .ok (.iload_n 0, 1) := by decide +kernel
theorem dX11_isShortSign_19 : decode cX11_isShortSign 19 = .ok (.bipush 57, 2) := by decide +kernel
theorem dX11_isShortSign_21 : decode cX11_isShortSign 21 = .ok (.if_icmp .le 17, 3) := by decide +kernel
theorem dX11_isShortSign_24 : decode cX11_isShortSign 24 = .ok (.iload_n 0, 1) := by decide +kernel
theorem dX11_isShortSign_25 : decode cX11_isShortSign 25 = .ok (.ifCond .le 17, 3) := by decide +kernel
theorem dX11_isShortSign_28 : decode cX11_isShortSign 28 = .ok (.ldc 206, 2) := by decide +kernel
theorem dX11_isShortSign_30 : decode cX11_isShortSign 30 = .ok (.iload_n 0, 1) := by decide +kernel
theorem dX11_isShortSign_31 : decode cX11_isShortSign 31 = .ok (.i2c, 1) := by decide +kernel
theorem dX11_isShortSign_32 : decode cX11_isShortSign 32 = .ok (.invokevirtual 208, 3) := by decide +kernel
theorem dX11_isShortSign_35 : decode cX11_isShortSign 35 = .ok (.ifCond .lt 7, 3) := by decide +kernel
theorem dX11_isShortSign_38 : decode cX11_isShortSign 38 = .ok (.iconst 1, 1) := by decide +kernel
theorem dX11_isShortSign_39 : decode cX11_isShortSign 39 = .ok (.goto 4, 3) := by decide +kernel
theorem dX11_isShortSign_42 : decode cX11_isShortSign 42 = .ok (.iconst 0, 1) := by decide +kernel
theorem dX11_isShortSign_43 : decode cX11_isShortSign 43 = .ok (.ireturn, 1) := by decide +kernel
theorem dX11_isShort_0 : decode cX11_isShort 0 = .ok (.aload_n 0, 1) := by decide +kernel
theorem dX11_isShort_1 : decode cX11_isShort 1 = .ok (.iload_n 1, 1) := by decide +kernel
theorem dX11_isShort_2 : decode cX11_isShort 2 = .ok (.invokevirtual 79, 3) := by decide +kernel
theorem dX11_isShort_5 : decode cX11_isShort 5 = .ok (.bipush 32, 2) := by decide +kernel
theorem dX11_isShort_7 : decode cX11_isShort 7 = .ok (.if_icmp .eq 7, 3) := by decide +kernel
theorem dX11_isShort_10 : decode cX11_isShort 10 = .ok (.iconst 1, 1) := by decide +kernel
theorem dX11_isShort_11 : decode cX11_isShort 11 = .ok (.goto 4, 3) := by decide +kernel
theorem dX11_isShort_14 : decode cX11_isShort 14 = .ok (.iconst 0, 1) := by decide +kernel
theorem dX11_isShort_15 : decode cX11_isShort 15 = .ok (.istore_n 3, 1) := by decide +kernel
theorem dX11_isShort_16 : decode cX11_isShort 16 = .ok (.iconst 0, 1) := by decide +kernel
theorem dX11_isShort_17 : decode cX11_isShort 17 = .ok (.istore 4, 2) := by decide +kernel
theorem dX11_isShort_19 : decode cX11_isShort 19 = .ok (.iload 4, 2) := by decide +kernel
theorem dX11_isShort_21 : decode cX11_isShort 21 = .ok (.bipush 11, 2) := by decide +kernel
theorem dX11_isShort_23 : decode cX11_isShort 23 = .ok (.if_icmp .ge 104, 3) := by decide +kernel
theorem dX11_isShort_26 : decode cX11_isShort 26 = .ok (.aload_n 0, 1) := by decide +kernel
theorem dX11_isShort_27 : decode cX11_isShort 27 = .ok (.iload_n 1, 1) := by decide +kernel
theorem dX11_isShort_28 : decode cX11_isShort 28 = .ok (.iload 4, 2) := by decide +kernel
theorem dX11_isShort_30 : decode cX11_isShort 30 = .ok (.iadd, 1) := by decide +kernel
theorem dX11_isShort_31 : decode cX11_isShort 31 = .ok (.invokevirtual 79, 3) := by decide +kernel
theorem dX11_isShort_34 : decode cX11_isShort 34 = .ok (.bipush 32, 2) := by decide +kernel
theorem dX11_isShort_36 : decode cX11_isShort 36 = .ok (.if_icmp .ne 7, 3) := by decide +kernel
theorem dX11_isShort_39 : decode cX11_isShort 39 = .ok (.iconst 1, 1) := by decide +kernel
theorem dX11_isShort_40 : decode cX11_isShort 40 = .ok (.goto 4, 3) := by decide +kernel
theorem dX11_isShort_43 : decode cX11_isShort 43 = .ok (.iconst 0, 1) := by decide +kernel
theorem dX11_isShort_44 : decode cX11_isShort 44 = .ok (.istore 5, 2) := by decide +kernel
theorem dX11_isShort_46 : decode cX11_isShort 46 = .ok (.iload_n 3, 1) := by decide +kernel
theorem dX11_isShort_47 : decode cX11_isShort 47 = .ok (.ifCond .eq 26, 3) := by decide +kernel
theorem dX11_isShort_50 : decode cX11_isShort 50 = .ok (.iload 5, 2) := by decide +kernel
theorem dX11_isShort_52 : decode cX11_isShort 52 = .ok (.ifCond .ne 17, 3) := by decide +kernel
theorem dX11_isShort_55 : decode cX11_isShort 55 = .ok (.aload_n 0, 1) := by decide +kernel
theorem dX11_isShort_56 : decode cX11_isShort 56 = .ok (.iload_n 1, 1) := by decide +kernel
theorem dX11_isShort_57 : decode cX11_isShort 57 = .ok (.iload 4, 2) := by decide +kernel
theorem dX11_isShort_59 : decode cX11_isShort 59 = .ok (.iadd, 1) := by decide +kernel
theorem dX11_isShort_60 : decode cX11_isShort 60 = .ok (.invokevirtual 79, 3) := by decide +kernel
theorem dX11_isShort_63 : decode cX11_isShort 63 = .ok (.invokestatic 213, 3) := by decide +kernel
theorem dX11_isShort_66 : decode cX11_isShort 66 = .ok (.ifCond .eq 7, 3) := by decide +kernel
theorem dX11_isShort_69 : decode cX11_isShort 69 = .ok (.iconst 1, 1) := by decide +kernel
theorem dX11_isShort_70 : decode cX11_isShort 70 = .ok (.goto 4, 3) := by decide +kernel
theorem dX11_isShort_73 : decode cX11_isShort 73 = .ok (.iconst 0, 1) := by decide +kernel
theorem dX11_isShort_74 : decode cX11_isShort 74 = .ok (.istore_n 3, 1) := by decide +kernel
theorem dX11_isShort_75 : decode cX11_isShort 75 = .ok (.iload_n 3, 1) := by decide +kernel
theorem dX11_isShort_76 : decode cX11_isShort 76 = .ok (.ifCond .eq 43, 3) := by decide +kernel
theorem dX11_isShort_79 : decode cX11_isShort 79 = .ok (.iload_n 2, 1) := by decide +kernel
theorem dX11_isShort_80 : decode cX11_isShort 80 = .ok (.ifCond .ne 35, 3) := by decide +kernel
theorem dX11_isShort_83 : decode cX11_isShort 83 = .ok (.iload 4, 2) := by decide +kernel
theorem dX11_isShort_85 : decode cX11_isShort 85 = .ok (.ifCond .eq 30, 3) := by decide +kernel
theorem dX11_isShort_88 : decode cX11_isShort 88 = .ok (.iload 4, 2) := by decide +kernel
theorem dX11_isShort_90 : decode cX11_isShort 90 = .ok (.bipush 8, 2) := by decide +kernel
theorem dX11_isShort_92 : decode cX11_isShort 92 = .ok (.if_icmp .eq 23, 3) := by decide +kernel
theorem dX11_isShort_95 : decode cX11_isShort 95 = .ok (.iload 5, 2) := by decide +kernel
theorem dX11_isShort_97 : decode cX11_isShort 97 = .ok (.ifCond .ne 18, 3) := by decide +kernel
theorem dX11_isShort_100 : decode cX11_isShort 100 = .ok (.aload_n 0, 1) := by decide +kernel
theorem dX11_isShort_101 : decode cX11_isShort 101 = .ok (.iload_n 1, 1) := by decide +kernel
theorem dX11_isShort_102 : decode cX11_isShort 102 = .ok (.iload 4, 2) := by decide +kernel
theorem dX11_isShort_104 : decode cX11_isShort 104 = .ok (.iadd, 1) := by decide +kernel
theorem dX11_isShort_105 : decode cX11_isShort 105 = .ok (.iconst 1, 1) := by decide +kernel
theorem dX11_isShort_106 : decode cX11_isShort 106 = .ok (.isub, 1) := by decide +kernel
theorem dX11_isShort_107 : decode cX11_isShort 107 = .ok (.invokevirtual 79, 3) := by decide +kernel
theorem dX11_isShort_110 : decode cX11_isShort 110 = .ok (.bipush 32, 2) := by decide +kernel
theorem dX11_isShort_112 : decode cX11_isShort 112 = .ok (.if_icmp .eq 7, 3) := by decide +kernel
theorem dX11_isShort_115 : decode cX11_isShort 115 = .ok (.iconst 1, 1) := by decide +kernel
theorem dX11_isShort_116 : decode cX11_isShort 116 = .ok (.goto 4, 3) := by decide +kernel
theorem dX11_isShort_119 : decode cX11_isShort 119 = .ok (.iconst 0, 1) := by decide +kernel
theorem dX11_isShort_120 : decode cX11_isShort 120 = .ok (.istore_n 3, 1) := by decide +kernel
theorem dX11_isShort_121 : decode cX11_isShort 121 = .ok (.iinc 4 1, 3) := by decide +kernel
theorem dX11_isShort_124 : decode cX11_isShort 124 = .ok (.goto (-105), 3) := by decide +kernel
theorem dX11_isShort_127 : decode cX11_isShort 127 = .ok (.iload_n 3, 1) := by decide +kernel
theorem dX11_isShort_128 : decode cX11_isShort 128 = .ok (.ireturn, 1) := by decide +kernel
theorem dX11_isLeap_0 : decode cX11_isLeap 0 = .ok (.iload_n 0, 1) := by decide +kernel
theorem dX11_isLeap_1 : decode cX11_isLeap 1 = .ok (.iconst 4, 1) := by decide +kernel
theorem dX11_isLeap_2 : decode cX11_isLeap 2 = .ok (.irem, 1) := by decide +kernel
theorem dX11_isLeap_3 : decode cX11_isLeap 3 = .ok (.ifCond .ne 22, 3) := by decide +kernel
theorem dX11_isLeap_6 : decode cX11_isLeap 6 = .ok (.iload_n 0, 1) := by decide +kernel
theorem dX11_isLeap_7 : decode cX11_isLeap 7 = .ok (.bipush 100, 2) := by decide +kernel
theorem dX11_isLeap_9 : decode cX11_isLeap 9 = .ok (.irem, 1) := by decide +kernel
theorem dX11_isLeap_10 : decode cX11_isLeap 10 = .ok (.ifCond .ne 11, 3) := by decide +kernel
theorem dX11_isLeap_13 : decode cX11_isLeap 13 = .ok (.iload_n 0, 1) := by decide +kernel
theorem dX11_isLeap_14 : decode cX11_isLeap 14 = .ok (.sipush 400, 3) := by decide +kernel
theorem dX11_isLeap_17 : decode cX11_isLeap 17 = .ok (.irem, 1) := by decide +kernel
theorem dX11_isLeap_18 : decode cX11_isLeap 18 = .ok (.ifCond .ne 7, 3) := by decide +kernel
theorem dX11_isLeap_21 : decode cX11_isLeap 21 = .ok (.iconst 1, 1) := by decide +kernel
theorem dX11_isLeap_22 : decode cX11_isLeap 22 = .ok (.goto 4, 3) := by decide +kernel
theorem dX11_isLeap_25 : decode cX11_isLeap 25 = .ok (.iconst 0, 1) := by decide +kernel
theorem dX11_isLeap_26 : decode cX11_isLeap 26 = .ok (.ireturn, 1) := by decide +kernel
theorem dX11_daysOf_0 : decode cX11_daysOf 0 = .ok (.iload_n 0, 1) := by decide +kernel
theorem dX11_daysOf_1 : decode cX11_daysOf 1 = .ok (.iconst 2, 1) := by decide +kernel
theorem dX11_daysOf_2 : decode cX11_daysOf 2 = .ok (.if_icmp .ne 20, 3) := by decide +kernel
theorem dX11_daysOf_5 : decode cX11_daysOf 5 = .ok (.iload_n 1, 1) := by decide +kernel
theorem dX11_daysOf_6 : decode cX11_daysOf 6 = .ok (.invokestatic 216, 3) := by decide +kernel
theorem dX11_daysOf_9 : decode cX11_daysOf 9 = .ok (.ifCond .eq 8, 3) := by decide +kernel
theorem dX11_daysOf_12 : decode cX11_daysOf 12 = .ok (.bipush 29, 2) := by decide +kernel
theorem dX11_daysOf_14 : decode cX11_daysOf 14 = .ok (.goto 38, 3) := by decide +kernel
theorem dX11_daysOf_17 : decode cX11_daysOf 17 = .ok (.bipush 28, 2) := by decide +kernel
theorem dX11_daysOf_19 : decode cX11_daysOf 19 = .ok (.goto 33, 3) := by decide +kernel
theorem dX11_daysOf_22 : decode cX11_daysOf 22 = .ok (.iload_n 0, 1) := by decide +kernel
theorem dX11_daysOf_23 : decode cX11_daysOf 23 = .ok (.iconst 4, 1) := by decide +kernel
theorem dX11_daysOf_24 : decode cX11_daysOf 24 = .ok (.if_icmp .eq 21, 3) := by decide +kernel
theorem dX11_daysOf_27 : decode cX11_daysOf 27 = .ok (.iload_n 0, 1) := by decide +kernel
theorem dX11_daysOf_28 : decode cX11_daysOf 28 = .ok (.bipush 6, 2) := by decide +kernel
theorem dX11_daysOf_30 : decode cX11_daysOf 30 = .ok (.if_icmp .eq 15, 3) := by decide +kernel
theorem dX11_daysOf_33 : decode cX11_daysOf 33 = .ok (.iload_n 0, 1) := by decide +kernel
theorem dX11_daysOf_34 : decode cX11_daysOf 34 = .ok (.bipush 9, 2) := by decide +kernel
theorem dX11_daysOf_36 : decode cX11_daysOf 36 = .ok (.if_icmp .eq 9, 3) := by decide +kernel
theorem dX11_daysOf_39 : decode cX11_daysOf 39 = .ok (.iload_n 0, 1) := by decide +kernel
theorem dX11_daysOf_40 : decode cX11_daysOf 40 = .ok (.bipush 11, 2) := by decide +kernel
theorem dX11_daysOf_42 : decode cX11_daysOf 42 = .ok (.if_icmp .ne 8, 3) := by decide +kernel
theorem dX11_daysOf_45 : decode cX11_daysOf 45 = .ok (.bipush 30, 2) := by decide +kernel
theorem dX11_daysOf_47 : decode cX11_daysOf 47 = .ok (.goto 5, 3) := by decide +kernel
theorem dX11_daysOf_50 : decode cX11_daysOf 50 = .ok (.bipush 31, 2) := by decide +kernel
theorem dX11_daysOf_52 : decode cX11_daysOf 52 = .ok (.ireturn, 1) := by decide +kernel
theorem dX11_isDay_0 : decode cX11_isDay 0 = .ok (.iload_n 0, 1) := by decide +kernel
theorem dX11_isDay_1 : decode cX11_isDay 1 = .ok (.iconst 5, 1) := by decide +kernel
theorem dX11_isDay_2 : decode cX11_isDay 2 = .ok (.ishr, 1) := by decide +kernel
theorem dX11_isDay_3 : decode cX11_isDay 3 = .ok (.bipush 15, 2) := by decide +kernel
theorem dX11_isDay_5 : decode cX11_isDay 5 = .ok (.iand, 1) := by decide +kernel
theorem dX11_isDay_6 : decode cX11_isDay 6 = .ok (.istore_n 1, 1) := by decide +kernel
theorem dX11_isDay_7 : decode cX11_isDay 7 = .ok (.iload_n 0, 1) := by decide +kernel
theorem dX11_isDay_8 : decode cX11_isDay 8 = .ok (.ifCond .lt 51, 3) := by decide +kernel
theorem dX11_isDay_11 : decode cX11_isDay 11 = .ok (.iload_n 0, 1) := by decide +kernel
theorem dX11_isDay_12 : decode cX11_isDay 12 = .ok (.ldc 219, 2) := by decide +kernel
theorem dX11_isDay_14 : decode cX11_isDay 14 = .ok (.if_icmp .ge 45, 3) := by decide +kernel
theorem dX11_isDay_17 : decode cX11_isDay 17 = .ok (.iload_n 1, 1) := by decide +kernel
theorem dX11_isDay_18 : decode cX11_isDay 18 = .ok (.iconst 1, 1) := by decide +kernel
theorem dX11_isDay_19 : decode cX11_isDay 19 = .ok (.if_icmp .lt 40, 3) := by decide +kernel
theorem dX11_isDay_22 : decode cX11_isDay 22 = .ok (.iload_n 1, 1) := by decide +kernel
theorem dX11_isDay_23 : decode cX11_isDay 23 = .ok (.bipush 12, 2) := by decide +kernel
theorem dX11_isDay_25 : decode cX11_isDay 25 = .ok (.if_icmp .gt 34, 3) := by decide +kernel
theorem dX11_isDay_28 : decode cX11_isDay 28 = .ok (.iload_n 0, 1) := by decide +kernel
theorem dX11_isDay_29 : decode cX11_isDay 29 = .ok (.bipush 31, 2) := by decide +kernel
theorem dX11_isDay_31 : decode cX11_isDay 31 = .ok (.iand, 1) := by decide +kernel
theorem dX11_isDay_32 : decode cX11_isDay 32 = .ok (.iconst 1, 1) := by decide +kernel
theorem dX11_isDay_33 : decode cX11_isDay 33 = .ok (.if_icmp .lt 26, 3) := by decide +kernel
theorem dX11_isDay_36 : decode cX11_isDay 36 = .ok (.iload_n 0, 1) := by decide +kernel
theorem dX11_isDay_37 : decode cX11_isDay 37 = .ok (.bipush 31, 2) := by decide +kernel
theorem dX11_isDay_39 : decode cX11_isDay 39 = .ok (.iand, 1) := by decide +kernel
theorem dX11_isDay_40 : decode cX11_isDay 40 = .ok (.iload_n 1, 1) := by decide +kernel
theorem dX11_isDay_41 : decode cX11_isDay 41 = .ok (.sipush 1980, 3) := by decide +kernel
theorem dX11_isDay_44 : decode cX11_isDay 44 = .ok (.iload_n 0, 1) := by decide +kernel
theorem dX11_isDay_45 : decode cX11_isDay 45 = .ok (.bipush 9, 2) := by decide +kernel
theorem dX11_isDay_47 : decode cX11_isDay 47 = .ok (.ishr, 1) := by decide +kernel
theorem dX11_isDay_48 : decode cX11_isDay 48 = .ok (.iadd, 1) := by decide +kernel
theorem dX11_isDay_49 : decode cX11_isDay 49 = .ok (.invokestatic 220, 3) := by decide +kernel
theorem dX11_isDay_52 : decode cX11_isDay 52 = .ok (.if_icmp .gt 7, 3) := by decide +kernel
theorem dX11_isDay_55 : decode cX11_isDay 55 = .ok (.iconst 1, 1) := by decide +kernel
theorem dX11_isDay_56 : decode cX11_isDay 56 = .ok (.goto 4, 3) := by decide +kernel
theorem dX11_isDay_59 : decode cX11_isDay 59 = .ok (.iconst 0, 1) := by decide +kernel
theorem dX11_isDay_60 : decode cX11_isDay 60 = .ok (.ireturn, 1) := by decide +kernel
theorem dX11_isTime_0 : decode cX11_isTime 0 = .ok (.iload_n 0, 1) := by decide +kernel
theorem dX11_isTime_1 : decode cX11_isTime 1 = .ok (.ifCond .lt 36, 3) := by decide +kernel
theorem dX11_isTime_4 : decode cX11_isTime 4 = .ok (.iload_n 0, 1) := by decide +kernel
theorem dX11_isTime_5 : decode cX11_isTime 5 = .ok (.bipush 11, 2) := by decide +kernel
theorem dX11_isTime_7 : decode cX11_isTime 7 = .ok (.ishr, 1) := by decide +kernel
theorem dX11_isTime_8 : decode cX11_isTime 8 = .ok (.bipush 24, 2) := by decide +kernel
theorem dX11_isTime_10 : decode cX11_isTime 10 = .ok (.if_icmp .ge 27, 3) := by decide +kernel
theorem dX11_isTime_13 : decode cX11_isTime 13 = .ok (.iload_n 0, 1) := by decide +kernel
theorem dX11_isTime_14 : decode cX11_isTime 14 = .ok (.iconst 5, 1) := by decide +kernel
theorem dX11_isTime_15 : decode cX11_isTime 15 = .ok (.ishr, 1) := by decide +kernel
theorem dX11_isTime_16 : decode cX11_isTime 16 = .ok (.bipush 63, 2) := by decide +kernel
theorem dX11_isTime_18 : decode cX11_isTime 18 = .ok (.iand, 1) := by decide +kernel
theorem dX11_isTime_19 : decode cX11_isTime 19 = .ok (.bipush 60, 2) := by decide +kernel
theorem dX11_isTime_21 : decode cX11_isTime 21 = .ok (.if_icmp .ge 16, 3) := by decide +kernel
theorem dX11_isTime_24 : decode cX11_isTime 24 = .ok (.iload_n 0, 1) := by decide +kernel
theorem dX11_isTime_25 : decode cX11_isTime 25 = .ok (.bipush 31, 2) := by decide +kernel
theorem dX11_isTime_27 : decode cX11_isTime 27 = .ok (.iand, 1) := by decide +kernel
theorem dX11_isTime_28 : decode cX11_isTime 28 = .ok (.bipush 30, 2) := by decide +kernel
theorem dX11_isTime_30 : decode cX11_isTime 30 = .ok (.if_icmp .ge 7, 3) := by decide +kernel
theorem dX11_isTime_33 : decode cX11_isTime 33 = .ok (.iconst 1, 1) := by decide +kernel
theorem dX11_isTime_34 : decode cX11_isTime 34 = .ok (.goto 4, 3) := by decide +kernel
theorem dX11_isTime_37 : decode cX11_isTime 37 = .ok (.iconst 0, 1) := by decide +kernel
theorem dX11_isTime_38 : decode cX11_isTime 38 = .ok (.ireturn, 1) := by decide +kernel
theorem dX11_isMade_0 : decode cX11_isMade 0 = .ok (.iload_n 0, 1) := by decide +kernel
theorem dX11_isMade_1 : decode cX11_isMade 1 = .ok (.ifCond .ne 19, 3) := by decide +kernel
theorem dX11_isMade_4 : decode cX11_isMade 4 = .ok (.iload_n 1, 1) := by decide +kernel
theorem dX11_isMade_5 : decode cX11_isMade 5 = .ok (.ifCond .ne 11, 3) := by decide +kernel
theorem dX11_isMade_8 : decode cX11_isMade 8 = .ok (.iload_n 2, 1) := by decide +kernel
theorem dX11_isMade_9 : decode cX11_isMade 9 = .ok (.ifCond .ne 7, 3) := by decide +kernel
theorem dX11_isMade_12 : decode cX11_isMade 12 = .ok (.iconst 1, 1) := by decide +kernel
theorem dX11_isMade_13 : decode cX11_isMade 13 = .ok (.goto 37, 3) := by decide +kernel
theorem dX11_isMade_16 : decode cX11_isMade 16 = .ok (.iconst 0, 1) := by decide +kernel
theorem dX11_isMade_17 : decode cX11_isMade 17 = .ok (.goto 33, 3) := by decide +kernel
theorem dX11_isMade_20 : decode cX11_isMade 20 = .ok (.iload_n 0, 1) := by decide +kernel
theorem dX11_isMade_21 : decode cX11_isMade 21 = .ok (.invokestatic 223, 3) := by decide +kernel
theorem dX11_isMade_24 : decode cX11_isMade 24 = .ok (.ifCond .eq 25, 3) := by decide +kernel
theorem dX11_isMade_27 : decode cX11_isMade 27 = .ok (.iload_n 1, 1) := by decide +kernel
theorem dX11_isMade_28 : decode cX11_isMade 28 = .ok (.invokestatic 226, 3) := by decide +kernel
theorem dX11_isMade_31 : decode cX11_isMade 31 = .ok (.ifCond .eq 18, 3) := by decide +kernel
theorem dX11_isMade_34 : decode cX11_isMade 34 = .ok (.iload_n 2, 1) := by decide +kernel
theorem dX11_isMade_35 : decode cX11_isMade 35 = .ok (.ifCond .lt 14, 3) := by decide +kernel
theorem dX11_isMade_38 : decode cX11_isMade 38 = .ok (.iload_n 2, 1) := by decide +kernel
theorem dX11_isMade_39 : decode cX11_isMade 39 = .ok (.sipush 200, 3) := by decide +kernel
theorem dX11_isMade_42 : decode cX11_isMade 42 = .ok (.if_icmp .ge 7, 3) := by decide +kernel
theorem dX11_isMade_45 : decode cX11_isMade 45 = .ok (.iconst 1, 1) := by decide +kernel
theorem dX11_isMade_46 : decode cX11_isMade 46 = .ok (.goto 4, 3) := by decide +kernel
theorem dX11_isMade_49 : decode cX11_isMade 49 = .ok (.iconst 0, 1) := by decide +kernel
theorem dX11_isMade_50 : decode cX11_isMade 50 = .ok (.ireturn, 1) := by decide +kernel
theorem dX11_areDays_0 : decode cX11_areDays 0 = .ok (.aload_n 0, 1) := by decide +kernel
theorem dX11_areDays_1 : decode cX11_areDays 1 = .ok (.iload_n 1, 1) := by decide +kernel
theorem dX11_areDays_2 : decode cX11_areDays 2 = .ok (.bipush 16, 2) := by decide +kernel
theorem dX11_areDays_4 : decode cX11_areDays 4 = .ok (.iadd, 1) := by decide +kernel
theorem dX11_areDays_5 : decode cX11_areDays 5 = .ok (.invokevirtual 83, 3) := by decide +kernel
theorem dX11_areDays_8 : decode cX11_areDays 8 = .ok (.aload_n 0, 1) := by decide +kernel
theorem dX11_areDays_9 : decode cX11_areDays 9 = .ok (.iload_n 1, 1) := by decide +kernel
theorem dX11_areDays_10 : decode cX11_areDays 10 = .ok (.bipush 14, 2) := by decide +kernel
theorem dX11_areDays_12 : decode cX11_areDays 12 = .ok (.iadd, 1) := by decide +kernel
theorem dX11_areDays_13 : decode cX11_areDays 13 = .ok (.invokevirtual 83, 3) := by decide +kernel
theorem dX11_areDays_16 : decode cX11_areDays 16 = .ok (.aload_n 0, 1) := by decide +kernel
theorem dX11_areDays_17 : decode cX11_areDays 17 = .ok (.iload_n 1, 1) := by decide +kernel
theorem dX11_areDays_18 : decode cX11_areDays 18 = .ok (.bipush 13, 2) := by decide +kernel
theorem dX11_areDays_20 : decode cX11_areDays 20 = .ok (.iadd, 1) := by decide +kernel
theorem dX11_areDays_21 : decode cX11_areDays 21 = .ok (.invokevirtual 79, 3) := by decide +kernel
theorem dX11_areDays_24 : decode cX11_areDays 24 = .ok (.invokestatic 229, 3) := by decide +kernel
theorem dX11_areDays_27 : decode cX11_areDays 27 = .ok (.ifCond .eq 60, 3) := by decide +kernel
theorem dX11_areDays_30 : decode cX11_areDays 30 = .ok (.aload_n 0, 1) := by decide +kernel
theorem dX11_areDays_31 : decode cX11_areDays 31 = .ok (.iload_n 1, 1) := by decide +kernel
theorem dX11_areDays_32 : decode cX11_areDays 32 = .ok (.bipush 18, 2) := by decide +kernel
theorem dX11_areDays_34 : decode cX11_areDays 34 = .ok (.iadd, 1) := by decide +kernel
theorem dX11_areDays_35 : decode cX11_areDays 35 = .ok (.invokevirtual 83, 3) := by decide +kernel
theorem dX11_areDays_38 : decode cX11_areDays 38 = .ok (.ifCond .eq 17, 3) := by decide +kernel
theorem dX11_areDays_41 : decode cX11_areDays 41 = .ok (.aload_n 0, 1) := by decide +kernel
theorem dX11_areDays_42 : decode cX11_areDays 42 = .ok (.iload_n 1, 1) := by decide +kernel
theorem dX11_areDays_43 : decode cX11_areDays 43 = .ok (.bipush 18, 2) := by decide +kernel
theorem dX11_areDays_45 : decode cX11_areDays 45 = .ok (.iadd, 1) := by decide +kernel
theorem dX11_areDays_46 : decode cX11_areDays 46 = .ok (.invokevirtual 83, 3) := by decide +kernel
theorem dX11_areDays_49 : decode cX11_areDays 49 = .ok (.invokestatic 223, 3) := by decide +kernel
theorem dX11_areDays_52 : decode cX11_areDays 52 = .ok (.ifCond .eq 35, 3) := by decide +kernel
theorem dX11_areDays_55 : decode cX11_areDays 55 = .ok (.aload_n 0, 1) := by decide +kernel
theorem dX11_areDays_56 : decode cX11_areDays 56 = .ok (.iload_n 1, 1) := by decide +kernel
theorem dX11_areDays_57 : decode cX11_areDays 57 = .ok (.bipush 24, 2) := by decide +kernel
theorem dX11_areDays_59 : decode cX11_areDays 59 = .ok (.iadd, 1) := by decide +kernel
theorem dX11_areDays_60 : decode cX11_areDays 60 = .ok (.invokevirtual 83, 3) := by decide +kernel
theorem dX11_areDays_63 : decode cX11_areDays 63 = .ok (.invokestatic 223, 3) := by decide +kernel
theorem dX11_areDays_66 : decode cX11_areDays 66 = .ok (.ifCond .eq 21, 3) := by decide +kernel
theorem dX11_areDays_69 : decode cX11_areDays 69 = .ok (.aload_n 0, 1) := by decide +kernel
theorem dX11_areDays_70 : decode cX11_areDays 70 = .ok (.iload_n 1, 1) := by decide +kernel
theorem dX11_areDays_71 : decode cX11_areDays 71 = .ok (.bipush 22, 2) := by decide +kernel
theorem dX11_areDays_73 : decode cX11_areDays 73 = .ok (.iadd, 1) := by decide +kernel
theorem dX11_areDays_74 : decode cX11_areDays 74 = .ok (.invokevirtual 83, 3) := by decide +kernel
theorem dX11_areDays_77 : decode cX11_areDays 77 = .ok (.invokestatic 226, 3) := by decide +kernel
theorem dX11_areDays_80 : decode cX11_areDays 80 = .ok (.ifCond .eq 7, 3) := by decide +kernel
theorem dX11_areDays_83 : decode cX11_areDays 83 = .ok (.iconst 1, 1) := by decide +kernel
theorem dX11_areDays_84 : decode cX11_areDays 84 = .ok (.goto 4, 3) := by decide +kernel
theorem dX11_areDays_87 : decode cX11_areDays 87 = .ok (.iconst 0, 1) := by decide +kernel
theorem dX11_areDays_88 : decode cX11_areDays 88 = .ok (.ireturn, 1) := by decide +kernel
theorem dX11_sumOf_0 : decode cX11_sumOf 0 = .ok (.iconst 0, 1) := by decide +kernel
theorem dX11_sumOf_1 : decode cX11_sumOf 1 = .ok (.istore_n 2, 1) := by decide +kernel
theorem dX11_sumOf_2 : decode cX11_sumOf 2 = .ok (.iconst 0, 1) := by decide +kernel
theorem dX11_sumOf_3 : decode cX11_sumOf 3 = .ok (.istore_n 3, 1) := by decide +kernel
theorem dX11_sumOf_4 : decode cX11_sumOf 4 = .ok (.iload_n 3, 1) := by decide +kernel
theorem dX11_sumOf_5 : decode cX11_sumOf 5 = .ok (.bipush 11, 2) := by decide +kernel
theorem dX11_sumOf_7 : decode cX11_sumOf 7 = .ok (.if_icmp .ge 33, 3) := by decide +kernel
theorem dX11_sumOf_10 : decode cX11_sumOf 10 = .ok (.iload_n 2, 1) := by decide +kernel
theorem dX11_sumOf_11 : decode cX11_sumOf 11 = .ok (.iconst 1, 1) := by decide +kernel
theorem dX11_sumOf_12 : decode cX11_sumOf 12 = .ok (.iand, 1) := by decide +kernel
theorem dX11_sumOf_13 : decode cX11_sumOf 13 = .ok (.sipush 128, 3) := by decide +kernel
theorem dX11_sumOf_16 : decode cX11_sumOf 16 = .ok (.imul, 1) := by decide +kernel
theorem dX11_sumOf_17 : decode cX11_sumOf 17 = .ok (.iload_n 2, 1) := by decide +kernel
theorem dX11_sumOf_18 : decode cX11_sumOf 18 = .ok (.iconst 1, 1) := by decide +kernel
theorem dX11_sumOf_19 : decode cX11_sumOf 19 = .ok (.ishr, 1) := by decide +kernel
theorem dX11_sumOf_20 : decode cX11_sumOf 20 = .ok (.iadd, 1) := by decide +kernel
theorem dX11_sumOf_21 : decode cX11_sumOf 21 = .ok (.aload_n 0, 1) := by decide +kernel
theorem dX11_sumOf_22 : decode cX11_sumOf 22 = .ok (.iload_n 1, 1) := by decide +kernel
theorem dX11_sumOf_23 : decode cX11_sumOf 23 = .ok (.iload_n 3, 1) := by decide +kernel
theorem dX11_sumOf_24 : decode cX11_sumOf 24 = .ok (.iadd, 1) := by decide +kernel
theorem dX11_sumOf_25 : decode cX11_sumOf 25 = .ok (.invokevirtual 79, 3) := by decide +kernel
theorem dX11_sumOf_28 : decode cX11_sumOf 28 = .ok (.iadd, 1) := by decide +kernel
theorem dX11_sumOf_29 : decode cX11_sumOf 29 = .ok (.sipush 255, 3) := by decide +kernel
theorem dX11_sumOf_32 : decode cX11_sumOf 32 = .ok (.iand, 1) := by decide +kernel
theorem dX11_sumOf_33 : decode cX11_sumOf 33 = .ok (.istore_n 2, 1) := by decide +kernel
theorem dX11_sumOf_34 : decode cX11_sumOf 34 = .ok (.iinc 3 1, 3) := by decide +kernel
theorem dX11_sumOf_37 : decode cX11_sumOf 37 = .ok (.goto (-33), 3) := by decide +kernel
theorem dX11_sumOf_40 : decode cX11_sumOf 40 = .ok (.iload_n 2, 1) := by decide +kernel
theorem dX11_sumOf_41 : decode cX11_sumOf 41 = .ok (.ireturn, 1) := by decide +kernel
theorem dX11_isName_0 : decode cX11_isName 0 = .ok (.aload_n 0, 1) := by decide +kernel
theorem dX11_isName_1 : decode cX11_isName 1 = .ok (.getfield 200, 3) := by decide +kernel
theorem dX11_isName_4 : decode cX11_isName 4 = .ok (.iconst 1, 1) := by decide +kernel
theorem dX11_isName_5 : decode cX11_isName 5 = .ok (.if_icmp .lt 17, 3) := by decide +kernel
theorem dX11_isName_8 : decode cX11_isName 8 = .ok (.aload_n 0, 1) := by decide +kernel
theorem dX11_isName_9 : decode cX11_isName 9 = .ok (.getfield 200, 3) := by decide +kernel
theorem dX11_isName_12 : decode cX11_isName 12 = .ok (.sipush 255, 3) := by decide +kernel
theorem dX11_isName_15 : decode cX11_isName 15 = .ok (.if_icmp .gt 7, 3) := by decide +kernel
theorem dX11_isName_18 : decode cX11_isName 18 = .ok (.iconst 1, 1) := by decide +kernel
theorem dX11_isName_19 : decode cX11_isName 19 = .ok (.goto 4, 3) := by decide +kernel
theorem dX11_isName_22 : decode cX11_isName 22 = .ok (.iconst 0, 1) := by decide +kernel
theorem dX11_isName_23 : decode cX11_isName 23 = .ok (.istore_n 1, 1) := by decide +kernel
theorem dX11_isName_24 : decode cX11_isName 24 = .ok (.iconst 0, 1) := by decide +kernel
theorem dX11_isName_25 : decode cX11_isName 25 = .ok (.istore_n 2, 1) := by decide +kernel
theorem dX11_isName_26 : decode cX11_isName 26 = .ok (.iload_n 2, 1) := by decide +kernel
theorem dX11_isName_27 : decode cX11_isName 27 = .ok (.aload_n 0, 1) := by decide +kernel
theorem dX11_isName_28 : decode cX11_isName 28 = .ok (.getfield 200, 3) := by decide +kernel
theorem dX11_isName_31 : decode cX11_isName 31 = .ok (.if_icmp .ge 72, 3) := by decide +kernel
theorem dX11_isName_34 : decode cX11_isName 34 = .ok (.iload_n 1, 1) := by decide +kernel
theorem dX11_isName_35 : decode cX11_isName 35 = .ok (.ifCond .eq 68, 3) := by decide +kernel
theorem dX11_isName_38 : decode cX11_isName 38 = .ok (.aload_n 0, 1) := by decide +kernel
theorem dX11_isName_39 : decode cX11_isName 39 = .ok (.getfield 60, 3) := by decide +kernel
theorem dX11_isName_42 : decode cX11_isName 42 = .ok (.iload_n 2, 1) := by decide +kernel
theorem dX11_isName_43 : decode cX11_isName 43 = .ok (.caload, 1) := by decide +kernel
theorem dX11_isName_44 : decode cX11_isName 44 = .ok (.istore_n 3, 1) := by decide +kernel
theorem dX11_isName_45 : decode cX11_isName 45 = .ok (.iload_n 3, 1) := by decide +kernel
theorem dX11_isName_46 : decode cX11_isName 46 = .ok (.bipush 32, 2) := by decide +kernel
theorem dX11_isName_48 : decode cX11_isName 48 = .ok (.if_icmp .lt 47, 3) := by decide +kernel
theorem dX11_isName_51 : decode cX11_isName 51 = .ok (.iload_n 3, 1) := by decide +kernel
theorem dX11_isName_52 : decode cX11_isName 52 = .ok (.bipush 127, 2) := by decide +kernel
theorem dX11_isName_54 : decode cX11_isName 54 = .ok (.if_icmp .eq 41, 3) := by decide +kernel
theorem dX11_isName_57 : decode cX11_isName 57 = .ok (.iload_n 3, 1) := by decide +kernel
theorem dX11_isName_58 : decode cX11_isName 58 = .ok (.ldc 232, 2) := by decide +kernel
theorem dX11_isName_60 : decode cX11_isName 60 = .ok (.if_icmp .lt 9, 3) := by decide +kernel
theorem dX11_isName_63 : decode cX11_isName 63 = .ok (.iload_n 3, 1) := by decide +kernel
theorem dX11_isName_64 : decode cX11_isName 64 = .ok (.ldc 233, 2) := by decide +kernel
theorem dX11_isName_66 : decode cX11_isName 66 = .ok (.if_icmp .le 29, 3) := by decide +kernel
theorem dX11_isName_69 : decode cX11_isName 69 = .ok (.iload_n 3, 1) := by decide +kernel
theorem dX11_isName_70 : decode cX11_isName 70 = .ok (.ldc 234, 2) := by decide +kernel
theorem dX11_isName_72 : decode cX11_isName 72 = .ok (.if_icmp .gt 23, 3) := by decide +kernel
theorem dX11_isName_75 : decode cX11_isName 75 = .ok (.iload_n 3, 1) := by decide +kernel
theorem dX11_isName_76 : decode cX11_isName 76 = .ok (.bipush 127, 2) := by decide +kernel
theorem dX11_isName_78 : decode cX11_isName 78 = .ok (.if_icmp .gt 13, 3) := by decide +kernel
theorem dX11_isName_81 : decode cX11_isName 81 = .ok (.ldc 235, 2) := by decide +kernel
theorem dX11_isName_83 : decode cX11_isName 83 = .ok (.iload_n 3, 1) := by decide +kernel
theorem dX11_isName_84 : decode cX11_isName 84 = .ok (.i2c, 1) := by decide +kernel
theorem dX11_isName_85 : decode cX11_isName 85 = .ok (.invokevirtual 208, 3) := by decide +kernel
theorem dX11_isName_88 : decode cX11_isName 88 = .ok (.ifCond .ge 7, 3) := by decide +kernel
theorem dX11_isName_91 : decode cX11_isName 91 = .ok (.iconst 1, 1) := by decide +kernel
theorem dX11_isName_92 : decode cX11_isName 92 = .ok (.goto 4, 3) := by decide +kernel
theorem dX11_isName_95 : decode cX11_isName 95 = .ok (.iconst 0, 1) := by decide +kernel
theorem dX11_isName_96 : decode cX11_isName 96 = .ok (.istore_n 1, 1) := by decide +kernel
theorem dX11_isName_97 : decode cX11_isName 97 = .ok (.iinc 2 1, 3) := by decide +kernel
theorem dX11_isName_100 : decode cX11_isName 100 = .ok (.goto (-74), 3) := by decide +kernel
theorem dX11_isName_103 : decode cX11_isName 103 = .ok (.iload_n 1, 1) := by decide +kernel
theorem dX11_isName_104 : decode cX11_isName 104 = .ok (.ifCond .eq 39, 3) := by decide +kernel
theorem dX11_isName_107 : decode cX11_isName 107 = .ok (.aload_n 0, 1) := by decide +kernel
theorem dX11_isName_108 : decode cX11_isName 108 = .ok (.getfield 60, 3) := by decide +kernel
theorem dX11_isName_111 : decode cX11_isName 111 = .ok (.aload_n 0, 1) := by decide +kernel
theorem dX11_isName_112 : decode cX11_isName 112 = .ok (.getfield 200, 3) := by decide +kernel
theorem dX11_isName_115 : decode cX11_isName 115 = .ok (.iconst 1, 1) := by decide +kernel
theorem dX11_isName_116 : decode cX11_isName 116 = .ok (.isub, 1) := by decide +kernel
theorem dX11_isName_117 : decode cX11_isName 117 = .ok (.caload, 1) := by decide +kernel
theorem dX11_isName_118 : decode cX11_isName 118 = .ok (.bipush 32, 2) := by decide +kernel
theorem dX11_isName_120 : decode cX11_isName 120 = .ok (.if_icmp .eq 23, 3) := by decide +kernel
theorem dX11_isName_123 : decode cX11_isName 123 = .ok (.aload_n 0, 1) := by decide +kernel
theorem dX11_isName_124 : decode cX11_isName 124 = .ok (.getfield 60, 3) := by decide +kernel
theorem dX11_isName_127 : decode cX11_isName 127 = .ok (.aload_n 0, 1) := by decide +kernel
theorem dX11_isName_128 : decode cX11_isName 128 = .ok (.getfield 200, 3) := by decide +kernel
theorem dX11_isName_131 : decode cX11_isName 131 = .ok (.iconst 1, 1) := by decide +kernel
theorem dX11_isName_132 : decode cX11_isName 132 = .ok (.isub, 1) := by decide +kernel
theorem dX11_isName_133 : decode cX11_isName 133 = .ok (.caload, 1) := by decide +kernel
theorem dX11_isName_134 : decode cX11_isName 134 = .ok (.bipush 46, 2) := by decide +kernel
theorem dX11_isName_136 : decode cX11_isName 136 = .ok (.if_icmp .eq 7, 3) := by decide +kernel
theorem dX11_isName_139 : decode cX11_isName 139 = .ok (.iconst 1, 1) := by decide +kernel
theorem dX11_isName_140 : decode cX11_isName 140 = .ok (.goto 4, 3) := by decide +kernel
theorem dX11_isName_143 : decode cX11_isName 143 = .ok (.iconst 0, 1) := by decide +kernel
theorem dX11_isName_144 : decode cX11_isName 144 = .ok (.ireturn, 1) := by decide +kernel
theorem dX11_shown_0 : decode cX11_shown 0 = .ok (.aload_n 0, 1) := by decide +kernel
theorem dX11_shown_1 : decode cX11_shown 1 = .ok (.iconst 0, 1) := by decide +kernel
theorem dX11_shown_2 : decode cX11_shown 2 = .ok (.putfield 200, 3) := by decide +kernel
theorem dX11_shown_5 : decode cX11_shown 5 = .ok (.iconst 0, 1) := by decide +kernel
theorem dX11_shown_6 : decode cX11_shown 6 = .ok (.istore_n 2, 1) := by decide +kernel
theorem dX11_shown_7 : decode cX11_shown 7 = .ok (.iload_n 2, 1) := by decide +kernel
theorem dX11_shown_8 : decode cX11_shown 8 = .ok (.bipush 11, 2) := by decide +kernel
theorem dX11_shown_10 : decode cX11_shown 10 = .ok (.if_icmp .ge 91, 3) := by decide +kernel
theorem dX11_shown_13 : decode cX11_shown 13 = .ok (.iload_n 2, 1) := by decide +kernel
theorem dX11_shown_14 : decode cX11_shown 14 = .ok (.bipush 8, 2) := by decide +kernel
theorem dX11_shown_16 : decode cX11_shown 16 = .ok (.if_icmp .ne 37, 3) := by decide +kernel
theorem dX11_shown_19 : decode cX11_shown 19 = .ok (.aload_n 0, 1) := by decide +kernel
theorem dX11_shown_20 : decode cX11_shown 20 = .ok (.iload_n 1, 1) := by decide +kernel
theorem dX11_shown_21 : decode cX11_shown 21 = .ok (.bipush 8, 2) := by decide +kernel
theorem dX11_shown_23 : decode cX11_shown 23 = .ok (.iadd, 1) := by decide +kernel
theorem dX11_shown_24 : decode cX11_shown 24 = .ok (.invokevirtual 79, 3) := by decide +kernel
theorem dX11_shown_27 : decode cX11_shown 27 = .ok (.bipush 32, 2) := by decide +kernel
theorem dX11_shown_29 : decode cX11_shown 29 = .ok (.if_icmp .eq 24, 3) := by decide +kernel
theorem dX11_shown_32 : decode cX11_shown 32 = .ok (.aload_n 0, 1) := by decide +kernel
theorem dX11_shown_33 : decode cX11_shown 33 = .ok (.getfield 60, 3) := by decide +kernel
theorem dX11_shown_36 : decode cX11_shown 36 = .ok (.aload_n 0, 1) := by decide +kernel
theorem dX11_shown_37 : decode cX11_shown 37 = .ok (.getfield 200, 3) := by decide +kernel
theorem dX11_shown_40 : decode cX11_shown 40 = .ok (.bipush 46, 2) := by decide +kernel
theorem dX11_shown_42 : decode cX11_shown 42 = .ok (.castore, 1) := by decide +kernel
theorem dX11_shown_43 : decode cX11_shown 43 = .ok (.aload_n 0, 1) := by decide +kernel
theorem dX11_shown_44 : decode cX11_shown 44 = .ok (.dup, 1) := by decide +kernel
theorem dX11_shown_45 : decode cX11_shown 45 = .ok (.getfield 200, 3) := by decide +kernel
theorem dX11_shown_48 : decode cX11_shown 48 = .ok (.iconst 1, 1) := by decide +kernel
theorem dX11_shown_49 : decode cX11_shown 49 = .ok (.iadd, 1) := by decide +kernel
theorem dX11_shown_50 : decode cX11_shown 50 = .ok (.putfield 200, 3) := by decide +kernel
theorem dX11_shown_53 : decode cX11_shown 53 = .ok (.aload_n 0, 1) := by decide +kernel
theorem dX11_shown_54 : decode cX11_shown 54 = .ok (.iload_n 1, 1) := by decide +kernel
theorem dX11_shown_55 : decode cX11_shown 55 = .ok (.iload_n 2, 1) := by decide +kernel
theorem dX11_shown_56 : decode cX11_shown 56 = .ok (.iadd, 1) := by decide +kernel
theorem dX11_shown_57 : decode cX11_shown 57 = .ok (.invokevirtual 79, 3) := by decide +kernel
theorem dX11_shown_60 : decode cX11_shown 60 = .ok (.bipush 32, 2) := by decide +kernel
theorem dX11_shown_62 : decode cX11_shown 62 = .ok (.if_icmp .ne 6, 3) := by decide +kernel
theorem dX11_shown_65 : decode cX11_shown 65 = .ok (.goto 30, 3) := by decide +kernel
theorem dX11_shown_68 : decode cX11_shown 68 = .ok (.aload_n 0, 1) := by decide +kernel
theorem dX11_shown_69 : decode cX11_shown 69 = .ok (.getfield 60, 3) := by decide +kernel
theorem dX11_shown_72 : decode cX11_shown 72 = .ok (.aload_n 0, 1) := by decide +kernel
theorem dX11_shown_73 : decode cX11_shown 73 = .ok (.getfield 200, 3) := by decide +kernel
theorem dX11_shown_76 : decode cX11_shown 76 = .ok (.aload_n 0, 1) := by decide +kernel
theorem dX11_shown_77 : decode cX11_shown 77 = .ok (.iload_n 1, 1) := by decide +kernel
theorem dX11_shown_78 : decode cX11_shown 78 = .ok (.iload_n 2, 1) := by decide +kernel
theorem dX11_shown_79 : decode cX11_shown 79 = .ok (.iadd, 1) := by decide +kernel
theorem dX11_shown_80 : decode cX11_shown 80 = .ok (.invokevirtual 79, 3) := by decide +kernel
theorem dX11_shown_83 : decode cX11_shown 83 = .ok (.i2c, 1) := by decide +kernel
theorem dX11_shown_84 : decode cX11_shown 84 = .ok (.castore, 1) := by decide +kernel
theorem dX11_shown_85 : decode cX11_shown 85 = .ok (.aload_n 0, 1) := by decide +kernel
theorem dX11_shown_86 : decode cX11_shown 86 = .ok (.dup, 1) := by decide +kernel
theorem dX11_shown_87 : decode cX11_shown 87 = .ok (.getfield 200, 3) := by decide +kernel
theorem dX11_shown_90 : decode cX11_shown 90 = .ok (.iconst 1, 1) := by decide +kernel
theorem dX11_shown_91 : decode cX11_shown 91 = .ok (.iadd, 1) := by decide +kernel
theorem dX11_shown_92 : decode cX11_shown 92 = .ok (.putfield 200, 3) := by decide +kernel
theorem dX11_shown_95 : decode cX11_shown 95 = .ok (.iinc 2 1, 3) := by decide +kernel
theorem dX11_shown_98 : decode cX11_shown 98 = .ok (.goto (-91), 3) := by decide +kernel
theorem dX11_shown_101 : decode cX11_shown 101 = .ok (.return_, 1) := by decide +kernel
theorem dX11_said_0 : decode cX11_said 0 = .ok (.aload_n 0, 1) := by decide +kernel
theorem dX11_said_1 : decode cX11_said 1 = .ok (.getfield 200, 3) := by decide +kernel
theorem dX11_said_4 : decode cX11_said 4 = .ok (.istore_n 1, 1) := by decide +kernel
theorem dX11_said_5 : decode cX11_said 5 = .ok (.iconst 0, 1) := by decide +kernel
theorem dX11_said_6 : decode cX11_said 6 = .ok (.istore_n 2, 1) := by decide +kernel
theorem dX11_said_7 : decode cX11_said 7 = .ok (.iload_n 2, 1) := by decide +kernel
theorem dX11_said_8 : decode cX11_said 8 = .ok (.iload_n 1, 1) := by decide +kernel
theorem dX11_said_9 : decode cX11_said 9 = .ok (.if_icmp .ge 18, 3) := by decide +kernel
theorem dX11_said_12 : decode cX11_said 12 = .ok (.aload_n 0, 1) := by decide +kernel
theorem dX11_said_13 : decode cX11_said 13 = .ok (.getfield 60, 3) := by decide +kernel
theorem dX11_said_16 : decode cX11_said 16 = .ok (.iload_n 2, 1) := by decide +kernel
theorem dX11_said_17 : decode cX11_said 17 = .ok (.caload, 1) := by decide +kernel
theorem dX11_said_18 : decode cX11_said 18 = .ok (.ifCond .eq 9, 3) := by decide +kernel
theorem dX11_said_21 : decode cX11_said 21 = .ok (.iinc 2 1, 3) := by decide +kernel
theorem dX11_said_24 : decode cX11_said 24 = .ok (.goto (-17), 3) := by decide +kernel
theorem dX11_said_27 : decode cX11_said 27 = .ok (.aload_n 0, 1) := by decide +kernel
theorem dX11_said_28 : decode cX11_said 28 = .ok (.iload_n 2, 1) := by decide +kernel
theorem dX11_said_29 : decode cX11_said 29 = .ok (.putfield 200, 3) := by decide +kernel
theorem dX11_said_32 : decode cX11_said 32 = .ok (.iload_n 2, 1) := by decide +kernel
theorem dX11_said_33 : decode cX11_said 33 = .ok (.iconst 1, 1) := by decide +kernel
theorem dX11_said_34 : decode cX11_said 34 = .ok (.iadd, 1) := by decide +kernel
theorem dX11_said_35 : decode cX11_said 35 = .ok (.istore_n 3, 1) := by decide +kernel
theorem dX11_said_36 : decode cX11_said 36 = .ok (.iload_n 3, 1) := by decide +kernel
theorem dX11_said_37 : decode cX11_said 37 = .ok (.iload_n 1, 1) := by decide +kernel
theorem dX11_said_38 : decode cX11_said 38 = .ok (.if_icmp .ge 22, 3) := by decide +kernel
theorem dX11_said_41 : decode cX11_said 41 = .ok (.aload_n 0, 1) := by decide +kernel
theorem dX11_said_42 : decode cX11_said 42 = .ok (.getfield 60, 3) := by decide +kernel
theorem dX11_said_45 : decode cX11_said 45 = .ok (.iload_n 3, 1) := by decide +kernel
theorem dX11_said_46 : decode cX11_said 46 = .ok (.caload, 1) := by decide +kernel
theorem dX11_said_47 : decode cX11_said 47 = .ok (.ldc 237, 2) := by decide +kernel
theorem dX11_said_49 : decode cX11_said 49 = .ok (.if_icmp .eq 5, 3) := by decide +kernel
theorem dX11_said_52 : decode cX11_said 52 = .ok (.iconst 0, 1) := by decide +kernel
theorem dX11_said_53 : decode cX11_said 53 = .ok (.ireturn, 1) := by decide +kernel
theorem dX11_said_54 : decode cX11_said 54 = .ok (.iinc 3 1, 3) := by decide +kernel
theorem dX11_said_57 : decode cX11_said 57 = .ok (.goto (-21), 3) := by decide +kernel
theorem dX11_said_60 : decode cX11_said 60 = .ok (.aload_n 0, 1) := by decide +kernel
theorem dX11_said_61 : decode cX11_said 61 = .ok (.getfield 200, 3) := by decide +kernel
theorem dX11_said_64 : decode cX11_said 64 = .ok (.bipush 13, 2) := by decide +kernel
theorem dX11_said_66 : decode cX11_said 66 = .ok (.invokestatic 238, 3) := by decide +kernel
theorem dX11_said_69 : decode cX11_said 69 = .ok (.bipush 13, 2) := by decide +kernel
theorem dX11_said_71 : decode cX11_said 71 = .ok (.imul, 1) := by decide +kernel
theorem dX11_said_72 : decode cX11_said 72 = .ok (.iload_n 1, 1) := by decide +kernel
theorem dX11_said_73 : decode cX11_said 73 = .ok (.if_icmp .ne 14, 3) := by decide +kernel
theorem dX11_said_76 : decode cX11_said 76 = .ok (.aload_n 0, 1) := by decide +kernel
theorem dX11_said_77 : decode cX11_said 77 = .ok (.invokevirtual 241, 3) := by decide +kernel
theorem dX11_said_80 : decode cX11_said 80 = .ok (.ifCond .eq 7, 3) := by decide +kernel
theorem dX11_said_83 : decode cX11_said 83 = .ok (.iconst 1, 1) := by decide +kernel
theorem dX11_said_84 : decode cX11_said 84 = .ok (.goto 4, 3) := by decide +kernel
theorem dX11_said_87 : decode cX11_said 87 = .ok (.iconst 0, 1) := by decide +kernel
theorem dX11_said_88 : decode cX11_said 88 = .ok (.ireturn, 1) := by decide +kernel
theorem dX11_capital_0 : decode cX11_capital 0 = .ok (.iload_n 0, 1) := by decide +kernel
theorem dX11_capital_1 : decode cX11_capital 1 = .ok (.bipush 97, 2) := by decide +kernel
theorem dX11_capital_3 : decode cX11_capital 3 = .ok (.if_icmp .lt 16, 3) := by decide +kernel
theorem dX11_capital_6 : decode cX11_capital 6 = .ok (.iload_n 0, 1) := by decide +kernel
theorem dX11_capital_7 : decode cX11_capital 7 = .ok (.bipush 122, 2) := by decide +kernel
theorem dX11_capital_9 : decode cX11_capital 9 = .ok (.if_icmp .gt 10, 3) := by decide +kernel
theorem dX11_capital_12 : decode cX11_capital 12 = .ok (.iload_n 0, 1) := by decide +kernel
theorem dX11_capital_13 : decode cX11_capital 13 = .ok (.bipush 32, 2) := by decide +kernel
theorem dX11_capital_15 : decode cX11_capital 15 = .ok (.isub, 1) := by decide +kernel
theorem dX11_capital_16 : decode cX11_capital 16 = .ok (.goto 4, 3) := by decide +kernel
theorem dX11_capital_19 : decode cX11_capital 19 = .ok (.iload_n 0, 1) := by decide +kernel
theorem dX11_capital_20 : decode cX11_capital 20 = .ok (.ireturn, 1) := by decide +kernel
theorem dX11_isAlike_0 : decode cX11_isAlike 0 = .ok (.aload_n 0, 1) := by decide +kernel
theorem dX11_isAlike_1 : decode cX11_isAlike 1 = .ok (.getfield 46, 3) := by decide +kernel
theorem dX11_isAlike_4 : decode cX11_isAlike 4 = .ok (.iload_n 1, 1) := by decide +kernel
theorem dX11_isAlike_5 : decode cX11_isAlike 5 = .ok (.iaload, 1) := by decide +kernel
theorem dX11_isAlike_6 : decode cX11_isAlike 6 = .ok (.aload_n 0, 1) := by decide +kernel
theorem dX11_isAlike_7 : decode cX11_isAlike 7 = .ok (.getfield 200, 3) := by decide +kernel
theorem dX11_isAlike_10 : decode cX11_isAlike 10 = .ok (.if_icmp .ne 7, 3) := by decide +kernel
theorem dX11_isAlike_13 : decode cX11_isAlike 13 = .ok (.iconst 1, 1) := by decide +kernel
theorem dX11_isAlike_14 : decode cX11_isAlike 14 = .ok (.goto 4, 3) := by decide +kernel
theorem dX11_isAlike_17 : decode cX11_isAlike 17 = .ok (.iconst 0, 1) := by decide +kernel
theorem dX11_isAlike_18 : decode cX11_isAlike 18 = .ok (.istore_n 2, 1) := by decide +kernel
theorem dX11_isAlike_19 : decode cX11_isAlike 19 = .ok (.iconst 0, 1) := by decide +kernel
theorem dX11_isAlike_20 : decode cX11_isAlike 20 = .ok (.istore_n 3, 1) := by decide +kernel
theorem dX11_isAlike_21 : decode cX11_isAlike 21 = .ok (.iload_n 3, 1) := by decide +kernel
theorem dX11_isAlike_22 : decode cX11_isAlike 22 = .ok (.aload_n 0, 1) := by decide +kernel
theorem dX11_isAlike_23 : decode cX11_isAlike 23 = .ok (.getfield 200, 3) := by decide +kernel
theorem dX11_isAlike_26 : decode cX11_isAlike 26 = .ok (.if_icmp .ge 47, 3) := by decide +kernel
theorem dX11_isAlike_29 : decode cX11_isAlike 29 = .ok (.iload_n 2, 1) := by decide +kernel
theorem dX11_isAlike_30 : decode cX11_isAlike 30 = .ok (.ifCond .eq 43, 3) := by decide +kernel
theorem dX11_isAlike_33 : decode cX11_isAlike 33 = .ok (.aload_n 0, 1) := by decide +kernel
theorem dX11_isAlike_34 : decode cX11_isAlike 34 = .ok (.getfield 50, 3) := by decide +kernel
theorem dX11_isAlike_37 : decode cX11_isAlike 37 = .ok (.aload_n 0, 1) := by decide +kernel
theorem dX11_isAlike_38 : decode cX11_isAlike 38 = .ok (.getfield 43, 3) := by decide +kernel
theorem dX11_isAlike_41 : decode cX11_isAlike 41 = .ok (.iload_n 1, 1) := by decide +kernel
theorem dX11_isAlike_42 : decode cX11_isAlike 42 = .ok (.iaload, 1) := by decide +kernel
theorem dX11_isAlike_43 : decode cX11_isAlike 43 = .ok (.iload_n 3, 1) := by decide +kernel
theorem dX11_isAlike_44 : decode cX11_isAlike 44 = .ok (.iadd, 1) := by decide +kernel
theorem dX11_isAlike_45 : decode cX11_isAlike 45 = .ok (.caload, 1) := by decide +kernel
theorem dX11_isAlike_46 : decode cX11_isAlike 46 = .ok (.invokestatic 244, 3) := by decide +kernel
theorem dX11_isAlike_49 : decode cX11_isAlike 49 = .ok (.aload_n 0, 1) := by decide +kernel
theorem dX11_isAlike_50 : decode cX11_isAlike 50 = .ok (.getfield 60, 3) := by decide +kernel
theorem dX11_isAlike_53 : decode cX11_isAlike 53 = .ok (.iload_n 3, 1) := by decide +kernel
theorem dX11_isAlike_54 : decode cX11_isAlike 54 = .ok (.caload, 1) := by decide +kernel
theorem dX11_isAlike_55 : decode cX11_isAlike 55 = .ok (.invokestatic 244, 3) := by decide +kernel
theorem dX11_isAlike_58 : decode cX11_isAlike 58 = .ok (.if_icmp .ne 7, 3) := by decide +kernel
theorem dX11_isAlike_61 : decode cX11_isAlike 61 = .ok (.iconst 1, 1) := by decide +kernel
theorem dX11_isAlike_62 : decode cX11_isAlike 62 = .ok (.goto 4, 3) := by decide +kernel
theorem dX11_isAlike_65 : decode cX11_isAlike 65 = .ok (.iconst 0, 1) := by decide +kernel
theorem dX11_isAlike_66 : decode cX11_isAlike 66 = .ok (.istore_n 2, 1) := by decide +kernel
theorem dX11_isAlike_67 : decode cX11_isAlike 67 = .ok (.iinc 3 1, 3) := by decide +kernel
theorem dX11_isAlike_70 : decode cX11_isAlike 70 = .ok (.goto (-49), 3) := by decide +kernel
theorem dX11_isAlike_73 : decode cX11_isAlike 73 = .ok (.iload_n 2, 1) := by decide +kernel
theorem dX11_isAlike_74 : decode cX11_isAlike 74 = .ok (.ireturn, 1) := by decide +kernel
theorem dX11_isTaken_0 : decode cX11_isTaken 0 = .ok (.iconst 0, 1) := by decide +kernel
theorem dX11_isTaken_1 : decode cX11_isTaken 1 = .ok (.istore_n 2, 1) := by decide +kernel
theorem dX11_isTaken_2 : decode cX11_isTaken 2 = .ok (.aload_n 0, 1) := by decide +kernel
theorem dX11_isTaken_3 : decode cX11_isTaken 3 = .ok (.getfield 40, 3) := by decide +kernel
theorem dX11_isTaken_6 : decode cX11_isTaken 6 = .ok (.iload_n 1, 1) := by decide +kernel
theorem dX11_isTaken_7 : decode cX11_isTaken 7 = .ok (.iaload, 1) := by decide +kernel
theorem dX11_isTaken_8 : decode cX11_isTaken 8 = .ok (.istore_n 3, 1) := by decide +kernel
theorem dX11_isTaken_9 : decode cX11_isTaken 9 = .ok (.iload_n 3, 1) := by decide +kernel
theorem dX11_isTaken_10 : decode cX11_isTaken 10 = .ok (.aload_n 0, 1) := by decide +kernel
theorem dX11_isTaken_11 : decode cX11_isTaken 11 = .ok (.getfield 40, 3) := by decide +kernel
theorem dX11_isTaken_14 : decode cX11_isTaken 14 = .ok (.iload_n 1, 1) := by decide +kernel
theorem dX11_isTaken_15 : decode cX11_isTaken 15 = .ok (.iaload, 1) := by decide +kernel
theorem dX11_isTaken_16 : decode cX11_isTaken 16 = .ok (.aload_n 0, 1) := by decide +kernel
theorem dX11_isTaken_17 : decode cX11_isTaken 17 = .ok (.getfield 37, 3) := by decide +kernel
theorem dX11_isTaken_20 : decode cX11_isTaken 20 = .ok (.iload_n 1, 1) := by decide +kernel
theorem dX11_isTaken_21 : decode cX11_isTaken 21 = .ok (.iaload, 1) := by decide +kernel
theorem dX11_isTaken_22 : decode cX11_isTaken 22 = .ok (.iadd, 1) := by decide +kernel
theorem dX11_isTaken_23 : decode cX11_isTaken 23 = .ok (.if_icmp .ge 19, 3) := by decide +kernel
theorem dX11_isTaken_26 : decode cX11_isTaken 26 = .ok (.iload_n 2, 1) := by decide +kernel
theorem dX11_isTaken_27 : decode cX11_isTaken 27 = .ok (.ifCond .ne 15, 3) := by decide +kernel
theorem dX11_isTaken_30 : decode cX11_isTaken 30 = .ok (.aload_n 0, 1) := by decide +kernel
theorem dX11_isTaken_31 : decode cX11_isTaken 31 = .ok (.iload_n 3, 1) := by decide +kernel
theorem dX11_isTaken_32 : decode cX11_isTaken 32 = .ok (.invokevirtual 247, 3) := by decide +kernel
theorem dX11_isTaken_35 : decode cX11_isTaken 35 = .ok (.istore_n 2, 1) := by decide +kernel
theorem dX11_isTaken_36 : decode cX11_isTaken 36 = .ok (.iinc 3 1, 3) := by decide +kernel
theorem dX11_isTaken_39 : decode cX11_isTaken 39 = .ok (.goto (-30), 3) := by decide +kernel
theorem dX11_isTaken_42 : decode cX11_isTaken 42 = .ok (.iload_n 2, 1) := by decide +kernel
theorem dX11_isTaken_43 : decode cX11_isTaken 43 = .ok (.ireturn, 1) := by decide +kernel
theorem dX11_admit_0 : decode cX11_admit 0 = .ok (.aload_n 0, 1) := by decide +kernel
theorem dX11_admit_1 : decode cX11_admit 1 = .ok (.iload_n 1, 1) := by decide +kernel
theorem dX11_admit_2 : decode cX11_admit 2 = .ok (.bipush 11, 2) := by decide +kernel
theorem dX11_admit_4 : decode cX11_admit 4 = .ok (.iadd, 1) := by decide +kernel
theorem dX11_admit_5 : decode cX11_admit 5 = .ok (.invokevirtual 79, 3) := by decide +kernel
theorem dX11_admit_8 : decode cX11_admit 8 = .ok (.istore 4, 2) := by decide +kernel
theorem dX11_admit_10 : decode cX11_admit 10 = .ok (.iload 4, 2) := by decide +kernel
theorem dX11_admit_12 : decode cX11_admit 12 = .ok (.bipush 63, 2) := by decide +kernel
theorem dX11_admit_14 : decode cX11_admit 14 = .ok (.if_icmp .gt 11, 3) := by decide +kernel
theorem dX11_admit_17 : decode cX11_admit 17 = .ok (.aload_n 0, 1) := by decide +kernel
theorem dX11_admit_18 : decode cX11_admit 18 = .ok (.iload_n 1, 1) := by decide +kernel
theorem dX11_admit_19 : decode cX11_admit 19 = .ok (.invokevirtual 250, 3) := by decide +kernel
theorem dX11_admit_22 : decode cX11_admit 22 = .ok (.ifCond .ne 5, 3) := by decide +kernel
theorem dX11_admit_25 : decode cX11_admit 25 = .ok (.iconst 4, 1) := by decide +kernel
theorem dX11_admit_26 : decode cX11_admit 26 = .ok (.ireturn, 1) := by decide +kernel
theorem dX11_admit_27 : decode cX11_admit 27 = .ok (.iload 4, 2) := by decide +kernel
theorem dX11_admit_29 : decode cX11_admit 29 = .ok (.bipush 8, 2) := by decide +kernel
theorem dX11_admit_31 : decode cX11_admit 31 = .ok (.iand, 1) := by decide +kernel
theorem dX11_admit_32 : decode cX11_admit 32 = .ok (.ifCond .eq 80, 3) := by decide +kernel
theorem dX11_admit_35 : decode cX11_admit 35 = .ok (.iload 4, 2) := by decide +kernel
theorem dX11_admit_37 : decode cX11_admit 37 = .ok (.bipush 16, 2) := by decide +kernel
theorem dX11_admit_39 : decode cX11_admit 39 = .ok (.iand, 1) := by decide +kernel
theorem dX11_admit_40 : decode cX11_admit 40 = .ok (.ifCond .ne 49, 3) := by decide +kernel
theorem dX11_admit_43 : decode cX11_admit 43 = .ok (.iload_n 2, 1) := by decide +kernel
theorem dX11_admit_44 : decode cX11_admit 44 = .ok (.ifCond .gt 45, 3) := by decide +kernel
theorem dX11_admit_47 : decode cX11_admit 47 = .ok (.aload_n 0, 1) := by decide +kernel
theorem dX11_admit_48 : decode cX11_admit 48 = .ok (.getfield 148, 3) := by decide +kernel
theorem dX11_admit_51 : decode cX11_admit 51 = .ok (.ifCond .ge 38, 3) := by decide +kernel
theorem dX11_admit_54 : decode cX11_admit 54 = .ok (.aload_n 0, 1) := by decide +kernel
theorem dX11_admit_55 : decode cX11_admit 55 = .ok (.getfield 180, 3) := by decide +kernel
theorem dX11_admit_58 : decode cX11_admit 58 = .ok (.ifCond .gt 31, 3) := by decide +kernel
theorem dX11_admit_61 : decode cX11_admit 61 = .ok (.aload_n 0, 1) := by decide +kernel
theorem dX11_admit_62 : decode cX11_admit 62 = .ok (.iload_n 1, 1) := by decide +kernel
theorem dX11_admit_63 : decode cX11_admit 63 = .ok (.invokevirtual 132, 3) := by decide +kernel
theorem dX11_admit_66 : decode cX11_admit 66 = .ok (.ifCond .ne 23, 3) := by decide +kernel
theorem dX11_admit_69 : decode cX11_admit 69 = .ok (.aload_n 0, 1) := by decide +kernel
theorem dX11_admit_70 : decode cX11_admit 70 = .ok (.iload_n 1, 1) := by decide +kernel
theorem dX11_admit_71 : decode cX11_admit 71 = .ok (.bipush 28, 2) := by decide +kernel
theorem dX11_admit_73 : decode cX11_admit 73 = .ok (.iadd, 1) := by decide +kernel
theorem dX11_admit_74 : decode cX11_admit 74 = .ok (.invokevirtual 96, 3) := by decide +kernel
theorem dX11_admit_77 : decode cX11_admit 77 = .ok (.ifCond .ne 12, 3) := by decide +kernel
theorem dX11_admit_80 : decode cX11_admit 80 = .ok (.aload_n 0, 1) := by decide +kernel
theorem dX11_admit_81 : decode cX11_admit 81 = .ok (.iload_n 1, 1) := by decide +kernel
theorem dX11_admit_82 : decode cX11_admit 82 = .ok (.iconst 1, 1) := by decide +kernel
theorem dX11_admit_83 : decode cX11_admit 83 = .ok (.invokevirtual 253, 3) := by decide +kernel
theorem dX11_admit_86 : decode cX11_admit 86 = .ok (.ifCond .ne 7, 3) := by decide +kernel
theorem dX11_admit_89 : decode cX11_admit 89 = .ok (.iconst 1, 1) := by decide +kernel
theorem dX11_admit_90 : decode cX11_admit 90 = .ok (.goto 4, 3) := by decide +kernel
theorem dX11_admit_93 : decode cX11_admit 93 = .ok (.iconst 0, 1) := by decide +kernel
theorem dX11_admit_94 : decode cX11_admit 94 = .ok (.istore 5, 2) := by decide +kernel
theorem dX11_admit_96 : decode cX11_admit 96 = .ok (.aload_n 0, 1) := by decide +kernel
theorem dX11_admit_97 : decode cX11_admit 97 = .ok (.iload_n 1, 1) := by decide +kernel
theorem dX11_admit_98 : decode cX11_admit 98 = .ok (.putfield 148, 3) := by decide +kernel
theorem dX11_admit_101 : decode cX11_admit 101 = .ok (.iload 5, 2) := by decide +kernel
theorem dX11_admit_103 : decode cX11_admit 103 = .ok (.ifCond .eq 7, 3) := by decide +kernel
theorem dX11_admit_106 : decode cX11_admit 106 = .ok (.iconst 4, 1) := by decide +kernel
theorem dX11_admit_107 : decode cX11_admit 107 = .ok (.goto 4, 3) := by decide +kernel
theorem dX11_admit_110 : decode cX11_admit 110 = .ok (.iconst 0, 1) := by decide +kernel
theorem dX11_admit_111 : decode cX11_admit 111 = .ok (.ireturn, 1) := by decide +kernel
theorem dX11_admit_112 : decode cX11_admit 112 = .ok (.aload_n 0, 1) := by decide +kernel
theorem dX11_admit_113 : decode cX11_admit 113 = .ok (.iload_n 1, 1) := by decide +kernel
theorem dX11_admit_114 : decode cX11_admit 114 = .ok (.iconst 0, 1) := by decide +kernel
theorem dX11_admit_115 : decode cX11_admit 115 = .ok (.invokevirtual 253, 3) := by decide +kernel
theorem dX11_admit_118 : decode cX11_admit 118 = .ok (.ifCond .eq 22, 3) := by decide +kernel
theorem dX11_admit_121 : decode cX11_admit 121 = .ok (.iload 4, 2) := by decide +kernel
theorem dX11_admit_123 : decode cX11_admit 123 = .ok (.bipush 16, 2) := by decide +kernel
theorem dX11_admit_125 : decode cX11_admit 125 = .ok (.iand, 1) := by decide +kernel
theorem dX11_admit_126 : decode cX11_admit 126 = .ok (.ifCond .eq 18, 3) := by decide +kernel
theorem dX11_admit_129 : decode cX11_admit 129 = .ok (.aload_n 0, 1) := by decide +kernel
theorem dX11_admit_130 : decode cX11_admit 130 = .ok (.iload_n 1, 1) := by decide +kernel
theorem dX11_admit_131 : decode cX11_admit 131 = .ok (.bipush 28, 2) := by decide +kernel
theorem dX11_admit_133 : decode cX11_admit 133 = .ok (.iadd, 1) := by decide +kernel
theorem dX11_admit_134 : decode cX11_admit 134 = .ok (.invokevirtual 96, 3) := by decide +kernel
theorem dX11_admit_137 : decode cX11_admit 137 = .ok (.ifCond .eq 7, 3) := by decide +kernel
theorem dX11_admit_140 : decode cX11_admit 140 = .ok (.iconst 1, 1) := by decide +kernel
theorem dX11_admit_141 : decode cX11_admit 141 = .ok (.goto 4, 3) := by decide +kernel
theorem dX11_admit_144 : decode cX11_admit 144 = .ok (.iconst 0, 1) := by decide +kernel
theorem dX11_admit_145 : decode cX11_admit 145 = .ok (.istore 5, 2) := by decide +kernel
theorem dX11_admit_147 : decode cX11_admit 147 = .ok (.aload_n 0, 1) := by decide +kernel
theorem dX11_admit_148 : decode cX11_admit 148 = .ok (.getfield 180, 3) := by decide +kernel
theorem dX11_admit_151 : decode cX11_admit 151 = .ok (.ifCond .le 44, 3) := by decide +kernel
theorem dX11_admit_154 : decode cX11_admit 154 = .ok (.iload 5, 2) := by decide +kernel
theorem dX11_admit_156 : decode cX11_admit 156 = .ok (.ifCond .ne 29, 3) := by decide +kernel
theorem dX11_admit_159 : decode cX11_admit 159 = .ok (.aload_n 0, 1) := by decide +kernel
theorem dX11_admit_160 : decode cX11_admit 160 = .ok (.getfield 183, 3) := by decide +kernel
theorem dX11_admit_163 : decode cX11_admit 163 = .ok (.ifCond .gt 22, 3) := by decide +kernel
theorem dX11_admit_166 : decode cX11_admit 166 = .ok (.aload_n 0, 1) := by decide +kernel
theorem dX11_admit_167 : decode cX11_admit 167 = .ok (.iload_n 1, 1) := by decide +kernel
theorem dX11_admit_168 : decode cX11_admit 168 = .ok (.invokevirtual 257, 3) := by decide +kernel
theorem dX11_admit_171 : decode cX11_admit 171 = .ok (.aload_n 0, 1) := by decide +kernel
theorem dX11_admit_172 : decode cX11_admit 172 = .ok (.getfield 203, 3) := by decide +kernel
theorem dX11_admit_175 : decode cX11_admit 175 = .ok (.if_icmp .ne 10, 3) := by decide +kernel
theorem dX11_admit_178 : decode cX11_admit 178 = .ok (.aload_n 0, 1) := by decide +kernel
theorem dX11_admit_179 : decode cX11_admit 179 = .ok (.invokevirtual 260, 3) := by decide +kernel
theorem dX11_admit_182 : decode cX11_admit 182 = .ok (.ifCond .ne 7, 3) := by decide +kernel
theorem dX11_admit_185 : decode cX11_admit 185 = .ok (.iconst 1, 1) := by decide +kernel
theorem dX11_admit_186 : decode cX11_admit 186 = .ok (.goto 4, 3) := by decide +kernel
theorem dX11_admit_189 : decode cX11_admit 189 = .ok (.iconst 0, 1) := by decide +kernel
theorem dX11_admit_190 : decode cX11_admit 190 = .ok (.istore 5, 2) := by decide +kernel
theorem dX11_admit_192 : decode cX11_admit 192 = .ok (.goto 8, 3) := by decide +kernel
theorem dX11_admit_195 : decode cX11_admit 195 = .ok (.aload_n 0, 1) := by decide +kernel
theorem dX11_admit_196 : decode cX11_admit 196 = .ok (.iload_n 1, 1) := by decide +kernel
theorem dX11_admit_197 : decode cX11_admit 197 = .ok (.invokevirtual 263, 3) := by decide +kernel
theorem dX11_admit_200 : decode cX11_admit 200 = .ok (.iload 5, 2) := by decide +kernel
theorem dX11_admit_202 : decode cX11_admit 202 = .ok (.ifCond .eq 5, 3) := by decide +kernel
theorem dX11_admit_205 : decode cX11_admit 205 = .ok (.iconst 4, 1) := by decide +kernel
theorem dX11_admit_206 : decode cX11_admit 206 = .ok (.ireturn, 1) := by decide +kernel
theorem dX11_admit_207 : decode cX11_admit 207 = .ok (.aload_n 0, 1) := by decide +kernel
theorem dX11_admit_208 : decode cX11_admit 208 = .ok (.iload_n 2, 1) := by decide +kernel
theorem dX11_admit_209 : decode cX11_admit 209 = .ok (.invokevirtual 266, 3) := by decide +kernel
theorem dX11_admit_212 : decode cX11_admit 212 = .ok (.ifCond .eq 5, 3) := by decide +kernel
theorem dX11_admit_215 : decode cX11_admit 215 = .ok (.iconst 5, 1) := by decide +kernel
theorem dX11_admit_216 : decode cX11_admit 216 = .ok (.ireturn, 1) := by decide +kernel
theorem dX11_admit_217 : decode cX11_admit 217 = .ok (.aload_n 0, 1) := by decide +kernel
theorem dX11_admit_218 : decode cX11_admit 218 = .ok (.getfield 40, 3) := by decide +kernel
theorem dX11_admit_221 : decode cX11_admit 221 = .ok (.iload_n 2, 1) := by decide +kernel
theorem dX11_admit_222 : decode cX11_admit 222 = .ok (.iaload, 1) := by decide +kernel
theorem dX11_admit_223 : decode cX11_admit 223 = .ok (.istore 6, 2) := by decide +kernel
theorem dX11_admit_225 : decode cX11_admit 225 = .ok (.iload 6, 2) := by decide +kernel
theorem dX11_admit_227 : decode cX11_admit 227 = .ok (.aload_n 0, 1) := by decide +kernel
theorem dX11_admit_228 : decode cX11_admit 228 = .ok (.getfield 142, 3) := by decide +kernel
theorem dX11_admit_231 : decode cX11_admit 231 = .ok (.if_icmp .ge 72, 3) := by decide +kernel
theorem dX11_admit_234 : decode cX11_admit 234 = .ok (.iconst 1, 1) := by decide +kernel
theorem dX11_admit_235 : decode cX11_admit 235 = .ok (.istore 7, 2) := by decide +kernel
theorem dX11_admit_237 : decode cX11_admit 237 = .ok (.iconst 0, 1) := by decide +kernel
theorem dX11_admit_238 : decode cX11_admit 238 = .ok (.istore 8, 2) := by decide +kernel
theorem dX11_admit_240 : decode cX11_admit 240 = .ok (.iload 8, 2) := by decide +kernel
theorem dX11_admit_242 : decode cX11_admit 242 = .ok (.bipush 11, 2) := by decide +kernel
theorem dX11_admit_244 : decode cX11_admit 244 = .ok (.if_icmp .ge 46, 3) := by decide +kernel
theorem dX11_admit_247 : decode cX11_admit 247 = .ok (.iload 7, 2) := by decide +kernel
theorem dX11_admit_249 : decode cX11_admit 249 = .ok (.ifCond .eq 32, 3) := by decide +kernel
theorem dX11_admit_252 : decode cX11_admit 252 = .ok (.aload_n 0, 1) := by decide +kernel
theorem dX11_admit_253 : decode cX11_admit 253 = .ok (.aload_n 0, 1) := by decide +kernel
theorem dX11_admit_254 : decode cX11_admit 254 = .ok (.getfield 24, 3) := by decide +kernel
theorem dX11_admit_257 : decode cX11_admit 257 = .ok (.iload 6, 2) := by decide +kernel
theorem dX11_admit_259 : decode cX11_admit 259 = .ok (.iaload, 1) := by decide +kernel
theorem dX11_admit_260 : decode cX11_admit 260 = .ok (.iload 8, 2) := by decide +kernel
theorem dX11_admit_262 : decode cX11_admit 262 = .ok (.iadd, 1) := by decide +kernel
theorem dX11_admit_263 : decode cX11_admit 263 = .ok (.invokevirtual 79, 3) := by decide +kernel
theorem dX11_admit_266 : decode cX11_admit 266 = .ok (.aload_n 0, 1) := by decide +kernel
theorem dX11_admit_267 : decode cX11_admit 267 = .ok (.iload_n 1, 1) := by decide +kernel
theorem dX11_admit_268 : decode cX11_admit 268 = .ok (.iload 8, 2) := by decide +kernel
theorem dX11_admit_270 : decode cX11_admit 270 = .ok (.iadd, 1) := by decide +kernel
theorem dX11_admit_271 : decode cX11_admit 271 = .ok (.invokevirtual 79, 3) := by decide +kernel
theorem dX11_admit_274 : decode cX11_admit 274 = .ok (.if_icmp .ne 7, 3) := by decide +kernel
theorem dX11_admit_277 : decode cX11_admit 277 = .ok (.iconst 1, 1) := by decide +kernel
theorem dX11_admit_278 : decode cX11_admit 278 = .ok (.goto 4, 3) := by decide +kernel
theorem dX11_admit_281 : decode cX11_admit 281 = .ok (.iconst 0, 1) := by decide +kernel
theorem dX11_admit_282 : decode cX11_admit 282 = .ok (.istore 7, 2) := by decide +kernel
theorem dX11_admit_284 : decode cX11_admit 284 = .ok (.iinc 8 1, 3) := by decide +kernel
theorem dX11_admit_287 : decode cX11_admit 287 = .ok (.goto (-47), 3) := by decide +kernel
theorem dX11_admit_290 : decode cX11_admit 290 = .ok (.iload 7, 2) := by decide +kernel
theorem dX11_admit_292 : decode cX11_admit 292 = .ok (.ifCond .eq 5, 3) := by decide +kernel
theorem dX11_admit_295 : decode cX11_admit 295 = .ok (.iconst 5, 1) := by decide +kernel
theorem dX11_admit_296 : decode cX11_admit 296 = .ok (.ireturn, 1) := by decide +kernel
theorem dX11_admit_297 : decode cX11_admit 297 = .ok (.iinc 6 1, 3) := by decide +kernel
theorem dX11_admit_300 : decode cX11_admit 300 = .ok (.goto (-75), 3) := by decide +kernel
theorem dX11_admit_303 : decode cX11_admit 303 = .ok (.aload_n 0, 1) := by decide +kernel
theorem dX11_admit_304 : decode cX11_admit 304 = .ok (.getfield 24, 3) := by decide +kernel
theorem dX11_admit_307 : decode cX11_admit 307 = .ok (.aload_n 0, 1) := by decide +kernel
theorem dX11_admit_308 : decode cX11_admit 308 = .ok (.getfield 142, 3) := by decide +kernel
theorem dX11_admit_311 : decode cX11_admit 311 = .ok (.iload_n 1, 1) := by decide +kernel
theorem dX11_admit_312 : decode cX11_admit 312 = .ok (.iastore, 1) := by decide +kernel
theorem dX11_admit_313 : decode cX11_admit 313 = .ok (.aload_n 0, 1) := by decide +kernel
theorem dX11_admit_314 : decode cX11_admit 314 = .ok (.getfield 28, 3) := by decide +kernel
theorem dX11_admit_317 : decode cX11_admit 317 = .ok (.aload_n 0, 1) := by decide +kernel
theorem dX11_admit_318 : decode cX11_admit 318 = .ok (.getfield 142, 3) := by decide +kernel
theorem dX11_admit_321 : decode cX11_admit 321 = .ok (.iload_n 3, 1) := by decide +kernel
theorem dX11_admit_322 : decode cX11_admit 322 = .ok (.iastore, 1) := by decide +kernel
theorem dX11_admit_323 : decode cX11_admit 323 = .ok (.aload_n 0, 1) := by decide +kernel
theorem dX11_admit_324 : decode cX11_admit 324 = .ok (.getfield 31, 3) := by decide +kernel
theorem dX11_admit_327 : decode cX11_admit 327 = .ok (.aload_n 0, 1) := by decide +kernel
theorem dX11_admit_328 : decode cX11_admit 328 = .ok (.getfield 142, 3) := by decide +kernel
theorem dX11_admit_331 : decode cX11_admit 331 = .ok (.aload_n 0, 1) := by decide +kernel
theorem dX11_admit_332 : decode cX11_admit 332 = .ok (.getfield 180, 3) := by decide +kernel
theorem dX11_admit_335 : decode cX11_admit 335 = .ok (.iastore, 1) := by decide +kernel
theorem dX11_admit_336 : decode cX11_admit 336 = .ok (.aload_n 0, 1) := by decide +kernel
theorem dX11_admit_337 : decode cX11_admit 337 = .ok (.getfield 34, 3) := by decide +kernel
theorem dX11_admit_340 : decode cX11_admit 340 = .ok (.aload_n 0, 1) := by decide +kernel
theorem dX11_admit_341 : decode cX11_admit 341 = .ok (.getfield 142, 3) := by decide +kernel
theorem dX11_admit_344 : decode cX11_admit 344 = .ok (.iload_n 2, 1) := by decide +kernel
theorem dX11_admit_345 : decode cX11_admit 345 = .ok (.iastore, 1) := by decide +kernel
theorem dX11_admit_346 : decode cX11_admit 346 = .ok (.aload_n 0, 1) := by decide +kernel
theorem dX11_admit_347 : decode cX11_admit 347 = .ok (.getfield 43, 3) := by decide +kernel
theorem dX11_admit_350 : decode cX11_admit 350 = .ok (.aload_n 0, 1) := by decide +kernel
theorem dX11_admit_351 : decode cX11_admit 351 = .ok (.getfield 142, 3) := by decide +kernel
theorem dX11_admit_354 : decode cX11_admit 354 = .ok (.aload_n 0, 1) := by decide +kernel
theorem dX11_admit_355 : decode cX11_admit 355 = .ok (.getfield 145, 3) := by decide +kernel
theorem dX11_admit_358 : decode cX11_admit 358 = .ok (.iastore, 1) := by decide +kernel
theorem dX11_admit_359 : decode cX11_admit 359 = .ok (.aload_n 0, 1) := by decide +kernel
theorem dX11_admit_360 : decode cX11_admit 360 = .ok (.getfield 46, 3) := by decide +kernel
theorem dX11_admit_363 : decode cX11_admit 363 = .ok (.aload_n 0, 1) := by decide +kernel
theorem dX11_admit_364 : decode cX11_admit 364 = .ok (.getfield 142, 3) := by decide +kernel
theorem dX11_admit_367 : decode cX11_admit 367 = .ok (.aload_n 0, 1) := by decide +kernel
theorem dX11_admit_368 : decode cX11_admit 368 = .ok (.getfield 200, 3) := by decide +kernel
theorem dX11_admit_371 : decode cX11_admit 371 = .ok (.iastore, 1) := by decide +kernel
theorem dX11_admit_372 : decode cX11_admit 372 = .ok (.iconst 0, 1) := by decide +kernel
theorem dX11_admit_373 : decode cX11_admit 373 = .ok (.istore 6, 2) := by decide +kernel
theorem dX11_admit_375 : decode cX11_admit 375 = .ok (.iload 6, 2) := by decide +kernel
theorem dX11_admit_377 : decode cX11_admit 377 = .ok (.aload_n 0, 1) := by decide +kernel
theorem dX11_admit_378 : decode cX11_admit 378 = .ok (.getfield 200, 3) := by decide +kernel
theorem dX11_admit_381 : decode cX11_admit 381 = .ok (.if_icmp .ge 28, 3) := by decide +kernel
theorem dX11_admit_384 : decode cX11_admit 384 = .ok (.aload_n 0, 1) := by decide +kernel
theorem dX11_admit_385 : decode cX11_admit 385 = .ok (.getfield 50, 3) := by decide +kernel
theorem dX11_admit_388 : decode cX11_admit 388 = .ok (.aload_n 0, 1) := by decide +kernel
theorem dX11_admit_389 : decode cX11_admit 389 = .ok (.getfield 145, 3) := by decide +kernel
theorem dX11_admit_392 : decode cX11_admit 392 = .ok (.iload 6, 2) := by decide +kernel
theorem dX11_admit_394 : decode cX11_admit 394 = .ok (.iadd, 1) := by decide +kernel
theorem dX11_admit_395 : decode cX11_admit 395 = .ok (.aload_n 0, 1) := by decide +kernel
theorem dX11_admit_396 : decode cX11_admit 396 = .ok (.getfield 60, 3) := by decide +kernel
theorem dX11_admit_399 : decode cX11_admit 399 = .ok (.iload 6, 2) := by decide +kernel
theorem dX11_admit_401 : decode cX11_admit 401 = .ok (.caload, 1) := by decide +kernel
theorem dX11_admit_402 : decode cX11_admit 402 = .ok (.castore, 1) := by decide +kernel
theorem dX11_admit_403 : decode cX11_admit 403 = .ok (.iinc 6 1, 3) := by decide +kernel
theorem dX11_admit_406 : decode cX11_admit 406 = .ok (.goto (-31), 3) := by decide +kernel
theorem dX11_admit_409 : decode cX11_admit 409 = .ok (.aload_n 0, 1) := by decide +kernel
theorem dX11_admit_410 : decode cX11_admit 410 = .ok (.dup, 1) := by decide +kernel
theorem dX11_admit_411 : decode cX11_admit 411 = .ok (.getfield 145, 3) := by decide +kernel
theorem dX11_admit_414 : decode cX11_admit 414 = .ok (.aload_n 0, 1) := by decide +kernel
theorem dX11_admit_415 : decode cX11_admit 415 = .ok (.getfield 200, 3) := by decide +kernel
theorem dX11_admit_418 : decode cX11_admit 418 = .ok (.iadd, 1) := by decide +kernel
theorem dX11_admit_419 : decode cX11_admit 419 = .ok (.putfield 145, 3) := by decide +kernel
theorem dX11_admit_422 : decode cX11_admit 422 = .ok (.aload_n 0, 1) := by decide +kernel
theorem dX11_admit_423 : decode cX11_admit 423 = .ok (.dup, 1) := by decide +kernel
theorem dX11_admit_424 : decode cX11_admit 424 = .ok (.getfield 142, 3) := by decide +kernel
theorem dX11_admit_427 : decode cX11_admit 427 = .ok (.iconst 1, 1) := by decide +kernel
theorem dX11_admit_428 : decode cX11_admit 428 = .ok (.iadd, 1) := by decide +kernel
theorem dX11_admit_429 : decode cX11_admit 429 = .ok (.putfield 142, 3) := by decide +kernel
theorem dX11_admit_432 : decode cX11_admit 432 = .ok (.aload_n 0, 1) := by decide +kernel
theorem dX11_admit_433 : decode cX11_admit 433 = .ok (.getfield 37, 3) := by decide +kernel
theorem dX11_admit_436 : decode cX11_admit 436 = .ok (.iload_n 2, 1) := by decide +kernel
theorem dX11_admit_437 : decode cX11_admit 437 = .ok (.dup2, 1) := by decide +kernel
theorem dX11_admit_438 : decode cX11_admit 438 = .ok (.iaload, 1) := by decide +kernel
theorem dX11_admit_439 : decode cX11_admit 439 = .ok (.iconst 1, 1) := by decide +kernel
theorem dX11_admit_440 : decode cX11_admit 440 = .ok (.iadd, 1) := by decide +kernel
theorem dX11_admit_441 : decode cX11_admit 441 = .ok (.iastore, 1) := by decide +kernel
theorem dX11_admit_442 : decode cX11_admit 442 = .ok (.aload_n 0, 1) := by decide +kernel
theorem dX11_admit_443 : decode cX11_admit 443 = .ok (.iconst 0, 1) := by decide +kernel
theorem dX11_admit_444 : decode cX11_admit 444 = .ok (.putfield 180, 3) := by decide +kernel
theorem dX11_admit_447 : decode cX11_admit 447 = .ok (.iload 4, 2) := by decide +kernel
theorem dX11_admit_449 : decode cX11_admit 449 = .ok (.bipush 16, 2) := by decide +kernel
theorem dX11_admit_451 : decode cX11_admit 451 = .ok (.iand, 1) := by decide +kernel
theorem dX11_admit_452 : decode cX11_admit 452 = .ok (.ifCond .eq 5, 3) := by decide +kernel
theorem dX11_admit_455 : decode cX11_admit 455 = .ok (.iconst 0, 1) := by decide +kernel
theorem dX11_admit_456 : decode cX11_admit 456 = .ok (.ireturn, 1) := by decide +kernel
theorem dX11_admit_457 : decode cX11_admit 457 = .ok (.aload_n 0, 1) := by decide +kernel
theorem dX11_admit_458 : decode cX11_admit 458 = .ok (.iload_n 1, 1) := by decide +kernel
theorem dX11_admit_459 : decode cX11_admit 459 = .ok (.bipush 28, 2) := by decide +kernel
theorem dX11_admit_461 : decode cX11_admit 461 = .ok (.iadd, 1) := by decide +kernel
theorem dX11_admit_462 : decode cX11_admit 462 = .ok (.invokevirtual 96, 3) := by decide +kernel
theorem dX11_admit_465 : decode cX11_admit 465 = .ok (.istore 6, 2) := by decide +kernel
theorem dX11_admit_467 : decode cX11_admit 467 = .ok (.iload 6, 2) := by decide +kernel
theorem dX11_admit_469 : decode cX11_admit 469 = .ok (.ifCond .ne 17, 3) := by decide +kernel
theorem dX11_admit_472 : decode cX11_admit 472 = .ok (.aload_n 0, 1) := by decide +kernel
theorem dX11_admit_473 : decode cX11_admit 473 = .ok (.iload_n 1, 1) := by decide +kernel
theorem dX11_admit_474 : decode cX11_admit 474 = .ok (.invokevirtual 132, 3) := by decide +kernel
theorem dX11_admit_477 : decode cX11_admit 477 = .ok (.ifCond .ne 7, 3) := by decide +kernel
theorem dX11_admit_480 : decode cX11_admit 480 = .ok (.iconst 0, 1) := by decide +kernel
theorem dX11_admit_481 : decode cX11_admit 481 = .ok (.goto 4, 3) := by decide +kernel
theorem dX11_admit_484 : decode cX11_admit 484 = .ok (.iconst 3, 1) := by decide +kernel
theorem dX11_admit_485 : decode cX11_admit 485 = .ok (.ireturn, 1) := by decide +kernel
theorem dX11_admit_486 : decode cX11_admit 486 = .ok (.iload 6, 2) := by decide +kernel
theorem dX11_admit_488 : decode cX11_admit 488 = .ok (.ifCond .le 39, 3) := by decide +kernel
theorem dX11_admit_491 : decode cX11_admit 491 = .ok (.aload_n 0, 1) := by decide +kernel
theorem dX11_admit_492 : decode cX11_admit 492 = .ok (.aload_n 0, 1) := by decide +kernel
theorem dX11_admit_493 : decode cX11_admit 493 = .ok (.iload_n 1, 1) := by decide +kernel
theorem dX11_admit_494 : decode cX11_admit 494 = .ok (.invokevirtual 132, 3) := by decide +kernel
theorem dX11_admit_497 : decode cX11_admit 497 = .ok (.invokevirtual 177, 3) := by decide +kernel
theorem dX11_admit_500 : decode cX11_admit 500 = .ok (.ifCond .eq 27, 3) := by decide +kernel
theorem dX11_admit_503 : decode cX11_admit 503 = .ok (.aload_n 0, 1) := by decide +kernel
theorem dX11_admit_504 : decode cX11_admit 504 = .ok (.getfield 129, 3) := by decide +kernel
theorem dX11_admit_507 : decode cX11_admit 507 = .ok (.iload 6, 2) := by decide +kernel
theorem dX11_admit_509 : decode cX11_admit 509 = .ok (.sipush 512, 3) := by decide +kernel
theorem dX11_admit_512 : decode cX11_admit 512 = .ok (.aload_n 0, 1) := by decide +kernel
theorem dX11_admit_513 : decode cX11_admit 513 = .ok (.getfield 114, 3) := by decide +kernel
theorem dX11_admit_516 : decode cX11_admit 516 = .ok (.imul, 1) := by decide +kernel
theorem dX11_admit_517 : decode cX11_admit 517 = .ok (.invokestatic 238, 3) := by decide +kernel
theorem dX11_admit_520 : decode cX11_admit 520 = .ok (.if_icmp .ne 7, 3) := by decide +kernel
theorem dX11_admit_523 : decode cX11_admit 523 = .ok (.iconst 0, 1) := by decide +kernel
theorem dX11_admit_524 : decode cX11_admit 524 = .ok (.goto 4, 3) := by decide +kernel
theorem dX11_admit_527 : decode cX11_admit 527 = .ok (.iconst 3, 1) := by decide +kernel
theorem dX11_admit_528 : decode cX11_admit 528 = .ok (.ireturn, 1) := by decide +kernel
theorem dX11_feed_0 : decode cX11_feed 0 = .ok (.aload_n 0, 1) := by decide +kernel
theorem dX11_feed_1 : decode cX11_feed 1 = .ok (.iconst 0, 1) := by decide +kernel
theorem dX11_feed_2 : decode cX11_feed 2 = .ok (.putfield 76, 3) := by decide +kernel
theorem dX11_feed_5 : decode cX11_feed 5 = .ok (.iconst 0, 1) := by decide +kernel
theorem dX11_feed_6 : decode cX11_feed 6 = .ok (.istore 6, 2) := by decide +kernel
theorem dX11_feed_8 : decode cX11_feed 8 = .ok (.iload 6, 2) := by decide +kernel
theorem dX11_feed_10 : decode cX11_feed 10 = .ok (.bipush 20, 2) := by decide +kernel
theorem dX11_feed_12 : decode cX11_feed 12 = .ok (.if_icmp .ge 78, 3) := by decide +kernel
theorem dX11_feed_15 : decode cX11_feed 15 = .ok (.iload 6, 2) := by decide +kernel
theorem dX11_feed_17 : decode cX11_feed 17 = .ok (.iconst 4, 1) := by decide +kernel
theorem dX11_feed_18 : decode cX11_feed 18 = .ok (.if_icmp .ge 7, 3) := by decide +kernel
theorem dX11_feed_21 : decode cX11_feed 21 = .ok (.iload_n 1, 1) := by decide +kernel
theorem dX11_feed_22 : decode cX11_feed 22 = .ok (.goto 39, 3) := by decide +kernel
theorem dX11_feed_25 : decode cX11_feed 25 = .ok (.iload 6, 2) := by decide +kernel
theorem dX11_feed_27 : decode cX11_feed 27 = .ok (.bipush 8, 2) := by decide +kernel
theorem dX11_feed_29 : decode cX11_feed 29 = .ok (.if_icmp .ge 7, 3) := by decide +kernel
theorem dX11_feed_32 : decode cX11_feed 32 = .ok (.iload_n 2, 1) := by decide +kernel
theorem dX11_feed_33 : decode cX11_feed 33 = .ok (.goto 28, 3) := by decide +kernel
theorem dX11_feed_36 : decode cX11_feed 36 = .ok (.iload 6, 2) := by decide +kernel
theorem dX11_feed_38 : decode cX11_feed 38 = .ok (.bipush 12, 2) := by decide +kernel
theorem dX11_feed_40 : decode cX11_feed 40 = .ok (.if_icmp .ge 7, 3) := by decide +kernel
theorem dX11_feed_43 : decode cX11_feed 43 = .ok (.iload_n 3, 1) := by decide +kernel
theorem dX11_feed_44 : decode cX11_feed 44 = .ok (.goto 17, 3) := by decide +kernel
theorem dX11_feed_47 : decode cX11_feed 47 = .ok (.iload 6, 2) := by decide +kernel
theorem dX11_feed_49 : decode cX11_feed 49 = .ok (.bipush 16, 2) := by decide +kernel
theorem dX11_feed_51 : decode cX11_feed 51 = .ok (.if_icmp .ge 8, 3) := by decide +kernel
theorem dX11_feed_54 : decode cX11_feed 54 = .ok (.iload 4, 2) := by decide +kernel
theorem dX11_feed_56 : decode cX11_feed 56 = .ok (.goto 5, 3) := by decide +kernel
theorem dX11_feed_59 : decode cX11_feed 59 = .ok (.iload 5, 2) := by decide +kernel
theorem dX11_feed_61 : decode cX11_feed 61 = .ok (.istore 7, 2) := by decide +kernel
theorem dX11_feed_63 : decode cX11_feed 63 = .ok (.aload_n 0, 1) := by decide +kernel
theorem dX11_feed_64 : decode cX11_feed 64 = .ok (.getfield 17, 3) := by decide +kernel
theorem dX11_feed_67 : decode cX11_feed 67 = .ok (.iload 6, 2) := by decide +kernel
theorem dX11_feed_69 : decode cX11_feed 69 = .ok (.iload 7, 2) := by decide +kernel
theorem dX11_feed_71 : decode cX11_feed 71 = .ok (.bipush 24, 2) := by decide +kernel
theorem dX11_feed_73 : decode cX11_feed 73 = .ok (.bipush 8, 2) := by decide +kernel
theorem dX11_feed_75 : decode cX11_feed 75 = .ok (.iload 6, 2) := by decide +kernel
theorem dX11_feed_77 : decode cX11_feed 77 = .ok (.iconst 4, 1) := by decide +kernel
theorem dX11_feed_78 : decode cX11_feed 78 = .ok (.irem, 1) := by decide +kernel
theorem dX11_feed_79 : decode cX11_feed 79 = .ok (.imul, 1) := by decide +kernel
theorem dX11_feed_80 : decode cX11_feed 80 = .ok (.isub, 1) := by decide +kernel
theorem dX11_feed_81 : decode cX11_feed 81 = .ok (.ishr, 1) := by decide +kernel
theorem dX11_feed_82 : decode cX11_feed 82 = .ok (.i2b, 1) := by decide +kernel
theorem dX11_feed_83 : decode cX11_feed 83 = .ok (.bastore, 1) := by decide +kernel
theorem dX11_feed_84 : decode cX11_feed 84 = .ok (.iinc 6 1, 3) := by decide +kernel
theorem dX11_feed_87 : decode cX11_feed 87 = .ok (.goto (-79), 3) := by decide +kernel
theorem dX11_feed_90 : decode cX11_feed 90 = .ok (.aload_n 0, 1) := by decide +kernel
theorem dX11_feed_91 : decode cX11_feed 91 = .ok (.iconst 1, 1) := by decide +kernel
theorem dX11_feed_92 : decode cX11_feed 92 = .ok (.putfield 269, 3) := by decide +kernel
theorem dX11_feed_95 : decode cX11_feed 95 = .ok (.return_, 1) := by decide +kernel
theorem dX11_end_0 : decode cX11_end 0 = .ok (.aload_n 0, 1) := by decide +kernel
theorem dX11_end_1 : decode cX11_end 1 = .ok (.iconst 0, 1) := by decide +kernel
theorem dX11_end_2 : decode cX11_end 2 = .ok (.putfield 76, 3) := by decide +kernel
theorem dX11_end_5 : decode cX11_end 5 = .ok (.iload_n 1, 1) := by decide +kernel
theorem dX11_end_6 : decode cX11_end 6 = .ok (.ifCond .lt 21, 3) := by decide +kernel
theorem dX11_end_9 : decode cX11_end 9 = .ok (.iload_n 1, 1) := by decide +kernel
theorem dX11_end_10 : decode cX11_end 10 = .ok (.bipush 20, 2) := by decide +kernel
theorem dX11_end_12 : decode cX11_end 12 = .ok (.if_icmp .gt 15, 3) := by decide +kernel
theorem dX11_end_15 : decode cX11_end 15 = .ok (.aload_n 0, 1) := by decide +kernel
theorem dX11_end_16 : decode cX11_end 16 = .ok (.getfield 272, 3) := by decide +kernel
theorem dX11_end_19 : decode cX11_end 19 = .ok (.iload_n 1, 1) := by decide +kernel
theorem dX11_end_20 : decode cX11_end 20 = .ok (.iadd, 1) := by decide +kernel
theorem dX11_end_21 : decode cX11_end 21 = .ok (.sipush 4096, 3) := by decide +kernel
theorem dX11_end_24 : decode cX11_end 24 = .ok (.if_icmp .le 5, 3) := by decide +kernel
theorem dX11_end_27 : decode cX11_end 27 = .ok (.iconst (-1), 1) := by decide +kernel
theorem dX11_end_28 : decode cX11_end 28 = .ok (.ireturn, 1) := by decide +kernel
theorem dX11_end_29 : decode cX11_end 29 = .ok (.iconst 0, 1) := by decide +kernel
theorem dX11_end_30 : decode cX11_end 30 = .ok (.istore_n 2, 1) := by decide +kernel
theorem dX11_end_31 : decode cX11_end 31 = .ok (.iload_n 2, 1) := by decide +kernel
theorem dX11_end_32 : decode cX11_end 32 = .ok (.iload_n 1, 1) := by decide +kernel
theorem dX11_end_33 : decode cX11_end 33 = .ok (.if_icmp .ge 45, 3) := by decide +kernel
theorem dX11_end_36 : decode cX11_end 36 = .ok (.aload_n 0, 1) := by decide +kernel
theorem dX11_end_37 : decode cX11_end 37 = .ok (.getfield 14, 3) := by decide +kernel
theorem dX11_end_40 : decode cX11_end 40 = .ok (.aload_n 0, 1) := by decide +kernel
theorem dX11_end_41 : decode cX11_end 41 = .ok (.getfield 272, 3) := by decide +kernel
theorem dX11_end_44 : decode cX11_end 44 = .ok (.aload_n 0, 1) := by decide +kernel
theorem dX11_end_45 : decode cX11_end 45 = .ok (.getfield 269, 3) := by decide +kernel
theorem dX11_end_48 : decode cX11_end 48 = .ok (.ifCond .eq 12, 3) := by decide +kernel
theorem dX11_end_51 : decode cX11_end 51 = .ok (.aload_n 0, 1) := by decide +kernel
theorem dX11_end_52 : decode cX11_end 52 = .ok (.getfield 17, 3) := by decide +kernel
theorem dX11_end_55 : decode cX11_end 55 = .ok (.iload_n 2, 1) := by decide +kernel
theorem dX11_end_56 : decode cX11_end 56 = .ok (.baload, 1) := by decide +kernel
theorem dX11_end_57 : decode cX11_end 57 = .ok (.goto 4, 3) := by decide +kernel
theorem dX11_end_60 : decode cX11_end 60 = .ok (.iconst 0, 1) := by decide +kernel
theorem dX11_end_61 : decode cX11_end 61 = .ok (.bastore, 1) := by decide +kernel
theorem dX11_end_62 : decode cX11_end 62 = .ok (.aload_n 0, 1) := by decide +kernel
theorem dX11_end_63 : decode cX11_end 63 = .ok (.dup, 1) := by decide +kernel
theorem dX11_end_64 : decode cX11_end 64 = .ok (.getfield 272, 3) := by decide +kernel
theorem dX11_end_67 : decode cX11_end 67 = .ok (.iconst 1, 1) := by decide +kernel
theorem dX11_end_68 : decode cX11_end 68 = .ok (.iadd, 1) := by decide +kernel
theorem dX11_end_69 : decode cX11_end 69 = .ok (.putfield 272, 3) := by decide +kernel
theorem dX11_end_72 : decode cX11_end 72 = .ok (.iinc 2 1, 3) := by decide +kernel
theorem dX11_end_75 : decode cX11_end 75 = .ok (.goto (-44), 3) := by decide +kernel
theorem dX11_end_78 : decode cX11_end 78 = .ok (.aload_n 0, 1) := by decide +kernel
theorem dX11_end_79 : decode cX11_end 79 = .ok (.iconst 0, 1) := by decide +kernel
theorem dX11_end_80 : decode cX11_end 80 = .ok (.putfield 269, 3) := by decide +kernel
theorem dX11_end_83 : decode cX11_end 83 = .ok (.aload_n 0, 1) := by decide +kernel
theorem dX11_end_84 : decode cX11_end 84 = .ok (.getfield 272, 3) := by decide +kernel
theorem dX11_end_87 : decode cX11_end 87 = .ok (.ireturn, 1) := by decide +kernel
theorem dX11_clear_0 : decode cX11_clear 0 = .ok (.aload_n 0, 1) := by decide +kernel
theorem dX11_clear_1 : decode cX11_clear 1 = .ok (.iconst 0, 1) := by decide +kernel
theorem dX11_clear_2 : decode cX11_clear 2 = .ok (.putfield 76, 3) := by decide +kernel
theorem dX11_clear_5 : decode cX11_clear 5 = .ok (.aload_n 0, 1) := by decide +kernel
theorem dX11_clear_6 : decode cX11_clear 6 = .ok (.iconst 0, 1) := by decide +kernel
theorem dX11_clear_7 : decode cX11_clear 7 = .ok (.putfield 272, 3) := by decide +kernel
theorem dX11_clear_10 : decode cX11_clear 10 = .ok (.return_, 1) := by decide +kernel
theorem dX11_taken_0 : decode cX11_taken 0 = .ok (.aload_n 0, 1) := by decide +kernel
theorem dX11_taken_1 : decode cX11_taken 1 = .ok (.getfield 14, 3) := by decide +kernel
theorem dX11_taken_4 : decode cX11_taken 4 = .ok (.iload_n 1, 1) := by decide +kernel
theorem dX11_taken_5 : decode cX11_taken 5 = .ok (.baload, 1) := by decide +kernel
theorem dX11_taken_6 : decode cX11_taken 6 = .ok (.sipush 255, 3) := by decide +kernel
theorem dX11_taken_9 : decode cX11_taken 9 = .ok (.iand, 1) := by decide +kernel
theorem dX11_taken_10 : decode cX11_taken 10 = .ok (.ireturn, 1) := by decide +kernel
theorem dX11_fault_0 : decode cX11_fault 0 = .ok (.aload_n 0, 1) := by decide +kernel
theorem dX11_fault_1 : decode cX11_fault 1 = .ok (.iconst 0, 1) := by decide +kernel
theorem dX11_fault_2 : decode cX11_fault 2 = .ok (.putfield 76, 3) := by decide +kernel
theorem dX11_fault_5 : decode cX11_fault 5 = .ok (.aload_n 0, 1) := by decide +kernel
theorem dX11_fault_6 : decode cX11_fault 6 = .ok (.invokevirtual 275, 3) := by decide +kernel
theorem dX11_fault_9 : decode cX11_fault 9 = .ok (.aload_n 0, 1) := by decide +kernel
theorem dX11_fault_10 : decode cX11_fault 10 = .ok (.getfield 158, 3) := by decide +kernel
theorem dX11_fault_13 : decode cX11_fault 13 = .ok (.ireturn, 1) := by decide +kernel
theorem dX11_changed_0 : decode cX11_changed 0 = .ok (.aload_n 0, 1) := by decide +kernel
theorem dX11_changed_1 : decode cX11_changed 1 = .ok (.iconst 0, 1) := by decide +kernel
theorem dX11_changed_2 : decode cX11_changed 2 = .ok (.putfield 138, 3) := by decide +kernel
theorem dX11_changed_5 : decode cX11_changed 5 = .ok (.return_, 1) := by decide +kernel
theorem dX11_poke_0 : decode cX11_poke 0 = .ok (.aload_n 0, 1) := by decide +kernel
theorem dX11_poke_1 : decode cX11_poke 1 = .ok (.iconst 0, 1) := by decide +kernel
theorem dX11_poke_2 : decode cX11_poke 2 = .ok (.putfield 76, 3) := by decide +kernel
theorem dX11_poke_5 : decode cX11_poke 5 = .ok (.iload_n 1, 1) := by decide +kernel
theorem dX11_poke_6 : decode cX11_poke 6 = .ok (.ifCond .lt 22, 3) := by decide +kernel
theorem dX11_poke_9 : decode cX11_poke 9 = .ok (.iload_n 1, 1) := by decide +kernel
theorem dX11_poke_10 : decode cX11_poke 10 = .ok (.aload_n 0, 1) := by decide +kernel
theorem dX11_poke_11 : decode cX11_poke 11 = .ok (.getfield 72, 3) := by decide +kernel
theorem dX11_poke_14 : decode cX11_poke 14 = .ok (.if_icmp .ge 14, 3) := by decide +kernel
theorem dX11_poke_17 : decode cX11_poke 17 = .ok (.iload_n 2, 1) := by decide +kernel
theorem dX11_poke_18 : decode cX11_poke 18 = .ok (.ifCond .lt 10, 3) := by decide +kernel
theorem dX11_poke_21 : decode cX11_poke 21 = .ok (.iload_n 2, 1) := by decide +kernel
theorem dX11_poke_22 : decode cX11_poke 22 = .ok (.sipush 511, 3) := by decide +kernel
theorem dX11_poke_25 : decode cX11_poke 25 = .ok (.if_icmp .le 5, 3) := by decide +kernel
theorem dX11_poke_28 : decode cX11_poke 28 = .ok (.iconst 0, 1) := by decide +kernel
theorem dX11_poke_29 : decode cX11_poke 29 = .ok (.ireturn, 1) := by decide +kernel
theorem dX11_poke_30 : decode cX11_poke 30 = .ok (.aload_n 0, 1) := by decide +kernel
theorem dX11_poke_31 : decode cX11_poke 31 = .ok (.getfield 8, 3) := by decide +kernel
theorem dX11_poke_34 : decode cX11_poke 34 = .ok (.sipush 512, 3) := by decide +kernel
theorem dX11_poke_37 : decode cX11_poke 37 = .ok (.iload_n 1, 1) := by decide +kernel
theorem dX11_poke_38 : decode cX11_poke 38 = .ok (.imul, 1) := by decide +kernel
theorem dX11_poke_39 : decode cX11_poke 39 = .ok (.iload_n 2, 1) := by decide +kernel
theorem dX11_poke_40 : decode cX11_poke 40 = .ok (.iadd, 1) := by decide +kernel
theorem dX11_poke_41 : decode cX11_poke 41 = .ok (.iload_n 3, 1) := by decide +kernel
theorem dX11_poke_42 : decode cX11_poke 42 = .ok (.i2b, 1) := by decide +kernel
theorem dX11_poke_43 : decode cX11_poke 43 = .ok (.bastore, 1) := by decide +kernel
theorem dX11_poke_44 : decode cX11_poke 44 = .ok (.aload_n 0, 1) := by decide +kernel
theorem dX11_poke_45 : decode cX11_poke 45 = .ok (.invokevirtual 278, 3) := by decide +kernel
theorem dX11_poke_48 : decode cX11_poke 48 = .ok (.aload_n 0, 1) := by decide +kernel
theorem dX11_poke_49 : decode cX11_poke 49 = .ok (.iconst 0, 1) := by decide +kernel
theorem dX11_poke_50 : decode cX11_poke 50 = .ok (.putfield 281, 3) := by decide +kernel
theorem dX11_poke_53 : decode cX11_poke 53 = .ok (.iconst 1, 1) := by decide +kernel
theorem dX11_poke_54 : decode cX11_poke 54 = .ok (.ireturn, 1) := by decide +kernel
theorem dX11_byteAt_0 : decode cX11_byteAt 0 = .ok (.aload_n 0, 1) := by decide +kernel
theorem dX11_byteAt_1 : decode cX11_byteAt 1 = .ok (.iconst 0, 1) := by decide +kernel
theorem dX11_byteAt_2 : decode cX11_byteAt 2 = .ok (.putfield 76, 3) := by decide +kernel
theorem dX11_byteAt_5 : decode cX11_byteAt 5 = .ok (.iload_n 1, 1) := by decide +kernel
theorem dX11_byteAt_6 : decode cX11_byteAt 6 = .ok (.ifCond .lt 22, 3) := by decide +kernel
theorem dX11_byteAt_9 : decode cX11_byteAt 9 = .ok (.iload_n 1, 1) := by decide +kernel
theorem dX11_byteAt_10 : decode cX11_byteAt 10 = .ok (.aload_n 0, 1) := by decide +kernel
theorem dX11_byteAt_11 : decode cX11_byteAt 11 = .ok (.getfield 72, 3) := by decide +kernel
theorem dX11_byteAt_14 : decode cX11_byteAt 14 = .ok (.if_icmp .ge 14, 3) := by decide +kernel
theorem dX11_byteAt_17 : decode cX11_byteAt 17 = .ok (.iload_n 2, 1) := by decide +kernel
theorem dX11_byteAt_18 : decode cX11_byteAt 18 = .ok (.ifCond .lt 10, 3) := by decide +kernel
theorem dX11_byteAt_21 : decode cX11_byteAt 21 = .ok (.iload_n 2, 1) := by decide +kernel
theorem dX11_byteAt_22 : decode cX11_byteAt 22 = .ok (.sipush 511, 3) := by decide +kernel
theorem dX11_byteAt_25 : decode cX11_byteAt 25 = .ok (.if_icmp .le 5, 3) := by decide +kernel
theorem dX11_byteAt_28 : decode cX11_byteAt 28 = .ok (.iconst (-1), 1) := by decide +kernel
theorem dX11_byteAt_29 : decode cX11_byteAt 29 = .ok (.ireturn, 1) := by decide +kernel
theorem dX11_byteAt_30 : decode cX11_byteAt 30 = .ok (.aload_n 0, 1) := by decide +kernel
theorem dX11_byteAt_31 : decode cX11_byteAt 31 = .ok (.invokevirtual 275, 3) := by decide +kernel
theorem dX11_byteAt_34 : decode cX11_byteAt 34 = .ok (.aload_n 0, 1) := by decide +kernel
theorem dX11_byteAt_35 : decode cX11_byteAt 35 = .ok (.getfield 158, 3) := by decide +kernel
theorem dX11_byteAt_38 : decode cX11_byteAt 38 = .ok (.iconst 1, 1) := by decide +kernel
theorem dX11_byteAt_39 : decode cX11_byteAt 39 = .ok (.if_icmp .eq 43, 3) := by decide +kernel
theorem dX11_byteAt_42 : decode cX11_byteAt 42 = .ok (.iload_n 1, 1) := by decide +kernel
theorem dX11_byteAt_43 : decode cX11_byteAt 43 = .ok (.aload_n 0, 1) := by decide +kernel
theorem dX11_byteAt_44 : decode cX11_byteAt 44 = .ok (.getfield 111, 3) := by decide +kernel
theorem dX11_byteAt_47 : decode cX11_byteAt 47 = .ok (.if_icmp .lt 35, 3) := by decide +kernel
theorem dX11_byteAt_50 : decode cX11_byteAt 50 = .ok (.iconst 2, 1) := by decide +kernel
theorem dX11_byteAt_51 : decode cX11_byteAt 51 = .ok (.iload_n 1, 1) := by decide +kernel
theorem dX11_byteAt_52 : decode cX11_byteAt 52 = .ok (.aload_n 0, 1) := by decide +kernel
theorem dX11_byteAt_53 : decode cX11_byteAt 53 = .ok (.getfield 111, 3) := by decide +kernel
theorem dX11_byteAt_56 : decode cX11_byteAt 56 = .ok (.isub, 1) := by decide +kernel
theorem dX11_byteAt_57 : decode cX11_byteAt 57 = .ok (.aload_n 0, 1) := by decide +kernel
theorem dX11_byteAt_58 : decode cX11_byteAt 58 = .ok (.getfield 114, 3) := by decide +kernel
theorem dX11_byteAt_61 : decode cX11_byteAt 61 = .ok (.idiv, 1) := by decide +kernel
theorem dX11_byteAt_62 : decode cX11_byteAt 62 = .ok (.iadd, 1) := by decide +kernel
theorem dX11_byteAt_63 : decode cX11_byteAt 63 = .ok (.istore_n 3, 1) := by decide +kernel
theorem dX11_byteAt_64 : decode cX11_byteAt 64 = .ok (.aload_n 0, 1) := by decide +kernel
theorem dX11_byteAt_65 : decode cX11_byteAt 65 = .ok (.iload_n 3, 1) := by decide +kernel
theorem dX11_byteAt_66 : decode cX11_byteAt 66 = .ok (.invokevirtual 121, 3) := by decide +kernel
theorem dX11_byteAt_69 : decode cX11_byteAt 69 = .ok (.ifCond .eq 11, 3) := by decide +kernel
theorem dX11_byteAt_72 : decode cX11_byteAt 72 = .ok (.aload_n 0, 1) := by decide +kernel
theorem dX11_byteAt_73 : decode cX11_byteAt 73 = .ok (.iload_n 3, 1) := by decide +kernel
theorem dX11_byteAt_74 : decode cX11_byteAt 74 = .ok (.invokevirtual 125, 3) := by decide +kernel
theorem dX11_byteAt_77 : decode cX11_byteAt 77 = .ok (.ifCond .ne 5, 3) := by decide +kernel
theorem dX11_byteAt_80 : decode cX11_byteAt 80 = .ok (.iconst (-1), 1) := by decide +kernel
theorem dX11_byteAt_81 : decode cX11_byteAt 81 = .ok (.ireturn, 1) := by decide +kernel
theorem dX11_byteAt_82 : decode cX11_byteAt 82 = .ok (.aload_n 0, 1) := by decide +kernel
theorem dX11_byteAt_83 : decode cX11_byteAt 83 = .ok (.sipush 512, 3) := by decide +kernel
theorem dX11_byteAt_86 : decode cX11_byteAt 86 = .ok (.iload_n 1, 1) := by decide +kernel
theorem dX11_byteAt_87 : decode cX11_byteAt 87 = .ok (.imul, 1) := by decide +kernel
theorem dX11_byteAt_88 : decode cX11_byteAt 88 = .ok (.iload_n 2, 1) := by decide +kernel
theorem dX11_byteAt_89 : decode cX11_byteAt 89 = .ok (.iadd, 1) := by decide +kernel
theorem dX11_byteAt_90 : decode cX11_byteAt 90 = .ok (.invokevirtual 79, 3) := by decide +kernel
theorem dX11_byteAt_93 : decode cX11_byteAt 93 = .ok (.ireturn, 1) := by decide +kernel
theorem dX11_format_0 : decode cX11_format 0 = .ok (.aload_n 0, 1) := by decide +kernel
theorem dX11_format_1 : decode cX11_format 1 = .ok (.iconst 0, 1) := by decide +kernel
theorem dX11_format_2 : decode cX11_format 2 = .ok (.putfield 76, 3) := by decide +kernel
theorem dX11_format_5 : decode cX11_format 5 = .ok (.aload_n 0, 1) := by decide +kernel
theorem dX11_format_6 : decode cX11_format 6 = .ok (.getfield 272, 3) := by decide +kernel
theorem dX11_format_9 : decode cX11_format 9 = .ok (.istore 5, 2) := by decide +kernel
theorem dX11_format_11 : decode cX11_format 11 = .ok (.aload_n 0, 1) := by decide +kernel
theorem dX11_format_12 : decode cX11_format 12 = .ok (.iconst 0, 1) := by decide +kernel
theorem dX11_format_13 : decode cX11_format 13 = .ok (.putfield 272, 3) := by decide +kernel
theorem dX11_format_16 : decode cX11_format 16 = .ok (.iload_n 1, 1) := by decide +kernel
theorem dX11_format_17 : decode cX11_format 17 = .ok (.iconst 2, 1) := by decide +kernel
theorem dX11_format_18 : decode cX11_format 18 = .ok (.if_icmp .eq 14, 3) := by decide +kernel
theorem dX11_format_21 : decode cX11_format 21 = .ok (.iload_n 1, 1) := by decide +kernel
theorem dX11_format_22 : decode cX11_format 22 = .ok (.iconst 4, 1) := by decide +kernel
theorem dX11_format_23 : decode cX11_format 23 = .ok (.if_icmp .eq 9, 3) := by decide +kernel
theorem dX11_format_26 : decode cX11_format 26 = .ok (.iload_n 1, 1) := by decide +kernel
theorem dX11_format_27 : decode cX11_format 27 = .ok (.bipush 8, 2) := by decide +kernel
theorem dX11_format_29 : decode cX11_format 29 = .ok (.if_icmp .ne 36, 3) := by decide +kernel
theorem dX11_format_32 : decode cX11_format 32 = .ok (.iload_n 2, 1) := by decide +kernel
theorem dX11_format_33 : decode cX11_format 33 = .ok (.bipush 8, 2) := by decide +kernel
theorem dX11_format_35 : decode cX11_format 35 = .ok (.if_icmp .lt 30, 3) := by decide +kernel
theorem dX11_format_38 : decode cX11_format 38 = .ok (.iload_n 2, 1) := by decide +kernel
theorem dX11_format_39 : decode cX11_format 39 = .ok (.bipush 64, 2) := by decide +kernel
theorem dX11_format_41 : decode cX11_format 41 = .ok (.if_icmp .gt 24, 3) := by decide +kernel
theorem dX11_format_44 : decode cX11_format 44 = .ok (.iload_n 3, 1) := by decide +kernel
theorem dX11_format_45 : decode cX11_format 45 = .ok (.iconst 1, 1) := by decide +kernel
theorem dX11_format_46 : decode cX11_format 46 = .ok (.if_icmp .eq 8, 3) := by decide +kernel
theorem dX11_format_49 : decode cX11_format 49 = .ok (.iload_n 3, 1) := by decide +kernel
theorem dX11_format_50 : decode cX11_format 50 = .ok (.iconst 2, 1) := by decide +kernel
theorem dX11_format_51 : decode cX11_format 51 = .ok (.if_icmp .ne 14, 3) := by decide +kernel
theorem dX11_format_54 : decode cX11_format 54 = .ok (.iload 5, 2) := by decide +kernel
theorem dX11_format_56 : decode cX11_format 56 = .ok (.bipush 11, 2) := by decide +kernel
theorem dX11_format_58 : decode cX11_format 58 = .ok (.if_icmp .gt 7, 3) := by decide +kernel
theorem dX11_format_61 : decode cX11_format 61 = .ok (.iconst 1, 1) := by decide +kernel
theorem dX11_format_62 : decode cX11_format 62 = .ok (.goto 4, 3) := by decide +kernel
theorem dX11_format_65 : decode cX11_format 65 = .ok (.iconst 0, 1) := by decide +kernel
theorem dX11_format_66 : decode cX11_format 66 = .ok (.istore 6, 2) := by decide +kernel
theorem dX11_format_68 : decode cX11_format 68 = .ok (.iconst 0, 1) := by decide +kernel
theorem dX11_format_69 : decode cX11_format 69 = .ok (.istore 7, 2) := by decide +kernel
theorem dX11_format_71 : decode cX11_format 71 = .ok (.iload 7, 2) := by decide +kernel
theorem dX11_format_73 : decode cX11_format 73 = .ok (.iload 5, 2) := by decide +kernel
theorem dX11_format_75 : decode cX11_format 75 = .ok (.if_icmp .ge 49, 3) := by decide +kernel
theorem dX11_format_78 : decode cX11_format 78 = .ok (.iload 6, 2) := by decide +kernel
theorem dX11_format_80 : decode cX11_format 80 = .ok (.ifCond .eq 44, 3) := by decide +kernel
theorem dX11_format_83 : decode cX11_format 83 = .ok (.aload_n 0, 1) := by decide +kernel
theorem dX11_format_84 : decode cX11_format 84 = .ok (.iload 7, 2) := by decide +kernel
theorem dX11_format_86 : decode cX11_format 86 = .ok (.invokevirtual 284, 3) := by decide +kernel
theorem dX11_format_89 : decode cX11_format 89 = .ok (.bipush 32, 2) := by decide +kernel
theorem dX11_format_91 : decode cX11_format 91 = .ok (.if_icmp .ne 16, 3) := by decide +kernel
theorem dX11_format_94 : decode cX11_format 94 = .ok (.iload 7, 2) := by decide +kernel
theorem dX11_format_96 : decode cX11_format 96 = .ok (.ifCond .le 7, 3) := by decide +kernel
theorem dX11_format_99 : decode cX11_format 99 = .ok (.iconst 1, 1) := by decide +kernel
theorem dX11_format_100 : decode cX11_format 100 = .ok (.goto 16, 3) := by decide +kernel
theorem dX11_format_103 : decode cX11_format 103 = .ok (.iconst 0, 1) := by decide +kernel
theorem dX11_format_104 : decode cX11_format 104 = .ok (.goto 12, 3) := by decide +kernel
theorem dX11_format_107 : decode cX11_format 107 = .ok (.aload_n 0, 1) := by decide +kernel
theorem dX11_format_108 : decode cX11_format 108 = .ok (.iload 7, 2) := by decide +kernel
theorem dX11_format_110 : decode cX11_format 110 = .ok (.invokevirtual 284, 3) := by decide +kernel
theorem dX11_format_113 : decode cX11_format 113 = .ok (.invokestatic 213, 3) := by decide +kernel
theorem dX11_format_116 : decode cX11_format 116 = .ok (.istore 6, 2) := by decide +kernel
theorem dX11_format_118 : decode cX11_format 118 = .ok (.iinc 7 1, 3) := by decide +kernel
theorem dX11_format_121 : decode cX11_format 121 = .ok (.goto (-50), 3) := by decide +kernel
theorem dX11_format_124 : decode cX11_format 124 = .ok (.iconst 1, 1) := by decide +kernel
theorem dX11_format_125 : decode cX11_format 125 = .ok (.istore 7, 2) := by decide +kernel
theorem dX11_format_127 : decode cX11_format 127 = .ok (.iload 6, 2) := by decide +kernel
theorem dX11_format_129 : decode cX11_format 129 = .ok (.ifCond .eq 57, 3) := by decide +kernel
theorem dX11_format_132 : decode cX11_format 132 = .ok (.iload 7, 2) := by decide +kernel
theorem dX11_format_134 : decode cX11_format 134 = .ok (.bipush 33, 2) := by decide +kernel
theorem dX11_format_136 : decode cX11_format 136 = .ok (.if_icmp .ge 50, 3) := by decide +kernel
theorem dX11_format_139 : decode cX11_format 139 = .ok (.aload_n 0, 1) := by decide +kernel
theorem dX11_format_140 : decode cX11_format 140 = .ok (.getfield 72, 3) := by decide +kernel
theorem dX11_format_143 : decode cX11_format 143 = .ok (.iload_n 2, 1) := by decide +kernel
theorem dX11_format_144 : decode cX11_format 144 = .ok (.isub, 1) := by decide +kernel
theorem dX11_format_145 : decode cX11_format 145 = .ok (.iload_n 3, 1) := by decide +kernel
theorem dX11_format_146 : decode cX11_format 146 = .ok (.iload 7, 2) := by decide +kernel
theorem dX11_format_148 : decode cX11_format 148 = .ok (.imul, 1) := by decide +kernel
theorem dX11_format_149 : decode cX11_format 149 = .ok (.isub, 1) := by decide +kernel
theorem dX11_format_150 : decode cX11_format 150 = .ok (.iload_n 1, 1) := by decide +kernel
theorem dX11_format_151 : decode cX11_format 151 = .ok (.idiv, 1) := by decide +kernel
theorem dX11_format_152 : decode cX11_format 152 = .ok (.iconst 4, 1) := by decide +kernel
theorem dX11_format_153 : decode cX11_format 153 = .ok (.if_icmp .lt 27, 3) := by decide +kernel
theorem dX11_format_156 : decode cX11_format 156 = .ok (.sipush 128, 3) := by decide +kernel
theorem dX11_format_159 : decode cX11_format 159 = .ok (.iload 7, 2) := by decide +kernel
theorem dX11_format_161 : decode cX11_format 161 = .ok (.imul, 1) := by decide +kernel
theorem dX11_format_162 : decode cX11_format 162 = .ok (.aload_n 0, 1) := by decide +kernel
theorem dX11_format_163 : decode cX11_format 163 = .ok (.getfield 72, 3) := by decide +kernel
theorem dX11_format_166 : decode cX11_format 166 = .ok (.iload_n 2, 1) := by decide +kernel
theorem dX11_format_167 : decode cX11_format 167 = .ok (.isub, 1) := by decide +kernel
theorem dX11_format_168 : decode cX11_format 168 = .ok (.iload_n 3, 1) := by decide +kernel
theorem dX11_format_169 : decode cX11_format 169 = .ok (.iload 7, 2) := by decide +kernel
theorem dX11_format_171 : decode cX11_format 171 = .ok (.imul, 1) := by decide +kernel
theorem dX11_format_172 : decode cX11_format 172 = .ok (.isub, 1) := by decide +kernel
theorem dX11_format_173 : decode cX11_format 173 = .ok (.iload_n 1, 1) := by decide +kernel
theorem dX11_format_174 : decode cX11_format 174 = .ok (.idiv, 1) := by decide +kernel
theorem dX11_format_175 : decode cX11_format 175 = .ok (.iconst 2, 1) := by decide +kernel
theorem dX11_format_176 : decode cX11_format 176 = .ok (.iadd, 1) := by decide +kernel
theorem dX11_format_177 : decode cX11_format 177 = .ok (.if_icmp .ge 9, 3) := by decide +kernel
theorem dX11_format_180 : decode cX11_format 180 = .ok (.iinc 7 1, 3) := by decide +kernel
theorem dX11_format_183 : decode cX11_format 183 = .ok (.goto (-56), 3) := by decide +kernel
theorem dX11_format_186 : decode cX11_format 186 = .ok (.aload_n 0, 1) := by decide +kernel
theorem dX11_format_187 : decode cX11_format 187 = .ok (.iload 6, 2) := by decide +kernel
theorem dX11_format_189 : decode cX11_format 189 = .ok (.ifCond .eq 10, 3) := by decide +kernel
theorem dX11_format_192 : decode cX11_format 192 = .ok (.iload 7, 2) := by decide +kernel
theorem dX11_format_194 : decode cX11_format 194 = .ok (.bipush 32, 2) := by decide +kernel
theorem dX11_format_196 : decode cX11_format 196 = .ok (.if_icmp .le 7, 3) := by decide +kernel
theorem dX11_format_199 : decode cX11_format 199 = .ok (.iconst 1, 1) := by decide +kernel
theorem dX11_format_200 : decode cX11_format 200 = .ok (.goto 4, 3) := by decide +kernel
theorem dX11_format_203 : decode cX11_format 203 = .ok (.iconst 0, 1) := by decide +kernel
theorem dX11_format_204 : decode cX11_format 204 = .ok (.iconst 1, 1) := by decide +kernel
theorem dX11_format_205 : decode cX11_format 205 = .ok (.invokevirtual 287, 3) := by decide +kernel
theorem dX11_format_208 : decode cX11_format 208 = .ok (.ifCond .eq 5, 3) := by decide +kernel
theorem dX11_format_211 : decode cX11_format 211 = .ok (.iconst 0, 1) := by decide +kernel
theorem dX11_format_212 : decode cX11_format 212 = .ok (.ireturn, 1) := by decide +kernel
theorem dX11_format_213 : decode cX11_format 213 = .ok (.iconst 0, 1) := by decide +kernel
theorem dX11_format_214 : decode cX11_format 214 = .ok (.istore 8, 2) := by decide +kernel
theorem dX11_format_216 : decode cX11_format 216 = .ok (.iload 8, 2) := by decide +kernel
theorem dX11_format_218 : decode cX11_format 218 = .ok (.ldc 7, 2) := by decide +kernel
theorem dX11_format_220 : decode cX11_format 220 = .ok (.if_icmp .ge 17, 3) := by decide +kernel
theorem dX11_format_223 : decode cX11_format 223 = .ok (.aload_n 0, 1) := by decide +kernel
theorem dX11_format_224 : decode cX11_format 224 = .ok (.getfield 8, 3) := by decide +kernel
theorem dX11_format_227 : decode cX11_format 227 = .ok (.iload 8, 2) := by decide +kernel
theorem dX11_format_229 : decode cX11_format 229 = .ok (.iconst 0, 1) := by decide +kernel
theorem dX11_format_230 : decode cX11_format 230 = .ok (.bastore, 1) := by decide +kernel
theorem dX11_format_231 : decode cX11_format 231 = .ok (.iinc 8 1, 3) := by decide +kernel
theorem dX11_format_234 : decode cX11_format 234 = .ok (.goto (-18), 3) := by decide +kernel
theorem dX11_format_237 : decode cX11_format 237 = .ok (.iconst 3, 1) := by decide +kernel
theorem dX11_format_238 : decode cX11_format 238 = .ok (.istore 8, 2) := by decide +kernel
theorem dX11_format_240 : decode cX11_format 240 = .ok (.iload 8, 2) := by decide +kernel
theorem dX11_format_242 : decode cX11_format 242 = .ok (.bipush 11, 2) := by decide +kernel
theorem dX11_format_244 : decode cX11_format 244 = .ok (.if_icmp .ge 18, 3) := by decide +kernel
theorem dX11_format_247 : decode cX11_format 247 = .ok (.aload_n 0, 1) := by decide +kernel
theorem dX11_format_248 : decode cX11_format 248 = .ok (.getfield 8, 3) := by decide +kernel
theorem dX11_format_251 : decode cX11_format 251 = .ok (.iload 8, 2) := by decide +kernel
theorem dX11_format_253 : decode cX11_format 253 = .ok (.bipush 32, 2) := by decide +kernel
theorem dX11_format_255 : decode cX11_format 255 = .ok (.bastore, 1) := by decide +kernel
theorem dX11_format_256 : decode cX11_format 256 = .ok (.iinc 8 1, 3) := by decide +kernel
theorem dX11_format_259 : decode cX11_format 259 = .ok (.goto (-19), 3) := by decide +kernel
theorem dX11_format_262 : decode cX11_format 262 = .ok (.aload_n 0, 1) := by decide +kernel
theorem dX11_format_263 : decode cX11_format 263 = .ok (.bipush 11, 2) := by decide +kernel
theorem dX11_format_265 : decode cX11_format 265 = .ok (.iconst 2, 1) := by decide +kernel
theorem dX11_format_266 : decode cX11_format 266 = .ok (.ldc2_w 291, 3) := by decide +kernel
theorem dX11_format_269 : decode cX11_format 269 = .ok (.invokevirtual 104, 3) := by decide +kernel
theorem dX11_format_272 : decode cX11_format 272 = .ok (.aload_n 0, 1) := by decide +kernel
theorem dX11_format_273 : decode cX11_format 273 = .ok (.bipush 13, 2) := by decide +kernel
theorem dX11_format_275 : decode cX11_format 275 = .ok (.iconst 1, 1) := by decide +kernel
theorem dX11_format_276 : decode cX11_format 276 = .ok (.iload_n 1, 1) := by decide +kernel
theorem dX11_format_277 : decode cX11_format 277 = .ok (.i2l, 1) := by decide +kernel
theorem dX11_format_278 : decode cX11_format 278 = .ok (.invokevirtual 104, 3) := by decide +kernel
theorem dX11_format_281 : decode cX11_format 281 = .ok (.aload_n 0, 1) := by decide +kernel
theorem dX11_format_282 : decode cX11_format 282 = .ok (.bipush 14, 2) := by decide +kernel
theorem dX11_format_284 : decode cX11_format 284 = .ok (.iconst 2, 1) := by decide +kernel
theorem dX11_format_285 : decode cX11_format 285 = .ok (.iload_n 2, 1) := by decide +kernel
theorem dX11_format_286 : decode cX11_format 286 = .ok (.i2l, 1) := by decide +kernel
theorem dX11_format_287 : decode cX11_format 287 = .ok (.invokevirtual 104, 3) := by decide +kernel
theorem dX11_format_290 : decode cX11_format 290 = .ok (.aload_n 0, 1) := by decide +kernel
theorem dX11_format_291 : decode cX11_format 291 = .ok (.bipush 16, 2) := by decide +kernel
theorem dX11_format_293 : decode cX11_format 293 = .ok (.iconst 1, 1) := by decide +kernel
theorem dX11_format_294 : decode cX11_format 294 = .ok (.iload_n 3, 1) := by decide +kernel
theorem dX11_format_295 : decode cX11_format 295 = .ok (.i2l, 1) := by decide +kernel
theorem dX11_format_296 : decode cX11_format 296 = .ok (.invokevirtual 104, 3) := by decide +kernel
theorem dX11_format_299 : decode cX11_format 299 = .ok (.aload_n 0, 1) := by decide +kernel
theorem dX11_format_300 : decode cX11_format 300 = .ok (.bipush 32, 2) := by decide +kernel
theorem dX11_format_302 : decode cX11_format 302 = .ok (.iconst 4, 1) := by decide +kernel
theorem dX11_format_303 : decode cX11_format 303 = .ok (.aload_n 0, 1) := by decide +kernel
theorem dX11_format_304 : decode cX11_format 304 = .ok (.getfield 72, 3) := by decide +kernel
theorem dX11_format_307 : decode cX11_format 307 = .ok (.i2l, 1) := by decide +kernel
theorem dX11_format_308 : decode cX11_format 308 = .ok (.invokevirtual 104, 3) := by decide +kernel
theorem dX11_format_311 : decode cX11_format 311 = .ok (.aload_n 0, 1) := by decide +kernel
theorem dX11_format_312 : decode cX11_format 312 = .ok (.bipush 36, 2) := by decide +kernel
theorem dX11_format_314 : decode cX11_format 314 = .ok (.iconst 4, 1) := by decide +kernel
theorem dX11_format_315 : decode cX11_format 315 = .ok (.iload 7, 2) := by decide +kernel
theorem dX11_format_317 : decode cX11_format 317 = .ok (.i2l, 1) := by decide +kernel
theorem dX11_format_318 : decode cX11_format 318 = .ok (.invokevirtual 104, 3) := by decide +kernel
theorem dX11_format_321 : decode cX11_format 321 = .ok (.aload_n 0, 1) := by decide +kernel
theorem dX11_format_322 : decode cX11_format 322 = .ok (.bipush 44, 2) := by decide +kernel
theorem dX11_format_324 : decode cX11_format 324 = .ok (.iconst 4, 1) := by decide +kernel
theorem dX11_format_325 : decode cX11_format 325 = .ok (.ldc2_w 293, 3) := by decide +kernel
theorem dX11_format_328 : decode cX11_format 328 = .ok (.invokevirtual 104, 3) := by decide +kernel
theorem dX11_format_331 : decode cX11_format 331 = .ok (.aload_n 0, 1) := by decide +kernel
theorem dX11_format_332 : decode cX11_format 332 = .ok (.bipush 48, 2) := by decide +kernel
theorem dX11_format_334 : decode cX11_format 334 = .ok (.iconst 2, 1) := by decide +kernel
theorem dX11_format_335 : decode cX11_format 335 = .ok (.lconst 1, 1) := by decide +kernel
theorem dX11_format_336 : decode cX11_format 336 = .ok (.invokevirtual 104, 3) := by decide +kernel
theorem dX11_format_339 : decode cX11_format 339 = .ok (.aload_n 0, 1) := by decide +kernel
theorem dX11_format_340 : decode cX11_format 340 = .ok (.bipush 50, 2) := by decide +kernel
theorem dX11_format_342 : decode cX11_format 342 = .ok (.iconst 2, 1) := by decide +kernel
theorem dX11_format_343 : decode cX11_format 343 = .ok (.ldc2_w 295, 3) := by decide +kernel
theorem dX11_format_346 : decode cX11_format 346 = .ok (.invokevirtual 104, 3) := by decide +kernel
theorem dX11_format_349 : decode cX11_format 349 = .ok (.aload_n 0, 1) := by decide +kernel
theorem dX11_format_350 : decode cX11_format 350 = .ok (.bipush 67, 2) := by decide +kernel
theorem dX11_format_352 : decode cX11_format 352 = .ok (.iconst 4, 1) := by decide +kernel
theorem dX11_format_353 : decode cX11_format 353 = .ok (.iload 4, 2) := by decide +kernel
theorem dX11_format_355 : decode cX11_format 355 = .ok (.i2l, 1) := by decide +kernel
theorem dX11_format_356 : decode cX11_format 356 = .ok (.invokevirtual 104, 3) := by decide +kernel
theorem dX11_format_359 : decode cX11_format 359 = .ok (.aload_n 0, 1) := by decide +kernel
theorem dX11_format_360 : decode cX11_format 360 = .ok (.sipush 510, 3) := by decide +kernel
theorem dX11_format_363 : decode cX11_format 363 = .ok (.iconst 2, 1) := by decide +kernel
theorem dX11_format_364 : decode cX11_format 364 = .ok (.ldc2_w 297, 3) := by decide +kernel
theorem dX11_format_367 : decode cX11_format 367 = .ok (.invokevirtual 104, 3) := by decide +kernel
theorem dX11_format_370 : decode cX11_format 370 = .ok (.iconst 0, 1) := by decide +kernel
theorem dX11_format_371 : decode cX11_format 371 = .ok (.istore 8, 2) := by decide +kernel
theorem dX11_format_373 : decode cX11_format 373 = .ok (.iload 8, 2) := by decide +kernel
theorem dX11_format_375 : decode cX11_format 375 = .ok (.sipush 512, 3) := by decide +kernel
theorem dX11_format_378 : decode cX11_format 378 = .ok (.if_icmp .ge 27, 3) := by decide +kernel
theorem dX11_format_381 : decode cX11_format 381 = .ok (.aload_n 0, 1) := by decide +kernel
theorem dX11_format_382 : decode cX11_format 382 = .ok (.getfield 8, 3) := by decide +kernel
theorem dX11_format_385 : decode cX11_format 385 = .ok (.sipush 3072, 3) := by decide +kernel
theorem dX11_format_388 : decode cX11_format 388 = .ok (.iload 8, 2) := by decide +kernel
theorem dX11_format_390 : decode cX11_format 390 = .ok (.iadd, 1) := by decide +kernel
theorem dX11_format_391 : decode cX11_format 391 = .ok (.aload_n 0, 1) := by decide +kernel
theorem dX11_format_392 : decode cX11_format 392 = .ok (.getfield 8, 3) := by decide +kernel
theorem dX11_format_395 : decode cX11_format 395 = .ok (.iload 8, 2) := by decide +kernel
theorem dX11_format_397 : decode cX11_format 397 = .ok (.baload, 1) := by decide +kernel
theorem dX11_format_398 : decode cX11_format 398 = .ok (.bastore, 1) := by decide +kernel
theorem dX11_format_399 : decode cX11_format 399 = .ok (.iinc 8 1, 3) := by decide +kernel
theorem dX11_format_402 : decode cX11_format 402 = .ok (.goto (-29), 3) := by decide +kernel
theorem dX11_format_405 : decode cX11_format 405 = .ok (.aload_n 0, 1) := by decide +kernel
theorem dX11_format_406 : decode cX11_format 406 = .ok (.sipush 512, 3) := by decide +kernel
theorem dX11_format_409 : decode cX11_format 409 = .ok (.iconst 4, 1) := by decide +kernel
theorem dX11_format_410 : decode cX11_format 410 = .ok (.ldc2_w 299, 3) := by decide +kernel
theorem dX11_format_413 : decode cX11_format 413 = .ok (.invokevirtual 104, 3) := by decide +kernel
theorem dX11_format_416 : decode cX11_format 416 = .ok (.aload_n 0, 1) := by decide +kernel
theorem dX11_format_417 : decode cX11_format 417 = .ok (.sipush 996, 3) := by decide +kernel
theorem dX11_format_420 : decode cX11_format 420 = .ok (.iconst 4, 1) := by decide +kernel
theorem dX11_format_421 : decode cX11_format 421 = .ok (.ldc2_w 301, 3) := by decide +kernel
theorem dX11_format_424 : decode cX11_format 424 = .ok (.invokevirtual 104, 3) := by decide +kernel
theorem dX11_format_427 : decode cX11_format 427 = .ok (.aload_n 0, 1) := by decide +kernel
theorem dX11_format_428 : decode cX11_format 428 = .ok (.sipush 1000, 3) := by decide +kernel
theorem dX11_format_431 : decode cX11_format 431 = .ok (.iconst 4, 1) := by decide +kernel
theorem dX11_format_432 : decode cX11_format 432 = .ok (.ldc2_w 303, 3) := by decide +kernel
theorem dX11_format_435 : decode cX11_format 435 = .ok (.invokevirtual 104, 3) := by decide +kernel
theorem dX11_format_438 : decode cX11_format 438 = .ok (.aload_n 0, 1) := by decide +kernel
theorem dX11_format_439 : decode cX11_format 439 = .ok (.sipush 1004, 3) := by decide +kernel
theorem dX11_format_442 : decode cX11_format 442 = .ok (.iconst 4, 1) := by decide +kernel
theorem dX11_format_443 : decode cX11_format 443 = .ok (.ldc2_w 303, 3) := by decide +kernel
theorem dX11_format_446 : decode cX11_format 446 = .ok (.invokevirtual 104, 3) := by decide +kernel
theorem dX11_format_449 : decode cX11_format 449 = .ok (.aload_n 0, 1) := by decide +kernel
theorem dX11_format_450 : decode cX11_format 450 = .ok (.sipush 1020, 3) := by decide +kernel
theorem dX11_format_453 : decode cX11_format 453 = .ok (.iconst 4, 1) := by decide +kernel
theorem dX11_format_454 : decode cX11_format 454 = .ok (.ldc2_w 305, 3) := by decide +kernel
theorem dX11_format_457 : decode cX11_format 457 = .ok (.invokevirtual 104, 3) := by decide +kernel
theorem dX11_format_460 : decode cX11_format 460 = .ok (.aload_n 0, 1) := by decide +kernel
theorem dX11_format_461 : decode cX11_format 461 = .ok (.invokevirtual 151, 3) := by decide +kernel
theorem dX11_format_464 : decode cX11_format 464 = .ok (.istore 8, 2) := by decide +kernel
theorem dX11_format_466 : decode cX11_format 466 = .ok (.aload_n 0, 1) := by decide +kernel
theorem dX11_format_467 : decode cX11_format 467 = .ok (.iconst 0, 1) := by decide +kernel
theorem dX11_format_468 : decode cX11_format 468 = .ok (.ldc 128, 2) := by decide +kernel
theorem dX11_format_470 : decode cX11_format 470 = .ok (.invokevirtual 307, 3) := by decide +kernel
theorem dX11_format_473 : decode cX11_format 473 = .ok (.aload_n 0, 1) := by decide +kernel
theorem dX11_format_474 : decode cX11_format 474 = .ok (.iconst 1, 1) := by decide +kernel
theorem dX11_format_475 : decode cX11_format 475 = .ok (.ldc 99, 2) := by decide +kernel
theorem dX11_format_477 : decode cX11_format 477 = .ok (.invokevirtual 307, 3) := by decide +kernel
theorem dX11_format_480 : decode cX11_format 480 = .ok (.aload_n 0, 1) := by decide +kernel
theorem dX11_format_481 : decode cX11_format 481 = .ok (.iconst 2, 1) := by decide +kernel
theorem dX11_format_482 : decode cX11_format 482 = .ok (.ldc 99, 2) := by decide +kernel
theorem dX11_format_484 : decode cX11_format 484 = .ok (.invokevirtual 307, 3) := by decide +kernel
theorem dX11_format_487 : decode cX11_format 487 = .ok (.iload 5, 2) := by decide +kernel
theorem dX11_format_489 : decode cX11_format 489 = .ok (.ifCond .le 81, 3) := by decide +kernel
theorem dX11_format_492 : decode cX11_format 492 = .ok (.aload_n 0, 1) := by decide +kernel
theorem dX11_format_493 : decode cX11_format 493 = .ok (.iconst 2, 1) := by decide +kernel
theorem dX11_format_494 : decode cX11_format 494 = .ok (.invokevirtual 135, 3) := by decide +kernel
theorem dX11_format_497 : decode cX11_format 497 = .ok (.istore 9, 2) := by decide +kernel
theorem dX11_format_499 : decode cX11_format 499 = .ok (.iconst 0, 1) := by decide +kernel
theorem dX11_format_500 : decode cX11_format 500 = .ok (.istore 10, 2) := by decide +kernel
theorem dX11_format_502 : decode cX11_format 502 = .ok (.iload 10, 2) := by decide +kernel
theorem dX11_format_504 : decode cX11_format 504 = .ok (.bipush 11, 2) := by decide +kernel
theorem dX11_format_506 : decode cX11_format 506 = .ok (.if_icmp .ge 38, 3) := by decide +kernel
theorem dX11_format_509 : decode cX11_format 509 = .ok (.aload_n 0, 1) := by decide +kernel
theorem dX11_format_510 : decode cX11_format 510 = .ok (.getfield 8, 3) := by decide +kernel
theorem dX11_format_513 : decode cX11_format 513 = .ok (.iload 9, 2) := by decide +kernel
theorem dX11_format_515 : decode cX11_format 515 = .ok (.iload 10, 2) := by decide +kernel
theorem dX11_format_517 : decode cX11_format 517 = .ok (.iadd, 1) := by decide +kernel
theorem dX11_format_518 : decode cX11_format 518 = .ok (.iload 10, 2) := by decide +kernel
theorem dX11_format_520 : decode cX11_format 520 = .ok (.iload 5, 2) := by decide +kernel
theorem dX11_format_522 : decode cX11_format 522 = .ok (.if_icmp .ge 13, 3) := by decide +kernel
theorem dX11_format_525 : decode cX11_format 525 = .ok (.aload_n 0, 1) := by decide +kernel
theorem dX11_format_526 : decode cX11_format 526 = .ok (.getfield 14, 3) := by decide +kernel
theorem dX11_format_529 : decode cX11_format 529 = .ok (.iload 10, 2) := by decide +kernel
theorem dX11_format_531 : decode cX11_format 531 = .ok (.baload, 1) := by decide +kernel
theorem dX11_format_532 : decode cX11_format 532 = .ok (.goto 5, 3) := by decide +kernel
theorem dX11_format_535 : decode cX11_format 535 = .ok (.bipush 32, 2) := by decide +kernel
theorem dX11_format_537 : decode cX11_format 537 = .ok (.bastore, 1) := by decide +kernel
theorem dX11_format_538 : decode cX11_format 538 = .ok (.iinc 10 1, 3) := by decide +kernel
theorem dX11_format_541 : decode cX11_format 541 = .ok (.goto (-39), 3) := by decide +kernel
theorem dX11_format_544 : decode cX11_format 544 = .ok (.aload_n 0, 1) := by decide +kernel
theorem dX11_format_545 : decode cX11_format 545 = .ok (.iload 9, 2) := by decide +kernel
theorem dX11_format_547 : decode cX11_format 547 = .ok (.bipush 11, 2) := by decide +kernel
theorem dX11_format_549 : decode cX11_format 549 = .ok (.iadd, 1) := by decide +kernel
theorem dX11_format_550 : decode cX11_format 550 = .ok (.iconst 1, 1) := by decide +kernel
theorem dX11_format_551 : decode cX11_format 551 = .ok (.ldc2_w 311, 3) := by decide +kernel
theorem dX11_format_554 : decode cX11_format 554 = .ok (.invokevirtual 104, 3) := by decide +kernel
theorem dX11_format_557 : decode cX11_format 557 = .ok (.aload_n 0, 1) := by decide +kernel
theorem dX11_format_558 : decode cX11_format 558 = .ok (.iload 9, 2) := by decide +kernel
theorem dX11_format_560 : decode cX11_format 560 = .ok (.bipush 24, 2) := by decide +kernel
theorem dX11_format_562 : decode cX11_format 562 = .ok (.iadd, 1) := by decide +kernel
theorem dX11_format_563 : decode cX11_format 563 = .ok (.iconst 2, 1) := by decide +kernel
theorem dX11_format_564 : decode cX11_format 564 = .ok (.ldc2_w 313, 3) := by decide +kernel
theorem dX11_format_567 : decode cX11_format 567 = .ok (.invokevirtual 104, 3) := by decide +kernel
theorem dX11_format_570 : decode cX11_format 570 = .ok (.aload_n 0, 1) := by decide +kernel
theorem dX11_format_571 : decode cX11_format 571 = .ok (.iconst 0, 1) := by decide +kernel
theorem dX11_format_572 : decode cX11_format 572 = .ok (.putfield 281, 3) := by decide +kernel
theorem dX11_format_575 : decode cX11_format 575 = .ok (.aload_n 0, 1) := by decide +kernel
theorem dX11_format_576 : decode cX11_format 576 = .ok (.invokevirtual 278, 3) := by decide +kernel
theorem dX11_format_579 : decode cX11_format 579 = .ok (.iload 8, 2) := by decide +kernel
theorem dX11_format_581 : decode cX11_format 581 = .ok (.ifCond .eq 10, 3) := by decide +kernel
theorem dX11_format_584 : decode cX11_format 584 = .ok (.aload_n 0, 1) := by decide +kernel
theorem dX11_format_585 : decode cX11_format 585 = .ok (.getfield 108, 3) := by decide +kernel
theorem dX11_format_588 : decode cX11_format 588 = .ok (.goto 4, 3) := by decide +kernel
theorem dX11_format_591 : decode cX11_format 591 = .ok (.iconst 0, 1) := by decide +kernel
theorem dX11_format_592 : decode cX11_format 592 = .ok (.ireturn, 1) := by decide +kernel
theorem dX11_free_0 : decode cX11_free 0 = .ok (.aload_n 0, 1) := by decide +kernel
theorem dX11_free_1 : decode cX11_free 1 = .ok (.iconst 0, 1) := by decide +kernel
theorem dX11_free_2 : decode cX11_free 2 = .ok (.putfield 76, 3) := by decide +kernel
theorem dX11_free_5 : decode cX11_free 5 = .ok (.aload_n 0, 1) := by decide +kernel
theorem dX11_free_6 : decode cX11_free 6 = .ok (.invokevirtual 275, 3) := by decide +kernel
theorem dX11_free_9 : decode cX11_free 9 = .ok (.aload_n 0, 1) := by decide +kernel
theorem dX11_free_10 : decode cX11_free 10 = .ok (.getfield 158, 3) := by decide +kernel
theorem dX11_free_13 : decode cX11_free 13 = .ok (.iconst 1, 1) := by decide +kernel
theorem dX11_free_14 : decode cX11_free 14 = .ok (.if_icmp .ne 7, 3) := by decide +kernel
theorem dX11_free_17 : decode cX11_free 17 = .ok (.iconst (-1), 1) := by decide +kernel
theorem dX11_free_18 : decode cX11_free 18 = .ok (.goto 7, 3) := by decide +kernel
theorem dX11_free_21 : decode cX11_free 21 = .ok (.aload_n 0, 1) := by decide +kernel
theorem dX11_free_22 : decode cX11_free 22 = .ok (.invokevirtual 315, 3) := by decide +kernel
theorem dX11_free_25 : decode cX11_free 25 = .ok (.ireturn, 1) := by decide +kernel
theorem dX11_none_0 : decode cX11_none 0 = .ok (.aload_n 0, 1) := by decide +kernel
theorem dX11_none_1 : decode cX11_none 1 = .ok (.iconst 0, 1) := by decide +kernel
theorem dX11_none_2 : decode cX11_none 2 = .ok (.putfield 76, 3) := by decide +kernel
theorem dX11_none_5 : decode cX11_none 5 = .ok (.aload_n 0, 1) := by decide +kernel
theorem dX11_none_6 : decode cX11_none 6 = .ok (.invokevirtual 275, 3) := by decide +kernel
theorem dX11_none_9 : decode cX11_none 9 = .ok (.aload_n 0, 1) := by decide +kernel
theorem dX11_none_10 : decode cX11_none 10 = .ok (.aload_n 0, 1) := by decide +kernel
theorem dX11_none_11 : decode cX11_none 11 = .ok (.getfield 158, 3) := by decide +kernel
theorem dX11_none_14 : decode cX11_none 14 = .ok (.ifCond .le 7, 3) := by decide +kernel
theorem dX11_none_17 : decode cX11_none 17 = .ok (.iconst 1, 1) := by decide +kernel
theorem dX11_none_18 : decode cX11_none 18 = .ok (.goto 4, 3) := by decide +kernel
theorem dX11_none_21 : decode cX11_none 21 = .ok (.iconst 0, 1) := by decide +kernel
theorem dX11_none_22 : decode cX11_none 22 = .ok (.iconst 1, 1) := by decide +kernel
