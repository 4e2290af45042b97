theorem dX10_openHere_52 : decode cX10_openHere 52 = .ok (.getfield 119, 3) := by decide +kernel
theorem dX10_openHere_55 : decode cX10_openHere 55 = .ok (.goto 7, 3) := by decide +kernel
theorem dX10_openHere_58 : decode cX10_openHere 58 = .ok (.aload_n 0, 1) := by decide +kernel
theorem dX10_openHere_59 : decode cX10_openHere 59 = .ok (.getfield 79, 3) := by decide +kernel
theorem dX10_openHere_62 : decode cX10_openHere 62 = .ok (.invokevirtual 214, 3) := by decide +kernel
theorem dX10_openHere_65 : decode cX10_openHere 65 = .ok (.return_, 1) := by decide +kernel
theorem dX10_itemAt_0 : decode cX10_itemAt 0 = .ok (.iload_n 1, 1) := by decide +kernel
theorem dX10_itemAt_1 : decode cX10_itemAt 1 = .ok (.ifCond .lt 14, 3) := by decide +kernel
theorem dX10_itemAt_4 : decode cX10_itemAt 4 = .ok (.iload_n 1, 1) := by decide +kernel
theorem dX10_itemAt_5 : decode cX10_itemAt 5 = .ok (.aload_n 0, 1) := by decide +kernel
theorem dX10_itemAt_6 : decode cX10_itemAt 6 = .ok (.getfield 55, 3) := by decide +kernel
theorem dX10_itemAt_9 : decode cX10_itemAt 9 = .ok (.getfield 163, 3) := by decide +kernel
theorem dX10_itemAt_12 : decode cX10_itemAt 12 = .ok (.if_icmp .lt 14, 3) := by decide +kernel
theorem dX10_itemAt_15 : decode cX10_itemAt 15 = .ok (.new 308, 3) := by decide +kernel
theorem dX10_itemAt_18 : decode cX10_itemAt 18 = .ok (.dup, 1) := by decide +kernel
theorem dX10_itemAt_19 : decode cX10_itemAt 19 = .ok (.ldc_w 310, 3) := by decide +kernel
theorem dX10_itemAt_22 : decode cX10_itemAt 22 = .ok (.invokespecial 312, 3) := by decide +kernel
theorem dX10_itemAt_25 : decode cX10_itemAt 25 = .ok (.athrow, 1) := by decide +kernel
theorem dX10_itemAt_26 : decode cX10_itemAt 26 = .ok (.aload_n 0, 1) := by decide +kernel
theorem dX10_itemAt_27 : decode cX10_itemAt 27 = .ok (.getfield 55, 3) := by decide +kernel
theorem dX10_itemAt_30 : decode cX10_itemAt 30 = .ok (.aload_n 0, 1) := by decide +kernel
theorem dX10_itemAt_31 : decode cX10_itemAt 31 = .ok (.getfield 55, 3) := by decide +kernel
theorem dX10_itemAt_34 : decode cX10_itemAt 34 = .ok (.iload_n 1, 1) := by decide +kernel
theorem dX10_itemAt_35 : decode cX10_itemAt 35 = .ok (.invokevirtual 169, 3) := by decide +kernel
theorem dX10_itemAt_38 : decode cX10_itemAt 38 = .ok (.invokevirtual 217, 3) := by decide +kernel
theorem dX10_itemAt_41 : decode cX10_itemAt 41 = .ok (.ireturn, 1) := by decide +kernel
theorem dX10_fileAt_0 : decode cX10_fileAt 0 = .ok (.aload_n 0, 1) := by decide +kernel
theorem dX10_fileAt_1 : decode cX10_fileAt 1 = .ok (.iload_n 1, 1) := by decide +kernel
theorem dX10_fileAt_2 : decode cX10_fileAt 2 = .ok (.invokevirtual 166, 3) := by decide +kernel
theorem dX10_fileAt_5 : decode cX10_fileAt 5 = .ok (.istore_n 2, 1) := by decide +kernel
theorem dX10_fileAt_6 : decode cX10_fileAt 6 = .ok (.aload_n 0, 1) := by decide +kernel
theorem dX10_fileAt_7 : decode cX10_fileAt 7 = .ok (.iload_n 2, 1) := by decide +kernel
theorem dX10_fileAt_8 : decode cX10_fileAt 8 = .ok (.invokevirtual 182, 3) := by decide +kernel
theorem dX10_fileAt_11 : decode cX10_fileAt 11 = .ok (.ifCond .eq 14, 3) := by decide +kernel
theorem dX10_fileAt_14 : decode cX10_fileAt 14 = .ok (.new 106, 3) := by decide +kernel
theorem dX10_fileAt_17 : decode cX10_fileAt 17 = .ok (.dup, 1) := by decide +kernel
theorem dX10_fileAt_18 : decode cX10_fileAt 18 = .ok (.ldc_w 313, 3) := by decide +kernel
theorem dX10_fileAt_21 : decode cX10_fileAt 21 = .ok (.invokespecial 110, 3) := by decide +kernel
theorem dX10_fileAt_24 : decode cX10_fileAt 24 = .ok (.athrow, 1) := by decide +kernel
theorem dX10_fileAt_25 : decode cX10_fileAt 25 = .ok (.iload_n 2, 1) := by decide +kernel
theorem dX10_fileAt_26 : decode cX10_fileAt 26 = .ok (.ireturn, 1) := by decide +kernel
theorem dX10_isDirectory_0 : decode cX10_isDirectory 0 = .ok (.aload_n 0, 1) := by decide +kernel
theorem dX10_isDirectory_1 : decode cX10_isDirectory 1 = .ok (.getfield 21, 3) := by decide +kernel
theorem dX10_isDirectory_4 : decode cX10_isDirectory 4 = .ok (.iload_n 1, 1) := by decide +kernel
theorem dX10_isDirectory_5 : decode cX10_isDirectory 5 = .ok (.bipush 11, 2) := by decide +kernel
theorem dX10_isDirectory_7 : decode cX10_isDirectory 7 = .ok (.iadd, 1) := by decide +kernel
theorem dX10_isDirectory_8 : decode cX10_isDirectory 8 = .ok (.invokevirtual 154, 3) := by decide +kernel
theorem dX10_isDirectory_11 : decode cX10_isDirectory 11 = .ok (.bipush 16, 2) := by decide +kernel
theorem dX10_isDirectory_13 : decode cX10_isDirectory 13 = .ok (.iand, 1) := by decide +kernel
theorem dX10_isDirectory_14 : decode cX10_isDirectory 14 = .ok (.ifCond .eq 7, 3) := by decide +kernel
theorem dX10_isDirectory_17 : decode cX10_isDirectory 17 = .ok (.iconst 1, 1) := by decide +kernel
theorem dX10_isDirectory_18 : decode cX10_isDirectory 18 = .ok (.goto 4, 3) := by decide +kernel
theorem dX10_isDirectory_21 : decode cX10_isDirectory 21 = .ok (.iconst 0, 1) := by decide +kernel
theorem dX10_isDirectory_22 : decode cX10_isDirectory 22 = .ok (.ireturn, 1) := by decide +kernel
theorem dX10_secondsOfWritten_0 : decode cX10_secondsOfWritten 0 = .ok (.aload_n 0, 1) := by decide +kernel
theorem dX10_secondsOfWritten_1 : decode cX10_secondsOfWritten 1 = .ok (.getfield 21, 3) := by decide +kernel
theorem dX10_secondsOfWritten_4 : decode cX10_secondsOfWritten 4 = .ok (.iload_n 1, 1) := by decide +kernel
theorem dX10_secondsOfWritten_5 : decode cX10_secondsOfWritten 5 = .ok (.bipush 24, 2) := by decide +kernel
theorem dX10_secondsOfWritten_7 : decode cX10_secondsOfWritten 7 = .ok (.iadd, 1) := by decide +kernel
theorem dX10_secondsOfWritten_8 : decode cX10_secondsOfWritten 8 = .ok (.invokevirtual 315, 3) := by decide +kernel
theorem dX10_secondsOfWritten_11 : decode cX10_secondsOfWritten 11 = .ok (.aload_n 0, 1) := by decide +kernel
theorem dX10_secondsOfWritten_12 : decode cX10_secondsOfWritten 12 = .ok (.getfield 21, 3) := by decide +kernel
theorem dX10_secondsOfWritten_15 : decode cX10_secondsOfWritten 15 = .ok (.iload_n 1, 1) := by decide +kernel
theorem dX10_secondsOfWritten_16 : decode cX10_secondsOfWritten 16 = .ok (.bipush 22, 2) := by decide +kernel
theorem dX10_secondsOfWritten_18 : decode cX10_secondsOfWritten 18 = .ok (.iadd, 1) := by decide +kernel
theorem dX10_secondsOfWritten_19 : decode cX10_secondsOfWritten 19 = .ok (.invokevirtual 315, 3) := by decide +kernel
theorem dX10_secondsOfWritten_22 : decode cX10_secondsOfWritten 22 = .ok (.invokestatic 318, 3) := by decide +kernel
theorem dX10_secondsOfWritten_25 : decode cX10_secondsOfWritten 25 = .ok (.lreturn, 1) := by decide +kernel
theorem dX10_secondsOfRead_0 : decode cX10_secondsOfRead 0 = .ok (.aload_n 0, 1) := by decide +kernel
theorem dX10_secondsOfRead_1 : decode cX10_secondsOfRead 1 = .ok (.getfield 21, 3) := by decide +kernel
theorem dX10_secondsOfRead_4 : decode cX10_secondsOfRead 4 = .ok (.iload_n 1, 1) := by decide +kernel
theorem dX10_secondsOfRead_5 : decode cX10_secondsOfRead 5 = .ok (.bipush 18, 2) := by decide +kernel
theorem dX10_secondsOfRead_7 : decode cX10_secondsOfRead 7 = .ok (.iadd, 1) := by decide +kernel
theorem dX10_secondsOfRead_8 : decode cX10_secondsOfRead 8 = .ok (.invokevirtual 315, 3) := by decide +kernel
theorem dX10_secondsOfRead_11 : decode cX10_secondsOfRead 11 = .ok (.istore_n 2, 1) := by decide +kernel
theorem dX10_secondsOfRead_12 : decode cX10_secondsOfRead 12 = .ok (.iload_n 2, 1) := by decide +kernel
theorem dX10_secondsOfRead_13 : decode cX10_secondsOfRead 13 = .ok (.ifCond .ne 11, 3) := by decide +kernel
theorem dX10_secondsOfRead_16 : decode cX10_secondsOfRead 16 = .ok (.aload_n 0, 1) := by decide +kernel
theorem dX10_secondsOfRead_17 : decode cX10_secondsOfRead 17 = .ok (.iload_n 1, 1) := by decide +kernel
theorem dX10_secondsOfRead_18 : decode cX10_secondsOfRead 18 = .ok (.invokevirtual 192, 3) := by decide +kernel
theorem dX10_secondsOfRead_21 : decode cX10_secondsOfRead 21 = .ok (.goto 8, 3) := by decide +kernel
theorem dX10_secondsOfRead_24 : decode cX10_secondsOfRead 24 = .ok (.iload_n 2, 1) := by decide +kernel
theorem dX10_secondsOfRead_25 : decode cX10_secondsOfRead 25 = .ok (.iconst 0, 1) := by decide +kernel
theorem dX10_secondsOfRead_26 : decode cX10_secondsOfRead 26 = .ok (.invokestatic 318, 3) := by decide +kernel
theorem dX10_secondsOfRead_29 : decode cX10_secondsOfRead 29 = .ok (.lreturn, 1) := by decide +kernel
theorem dX10_secondsOfMade_0 : decode cX10_secondsOfMade 0 = .ok (.aload_n 0, 1) := by decide +kernel
theorem dX10_secondsOfMade_1 : decode cX10_secondsOfMade 1 = .ok (.getfield 21, 3) := by decide +kernel
theorem dX10_secondsOfMade_4 : decode cX10_secondsOfMade 4 = .ok (.iload_n 1, 1) := by decide +kernel
theorem dX10_secondsOfMade_5 : decode cX10_secondsOfMade 5 = .ok (.bipush 16, 2) := by decide +kernel
theorem dX10_secondsOfMade_7 : decode cX10_secondsOfMade 7 = .ok (.iadd, 1) := by decide +kernel
theorem dX10_secondsOfMade_8 : decode cX10_secondsOfMade 8 = .ok (.invokevirtual 315, 3) := by decide +kernel
theorem dX10_secondsOfMade_11 : decode cX10_secondsOfMade 11 = .ok (.istore_n 2, 1) := by decide +kernel
theorem dX10_secondsOfMade_12 : decode cX10_secondsOfMade 12 = .ok (.iload_n 2, 1) := by decide +kernel
theorem dX10_secondsOfMade_13 : decode cX10_secondsOfMade 13 = .ok (.ifCond .ne 9, 3) := by decide +kernel
theorem dX10_secondsOfMade_16 : decode cX10_secondsOfMade 16 = .ok (.aload_n 0, 1) := by decide +kernel
theorem dX10_secondsOfMade_17 : decode cX10_secondsOfMade 17 = .ok (.iload_n 1, 1) := by decide +kernel
theorem dX10_secondsOfMade_18 : decode cX10_secondsOfMade 18 = .ok (.invokevirtual 192, 3) := by decide +kernel
theorem dX10_secondsOfMade_21 : decode cX10_secondsOfMade 21 = .ok (.lreturn, 1) := by decide +kernel
theorem dX10_secondsOfMade_22 : decode cX10_secondsOfMade 22 = .ok (.iload_n 2, 1) := by decide +kernel
theorem dX10_secondsOfMade_23 : decode cX10_secondsOfMade 23 = .ok (.aload_n 0, 1) := by decide +kernel
theorem dX10_secondsOfMade_24 : decode cX10_secondsOfMade 24 = .ok (.getfield 21, 3) := by decide +kernel
theorem dX10_secondsOfMade_27 : decode cX10_secondsOfMade 27 = .ok (.iload_n 1, 1) := by decide +kernel
theorem dX10_secondsOfMade_28 : decode cX10_secondsOfMade 28 = .ok (.bipush 14, 2) := by decide +kernel
theorem dX10_secondsOfMade_30 : decode cX10_secondsOfMade 30 = .ok (.iadd, 1) := by decide +kernel
theorem dX10_secondsOfMade_31 : decode cX10_secondsOfMade 31 = .ok (.invokevirtual 315, 3) := by decide +kernel
theorem dX10_secondsOfMade_34 : decode cX10_secondsOfMade 34 = .ok (.invokestatic 318, 3) := by decide +kernel
theorem dX10_secondsOfMade_37 : decode cX10_secondsOfMade 37 = .ok (.aload_n 0, 1) := by decide +kernel
theorem dX10_secondsOfMade_38 : decode cX10_secondsOfMade 38 = .ok (.getfield 21, 3) := by decide +kernel
theorem dX10_secondsOfMade_41 : decode cX10_secondsOfMade 41 = .ok (.iload_n 1, 1) := by decide +kernel
theorem dX10_secondsOfMade_42 : decode cX10_secondsOfMade 42 = .ok (.bipush 13, 2) := by decide +kernel
theorem dX10_secondsOfMade_44 : decode cX10_secondsOfMade 44 = .ok (.iadd, 1) := by decide +kernel
theorem dX10_secondsOfMade_45 : decode cX10_secondsOfMade 45 = .ok (.invokevirtual 154, 3) := by decide +kernel
theorem dX10_secondsOfMade_48 : decode cX10_secondsOfMade 48 = .ok (.bipush 100, 2) := by decide +kernel
theorem dX10_secondsOfMade_50 : decode cX10_secondsOfMade 50 = .ok (.idiv, 1) := by decide +kernel
theorem dX10_secondsOfMade_51 : decode cX10_secondsOfMade 51 = .ok (.i2l, 1) := by decide +kernel
theorem dX10_secondsOfMade_52 : decode cX10_secondsOfMade 52 = .ok (.ladd, 1) := by decide +kernel
theorem dX10_secondsOfMade_53 : decode cX10_secondsOfMade 53 = .ok (.lreturn, 1) := by decide +kernel
theorem dX10_stampFits_0 : decode cX10_stampFits 0 = .ok (.iload_n 2, 1) := by decide +kernel
theorem dX10_stampFits_1 : decode cX10_stampFits 1 = .ok (.tableswitch 141 0 4 #[35, 53, 75, 96, 124], 35) := by decide +kernel
theorem dX10_stampFits_36 : decode cX10_stampFits 36 = .ok (.iload_n 3, 1) := by decide +kernel
theorem dX10_stampFits_37 : decode cX10_stampFits 37 = .ok (.iload 4, 2) := by decide +kernel
theorem dX10_stampFits_39 : decode cX10_stampFits 39 = .ok (.aload_n 0, 1) := by decide +kernel
theorem dX10_stampFits_40 : decode cX10_stampFits 40 = .ok (.getfield 21, 3) := by decide +kernel
theorem dX10_stampFits_43 : decode cX10_stampFits 43 = .ok (.iload_n 1, 1) := by decide +kernel
theorem dX10_stampFits_44 : decode cX10_stampFits 44 = .ok (.bipush 13, 2) := by decide +kernel
theorem dX10_stampFits_46 : decode cX10_stampFits 46 = .ok (.iadd, 1) := by decide +kernel
theorem dX10_stampFits_47 : decode cX10_stampFits 47 = .ok (.invokevirtual 154, 3) := by decide +kernel
theorem dX10_stampFits_50 : decode cX10_stampFits 50 = .ok (.invokestatic 324, 3) := by decide +kernel
theorem dX10_stampFits_53 : decode cX10_stampFits 53 = .ok (.ireturn, 1) := by decide +kernel
theorem dX10_stampFits_54 : decode cX10_stampFits 54 = .ok (.iload 4, 2) := by decide +kernel
theorem dX10_stampFits_56 : decode cX10_stampFits 56 = .ok (.ifCond .ne 18, 3) := by decide +kernel
theorem dX10_stampFits_59 : decode cX10_stampFits 59 = .ok (.iload_n 3, 1) := by decide +kernel
theorem dX10_stampFits_60 : decode cX10_stampFits 60 = .ok (.ifCond .eq 10, 3) := by decide +kernel
theorem dX10_stampFits_63 : decode cX10_stampFits 63 = .ok (.iload_n 3, 1) := by decide +kernel
theorem dX10_stampFits_64 : decode cX10_stampFits 64 = .ok (.invokestatic 328, 3) := by decide +kernel
theorem dX10_stampFits_67 : decode cX10_stampFits 67 = .ok (.ifCond .eq 7, 3) := by decide +kernel
theorem dX10_stampFits_70 : decode cX10_stampFits 70 = .ok (.iconst 1, 1) := by decide +kernel
theorem dX10_stampFits_71 : decode cX10_stampFits 71 = .ok (.goto 4, 3) := by decide +kernel
theorem dX10_stampFits_74 : decode cX10_stampFits 74 = .ok (.iconst 0, 1) := by decide +kernel
theorem dX10_stampFits_75 : decode cX10_stampFits 75 = .ok (.ireturn, 1) := by decide +kernel
theorem dX10_stampFits_76 : decode cX10_stampFits 76 = .ok (.iload_n 3, 1) := by decide +kernel
theorem dX10_stampFits_77 : decode cX10_stampFits 77 = .ok (.invokestatic 328, 3) := by decide +kernel
theorem dX10_stampFits_80 : decode cX10_stampFits 80 = .ok (.ifCond .eq 15, 3) := by decide +kernel
theorem dX10_stampFits_83 : decode cX10_stampFits 83 = .ok (.iload 4, 2) := by decide +kernel
theorem dX10_stampFits_85 : decode cX10_stampFits 85 = .ok (.invokestatic 331, 3) := by decide +kernel
theorem dX10_stampFits_88 : decode cX10_stampFits 88 = .ok (.ifCond .eq 7, 3) := by decide +kernel
theorem dX10_stampFits_91 : decode cX10_stampFits 91 = .ok (.iconst 1, 1) := by decide +kernel
theorem dX10_stampFits_92 : decode cX10_stampFits 92 = .ok (.goto 4, 3) := by decide +kernel
theorem dX10_stampFits_95 : decode cX10_stampFits 95 = .ok (.iconst 0, 1) := by decide +kernel
theorem dX10_stampFits_96 : decode cX10_stampFits 96 = .ok (.ireturn, 1) := by decide +kernel
theorem dX10_stampFits_97 : decode cX10_stampFits 97 = .ok (.aload_n 0, 1) := by decide +kernel
theorem dX10_stampFits_98 : decode cX10_stampFits 98 = .ok (.getfield 21, 3) := by decide +kernel
theorem dX10_stampFits_101 : decode cX10_stampFits 101 = .ok (.iload_n 1, 1) := by decide +kernel
theorem dX10_stampFits_102 : decode cX10_stampFits 102 = .ok (.bipush 16, 2) := by decide +kernel
theorem dX10_stampFits_104 : decode cX10_stampFits 104 = .ok (.iadd, 1) := by decide +kernel
theorem dX10_stampFits_105 : decode cX10_stampFits 105 = .ok (.invokevirtual 315, 3) := by decide +kernel
theorem dX10_stampFits_108 : decode cX10_stampFits 108 = .ok (.aload_n 0, 1) := by decide +kernel
theorem dX10_stampFits_109 : decode cX10_stampFits 109 = .ok (.getfield 21, 3) := by decide +kernel
theorem dX10_stampFits_112 : decode cX10_stampFits 112 = .ok (.iload_n 1, 1) := by decide +kernel
theorem dX10_stampFits_113 : decode cX10_stampFits 113 = .ok (.bipush 14, 2) := by decide +kernel
theorem dX10_stampFits_115 : decode cX10_stampFits 115 = .ok (.iadd, 1) := by decide +kernel
theorem dX10_stampFits_116 : decode cX10_stampFits 116 = .ok (.invokevirtual 315, 3) := by decide +kernel
theorem dX10_stampFits_119 : decode cX10_stampFits 119 = .ok (.iload 4, 2) := by decide +kernel
theorem dX10_stampFits_121 : decode cX10_stampFits 121 = .ok (.invokestatic 324, 3) := by decide +kernel
theorem dX10_stampFits_124 : decode cX10_stampFits 124 = .ok (.ireturn, 1) := by decide +kernel
theorem dX10_stampFits_125 : decode cX10_stampFits 125 = .ok (.iload 4, 2) := by decide +kernel
theorem dX10_stampFits_127 : decode cX10_stampFits 127 = .ok (.ifCond .eq 9, 3) := by decide +kernel
theorem dX10_stampFits_130 : decode cX10_stampFits 130 = .ok (.iload 4, 2) := by decide +kernel
theorem dX10_stampFits_132 : decode cX10_stampFits 132 = .ok (.iconst 1, 1) := by decide +kernel
theorem dX10_stampFits_133 : decode cX10_stampFits 133 = .ok (.if_icmp .ne 7, 3) := by decide +kernel
theorem dX10_stampFits_136 : decode cX10_stampFits 136 = .ok (.iconst 1, 1) := by decide +kernel
theorem dX10_stampFits_137 : decode cX10_stampFits 137 = .ok (.goto 4, 3) := by decide +kernel
theorem dX10_stampFits_140 : decode cX10_stampFits 140 = .ok (.iconst 0, 1) := by decide +kernel
theorem dX10_stampFits_141 : decode cX10_stampFits 141 = .ok (.ireturn, 1) := by decide +kernel
theorem dX10_stampFits_142 : decode cX10_stampFits 142 = .ok (.iconst 0, 1) := by decide +kernel
theorem dX10_stampFits_143 : decode cX10_stampFits 143 = .ok (.ireturn, 1) := by decide +kernel
theorem dX10_isAlikeHere_0 : decode cX10_isAlikeHere 0 = .ok (.iconst 0, 1) := by decide +kernel
theorem dX10_isAlikeHere_1 : decode cX10_isAlikeHere 1 = .ok (.istore_n 1, 1) := by decide +kernel
theorem dX10_isAlikeHere_2 : decode cX10_isAlikeHere 2 = .ok (.iload_n 1, 1) := by decide +kernel
theorem dX10_isAlikeHere_3 : decode cX10_isAlikeHere 3 = .ok (.aload_n 0, 1) := by decide +kernel
theorem dX10_isAlikeHere_4 : decode cX10_isAlikeHere 4 = .ok (.getfield 55, 3) := by decide +kernel
theorem dX10_isAlikeHere_7 : decode cX10_isAlikeHere 7 = .ok (.getfield 163, 3) := by decide +kernel
theorem dX10_isAlikeHere_10 : decode cX10_isAlikeHere 10 = .ok (.if_icmp .ge 52, 3) := by decide +kernel
theorem dX10_isAlikeHere_13 : decode cX10_isAlikeHere 13 = .ok (.aload_n 0, 1) := by decide +kernel
theorem dX10_isAlikeHere_14 : decode cX10_isAlikeHere 14 = .ok (.getfield 69, 3) := by decide +kernel
theorem dX10_isAlikeHere_17 : decode cX10_isAlikeHere 17 = .ok (.aload_n 0, 1) := by decide +kernel
theorem dX10_isAlikeHere_18 : decode cX10_isAlikeHere 18 = .ok (.getfield 55, 3) := by decide +kernel
theorem dX10_isAlikeHere_21 : decode cX10_isAlikeHere 21 = .ok (.aload_n 0, 1) := by decide +kernel
theorem dX10_isAlikeHere_22 : decode cX10_isAlikeHere 22 = .ok (.getfield 55, 3) := by decide +kernel
theorem dX10_isAlikeHere_25 : decode cX10_isAlikeHere 25 = .ok (.iload_n 1, 1) := by decide +kernel
theorem dX10_isAlikeHere_26 : decode cX10_isAlikeHere 26 = .ok (.invokevirtual 169, 3) := by decide +kernel
theorem dX10_isAlikeHere_29 : decode cX10_isAlikeHere 29 = .ok (.aload_n 0, 1) := by decide +kernel
theorem dX10_isAlikeHere_30 : decode cX10_isAlikeHere 30 = .ok (.getfield 55, 3) := by decide +kernel
theorem dX10_isAlikeHere_33 : decode cX10_isAlikeHere 33 = .ok (.iload_n 1, 1) := by decide +kernel
theorem dX10_isAlikeHere_34 : decode cX10_isAlikeHere 34 = .ok (.invokevirtual 172, 3) := by decide +kernel
theorem dX10_isAlikeHere_37 : decode cX10_isAlikeHere 37 = .ok (.invokevirtual 175, 3) := by decide +kernel
theorem dX10_isAlikeHere_40 : decode cX10_isAlikeHere 40 = .ok (.aload_n 0, 1) := by decide +kernel
theorem dX10_isAlikeHere_41 : decode cX10_isAlikeHere 41 = .ok (.getfield 65, 3) := by decide +kernel
theorem dX10_isAlikeHere_44 : decode cX10_isAlikeHere 44 = .ok (.aload_n 0, 1) := by decide +kernel
theorem dX10_isAlikeHere_45 : decode cX10_isAlikeHere 45 = .ok (.getfield 69, 3) := by decide +kernel
theorem dX10_isAlikeHere_48 : decode cX10_isAlikeHere 48 = .ok (.invokevirtual 334, 3) := by decide +kernel
theorem dX10_isAlikeHere_51 : decode cX10_isAlikeHere 51 = .ok (.ifCond .eq 5, 3) := by decide +kernel
theorem dX10_isAlikeHere_54 : decode cX10_isAlikeHere 54 = .ok (.iconst 1, 1) := by decide +kernel
theorem dX10_isAlikeHere_55 : decode cX10_isAlikeHere 55 = .ok (.ireturn, 1) := by decide +kernel
theorem dX10_isAlikeHere_56 : decode cX10_isAlikeHere 56 = .ok (.iinc 1 1, 3) := by decide +kernel
theorem dX10_isAlikeHere_59 : decode cX10_isAlikeHere 59 = .ok (.goto (-57), 3) := by decide +kernel
theorem dX10_isAlikeHere_62 : decode cX10_isAlikeHere 62 = .ok (.iconst 0, 1) := by decide +kernel
theorem dX10_isAlikeHere_63 : decode cX10_isAlikeHere 63 = .ok (.ireturn, 1) := by decide +kernel
theorem dX10_chooseTail_0 : decode cX10_chooseTail 0 = .ok (.aload_n 0, 1) := by decide +kernel
theorem dX10_chooseTail_1 : decode cX10_chooseTail 1 = .ok (.getfield 75, 3) := by decide +kernel
theorem dX10_chooseTail_4 : decode cX10_chooseTail 4 = .ok (.aload_n 0, 1) := by decide +kernel
theorem dX10_chooseTail_5 : decode cX10_chooseTail 5 = .ok (.getfield 65, 3) := by decide +kernel
theorem dX10_chooseTail_8 : decode cX10_chooseTail 8 = .ok (.invokevirtual 337, 3) := by decide +kernel
theorem dX10_chooseTail_11 : decode cX10_chooseTail 11 = .ok (.iconst 1, 1) := by decide +kernel
theorem dX10_chooseTail_12 : decode cX10_chooseTail 12 = .ok (.istore_n 1, 1) := by decide +kernel
theorem dX10_chooseTail_13 : decode cX10_chooseTail 13 = .ok (.iload_n 1, 1) := by decide +kernel
theorem dX10_chooseTail_14 : decode cX10_chooseTail 14 = .ok (.aload_n 0, 1) := by decide +kernel
theorem dX10_chooseTail_15 : decode cX10_chooseTail 15 = .ok (.getfield 55, 3) := by decide +kernel
theorem dX10_chooseTail_18 : decode cX10_chooseTail 18 = .ok (.getfield 163, 3) := by decide +kernel
theorem dX10_chooseTail_21 : decode cX10_chooseTail 21 = .ok (.iconst 1, 1) := by decide +kernel
theorem dX10_chooseTail_22 : decode cX10_chooseTail 22 = .ok (.iadd, 1) := by decide +kernel
theorem dX10_chooseTail_23 : decode cX10_chooseTail 23 = .ok (.if_icmp .gt 32, 3) := by decide +kernel
theorem dX10_chooseTail_26 : decode cX10_chooseTail 26 = .ok (.aload_n 0, 1) := by decide +kernel
theorem dX10_chooseTail_27 : decode cX10_chooseTail 27 = .ok (.getfield 75, 3) := by decide +kernel
theorem dX10_chooseTail_30 : decode cX10_chooseTail 30 = .ok (.iload_n 1, 1) := by decide +kernel
theorem dX10_chooseTail_31 : decode cX10_chooseTail 31 = .ok (.invokevirtual 341, 3) := by decide +kernel
theorem dX10_chooseTail_34 : decode cX10_chooseTail 34 = .ok (.aload_n 0, 1) := by decide +kernel
theorem dX10_chooseTail_35 : decode cX10_chooseTail 35 = .ok (.getfield 55, 3) := by decide +kernel
theorem dX10_chooseTail_38 : decode cX10_chooseTail 38 = .ok (.aload_n 0, 1) := by decide +kernel
theorem dX10_chooseTail_39 : decode cX10_chooseTail 39 = .ok (.getfield 75, 3) := by decide +kernel
theorem dX10_chooseTail_42 : decode cX10_chooseTail 42 = .ok (.invokevirtual 232, 3) := by decide +kernel
theorem dX10_chooseTail_45 : decode cX10_chooseTail 45 = .ok (.ifCond .ne 4, 3) := by decide +kernel
theorem dX10_chooseTail_48 : decode cX10_chooseTail 48 = .ok (.return_, 1) := by decide +kernel
theorem dX10_chooseTail_49 : decode cX10_chooseTail 49 = .ok (.iinc 1 1, 3) := by decide +kernel
theorem dX10_chooseTail_52 : decode cX10_chooseTail 52 = .ok (.goto (-39), 3) := by decide +kernel
theorem dX10_chooseTail_55 : decode cX10_chooseTail 55 = .ok (.return_, 1) := by decide +kernel
theorem dX10_makeDirectory_0 : decode cX10_makeDirectory 0 = .ok (.aload_n 0, 1) := by decide +kernel
theorem dX10_makeDirectory_1 : decode cX10_makeDirectory 1 = .ok (.getfield 39, 3) := by decide +kernel
theorem dX10_makeDirectory_4 : decode cX10_makeDirectory 4 = .ok (.invokevirtual 344, 3) := by decide +kernel
theorem dX10_makeDirectory_7 : decode cX10_makeDirectory 7 = .ok (.istore_n 1, 1) := by decide +kernel
theorem dX10_makeDirectory_8 : decode cX10_makeDirectory 8 = .ok (.aload_n 0, 1) := by decide +kernel
theorem dX10_makeDirectory_9 : decode cX10_makeDirectory 9 = .ok (.getfield 39, 3) := by decide +kernel
theorem dX10_makeDirectory_12 : decode cX10_makeDirectory 12 = .ok (.iload_n 1, 1) := by decide +kernel
theorem dX10_makeDirectory_13 : decode cX10_makeDirectory 13 = .ok (.invokevirtual 122, 3) := by decide +kernel
theorem dX10_makeDirectory_16 : decode cX10_makeDirectory 16 = .ok (.istore_n 2, 1) := by decide +kernel
theorem dX10_makeDirectory_17 : decode cX10_makeDirectory 17 = .ok (.aload_n 0, 1) := by decide +kernel
theorem dX10_makeDirectory_18 : decode cX10_makeDirectory 18 = .ok (.iload_n 2, 1) := by decide +kernel
theorem dX10_makeDirectory_19 : decode cX10_makeDirectory 19 = .ok (.iconst 1, 1) := by decide +kernel
theorem dX10_makeDirectory_20 : decode cX10_makeDirectory 20 = .ok (.iload_n 1, 1) := by decide +kernel
theorem dX10_makeDirectory_21 : decode cX10_makeDirectory 21 = .ok (.invokevirtual 347, 3) := by decide +kernel
theorem dX10_makeDirectory_24 : decode cX10_makeDirectory 24 = .ok (.aload_n 0, 1) := by decide +kernel
theorem dX10_makeDirectory_25 : decode cX10_makeDirectory 25 = .ok (.iload_n 2, 1) := by decide +kernel
theorem dX10_makeDirectory_26 : decode cX10_makeDirectory 26 = .ok (.bipush 32, 2) := by decide +kernel
theorem dX10_makeDirectory_28 : decode cX10_makeDirectory 28 = .ok (.iadd, 1) := by decide +kernel
theorem dX10_makeDirectory_29 : decode cX10_makeDirectory 29 = .ok (.iconst 2, 1) := by decide +kernel
theorem dX10_makeDirectory_30 : decode cX10_makeDirectory 30 = .ok (.aload_n 0, 1) := by decide +kernel
theorem dX10_makeDirectory_31 : decode cX10_makeDirectory 31 = .ok (.getfield 79, 3) := by decide +kernel
theorem dX10_makeDirectory_34 : decode cX10_makeDirectory 34 = .ok (.invokevirtual 347, 3) := by decide +kernel
theorem dX10_makeDirectory_37 : decode cX10_makeDirectory 37 = .ok (.iload_n 1, 1) := by decide +kernel
theorem dX10_makeDirectory_38 : decode cX10_makeDirectory 38 = .ok (.ireturn, 1) := by decide +kernel
theorem dX10_writePoints_0 : decode cX10_writePoints 0 = .ok (.aload_n 0, 1) := by decide +kernel
theorem dX10_writePoints_1 : decode cX10_writePoints 1 = .ok (.getfield 21, 3) := by decide +kernel
theorem dX10_writePoints_4 : decode cX10_writePoints 4 = .ok (.iload_n 1, 1) := by decide +kernel
theorem dX10_writePoints_5 : decode cX10_writePoints 5 = .ok (.bipush 11, 2) := by decide +kernel
theorem dX10_writePoints_7 : decode cX10_writePoints 7 = .ok (.bipush 32, 2) := by decide +kernel
theorem dX10_writePoints_9 : decode cX10_writePoints 9 = .ok (.invokevirtual 350, 3) := by decide +kernel
theorem dX10_writePoints_12 : decode cX10_writePoints 12 = .ok (.aload_n 0, 1) := by decide +kernel
theorem dX10_writePoints_13 : decode cX10_writePoints 13 = .ok (.getfield 21, 3) := by decide +kernel
theorem dX10_writePoints_16 : decode cX10_writePoints 16 = .ok (.iload_n 1, 1) := by decide +kernel
theorem dX10_writePoints_17 : decode cX10_writePoints 17 = .ok (.iload_n 2, 1) := by decide +kernel
theorem dX10_writePoints_18 : decode cX10_writePoints 18 = .ok (.bipush 46, 2) := by decide +kernel
theorem dX10_writePoints_20 : decode cX10_writePoints 20 = .ok (.invokevirtual 350, 3) := by decide +kernel
theorem dX10_writePoints_23 : decode cX10_writePoints 23 = .ok (.aload_n 0, 1) := by decide +kernel
theorem dX10_writePoints_24 : decode cX10_writePoints 24 = .ok (.getfield 21, 3) := by decide +kernel
theorem dX10_writePoints_27 : decode cX10_writePoints 27 = .ok (.iload_n 1, 1) := by decide +kernel
theorem dX10_writePoints_28 : decode cX10_writePoints 28 = .ok (.bipush 11, 2) := by decide +kernel
theorem dX10_writePoints_30 : decode cX10_writePoints 30 = .ok (.iadd, 1) := by decide +kernel
theorem dX10_writePoints_31 : decode cX10_writePoints 31 = .ok (.bipush 16, 2) := by decide +kernel
theorem dX10_writePoints_33 : decode cX10_writePoints 33 = .ok (.invokevirtual 139, 3) := by decide +kernel
theorem dX10_writePoints_36 : decode cX10_writePoints 36 = .ok (.aload_n 0, 1) := by decide +kernel
theorem dX10_writePoints_37 : decode cX10_writePoints 37 = .ok (.getfield 21, 3) := by decide +kernel
theorem dX10_writePoints_40 : decode cX10_writePoints 40 = .ok (.iload_n 1, 1) := by decide +kernel
theorem dX10_writePoints_41 : decode cX10_writePoints 41 = .ok (.iload_n 3, 1) := by decide +kernel
theorem dX10_writePoints_42 : decode cX10_writePoints 42 = .ok (.invokevirtual 353, 3) := by decide +kernel
theorem dX10_writePoints_45 : decode cX10_writePoints 45 = .ok (.aload_n 0, 1) := by decide +kernel
theorem dX10_writePoints_46 : decode cX10_writePoints 46 = .ok (.getfield 21, 3) := by decide +kernel
theorem dX10_writePoints_49 : decode cX10_writePoints 49 = .ok (.iload_n 1, 1) := by decide +kernel
theorem dX10_writePoints_50 : decode cX10_writePoints 50 = .ok (.bipush 24, 2) := by decide +kernel
theorem dX10_writePoints_52 : decode cX10_writePoints 52 = .ok (.iadd, 1) := by decide +kernel
theorem dX10_writePoints_53 : decode cX10_writePoints 53 = .ok (.bipush 33, 2) := by decide +kernel
theorem dX10_writePoints_55 : decode cX10_writePoints 55 = .ok (.invokevirtual 300, 3) := by decide +kernel
theorem dX10_writePoints_58 : decode cX10_writePoints 58 = .ok (.return_, 1) := by decide +kernel
theorem dX10_writeEntry_0 : decode cX10_writeEntry 0 = .ok (.aload_n 0, 1) := by decide +kernel
theorem dX10_writeEntry_1 : decode cX10_writeEntry 1 = .ok (.getfield 21, 3) := by decide +kernel
theorem dX10_writeEntry_4 : decode cX10_writeEntry 4 = .ok (.iload_n 1, 1) := by decide +kernel
theorem dX10_writeEntry_5 : decode cX10_writeEntry 5 = .ok (.bipush 32, 2) := by decide +kernel
theorem dX10_writeEntry_7 : decode cX10_writeEntry 7 = .ok (.iconst 0, 1) := by decide +kernel
theorem dX10_writeEntry_8 : decode cX10_writeEntry 8 = .ok (.invokevirtual 350, 3) := by decide +kernel
theorem dX10_writeEntry_11 : decode cX10_writeEntry 11 = .ok (.aload_n 0, 1) := by decide +kernel
theorem dX10_writeEntry_12 : decode cX10_writeEntry 12 = .ok (.getfield 75, 3) := by decide +kernel
theorem dX10_writeEntry_15 : decode cX10_writeEntry 15 = .ok (.aload_n 0, 1) := by decide +kernel
theorem dX10_writeEntry_16 : decode cX10_writeEntry 16 = .ok (.getfield 21, 3) := by decide +kernel
theorem dX10_writeEntry_19 : decode cX10_writeEntry 19 = .ok (.iload_n 1, 1) := by decide +kernel
theorem dX10_writeEntry_20 : decode cX10_writeEntry 20 = .ok (.invokevirtual 356, 3) := by decide +kernel
theorem dX10_writeEntry_23 : decode cX10_writeEntry 23 = .ok (.aload_n 0, 1) := by decide +kernel
theorem dX10_writeEntry_24 : decode cX10_writeEntry 24 = .ok (.getfield 21, 3) := by decide +kernel
theorem dX10_writeEntry_27 : decode cX10_writeEntry 27 = .ok (.iload_n 1, 1) := by decide +kernel
theorem dX10_writeEntry_28 : decode cX10_writeEntry 28 = .ok (.bipush 11, 2) := by decide +kernel
theorem dX10_writeEntry_30 : decode cX10_writeEntry 30 = .ok (.iadd, 1) := by decide +kernel
theorem dX10_writeEntry_31 : decode cX10_writeEntry 31 = .ok (.iload_n 2, 1) := by decide +kernel
theorem dX10_writeEntry_32 : decode cX10_writeEntry 32 = .ok (.invokevirtual 139, 3) := by decide +kernel
theorem dX10_writeEntry_35 : decode cX10_writeEntry 35 = .ok (.aload_n 0, 1) := by decide +kernel
theorem dX10_writeEntry_36 : decode cX10_writeEntry 36 = .ok (.getfield 21, 3) := by decide +kernel
theorem dX10_writeEntry_39 : decode cX10_writeEntry 39 = .ok (.iload_n 1, 1) := by decide +kernel
theorem dX10_writeEntry_40 : decode cX10_writeEntry 40 = .ok (.bipush 24, 2) := by decide +kernel
theorem dX10_writeEntry_42 : decode cX10_writeEntry 42 = .ok (.iadd, 1) := by decide +kernel
theorem dX10_writeEntry_43 : decode cX10_writeEntry 43 = .ok (.bipush 33, 2) := by decide +kernel
theorem dX10_writeEntry_45 : decode cX10_writeEntry 45 = .ok (.invokevirtual 300, 3) := by decide +kernel
theorem dX10_writeEntry_48 : decode cX10_writeEntry 48 = .ok (.aload_n 0, 1) := by decide +kernel
theorem dX10_writeEntry_49 : decode cX10_writeEntry 49 = .ok (.getfield 21, 3) := by decide +kernel
theorem dX10_writeEntry_52 : decode cX10_writeEntry 52 = .ok (.iload_n 1, 1) := by decide +kernel
theorem dX10_writeEntry_53 : decode cX10_writeEntry 53 = .ok (.iload_n 3, 1) := by decide +kernel
theorem dX10_writeEntry_54 : decode cX10_writeEntry 54 = .ok (.invokevirtual 353, 3) := by decide +kernel
theorem dX10_writeEntry_57 : decode cX10_writeEntry 57 = .ok (.return_, 1) := by decide +kernel
theorem dX10_placeEntry_0 : decode cX10_placeEntry 0 = .ok (.iload_n 1, 1) := by decide +kernel
theorem dX10_placeEntry_1 : decode cX10_placeEntry 1 = .ok (.iload_n 2, 1) := by decide +kernel
theorem dX10_placeEntry_2 : decode cX10_placeEntry 2 = .ok (.iadd, 1) := by decide +kernel
theorem dX10_placeEntry_3 : decode cX10_placeEntry 3 = .ok (.istore 5, 2) := by decide +kernel
theorem dX10_placeEntry_5 : decode cX10_placeEntry 5 = .ok (.aload_n 0, 1) := by decide +kernel
theorem dX10_placeEntry_6 : decode cX10_placeEntry 6 = .ok (.aload_n 0, 1) := by decide +kernel
theorem dX10_placeEntry_7 : decode cX10_placeEntry 7 = .ok (.getfield 55, 3) := by decide +kernel
theorem dX10_placeEntry_10 : decode cX10_placeEntry 10 = .ok (.iload 5, 2) := by decide +kernel
theorem dX10_placeEntry_12 : decode cX10_placeEntry 12 = .ok (.invokevirtual 217, 3) := by decide +kernel
theorem dX10_placeEntry_15 : decode cX10_placeEntry 15 = .ok (.iload_n 3, 1) := by decide +kernel
theorem dX10_placeEntry_16 : decode cX10_placeEntry 16 = .ok (.iload 4, 2) := by decide +kernel
theorem dX10_placeEntry_18 : decode cX10_placeEntry 18 = .ok (.invokevirtual 125, 3) := by decide +kernel
theorem dX10_placeEntry_21 : decode cX10_placeEntry 21 = .ok (.iconst 1, 1) := by decide +kernel
theorem dX10_placeEntry_22 : decode cX10_placeEntry 22 = .ok (.istore 6, 2) := by decide +kernel
theorem dX10_placeEntry_24 : decode cX10_placeEntry 24 = .ok (.iload 6, 2) := by decide +kernel
theorem dX10_placeEntry_26 : decode cX10_placeEntry 26 = .ok (.iload_n 2, 1) := by decide +kernel
theorem dX10_placeEntry_27 : decode cX10_placeEntry 27 = .ok (.if_icmp .gt 61, 3) := by decide +kernel
theorem dX10_placeEntry_30 : decode cX10_placeEntry 30 = .ok (.iload 6, 2) := by decide +kernel
theorem dX10_placeEntry_32 : decode cX10_placeEntry 32 = .ok (.iload_n 2, 1) := by decide +kernel
theorem dX10_placeEntry_33 : decode cX10_placeEntry 33 = .ok (.if_icmp .ne 11, 3) := by decide +kernel
theorem dX10_placeEntry_36 : decode cX10_placeEntry 36 = .ok (.iload 6, 2) := by decide +kernel
theorem dX10_placeEntry_38 : decode cX10_placeEntry 38 = .ok (.bipush 64, 2) := by decide +kernel
theorem dX10_placeEntry_40 : decode cX10_placeEntry 40 = .ok (.iadd, 1) := by decide +kernel
theorem dX10_placeEntry_41 : decode cX10_placeEntry 41 = .ok (.goto 5, 3) := by decide +kernel
theorem dX10_placeEntry_44 : decode cX10_placeEntry 44 = .ok (.iload 6, 2) := by decide +kernel
theorem dX10_placeEntry_46 : decode cX10_placeEntry 46 = .ok (.istore 7, 2) := by decide +kernel
theorem dX10_placeEntry_48 : decode cX10_placeEntry 48 = .ok (.aload_n 0, 1) := by decide +kernel
theorem dX10_placeEntry_49 : decode cX10_placeEntry 49 = .ok (.getfield 65, 3) := by decide +kernel
theorem dX10_placeEntry_52 : decode cX10_placeEntry 52 = .ok (.aload_n 0, 1) := by decide +kernel
theorem dX10_placeEntry_53 : decode cX10_placeEntry 53 = .ok (.getfield 21, 3) := by decide +kernel
theorem dX10_placeEntry_56 : decode cX10_placeEntry 56 = .ok (.aload_n 0, 1) := by decide +kernel
theorem dX10_placeEntry_57 : decode cX10_placeEntry 57 = .ok (.getfield 55, 3) := by decide +kernel
theorem dX10_placeEntry_60 : decode cX10_placeEntry 60 = .ok (.iload 5, 2) := by decide +kernel
theorem dX10_placeEntry_62 : decode cX10_placeEntry 62 = .ok (.iload 6, 2) := by decide +kernel
theorem dX10_placeEntry_64 : decode cX10_placeEntry 64 = .ok (.isub, 1) := by decide +kernel
theorem dX10_placeEntry_65 : decode cX10_placeEntry 65 = .ok (.invokevirtual 217, 3) := by decide +kernel
theorem dX10_placeEntry_68 : decode cX10_placeEntry 68 = .ok (.iload 6, 2) := by decide +kernel
theorem dX10_placeEntry_70 : decode cX10_placeEntry 70 = .ok (.iload 7, 2) := by decide +kernel
theorem dX10_placeEntry_72 : decode cX10_placeEntry 72 = .ok (.aload_n 0, 1) := by decide +kernel
theorem dX10_placeEntry_73 : decode cX10_placeEntry 73 = .ok (.getfield 75, 3) := by decide +kernel
theorem dX10_placeEntry_76 : decode cX10_placeEntry 76 = .ok (.invokevirtual 360, 3) := by decide +kernel
theorem dX10_placeEntry_79 : decode cX10_placeEntry 79 = .ok (.invokevirtual 363, 3) := by decide +kernel
theorem dX10_placeEntry_82 : decode cX10_placeEntry 82 = .ok (.iinc 6 1, 3) := by decide +kernel
theorem dX10_placeEntry_85 : decode cX10_placeEntry 85 = .ok (.goto (-61), 3) := by decide +kernel
theorem dX10_placeEntry_88 : decode cX10_placeEntry 88 = .ok (.iload 5, 2) := by decide +kernel
theorem dX10_placeEntry_90 : decode cX10_placeEntry 90 = .ok (.iconst 1, 1) := by decide +kernel
theorem dX10_placeEntry_91 : decode cX10_placeEntry 91 = .ok (.iadd, 1) := by decide +kernel
theorem dX10_placeEntry_92 : decode cX10_placeEntry 92 = .ok (.istore 6, 2) := by decide +kernel
theorem dX10_placeEntry_94 : decode cX10_placeEntry 94 = .ok (.iload 6, 2) := by decide +kernel
theorem dX10_placeEntry_96 : decode cX10_placeEntry 96 = .ok (.aload_n 0, 1) := by decide +kernel
theorem dX10_placeEntry_97 : decode cX10_placeEntry 97 = .ok (.getfield 55, 3) := by decide +kernel
theorem dX10_placeEntry_100 : decode cX10_placeEntry 100 = .ok (.getfield 367, 3) := by decide +kernel
theorem dX10_placeEntry_103 : decode cX10_placeEntry 103 = .ok (.if_icmp .lt 32, 3) := by decide +kernel
theorem dX10_placeEntry_106 : decode cX10_placeEntry 106 = .ok (.iload 6, 2) := by decide +kernel
theorem dX10_placeEntry_108 : decode cX10_placeEntry 108 = .ok (.aload_n 0, 1) := by decide +kernel
theorem dX10_placeEntry_109 : decode cX10_placeEntry 109 = .ok (.getfield 55, 3) := by decide +kernel
theorem dX10_placeEntry_112 : decode cX10_placeEntry 112 = .ok (.getfield 370, 3) := by decide +kernel
theorem dX10_placeEntry_115 : decode cX10_placeEntry 115 = .ok (.if_icmp .ge 20, 3) := by decide +kernel
theorem dX10_placeEntry_118 : decode cX10_placeEntry 118 = .ok (.aload_n 0, 1) := by decide +kernel
theorem dX10_placeEntry_119 : decode cX10_placeEntry 119 = .ok (.getfield 21, 3) := by decide +kernel
theorem dX10_placeEntry_122 : decode cX10_placeEntry 122 = .ok (.aload_n 0, 1) := by decide +kernel
theorem dX10_placeEntry_123 : decode cX10_placeEntry 123 = .ok (.getfield 55, 3) := by decide +kernel
theorem dX10_placeEntry_126 : decode cX10_placeEntry 126 = .ok (.iload 6, 2) := by decide +kernel
theorem dX10_placeEntry_128 : decode cX10_placeEntry 128 = .ok (.invokevirtual 217, 3) := by decide +kernel
theorem dX10_placeEntry_131 : decode cX10_placeEntry 131 = .ok (.iconst 0, 1) := by decide +kernel
theorem dX10_placeEntry_132 : decode cX10_placeEntry 132 = .ok (.invokevirtual 139, 3) := by decide +kernel
theorem dX10_placeEntry_135 : decode cX10_placeEntry 135 = .ok (.return_, 1) := by decide +kernel
theorem dX10_lengthenFile_0 : decode cX10_lengthenFile 0 = .ok (.aload_n 0, 1) := by decide +kernel
theorem dX10_lengthenFile_1 : decode cX10_lengthenFile 1 = .ok (.getfield 21, 3) := by decide +kernel
theorem dX10_lengthenFile_4 : decode cX10_lengthenFile 4 = .ok (.iload_n 1, 1) := by decide +kernel
theorem dX10_lengthenFile_5 : decode cX10_lengthenFile 5 = .ok (.bipush 28, 2) := by decide +kernel
theorem dX10_lengthenFile_7 : decode cX10_lengthenFile 7 = .ok (.iadd, 1) := by decide +kernel
theorem dX10_lengthenFile_8 : decode cX10_lengthenFile 8 = .ok (.invokevirtual 195, 3) := by decide +kernel
theorem dX10_lengthenFile_11 : decode cX10_lengthenFile 11 = .ok (.istore 5, 2) := by decide +kernel
theorem dX10_lengthenFile_13 : decode cX10_lengthenFile 13 = .ok (.aload_n 0, 1) := by decide +kernel
theorem dX10_lengthenFile_14 : decode cX10_lengthenFile 14 = .ok (.iload_n 1, 1) := by decide +kernel
theorem dX10_lengthenFile_15 : decode cX10_lengthenFile 15 = .ok (.iload_n 2, 1) := by decide +kernel
theorem dX10_lengthenFile_16 : decode cX10_lengthenFile 16 = .ok (.invokevirtual 373, 3) := by decide +kernel
theorem dX10_lengthenFile_19 : decode cX10_lengthenFile 19 = .ok (.new 376, 3) := by decide +kernel
theorem dX10_lengthenFile_22 : decode cX10_lengthenFile 22 = .ok (.dup, 1) := by decide +kernel
theorem dX10_lengthenFile_23 : decode cX10_lengthenFile 23 = .ok (.aload_n 0, 1) := by decide +kernel
theorem dX10_lengthenFile_24 : decode cX10_lengthenFile 24 = .ok (.getfield 39, 3) := by decide +kernel
theorem dX10_lengthenFile_27 : decode cX10_lengthenFile 27 = .ok (.iload_n 1, 1) := by decide +kernel
theorem dX10_lengthenFile_28 : decode cX10_lengthenFile 28 = .ok (.invokespecial 378, 3) := by decide +kernel
theorem dX10_lengthenFile_31 : decode cX10_lengthenFile 31 = .ok (.astore 6, 2) := by decide +kernel
theorem dX10_lengthenFile_33 : decode cX10_lengthenFile 33 = .ok (.iconst 0, 1) := by decide +kernel
theorem dX10_lengthenFile_34 : decode cX10_lengthenFile 34 = .ok (.istore 7, 2) := by decide +kernel
theorem dX10_lengthenFile_36 : decode cX10_lengthenFile 36 = .ok (.iload 7, 2) := by decide +kernel
theorem dX10_lengthenFile_38 : decode cX10_lengthenFile 38 = .ok (.iload_n 2, 1) := by decide +kernel
theorem dX10_lengthenFile_39 : decode cX10_lengthenFile 39 = .ok (.if_icmp .ge 44, 3) := by decide +kernel
theorem dX10_lengthenFile_42 : decode cX10_lengthenFile 42 = .ok (.aload 6, 2) := by decide +kernel
theorem dX10_lengthenFile_44 : decode cX10_lengthenFile 44 = .ok (.iload_n 3, 1) := by decide +kernel
theorem dX10_lengthenFile_45 : decode cX10_lengthenFile 45 = .ok (.ifCond .eq 15, 3) := by decide +kernel
theorem dX10_lengthenFile_48 : decode cX10_lengthenFile 48 = .ok (.aload_n 0, 1) := by decide +kernel
theorem dX10_lengthenFile_49 : decode cX10_lengthenFile 49 = .ok (.getfield 30, 3) := by decide +kernel
theorem dX10_lengthenFile_52 : decode cX10_lengthenFile 52 = .ok (.iload 7, 2) := by decide +kernel
theorem dX10_lengthenFile_54 : decode cX10_lengthenFile 54 = .ok (.invokevirtual 381, 3) := by decide +kernel
theorem dX10_lengthenFile_57 : decode cX10_lengthenFile 57 = .ok (.goto 17, 3) := by decide +kernel
theorem dX10_lengthenFile_60 : decode cX10_lengthenFile 60 = .ok (.iload 4, 2) := by decide +kernel
theorem dX10_lengthenFile_62 : decode cX10_lengthenFile 62 = .ok (.iload 7, 2) := by decide +kernel
theorem dX10_lengthenFile_64 : decode cX10_lengthenFile 64 = .ok (.iload 7, 2) := by decide +kernel
theorem dX10_lengthenFile_66 : decode cX10_lengthenFile 66 = .ok (.imul, 1) := by decide +kernel
theorem dX10_lengthenFile_67 : decode cX10_lengthenFile 67 = .ok (.iadd, 1) := by decide +kernel
theorem dX10_lengthenFile_68 : decode cX10_lengthenFile 68 = .ok (.iload 7, 2) := by decide +kernel
theorem dX10_lengthenFile_70 : decode cX10_lengthenFile 70 = .ok (.bipush 8, 2) := by decide +kernel
theorem dX10_lengthenFile_72 : decode cX10_lengthenFile 72 = .ok (.ishr, 1) := by decide +kernel
theorem dX10_lengthenFile_73 : decode cX10_lengthenFile 73 = .ok (.iadd, 1) := by decide +kernel
theorem dX10_lengthenFile_74 : decode cX10_lengthenFile 74 = .ok (.invokevirtual 384, 3) := by decide +kernel
theorem dX10_lengthenFile_77 : decode cX10_lengthenFile 77 = .ok (.iinc 7 1, 3) := by decide +kernel
theorem dX10_lengthenFile_80 : decode cX10_lengthenFile 80 = .ok (.goto (-44), 3) := by decide +kernel
theorem dX10_lengthenFile_83 : decode cX10_lengthenFile 83 = .ok (.aload_n 0, 1) := by decide +kernel
theorem dX10_lengthenFile_84 : decode cX10_lengthenFile 84 = .ok (.getfield 21, 3) := by decide +kernel
theorem dX10_lengthenFile_87 : decode cX10_lengthenFile 87 = .ok (.iload_n 1, 1) := by decide +kernel
theorem dX10_lengthenFile_88 : decode cX10_lengthenFile 88 = .ok (.bipush 28, 2) := by decide +kernel
theorem dX10_lengthenFile_90 : decode cX10_lengthenFile 90 = .ok (.iadd, 1) := by decide +kernel
theorem dX10_lengthenFile_91 : decode cX10_lengthenFile 91 = .ok (.iload 5, 2) := by decide +kernel
theorem dX10_lengthenFile_93 : decode cX10_lengthenFile 93 = .ok (.iload_n 2, 1) := by decide +kernel
theorem dX10_lengthenFile_94 : decode cX10_lengthenFile 94 = .ok (.iadd, 1) := by decide +kernel
theorem dX10_lengthenFile_95 : decode cX10_lengthenFile 95 = .ok (.invokevirtual 286, 3) := by decide +kernel
theorem dX10_lengthenFile_98 : decode cX10_lengthenFile 98 = .ok (.iload 5, 2) := by decide +kernel
theorem dX10_lengthenFile_100 : decode cX10_lengthenFile 100 = .ok (.iload_n 2, 1) := by decide +kernel
theorem dX10_lengthenFile_101 : decode cX10_lengthenFile 101 = .ok (.iadd, 1) := by decide +kernel
theorem dX10_lengthenFile_102 : decode cX10_lengthenFile 102 = .ok (.ireturn, 1) := by decide +kernel
theorem dX10_makeRoom_0 : decode cX10_makeRoom 0 = .ok (.aload_n 0, 1) := by decide +kernel
theorem dX10_makeRoom_1 : decode cX10_makeRoom 1 = .ok (.getfield 21, 3) := by decide +kernel
theorem dX10_makeRoom_4 : decode cX10_makeRoom 4 = .ok (.iload_n 1, 1) := by decide +kernel
theorem dX10_makeRoom_5 : decode cX10_makeRoom 5 = .ok (.bipush 28, 2) := by decide +kernel
theorem dX10_makeRoom_7 : decode cX10_makeRoom 7 = .ok (.iadd, 1) := by decide +kernel
theorem dX10_makeRoom_8 : decode cX10_makeRoom 8 = .ok (.invokevirtual 195, 3) := by decide +kernel
theorem dX10_makeRoom_11 : decode cX10_makeRoom 11 = .ok (.istore_n 3, 1) := by decide +kernel
theorem dX10_makeRoom_12 : decode cX10_makeRoom 12 = .ok (.aload_n 0, 1) := by decide +kernel
theorem dX10_makeRoom_13 : decode cX10_makeRoom 13 = .ok (.getfield 39, 3) := by decide +kernel
theorem dX10_makeRoom_16 : decode cX10_makeRoom 16 = .ok (.iload_n 3, 1) := by decide +kernel
theorem dX10_makeRoom_17 : decode cX10_makeRoom 17 = .ok (.iload_n 2, 1) := by decide +kernel
theorem dX10_makeRoom_18 : decode cX10_makeRoom 18 = .ok (.iadd, 1) := by decide +kernel
theorem dX10_makeRoom_19 : decode cX10_makeRoom 19 = .ok (.invokevirtual 280, 3) := by decide +kernel
theorem dX10_makeRoom_22 : decode cX10_makeRoom 22 = .ok (.aload_n 0, 1) := by decide +kernel
theorem dX10_makeRoom_23 : decode cX10_makeRoom 23 = .ok (.getfield 39, 3) := by decide +kernel
theorem dX10_makeRoom_26 : decode cX10_makeRoom 26 = .ok (.iload_n 3, 1) := by decide +kernel
theorem dX10_makeRoom_27 : decode cX10_makeRoom 27 = .ok (.invokevirtual 280, 3) := by decide +kernel
theorem dX10_makeRoom_30 : decode cX10_makeRoom 30 = .ok (.isub, 1) := by decide +kernel
theorem dX10_makeRoom_31 : decode cX10_makeRoom 31 = .ok (.istore 4, 2) := by decide +kernel
theorem dX10_makeRoom_33 : decode cX10_makeRoom 33 = .ok (.iload 4, 2) := by decide +kernel
theorem dX10_makeRoom_35 : decode cX10_makeRoom 35 = .ok (.aload_n 0, 1) := by decide +kernel
theorem dX10_makeRoom_36 : decode cX10_makeRoom 36 = .ok (.getfield 39, 3) := by decide +kernel
theorem dX10_makeRoom_39 : decode cX10_makeRoom 39 = .ok (.invokevirtual 157, 3) := by decide +kernel
theorem dX10_makeRoom_42 : decode cX10_makeRoom 42 = .ok (.if_icmp .le 13, 3) := by decide +kernel
theorem dX10_makeRoom_45 : decode cX10_makeRoom 45 = .ok (.new 250, 3) := by decide +kernel
theorem dX10_makeRoom_48 : decode cX10_makeRoom 48 = .ok (.dup, 1) := by decide +kernel
theorem dX10_makeRoom_49 : decode cX10_makeRoom 49 = .ok (.ldc 252, 2) := by decide +kernel
theorem dX10_makeRoom_51 : decode cX10_makeRoom 51 = .ok (.invokespecial 254, 3) := by decide +kernel
theorem dX10_makeRoom_54 : decode cX10_makeRoom 54 = .ok (.athrow, 1) := by decide +kernel
theorem dX10_makeRoom_55 : decode cX10_makeRoom 55 = .ok (.aload_n 0, 1) := by decide +kernel
theorem dX10_makeRoom_56 : decode cX10_makeRoom 56 = .ok (.getfield 39, 3) := by decide +kernel
theorem dX10_makeRoom_59 : decode cX10_makeRoom 59 = .ok (.aload_n 0, 1) := by decide +kernel
theorem dX10_makeRoom_60 : decode cX10_makeRoom 60 = .ok (.getfield 21, 3) := by decide +kernel
theorem dX10_makeRoom_63 : decode cX10_makeRoom 63 = .ok (.iload_n 1, 1) := by decide +kernel
theorem dX10_makeRoom_64 : decode cX10_makeRoom 64 = .ok (.invokevirtual 200, 3) := by decide +kernel
theorem dX10_makeRoom_67 : decode cX10_makeRoom 67 = .ok (.invokevirtual 386, 3) := by decide +kernel
theorem dX10_makeRoom_70 : decode cX10_makeRoom 70 = .ok (.istore 5, 2) := by decide +kernel
theorem dX10_makeRoom_72 : decode cX10_makeRoom 72 = .ok (.iconst 0, 1) := by decide +kernel
theorem dX10_makeRoom_73 : decode cX10_makeRoom 73 = .ok (.istore 6, 2) := by decide +kernel
theorem dX10_makeRoom_75 : decode cX10_makeRoom 75 = .ok (.iload 6, 2) := by decide +kernel
theorem dX10_makeRoom_77 : decode cX10_makeRoom 77 = .ok (.iload 4, 2) := by decide +kernel
theorem dX10_makeRoom_79 : decode cX10_makeRoom 79 = .ok (.if_icmp .ge 51, 3) := by decide +kernel
theorem dX10_makeRoom_82 : decode cX10_makeRoom 82 = .ok (.aload_n 0, 1) := by decide +kernel
theorem dX10_makeRoom_83 : decode cX10_makeRoom 83 = .ok (.getfield 39, 3) := by decide +kernel
theorem dX10_makeRoom_86 : decode cX10_makeRoom 86 = .ok (.invokevirtual 344, 3) := by decide +kernel
theorem dX10_makeRoom_89 : decode cX10_makeRoom 89 = .ok (.istore 7, 2) := by decide +kernel
theorem dX10_makeRoom_91 : decode cX10_makeRoom 91 = .ok (.iload 5, 2) := by decide +kernel
theorem dX10_makeRoom_93 : decode cX10_makeRoom 93 = .ok (.ifCond .ne 16, 3) := by decide +kernel
theorem dX10_makeRoom_96 : decode cX10_makeRoom 96 = .ok (.aload_n 0, 1) := by decide +kernel
theorem dX10_makeRoom_97 : decode cX10_makeRoom 97 = .ok (.getfield 21, 3) := by decide +kernel
theorem dX10_makeRoom_100 : decode cX10_makeRoom 100 = .ok (.iload_n 1, 1) := by decide +kernel
theorem dX10_makeRoom_101 : decode cX10_makeRoom 101 = .ok (.iload 7, 2) := by decide +kernel
theorem dX10_makeRoom_103 : decode cX10_makeRoom 103 = .ok (.invokevirtual 353, 3) := by decide +kernel
theorem dX10_makeRoom_106 : decode cX10_makeRoom 106 = .ok (.goto 14, 3) := by decide +kernel
theorem dX10_makeRoom_109 : decode cX10_makeRoom 109 = .ok (.aload_n 0, 1) := by decide +kernel
theorem dX10_makeRoom_110 : decode cX10_makeRoom 110 = .ok (.getfield 39, 3) := by decide +kernel
theorem dX10_makeRoom_113 : decode cX10_makeRoom 113 = .ok (.iload 5, 2) := by decide +kernel
theorem dX10_makeRoom_115 : decode cX10_makeRoom 115 = .ok (.iload 7, 2) := by decide +kernel
theorem dX10_makeRoom_117 : decode cX10_makeRoom 117 = .ok (.invokevirtual 389, 3) := by decide +kernel
theorem dX10_makeRoom_120 : decode cX10_makeRoom 120 = .ok (.iload 7, 2) := by decide +kernel
theorem dX10_makeRoom_122 : decode cX10_makeRoom 122 = .ok (.istore 5, 2) := by decide +kernel
theorem dX10_makeRoom_124 : decode cX10_makeRoom 124 = .ok (.iinc 6 1, 3) := by decide +kernel
theorem dX10_makeRoom_127 : decode cX10_makeRoom 127 = .ok (.goto (-52), 3) := by decide +kernel
theorem dX10_makeRoom_130 : decode cX10_makeRoom 130 = .ok (.return_, 1) := by decide +kernel
theorem dX10_shorten_0 : decode cX10_shorten 0 = .ok (.aload_n 0, 1) := by decide +kernel
theorem dX10_shorten_1 : decode cX10_shorten 1 = .ok (.getfield 21, 3) := by decide +kernel
theorem dX10_shorten_4 : decode cX10_shorten 4 = .ok (.iload_n 1, 1) := by decide +kernel
theorem dX10_shorten_5 : decode cX10_shorten 5 = .ok (.invokevirtual 200, 3) := by decide +kernel
theorem dX10_shorten_8 : decode cX10_shorten 8 = .ok (.istore_n 3, 1) := by decide +kernel
theorem dX10_shorten_9 : decode cX10_shorten 9 = .ok (.iload_n 2, 1) := by decide +kernel
theorem dX10_shorten_10 : decode cX10_shorten 10 = .ok (.ifCond .ne 21, 3) := by decide +kernel
theorem dX10_shorten_13 : decode cX10_shorten 13 = .ok (.aload_n 0, 1) := by decide +kernel
theorem dX10_shorten_14 : decode cX10_shorten 14 = .ok (.getfield 21, 3) := by decide +kernel
theorem dX10_shorten_17 : decode cX10_shorten 17 = .ok (.iload_n 1, 1) := by decide +kernel
theorem dX10_shorten_18 : decode cX10_shorten 18 = .ok (.iconst 0, 1) := by decide +kernel
theorem dX10_shorten_19 : decode cX10_shorten 19 = .ok (.invokevirtual 353, 3) := by decide +kernel
theorem dX10_shorten_22 : decode cX10_shorten 22 = .ok (.aload_n 0, 1) := by decide +kernel
theorem dX10_shorten_23 : decode cX10_shorten 23 = .ok (.getfield 39, 3) := by decide +kernel
theorem dX10_shorten_26 : decode cX10_shorten 26 = .ok (.iload_n 3, 1) := by decide +kernel
theorem dX10_shorten_27 : decode cX10_shorten 27 = .ok (.invokevirtual 291, 3) := by decide +kernel
theorem dX10_shorten_30 : decode cX10_shorten 30 = .ok (.return_, 1) := by decide +kernel
theorem dX10_shorten_31 : decode cX10_shorten 31 = .ok (.aload_n 0, 1) := by decide +kernel
theorem dX10_shorten_32 : decode cX10_shorten 32 = .ok (.getfield 39, 3) := by decide +kernel
theorem dX10_shorten_35 : decode cX10_shorten 35 = .ok (.iload_n 3, 1) := by decide +kernel
theorem dX10_shorten_36 : decode cX10_shorten 36 = .ok (.iload_n 2, 1) := by decide +kernel
theorem dX10_shorten_37 : decode cX10_shorten 37 = .ok (.iconst 1, 1) := by decide +kernel
theorem dX10_shorten_38 : decode cX10_shorten 38 = .ok (.isub, 1) := by decide +kernel
theorem dX10_shorten_39 : decode cX10_shorten 39 = .ok (.invokevirtual 206, 3) := by decide +kernel
theorem dX10_shorten_42 : decode cX10_shorten 42 = .ok (.istore 4, 2) := by decide +kernel
theorem dX10_shorten_44 : decode cX10_shorten 44 = .ok (.aload_n 0, 1) := by decide +kernel
theorem dX10_shorten_45 : decode cX10_shorten 45 = .ok (.getfield 39, 3) := by decide +kernel
theorem dX10_shorten_48 : decode cX10_shorten 48 = .ok (.iload 4, 2) := by decide +kernel
theorem dX10_shorten_50 : decode cX10_shorten 50 = .ok (.invokevirtual 392, 3) := by decide +kernel
theorem dX10_shorten_53 : decode cX10_shorten 53 = .ok (.istore 5, 2) := by decide +kernel
theorem dX10_shorten_55 : decode cX10_shorten 55 = .ok (.aload_n 0, 1) := by decide +kernel
theorem dX10_shorten_56 : decode cX10_shorten 56 = .ok (.getfield 39, 3) := by decide +kernel
theorem dX10_shorten_59 : decode cX10_shorten 59 = .ok (.iload 4, 2) := by decide +kernel
theorem dX10_shorten_61 : decode cX10_shorten 61 = .ok (.ldc_w 395, 3) := by decide +kernel
theorem dX10_shorten_64 : decode cX10_shorten 64 = .ok (.invokevirtual 389, 3) := by decide +kernel
theorem dX10_shorten_67 : decode cX10_shorten 67 = .ok (.aload_n 0, 1) := by decide +kernel
theorem dX10_shorten_68 : decode cX10_shorten 68 = .ok (.getfield 39, 3) := by decide +kernel
theorem dX10_shorten_71 : decode cX10_shorten 71 = .ok (.iload 5, 2) := by decide +kernel
theorem dX10_shorten_73 : decode cX10_shorten 73 = .ok (.invokevirtual 291, 3) := by decide +kernel
theorem dX10_shorten_76 : decode cX10_shorten 76 = .ok (.return_, 1) := by decide +kernel
theorem dX11_init_0 : decode cX11_init 0 = .ok (.aload_n 0, 1) := by decide +kernel
theorem dX11_init_1 : decode cX11_init 1 = .ok (.invokespecial 1, 3) := by decide +kernel
theorem dX11_init_4 : decode cX11_init 4 = .ok (.aload_n 0, 1) := by decide +kernel
theorem dX11_init_5 : decode cX11_init 5 = .ok (.ldc 7, 2) := by decide +kernel
theorem dX11_init_7 : decode cX11_init 7 = .ok (.newarray .byte, 2) := by decide +kernel
theorem dX11_init_9 : decode cX11_init 9 = .ok (.putfield 8, 3) := by decide +kernel
theorem dX11_init_12 : decode cX11_init 12 = .ok (.aload_n 0, 1) := by decide +kernel
theorem dX11_init_13 : decode cX11_init 13 = .ok (.sipush 4096, 3) := by decide +kernel
theorem dX11_init_16 : decode cX11_init 16 = .ok (.newarray .byte, 2) := by decide +kernel
theorem dX11_init_18 : decode cX11_init 18 = .ok (.putfield 14, 3) := by decide +kernel
theorem dX11_init_21 : decode cX11_init 21 = .ok (.aload_n 0, 1) := by decide +kernel
theorem dX11_init_22 : decode cX11_init 22 = .ok (.bipush 20, 2) := by decide +kernel
theorem dX11_init_24 : decode cX11_init 24 = .ok (.newarray .byte, 2) := by decide +kernel
theorem dX11_init_26 : decode cX11_init 26 = .ok (.putfield 17, 3) := by decide +kernel
theorem dX11_init_29 : decode cX11_init 29 = .ok (.aload_n 0, 1) := by decide +kernel
theorem dX11_init_30 : decode cX11_init 30 = .ok (.sipush 560, 3) := by decide +kernel
theorem dX11_init_33 : decode cX11_init 33 = .ok (.newarray .boolean, 2) := by decide +kernel
theorem dX11_init_35 : decode cX11_init 35 = .ok (.putfield 20, 3) := by decide +kernel
theorem dX11_init_38 : decode cX11_init 38 = .ok (.aload_n 0, 1) := by decide +kernel
theorem dX11_init_39 : decode cX11_init 39 = .ok (.sipush 16400, 3) := by decide +kernel
theorem dX11_init_42 : decode cX11_init 42 = .ok (.newarray .int, 2) := by decide +kernel
theorem dX11_init_44 : decode cX11_init 44 = .ok (.putfield 24, 3) := by decide +kernel
theorem dX11_init_47 : decode cX11_init 47 = .ok (.aload_n 0, 1) := by decide +kernel
theorem dX11_init_48 : decode cX11_init 48 = .ok (.sipush 16400, 3) := by decide +kernel
theorem dX11_init_51 : decode cX11_init 51 = .ok (.newarray .int, 2) := by decide +kernel
theorem dX11_init_53 : decode cX11_init 53 = .ok (.putfield 28, 3) := by decide +kernel
theorem dX11_init_56 : decode cX11_init 56 = .ok (.aload_n 0, 1) := by decide +kernel
theorem dX11_init_57 : decode cX11_init 57 = .ok (.sipush 16400, 3) := by decide +kernel
theorem dX11_init_60 : decode cX11_init 60 = .ok (.newarray .int, 2) := by decide +kernel
theorem dX11_init_62 : decode cX11_init 62 = .ok (.putfield 31, 3) := by decide +kernel
theorem dX11_init_65 : decode cX11_init 65 = .ok (.aload_n 0, 1) := by decide +kernel
theorem dX11_init_66 : decode cX11_init 66 = .ok (.sipush 16400, 3) := by decide +kernel
theorem dX11_init_69 : decode cX11_init 69 = .ok (.newarray .int, 2) := by decide +kernel
theorem dX11_init_71 : decode cX11_init 71 = .ok (.putfield 34, 3) := by decide +kernel
theorem dX11_init_74 : decode cX11_init 74 = .ok (.aload_n 0, 1) := by decide +kernel
theorem dX11_init_75 : decode cX11_init 75 = .ok (.sipush 16400, 3) := by decide +kernel
theorem dX11_init_78 : decode cX11_init 78 = .ok (.newarray .int, 2) := by decide +kernel
theorem dX11_init_80 : decode cX11_init 80 = .ok (.putfield 37, 3) := by decide +kernel
theorem dX11_init_83 : decode cX11_init 83 = .ok (.aload_n 0, 1) := by decide +kernel
theorem dX11_init_84 : decode cX11_init 84 = .ok (.sipush 16400, 3) := by decide +kernel
theorem dX11_init_87 : decode cX11_init 87 = .ok (.newarray .int, 2) := by decide +kernel
theorem dX11_init_89 : decode cX11_init 89 = .ok (.putfield 40, 3) := by decide +kernel
theorem dX11_init_92 : decode cX11_init 92 = .ok (.aload_n 0, 1) := by decide +kernel
theorem dX11_init_93 : decode cX11_init 93 = .ok (.sipush 16400, 3) := by decide +kernel
theorem dX11_init_96 : decode cX11_init 96 = .ok (.newarray .int, 2) := by decide +kernel
theorem dX11_init_98 : decode cX11_init 98 = .ok (.putfield 43, 3) := by decide +kernel
theorem dX11_init_101 : decode cX11_init 101 = .ok (.aload_n 0, 1) := by decide +kernel
theorem dX11_init_102 : decode cX11_init 102 = .ok (.sipush 16400, 3) := by decide +kernel
theorem dX11_init_105 : decode cX11_init 105 = .ok (.newarray .int, 2) := by decide +kernel
theorem dX11_init_107 : decode cX11_init 107 = .ok (.putfield 46, 3) := by decide +kernel
theorem dX11_init_110 : decode cX11_init 110 = .ok (.aload_n 0, 1) := by decide +kernel
theorem dX11_init_111 : decode cX11_init 111 = .ok (.ldc 49, 2) := by decide +kernel
theorem dX11_init_113 : decode cX11_init 113 = .ok (.newarray .char, 2) := by decide +kernel
theorem dX11_init_115 : decode cX11_init 115 = .ok (.putfield 50, 3) := by decide +kernel
theorem dX11_init_118 : decode cX11_init 118 = .ok (.aload_n 0, 1) := by decide +kernel
theorem dX11_init_119 : decode cX11_init 119 = .ok (.sipush 560, 3) := by decide +kernel
theorem dX11_init_122 : decode cX11_init 122 = .ok (.newarray .int, 2) := by decide +kernel
theorem dX11_init_124 : decode cX11_init 124 = .ok (.putfield 54, 3) := by decide +kernel
theorem dX11_init_127 : decode cX11_init 127 = .ok (.aload_n 0, 1) := by decide +kernel
theorem dX11_init_128 : decode cX11_init 128 = .ok (.sipush 560, 3) := by decide +kernel
theorem dX11_init_131 : decode cX11_init 131 = .ok (.newarray .int, 2) := by decide +kernel
theorem dX11_init_133 : decode cX11_init 133 = .ok (.putfield 57, 3) := by decide +kernel
theorem dX11_init_136 : decode cX11_init 136 = .ok (.aload_n 0, 1) := by decide +kernel
theorem dX11_init_137 : decode cX11_init 137 = .ok (.sipush 300, 3) := by decide +kernel
theorem dX11_init_140 : decode cX11_init 140 = .ok (.newarray .char, 2) := by decide +kernel
theorem dX11_init_142 : decode cX11_init 142 = .ok (.putfield 60, 3) := by decide +kernel
theorem dX11_init_145 : decode cX11_init 145 = .ok (.aload_n 0, 1) := by decide +kernel
theorem dX11_init_146 : decode cX11_init 146 = .ok (.bipush 11, 2) := by decide +kernel
theorem dX11_init_148 : decode cX11_init 148 = .ok (.newarray .int, 2) := by decide +kernel
theorem dX11_init_150 : decode cX11_init 150 = .ok (.putfield 63, 3) := by decide +kernel
theorem dX11_init_153 : decode cX11_init 153 = .ok (.aload_n 0, 1) := by decide +kernel
theorem dX11_init_154 : decode cX11_init 154 = .ok (.sipush 255, 3) := by decide +kernel
theorem dX11_init_157 : decode cX11_init 157 = .ok (.newarray .int, 2) := by decide +kernel
theorem dX11_init_159 : decode cX11_init 159 = .ok (.putfield 66, 3) := by decide +kernel
theorem dX11_init_162 : decode cX11_init 162 = .ok (.aload_n 0, 1) := by decide +kernel
theorem dX11_init_163 : decode cX11_init 163 = .ok (.iconst 3, 1) := by decide +kernel
theorem dX11_init_164 : decode cX11_init 164 = .ok (.newarray .int, 2) := by decide +kernel
theorem dX11_init_166 : decode cX11_init 166 = .ok (.putfield 69, 3) := by decide +kernel
theorem dX11_init_169 : decode cX11_init 169 = .ok (.iload_n 1, 1) := by decide +kernel
theorem dX11_init_170 : decode cX11_init 170 = .ok (.sipush 256, 3) := by decide +kernel
theorem dX11_init_173 : decode cX11_init 173 = .ok (.if_icmp .ge 9, 3) := by decide +kernel
theorem dX11_init_176 : decode cX11_init 176 = .ok (.sipush 256, 3) := by decide +kernel
theorem dX11_init_179 : decode cX11_init 179 = .ok (.goto 17, 3) := by decide +kernel
theorem dX11_init_182 : decode cX11_init 182 = .ok (.iload_n 1, 1) := by decide +kernel
theorem dX11_init_183 : decode cX11_init 183 = .ok (.sipush 1024, 3) := by decide +kernel
theorem dX11_init_186 : decode cX11_init 186 = .ok (.if_icmp .le 9, 3) := by decide +kernel
theorem dX11_init_189 : decode cX11_init 189 = .ok (.sipush 1024, 3) := by decide +kernel
theorem dX11_init_192 : decode cX11_init 192 = .ok (.goto 4, 3) := by decide +kernel
theorem dX11_init_195 : decode cX11_init 195 = .ok (.iload_n 1, 1) := by decide +kernel
theorem dX11_init_196 : decode cX11_init 196 = .ok (.istore_n 2, 1) := by decide +kernel
theorem dX11_init_197 : decode cX11_init 197 = .ok (.aload_n 0, 1) := by decide +kernel
theorem dX11_init_198 : decode cX11_init 198 = .ok (.iload_n 2, 1) := by decide +kernel
theorem dX11_init_199 : decode cX11_init 199 = .ok (.iconst 2, 1) := by decide +kernel
theorem dX11_init_200 : decode cX11_init 200 = .ok (.irem, 1) := by decide +kernel
theorem dX11_init_201 : decode cX11_init 201 = .ok (.ifCond .ne 7, 3) := by decide +kernel
theorem dX11_init_204 : decode cX11_init 204 = .ok (.iload_n 2, 1) := by decide +kernel
theorem dX11_init_205 : decode cX11_init 205 = .ok (.goto 6, 3) := by decide +kernel
theorem dX11_init_208 : decode cX11_init 208 = .ok (.iload_n 2, 1) := by decide +kernel
theorem dX11_init_209 : decode cX11_init 209 = .ok (.iconst 1, 1) := by decide +kernel
theorem dX11_init_210 : decode cX11_init 210 = .ok (.isub, 1) := by decide +kernel
theorem dX11_init_211 : decode cX11_init 211 = .ok (.putfield 72, 3) := by decide +kernel
theorem dX11_init_214 : decode cX11_init 214 = .ok (.return_, 1) := by decide +kernel
theorem dX11_thrown_0 : decode cX11_thrown 0 = .ok (.aload_n 0, 1) := by decide +kernel
theorem dX11_thrown_1 : decode cX11_thrown 1 = .ok (.getfield 76, 3) := by decide +kernel
theorem dX11_thrown_4 : decode cX11_thrown 4 = .ok (.ireturn, 1) := by decide +kernel
theorem dX11_fails_0 : decode cX11_fails 0 = .ok (.iload_n 1, 1) := by decide +kernel
theorem dX11_fails_1 : decode cX11_fails 1 = .ok (.ifCond .eq 15, 3) := by decide +kernel
theorem dX11_fails_4 : decode cX11_fails 4 = .ok (.aload_n 0, 1) := by decide +kernel
theorem dX11_fails_5 : decode cX11_fails 5 = .ok (.getfield 76, 3) := by decide +kernel
theorem dX11_fails_8 : decode cX11_fails 8 = .ok (.ifCond .ne 8, 3) := by decide +kernel
theorem dX11_fails_11 : decode cX11_fails 11 = .ok (.aload_n 0, 1) := by decide +kernel
theorem dX11_fails_12 : decode cX11_fails 12 = .ok (.iload_n 2, 1) := by decide +kernel
theorem dX11_fails_13 : decode cX11_fails 13 = .ok (.putfield 76, 3) := by decide +kernel
theorem dX11_fails_16 : decode cX11_fails 16 = .ok (.aload_n 0, 1) := by decide +kernel
theorem dX11_fails_17 : decode cX11_fails 17 = .ok (.getfield 76, 3) := by decide +kernel
theorem dX11_fails_20 : decode cX11_fails 20 = .ok (.ifCond .eq 7, 3) := by decide +kernel
theorem dX11_fails_23 : decode cX11_fails 23 = .ok (.iconst 1, 1) := by decide +kernel
theorem dX11_fails_24 : decode cX11_fails 24 = .ok (.goto 4, 3) := by decide +kernel
theorem dX11_fails_27 : decode cX11_fails 27 = .ok (.iconst 0, 1) := by decide +kernel
theorem dX11_fails_28 : decode cX11_fails 28 = .ok (.ireturn, 1) := by decide +kernel
theorem dX11_one_0 : decode cX11_one 0 = .ok (.aload_n 0, 1) := by decide +kernel
theorem dX11_one_1 : decode cX11_one 1 = .ok (.getfield 8, 3) := by decide +kernel
theorem dX11_one_4 : decode cX11_one 4 = .ok (.iload_n 1, 1) := by decide +kernel
theorem dX11_one_5 : decode cX11_one 5 = .ok (.baload, 1) := by decide +kernel
theorem dX11_one_6 : decode cX11_one 6 = .ok (.sipush 255, 3) := by decide +kernel
theorem dX11_one_9 : decode cX11_one 9 = .ok (.iand, 1) := by decide +kernel
theorem dX11_one_10 : decode cX11_one 10 = .ok (.ireturn, 1) := by decide +kernel
theorem dX11_two_0 : decode cX11_two 0 = .ok (.aload_n 0, 1) := by decide +kernel
theorem dX11_two_1 : decode cX11_two 1 = .ok (.iload_n 1, 1) := by decide +kernel
theorem dX11_two_2 : decode cX11_two 2 = .ok (.invokevirtual 79, 3) := by decide +kernel
theorem dX11_two_5 : decode cX11_two 5 = .ok (.aload_n 0, 1) := by decide +kernel
theorem dX11_two_6 : decode cX11_two 6 = .ok (.iload_n 1, 1) := by decide +kernel
theorem dX11_two_7 : decode cX11_two 7 = .ok (.iconst 1, 1) := by decide +kernel
theorem dX11_two_8 : decode cX11_two 8 = .ok (.iadd, 1) := by decide +kernel
theorem dX11_two_9 : decode cX11_two 9 = .ok (.invokevirtual 79, 3) := by decide +kernel
theorem dX11_two_12 : decode cX11_two 12 = .ok (.bipush 8, 2) := by decide +kernel
theorem dX11_two_14 : decode cX11_two 14 = .ok (.ishl, 1) := by decide +kernel
theorem dX11_two_15 : decode cX11_two 15 = .ok (.ior, 1) := by decide +kernel
theorem dX11_two_16 : decode cX11_two 16 = .ok (.ireturn, 1) := by decide +kernel
theorem dX11_four_0 : decode cX11_four 0 = .ok (.aload_n 0, 1) := by decide +kernel
theorem dX11_four_1 : decode cX11_four 1 = .ok (.iload_n 1, 1) := by decide +kernel
theorem dX11_four_2 : decode cX11_four 2 = .ok (.invokevirtual 83, 3) := by decide +kernel
theorem dX11_four_5 : decode cX11_four 5 = .ok (.aload_n 0, 1) := by decide +kernel
theorem dX11_four_6 : decode cX11_four 6 = .ok (.iload_n 1, 1) := by decide +kernel
theorem dX11_four_7 : decode cX11_four 7 = .ok (.iconst 2, 1) := by decide +kernel
theorem dX11_four_8 : decode cX11_four 8 = .ok (.iadd, 1) := by decide +kernel
theorem dX11_four_9 : decode cX11_four 9 = .ok (.invokevirtual 83, 3) := by decide +kernel
theorem dX11_four_12 : decode cX11_four 12 = .ok (.bipush 16, 2) := by decide +kernel
theorem dX11_four_14 : decode cX11_four 14 = .ok (.ishl, 1) := by decide +kernel
theorem dX11_four_15 : decode cX11_four 15 = .ok (.ior, 1) := by decide +kernel
theorem dX11_four_16 : decode cX11_four 16 = .ok (.ireturn, 1) := by decide +kernel
theorem dX11_set_0 : decode cX11_set 0 = .ok (.iconst 0, 1) := by decide +kernel
theorem dX11_set_1 : decode cX11_set 1 = .ok (.istore 5, 2) := by decide +kernel
theorem dX11_set_3 : decode cX11_set 3 = .ok (.iload 5, 2) := by decide +kernel
theorem dX11_set_5 : decode cX11_set 5 = .ok (.iload_n 2, 1) := by decide +kernel
theorem dX11_set_6 : decode cX11_set 6 = .ok (.if_icmp .ge 27, 3) := by decide +kernel
theorem dX11_set_9 : decode cX11_set 9 = .ok (.aload_n 0, 1) := by decide +kernel
theorem dX11_set_10 : decode cX11_set 10 = .ok (.getfield 8, 3) := by decide +kernel
theorem dX11_set_13 : decode cX11_set 13 = .ok (.iload_n 1, 1) := by decide +kernel
theorem dX11_set_14 : decode cX11_set 14 = .ok (.iload 5, 2) := by decide +kernel
theorem dX11_set_16 : decode cX11_set 16 = .ok (.iadd, 1) := by decide +kernel
theorem dX11_set_17 : decode cX11_set 17 = .ok (.lload_n 3, 1) := by decide +kernel
theorem dX11_set_18 : decode cX11_set 18 = .ok (.bipush 8, 2) := by decide +kernel
theorem dX11_set_20 : decode cX11_set 20 = .ok (.iload 5, 2) := by decide +kernel
theorem dX11_set_22 : decode cX11_set 22 = .ok (.imul, 1) := by decide +kernel
theorem dX11_set_23 : decode cX11_set 23 = .ok (.lshr, 1) := by decide +kernel
theorem dX11_set_24 : decode cX11_set 24 = .ok (.l2i, 1) := by decide +kernel
theorem dX11_set_25 : decode cX11_set 25 = .ok (.i2b, 1) := by decide +kernel
theorem dX11_set_26 : decode cX11_set 26 = .ok (.bastore, 1) := by decide +kernel
theorem dX11_set_27 : decode cX11_set 27 = .ok (.iinc 5 1, 3) := by decide +kernel
theorem dX11_set_30 : decode cX11_set 30 = .ok (.goto (-27), 3) := by decide +kernel
theorem dX11_set_33 : decode cX11_set 33 = .ok (.return_, 1) := by decide +kernel
theorem dX11_whole_0 : decode cX11_whole 0 = .ok (.iload_n 0, 1) := by decide +kernel
theorem dX11_whole_1 : decode cX11_whole 1 = .ok (.iload_n 1, 1) := by decide +kernel
theorem dX11_whole_2 : decode cX11_whole 2 = .ok (.iadd, 1) := by decide +kernel
theorem dX11_whole_3 : decode cX11_whole 3 = .ok (.iconst 1, 1) := by decide +kernel
theorem dX11_whole_4 : decode cX11_whole 4 = .ok (.isub, 1) := by decide +kernel
theorem dX11_whole_5 : decode cX11_whole 5 = .ok (.iload_n 1, 1) := by decide +kernel
theorem dX11_whole_6 : decode cX11_whole 6 = .ok (.idiv, 1) := by decide +kernel
theorem dX11_whole_7 : decode cX11_whole 7 = .ok (.ireturn, 1) := by decide +kernel
theorem dX11_entryAt_0 : decode cX11_entryAt 0 = .ok (.sipush 512, 3) := by decide +kernel
theorem dX11_entryAt_3 : decode cX11_entryAt 3 = .ok (.aload_n 0, 1) := by decide +kernel
theorem dX11_entryAt_4 : decode cX11_entryAt 4 = .ok (.getfield 86, 3) := by decide +kernel
theorem dX11_entryAt_7 : decode cX11_entryAt 7 = .ok (.iload_n 1, 1) := by decide +kernel
theorem dX11_entryAt_8 : decode cX11_entryAt 8 = .ok (.aload_n 0, 1) := by decide +kernel
theorem dX11_entryAt_9 : decode cX11_entryAt 9 = .ok (.getfield 89, 3) := by decide +kernel
theorem dX11_entryAt_12 : decode cX11_entryAt 12 = .ok (.imul, 1) := by decide +kernel
theorem dX11_entryAt_13 : decode cX11_entryAt 13 = .ok (.iadd, 1) := by decide +kernel
theorem dX11_entryAt_14 : decode cX11_entryAt 14 = .ok (.imul, 1) := by decide +kernel
theorem dX11_entryAt_15 : decode cX11_entryAt 15 = .ok (.iconst 4, 1) := by decide +kernel
theorem dX11_entryAt_16 : decode cX11_entryAt 16 = .ok (.iload_n 2, 1) := by decide +kernel
theorem dX11_entryAt_17 : decode cX11_entryAt 17 = .ok (.imul, 1) := by decide +kernel
theorem dX11_entryAt_18 : decode cX11_entryAt 18 = .ok (.iadd, 1) := by decide +kernel
theorem dX11_entryAt_19 : decode cX11_entryAt 19 = .ok (.ireturn, 1) := by decide +kernel
theorem dX11_entry_0 : decode cX11_entry 0 = .ok (.aload_n 0, 1) := by decide +kernel
theorem dX11_entry_1 : decode cX11_entry 1 = .ok (.aload_n 0, 1) := by decide +kernel
theorem dX11_entry_2 : decode cX11_entry 2 = .ok (.iconst 0, 1) := by decide +kernel
theorem dX11_entry_3 : decode cX11_entry 3 = .ok (.iload_n 1, 1) := by decide +kernel
theorem dX11_entry_4 : decode cX11_entry 4 = .ok (.invokevirtual 92, 3) := by decide +kernel
theorem dX11_entry_7 : decode cX11_entry 7 = .ok (.invokevirtual 96, 3) := by decide +kernel
theorem dX11_entry_10 : decode cX11_entry 10 = .ok (.ldc 99, 2) := by decide +kernel
theorem dX11_entry_12 : decode cX11_entry 12 = .ok (.iand, 1) := by decide +kernel
theorem dX11_entry_13 : decode cX11_entry 13 = .ok (.ireturn, 1) := by decide +kernel
theorem dX11_setEntry_0 : decode cX11_setEntry 0 = .ok (.iconst 0, 1) := by decide +kernel
theorem dX11_setEntry_1 : decode cX11_setEntry 1 = .ok (.istore_n 3, 1) := by decide +kernel
theorem dX11_setEntry_2 : decode cX11_setEntry 2 = .ok (.iload_n 3, 1) := by decide +kernel
theorem dX11_setEntry_3 : decode cX11_setEntry 3 = .ok (.aload_n 0, 1) := by decide +kernel
theorem dX11_setEntry_4 : decode cX11_setEntry 4 = .ok (.getfield 100, 3) := by decide +kernel
theorem dX11_setEntry_7 : decode cX11_setEntry 7 = .ok (.if_icmp .ge 36, 3) := by decide +kernel
theorem dX11_setEntry_10 : decode cX11_setEntry 10 = .ok (.aload_n 0, 1) := by decide +kernel
theorem dX11_setEntry_11 : decode cX11_setEntry 11 = .ok (.iload_n 3, 1) := by decide +kernel
theorem dX11_setEntry_12 : decode cX11_setEntry 12 = .ok (.iload_n 1, 1) := by decide +kernel
theorem dX11_setEntry_13 : decode cX11_setEntry 13 = .ok (.invokevirtual 92, 3) := by decide +kernel
theorem dX11_setEntry_16 : decode cX11_setEntry 16 = .ok (.istore 4, 2) := by decide +kernel
theorem dX11_setEntry_18 : decode cX11_setEntry 18 = .ok (.aload_n 0, 1) := by decide +kernel
theorem dX11_setEntry_19 : decode cX11_setEntry 19 = .ok (.iload 4, 2) := by decide +kernel
theorem dX11_setEntry_21 : decode cX11_setEntry 21 = .ok (.iconst 4, 1) := by decide +kernel
theorem dX11_setEntry_22 : decode cX11_setEntry 22 = .ok (.iload_n 2, 1) := by decide +kernel
theorem dX11_setEntry_23 : decode cX11_setEntry 23 = .ok (.aload_n 0, 1) := by decide +kernel
theorem dX11_setEntry_24 : decode cX11_setEntry 24 = .ok (.iload 4, 2) := by decide +kernel
theorem dX11_setEntry_26 : decode cX11_setEntry 26 = .ok (.invokevirtual 96, 3) := by decide +kernel
theorem dX11_setEntry_29 : decode cX11_setEntry 29 = .ok (.ldc 103, 2) := by decide +kernel
theorem dX11_setEntry_31 : decode cX11_setEntry 31 = .ok (.iand, 1) := by decide +kernel
theorem dX11_setEntry_32 : decode cX11_setEntry 32 = .ok (.ior, 1) := by decide +kernel
theorem dX11_setEntry_33 : decode cX11_setEntry 33 = .ok (.i2l, 1) := by decide +kernel
theorem dX11_setEntry_34 : decode cX11_setEntry 34 = .ok (.invokevirtual 104, 3) := by decide +kernel
theorem dX11_setEntry_37 : decode cX11_setEntry 37 = .ok (.iinc 3 1, 3) := by decide +kernel
theorem dX11_setEntry_40 : decode cX11_setEntry 40 = .ok (.goto (-38), 3) := by decide +kernel
theorem dX11_setEntry_43 : decode cX11_setEntry 43 = .ok (.return_, 1) := by decide +kernel
theorem dX11_isCluster_0 : decode cX11_isCluster 0 = .ok (.iload_n 1, 1) := by decide +kernel
theorem dX11_isCluster_1 : decode cX11_isCluster 1 = .ok (.iconst 2, 1) := by decide +kernel
theorem dX11_isCluster_2 : decode cX11_isCluster 2 = .ok (.if_icmp .lt 17, 3) := by decide +kernel
theorem dX11_isCluster_5 : decode cX11_isCluster 5 = .ok (.iload_n 1, 1) := by decide +kernel
theorem dX11_isCluster_6 : decode cX11_isCluster 6 = .ok (.aload_n 0, 1) := by decide +kernel
theorem dX11_isCluster_7 : decode cX11_isCluster 7 = .ok (.getfield 108, 3) := by decide +kernel
theorem dX11_isCluster_10 : decode cX11_isCluster 10 = .ok (.iconst 1, 1) := by decide +kernel
theorem dX11_isCluster_11 : decode cX11_isCluster 11 = .ok (.iadd, 1) := by decide +kernel
theorem dX11_isCluster_12 : decode cX11_isCluster 12 = .ok (.if_icmp .gt 7, 3) := by decide +kernel
theorem dX11_isCluster_15 : decode cX11_isCluster 15 = .ok (.iconst 1, 1) := by decide +kernel
theorem dX11_isCluster_16 : decode cX11_isCluster 16 = .ok (.goto 4, 3) := by decide +kernel
theorem dX11_isCluster_19 : decode cX11_isCluster 19 = .ok (.iconst 0, 1) := by decide +kernel
theorem dX11_isCluster_20 : decode cX11_isCluster 20 = .ok (.ireturn, 1) := by decide +kernel
theorem dX11_place_0 : decode cX11_place 0 = .ok (.sipush 512, 3) := by decide +kernel
theorem dX11_place_3 : decode cX11_place 3 = .ok (.aload_n 0, 1) := by decide +kernel
theorem dX11_place_4 : decode cX11_place 4 = .ok (.getfield 111, 3) := by decide +kernel
theorem dX11_place_7 : decode cX11_place 7 = .ok (.iload_n 1, 1) := by decide +kernel
theorem dX11_place_8 : decode cX11_place 8 = .ok (.iconst 2, 1) := by decide +kernel
theorem dX11_place_9 : decode cX11_place 9 = .ok (.isub, 1) := by decide +kernel
theorem dX11_place_10 : decode cX11_place 10 = .ok (.aload_n 0, 1) := by decide +kernel
theorem dX11_place_11 : decode cX11_place 11 = .ok (.getfield 114, 3) := by decide +kernel
theorem dX11_place_14 : decode cX11_place 14 = .ok (.imul, 1) := by decide +kernel
theorem dX11_place_15 : decode cX11_place 15 = .ok (.iadd, 1) := by decide +kernel
theorem dX11_place_16 : decode cX11_place 16 = .ok (.imul, 1) := by decide +kernel
theorem dX11_place_17 : decode cX11_place 17 = .ok (.ireturn, 1) := by decide +kernel
theorem dX11_head_0 : decode cX11_head 0 = .ok (.aload_n 0, 1) := by decide +kernel
theorem dX11_head_1 : decode cX11_head 1 = .ok (.aload_n 0, 1) := by decide +kernel
theorem dX11_head_2 : decode cX11_head 2 = .ok (.bipush 13, 2) := by decide +kernel
theorem dX11_head_4 : decode cX11_head 4 = .ok (.invokevirtual 79, 3) := by decide +kernel
theorem dX11_head_7 : decode cX11_head 7 = .ok (.putfield 114, 3) := by decide +kernel
theorem dX11_head_10 : decode cX11_head 10 = .ok (.aload_n 0, 1) := by decide +kernel
theorem dX11_head_11 : decode cX11_head 11 = .ok (.aload_n 0, 1) := by decide +kernel
theorem dX11_head_12 : decode cX11_head 12 = .ok (.bipush 14, 2) := by decide +kernel
theorem dX11_head_14 : decode cX11_head 14 = .ok (.invokevirtual 83, 3) := by decide +kernel
theorem dX11_head_17 : decode cX11_head 17 = .ok (.putfield 86, 3) := by decide +kernel
theorem dX11_head_20 : decode cX11_head 20 = .ok (.aload_n 0, 1) := by decide +kernel
theorem dX11_head_21 : decode cX11_head 21 = .ok (.aload_n 0, 1) := by decide +kernel
theorem dX11_head_22 : decode cX11_head 22 = .ok (.bipush 16, 2) := by decide +kernel
theorem dX11_head_24 : decode cX11_head 24 = .ok (.invokevirtual 79, 3) := by decide +kernel
theorem dX11_head_27 : decode cX11_head 27 = .ok (.putfield 100, 3) := by decide +kernel
theorem dX11_head_30 : decode cX11_head 30 = .ok (.aload_n 0, 1) := by decide +kernel
theorem dX11_head_31 : decode cX11_head 31 = .ok (.aload_n 0, 1) := by decide +kernel
theorem dX11_head_32 : decode cX11_head 32 = .ok (.bipush 36, 2) := by decide +kernel
theorem dX11_head_34 : decode cX11_head 34 = .ok (.invokevirtual 96, 3) := by decide +kernel
theorem dX11_head_37 : decode cX11_head 37 = .ok (.putfield 89, 3) := by decide +kernel
theorem dX11_head_40 : decode cX11_head 40 = .ok (.aload_n 0, 1) := by decide +kernel
theorem dX11_head_41 : decode cX11_head 41 = .ok (.aload_n 0, 1) := by decide +kernel
theorem dX11_head_42 : decode cX11_head 42 = .ok (.bipush 44, 2) := by decide +kernel
theorem dX11_head_44 : decode cX11_head 44 = .ok (.invokevirtual 96, 3) := by decide +kernel
theorem dX11_head_47 : decode cX11_head 47 = .ok (.putfield 117, 3) := by decide +kernel
theorem dX11_head_50 : decode cX11_head 50 = .ok (.aload_n 0, 1) := by decide +kernel
theorem dX11_head_51 : decode cX11_head 51 = .ok (.bipush 11, 2) := by decide +kernel
theorem dX11_head_53 : decode cX11_head 53 = .ok (.invokevirtual 83, 3) := by decide +kernel
theorem dX11_head_56 : decode cX11_head 56 = .ok (.sipush 512, 3) := by decide +kernel
theorem dX11_head_59 : decode cX11_head 59 = .ok (.if_icmp .ne 156, 3) := by decide +kernel
theorem dX11_head_62 : decode cX11_head 62 = .ok (.aload_n 0, 1) := by decide +kernel
theorem dX11_head_63 : decode cX11_head 63 = .ok (.getfield 114, 3) := by decide +kernel
theorem dX11_head_66 : decode cX11_head 66 = .ok (.iconst 2, 1) := by decide +kernel
theorem dX11_head_67 : decode cX11_head 67 = .ok (.if_icmp .eq 20, 3) := by decide +kernel
theorem dX11_head_70 : decode cX11_head 70 = .ok (.aload_n 0, 1) := by decide +kernel
theorem dX11_head_71 : decode cX11_head 71 = .ok (.getfield 114, 3) := by decide +kernel
theorem dX11_head_74 : decode cX11_head 74 = .ok (.iconst 4, 1) := by decide +kernel
theorem dX11_head_75 : decode cX11_head 75 = .ok (.if_icmp .eq 12, 3) := by decide +kernel
theorem dX11_head_78 : decode cX11_head 78 = .ok (.aload_n 0, 1) := by decide +kernel
theorem dX11_head_79 : decode cX11_head 79 = .ok (.getfield 114, 3) := by decide +kernel
theorem dX11_head_82 : decode cX11_head 82 = .ok (.bipush 8, 2) := by decide +kernel
theorem dX11_head_84 : decode cX11_head 84 = .ok (.if_icmp .ne 131, 3) := by decide +kernel
theorem dX11_head_87 : decode cX11_head 87 = .ok (.aload_n 0, 1) := by decide +kernel
theorem dX11_head_88 : decode cX11_head 88 = .ok (.getfield 86, 3) := by decide +kernel
theorem dX11_head_91 : decode cX11_head 91 = .ok (.bipush 8, 2) := by decide +kernel
theorem dX11_head_93 : decode cX11_head 93 = .ok (.if_icmp .lt 122, 3) := by decide +kernel
theorem dX11_head_96 : decode cX11_head 96 = .ok (.aload_n 0, 1) := by decide +kernel
theorem dX11_head_97 : decode cX11_head 97 = .ok (.getfield 86, 3) := by decide +kernel
theorem dX11_head_100 : decode cX11_head 100 = .ok (.bipush 64, 2) := by decide +kernel
theorem dX11_head_102 : decode cX11_head 102 = .ok (.if_icmp .gt 113, 3) := by decide +kernel
theorem dX11_head_105 : decode cX11_head 105 = .ok (.aload_n 0, 1) := by decide +kernel
theorem dX11_head_106 : decode cX11_head 106 = .ok (.getfield 100, 3) := by decide +kernel
theorem dX11_head_109 : decode cX11_head 109 = .ok (.iconst 1, 1) := by decide +kernel
theorem dX11_head_110 : decode cX11_head 110 = .ok (.if_icmp .eq 11, 3) := by decide +kernel
theorem dX11_head_113 : decode cX11_head 113 = .ok (.aload_n 0, 1) := by decide +kernel
theorem dX11_head_114 : decode cX11_head 114 = .ok (.getfield 100, 3) := by decide +kernel
theorem dX11_head_117 : decode cX11_head 117 = .ok (.iconst 2, 1) := by decide +kernel
theorem dX11_head_118 : decode cX11_head 118 = .ok (.if_icmp .ne 97, 3) := by decide +kernel
theorem dX11_head_121 : decode cX11_head 121 = .ok (.aload_n 0, 1) := by decide +kernel
theorem dX11_head_122 : decode cX11_head 122 = .ok (.bipush 17, 2) := by decide +kernel
theorem dX11_head_124 : decode cX11_head 124 = .ok (.invokevirtual 83, 3) := by decide +kernel
theorem dX11_head_127 : decode cX11_head 127 = .ok (.ifCond .ne 88, 3) := by decide +kernel
theorem dX11_head_130 : decode cX11_head 130 = .ok (.aload_n 0, 1) := by decide +kernel
theorem dX11_head_131 : decode cX11_head 131 = .ok (.bipush 19, 2) := by decide +kernel
theorem dX11_head_133 : decode cX11_head 133 = .ok (.invokevirtual 83, 3) := by decide +kernel
theorem dX11_head_136 : decode cX11_head 136 = .ok (.ifCond .ne 79, 3) := by decide +kernel
theorem dX11_head_139 : decode cX11_head 139 = .ok (.aload_n 0, 1) := by decide +kernel
theorem dX11_head_140 : decode cX11_head 140 = .ok (.bipush 22, 2) := by decide +kernel
theorem dX11_head_142 : decode cX11_head 142 = .ok (.invokevirtual 83, 3) := by decide +kernel
theorem dX11_head_145 : decode cX11_head 145 = .ok (.ifCond .ne 70, 3) := by decide +kernel
theorem dX11_head_148 : decode cX11_head 148 = .ok (.aload_n 0, 1) := by decide +kernel
theorem dX11_head_149 : decode cX11_head 149 = .ok (.bipush 32, 2) := by decide +kernel
theorem dX11_head_151 : decode cX11_head 151 = .ok (.invokevirtual 96, 3) := by decide +kernel
theorem dX11_head_154 : decode cX11_head 154 = .ok (.aload_n 0, 1) := by decide +kernel
theorem dX11_head_155 : decode cX11_head 155 = .ok (.getfield 72, 3) := by decide +kernel
theorem dX11_head_158 : decode cX11_head 158 = .ok (.if_icmp .ne 57, 3) := by decide +kernel
theorem dX11_head_161 : decode cX11_head 161 = .ok (.aload_n 0, 1) := by decide +kernel
theorem dX11_head_162 : decode cX11_head 162 = .ok (.getfield 89, 3) := by decide +kernel
theorem dX11_head_165 : decode cX11_head 165 = .ok (.iconst 1, 1) := by decide +kernel
theorem dX11_head_166 : decode cX11_head 166 = .ok (.if_icmp .lt 49, 3) := by decide +kernel
theorem dX11_head_169 : decode cX11_head 169 = .ok (.aload_n 0, 1) := by decide +kernel
theorem dX11_head_170 : decode cX11_head 170 = .ok (.getfield 89, 3) := by decide +kernel
theorem dX11_head_173 : decode cX11_head 173 = .ok (.bipush 32, 2) := by decide +kernel
theorem dX11_head_175 : decode cX11_head 175 = .ok (.if_icmp .gt 40, 3) := by decide +kernel
theorem dX11_head_178 : decode cX11_head 178 = .ok (.aload_n 0, 1) := by decide +kernel
theorem dX11_head_179 : decode cX11_head 179 = .ok (.bipush 48, 2) := by decide +kernel
theorem dX11_head_181 : decode cX11_head 181 = .ok (.invokevirtual 83, 3) := by decide +kernel
theorem dX11_head_184 : decode cX11_head 184 = .ok (.iconst 1, 1) := by decide +kernel
theorem dX11_head_185 : decode cX11_head 185 = .ok (.if_icmp .ne 30, 3) := by decide +kernel
theorem dX11_head_188 : decode cX11_head 188 = .ok (.aload_n 0, 1) := by decide +kernel
theorem dX11_head_189 : decode cX11_head 189 = .ok (.bipush 50, 2) := by decide +kernel
theorem dX11_head_191 : decode cX11_head 191 = .ok (.invokevirtual 83, 3) := by decide +kernel
theorem dX11_head_194 : decode cX11_head 194 = .ok (.bipush 6, 2) := by decide +kernel
theorem dX11_head_196 : decode cX11_head 196 = .ok (.if_icmp .ne 19, 3) := by decide +kernel
theorem dX11_head_199 : decode cX11_head 199 = .ok (.aload_n 0, 1) := by decide +kernel
theorem dX11_head_200 : decode cX11_head 200 = .ok (.sipush 510, 3) := by decide +kernel
theorem dX11_head_203 : decode cX11_head 203 = .ok (.invokevirtual 83, 3) := by decide +kernel
theorem dX11_head_206 : decode cX11_head 206 = .ok (.ldc 120, 2) := by decide +kernel
theorem dX11_head_208 : decode cX11_head 208 = .ok (.if_icmp .ne 7, 3) := by decide +kernel
theorem dX11_head_211 : decode cX11_head 211 = .ok (.iconst 1, 1) := by decide +kernel
theorem dX11_head_212 : decode cX11_head 212 = .ok (.goto 4, 3) := by decide +kernel
theorem dX11_head_215 : decode cX11_head 215 = .ok (.iconst 0, 1) := by decide +kernel
theorem dX11_head_216 : decode cX11_head 216 = .ok (.istore_n 1, 1) := by decide +kernel
theorem dX11_head_217 : decode cX11_head 217 = .ok (.iload_n 1, 1) := by decide +kernel
theorem dX11_head_218 : decode cX11_head 218 = .ok (.ifCond .ne 5, 3) := by decide +kernel
theorem dX11_head_221 : decode cX11_head 221 = .ok (.iconst 0, 1) := by decide +kernel
theorem dX11_head_222 : decode cX11_head 222 = .ok (.ireturn, 1) := by decide +kernel
theorem dX11_head_223 : decode cX11_head 223 = .ok (.aload_n 0, 1) := by decide +kernel
theorem dX11_head_224 : decode cX11_head 224 = .ok (.aload_n 0, 1) := by decide +kernel
theorem dX11_head_225 : decode cX11_head 225 = .ok (.getfield 86, 3) := by decide +kernel
theorem dX11_head_228 : decode cX11_head 228 = .ok (.aload_n 0, 1) := by decide +kernel
theorem dX11_head_229 : decode cX11_head 229 = .ok (.getfield 100, 3) := by decide +kernel
theorem dX11_head_232 : decode cX11_head 232 = .ok (.aload_n 0, 1) := by decide +kernel
theorem dX11_head_233 : decode cX11_head 233 = .ok (.getfield 89, 3) := by decide +kernel
theorem dX11_head_236 : decode cX11_head 236 = .ok (.imul, 1) := by decide +kernel
theorem dX11_head_237 : decode cX11_head 237 = .ok (.iadd, 1) := by decide +kernel
theorem dX11_head_238 : decode cX11_head 238 = .ok (.putfield 111, 3) := by decide +kernel
theorem dX11_head_241 : decode cX11_head 241 = .ok (.aload_n 0, 1) := by decide +kernel
theorem dX11_head_242 : decode cX11_head 242 = .ok (.aload_n 0, 1) := by decide +kernel
theorem dX11_head_243 : decode cX11_head 243 = .ok (.getfield 72, 3) := by decide +kernel
theorem dX11_head_246 : decode cX11_head 246 = .ok (.aload_n 0, 1) := by decide +kernel
theorem dX11_head_247 : decode cX11_head 247 = .ok (.getfield 111, 3) := by decide +kernel
theorem dX11_head_250 : decode cX11_head 250 = .ok (.isub, 1) := by decide +kernel
theorem dX11_head_251 : decode cX11_head 251 = .ok (.aload_n 0, 1) := by decide +kernel
theorem dX11_head_252 : decode cX11_head 252 = .ok (.getfield 114, 3) := by decide +kernel
theorem dX11_head_255 : decode cX11_head 255 = .ok (.idiv, 1) := by decide +kernel
theorem dX11_head_256 : decode cX11_head 256 = .ok (.putfield 108, 3) := by decide +kernel
theorem dX11_head_259 : decode cX11_head 259 = .ok (.aload_n 0, 1) := by decide +kernel
theorem dX11_head_260 : decode cX11_head 260 = .ok (.getfield 72, 3) := by decide +kernel
theorem dX11_head_263 : decode cX11_head 263 = .ok (.aload_n 0, 1) := by decide +kernel
theorem dX11_head_264 : decode cX11_head 264 = .ok (.getfield 111, 3) := by decide +kernel
theorem dX11_head_267 : decode cX11_head 267 = .ok (.if_icmp .le 43, 3) := by decide +kernel
theorem dX11_head_270 : decode cX11_head 270 = .ok (.aload_n 0, 1) := by decide +kernel
theorem dX11_head_271 : decode cX11_head 271 = .ok (.getfield 108, 3) := by decide +kernel
theorem dX11_head_274 : decode cX11_head 274 = .ok (.iconst 4, 1) := by decide +kernel
theorem dX11_head_275 : decode cX11_head 275 = .ok (.if_icmp .lt 35, 3) := by decide +kernel
theorem dX11_head_278 : decode cX11_head 278 = .ok (.sipush 128, 3) := by decide +kernel
theorem dX11_head_281 : decode cX11_head 281 = .ok (.aload_n 0, 1) := by decide +kernel
theorem dX11_head_282 : decode cX11_head 282 = .ok (.getfield 89, 3) := by decide +kernel
theorem dX11_head_285 : decode cX11_head 285 = .ok (.imul, 1) := by decide +kernel
theorem dX11_head_286 : decode cX11_head 286 = .ok (.aload_n 0, 1) := by decide +kernel
theorem dX11_head_287 : decode cX11_head 287 = .ok (.getfield 108, 3) := by decide +kernel
theorem dX11_head_290 : decode cX11_head 290 = .ok (.iconst 2, 1) := by decide +kernel
theorem dX11_head_291 : decode cX11_head 291 = .ok (.iadd, 1) := by decide +kernel
theorem dX11_head_292 : decode cX11_head 292 = .ok (.if_icmp .lt 18, 3) := by decide +kernel
theorem dX11_head_295 : decode cX11_head 295 = .ok (.aload_n 0, 1) := by decide +kernel
theorem dX11_head_296 : decode cX11_head 296 = .ok (.aload_n 0, 1) := by decide +kernel
theorem dX11_head_297 : decode cX11_head 297 = .ok (.getfield 117, 3) := by decide +kernel
theorem dX11_head_300 : decode cX11_head 300 = .ok (.invokevirtual 121, 3) := by decide +kernel
theorem dX11_head_303 : decode cX11_head 303 = .ok (.ifCond .eq 7, 3) := by decide +kernel
theorem dX11_head_306 : decode cX11_head 306 = .ok (.iconst 1, 1) := by decide +kernel
theorem dX11_head_307 : decode cX11_head 307 = .ok (.goto 4, 3) := by decide +kernel
theorem dX11_head_310 : decode cX11_head 310 = .ok (.iconst 0, 1) := by decide +kernel
theorem dX11_head_311 : decode cX11_head 311 = .ok (.ireturn, 1) := by decide +kernel
theorem dX11_badTables_0 : decode cX11_badTables 0 = .ok (.iconst 0, 1) := by decide +kernel
theorem dX11_badTables_1 : decode cX11_badTables 1 = .ok (.istore_n 1, 1) := by decide +kernel
theorem dX11_badTables_2 : decode cX11_badTables 2 = .ok (.iload_n 1, 1) := by decide +kernel
theorem dX11_badTables_3 : decode cX11_badTables 3 = .ok (.aload_n 0, 1) := by decide +kernel
theorem dX11_badTables_4 : decode cX11_badTables 4 = .ok (.getfield 108, 3) := by decide +kernel
theorem dX11_badTables_7 : decode cX11_badTables 7 = .ok (.iconst 2, 1) := by decide +kernel
theorem dX11_badTables_8 : decode cX11_badTables 8 = .ok (.iadd, 1) := by decide +kernel
theorem dX11_badTables_9 : decode cX11_badTables 9 = .ok (.if_icmp .ge 113, 3) := by decide +kernel
theorem dX11_badTables_12 : decode cX11_badTables 12 = .ok (.aload_n 0, 1) := by decide +kernel
theorem dX11_badTables_13 : decode cX11_badTables 13 = .ok (.iload_n 1, 1) := by decide +kernel
theorem dX11_badTables_14 : decode cX11_badTables 14 = .ok (.invokevirtual 125, 3) := by decide +kernel
theorem dX11_badTables_17 : decode cX11_badTables 17 = .ok (.istore_n 2, 1) := by decide +kernel
theorem dX11_badTables_18 : decode cX11_badTables 18 = .ok (.iload_n 1, 1) := by decide +kernel
theorem dX11_badTables_19 : decode cX11_badTables 19 = .ok (.ifCond .ne 17, 3) := by decide +kernel
theorem dX11_badTables_22 : decode cX11_badTables 22 = .ok (.iload_n 2, 1) := by decide +kernel
theorem dX11_badTables_23 : decode cX11_badTables 23 = .ok (.ldc 128, 2) := by decide +kernel
theorem dX11_badTables_25 : decode cX11_badTables 25 = .ok (.if_icmp .ne 7, 3) := by decide +kernel
theorem dX11_badTables_28 : decode cX11_badTables 28 = .ok (.iconst 1, 1) := by decide +kernel
theorem dX11_badTables_29 : decode cX11_badTables 29 = .ok (.goto 49, 3) := by decide +kernel
theorem dX11_badTables_32 : decode cX11_badTables 32 = .ok (.iconst 0, 1) := by decide +kernel
theorem dX11_badTables_33 : decode cX11_badTables 33 = .ok (.goto 45, 3) := by decide +kernel
theorem dX11_badTables_36 : decode cX11_badTables 36 = .ok (.iload_n 1, 1) := by decide +kernel
theorem dX11_badTables_37 : decode cX11_badTables 37 = .ok (.iconst 1, 1) := by decide +kernel
theorem dX11_badTables_38 : decode cX11_badTables 38 = .ok (.if_icmp .ne 17, 3) := by decide +kernel
theorem dX11_badTables_41 : decode cX11_badTables 41 = .ok (.iload_n 2, 1) := by decide +kernel
theorem dX11_badTables_42 : decode cX11_badTables 42 = .ok (.ldc 99, 2) := by decide +kernel
theorem dX11_badTables_44 : decode cX11_badTables 44 = .ok (.if_icmp .ne 7, 3) := by decide +kernel
theorem dX11_badTables_47 : decode cX11_badTables 47 = .ok (.iconst 1, 1) := by decide +kernel
theorem dX11_badTables_48 : decode cX11_badTables 48 = .ok (.goto 30, 3) := by decide +kernel
theorem dX11_badTables_51 : decode cX11_badTables 51 = .ok (.iconst 0, 1) := by decide +kernel
theorem dX11_badTables_52 : decode cX11_badTables 52 = .ok (.goto 26, 3) := by decide +kernel
theorem dX11_badTables_55 : decode cX11_badTables 55 = .ok (.iload_n 2, 1) := by decide +kernel
theorem dX11_badTables_56 : decode cX11_badTables 56 = .ok (.ifCond .eq 17, 3) := by decide +kernel
theorem dX11_badTables_59 : decode cX11_badTables 59 = .ok (.aload_n 0, 1) := by decide +kernel
theorem dX11_badTables_60 : decode cX11_badTables 60 = .ok (.iload_n 2, 1) := by decide +kernel
theorem dX11_badTables_61 : decode cX11_badTables 61 = .ok (.invokevirtual 121, 3) := by decide +kernel
theorem dX11_badTables_64 : decode cX11_badTables 64 = .ok (.ifCond .ne 9, 3) := by decide +kernel
theorem dX11_badTables_67 : decode cX11_badTables 67 = .ok (.iload_n 2, 1) := by decide +kernel
theorem dX11_badTables_68 : decode cX11_badTables 68 = .ok (.ldc 128, 2) := by decide +kernel
theorem dX11_badTables_70 : decode cX11_badTables 70 = .ok (.if_icmp .lt 7, 3) := by decide +kernel
theorem dX11_badTables_73 : decode cX11_badTables 73 = .ok (.iconst 1, 1) := by decide +kernel
theorem dX11_badTables_74 : decode cX11_badTables 74 = .ok (.goto 4, 3) := by decide +kernel
theorem dX11_badTables_77 : decode cX11_badTables 77 = .ok (.iconst 0, 1) := by decide +kernel
theorem dX11_badTables_78 : decode cX11_badTables 78 = .ok (.istore_n 3, 1) := by decide +kernel
theorem dX11_badTables_79 : decode cX11_badTables 79 = .ok (.iload_n 3, 1) := by decide +kernel
theorem dX11_badTables_80 : decode cX11_badTables 80 = .ok (.ifCond .eq 34, 3) := by decide +kernel
theorem dX11_badTables_83 : decode cX11_badTables 83 = .ok (.aload_n 0, 1) := by decide +kernel
theorem dX11_badTables_84 : decode cX11_badTables 84 = .ok (.getfield 100, 3) := by decide +kernel
theorem dX11_badTables_87 : decode cX11_badTables 87 = .ok (.iconst 2, 1) := by decide +kernel
theorem dX11_badTables_88 : decode cX11_badTables 88 = .ok (.if_icmp .ne 28, 3) := by decide +kernel
theorem dX11_badTables_91 : decode cX11_badTables 91 = .ok (.aload_n 0, 1) := by decide +kernel
theorem dX11_badTables_92 : decode cX11_badTables 92 = .ok (.aload_n 0, 1) := by decide +kernel
theorem dX11_badTables_93 : decode cX11_badTables 93 = .ok (.iconst 0, 1) := by decide +kernel
theorem dX11_badTables_94 : decode cX11_badTables 94 = .ok (.iload_n 1, 1) := by decide +kernel
theorem dX11_badTables_95 : decode cX11_badTables 95 = .ok (.invokevirtual 92, 3) := by decide +kernel
theorem dX11_badTables_98 : decode cX11_badTables 98 = .ok (.invokevirtual 96, 3) := by decide +kernel
theorem dX11_badTables_101 : decode cX11_badTables 101 = .ok (.aload_n 0, 1) := by decide +kernel
theorem dX11_badTables_102 : decode cX11_badTables 102 = .ok (.aload_n 0, 1) := by decide +kernel
theorem dX11_badTables_103 : decode cX11_badTables 103 = .ok (.iconst 1, 1) := by decide +kernel
theorem dX11_badTables_104 : decode cX11_badTables 104 = .ok (.iload_n 1, 1) := by decide +kernel
theorem dX11_badTables_105 : decode cX11_badTables 105 = .ok (.invokevirtual 92, 3) := by decide +kernel
theorem dX11_badTables_108 : decode cX11_badTables 108 = .ok (.invokevirtual 96, 3) := by decide +kernel
theorem dX11_badTables_111 : decode cX11_badTables 111 = .ok (.if_icmp .eq 5, 3) := by decide +kernel
theorem dX11_badTables_114 : decode cX11_badTables 114 = .ok (.iconst 1, 1) := by decide +kernel
theorem dX11_badTables_115 : decode cX11_badTables 115 = .ok (.ireturn, 1) := by decide +kernel
theorem dX11_badTables_116 : decode cX11_badTables 116 = .ok (.iinc 1 1, 3) := by decide +kernel
theorem dX11_badTables_119 : decode cX11_badTables 119 = .ok (.goto (-117), 3) := by decide +kernel
theorem dX11_badTables_122 : decode cX11_badTables 122 = .ok (.iconst 0, 1) := by decide +kernel
theorem dX11_badTables_123 : decode cX11_badTables 123 = .ok (.ireturn, 1) := by decide +kernel
theorem dX11_follows_0 : decode cX11_follows 0 = .ok (.aload_n 0, 1) := by decide +kernel
theorem dX11_follows_1 : decode cX11_follows 1 = .ok (.iconst 0, 1) := by decide +kernel
theorem dX11_follows_2 : decode cX11_follows 2 = .ok (.putfield 129, 3) := by decide +kernel
theorem dX11_follows_5 : decode cX11_follows 5 = .ok (.iload_n 1, 1) := by decide +kernel
theorem dX11_follows_6 : decode cX11_follows 6 = .ok (.istore_n 2, 1) := by decide +kernel
theorem dX11_follows_7 : decode cX11_follows 7 = .ok (.aload_n 0, 1) := by decide +kernel
theorem dX11_follows_8 : decode cX11_follows 8 = .ok (.iload_n 2, 1) := by decide +kernel
theorem dX11_follows_9 : decode cX11_follows 9 = .ok (.invokevirtual 121, 3) := by decide +kernel
theorem dX11_follows_12 : decode cX11_follows 12 = .ok (.ifCond .eq 20, 3) := by decide +kernel
theorem dX11_follows_15 : decode cX11_follows 15 = .ok (.aload_n 0, 1) := by decide +kernel
theorem dX11_follows_16 : decode cX11_follows 16 = .ok (.getfield 20, 3) := by decide +kernel
theorem dX11_follows_19 : decode cX11_follows 19 = .ok (.iload_n 2, 1) := by decide +kernel
theorem dX11_follows_20 : decode cX11_follows 20 = .ok (.baload, 1) := by decide +kernel
theorem dX11_follows_21 : decode cX11_follows 21 = .ok (.ifCond .ne 11, 3) := by decide +kernel
theorem dX11_follows_24 : decode cX11_follows 24 = .ok (.aload_n 0, 1) := by decide +kernel
theorem dX11_follows_25 : decode cX11_follows 25 = .ok (.iload_n 2, 1) := by decide +kernel
theorem dX11_follows_26 : decode cX11_follows 26 = .ok (.invokevirtual 125, 3) := by decide +kernel
theorem dX11_follows_29 : decode cX11_follows 29 = .ok (.ifCond .ne 5, 3) := by decide +kernel
theorem dX11_follows_32 : decode cX11_follows 32 = .ok (.iconst 0, 1) := by decide +kernel
theorem dX11_follows_33 : decode cX11_follows 33 = .ok (.ireturn, 1) := by decide +kernel
theorem dX11_follows_34 : decode cX11_follows 34 = .ok (.aload_n 0, 1) := by decide +kernel
theorem dX11_follows_35 : decode cX11_follows 35 = .ok (.getfield 20, 3) := by decide +kernel
theorem dX11_follows_38 : decode cX11_follows 38 = .ok (.iload_n 2, 1) := by decide +kernel
theorem dX11_follows_39 : decode cX11_follows 39 = .ok (.iconst 1, 1) := by decide +kernel
theorem dX11_follows_40 : decode cX11_follows 40 = .ok (.bastore, 1) := by decide +kernel
theorem dX11_follows_41 : decode cX11_follows 41 = .ok (.aload_n 0, 1) := by decide +kernel
theorem dX11_follows_42 : decode cX11_follows 42 = .ok (.getfield 54, 3) := by decide +kernel
theorem dX11_follows_45 : decode cX11_follows 45 = .ok (.aload_n 0, 1) := by decide +kernel
theorem dX11_follows_46 : decode cX11_follows 46 = .ok (.getfield 129, 3) := by decide +kernel
theorem dX11_follows_49 : decode cX11_follows 49 = .ok (.iload_n 2, 1) := by decide +kernel
theorem dX11_follows_50 : decode cX11_follows 50 = .ok (.iastore, 1) := by decide +kernel
theorem dX11_follows_51 : decode cX11_follows 51 = .ok (.aload_n 0, 1) := by decide +kernel
theorem dX11_follows_52 : decode cX11_follows 52 = .ok (.dup, 1) := by decide +kernel
theorem dX11_follows_53 : decode cX11_follows 53 = .ok (.getfield 129, 3) := by decide +kernel
theorem dX11_follows_56 : decode cX11_follows 56 = .ok (.iconst 1, 1) := by decide +kernel
theorem dX11_follows_57 : decode cX11_follows 57 = .ok (.iadd, 1) := by decide +kernel
theorem dX11_follows_58 : decode cX11_follows 58 = .ok (.putfield 129, 3) := by decide +kernel
theorem dX11_follows_61 : decode cX11_follows 61 = .ok (.aload_n 0, 1) := by decide +kernel
theorem dX11_follows_62 : decode cX11_follows 62 = .ok (.iload_n 2, 1) := by decide +kernel
theorem dX11_follows_63 : decode cX11_follows 63 = .ok (.invokevirtual 125, 3) := by decide +kernel
theorem dX11_follows_66 : decode cX11_follows 66 = .ok (.istore_n 2, 1) := by decide +kernel
theorem dX11_follows_67 : decode cX11_follows 67 = .ok (.iload_n 2, 1) := by decide +kernel
theorem dX11_follows_68 : decode cX11_follows 68 = .ok (.ldc 128, 2) := by decide +kernel
theorem dX11_follows_70 : decode cX11_follows 70 = .ok (.if_icmp .lt (-63), 3) := by decide +kernel
theorem dX11_follows_73 : decode cX11_follows 73 = .ok (.iconst 1, 1) := by decide +kernel
theorem dX11_follows_74 : decode cX11_follows 74 = .ok (.ireturn, 1) := by decide +kernel
theorem dX11_walk_0 : decode cX11_walk 0 = .ok (.aload_n 0, 1) := by decide +kernel
theorem dX11_walk_1 : decode cX11_walk 1 = .ok (.iconst 0, 1) := by decide +kernel
theorem dX11_walk_2 : decode cX11_walk 2 = .ok (.putfield 129, 3) := by decide +kernel
theorem dX11_walk_5 : decode cX11_walk 5 = .ok (.iload_n 1, 1) := by decide +kernel
theorem dX11_walk_6 : decode cX11_walk 6 = .ok (.istore_n 2, 1) := by decide +kernel
theorem dX11_walk_7 : decode cX11_walk 7 = .ok (.iload_n 2, 1) := by decide +kernel
theorem dX11_walk_8 : decode cX11_walk 8 = .ok (.ifCond .eq 38, 3) := by decide +kernel
theorem dX11_walk_11 : decode cX11_walk 11 = .ok (.iload_n 2, 1) := by decide +kernel
theorem dX11_walk_12 : decode cX11_walk 12 = .ok (.ldc 128, 2) := by decide +kernel
theorem dX11_walk_14 : decode cX11_walk 14 = .ok (.if_icmp .ge 32, 3) := by decide +kernel
theorem dX11_walk_17 : decode cX11_walk 17 = .ok (.aload_n 0, 1) := by decide +kernel
theorem dX11_walk_18 : decode cX11_walk 18 = .ok (.getfield 54, 3) := by decide +kernel
theorem dX11_walk_21 : decode cX11_walk 21 = .ok (.aload_n 0, 1) := by decide +kernel
theorem dX11_walk_22 : decode cX11_walk 22 = .ok (.getfield 129, 3) := by decide +kernel
theorem dX11_walk_25 : decode cX11_walk 25 = .ok (.iload_n 2, 1) := by decide +kernel
theorem dX11_walk_26 : decode cX11_walk 26 = .ok (.iastore, 1) := by decide +kernel
theorem dX11_walk_27 : decode cX11_walk 27 = .ok (.aload_n 0, 1) := by decide +kernel
theorem dX11_walk_28 : decode cX11_walk 28 = .ok (.dup, 1) := by decide +kernel
theorem dX11_walk_29 : decode cX11_walk 29 = .ok (.getfield 129, 3) := by decide +kernel
theorem dX11_walk_32 : decode cX11_walk 32 = .ok (.iconst 1, 1) := by decide +kernel
theorem dX11_walk_33 : decode cX11_walk 33 = .ok (.iadd, 1) := by decide +kernel
theorem dX11_walk_34 : decode cX11_walk 34 = .ok (.putfield 129, 3) := by decide +kernel
theorem dX11_walk_37 : decode cX11_walk 37 = .ok (.aload_n 0, 1) := by decide +kernel
theorem dX11_walk_38 : decode cX11_walk 38 = .ok (.iload_n 2, 1) := by decide +kernel
theorem dX11_walk_39 : decode cX11_walk 39 = .ok (.invokevirtual 125, 3) := by decide +kernel
theorem dX11_walk_42 : decode cX11_walk 42 = .ok (.istore_n 2, 1) := by decide +kernel
theorem dX11_walk_43 : decode cX11_walk 43 = .ok (.goto (-36), 3) := by decide +kernel
theorem dX11_walk_46 : decode cX11_walk 46 = .ok (.return_, 1) := by decide +kernel
theorem dX11_firstOf_0 : decode cX11_firstOf 0 = .ok (.aload_n 0, 1) := by decide +kernel
theorem dX11_firstOf_1 : decode cX11_firstOf 1 = .ok (.iload_n 1, 1) := by decide +kernel
theorem dX11_firstOf_2 : decode cX11_firstOf 2 = .ok (.bipush 20, 2) := by decide +kernel
theorem dX11_firstOf_4 : decode cX11_firstOf 4 = .ok (.iadd, 1) := by decide +kernel
theorem dX11_firstOf_5 : decode cX11_firstOf 5 = .ok (.invokevirtual 83, 3) := by decide +kernel
theorem dX11_firstOf_8 : decode cX11_firstOf 8 = .ok (.bipush 16, 2) := by decide +kernel
theorem dX11_firstOf_10 : decode cX11_firstOf 10 = .ok (.ishl, 1) := by decide +kernel
theorem dX11_firstOf_11 : decode cX11_firstOf 11 = .ok (.aload_n 0, 1) := by decide +kernel
theorem dX11_firstOf_12 : decode cX11_firstOf 12 = .ok (.iload_n 1, 1) := by decide +kernel
theorem dX11_firstOf_13 : decode cX11_firstOf 13 = .ok (.bipush 26, 2) := by decide +kernel
theorem dX11_firstOf_15 : decode cX11_firstOf 15 = .ok (.iadd, 1) := by decide +kernel
theorem dX11_firstOf_16 : decode cX11_firstOf 16 = .ok (.invokevirtual 83, 3) := by decide +kernel
theorem dX11_firstOf_19 : decode cX11_firstOf 19 = .ok (.ior, 1) := by decide +kernel
theorem dX11_firstOf_20 : decode cX11_firstOf 20 = .ok (.ireturn, 1) := by decide +kernel
theorem dX11_isFolder_0 : decode cX11_isFolder 0 = .ok (.iload_n 1, 1) := by decide +kernel
theorem dX11_isFolder_1 : decode cX11_isFolder 1 = .ok (.ifCond .eq 22, 3) := by decide +kernel
theorem dX11_isFolder_4 : decode cX11_isFolder 4 = .ok (.aload_n 0, 1) := by decide +kernel
theorem dX11_isFolder_5 : decode cX11_isFolder 5 = .ok (.aload_n 0, 1) := by decide +kernel
theorem dX11_isFolder_6 : decode cX11_isFolder 6 = .ok (.getfield 24, 3) := by decide +kernel
theorem dX11_isFolder_9 : decode cX11_isFolder 9 = .ok (.iload_n 1, 1) := by decide +kernel
theorem dX11_isFolder_10 : decode cX11_isFolder 10 = .ok (.iaload, 1) := by decide +kernel
theorem dX11_isFolder_11 : decode cX11_isFolder 11 = .ok (.bipush 11, 2) := by decide +kernel
theorem dX11_isFolder_13 : decode cX11_isFolder 13 = .ok (.iadd, 1) := by decide +kernel
theorem dX11_isFolder_14 : decode cX11_isFolder 14 = .ok (.invokevirtual 79, 3) := by decide +kernel
theorem dX11_isFolder_17 : decode cX11_isFolder 17 = .ok (.bipush 16, 2) := by decide +kernel
theorem dX11_isFolder_19 : decode cX11_isFolder 19 = .ok (.iand, 1) := by decide +kernel
theorem dX11_isFolder_20 : decode cX11_isFolder 20 = .ok (.ifCond .eq 7, 3) := by decide +kernel
theorem dX11_isFolder_23 : decode cX11_isFolder 23 = .ok (.iconst 1, 1) := by decide +kernel
theorem dX11_isFolder_24 : decode cX11_isFolder 24 = .ok (.goto 4, 3) := by decide +kernel
theorem dX11_isFolder_27 : decode cX11_isFolder 27 = .ok (.iconst 0, 1) := by decide +kernel
theorem dX11_isFolder_28 : decode cX11_isFolder 28 = .ok (.ireturn, 1) := by decide +kernel
theorem dX11_beginOf_0 : decode cX11_beginOf 0 = .ok (.iload_n 1, 1) := by decide +kernel
theorem dX11_beginOf_1 : decode cX11_beginOf 1 = .ok (.ifCond .ne 10, 3) := by decide +kernel
theorem dX11_beginOf_4 : decode cX11_beginOf 4 = .ok (.aload_n 0, 1) := by decide +kernel
theorem dX11_beginOf_5 : decode cX11_beginOf 5 = .ok (.getfield 117, 3) := by decide +kernel
theorem dX11_beginOf_8 : decode cX11_beginOf 8 = .ok (.goto 13, 3) := by decide +kernel
theorem dX11_beginOf_11 : decode cX11_beginOf 11 = .ok (.aload_n 0, 1) := by decide +kernel
theorem dX11_beginOf_12 : decode cX11_beginOf 12 = .ok (.aload_n 0, 1) := by decide +kernel
theorem dX11_beginOf_13 : decode cX11_beginOf 13 = .ok (.getfield 24, 3) := by decide +kernel
theorem dX11_beginOf_16 : decode cX11_beginOf 16 = .ok (.iload_n 1, 1) := by decide +kernel
theorem dX11_beginOf_17 : decode cX11_beginOf 17 = .ok (.iaload, 1) := by decide +kernel
theorem dX11_beginOf_18 : decode cX11_beginOf 18 = .ok (.invokevirtual 132, 3) := by decide +kernel
theorem dX11_beginOf_21 : decode cX11_beginOf 21 = .ok (.ireturn, 1) := by decide +kernel
theorem dX11_slotAt_0 : decode cX11_slotAt 0 = .ok (.aload_n 0, 1) := by decide +kernel
theorem dX11_slotAt_1 : decode cX11_slotAt 1 = .ok (.aload_n 0, 1) := by decide +kernel
theorem dX11_slotAt_2 : decode cX11_slotAt 2 = .ok (.getfield 57, 3) := by decide +kernel
theorem dX11_slotAt_5 : decode cX11_slotAt 5 = .ok (.iload_n 1, 1) := by decide +kernel
theorem dX11_slotAt_6 : decode cX11_slotAt 6 = .ok (.bipush 16, 2) := by decide +kernel
theorem dX11_slotAt_8 : decode cX11_slotAt 8 = .ok (.aload_n 0, 1) := by decide +kernel
theorem dX11_slotAt_9 : decode cX11_slotAt 9 = .ok (.getfield 114, 3) := by decide +kernel
theorem dX11_slotAt_12 : decode cX11_slotAt 12 = .ok (.imul, 1) := by decide +kernel
theorem dX11_slotAt_13 : decode cX11_slotAt 13 = .ok (.idiv, 1) := by decide +kernel
theorem dX11_slotAt_14 : decode cX11_slotAt 14 = .ok (.iaload, 1) := by decide +kernel
theorem dX11_slotAt_15 : decode cX11_slotAt 15 = .ok (.invokevirtual 135, 3) := by decide +kernel
theorem dX11_slotAt_18 : decode cX11_slotAt 18 = .ok (.bipush 32, 2) := by decide +kernel
theorem dX11_slotAt_20 : decode cX11_slotAt 20 = .ok (.iload_n 1, 1) := by decide +kernel
theorem dX11_slotAt_21 : decode cX11_slotAt 21 = .ok (.bipush 16, 2) := by decide +kernel
theorem dX11_slotAt_23 : decode cX11_slotAt 23 = .ok (.aload_n 0, 1) := by decide +kernel
theorem dX11_slotAt_24 : decode cX11_slotAt 24 = .ok (.getfield 114, 3) := by decide +kernel
theorem dX11_slotAt_27 : decode cX11_slotAt 27 = .ok (.imul, 1) := by decide +kernel
theorem dX11_slotAt_28 : decode cX11_slotAt 28 = .ok (.irem, 1) := by decide +kernel
theorem dX11_slotAt_29 : decode cX11_slotAt 29 = .ok (.imul, 1) := by decide +kernel
theorem dX11_slotAt_30 : decode cX11_slotAt 30 = .ok (.iadd, 1) := by decide +kernel
theorem dX11_slotAt_31 : decode cX11_slotAt 31 = .ok (.ireturn, 1) := by decide +kernel
theorem dX11_look_0 : decode cX11_look 0 = .ok (.aload_n 0, 1) := by decide +kernel
theorem dX11_look_1 : decode cX11_look 1 = .ok (.getfield 138, 3) := by decide +kernel
theorem dX11_look_4 : decode cX11_look 4 = .ok (.ifCond .eq 4, 3) := by decide +kernel
theorem dX11_look_7 : decode cX11_look 7 = .ok (.return_, 1) := by decide +kernel
theorem dX11_look_8 : decode cX11_look 8 = .ok (.aload_n 0, 1) := by decide +kernel
theorem dX11_look_9 : decode cX11_look 9 = .ok (.iconst 1, 1) := by decide +kernel
theorem dX11_look_10 : decode cX11_look 10 = .ok (.putfield 138, 3) := by decide +kernel
theorem dX11_look_13 : decode cX11_look 13 = .ok (.aload_n 0, 1) := by decide +kernel
theorem dX11_look_14 : decode cX11_look 14 = .ok (.iconst 1, 1) := by decide +kernel
theorem dX11_look_15 : decode cX11_look 15 = .ok (.putfield 142, 3) := by decide +kernel
theorem dX11_look_18 : decode cX11_look 18 = .ok (.aload_n 0, 1) := by decide +kernel
theorem dX11_look_19 : decode cX11_look 19 = .ok (.iconst 0, 1) := by decide +kernel
theorem dX11_look_20 : decode cX11_look 20 = .ok (.putfield 145, 3) := by decide +kernel
theorem dX11_look_23 : decode cX11_look 23 = .ok (.aload_n 0, 1) := by decide +kernel
theorem dX11_look_24 : decode cX11_look 24 = .ok (.iconst (-1), 1) := by decide +kernel
theorem dX11_look_25 : decode cX11_look 25 = .ok (.putfield 148, 3) := by decide +kernel
theorem dX11_look_28 : decode cX11_look 28 = .ok (.aload_n 0, 1) := by decide +kernel
theorem dX11_look_29 : decode cX11_look 29 = .ok (.aload_n 0, 1) := by decide +kernel
theorem dX11_look_30 : decode cX11_look 30 = .ok (.invokevirtual 151, 3) := by decide +kernel
theorem dX11_look_33 : decode cX11_look 33 = .ok (.ifCond .ne 7, 3) := by decide +kernel
theorem dX11_look_36 : decode cX11_look 36 = .ok (.iconst 1, 1) := by decide +kernel
theorem dX11_look_37 : decode cX11_look 37 = .ok (.goto 15, 3) := by decide +kernel
theorem dX11_look_40 : decode cX11_look 40 = .ok (.aload_n 0, 1) := by decide +kernel
theorem dX11_look_41 : decode cX11_look 41 = .ok (.invokevirtual 155, 3) := by decide +kernel
theorem dX11_look_44 : decode cX11_look 44 = .ok (.ifCond .eq 7, 3) := by decide +kernel
theorem dX11_look_47 : decode cX11_look 47 = .ok (.iconst 2, 1) := by decide +kernel
theorem dX11_look_48 : decode cX11_look 48 = .ok (.goto 4, 3) := by decide +kernel
theorem dX11_look_51 : decode cX11_look 51 = .ok (.iconst 0, 1) := by decide +kernel
theorem dX11_look_52 : decode cX11_look 52 = .ok (.putfield 158, 3) := by decide +kernel
theorem dX11_look_55 : decode cX11_look 55 = .ok (.aload_n 0, 1) := by decide +kernel
theorem dX11_look_56 : decode cX11_look 56 = .ok (.getfield 158, 3) := by decide +kernel
theorem dX11_look_59 : decode cX11_look 59 = .ok (.ifCond .le 4, 3) := by decide +kernel
theorem dX11_look_62 : decode cX11_look 62 = .ok (.return_, 1) := by decide +kernel
theorem dX11_look_63 : decode cX11_look 63 = .ok (.iconst 0, 1) := by decide +kernel
theorem dX11_look_64 : decode cX11_look 64 = .ok (.istore_n 1, 1) := by decide +kernel
theorem dX11_look_65 : decode cX11_look 65 = .ok (.iload_n 1, 1) := by decide +kernel
theorem dX11_look_66 : decode cX11_look 66 = .ok (.sipush 560, 3) := by decide +kernel
theorem dX11_look_69 : decode cX11_look 69 = .ok (.if_icmp .ge 16, 3) := by decide +kernel
theorem dX11_look_72 : decode cX11_look 72 = .ok (.aload_n 0, 1) := by decide +kernel
theorem dX11_look_73 : decode cX11_look 73 = .ok (.getfield 20, 3) := by decide +kernel
theorem dX11_look_76 : decode cX11_look 76 = .ok (.iload_n 1, 1) := by decide +kernel
theorem dX11_look_77 : decode cX11_look 77 = .ok (.iconst 0, 1) := by decide +kernel
theorem dX11_look_78 : decode cX11_look 78 = .ok (.bastore, 1) := by decide +kernel
theorem dX11_look_79 : decode cX11_look 79 = .ok (.iinc 1 1, 3) := by decide +kernel
theorem dX11_look_82 : decode cX11_look 82 = .ok (.goto (-17), 3) := by decide +kernel
theorem dX11_look_85 : decode cX11_look 85 = .ok (.iconst 0, 1) := by decide +kernel
theorem dX11_look_86 : decode cX11_look 86 = .ok (.istore_n 1, 1) := by decide +kernel
theorem dX11_look_87 : decode cX11_look 87 = .ok (.iload_n 1, 1) := by decide +kernel
theorem dX11_look_88 : decode cX11_look 88 = .ok (.aload_n 0, 1) := by decide +kernel
theorem dX11_look_89 : decode cX11_look 89 = .ok (.getfield 142, 3) := by decide +kernel
theorem dX11_look_92 : decode cX11_look 92 = .ok (.if_icmp .ge 46, 3) := by decide +kernel
theorem dX11_look_95 : decode cX11_look 95 = .ok (.aload_n 0, 1) := by decide +kernel
theorem dX11_look_96 : decode cX11_look 96 = .ok (.getfield 158, 3) := by decide +kernel
theorem dX11_look_99 : decode cX11_look 99 = .ok (.ifCond .ne 39, 3) := by decide +kernel
theorem dX11_look_102 : decode cX11_look 102 = .ok (.aload_n 0, 1) := by decide +kernel
theorem dX11_look_103 : decode cX11_look 103 = .ok (.getfield 40, 3) := by decide +kernel
theorem dX11_look_106 : decode cX11_look 106 = .ok (.iload_n 1, 1) := by decide +kernel
theorem dX11_look_107 : decode cX11_look 107 = .ok (.aload_n 0, 1) := by decide +kernel
theorem dX11_look_108 : decode cX11_look 108 = .ok (.getfield 142, 3) := by decide +kernel
theorem dX11_look_111 : decode cX11_look 111 = .ok (.iastore, 1) := by decide +kernel
theorem dX11_look_112 : decode cX11_look 112 = .ok (.aload_n 0, 1) := by decide +kernel
theorem dX11_look_113 : decode cX11_look 113 = .ok (.getfield 37, 3) := by decide +kernel
theorem dX11_look_116 : decode cX11_look 116 = .ok (.iload_n 1, 1) := by decide +kernel
theorem dX11_look_117 : decode cX11_look 117 = .ok (.iconst 0, 1) := by decide +kernel
theorem dX11_look_118 : decode cX11_look 118 = .ok (.iastore, 1) := by decide +kernel
theorem dX11_look_119 : decode cX11_look 119 = .ok (.aload_n 0, 1) := by decide +kernel
theorem dX11_look_120 : decode cX11_look 120 = .ok (.iload_n 1, 1) := by decide +kernel
theorem dX11_look_121 : decode cX11_look 121 = .ok (.invokevirtual 161, 3) := by decide +kernel
theorem dX11_look_124 : decode cX11_look 124 = .ok (.ifCond .eq 8, 3) := by decide +kernel
theorem dX11_look_127 : decode cX11_look 127 = .ok (.aload_n 0, 1) := by decide +kernel
theorem dX11_look_128 : decode cX11_look 128 = .ok (.iload_n 1, 1) := by decide +kernel
theorem dX11_look_129 : decode cX11_look 129 = .ok (.invokevirtual 164, 3) := by decide +kernel
theorem dX11_look_132 : decode cX11_look 132 = .ok (.iinc 1 1, 3) := by decide +kernel
theorem dX11_look_135 : decode cX11_look 135 = .ok (.goto (-48), 3) := by decide +kernel
theorem dX11_look_138 : decode cX11_look 138 = .ok (.iconst 2, 1) := by decide +kernel
theorem dX11_look_139 : decode cX11_look 139 = .ok (.istore_n 1, 1) := by decide +kernel
theorem dX11_look_140 : decode cX11_look 140 = .ok (.iload_n 1, 1) := by decide +kernel
theorem dX11_look_141 : decode cX11_look 141 = .ok (.aload_n 0, 1) := by decide +kernel
theorem dX11_look_142 : decode cX11_look 142 = .ok (.getfield 108, 3) := by decide +kernel
theorem dX11_look_145 : decode cX11_look 145 = .ok (.iconst 2, 1) := by decide +kernel
theorem dX11_look_146 : decode cX11_look 146 = .ok (.iadd, 1) := by decide +kernel
theorem dX11_look_147 : decode cX11_look 147 = .ok (.if_icmp .ge 39, 3) := by decide +kernel
theorem dX11_look_150 : decode cX11_look 150 = .ok (.aload_n 0, 1) := by decide +kernel
theorem dX11_look_151 : decode cX11_look 151 = .ok (.getfield 158, 3) := by decide +kernel
theorem dX11_look_154 : decode cX11_look 154 = .ok (.ifCond .ne 32, 3) := by decide +kernel
theorem dX11_look_157 : decode cX11_look 157 = .ok (.aload_n 0, 1) := by decide +kernel
theorem dX11_look_158 : decode cX11_look 158 = .ok (.iload_n 1, 1) := by decide +kernel
theorem dX11_look_159 : decode cX11_look 159 = .ok (.invokevirtual 125, 3) := by decide +kernel
theorem dX11_look_162 : decode cX11_look 162 = .ok (.ifCond .eq 18, 3) := by decide +kernel
theorem dX11_look_165 : decode cX11_look 165 = .ok (.aload_n 0, 1) := by decide +kernel
theorem dX11_look_166 : decode cX11_look 166 = .ok (.getfield 20, 3) := by decide +kernel
theorem dX11_look_169 : decode cX11_look 169 = .ok (.iload_n 1, 1) := by decide +kernel
theorem dX11_look_170 : decode cX11_look 170 = .ok (.baload, 1) := by decide +kernel
theorem dX11_look_171 : decode cX11_look 171 = .ok (.ifCond .ne 9, 3) := by decide +kernel
theorem dX11_look_174 : decode cX11_look 174 = .ok (.aload_n 0, 1) := by decide +kernel
theorem dX11_look_175 : decode cX11_look 175 = .ok (.bipush 6, 2) := by decide +kernel
theorem dX11_look_177 : decode cX11_look 177 = .ok (.putfield 158, 3) := by decide +kernel
theorem dX11_look_180 : decode cX11_look 180 = .ok (.iinc 1 1, 3) := by decide +kernel
theorem dX11_look_183 : decode cX11_look 183 = .ok (.goto (-43), 3) := by decide +kernel
theorem dX11_look_186 : decode cX11_look 186 = .ok (.return_, 1) := by decide +kernel
theorem dX11_loadFolder_0 : decode cX11_loadFolder 0 = .ok (.aload_n 0, 1) := by decide +kernel
theorem dX11_loadFolder_1 : decode cX11_loadFolder 1 = .ok (.aload_n 0, 1) := by decide +kernel
theorem dX11_loadFolder_2 : decode cX11_loadFolder 2 = .ok (.iload_n 1, 1) := by decide +kernel
theorem dX11_loadFolder_3 : decode cX11_loadFolder 3 = .ok (.invokevirtual 168, 3) := by decide +kernel
theorem dX11_loadFolder_6 : decode cX11_loadFolder 6 = .ok (.invokevirtual 171, 3) := by decide +kernel
theorem dX11_loadFolder_9 : decode cX11_loadFolder 9 = .ok (.iconst 0, 1) := by decide +kernel
theorem dX11_loadFolder_10 : decode cX11_loadFolder 10 = .ok (.istore_n 2, 1) := by decide +kernel
theorem dX11_loadFolder_11 : decode cX11_loadFolder 11 = .ok (.iload_n 2, 1) := by decide +kernel
theorem dX11_loadFolder_12 : decode cX11_loadFolder 12 = .ok (.aload_n 0, 1) := by decide +kernel
theorem dX11_loadFolder_13 : decode cX11_loadFolder 13 = .ok (.getfield 129, 3) := by decide +kernel
theorem dX11_loadFolder_16 : decode cX11_loadFolder 16 = .ok (.if_icmp .ge 21, 3) := by decide +kernel
theorem dX11_loadFolder_19 : decode cX11_loadFolder 19 = .ok (.aload_n 0, 1) := by decide +kernel
theorem dX11_loadFolder_20 : decode cX11_loadFolder 20 = .ok (.getfield 57, 3) := by decide +kernel
theorem dX11_loadFolder_23 : decode cX11_loadFolder 23 = .ok (.iload_n 2, 1) := by decide +kernel
theorem dX11_loadFolder_24 : decode cX11_loadFolder 24 = .ok (.aload_n 0, 1) := by decide +kernel
theorem dX11_loadFolder_25 : decode cX11_loadFolder 25 = .ok (.getfield 54, 3) := by decide +kernel
theorem dX11_loadFolder_28 : decode cX11_loadFolder 28 = .ok (.iload_n 2, 1) := by decide +kernel
theorem dX11_loadFolder_29 : decode cX11_loadFolder 29 = .ok (.iaload, 1) := by decide +kernel
theorem dX11_loadFolder_30 : decode cX11_loadFolder 30 = .ok (.iastore, 1) := by decide +kernel
theorem dX11_loadFolder_31 : decode cX11_loadFolder 31 = .ok (.iinc 2 1, 3) := by decide +kernel
theorem dX11_loadFolder_34 : decode cX11_loadFolder 34 = .ok (.goto (-23), 3) := by decide +kernel
theorem dX11_loadFolder_37 : decode cX11_loadFolder 37 = .ok (.aload_n 0, 1) := by decide +kernel
theorem dX11_loadFolder_38 : decode cX11_loadFolder 38 = .ok (.aload_n 0, 1) := by decide +kernel
theorem dX11_loadFolder_39 : decode cX11_loadFolder 39 = .ok (.getfield 129, 3) := by decide +kernel
theorem dX11_loadFolder_42 : decode cX11_loadFolder 42 = .ok (.putfield 174, 3) := by decide +kernel
theorem dX11_loadFolder_45 : decode cX11_loadFolder 45 = .ok (.return_, 1) := by decide +kernel
theorem dX11_scan_0 : decode cX11_scan 0 = .ok (.aload_n 0, 1) := by decide +kernel
theorem dX11_scan_1 : decode cX11_scan 1 = .ok (.aload_n 0, 1) := by decide +kernel
theorem dX11_scan_2 : decode cX11_scan 2 = .ok (.iload_n 1, 1) := by decide +kernel
theorem dX11_scan_3 : decode cX11_scan 3 = .ok (.invokevirtual 168, 3) := by decide +kernel
theorem dX11_scan_6 : decode cX11_scan 6 = .ok (.invokevirtual 177, 3) := by decide +kernel
theorem dX11_scan_9 : decode cX11_scan 9 = .ok (.ifCond .ne 9, 3) := by decide +kernel
theorem dX11_scan_12 : decode cX11_scan 12 = .ok (.aload_n 0, 1) := by decide +kernel
theorem dX11_scan_13 : decode cX11_scan 13 = .ok (.iconst 3, 1) := by decide +kernel
theorem dX11_scan_14 : decode cX11_scan 14 = .ok (.putfield 158, 3) := by decide +kernel
theorem dX11_scan_17 : decode cX11_scan 17 = .ok (.return_, 1) := by decide +kernel
theorem dX11_scan_18 : decode cX11_scan 18 = .ok (.iconst 0, 1) := by decide +kernel
theorem dX11_scan_19 : decode cX11_scan 19 = .ok (.istore_n 2, 1) := by decide +kernel
theorem dX11_scan_20 : decode cX11_scan 20 = .ok (.iload_n 2, 1) := by decide +kernel
theorem dX11_scan_21 : decode cX11_scan 21 = .ok (.aload_n 0, 1) := by decide +kernel
theorem dX11_scan_22 : decode cX11_scan 22 = .ok (.getfield 129, 3) := by decide +kernel
theorem dX11_scan_25 : decode cX11_scan 25 = .ok (.if_icmp .ge 21, 3) := by decide +kernel
theorem dX11_scan_28 : decode cX11_scan 28 = .ok (.aload_n 0, 1) := by decide +kernel
theorem dX11_scan_29 : decode cX11_scan 29 = .ok (.getfield 57, 3) := by decide +kernel
theorem dX11_scan_32 : decode cX11_scan 32 = .ok (.iload_n 2, 1) := by decide +kernel
theorem dX11_scan_33 : decode cX11_scan 33 = .ok (.aload_n 0, 1) := by decide +kernel
theorem dX11_scan_34 : decode cX11_scan 34 = .ok (.getfield 54, 3) := by decide +kernel
theorem dX11_scan_37 : decode cX11_scan 37 = .ok (.iload_n 2, 1) := by decide +kernel
theorem dX11_scan_38 : decode cX11_scan 38 = .ok (.iaload, 1) := by decide +kernel
theorem dX11_scan_39 : decode cX11_scan 39 = .ok (.iastore, 1) := by decide +kernel
theorem dX11_scan_40 : decode cX11_scan 40 = .ok (.iinc 2 1, 3) := by decide +kernel
theorem dX11_scan_43 : decode cX11_scan 43 = .ok (.goto (-23), 3) := by decide +kernel
theorem dX11_scan_46 : decode cX11_scan 46 = .ok (.aload_n 0, 1) := by decide +kernel
theorem dX11_scan_47 : decode cX11_scan 47 = .ok (.aload_n 0, 1) := by decide +kernel
theorem dX11_scan_48 : decode cX11_scan 48 = .ok (.getfield 129, 3) := by decide +kernel
theorem dX11_scan_51 : decode cX11_scan 51 = .ok (.putfield 174, 3) := by decide +kernel
theorem dX11_scan_54 : decode cX11_scan 54 = .ok (.aload_n 0, 1) := by decide +kernel
theorem dX11_scan_55 : decode cX11_scan 55 = .ok (.iconst 0, 1) := by decide +kernel
theorem dX11_scan_56 : decode cX11_scan 56 = .ok (.putfield 180, 3) := by decide +kernel
theorem dX11_scan_59 : decode cX11_scan 59 = .ok (.aload_n 0, 1) := by decide +kernel
theorem dX11_scan_60 : decode cX11_scan 60 = .ok (.iconst 0, 1) := by decide +kernel
theorem dX11_scan_61 : decode cX11_scan 61 = .ok (.putfield 183, 3) := by decide +kernel
theorem dX11_scan_64 : decode cX11_scan 64 = .ok (.iconst 0, 1) := by decide +kernel
theorem dX11_scan_65 : decode cX11_scan 65 = .ok (.istore_n 2, 1) := by decide +kernel
theorem dX11_scan_66 : decode cX11_scan 66 = .ok (.iload_n 2, 1) := by decide +kernel
theorem dX11_scan_67 : decode cX11_scan 67 = .ok (.aload_n 0, 1) := by decide +kernel
theorem dX11_scan_68 : decode cX11_scan 68 = .ok (.getfield 174, 3) := by decide +kernel
theorem dX11_scan_71 : decode cX11_scan 71 = .ok (.bipush 16, 2) := by decide +kernel
theorem dX11_scan_73 : decode cX11_scan 73 = .ok (.imul, 1) := by decide +kernel
theorem dX11_scan_74 : decode cX11_scan 74 = .ok (.aload_n 0, 1) := by decide +kernel
theorem dX11_scan_75 : decode cX11_scan 75 = .ok (.getfield 114, 3) := by decide +kernel
theorem dX11_scan_78 : decode cX11_scan 78 = .ok (.imul, 1) := by decide +kernel
theorem dX11_scan_79 : decode cX11_scan 79 = .ok (.if_icmp .ge 141, 3) := by decide +kernel
theorem dX11_scan_82 : decode cX11_scan 82 = .ok (.aload_n 0, 1) := by decide +kernel
theorem dX11_scan_83 : decode cX11_scan 83 = .ok (.getfield 158, 3) := by decide +kernel
theorem dX11_scan_86 : decode cX11_scan 86 = .ok (.ifCond .ne 134, 3) := by decide +kernel
theorem dX11_scan_89 : decode cX11_scan 89 = .ok (.aload_n 0, 1) := by decide +kernel
theorem dX11_scan_90 : decode cX11_scan 90 = .ok (.iload_n 2, 1) := by decide +kernel
theorem dX11_scan_91 : decode cX11_scan 91 = .ok (.invokevirtual 186, 3) := by decide +kernel
theorem dX11_scan_94 : decode cX11_scan 94 = .ok (.istore_n 3, 1) := by decide +kernel
theorem dX11_scan_95 : decode cX11_scan 95 = .ok (.aload_n 0, 1) := by decide +kernel
theorem dX11_scan_96 : decode cX11_scan 96 = .ok (.iload_n 3, 1) := by decide +kernel
theorem dX11_scan_97 : decode cX11_scan 97 = .ok (.invokevirtual 79, 3) := by decide +kernel
theorem dX11_scan_100 : decode cX11_scan 100 = .ok (.ifCond .ne 6, 3) := by decide +kernel
theorem dX11_scan_103 : decode cX11_scan 103 = .ok (.goto 117, 3) := by decide +kernel
theorem dX11_scan_106 : decode cX11_scan 106 = .ok (.iload_n 1, 1) := by decide +kernel
theorem dX11_scan_107 : decode cX11_scan 107 = .ok (.ifCond .le 30, 3) := by decide +kernel
theorem dX11_scan_110 : decode cX11_scan 110 = .ok (.iload_n 2, 1) := by decide +kernel
theorem dX11_scan_111 : decode cX11_scan 111 = .ok (.iconst 2, 1) := by decide +kernel
theorem dX11_scan_112 : decode cX11_scan 112 = .ok (.if_icmp .ge 25, 3) := by decide +kernel
theorem dX11_scan_115 : decode cX11_scan 115 = .ok (.aload_n 0, 1) := by decide +kernel
theorem dX11_scan_116 : decode cX11_scan 116 = .ok (.aload_n 0, 1) := by decide +kernel
theorem dX11_scan_117 : decode cX11_scan 117 = .ok (.iload_n 3, 1) := by decide +kernel
theorem dX11_scan_118 : decode cX11_scan 118 = .ok (.iload_n 1, 1) := by decide +kernel
theorem dX11_scan_119 : decode cX11_scan 119 = .ok (.iload_n 2, 1) := by decide +kernel
theorem dX11_scan_120 : decode cX11_scan 120 = .ok (.invokevirtual 189, 3) := by decide +kernel
theorem dX11_scan_123 : decode cX11_scan 123 = .ok (.ifCond .eq 7, 3) := by decide +kernel
theorem dX11_scan_126 : decode cX11_scan 126 = .ok (.iconst 0, 1) := by decide +kernel
theorem dX11_scan_127 : decode cX11_scan 127 = .ok (.goto 4, 3) := by decide +kernel
theorem dX11_scan_130 : decode cX11_scan 130 = .ok (.iconst 4, 1) := by decide +kernel
theorem dX11_scan_131 : decode cX11_scan 131 = .ok (.putfield 158, 3) := by decide +kernel
theorem dX11_scan_134 : decode cX11_scan 134 = .ok (.goto 80, 3) := by decide +kernel
theorem dX11_scan_137 : decode cX11_scan 137 = .ok (.aload_n 0, 1) := by decide +kernel
theorem dX11_scan_138 : decode cX11_scan 138 = .ok (.iload_n 3, 1) := by decide +kernel
theorem dX11_scan_139 : decode cX11_scan 139 = .ok (.invokevirtual 79, 3) := by decide +kernel
theorem dX11_scan_142 : decode cX11_scan 142 = .ok (.sipush 229, 3) := by decide +kernel
theorem dX11_scan_145 : decode cX11_scan 145 = .ok (.if_icmp .ne 22, 3) := by decide +kernel
theorem dX11_scan_148 : decode cX11_scan 148 = .ok (.aload_n 0, 1) := by decide +kernel
theorem dX11_scan_149 : decode cX11_scan 149 = .ok (.aload_n 0, 1) := by decide +kernel
theorem dX11_scan_150 : decode cX11_scan 150 = .ok (.getfield 180, 3) := by decide +kernel
theorem dX11_scan_153 : decode cX11_scan 153 = .ok (.ifCond .le 7, 3) := by decide +kernel
theorem dX11_scan_156 : decode cX11_scan 156 = .ok (.iconst 4, 1) := by decide +kernel
theorem dX11_scan_157 : decode cX11_scan 157 = .ok (.goto 4, 3) := by decide +kernel
theorem dX11_scan_160 : decode cX11_scan 160 = .ok (.iconst 0, 1) := by decide +kernel
theorem dX11_scan_161 : decode cX11_scan 161 = .ok (.putfield 158, 3) := by decide +kernel
theorem dX11_scan_164 : decode cX11_scan 164 = .ok (.goto 50, 3) := by decide +kernel
theorem dX11_scan_167 : decode cX11_scan 167 = .ok (.aload_n 0, 1) := by decide +kernel
theorem dX11_scan_168 : decode cX11_scan 168 = .ok (.iload_n 3, 1) := by decide +kernel
theorem dX11_scan_169 : decode cX11_scan 169 = .ok (.bipush 11, 2) := by decide +kernel
theorem dX11_scan_171 : decode cX11_scan 171 = .ok (.iadd, 1) := by decide +kernel
theorem dX11_scan_172 : decode cX11_scan 172 = .ok (.invokevirtual 79, 3) := by decide +kernel
theorem dX11_scan_175 : decode cX11_scan 175 = .ok (.bipush 63, 2) := by decide +kernel
theorem dX11_scan_177 : decode cX11_scan 177 = .ok (.iand, 1) := by decide +kernel
theorem dX11_scan_178 : decode cX11_scan 178 = .ok (.bipush 15, 2) := by decide +kernel
theorem dX11_scan_180 : decode cX11_scan 180 = .ok (.if_icmp .ne 23, 3) := by decide +kernel
theorem dX11_scan_183 : decode cX11_scan 183 = .ok (.aload_n 0, 1) := by decide +kernel
theorem dX11_scan_184 : decode cX11_scan 184 = .ok (.aload_n 0, 1) := by decide +kernel
theorem dX11_scan_185 : decode cX11_scan 185 = .ok (.iload_n 3, 1) := by decide +kernel
theorem dX11_scan_186 : decode cX11_scan 186 = .ok (.invokevirtual 193, 3) := by decide +kernel
theorem dX11_scan_189 : decode cX11_scan 189 = .ok (.ifCond .eq 7, 3) := by decide +kernel
theorem dX11_scan_192 : decode cX11_scan 192 = .ok (.iconst 0, 1) := by decide +kernel
theorem dX11_scan_193 : decode cX11_scan 193 = .ok (.goto 4, 3) := by decide +kernel
theorem dX11_scan_196 : decode cX11_scan 196 = .ok (.iconst 4, 1) := by decide +kernel
theorem dX11_scan_197 : decode cX11_scan 197 = .ok (.putfield 158, 3) := by decide +kernel
theorem dX11_scan_200 : decode cX11_scan 200 = .ok (.goto 14, 3) := by decide +kernel
theorem dX11_scan_203 : decode cX11_scan 203 = .ok (.aload_n 0, 1) := by decide +kernel
theorem dX11_scan_204 : decode cX11_scan 204 = .ok (.aload_n 0, 1) := by decide +kernel
theorem dX11_scan_205 : decode cX11_scan 205 = .ok (.iload_n 3, 1) := by decide +kernel
theorem dX11_scan_206 : decode cX11_scan 206 = .ok (.iload_n 1, 1) := by decide +kernel
theorem dX11_scan_207 : decode cX11_scan 207 = .ok (.iload_n 2, 1) := by decide +kernel
theorem dX11_scan_208 : decode cX11_scan 208 = .ok (.invokevirtual 196, 3) := by decide +kernel
theorem dX11_scan_211 : decode cX11_scan 211 = .ok (.putfield 158, 3) := by decide +kernel
theorem dX11_scan_214 : decode cX11_scan 214 = .ok (.iinc 2 1, 3) := by decide +kernel
theorem dX11_scan_217 : decode cX11_scan 217 = .ok (.goto (-151), 3) := by decide +kernel
theorem dX11_scan_220 : decode cX11_scan 220 = .ok (.aload_n 0, 1) := by decide +kernel
theorem dX11_scan_221 : decode cX11_scan 221 = .ok (.getfield 158, 3) := by decide +kernel
theorem dX11_scan_224 : decode cX11_scan 224 = .ok (.ifCond .ne 24, 3) := by decide +kernel
theorem dX11_scan_227 : decode cX11_scan 227 = .ok (.aload_n 0, 1) := by decide +kernel
theorem dX11_scan_228 : decode cX11_scan 228 = .ok (.getfield 180, 3) := by decide +kernel
theorem dX11_scan_231 : decode cX11_scan 231 = .ok (.ifCond .gt 12, 3) := by decide +kernel
theorem dX11_scan_234 : decode cX11_scan 234 = .ok (.iload_n 1, 1) := by decide +kernel
theorem dX11_scan_235 : decode cX11_scan 235 = .ok (.ifCond .le 13, 3) := by decide +kernel
theorem dX11_scan_238 : decode cX11_scan 238 = .ok (.iload_n 2, 1) := by decide +kernel
theorem dX11_scan_239 : decode cX11_scan 239 = .ok (.iconst 2, 1) := by decide +kernel
theorem dX11_scan_240 : decode cX11_scan 240 = .ok (.if_icmp .ge 8, 3) := by decide +kernel
theorem dX11_scan_243 : decode cX11_scan 243 = .ok (.aload_n 0, 1) := by decide +kernel
theorem dX11_scan_244 : decode cX11_scan 244 = .ok (.iconst 4, 1) := by decide +kernel
theorem dX11_scan_245 : decode cX11_scan 245 = .ok (.putfield 158, 3) := by decide +kernel
theorem dX11_scan_248 : decode cX11_scan 248 = .ok (.return_, 1) := by decide +kernel
theorem dX11_dots_0 : decode cX11_dots 0 = .ok (.iconst 0, 1) := by decide +kernel
theorem dX11_dots_1 : decode cX11_dots 1 = .ok (.istore 4, 2) := by decide +kernel
theorem dX11_dots_3 : decode cX11_dots 3 = .ok (.iload 4, 2) := by decide +kernel
theorem dX11_dots_5 : decode cX11_dots 5 = .ok (.bipush 11, 2) := by decide +kernel
theorem dX11_dots_7 : decode cX11_dots 7 = .ok (.if_icmp .ge 35, 3) := by decide +kernel
theorem dX11_dots_10 : decode cX11_dots 10 = .ok (.aload_n 0, 1) := by decide +kernel
theorem dX11_dots_11 : decode cX11_dots 11 = .ok (.iload_n 1, 1) := by decide +kernel
theorem dX11_dots_12 : decode cX11_dots 12 = .ok (.iload 4, 2) := by decide +kernel
theorem dX11_dots_14 : decode cX11_dots 14 = .ok (.iadd, 1) := by decide +kernel
theorem dX11_dots_15 : decode cX11_dots 15 = .ok (.invokevirtual 79, 3) := by decide +kernel
theorem dX11_dots_18 : decode cX11_dots 18 = .ok (.iload 4, 2) := by decide +kernel
theorem dX11_dots_20 : decode cX11_dots 20 = .ok (.iload_n 3, 1) := by decide +kernel
theorem dX11_dots_21 : decode cX11_dots 21 = .ok (.if_icmp .gt 8, 3) := by decide +kernel
theorem dX11_dots_24 : decode cX11_dots 24 = .ok (.bipush 46, 2) := by decide +kernel
theorem dX11_dots_26 : decode cX11_dots 26 = .ok (.goto 5, 3) := by decide +kernel
theorem dX11_dots_29 : decode cX11_dots 29 = .ok (.bipush 32, 2) := by decide +kernel
theorem dX11_dots_31 : decode cX11_dots 31 = .ok (.if_icmp .eq 5, 3) := by decide +kernel
theorem dX11_dots_34 : decode cX11_dots 34 = .ok (.iconst 0, 1) := by decide +kernel
theorem dX11_dots_35 : decode cX11_dots 35 = .ok (.ireturn, 1) := by decide +kernel
theorem dX11_dots_36 : decode cX11_dots 36 = .ok (.iinc 4 1, 3) := by decide +kernel
theorem dX11_dots_39 : decode cX11_dots 39 = .ok (.goto (-36), 3) := by decide +kernel
theorem dX11_dots_42 : decode cX11_dots 42 = .ok (.aload_n 0, 1) := by decide +kernel
theorem dX11_dots_43 : decode cX11_dots 43 = .ok (.iload_n 1, 1) := by decide +kernel
theorem dX11_dots_44 : decode cX11_dots 44 = .ok (.bipush 11, 2) := by decide +kernel
theorem dX11_dots_46 : decode cX11_dots 46 = .ok (.iadd, 1) := by decide +kernel
theorem dX11_dots_47 : decode cX11_dots 47 = .ok (.invokevirtual 79, 3) := by decide +kernel
theorem dX11_dots_50 : decode cX11_dots 50 = .ok (.bipush 16, 2) := by decide +kernel
theorem dX11_dots_52 : decode cX11_dots 52 = .ok (.if_icmp .ne 50, 3) := by decide +kernel
theorem dX11_dots_55 : decode cX11_dots 55 = .ok (.aload_n 0, 1) := by decide +kernel
theorem dX11_dots_56 : decode cX11_dots 56 = .ok (.iload_n 1, 1) := by decide +kernel
theorem dX11_dots_57 : decode cX11_dots 57 = .ok (.invokevirtual 132, 3) := by decide +kernel
theorem dX11_dots_60 : decode cX11_dots 60 = .ok (.iload_n 3, 1) := by decide +kernel
theorem dX11_dots_61 : decode cX11_dots 61 = .ok (.ifCond .ne 11, 3) := by decide +kernel
theorem dX11_dots_64 : decode cX11_dots 64 = .ok (.aload_n 0, 1) := by decide +kernel
theorem dX11_dots_65 : decode cX11_dots 65 = .ok (.iload_n 2, 1) := by decide +kernel
theorem dX11_dots_66 : decode cX11_dots 66 = .ok (.invokevirtual 168, 3) := by decide +kernel
theorem dX11_dots_69 : decode cX11_dots 69 = .ok (.goto 26, 3) := by decide +kernel
theorem dX11_dots_72 : decode cX11_dots 72 = .ok (.aload_n 0, 1) := by decide +kernel
theorem dX11_dots_73 : decode cX11_dots 73 = .ok (.getfield 34, 3) := by decide +kernel
theorem dX11_dots_76 : decode cX11_dots 76 = .ok (.iload_n 2, 1) := by decide +kernel
theorem dX11_dots_77 : decode cX11_dots 77 = .ok (.iaload, 1) := by decide +kernel
theorem dX11_dots_78 : decode cX11_dots 78 = .ok (.ifCond .ne 7, 3) := by decide +kernel
theorem dX11_dots_81 : decode cX11_dots 81 = .ok (.iconst 0, 1) := by decide +kernel
theorem dX11_dots_82 : decode cX11_dots 82 = .ok (.goto 13, 3) := by decide +kernel
theorem dX11_dots_85 : decode cX11_dots 85 = .ok (.aload_n 0, 1) := by decide +kernel
theorem dX11_dots_86 : decode cX11_dots 86 = .ok (.aload_n 0, 1) := by decide +kernel
theorem dX11_dots_87 : decode cX11_dots 87 = .ok (.getfield 34, 3) := by decide +kernel
theorem dX11_dots_90 : decode cX11_dots 90 = .ok (.iload_n 2, 1) := by decide +kernel
theorem dX11_dots_91 : decode cX11_dots 91 = .ok (.iaload, 1) := by decide +kernel
theorem dX11_dots_92 : decode cX11_dots 92 = .ok (.invokevirtual 168, 3) := by decide +kernel
theorem dX11_dots_95 : decode cX11_dots 95 = .ok (.if_icmp .ne 7, 3) := by decide +kernel
theorem dX11_dots_98 : decode cX11_dots 98 = .ok (.iconst 1, 1) := by decide +kernel
theorem dX11_dots_99 : decode cX11_dots 99 = .ok (.goto 4, 3) := by decide +kernel
theorem dX11_dots_102 : decode cX11_dots 102 = .ok (.iconst 0, 1) := by decide +kernel
theorem dX11_dots_103 : decode cX11_dots 103 = .ok (.ireturn, 1) := by decide +kernel
theorem dX11_part_0 : decode cX11_part 0 = .ok (.aload_n 0, 1) := by decide +kernel
theorem dX11_part_1 : decode cX11_part 1 = .ok (.iload_n 1, 1) := by decide +kernel
theorem dX11_part_2 : decode cX11_part 2 = .ok (.invokevirtual 79, 3) := by decide +kernel
theorem dX11_part_5 : decode cX11_part 5 = .ok (.istore_n 2, 1) := by decide +kernel
theorem dX11_part_6 : decode cX11_part 6 = .ok (.aload_n 0, 1) := by decide +kernel
theorem dX11_part_7 : decode cX11_part 7 = .ok (.getfield 180, 3) := by decide +kernel
theorem dX11_part_10 : decode cX11_part 10 = .ok (.ifCond .ne 51, 3) := by decide +kernel
theorem dX11_part_13 : decode cX11_part 13 = .ok (.iload_n 2, 1) := by decide +kernel
theorem dX11_part_14 : decode cX11_part 14 = .ok (.bipush 65, 2) := by decide +kernel
theorem dX11_part_16 : decode cX11_part 16 = .ok (.if_icmp .lt 9, 3) := by decide +kernel
theorem dX11_part_19 : decode cX11_part 19 = .ok (.iload_n 2, 1) := by decide +kernel
theorem dX11_part_20 : decode cX11_part 20 = .ok (.bipush 84, 2) := by decide +kernel
theorem dX11_part_22 : decode cX11_part 22 = .ok (.if_icmp .le 5, 3) := by decide +kernel
theorem dX11_part_25 : decode cX11_part 25 = .ok (.iconst 0, 1) := by decide +kernel
theorem dX11_part_26 : decode cX11_part 26 = .ok (.ireturn, 1) := by decide +kernel
theorem dX11_part_27 : decode cX11_part 27 = .ok (.aload_n 0, 1) := by decide +kernel
theorem dX11_part_28 : decode cX11_part 28 = .ok (.iload_n 2, 1) := by decide +kernel
theorem dX11_part_29 : decode cX11_part 29 = .ok (.bipush 64, 2) := by decide +kernel
theorem dX11_part_31 : decode cX11_part 31 = .ok (.isub, 1) := by decide +kernel
theorem dX11_part_32 : decode cX11_part 32 = .ok (.putfield 183, 3) := by decide +kernel
