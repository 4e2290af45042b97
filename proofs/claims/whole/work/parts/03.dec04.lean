theorem dX11_none_23 : decode cX11_none 23 = .ok (.invokevirtual 287, 3) := by decide +kernel
theorem dX11_none_26 : decode cX11_none 26 = .ok (.ireturn, 1) := by decide +kernel
theorem dX11_folderHere_0 : decode cX11_folderHere 0 = .ok (.aload_n 0, 1) := by decide +kernel
theorem dX11_folderHere_1 : decode cX11_folderHere 1 = .ok (.getfield 281, 3) := by decide +kernel
theorem dX11_folderHere_4 : decode cX11_folderHere 4 = .ok (.ifCond .ne 5, 3) := by decide +kernel
theorem dX11_folderHere_7 : decode cX11_folderHere 7 = .ok (.iconst 0, 1) := by decide +kernel
theorem dX11_folderHere_8 : decode cX11_folderHere 8 = .ok (.ireturn, 1) := by decide +kernel
theorem dX11_folderHere_9 : decode cX11_folderHere 9 = .ok (.iconst 1, 1) := by decide +kernel
theorem dX11_folderHere_10 : decode cX11_folderHere 10 = .ok (.istore_n 1, 1) := by decide +kernel
theorem dX11_folderHere_11 : decode cX11_folderHere 11 = .ok (.iload_n 1, 1) := by decide +kernel
theorem dX11_folderHere_12 : decode cX11_folderHere 12 = .ok (.aload_n 0, 1) := by decide +kernel
theorem dX11_folderHere_13 : decode cX11_folderHere 13 = .ok (.getfield 142, 3) := by decide +kernel
theorem dX11_folderHere_16 : decode cX11_folderHere 16 = .ok (.if_icmp .ge 36, 3) := by decide +kernel
theorem dX11_folderHere_19 : decode cX11_folderHere 19 = .ok (.aload_n 0, 1) := by decide +kernel
theorem dX11_folderHere_20 : decode cX11_folderHere 20 = .ok (.iload_n 1, 1) := by decide +kernel
theorem dX11_folderHere_21 : decode cX11_folderHere 21 = .ok (.invokevirtual 161, 3) := by decide +kernel
theorem dX11_folderHere_24 : decode cX11_folderHere 24 = .ok (.ifCond .eq 22, 3) := by decide +kernel
theorem dX11_folderHere_27 : decode cX11_folderHere 27 = .ok (.aload_n 0, 1) := by decide +kernel
theorem dX11_folderHere_28 : decode cX11_folderHere 28 = .ok (.aload_n 0, 1) := by decide +kernel
theorem dX11_folderHere_29 : decode cX11_folderHere 29 = .ok (.getfield 24, 3) := by decide +kernel
theorem dX11_folderHere_32 : decode cX11_folderHere 32 = .ok (.iload_n 1, 1) := by decide +kernel
theorem dX11_folderHere_33 : decode cX11_folderHere 33 = .ok (.iaload, 1) := by decide +kernel
theorem dX11_folderHere_34 : decode cX11_folderHere 34 = .ok (.invokevirtual 132, 3) := by decide +kernel
theorem dX11_folderHere_37 : decode cX11_folderHere 37 = .ok (.aload_n 0, 1) := by decide +kernel
theorem dX11_folderHere_38 : decode cX11_folderHere 38 = .ok (.getfield 281, 3) := by decide +kernel
theorem dX11_folderHere_41 : decode cX11_folderHere 41 = .ok (.if_icmp .ne 5, 3) := by decide +kernel
theorem dX11_folderHere_44 : decode cX11_folderHere 44 = .ok (.iload_n 1, 1) := by decide +kernel
theorem dX11_folderHere_45 : decode cX11_folderHere 45 = .ok (.ireturn, 1) := by decide +kernel
theorem dX11_folderHere_46 : decode cX11_folderHere 46 = .ok (.iinc 1 1, 3) := by decide +kernel
theorem dX11_folderHere_49 : decode cX11_folderHere 49 = .ok (.goto (-38), 3) := by decide +kernel
theorem dX11_folderHere_52 : decode cX11_folderHere 52 = .ok (.iconst 0, 1) := by decide +kernel
theorem dX11_folderHere_53 : decode cX11_folderHere 53 = .ok (.ireturn, 1) := by decide +kernel
theorem dX11_many_0 : decode cX11_many 0 = .ok (.aload_n 0, 1) := by decide +kernel
theorem dX11_many_1 : decode cX11_many 1 = .ok (.getfield 37, 3) := by decide +kernel
theorem dX11_many_4 : decode cX11_many 4 = .ok (.aload_n 0, 1) := by decide +kernel
theorem dX11_many_5 : decode cX11_many 5 = .ok (.invokevirtual 319, 3) := by decide +kernel
theorem dX11_many_8 : decode cX11_many 8 = .ok (.iaload, 1) := by decide +kernel
theorem dX11_many_9 : decode cX11_many 9 = .ok (.ireturn, 1) := by decide +kernel
theorem dX11_items_0 : decode cX11_items 0 = .ok (.aload_n 0, 1) := by decide +kernel
theorem dX11_items_1 : decode cX11_items 1 = .ok (.invokevirtual 322, 3) := by decide +kernel
theorem dX11_items_4 : decode cX11_items 4 = .ok (.ifCond .eq 7, 3) := by decide +kernel
theorem dX11_items_7 : decode cX11_items 7 = .ok (.iconst 0, 1) := by decide +kernel
theorem dX11_items_8 : decode cX11_items 8 = .ok (.goto 7, 3) := by decide +kernel
theorem dX11_items_11 : decode cX11_items 11 = .ok (.aload_n 0, 1) := by decide +kernel
theorem dX11_items_12 : decode cX11_items 12 = .ok (.invokevirtual 325, 3) := by decide +kernel
theorem dX11_items_15 : decode cX11_items 15 = .ok (.ireturn, 1) := by decide +kernel
theorem dX11_no_0 : decode cX11_no 0 = .ok (.aload_n 0, 1) := by decide +kernel
theorem dX11_no_1 : decode cX11_no 1 = .ok (.invokevirtual 322, 3) := by decide +kernel
theorem dX11_no_4 : decode cX11_no 4 = .ok (.ifCond .ne 28, 3) := by decide +kernel
theorem dX11_no_7 : decode cX11_no 7 = .ok (.aload_n 0, 1) := by decide +kernel
theorem dX11_no_8 : decode cX11_no 8 = .ok (.iload_n 1, 1) := by decide +kernel
theorem dX11_no_9 : decode cX11_no 9 = .ok (.ifCond .lt 11, 3) := by decide +kernel
theorem dX11_no_12 : decode cX11_no 12 = .ok (.iload_n 1, 1) := by decide +kernel
theorem dX11_no_13 : decode cX11_no 13 = .ok (.aload_n 0, 1) := by decide +kernel
theorem dX11_no_14 : decode cX11_no 14 = .ok (.invokevirtual 325, 3) := by decide +kernel
theorem dX11_no_17 : decode cX11_no 17 = .ok (.if_icmp .lt 7, 3) := by decide +kernel
theorem dX11_no_20 : decode cX11_no 20 = .ok (.iconst 1, 1) := by decide +kernel
theorem dX11_no_21 : decode cX11_no 21 = .ok (.goto 4, 3) := by decide +kernel
theorem dX11_no_24 : decode cX11_no 24 = .ok (.iconst 0, 1) := by decide +kernel
theorem dX11_no_25 : decode cX11_no 25 = .ok (.iconst 2, 1) := by decide +kernel
theorem dX11_no_26 : decode cX11_no 26 = .ok (.invokevirtual 287, 3) := by decide +kernel
theorem dX11_no_29 : decode cX11_no 29 = .ok (.ifCond .eq 7, 3) := by decide +kernel
theorem dX11_no_32 : decode cX11_no 32 = .ok (.iconst 1, 1) := by decide +kernel
theorem dX11_no_33 : decode cX11_no 33 = .ok (.goto 4, 3) := by decide +kernel
theorem dX11_no_36 : decode cX11_no 36 = .ok (.iconst 0, 1) := by decide +kernel
theorem dX11_no_37 : decode cX11_no 37 = .ok (.ireturn, 1) := by decide +kernel
theorem dX11_item_0 : decode cX11_item 0 = .ok (.aload_n 0, 1) := by decide +kernel
theorem dX11_item_1 : decode cX11_item 1 = .ok (.getfield 40, 3) := by decide +kernel
theorem dX11_item_4 : decode cX11_item 4 = .ok (.aload_n 0, 1) := by decide +kernel
theorem dX11_item_5 : decode cX11_item 5 = .ok (.invokevirtual 319, 3) := by decide +kernel
theorem dX11_item_8 : decode cX11_item 8 = .ok (.iaload, 1) := by decide +kernel
theorem dX11_item_9 : decode cX11_item 9 = .ok (.iload_n 1, 1) := by decide +kernel
theorem dX11_item_10 : decode cX11_item 10 = .ok (.iadd, 1) := by decide +kernel
theorem dX11_item_11 : decode cX11_item 11 = .ok (.ireturn, 1) := by decide +kernel
theorem dX11_bytesOf_0 : decode cX11_bytesOf 0 = .ok (.iload_n 0, 1) := by decide +kernel
theorem dX11_bytesOf_1 : decode cX11_bytesOf 1 = .ok (.sipush 128, 3) := by decide +kernel
theorem dX11_bytesOf_4 : decode cX11_bytesOf 4 = .ok (.if_icmp .ge 7, 3) := by decide +kernel
theorem dX11_bytesOf_7 : decode cX11_bytesOf 7 = .ok (.iconst 1, 1) := by decide +kernel
theorem dX11_bytesOf_8 : decode cX11_bytesOf 8 = .ok (.goto 15, 3) := by decide +kernel
theorem dX11_bytesOf_11 : decode cX11_bytesOf 11 = .ok (.iload_n 0, 1) := by decide +kernel
theorem dX11_bytesOf_12 : decode cX11_bytesOf 12 = .ok (.sipush 2048, 3) := by decide +kernel
theorem dX11_bytesOf_15 : decode cX11_bytesOf 15 = .ok (.if_icmp .ge 7, 3) := by decide +kernel
theorem dX11_bytesOf_18 : decode cX11_bytesOf 18 = .ok (.iconst 2, 1) := by decide +kernel
theorem dX11_bytesOf_19 : decode cX11_bytesOf 19 = .ok (.goto 4, 3) := by decide +kernel
theorem dX11_bytesOf_22 : decode cX11_bytesOf 22 = .ok (.iconst 3, 1) := by decide +kernel
theorem dX11_bytesOf_23 : decode cX11_bytesOf 23 = .ok (.ireturn, 1) := by decide +kernel
theorem dX11_text_0 : decode cX11_text 0 = .ok (.iload_n 2, 1) := by decide +kernel
theorem dX11_text_1 : decode cX11_text 1 = .ok (.istore_n 3, 1) := by decide +kernel
theorem dX11_text_2 : decode cX11_text 2 = .ok (.iconst 0, 1) := by decide +kernel
theorem dX11_text_3 : decode cX11_text 3 = .ok (.istore 4, 2) := by decide +kernel
theorem dX11_text_5 : decode cX11_text 5 = .ok (.iload 4, 2) := by decide +kernel
theorem dX11_text_7 : decode cX11_text 7 = .ok (.aload_n 0, 1) := by decide +kernel
theorem dX11_text_8 : decode cX11_text 8 = .ok (.getfield 46, 3) := by decide +kernel
theorem dX11_text_11 : decode cX11_text 11 = .ok (.iload_n 1, 1) := by decide +kernel
theorem dX11_text_12 : decode cX11_text 12 = .ok (.iaload, 1) := by decide +kernel
theorem dX11_text_13 : decode cX11_text 13 = .ok (.if_icmp .ge 112, 3) := by decide +kernel
theorem dX11_text_16 : decode cX11_text 16 = .ok (.iload_n 2, 1) := by decide +kernel
theorem dX11_text_17 : decode cX11_text 17 = .ok (.ifCond .lt 108, 3) := by decide +kernel
theorem dX11_text_20 : decode cX11_text 20 = .ok (.aload_n 0, 1) := by decide +kernel
theorem dX11_text_21 : decode cX11_text 21 = .ok (.getfield 50, 3) := by decide +kernel
theorem dX11_text_24 : decode cX11_text 24 = .ok (.aload_n 0, 1) := by decide +kernel
theorem dX11_text_25 : decode cX11_text 25 = .ok (.getfield 43, 3) := by decide +kernel
theorem dX11_text_28 : decode cX11_text 28 = .ok (.iload_n 1, 1) := by decide +kernel
theorem dX11_text_29 : decode cX11_text 29 = .ok (.iaload, 1) := by decide +kernel
theorem dX11_text_30 : decode cX11_text 30 = .ok (.iload 4, 2) := by decide +kernel
theorem dX11_text_32 : decode cX11_text 32 = .ok (.iadd, 1) := by decide +kernel
theorem dX11_text_33 : decode cX11_text 33 = .ok (.caload, 1) := by decide +kernel
theorem dX11_text_34 : decode cX11_text 34 = .ok (.istore 5, 2) := by decide +kernel
theorem dX11_text_36 : decode cX11_text 36 = .ok (.iload 5, 2) := by decide +kernel
theorem dX11_text_38 : decode cX11_text 38 = .ok (.invokestatic 328, 3) := by decide +kernel
theorem dX11_text_41 : decode cX11_text 41 = .ok (.istore 6, 2) := by decide +kernel
theorem dX11_text_43 : decode cX11_text 43 = .ok (.iload_n 3, 1) := by decide +kernel
theorem dX11_text_44 : decode cX11_text 44 = .ok (.iload 6, 2) := by decide +kernel
theorem dX11_text_46 : decode cX11_text 46 = .ok (.if_icmp .ge 68, 3) := by decide +kernel
theorem dX11_text_49 : decode cX11_text 49 = .ok (.iload 6, 2) := by decide +kernel
theorem dX11_text_51 : decode cX11_text 51 = .ok (.iconst 1, 1) := by decide +kernel
theorem dX11_text_52 : decode cX11_text 52 = .ok (.if_icmp .ne 8, 3) := by decide +kernel
theorem dX11_text_55 : decode cX11_text 55 = .ok (.iload 5, 2) := by decide +kernel
theorem dX11_text_57 : decode cX11_text 57 = .ok (.goto 56, 3) := by decide +kernel
theorem dX11_text_60 : decode cX11_text 60 = .ok (.iload_n 3, 1) := by decide +kernel
theorem dX11_text_61 : decode cX11_text 61 = .ok (.ifCond .le 25, 3) := by decide +kernel
theorem dX11_text_64 : decode cX11_text 64 = .ok (.sipush 128, 3) := by decide +kernel
theorem dX11_text_67 : decode cX11_text 67 = .ok (.iload 5, 2) := by decide +kernel
theorem dX11_text_69 : decode cX11_text 69 = .ok (.bipush 6, 2) := by decide +kernel
theorem dX11_text_71 : decode cX11_text 71 = .ok (.iload 6, 2) := by decide +kernel
theorem dX11_text_73 : decode cX11_text 73 = .ok (.iconst 1, 1) := by decide +kernel
theorem dX11_text_74 : decode cX11_text 74 = .ok (.isub, 1) := by decide +kernel
theorem dX11_text_75 : decode cX11_text 75 = .ok (.iload_n 3, 1) := by decide +kernel
theorem dX11_text_76 : decode cX11_text 76 = .ok (.isub, 1) := by decide +kernel
theorem dX11_text_77 : decode cX11_text 77 = .ok (.imul, 1) := by decide +kernel
theorem dX11_text_78 : decode cX11_text 78 = .ok (.ishr, 1) := by decide +kernel
theorem dX11_text_79 : decode cX11_text 79 = .ok (.bipush 63, 2) := by decide +kernel
theorem dX11_text_81 : decode cX11_text 81 = .ok (.iand, 1) := by decide +kernel
theorem dX11_text_82 : decode cX11_text 82 = .ok (.ior, 1) := by decide +kernel
theorem dX11_text_83 : decode cX11_text 83 = .ok (.goto 30, 3) := by decide +kernel
theorem dX11_text_86 : decode cX11_text 86 = .ok (.iload 6, 2) := by decide +kernel
theorem dX11_text_88 : decode cX11_text 88 = .ok (.iconst 2, 1) := by decide +kernel
theorem dX11_text_89 : decode cX11_text 89 = .ok (.if_icmp .ne 15, 3) := by decide +kernel
theorem dX11_text_92 : decode cX11_text 92 = .ok (.sipush 192, 3) := by decide +kernel
theorem dX11_text_95 : decode cX11_text 95 = .ok (.iload 5, 2) := by decide +kernel
theorem dX11_text_97 : decode cX11_text 97 = .ok (.bipush 6, 2) := by decide +kernel
theorem dX11_text_99 : decode cX11_text 99 = .ok (.ishr, 1) := by decide +kernel
theorem dX11_text_100 : decode cX11_text 100 = .ok (.ior, 1) := by decide +kernel
theorem dX11_text_101 : decode cX11_text 101 = .ok (.goto 12, 3) := by decide +kernel
theorem dX11_text_104 : decode cX11_text 104 = .ok (.sipush 224, 3) := by decide +kernel
theorem dX11_text_107 : decode cX11_text 107 = .ok (.iload 5, 2) := by decide +kernel
theorem dX11_text_109 : decode cX11_text 109 = .ok (.bipush 12, 2) := by decide +kernel
theorem dX11_text_111 : decode cX11_text 111 = .ok (.ishr, 1) := by decide +kernel
theorem dX11_text_112 : decode cX11_text 112 = .ok (.ior, 1) := by decide +kernel
theorem dX11_text_113 : decode cX11_text 113 = .ok (.ireturn, 1) := by decide +kernel
theorem dX11_text_114 : decode cX11_text 114 = .ok (.iload_n 3, 1) := by decide +kernel
theorem dX11_text_115 : decode cX11_text 115 = .ok (.iload 6, 2) := by decide +kernel
theorem dX11_text_117 : decode cX11_text 117 = .ok (.isub, 1) := by decide +kernel
theorem dX11_text_118 : decode cX11_text 118 = .ok (.istore_n 3, 1) := by decide +kernel
theorem dX11_text_119 : decode cX11_text 119 = .ok (.iinc 4 1, 3) := by decide +kernel
theorem dX11_text_122 : decode cX11_text 122 = .ok (.goto (-117), 3) := by decide +kernel
theorem dX11_text_125 : decode cX11_text 125 = .ok (.iconst (-1), 1) := by decide +kernel
theorem dX11_text_126 : decode cX11_text 126 = .ok (.ireturn, 1) := by decide +kernel
theorem dX11_letter_0 : decode cX11_letter 0 = .ok (.aload_n 0, 1) := by decide +kernel
theorem dX11_letter_1 : decode cX11_letter 1 = .ok (.iload_n 1, 1) := by decide +kernel
theorem dX11_letter_2 : decode cX11_letter 2 = .ok (.invokevirtual 331, 3) := by decide +kernel
theorem dX11_letter_5 : decode cX11_letter 5 = .ok (.ifCond .eq 7, 3) := by decide +kernel
theorem dX11_letter_8 : decode cX11_letter 8 = .ok (.iconst 0, 1) := by decide +kernel
theorem dX11_letter_9 : decode cX11_letter 9 = .ok (.goto 13, 3) := by decide +kernel
theorem dX11_letter_12 : decode cX11_letter 12 = .ok (.aload_n 0, 1) := by decide +kernel
theorem dX11_letter_13 : decode cX11_letter 13 = .ok (.aload_n 0, 1) := by decide +kernel
theorem dX11_letter_14 : decode cX11_letter 14 = .ok (.iload_n 1, 1) := by decide +kernel
theorem dX11_letter_15 : decode cX11_letter 15 = .ok (.invokevirtual 334, 3) := by decide +kernel
theorem dX11_letter_18 : decode cX11_letter 18 = .ok (.iload_n 2, 1) := by decide +kernel
theorem dX11_letter_19 : decode cX11_letter 19 = .ok (.invokevirtual 337, 3) := by decide +kernel
theorem dX11_letter_22 : decode cX11_letter 22 = .ok (.ireturn, 1) := by decide +kernel
theorem dX11_seconds_0 : decode cX11_seconds 0 = .ok (.sipush 1980, 3) := by decide +kernel
theorem dX11_seconds_3 : decode cX11_seconds 3 = .ok (.iload_n 0, 1) := by decide +kernel
theorem dX11_seconds_4 : decode cX11_seconds 4 = .ok (.bipush 9, 2) := by decide +kernel
theorem dX11_seconds_6 : decode cX11_seconds 6 = .ok (.ishr, 1) := by decide +kernel
theorem dX11_seconds_7 : decode cX11_seconds 7 = .ok (.iadd, 1) := by decide +kernel
theorem dX11_seconds_8 : decode cX11_seconds 8 = .ok (.istore_n 2, 1) := by decide +kernel
theorem dX11_seconds_9 : decode cX11_seconds 9 = .ok (.iload_n 0, 1) := by decide +kernel
theorem dX11_seconds_10 : decode cX11_seconds 10 = .ok (.iconst 5, 1) := by decide +kernel
theorem dX11_seconds_11 : decode cX11_seconds 11 = .ok (.ishr, 1) := by decide +kernel
theorem dX11_seconds_12 : decode cX11_seconds 12 = .ok (.bipush 15, 2) := by decide +kernel
theorem dX11_seconds_14 : decode cX11_seconds 14 = .ok (.iand, 1) := by decide +kernel
theorem dX11_seconds_15 : decode cX11_seconds 15 = .ok (.istore_n 3, 1) := by decide +kernel
theorem dX11_seconds_16 : decode cX11_seconds 16 = .ok (.iload_n 0, 1) := by decide +kernel
theorem dX11_seconds_17 : decode cX11_seconds 17 = .ok (.bipush 31, 2) := by decide +kernel
theorem dX11_seconds_19 : decode cX11_seconds 19 = .ok (.iand, 1) := by decide +kernel
theorem dX11_seconds_20 : decode cX11_seconds 20 = .ok (.iconst 1, 1) := by decide +kernel
theorem dX11_seconds_21 : decode cX11_seconds 21 = .ok (.isub, 1) := by decide +kernel
theorem dX11_seconds_22 : decode cX11_seconds 22 = .ok (.i2l, 1) := by decide +kernel
theorem dX11_seconds_23 : decode cX11_seconds 23 = .ok (.lstore 4, 2) := by decide +kernel
theorem dX11_seconds_25 : decode cX11_seconds 25 = .ok (.sipush 1970, 3) := by decide +kernel
theorem dX11_seconds_28 : decode cX11_seconds 28 = .ok (.istore 6, 2) := by decide +kernel
theorem dX11_seconds_30 : decode cX11_seconds 30 = .ok (.iload 6, 2) := by decide +kernel
theorem dX11_seconds_32 : decode cX11_seconds 32 = .ok (.iload_n 2, 1) := by decide +kernel
theorem dX11_seconds_33 : decode cX11_seconds 33 = .ok (.if_icmp .ge 31, 3) := by decide +kernel
theorem dX11_seconds_36 : decode cX11_seconds 36 = .ok (.lload 4, 2) := by decide +kernel
theorem dX11_seconds_38 : decode cX11_seconds 38 = .ok (.iload 6, 2) := by decide +kernel
theorem dX11_seconds_40 : decode cX11_seconds 40 = .ok (.invokestatic 216, 3) := by decide +kernel
theorem dX11_seconds_43 : decode cX11_seconds 43 = .ok (.ifCond .eq 9, 3) := by decide +kernel
theorem dX11_seconds_46 : decode cX11_seconds 46 = .ok (.ldc2_w 340, 3) := by decide +kernel
theorem dX11_seconds_49 : decode cX11_seconds 49 = .ok (.goto 6, 3) := by decide +kernel
theorem dX11_seconds_52 : decode cX11_seconds 52 = .ok (.ldc2_w 342, 3) := by decide +kernel
theorem dX11_seconds_55 : decode cX11_seconds 55 = .ok (.ladd, 1) := by decide +kernel
theorem dX11_seconds_56 : decode cX11_seconds 56 = .ok (.lstore 4, 2) := by decide +kernel
theorem dX11_seconds_58 : decode cX11_seconds 58 = .ok (.iinc 6 1, 3) := by decide +kernel
theorem dX11_seconds_61 : decode cX11_seconds 61 = .ok (.goto (-31), 3) := by decide +kernel
theorem dX11_seconds_64 : decode cX11_seconds 64 = .ok (.iconst 1, 1) := by decide +kernel
theorem dX11_seconds_65 : decode cX11_seconds 65 = .ok (.istore 6, 2) := by decide +kernel
theorem dX11_seconds_67 : decode cX11_seconds 67 = .ok (.iload 6, 2) := by decide +kernel
theorem dX11_seconds_69 : decode cX11_seconds 69 = .ok (.iload_n 3, 1) := by decide +kernel
theorem dX11_seconds_70 : decode cX11_seconds 70 = .ok (.if_icmp .ge 21, 3) := by decide +kernel
theorem dX11_seconds_73 : decode cX11_seconds 73 = .ok (.lload 4, 2) := by decide +kernel
theorem dX11_seconds_75 : decode cX11_seconds 75 = .ok (.iload 6, 2) := by decide +kernel
theorem dX11_seconds_77 : decode cX11_seconds 77 = .ok (.iload_n 2, 1) := by decide +kernel
theorem dX11_seconds_78 : decode cX11_seconds 78 = .ok (.invokestatic 220, 3) := by decide +kernel
theorem dX11_seconds_81 : decode cX11_seconds 81 = .ok (.i2l, 1) := by decide +kernel
theorem dX11_seconds_82 : decode cX11_seconds 82 = .ok (.ladd, 1) := by decide +kernel
theorem dX11_seconds_83 : decode cX11_seconds 83 = .ok (.lstore 4, 2) := by decide +kernel
theorem dX11_seconds_85 : decode cX11_seconds 85 = .ok (.iinc 6 1, 3) := by decide +kernel
theorem dX11_seconds_88 : decode cX11_seconds 88 = .ok (.goto (-21), 3) := by decide +kernel
theorem dX11_seconds_91 : decode cX11_seconds 91 = .ok (.ldc2_w 344, 3) := by decide +kernel
theorem dX11_seconds_94 : decode cX11_seconds 94 = .ok (.lload 4, 2) := by decide +kernel
theorem dX11_seconds_96 : decode cX11_seconds 96 = .ok (.lmul, 1) := by decide +kernel
theorem dX11_seconds_97 : decode cX11_seconds 97 = .ok (.ldc2_w 346, 3) := by decide +kernel
theorem dX11_seconds_100 : decode cX11_seconds 100 = .ok (.iload_n 1, 1) := by decide +kernel
theorem dX11_seconds_101 : decode cX11_seconds 101 = .ok (.bipush 11, 2) := by decide +kernel
theorem dX11_seconds_103 : decode cX11_seconds 103 = .ok (.ishr, 1) := by decide +kernel
theorem dX11_seconds_104 : decode cX11_seconds 104 = .ok (.i2l, 1) := by decide +kernel
theorem dX11_seconds_105 : decode cX11_seconds 105 = .ok (.lmul, 1) := by decide +kernel
theorem dX11_seconds_106 : decode cX11_seconds 106 = .ok (.ladd, 1) := by decide +kernel
theorem dX11_seconds_107 : decode cX11_seconds 107 = .ok (.ldc2_w 348, 3) := by decide +kernel
theorem dX11_seconds_110 : decode cX11_seconds 110 = .ok (.iload_n 1, 1) := by decide +kernel
theorem dX11_seconds_111 : decode cX11_seconds 111 = .ok (.iconst 5, 1) := by decide +kernel
theorem dX11_seconds_112 : decode cX11_seconds 112 = .ok (.ishr, 1) := by decide +kernel
theorem dX11_seconds_113 : decode cX11_seconds 113 = .ok (.bipush 63, 2) := by decide +kernel
theorem dX11_seconds_115 : decode cX11_seconds 115 = .ok (.iand, 1) := by decide +kernel
theorem dX11_seconds_116 : decode cX11_seconds 116 = .ok (.i2l, 1) := by decide +kernel
theorem dX11_seconds_117 : decode cX11_seconds 117 = .ok (.lmul, 1) := by decide +kernel
theorem dX11_seconds_118 : decode cX11_seconds 118 = .ok (.ladd, 1) := by decide +kernel
theorem dX11_seconds_119 : decode cX11_seconds 119 = .ok (.ldc2_w 293, 3) := by decide +kernel
theorem dX11_seconds_122 : decode cX11_seconds 122 = .ok (.iload_n 1, 1) := by decide +kernel
theorem dX11_seconds_123 : decode cX11_seconds 123 = .ok (.bipush 31, 2) := by decide +kernel
theorem dX11_seconds_125 : decode cX11_seconds 125 = .ok (.iand, 1) := by decide +kernel
theorem dX11_seconds_126 : decode cX11_seconds 126 = .ok (.i2l, 1) := by decide +kernel
theorem dX11_seconds_127 : decode cX11_seconds 127 = .ok (.lmul, 1) := by decide +kernel
theorem dX11_seconds_128 : decode cX11_seconds 128 = .ok (.ladd, 1) := by decide +kernel
theorem dX11_seconds_129 : decode cX11_seconds 129 = .ok (.lreturn, 1) := by decide +kernel
theorem dX11_timeOf_0 : decode cX11_timeOf 0 = .ok (.aload_n 0, 1) := by decide +kernel
theorem dX11_timeOf_1 : decode cX11_timeOf 1 = .ok (.getfield 24, 3) := by decide +kernel
theorem dX11_timeOf_4 : decode cX11_timeOf 4 = .ok (.iload_n 1, 1) := by decide +kernel
theorem dX11_timeOf_5 : decode cX11_timeOf 5 = .ok (.iaload, 1) := by decide +kernel
theorem dX11_timeOf_6 : decode cX11_timeOf 6 = .ok (.istore_n 3, 1) := by decide +kernel
theorem dX11_timeOf_7 : decode cX11_timeOf 7 = .ok (.iload_n 2, 1) := by decide +kernel
theorem dX11_timeOf_8 : decode cX11_timeOf 8 = .ok (.ifCond .ne 27, 3) := by decide +kernel
theorem dX11_timeOf_11 : decode cX11_timeOf 11 = .ok (.aload_n 0, 1) := by decide +kernel
theorem dX11_timeOf_12 : decode cX11_timeOf 12 = .ok (.iload_n 3, 1) := by decide +kernel
theorem dX11_timeOf_13 : decode cX11_timeOf 13 = .ok (.bipush 18, 2) := by decide +kernel
theorem dX11_timeOf_15 : decode cX11_timeOf 15 = .ok (.iadd, 1) := by decide +kernel
theorem dX11_timeOf_16 : decode cX11_timeOf 16 = .ok (.invokevirtual 83, 3) := by decide +kernel
theorem dX11_timeOf_19 : decode cX11_timeOf 19 = .ok (.ifCond .eq 16, 3) := by decide +kernel
theorem dX11_timeOf_22 : decode cX11_timeOf 22 = .ok (.aload_n 0, 1) := by decide +kernel
theorem dX11_timeOf_23 : decode cX11_timeOf 23 = .ok (.iload_n 3, 1) := by decide +kernel
theorem dX11_timeOf_24 : decode cX11_timeOf 24 = .ok (.bipush 18, 2) := by decide +kernel
theorem dX11_timeOf_26 : decode cX11_timeOf 26 = .ok (.iadd, 1) := by decide +kernel
theorem dX11_timeOf_27 : decode cX11_timeOf 27 = .ok (.invokevirtual 83, 3) := by decide +kernel
theorem dX11_timeOf_30 : decode cX11_timeOf 30 = .ok (.iconst 0, 1) := by decide +kernel
theorem dX11_timeOf_31 : decode cX11_timeOf 31 = .ok (.invokestatic 350, 3) := by decide +kernel
theorem dX11_timeOf_34 : decode cX11_timeOf 34 = .ok (.lreturn, 1) := by decide +kernel
theorem dX11_timeOf_35 : decode cX11_timeOf 35 = .ok (.iload_n 2, 1) := by decide +kernel
theorem dX11_timeOf_36 : decode cX11_timeOf 36 = .ok (.iconst 1, 1) := by decide +kernel
theorem dX11_timeOf_37 : decode cX11_timeOf 37 = .ok (.if_icmp .ne 47, 3) := by decide +kernel
theorem dX11_timeOf_40 : decode cX11_timeOf 40 = .ok (.aload_n 0, 1) := by decide +kernel
theorem dX11_timeOf_41 : decode cX11_timeOf 41 = .ok (.iload_n 3, 1) := by decide +kernel
theorem dX11_timeOf_42 : decode cX11_timeOf 42 = .ok (.bipush 16, 2) := by decide +kernel
theorem dX11_timeOf_44 : decode cX11_timeOf 44 = .ok (.iadd, 1) := by decide +kernel
theorem dX11_timeOf_45 : decode cX11_timeOf 45 = .ok (.invokevirtual 83, 3) := by decide +kernel
theorem dX11_timeOf_48 : decode cX11_timeOf 48 = .ok (.ifCond .eq 36, 3) := by decide +kernel
theorem dX11_timeOf_51 : decode cX11_timeOf 51 = .ok (.aload_n 0, 1) := by decide +kernel
theorem dX11_timeOf_52 : decode cX11_timeOf 52 = .ok (.iload_n 3, 1) := by decide +kernel
theorem dX11_timeOf_53 : decode cX11_timeOf 53 = .ok (.bipush 16, 2) := by decide +kernel
theorem dX11_timeOf_55 : decode cX11_timeOf 55 = .ok (.iadd, 1) := by decide +kernel
theorem dX11_timeOf_56 : decode cX11_timeOf 56 = .ok (.invokevirtual 83, 3) := by decide +kernel
theorem dX11_timeOf_59 : decode cX11_timeOf 59 = .ok (.aload_n 0, 1) := by decide +kernel
theorem dX11_timeOf_60 : decode cX11_timeOf 60 = .ok (.iload_n 3, 1) := by decide +kernel
theorem dX11_timeOf_61 : decode cX11_timeOf 61 = .ok (.bipush 14, 2) := by decide +kernel
theorem dX11_timeOf_63 : decode cX11_timeOf 63 = .ok (.iadd, 1) := by decide +kernel
theorem dX11_timeOf_64 : decode cX11_timeOf 64 = .ok (.invokevirtual 83, 3) := by decide +kernel
theorem dX11_timeOf_67 : decode cX11_timeOf 67 = .ok (.invokestatic 350, 3) := by decide +kernel
theorem dX11_timeOf_70 : decode cX11_timeOf 70 = .ok (.aload_n 0, 1) := by decide +kernel
theorem dX11_timeOf_71 : decode cX11_timeOf 71 = .ok (.iload_n 3, 1) := by decide +kernel
theorem dX11_timeOf_72 : decode cX11_timeOf 72 = .ok (.bipush 13, 2) := by decide +kernel
theorem dX11_timeOf_74 : decode cX11_timeOf 74 = .ok (.iadd, 1) := by decide +kernel
theorem dX11_timeOf_75 : decode cX11_timeOf 75 = .ok (.invokevirtual 79, 3) := by decide +kernel
theorem dX11_timeOf_78 : decode cX11_timeOf 78 = .ok (.bipush 100, 2) := by decide +kernel
theorem dX11_timeOf_80 : decode cX11_timeOf 80 = .ok (.idiv, 1) := by decide +kernel
theorem dX11_timeOf_81 : decode cX11_timeOf 81 = .ok (.i2l, 1) := by decide +kernel
theorem dX11_timeOf_82 : decode cX11_timeOf 82 = .ok (.ladd, 1) := by decide +kernel
theorem dX11_timeOf_83 : decode cX11_timeOf 83 = .ok (.lreturn, 1) := by decide +kernel
theorem dX11_timeOf_84 : decode cX11_timeOf 84 = .ok (.aload_n 0, 1) := by decide +kernel
theorem dX11_timeOf_85 : decode cX11_timeOf 85 = .ok (.iload_n 3, 1) := by decide +kernel
theorem dX11_timeOf_86 : decode cX11_timeOf 86 = .ok (.bipush 24, 2) := by decide +kernel
theorem dX11_timeOf_88 : decode cX11_timeOf 88 = .ok (.iadd, 1) := by decide +kernel
theorem dX11_timeOf_89 : decode cX11_timeOf 89 = .ok (.invokevirtual 83, 3) := by decide +kernel
theorem dX11_timeOf_92 : decode cX11_timeOf 92 = .ok (.aload_n 0, 1) := by decide +kernel
theorem dX11_timeOf_93 : decode cX11_timeOf 93 = .ok (.iload_n 3, 1) := by decide +kernel
theorem dX11_timeOf_94 : decode cX11_timeOf 94 = .ok (.bipush 22, 2) := by decide +kernel
theorem dX11_timeOf_96 : decode cX11_timeOf 96 = .ok (.iadd, 1) := by decide +kernel
theorem dX11_timeOf_97 : decode cX11_timeOf 97 = .ok (.invokevirtual 83, 3) := by decide +kernel
theorem dX11_timeOf_100 : decode cX11_timeOf 100 = .ok (.invokestatic 350, 3) := by decide +kernel
theorem dX11_timeOf_103 : decode cX11_timeOf 103 = .ok (.lreturn, 1) := by decide +kernel
theorem dX11_about_0 : decode cX11_about 0 = .ok (.aload_n 0, 1) := by decide +kernel
theorem dX11_about_1 : decode cX11_about 1 = .ok (.iload_n 1, 1) := by decide +kernel
theorem dX11_about_2 : decode cX11_about 2 = .ok (.invokevirtual 331, 3) := by decide +kernel
theorem dX11_about_5 : decode cX11_about 5 = .ok (.ifCond .ne 26, 3) := by decide +kernel
theorem dX11_about_8 : decode cX11_about 8 = .ok (.aload_n 0, 1) := by decide +kernel
theorem dX11_about_9 : decode cX11_about 9 = .ok (.iload_n 2, 1) := by decide +kernel
theorem dX11_about_10 : decode cX11_about 10 = .ok (.ifCond .lt 9, 3) := by decide +kernel
theorem dX11_about_13 : decode cX11_about 13 = .ok (.iload_n 2, 1) := by decide +kernel
theorem dX11_about_14 : decode cX11_about 14 = .ok (.bipush 6, 2) := by decide +kernel
theorem dX11_about_16 : decode cX11_about 16 = .ok (.if_icmp .le 7, 3) := by decide +kernel
theorem dX11_about_19 : decode cX11_about 19 = .ok (.iconst 1, 1) := by decide +kernel
theorem dX11_about_20 : decode cX11_about 20 = .ok (.goto 4, 3) := by decide +kernel
theorem dX11_about_23 : decode cX11_about 23 = .ok (.iconst 0, 1) := by decide +kernel
theorem dX11_about_24 : decode cX11_about 24 = .ok (.iconst 3, 1) := by decide +kernel
theorem dX11_about_25 : decode cX11_about 25 = .ok (.invokevirtual 287, 3) := by decide +kernel
theorem dX11_about_28 : decode cX11_about 28 = .ok (.ifCond .eq 5, 3) := by decide +kernel
theorem dX11_about_31 : decode cX11_about 31 = .ok (.lconst 0, 1) := by decide +kernel
theorem dX11_about_32 : decode cX11_about 32 = .ok (.lreturn, 1) := by decide +kernel
theorem dX11_about_33 : decode cX11_about 33 = .ok (.aload_n 0, 1) := by decide +kernel
theorem dX11_about_34 : decode cX11_about 34 = .ok (.iload_n 1, 1) := by decide +kernel
theorem dX11_about_35 : decode cX11_about 35 = .ok (.invokevirtual 334, 3) := by decide +kernel
theorem dX11_about_38 : decode cX11_about 38 = .ok (.istore_n 3, 1) := by decide +kernel
theorem dX11_about_39 : decode cX11_about 39 = .ok (.iload_n 2, 1) := by decide +kernel
theorem dX11_about_40 : decode cX11_about 40 = .ok (.ifCond .ne 17, 3) := by decide +kernel
theorem dX11_about_43 : decode cX11_about 43 = .ok (.aload_n 0, 1) := by decide +kernel
theorem dX11_about_44 : decode cX11_about 44 = .ok (.iload_n 3, 1) := by decide +kernel
theorem dX11_about_45 : decode cX11_about 45 = .ok (.invokevirtual 161, 3) := by decide +kernel
theorem dX11_about_48 : decode cX11_about 48 = .ok (.ifCond .eq 7, 3) := by decide +kernel
theorem dX11_about_51 : decode cX11_about 51 = .ok (.lconst 1, 1) := by decide +kernel
theorem dX11_about_52 : decode cX11_about 52 = .ok (.goto 4, 3) := by decide +kernel
theorem dX11_about_55 : decode cX11_about 55 = .ok (.lconst 0, 1) := by decide +kernel
theorem dX11_about_56 : decode cX11_about 56 = .ok (.lreturn, 1) := by decide +kernel
theorem dX11_about_57 : decode cX11_about 57 = .ok (.iload_n 2, 1) := by decide +kernel
theorem dX11_about_58 : decode cX11_about 58 = .ok (.iconst 1, 1) := by decide +kernel
theorem dX11_about_59 : decode cX11_about 59 = .ok (.if_icmp .ne 20, 3) := by decide +kernel
theorem dX11_about_62 : decode cX11_about 62 = .ok (.aload_n 0, 1) := by decide +kernel
theorem dX11_about_63 : decode cX11_about 63 = .ok (.aload_n 0, 1) := by decide +kernel
theorem dX11_about_64 : decode cX11_about 64 = .ok (.getfield 24, 3) := by decide +kernel
theorem dX11_about_67 : decode cX11_about 67 = .ok (.iload_n 3, 1) := by decide +kernel
theorem dX11_about_68 : decode cX11_about 68 = .ok (.iaload, 1) := by decide +kernel
theorem dX11_about_69 : decode cX11_about 69 = .ok (.bipush 11, 2) := by decide +kernel
theorem dX11_about_71 : decode cX11_about 71 = .ok (.iadd, 1) := by decide +kernel
theorem dX11_about_72 : decode cX11_about 72 = .ok (.invokevirtual 79, 3) := by decide +kernel
theorem dX11_about_75 : decode cX11_about 75 = .ok (.iconst 1, 1) := by decide +kernel
theorem dX11_about_76 : decode cX11_about 76 = .ok (.iand, 1) := by decide +kernel
theorem dX11_about_77 : decode cX11_about 77 = .ok (.i2l, 1) := by decide +kernel
theorem dX11_about_78 : decode cX11_about 78 = .ok (.lreturn, 1) := by decide +kernel
theorem dX11_about_79 : decode cX11_about 79 = .ok (.iload_n 2, 1) := by decide +kernel
theorem dX11_about_80 : decode cX11_about 80 = .ok (.bipush 6, 2) := by decide +kernel
theorem dX11_about_82 : decode cX11_about 82 = .ok (.if_icmp .ne 11, 3) := by decide +kernel
theorem dX11_about_85 : decode cX11_about 85 = .ok (.aload_n 0, 1) := by decide +kernel
theorem dX11_about_86 : decode cX11_about 86 = .ok (.getfield 31, 3) := by decide +kernel
theorem dX11_about_89 : decode cX11_about 89 = .ok (.iload_n 3, 1) := by decide +kernel
theorem dX11_about_90 : decode cX11_about 90 = .ok (.iaload, 1) := by decide +kernel
theorem dX11_about_91 : decode cX11_about 91 = .ok (.i2l, 1) := by decide +kernel
theorem dX11_about_92 : decode cX11_about 92 = .ok (.lreturn, 1) := by decide +kernel
theorem dX11_about_93 : decode cX11_about 93 = .ok (.iload_n 2, 1) := by decide +kernel
theorem dX11_about_94 : decode cX11_about 94 = .ok (.iconst 5, 1) := by decide +kernel
theorem dX11_about_95 : decode cX11_about 95 = .ok (.if_icmp .ge 14, 3) := by decide +kernel
theorem dX11_about_98 : decode cX11_about 98 = .ok (.aload_n 0, 1) := by decide +kernel
theorem dX11_about_99 : decode cX11_about 99 = .ok (.iload_n 3, 1) := by decide +kernel
theorem dX11_about_100 : decode cX11_about 100 = .ok (.iload_n 2, 1) := by decide +kernel
theorem dX11_about_101 : decode cX11_about 101 = .ok (.iconst 2, 1) := by decide +kernel
theorem dX11_about_102 : decode cX11_about 102 = .ok (.isub, 1) := by decide +kernel
theorem dX11_about_103 : decode cX11_about 103 = .ok (.invokevirtual 354, 3) := by decide +kernel
theorem dX11_about_106 : decode cX11_about 106 = .ok (.goto 17, 3) := by decide +kernel
theorem dX11_about_109 : decode cX11_about 109 = .ok (.aload_n 0, 1) := by decide +kernel
theorem dX11_about_110 : decode cX11_about 110 = .ok (.aload_n 0, 1) := by decide +kernel
theorem dX11_about_111 : decode cX11_about 111 = .ok (.getfield 24, 3) := by decide +kernel
theorem dX11_about_114 : decode cX11_about 114 = .ok (.iload_n 3, 1) := by decide +kernel
theorem dX11_about_115 : decode cX11_about 115 = .ok (.iaload, 1) := by decide +kernel
theorem dX11_about_116 : decode cX11_about 116 = .ok (.bipush 28, 2) := by decide +kernel
theorem dX11_about_118 : decode cX11_about 118 = .ok (.iadd, 1) := by decide +kernel
theorem dX11_about_119 : decode cX11_about 119 = .ok (.invokevirtual 96, 3) := by decide +kernel
theorem dX11_about_122 : decode cX11_about 122 = .ok (.i2l, 1) := by decide +kernel
theorem dX11_about_123 : decode cX11_about 123 = .ok (.lreturn, 1) := by decide +kernel
theorem dX11_content_0 : decode cX11_content 0 = .ok (.aload_n 0, 1) := by decide +kernel
theorem dX11_content_1 : decode cX11_content 1 = .ok (.iload_n 1, 1) := by decide +kernel
theorem dX11_content_2 : decode cX11_content 2 = .ok (.invokevirtual 331, 3) := by decide +kernel
theorem dX11_content_5 : decode cX11_content 5 = .ok (.ifCond .eq 5, 3) := by decide +kernel
theorem dX11_content_8 : decode cX11_content 8 = .ok (.iconst 0, 1) := by decide +kernel
theorem dX11_content_9 : decode cX11_content 9 = .ok (.ireturn, 1) := by decide +kernel
theorem dX11_content_10 : decode cX11_content 10 = .ok (.aload_n 0, 1) := by decide +kernel
theorem dX11_content_11 : decode cX11_content 11 = .ok (.iload_n 1, 1) := by decide +kernel
theorem dX11_content_12 : decode cX11_content 12 = .ok (.invokevirtual 334, 3) := by decide +kernel
theorem dX11_content_15 : decode cX11_content 15 = .ok (.istore_n 3, 1) := by decide +kernel
theorem dX11_content_16 : decode cX11_content 16 = .ok (.aload_n 0, 1) := by decide +kernel
theorem dX11_content_17 : decode cX11_content 17 = .ok (.iload_n 3, 1) := by decide +kernel
theorem dX11_content_18 : decode cX11_content 18 = .ok (.invokevirtual 161, 3) := by decide +kernel
theorem dX11_content_21 : decode cX11_content 21 = .ok (.ifCond .ne 24, 3) := by decide +kernel
theorem dX11_content_24 : decode cX11_content 24 = .ok (.iload_n 2, 1) := by decide +kernel
theorem dX11_content_25 : decode cX11_content 25 = .ok (.ifCond .lt 20, 3) := by decide +kernel
theorem dX11_content_28 : decode cX11_content 28 = .ok (.iload_n 2, 1) := by decide +kernel
theorem dX11_content_29 : decode cX11_content 29 = .ok (.aload_n 0, 1) := by decide +kernel
theorem dX11_content_30 : decode cX11_content 30 = .ok (.aload_n 0, 1) := by decide +kernel
theorem dX11_content_31 : decode cX11_content 31 = .ok (.getfield 24, 3) := by decide +kernel
theorem dX11_content_34 : decode cX11_content 34 = .ok (.iload_n 3, 1) := by decide +kernel
theorem dX11_content_35 : decode cX11_content 35 = .ok (.iaload, 1) := by decide +kernel
theorem dX11_content_36 : decode cX11_content 36 = .ok (.bipush 28, 2) := by decide +kernel
theorem dX11_content_38 : decode cX11_content 38 = .ok (.iadd, 1) := by decide +kernel
theorem dX11_content_39 : decode cX11_content 39 = .ok (.invokevirtual 96, 3) := by decide +kernel
theorem dX11_content_42 : decode cX11_content 42 = .ok (.if_icmp .lt 5, 3) := by decide +kernel
theorem dX11_content_45 : decode cX11_content 45 = .ok (.iconst (-1), 1) := by decide +kernel
theorem dX11_content_46 : decode cX11_content 46 = .ok (.ireturn, 1) := by decide +kernel
theorem dX11_content_47 : decode cX11_content 47 = .ok (.aload_n 0, 1) := by decide +kernel
theorem dX11_content_48 : decode cX11_content 48 = .ok (.aload_n 0, 1) := by decide +kernel
theorem dX11_content_49 : decode cX11_content 49 = .ok (.iload_n 3, 1) := by decide +kernel
theorem dX11_content_50 : decode cX11_content 50 = .ok (.invokevirtual 168, 3) := by decide +kernel
theorem dX11_content_53 : decode cX11_content 53 = .ok (.invokevirtual 171, 3) := by decide +kernel
theorem dX11_content_56 : decode cX11_content 56 = .ok (.aload_n 0, 1) := by decide +kernel
theorem dX11_content_57 : decode cX11_content 57 = .ok (.aload_n 0, 1) := by decide +kernel
theorem dX11_content_58 : decode cX11_content 58 = .ok (.aload_n 0, 1) := by decide +kernel
theorem dX11_content_59 : decode cX11_content 59 = .ok (.getfield 54, 3) := by decide +kernel
theorem dX11_content_62 : decode cX11_content 62 = .ok (.iload_n 2, 1) := by decide +kernel
theorem dX11_content_63 : decode cX11_content 63 = .ok (.sipush 512, 3) := by decide +kernel
theorem dX11_content_66 : decode cX11_content 66 = .ok (.aload_n 0, 1) := by decide +kernel
theorem dX11_content_67 : decode cX11_content 67 = .ok (.getfield 114, 3) := by decide +kernel
theorem dX11_content_70 : decode cX11_content 70 = .ok (.imul, 1) := by decide +kernel
theorem dX11_content_71 : decode cX11_content 71 = .ok (.idiv, 1) := by decide +kernel
theorem dX11_content_72 : decode cX11_content 72 = .ok (.iaload, 1) := by decide +kernel
theorem dX11_content_73 : decode cX11_content 73 = .ok (.invokevirtual 135, 3) := by decide +kernel
theorem dX11_content_76 : decode cX11_content 76 = .ok (.iload_n 2, 1) := by decide +kernel
theorem dX11_content_77 : decode cX11_content 77 = .ok (.sipush 512, 3) := by decide +kernel
theorem dX11_content_80 : decode cX11_content 80 = .ok (.aload_n 0, 1) := by decide +kernel
theorem dX11_content_81 : decode cX11_content 81 = .ok (.getfield 114, 3) := by decide +kernel
theorem dX11_content_84 : decode cX11_content 84 = .ok (.imul, 1) := by decide +kernel
theorem dX11_content_85 : decode cX11_content 85 = .ok (.irem, 1) := by decide +kernel
theorem dX11_content_86 : decode cX11_content 86 = .ok (.iadd, 1) := by decide +kernel
theorem dX11_content_87 : decode cX11_content 87 = .ok (.invokevirtual 79, 3) := by decide +kernel
theorem dX11_content_90 : decode cX11_content 90 = .ok (.ireturn, 1) := by decide +kernel
theorem dX11_enter_0 : decode cX11_enter 0 = .ok (.aload_n 0, 1) := by decide +kernel
theorem dX11_enter_1 : decode cX11_enter 1 = .ok (.iload_n 1, 1) := by decide +kernel
theorem dX11_enter_2 : decode cX11_enter 2 = .ok (.invokevirtual 331, 3) := by decide +kernel
theorem dX11_enter_5 : decode cX11_enter 5 = .ok (.ifCond .ne 28, 3) := by decide +kernel
theorem dX11_enter_8 : decode cX11_enter 8 = .ok (.aload_n 0, 1) := by decide +kernel
theorem dX11_enter_9 : decode cX11_enter 9 = .ok (.aload_n 0, 1) := by decide +kernel
theorem dX11_enter_10 : decode cX11_enter 10 = .ok (.aload_n 0, 1) := by decide +kernel
theorem dX11_enter_11 : decode cX11_enter 11 = .ok (.iload_n 1, 1) := by decide +kernel
theorem dX11_enter_12 : decode cX11_enter 12 = .ok (.invokevirtual 334, 3) := by decide +kernel
theorem dX11_enter_15 : decode cX11_enter 15 = .ok (.invokevirtual 161, 3) := by decide +kernel
theorem dX11_enter_18 : decode cX11_enter 18 = .ok (.ifCond .ne 7, 3) := by decide +kernel
theorem dX11_enter_21 : decode cX11_enter 21 = .ok (.iconst 1, 1) := by decide +kernel
theorem dX11_enter_22 : decode cX11_enter 22 = .ok (.goto 4, 3) := by decide +kernel
theorem dX11_enter_25 : decode cX11_enter 25 = .ok (.iconst 0, 1) := by decide +kernel
theorem dX11_enter_26 : decode cX11_enter 26 = .ok (.iconst 3, 1) := by decide +kernel
theorem dX11_enter_27 : decode cX11_enter 27 = .ok (.invokevirtual 287, 3) := by decide +kernel
theorem dX11_enter_30 : decode cX11_enter 30 = .ok (.ifCond .eq 5, 3) := by decide +kernel
theorem dX11_enter_33 : decode cX11_enter 33 = .ok (.iconst 0, 1) := by decide +kernel
theorem dX11_enter_34 : decode cX11_enter 34 = .ok (.ireturn, 1) := by decide +kernel
theorem dX11_enter_35 : decode cX11_enter 35 = .ok (.aload_n 0, 1) := by decide +kernel
theorem dX11_enter_36 : decode cX11_enter 36 = .ok (.aload_n 0, 1) := by decide +kernel
theorem dX11_enter_37 : decode cX11_enter 37 = .ok (.aload_n 0, 1) := by decide +kernel
theorem dX11_enter_38 : decode cX11_enter 38 = .ok (.iload_n 1, 1) := by decide +kernel
theorem dX11_enter_39 : decode cX11_enter 39 = .ok (.invokevirtual 334, 3) := by decide +kernel
theorem dX11_enter_42 : decode cX11_enter 42 = .ok (.invokevirtual 168, 3) := by decide +kernel
theorem dX11_enter_45 : decode cX11_enter 45 = .ok (.putfield 281, 3) := by decide +kernel
theorem dX11_enter_48 : decode cX11_enter 48 = .ok (.aload_n 0, 1) := by decide +kernel
theorem dX11_enter_49 : decode cX11_enter 49 = .ok (.invokevirtual 325, 3) := by decide +kernel
theorem dX11_enter_52 : decode cX11_enter 52 = .ok (.ireturn, 1) := by decide +kernel
theorem dX11_up_0 : decode cX11_up 0 = .ok (.aload_n 0, 1) := by decide +kernel
theorem dX11_up_1 : decode cX11_up 1 = .ok (.invokevirtual 322, 3) := by decide +kernel
theorem dX11_up_4 : decode cX11_up 4 = .ok (.ifCond .ne 10, 3) := by decide +kernel
theorem dX11_up_7 : decode cX11_up 7 = .ok (.aload_n 0, 1) := by decide +kernel
theorem dX11_up_8 : decode cX11_up 8 = .ok (.getfield 281, 3) := by decide +kernel
theorem dX11_up_11 : decode cX11_up 11 = .ok (.ifCond .ne 5, 3) := by decide +kernel
theorem dX11_up_14 : decode cX11_up 14 = .ok (.iconst 0, 1) := by decide +kernel
theorem dX11_up_15 : decode cX11_up 15 = .ok (.ireturn, 1) := by decide +kernel
theorem dX11_up_16 : decode cX11_up 16 = .ok (.aload_n 0, 1) := by decide +kernel
theorem dX11_up_17 : decode cX11_up 17 = .ok (.getfield 34, 3) := by decide +kernel
theorem dX11_up_20 : decode cX11_up 20 = .ok (.aload_n 0, 1) := by decide +kernel
theorem dX11_up_21 : decode cX11_up 21 = .ok (.invokevirtual 319, 3) := by decide +kernel
theorem dX11_up_24 : decode cX11_up 24 = .ok (.iaload, 1) := by decide +kernel
theorem dX11_up_25 : decode cX11_up 25 = .ok (.istore_n 1, 1) := by decide +kernel
theorem dX11_up_26 : decode cX11_up 26 = .ok (.aload_n 0, 1) := by decide +kernel
theorem dX11_up_27 : decode cX11_up 27 = .ok (.iload_n 1, 1) := by decide +kernel
theorem dX11_up_28 : decode cX11_up 28 = .ok (.ifCond .ne 7, 3) := by decide +kernel
theorem dX11_up_31 : decode cX11_up 31 = .ok (.iconst 0, 1) := by decide +kernel
theorem dX11_up_32 : decode cX11_up 32 = .ok (.goto 8, 3) := by decide +kernel
theorem dX11_up_35 : decode cX11_up 35 = .ok (.aload_n 0, 1) := by decide +kernel
theorem dX11_up_36 : decode cX11_up 36 = .ok (.iload_n 1, 1) := by decide +kernel
theorem dX11_up_37 : decode cX11_up 37 = .ok (.invokevirtual 168, 3) := by decide +kernel
theorem dX11_up_40 : decode cX11_up 40 = .ok (.putfield 281, 3) := by decide +kernel
theorem dX11_up_43 : decode cX11_up 43 = .ok (.iconst 1, 1) := by decide +kernel
theorem dX11_up_44 : decode cX11_up 44 = .ok (.ireturn, 1) := by decide +kernel
theorem dX11_freeOnes_0 : decode cX11_freeOnes 0 = .ok (.iconst 0, 1) := by decide +kernel
theorem dX11_freeOnes_1 : decode cX11_freeOnes 1 = .ok (.istore_n 1, 1) := by decide +kernel
theorem dX11_freeOnes_2 : decode cX11_freeOnes 2 = .ok (.iconst 2, 1) := by decide +kernel
theorem dX11_freeOnes_3 : decode cX11_freeOnes 3 = .ok (.istore_n 2, 1) := by decide +kernel
theorem dX11_freeOnes_4 : decode cX11_freeOnes 4 = .ok (.iload_n 2, 1) := by decide +kernel
theorem dX11_freeOnes_5 : decode cX11_freeOnes 5 = .ok (.aload_n 0, 1) := by decide +kernel
theorem dX11_freeOnes_6 : decode cX11_freeOnes 6 = .ok (.getfield 108, 3) := by decide +kernel
theorem dX11_freeOnes_9 : decode cX11_freeOnes 9 = .ok (.iconst 2, 1) := by decide +kernel
theorem dX11_freeOnes_10 : decode cX11_freeOnes 10 = .ok (.iadd, 1) := by decide +kernel
theorem dX11_freeOnes_11 : decode cX11_freeOnes 11 = .ok (.if_icmp .ge 25, 3) := by decide +kernel
theorem dX11_freeOnes_14 : decode cX11_freeOnes 14 = .ok (.iload_n 1, 1) := by decide +kernel
theorem dX11_freeOnes_15 : decode cX11_freeOnes 15 = .ok (.aload_n 0, 1) := by decide +kernel
theorem dX11_freeOnes_16 : decode cX11_freeOnes 16 = .ok (.iload_n 2, 1) := by decide +kernel
theorem dX11_freeOnes_17 : decode cX11_freeOnes 17 = .ok (.invokevirtual 125, 3) := by decide +kernel
theorem dX11_freeOnes_20 : decode cX11_freeOnes 20 = .ok (.ifCond .ne 7, 3) := by decide +kernel
theorem dX11_freeOnes_23 : decode cX11_freeOnes 23 = .ok (.iconst 1, 1) := by decide +kernel
theorem dX11_freeOnes_24 : decode cX11_freeOnes 24 = .ok (.goto 4, 3) := by decide +kernel
theorem dX11_freeOnes_27 : decode cX11_freeOnes 27 = .ok (.iconst 0, 1) := by decide +kernel
theorem dX11_freeOnes_28 : decode cX11_freeOnes 28 = .ok (.iadd, 1) := by decide +kernel
theorem dX11_freeOnes_29 : decode cX11_freeOnes 29 = .ok (.istore_n 1, 1) := by decide +kernel
theorem dX11_freeOnes_30 : decode cX11_freeOnes 30 = .ok (.iinc 2 1, 3) := by decide +kernel
theorem dX11_freeOnes_33 : decode cX11_freeOnes 33 = .ok (.goto (-29), 3) := by decide +kernel
theorem dX11_freeOnes_36 : decode cX11_freeOnes 36 = .ok (.iload_n 1, 1) := by decide +kernel
theorem dX11_freeOnes_37 : decode cX11_freeOnes 37 = .ok (.ireturn, 1) := by decide +kernel
theorem dX11_take_0 : decode cX11_take 0 = .ok (.iconst 2, 1) := by decide +kernel
theorem dX11_take_1 : decode cX11_take 1 = .ok (.istore_n 1, 1) := by decide +kernel
theorem dX11_take_2 : decode cX11_take 2 = .ok (.aload_n 0, 1) := by decide +kernel
theorem dX11_take_3 : decode cX11_take 3 = .ok (.iload_n 1, 1) := by decide +kernel
theorem dX11_take_4 : decode cX11_take 4 = .ok (.invokevirtual 125, 3) := by decide +kernel
theorem dX11_take_7 : decode cX11_take 7 = .ok (.ifCond .eq 9, 3) := by decide +kernel
theorem dX11_take_10 : decode cX11_take 10 = .ok (.iinc 1 1, 3) := by decide +kernel
theorem dX11_take_13 : decode cX11_take 13 = .ok (.goto (-11), 3) := by decide +kernel
theorem dX11_take_16 : decode cX11_take 16 = .ok (.aload_n 0, 1) := by decide +kernel
theorem dX11_take_17 : decode cX11_take 17 = .ok (.iload_n 1, 1) := by decide +kernel
theorem dX11_take_18 : decode cX11_take 18 = .ok (.ldc 99, 2) := by decide +kernel
theorem dX11_take_20 : decode cX11_take 20 = .ok (.invokevirtual 307, 3) := by decide +kernel
theorem dX11_take_23 : decode cX11_take 23 = .ok (.iconst 0, 1) := by decide +kernel
theorem dX11_take_24 : decode cX11_take 24 = .ok (.istore_n 2, 1) := by decide +kernel
theorem dX11_take_25 : decode cX11_take 25 = .ok (.iload_n 2, 1) := by decide +kernel
theorem dX11_take_26 : decode cX11_take 26 = .ok (.sipush 512, 3) := by decide +kernel
theorem dX11_take_29 : decode cX11_take 29 = .ok (.aload_n 0, 1) := by decide +kernel
theorem dX11_take_30 : decode cX11_take 30 = .ok (.getfield 114, 3) := by decide +kernel
theorem dX11_take_33 : decode cX11_take 33 = .ok (.imul, 1) := by decide +kernel
theorem dX11_take_34 : decode cX11_take 34 = .ok (.if_icmp .ge 22, 3) := by decide +kernel
theorem dX11_take_37 : decode cX11_take 37 = .ok (.aload_n 0, 1) := by decide +kernel
theorem dX11_take_38 : decode cX11_take 38 = .ok (.getfield 8, 3) := by decide +kernel
theorem dX11_take_41 : decode cX11_take 41 = .ok (.aload_n 0, 1) := by decide +kernel
theorem dX11_take_42 : decode cX11_take 42 = .ok (.iload_n 1, 1) := by decide +kernel
theorem dX11_take_43 : decode cX11_take 43 = .ok (.invokevirtual 135, 3) := by decide +kernel
theorem dX11_take_46 : decode cX11_take 46 = .ok (.iload_n 2, 1) := by decide +kernel
theorem dX11_take_47 : decode cX11_take 47 = .ok (.iadd, 1) := by decide +kernel
theorem dX11_take_48 : decode cX11_take 48 = .ok (.iconst 0, 1) := by decide +kernel
theorem dX11_take_49 : decode cX11_take 49 = .ok (.bastore, 1) := by decide +kernel
theorem dX11_take_50 : decode cX11_take 50 = .ok (.iinc 2 1, 3) := by decide +kernel
theorem dX11_take_53 : decode cX11_take 53 = .ok (.goto (-28), 3) := by decide +kernel
theorem dX11_take_56 : decode cX11_take 56 = .ok (.iload_n 1, 1) := by decide +kernel
theorem dX11_take_57 : decode cX11_take 57 = .ok (.ireturn, 1) := by decide +kernel
theorem dX11_named_0 : decode cX11_named 0 = .ok (.aload_n 0, 1) := by decide +kernel
theorem dX11_named_1 : decode cX11_named 1 = .ok (.aload_n 0, 1) := by decide +kernel
theorem dX11_named_2 : decode cX11_named 2 = .ok (.getfield 272, 3) := by decide +kernel
theorem dX11_named_5 : decode cX11_named 5 = .ok (.iconst 2, 1) := by decide +kernel
theorem dX11_named_6 : decode cX11_named 6 = .ok (.irem, 1) := by decide +kernel
theorem dX11_named_7 : decode cX11_named 7 = .ok (.ifCond .ne 22, 3) := by decide +kernel
theorem dX11_named_10 : decode cX11_named 10 = .ok (.aload_n 0, 1) := by decide +kernel
theorem dX11_named_11 : decode cX11_named 11 = .ok (.getfield 272, 3) := by decide +kernel
theorem dX11_named_14 : decode cX11_named 14 = .ok (.sipush 510, 3) := by decide +kernel
theorem dX11_named_17 : decode cX11_named 17 = .ok (.if_icmp .gt 12, 3) := by decide +kernel
theorem dX11_named_20 : decode cX11_named 20 = .ok (.aload_n 0, 1) := by decide +kernel
theorem dX11_named_21 : decode cX11_named 21 = .ok (.getfield 272, 3) := by decide +kernel
theorem dX11_named_24 : decode cX11_named 24 = .ok (.iconst 2, 1) := by decide +kernel
theorem dX11_named_25 : decode cX11_named 25 = .ok (.idiv, 1) := by decide +kernel
theorem dX11_named_26 : decode cX11_named 26 = .ok (.goto 4, 3) := by decide +kernel
theorem dX11_named_29 : decode cX11_named 29 = .ok (.iconst 0, 1) := by decide +kernel
theorem dX11_named_30 : decode cX11_named 30 = .ok (.putfield 200, 3) := by decide +kernel
theorem dX11_named_33 : decode cX11_named 33 = .ok (.iconst 0, 1) := by decide +kernel
theorem dX11_named_34 : decode cX11_named 34 = .ok (.istore_n 1, 1) := by decide +kernel
theorem dX11_named_35 : decode cX11_named 35 = .ok (.iload_n 1, 1) := by decide +kernel
theorem dX11_named_36 : decode cX11_named 36 = .ok (.aload_n 0, 1) := by decide +kernel
theorem dX11_named_37 : decode cX11_named 37 = .ok (.getfield 200, 3) := by decide +kernel
theorem dX11_named_40 : decode cX11_named 40 = .ok (.if_icmp .ge 36, 3) := by decide +kernel
theorem dX11_named_43 : decode cX11_named 43 = .ok (.aload_n 0, 1) := by decide +kernel
theorem dX11_named_44 : decode cX11_named 44 = .ok (.getfield 60, 3) := by decide +kernel
theorem dX11_named_47 : decode cX11_named 47 = .ok (.iload_n 1, 1) := by decide +kernel
theorem dX11_named_48 : decode cX11_named 48 = .ok (.aload_n 0, 1) := by decide +kernel
theorem dX11_named_49 : decode cX11_named 49 = .ok (.iconst 2, 1) := by decide +kernel
theorem dX11_named_50 : decode cX11_named 50 = .ok (.iload_n 1, 1) := by decide +kernel
theorem dX11_named_51 : decode cX11_named 51 = .ok (.imul, 1) := by decide +kernel
theorem dX11_named_52 : decode cX11_named 52 = .ok (.invokevirtual 284, 3) := by decide +kernel
theorem dX11_named_55 : decode cX11_named 55 = .ok (.bipush 8, 2) := by decide +kernel
theorem dX11_named_57 : decode cX11_named 57 = .ok (.ishl, 1) := by decide +kernel
theorem dX11_named_58 : decode cX11_named 58 = .ok (.aload_n 0, 1) := by decide +kernel
theorem dX11_named_59 : decode cX11_named 59 = .ok (.iconst 2, 1) := by decide +kernel
theorem dX11_named_60 : decode cX11_named 60 = .ok (.iload_n 1, 1) := by decide +kernel
theorem dX11_named_61 : decode cX11_named 61 = .ok (.imul, 1) := by decide +kernel
theorem dX11_named_62 : decode cX11_named 62 = .ok (.iconst 1, 1) := by decide +kernel
theorem dX11_named_63 : decode cX11_named 63 = .ok (.iadd, 1) := by decide +kernel
theorem dX11_named_64 : decode cX11_named 64 = .ok (.invokevirtual 284, 3) := by decide +kernel
theorem dX11_named_67 : decode cX11_named 67 = .ok (.ior, 1) := by decide +kernel
theorem dX11_named_68 : decode cX11_named 68 = .ok (.i2c, 1) := by decide +kernel
theorem dX11_named_69 : decode cX11_named 69 = .ok (.castore, 1) := by decide +kernel
theorem dX11_named_70 : decode cX11_named 70 = .ok (.iinc 1 1, 3) := by decide +kernel
theorem dX11_named_73 : decode cX11_named 73 = .ok (.goto (-38), 3) := by decide +kernel
theorem dX11_named_76 : decode cX11_named 76 = .ok (.aload_n 0, 1) := by decide +kernel
theorem dX11_named_77 : decode cX11_named 77 = .ok (.iconst 0, 1) := by decide +kernel
theorem dX11_named_78 : decode cX11_named 78 = .ok (.putfield 272, 3) := by decide +kernel
theorem dX11_named_81 : decode cX11_named 81 = .ok (.aload_n 0, 1) := by decide +kernel
theorem dX11_named_82 : decode cX11_named 82 = .ok (.invokevirtual 241, 3) := by decide +kernel
theorem dX11_named_85 : decode cX11_named 85 = .ok (.ireturn, 1) := by decide +kernel
theorem dX11_isBrief_0 : decode cX11_isBrief 0 = .ok (.iconst 0, 1) := by decide +kernel
theorem dX11_isBrief_1 : decode cX11_isBrief 1 = .ok (.istore_n 1, 1) := by decide +kernel
theorem dX11_isBrief_2 : decode cX11_isBrief 2 = .ok (.iload_n 1, 1) := by decide +kernel
theorem dX11_isBrief_3 : decode cX11_isBrief 3 = .ok (.aload_n 0, 1) := by decide +kernel
theorem dX11_isBrief_4 : decode cX11_isBrief 4 = .ok (.getfield 200, 3) := by decide +kernel
theorem dX11_isBrief_7 : decode cX11_isBrief 7 = .ok (.if_icmp .ge 20, 3) := by decide +kernel
theorem dX11_isBrief_10 : decode cX11_isBrief 10 = .ok (.aload_n 0, 1) := by decide +kernel
theorem dX11_isBrief_11 : decode cX11_isBrief 11 = .ok (.getfield 60, 3) := by decide +kernel
theorem dX11_isBrief_14 : decode cX11_isBrief 14 = .ok (.iload_n 1, 1) := by decide +kernel
theorem dX11_isBrief_15 : decode cX11_isBrief 15 = .ok (.caload, 1) := by decide +kernel
theorem dX11_isBrief_16 : decode cX11_isBrief 16 = .ok (.bipush 46, 2) := by decide +kernel
theorem dX11_isBrief_18 : decode cX11_isBrief 18 = .ok (.if_icmp .eq 9, 3) := by decide +kernel
theorem dX11_isBrief_21 : decode cX11_isBrief 21 = .ok (.iinc 1 1, 3) := by decide +kernel
theorem dX11_isBrief_24 : decode cX11_isBrief 24 = .ok (.goto (-22), 3) := by decide +kernel
theorem dX11_isBrief_27 : decode cX11_isBrief 27 = .ok (.iload_n 1, 1) := by decide +kernel
theorem dX11_isBrief_28 : decode cX11_isBrief 28 = .ok (.ifCond .eq 37, 3) := by decide +kernel
theorem dX11_isBrief_31 : decode cX11_isBrief 31 = .ok (.iload_n 1, 1) := by decide +kernel
theorem dX11_isBrief_32 : decode cX11_isBrief 32 = .ok (.bipush 8, 2) := by decide +kernel
theorem dX11_isBrief_34 : decode cX11_isBrief 34 = .ok (.if_icmp .gt 31, 3) := by decide +kernel
theorem dX11_isBrief_37 : decode cX11_isBrief 37 = .ok (.aload_n 0, 1) := by decide +kernel
theorem dX11_isBrief_38 : decode cX11_isBrief 38 = .ok (.getfield 200, 3) := by decide +kernel
theorem dX11_isBrief_41 : decode cX11_isBrief 41 = .ok (.iload_n 1, 1) := by decide +kernel
theorem dX11_isBrief_42 : decode cX11_isBrief 42 = .ok (.isub, 1) := by decide +kernel
theorem dX11_isBrief_43 : decode cX11_isBrief 43 = .ok (.iconst 4, 1) := by decide +kernel
theorem dX11_isBrief_44 : decode cX11_isBrief 44 = .ok (.if_icmp .gt 21, 3) := by decide +kernel
theorem dX11_isBrief_47 : decode cX11_isBrief 47 = .ok (.iload_n 1, 1) := by decide +kernel
theorem dX11_isBrief_48 : decode cX11_isBrief 48 = .ok (.aload_n 0, 1) := by decide +kernel
theorem dX11_isBrief_49 : decode cX11_isBrief 49 = .ok (.getfield 200, 3) := by decide +kernel
theorem dX11_isBrief_52 : decode cX11_isBrief 52 = .ok (.if_icmp .ge 15, 3) := by decide +kernel
theorem dX11_isBrief_55 : decode cX11_isBrief 55 = .ok (.aload_n 0, 1) := by decide +kernel
theorem dX11_isBrief_56 : decode cX11_isBrief 56 = .ok (.getfield 200, 3) := by decide +kernel
theorem dX11_isBrief_59 : decode cX11_isBrief 59 = .ok (.iload_n 1, 1) := by decide +kernel
theorem dX11_isBrief_60 : decode cX11_isBrief 60 = .ok (.isub, 1) := by decide +kernel
theorem dX11_isBrief_61 : decode cX11_isBrief 61 = .ok (.iconst 2, 1) := by decide +kernel
theorem dX11_isBrief_62 : decode cX11_isBrief 62 = .ok (.if_icmp .ge 5, 3) := by decide +kernel
theorem dX11_isBrief_65 : decode cX11_isBrief 65 = .ok (.iconst 0, 1) := by decide +kernel
theorem dX11_isBrief_66 : decode cX11_isBrief 66 = .ok (.ireturn, 1) := by decide +kernel
theorem dX11_isBrief_67 : decode cX11_isBrief 67 = .ok (.iconst 0, 1) := by decide +kernel
theorem dX11_isBrief_68 : decode cX11_isBrief 68 = .ok (.istore_n 2, 1) := by decide +kernel
theorem dX11_isBrief_69 : decode cX11_isBrief 69 = .ok (.iload_n 2, 1) := by decide +kernel
theorem dX11_isBrief_70 : decode cX11_isBrief 70 = .ok (.bipush 11, 2) := by decide +kernel
theorem dX11_isBrief_72 : decode cX11_isBrief 72 = .ok (.if_icmp .ge 17, 3) := by decide +kernel
theorem dX11_isBrief_75 : decode cX11_isBrief 75 = .ok (.aload_n 0, 1) := by decide +kernel
theorem dX11_isBrief_76 : decode cX11_isBrief 76 = .ok (.getfield 63, 3) := by decide +kernel
theorem dX11_isBrief_79 : decode cX11_isBrief 79 = .ok (.iload_n 2, 1) := by decide +kernel
theorem dX11_isBrief_80 : decode cX11_isBrief 80 = .ok (.bipush 32, 2) := by decide +kernel
theorem dX11_isBrief_82 : decode cX11_isBrief 82 = .ok (.iastore, 1) := by decide +kernel
theorem dX11_isBrief_83 : decode cX11_isBrief 83 = .ok (.iinc 2 1, 3) := by decide +kernel
theorem dX11_isBrief_86 : decode cX11_isBrief 86 = .ok (.goto (-17), 3) := by decide +kernel
theorem dX11_isBrief_89 : decode cX11_isBrief 89 = .ok (.iconst 0, 1) := by decide +kernel
theorem dX11_isBrief_90 : decode cX11_isBrief 90 = .ok (.istore_n 2, 1) := by decide +kernel
theorem dX11_isBrief_91 : decode cX11_isBrief 91 = .ok (.iload_n 2, 1) := by decide +kernel
theorem dX11_isBrief_92 : decode cX11_isBrief 92 = .ok (.aload_n 0, 1) := by decide +kernel
theorem dX11_isBrief_93 : decode cX11_isBrief 93 = .ok (.getfield 200, 3) := by decide +kernel
theorem dX11_isBrief_96 : decode cX11_isBrief 96 = .ok (.if_icmp .ge 59, 3) := by decide +kernel
theorem dX11_isBrief_99 : decode cX11_isBrief 99 = .ok (.iload_n 2, 1) := by decide +kernel
theorem dX11_isBrief_100 : decode cX11_isBrief 100 = .ok (.iload_n 1, 1) := by decide +kernel
theorem dX11_isBrief_101 : decode cX11_isBrief 101 = .ok (.if_icmp .eq 17, 3) := by decide +kernel
theorem dX11_isBrief_104 : decode cX11_isBrief 104 = .ok (.aload_n 0, 1) := by decide +kernel
theorem dX11_isBrief_105 : decode cX11_isBrief 105 = .ok (.getfield 60, 3) := by decide +kernel
theorem dX11_isBrief_108 : decode cX11_isBrief 108 = .ok (.iload_n 2, 1) := by decide +kernel
theorem dX11_isBrief_109 : decode cX11_isBrief 109 = .ok (.caload, 1) := by decide +kernel
theorem dX11_isBrief_110 : decode cX11_isBrief 110 = .ok (.invokestatic 213, 3) := by decide +kernel
theorem dX11_isBrief_113 : decode cX11_isBrief 113 = .ok (.ifCond .ne 5, 3) := by decide +kernel
theorem dX11_isBrief_116 : decode cX11_isBrief 116 = .ok (.iconst 0, 1) := by decide +kernel
theorem dX11_isBrief_117 : decode cX11_isBrief 117 = .ok (.ireturn, 1) := by decide +kernel
theorem dX11_isBrief_118 : decode cX11_isBrief 118 = .ok (.iload_n 2, 1) := by decide +kernel
theorem dX11_isBrief_119 : decode cX11_isBrief 119 = .ok (.iload_n 1, 1) := by decide +kernel
theorem dX11_isBrief_120 : decode cX11_isBrief 120 = .ok (.if_icmp .eq 29, 3) := by decide +kernel
theorem dX11_isBrief_123 : decode cX11_isBrief 123 = .ok (.aload_n 0, 1) := by decide +kernel
theorem dX11_isBrief_124 : decode cX11_isBrief 124 = .ok (.getfield 63, 3) := by decide +kernel
theorem dX11_isBrief_127 : decode cX11_isBrief 127 = .ok (.iload_n 2, 1) := by decide +kernel
theorem dX11_isBrief_128 : decode cX11_isBrief 128 = .ok (.iload_n 1, 1) := by decide +kernel
theorem dX11_isBrief_129 : decode cX11_isBrief 129 = .ok (.if_icmp .ge 7, 3) := by decide +kernel
theorem dX11_isBrief_132 : decode cX11_isBrief 132 = .ok (.iload_n 2, 1) := by decide +kernel
theorem dX11_isBrief_133 : decode cX11_isBrief 133 = .ok (.goto 9, 3) := by decide +kernel
theorem dX11_isBrief_136 : decode cX11_isBrief 136 = .ok (.bipush 7, 2) := by decide +kernel
theorem dX11_isBrief_138 : decode cX11_isBrief 138 = .ok (.iload_n 2, 1) := by decide +kernel
theorem dX11_isBrief_139 : decode cX11_isBrief 139 = .ok (.iadd, 1) := by decide +kernel
theorem dX11_isBrief_140 : decode cX11_isBrief 140 = .ok (.iload_n 1, 1) := by decide +kernel
theorem dX11_isBrief_141 : decode cX11_isBrief 141 = .ok (.isub, 1) := by decide +kernel
theorem dX11_isBrief_142 : decode cX11_isBrief 142 = .ok (.aload_n 0, 1) := by decide +kernel
theorem dX11_isBrief_143 : decode cX11_isBrief 143 = .ok (.getfield 60, 3) := by decide +kernel
theorem dX11_isBrief_146 : decode cX11_isBrief 146 = .ok (.iload_n 2, 1) := by decide +kernel
theorem dX11_isBrief_147 : decode cX11_isBrief 147 = .ok (.caload, 1) := by decide +kernel
theorem dX11_isBrief_148 : decode cX11_isBrief 148 = .ok (.iastore, 1) := by decide +kernel
theorem dX11_isBrief_149 : decode cX11_isBrief 149 = .ok (.iinc 2 1, 3) := by decide +kernel
theorem dX11_isBrief_152 : decode cX11_isBrief 152 = .ok (.goto (-61), 3) := by decide +kernel
theorem dX11_isBrief_155 : decode cX11_isBrief 155 = .ok (.iconst 1, 1) := by decide +kernel
theorem dX11_isBrief_156 : decode cX11_isBrief 156 = .ok (.ireturn, 1) := by decide +kernel
theorem dX11_plain_0 : decode cX11_plain 0 = .ok (.iload_n 0, 1) := by decide +kernel
theorem dX11_plain_1 : decode cX11_plain 1 = .ok (.invokestatic 244, 3) := by decide +kernel
theorem dX11_plain_4 : decode cX11_plain 4 = .ok (.istore_n 1, 1) := by decide +kernel
theorem dX11_plain_5 : decode cX11_plain 5 = .ok (.iload_n 0, 1) := by decide +kernel
theorem dX11_plain_6 : decode cX11_plain 6 = .ok (.sipush 128, 3) := by decide +kernel
theorem dX11_plain_9 : decode cX11_plain 9 = .ok (.if_icmp .ge 14, 3) := by decide +kernel
theorem dX11_plain_12 : decode cX11_plain 12 = .ok (.iload_n 1, 1) := by decide +kernel
theorem dX11_plain_13 : decode cX11_plain 13 = .ok (.invokestatic 213, 3) := by decide +kernel
theorem dX11_plain_16 : decode cX11_plain 16 = .ok (.ifCond .eq 7, 3) := by decide +kernel
theorem dX11_plain_19 : decode cX11_plain 19 = .ok (.iload_n 1, 1) := by decide +kernel
theorem dX11_plain_20 : decode cX11_plain 20 = .ok (.goto 5, 3) := by decide +kernel
theorem dX11_plain_23 : decode cX11_plain 23 = .ok (.bipush 95, 2) := by decide +kernel
theorem dX11_plain_25 : decode cX11_plain 25 = .ok (.ireturn, 1) := by decide +kernel
theorem dX11_isBriefTaken_0 : decode cX11_isBriefTaken 0 = .ok (.aload_n 0, 1) := by decide +kernel
theorem dX11_isBriefTaken_1 : decode cX11_isBriefTaken 1 = .ok (.getfield 40, 3) := by decide +kernel
theorem dX11_isBriefTaken_4 : decode cX11_isBriefTaken 4 = .ok (.iload_n 1, 1) := by decide +kernel
theorem dX11_isBriefTaken_5 : decode cX11_isBriefTaken 5 = .ok (.iaload, 1) := by decide +kernel
theorem dX11_isBriefTaken_6 : decode cX11_isBriefTaken 6 = .ok (.istore_n 2, 1) := by decide +kernel
theorem dX11_isBriefTaken_7 : decode cX11_isBriefTaken 7 = .ok (.iload_n 2, 1) := by decide +kernel
theorem dX11_isBriefTaken_8 : decode cX11_isBriefTaken 8 = .ok (.aload_n 0, 1) := by decide +kernel
theorem dX11_isBriefTaken_9 : decode cX11_isBriefTaken 9 = .ok (.getfield 40, 3) := by decide +kernel
theorem dX11_isBriefTaken_12 : decode cX11_isBriefTaken 12 = .ok (.iload_n 1, 1) := by decide +kernel
theorem dX11_isBriefTaken_13 : decode cX11_isBriefTaken 13 = .ok (.iaload, 1) := by decide +kernel
theorem dX11_isBriefTaken_14 : decode cX11_isBriefTaken 14 = .ok (.aload_n 0, 1) := by decide +kernel
theorem dX11_isBriefTaken_15 : decode cX11_isBriefTaken 15 = .ok (.getfield 37, 3) := by decide +kernel
theorem dX11_isBriefTaken_18 : decode cX11_isBriefTaken 18 = .ok (.iload_n 1, 1) := by decide +kernel
theorem dX11_isBriefTaken_19 : decode cX11_isBriefTaken 19 = .ok (.iaload, 1) := by decide +kernel
theorem dX11_isBriefTaken_20 : decode cX11_isBriefTaken 20 = .ok (.iadd, 1) := by decide +kernel
theorem dX11_isBriefTaken_21 : decode cX11_isBriefTaken 21 = .ok (.if_icmp .ge 66, 3) := by decide +kernel
theorem dX11_isBriefTaken_24 : decode cX11_isBriefTaken 24 = .ok (.iconst 1, 1) := by decide +kernel
theorem dX11_isBriefTaken_25 : decode cX11_isBriefTaken 25 = .ok (.istore_n 3, 1) := by decide +kernel
theorem dX11_isBriefTaken_26 : decode cX11_isBriefTaken 26 = .ok (.iconst 0, 1) := by decide +kernel
theorem dX11_isBriefTaken_27 : decode cX11_isBriefTaken 27 = .ok (.istore 4, 2) := by decide +kernel
theorem dX11_isBriefTaken_29 : decode cX11_isBriefTaken 29 = .ok (.iload 4, 2) := by decide +kernel
theorem dX11_isBriefTaken_31 : decode cX11_isBriefTaken 31 = .ok (.bipush 11, 2) := by decide +kernel
theorem dX11_isBriefTaken_33 : decode cX11_isBriefTaken 33 = .ok (.if_icmp .ge 42, 3) := by decide +kernel
theorem dX11_isBriefTaken_36 : decode cX11_isBriefTaken 36 = .ok (.iload_n 3, 1) := by decide +kernel
theorem dX11_isBriefTaken_37 : decode cX11_isBriefTaken 37 = .ok (.ifCond .eq 30, 3) := by decide +kernel
theorem dX11_isBriefTaken_40 : decode cX11_isBriefTaken 40 = .ok (.aload_n 0, 1) := by decide +kernel
theorem dX11_isBriefTaken_41 : decode cX11_isBriefTaken 41 = .ok (.aload_n 0, 1) := by decide +kernel
theorem dX11_isBriefTaken_42 : decode cX11_isBriefTaken 42 = .ok (.getfield 24, 3) := by decide +kernel
theorem dX11_isBriefTaken_45 : decode cX11_isBriefTaken 45 = .ok (.iload_n 2, 1) := by decide +kernel
theorem dX11_isBriefTaken_46 : decode cX11_isBriefTaken 46 = .ok (.iaload, 1) := by decide +kernel
theorem dX11_isBriefTaken_47 : decode cX11_isBriefTaken 47 = .ok (.iload 4, 2) := by decide +kernel
theorem dX11_isBriefTaken_49 : decode cX11_isBriefTaken 49 = .ok (.iadd, 1) := by decide +kernel
theorem dX11_isBriefTaken_50 : decode cX11_isBriefTaken 50 = .ok (.invokevirtual 79, 3) := by decide +kernel
theorem dX11_isBriefTaken_53 : decode cX11_isBriefTaken 53 = .ok (.aload_n 0, 1) := by decide +kernel
theorem dX11_isBriefTaken_54 : decode cX11_isBriefTaken 54 = .ok (.getfield 63, 3) := by decide +kernel
theorem dX11_isBriefTaken_57 : decode cX11_isBriefTaken 57 = .ok (.iload 4, 2) := by decide +kernel
theorem dX11_isBriefTaken_59 : decode cX11_isBriefTaken 59 = .ok (.iaload, 1) := by decide +kernel
theorem dX11_isBriefTaken_60 : decode cX11_isBriefTaken 60 = .ok (.if_icmp .ne 7, 3) := by decide +kernel
theorem dX11_isBriefTaken_63 : decode cX11_isBriefTaken 63 = .ok (.iconst 1, 1) := by decide +kernel
theorem dX11_isBriefTaken_64 : decode cX11_isBriefTaken 64 = .ok (.goto 4, 3) := by decide +kernel
theorem dX11_isBriefTaken_67 : decode cX11_isBriefTaken 67 = .ok (.iconst 0, 1) := by decide +kernel
theorem dX11_isBriefTaken_68 : decode cX11_isBriefTaken 68 = .ok (.istore_n 3, 1) := by decide +kernel
theorem dX11_isBriefTaken_69 : decode cX11_isBriefTaken 69 = .ok (.iinc 4 1, 3) := by decide +kernel
theorem dX11_isBriefTaken_72 : decode cX11_isBriefTaken 72 = .ok (.goto (-43), 3) := by decide +kernel
theorem dX11_isBriefTaken_75 : decode cX11_isBriefTaken 75 = .ok (.iload_n 3, 1) := by decide +kernel
theorem dX11_isBriefTaken_76 : decode cX11_isBriefTaken 76 = .ok (.ifCond .eq 5, 3) := by decide +kernel
theorem dX11_isBriefTaken_79 : decode cX11_isBriefTaken 79 = .ok (.iconst 1, 1) := by decide +kernel
theorem dX11_isBriefTaken_80 : decode cX11_isBriefTaken 80 = .ok (.ireturn, 1) := by decide +kernel
theorem dX11_isBriefTaken_81 : decode cX11_isBriefTaken 81 = .ok (.iinc 2 1, 3) := by decide +kernel
theorem dX11_isBriefTaken_84 : decode cX11_isBriefTaken 84 = .ok (.goto (-77), 3) := by decide +kernel
theorem dX11_isBriefTaken_87 : decode cX11_isBriefTaken 87 = .ok (.iconst 0, 1) := by decide +kernel
theorem dX11_isBriefTaken_88 : decode cX11_isBriefTaken 88 = .ok (.ireturn, 1) := by decide +kernel
theorem dX11_shorten_0 : decode cX11_shorten 0 = .ok (.aload_n 0, 1) := by decide +kernel
theorem dX11_shorten_1 : decode cX11_shorten 1 = .ok (.getfield 200, 3) := by decide +kernel
theorem dX11_shorten_4 : decode cX11_shorten 4 = .ok (.iconst 1, 1) := by decide +kernel
theorem dX11_shorten_5 : decode cX11_shorten 5 = .ok (.isub, 1) := by decide +kernel
theorem dX11_shorten_6 : decode cX11_shorten 6 = .ok (.istore_n 2, 1) := by decide +kernel
theorem dX11_shorten_7 : decode cX11_shorten 7 = .ok (.iload_n 2, 1) := by decide +kernel
theorem dX11_shorten_8 : decode cX11_shorten 8 = .ok (.ifCond .le 20, 3) := by decide +kernel
theorem dX11_shorten_11 : decode cX11_shorten 11 = .ok (.aload_n 0, 1) := by decide +kernel
theorem dX11_shorten_12 : decode cX11_shorten 12 = .ok (.getfield 60, 3) := by decide +kernel
theorem dX11_shorten_15 : decode cX11_shorten 15 = .ok (.iload_n 2, 1) := by decide +kernel
theorem dX11_shorten_16 : decode cX11_shorten 16 = .ok (.caload, 1) := by decide +kernel
theorem dX11_shorten_17 : decode cX11_shorten 17 = .ok (.bipush 46, 2) := by decide +kernel
theorem dX11_shorten_19 : decode cX11_shorten 19 = .ok (.if_icmp .eq 9, 3) := by decide +kernel
theorem dX11_shorten_22 : decode cX11_shorten 22 = .ok (.iinc 2 (-1), 3) := by decide +kernel
theorem dX11_shorten_25 : decode cX11_shorten 25 = .ok (.goto (-18), 3) := by decide +kernel
theorem dX11_shorten_28 : decode cX11_shorten 28 = .ok (.iconst 0, 1) := by decide +kernel
theorem dX11_shorten_29 : decode cX11_shorten 29 = .ok (.istore_n 3, 1) := by decide +kernel
theorem dX11_shorten_30 : decode cX11_shorten 30 = .ok (.iconst 0, 1) := by decide +kernel
theorem dX11_shorten_31 : decode cX11_shorten 31 = .ok (.istore 4, 2) := by decide +kernel
theorem dX11_shorten_33 : decode cX11_shorten 33 = .ok (.iconst 0, 1) := by decide +kernel
theorem dX11_shorten_34 : decode cX11_shorten 34 = .ok (.istore 5, 2) := by decide +kernel
theorem dX11_shorten_36 : decode cX11_shorten 36 = .ok (.iload 5, 2) := by decide +kernel
theorem dX11_shorten_38 : decode cX11_shorten 38 = .ok (.iload_n 2, 1) := by decide +kernel
theorem dX11_shorten_39 : decode cX11_shorten 39 = .ok (.ifCond .le 7, 3) := by decide +kernel
theorem dX11_shorten_42 : decode cX11_shorten 42 = .ok (.iload_n 2, 1) := by decide +kernel
theorem dX11_shorten_43 : decode cX11_shorten 43 = .ok (.goto 7, 3) := by decide +kernel
theorem dX11_shorten_46 : decode cX11_shorten 46 = .ok (.aload_n 0, 1) := by decide +kernel
theorem dX11_shorten_47 : decode cX11_shorten 47 = .ok (.getfield 200, 3) := by decide +kernel
theorem dX11_shorten_50 : decode cX11_shorten 50 = .ok (.if_icmp .ge 55, 3) := by decide +kernel
theorem dX11_shorten_53 : decode cX11_shorten 53 = .ok (.aload_n 0, 1) := by decide +kernel
theorem dX11_shorten_54 : decode cX11_shorten 54 = .ok (.getfield 60, 3) := by decide +kernel
theorem dX11_shorten_57 : decode cX11_shorten 57 = .ok (.iload 5, 2) := by decide +kernel
theorem dX11_shorten_59 : decode cX11_shorten 59 = .ok (.caload, 1) := by decide +kernel
theorem dX11_shorten_60 : decode cX11_shorten 60 = .ok (.bipush 32, 2) := by decide +kernel
theorem dX11_shorten_62 : decode cX11_shorten 62 = .ok (.if_icmp .eq 37, 3) := by decide +kernel
theorem dX11_shorten_65 : decode cX11_shorten 65 = .ok (.aload_n 0, 1) := by decide +kernel
theorem dX11_shorten_66 : decode cX11_shorten 66 = .ok (.getfield 60, 3) := by decide +kernel
theorem dX11_shorten_69 : decode cX11_shorten 69 = .ok (.iload 5, 2) := by decide +kernel
theorem dX11_shorten_71 : decode cX11_shorten 71 = .ok (.caload, 1) := by decide +kernel
theorem dX11_shorten_72 : decode cX11_shorten 72 = .ok (.bipush 46, 2) := by decide +kernel
theorem dX11_shorten_74 : decode cX11_shorten 74 = .ok (.if_icmp .ne 6, 3) := by decide +kernel
theorem dX11_shorten_77 : decode cX11_shorten 77 = .ok (.goto 22, 3) := by decide +kernel
theorem dX11_shorten_80 : decode cX11_shorten 80 = .ok (.aload_n 0, 1) := by decide +kernel
theorem dX11_shorten_81 : decode cX11_shorten 81 = .ok (.getfield 66, 3) := by decide +kernel
theorem dX11_shorten_84 : decode cX11_shorten 84 = .ok (.iload_n 3, 1) := by decide +kernel
theorem dX11_shorten_85 : decode cX11_shorten 85 = .ok (.aload_n 0, 1) := by decide +kernel
theorem dX11_shorten_86 : decode cX11_shorten 86 = .ok (.getfield 60, 3) := by decide +kernel
theorem dX11_shorten_89 : decode cX11_shorten 89 = .ok (.iload 5, 2) := by decide +kernel
theorem dX11_shorten_91 : decode cX11_shorten 91 = .ok (.caload, 1) := by decide +kernel
theorem dX11_shorten_92 : decode cX11_shorten 92 = .ok (.invokestatic 357, 3) := by decide +kernel
theorem dX11_shorten_95 : decode cX11_shorten 95 = .ok (.iastore, 1) := by decide +kernel
theorem dX11_shorten_96 : decode cX11_shorten 96 = .ok (.iinc 3 1, 3) := by decide +kernel
theorem dX11_shorten_99 : decode cX11_shorten 99 = .ok (.iinc 5 1, 3) := by decide +kernel
theorem dX11_shorten_102 : decode cX11_shorten 102 = .ok (.goto (-66), 3) := by decide +kernel
theorem dX11_shorten_105 : decode cX11_shorten 105 = .ok (.iload_n 2, 1) := by decide +kernel
theorem dX11_shorten_106 : decode cX11_shorten 106 = .ok (.iconst 1, 1) := by decide +kernel
theorem dX11_shorten_107 : decode cX11_shorten 107 = .ok (.iadd, 1) := by decide +kernel
theorem dX11_shorten_108 : decode cX11_shorten 108 = .ok (.istore 5, 2) := by decide +kernel
theorem dX11_shorten_110 : decode cX11_shorten 110 = .ok (.iload_n 2, 1) := by decide +kernel
theorem dX11_shorten_111 : decode cX11_shorten 111 = .ok (.ifCond .le 59, 3) := by decide +kernel
theorem dX11_shorten_114 : decode cX11_shorten 114 = .ok (.iload 5, 2) := by decide +kernel
theorem dX11_shorten_116 : decode cX11_shorten 116 = .ok (.aload_n 0, 1) := by decide +kernel
theorem dX11_shorten_117 : decode cX11_shorten 117 = .ok (.getfield 200, 3) := by decide +kernel
theorem dX11_shorten_120 : decode cX11_shorten 120 = .ok (.if_icmp .ge 50, 3) := by decide +kernel
theorem dX11_shorten_123 : decode cX11_shorten 123 = .ok (.iload 4, 2) := by decide +kernel
theorem dX11_shorten_125 : decode cX11_shorten 125 = .ok (.iconst 3, 1) := by decide +kernel
theorem dX11_shorten_126 : decode cX11_shorten 126 = .ok (.if_icmp .ge 44, 3) := by decide +kernel
theorem dX11_shorten_129 : decode cX11_shorten 129 = .ok (.aload_n 0, 1) := by decide +kernel
theorem dX11_shorten_130 : decode cX11_shorten 130 = .ok (.getfield 60, 3) := by decide +kernel
theorem dX11_shorten_133 : decode cX11_shorten 133 = .ok (.iload 5, 2) := by decide +kernel
theorem dX11_shorten_135 : decode cX11_shorten 135 = .ok (.caload, 1) := by decide +kernel
theorem dX11_shorten_136 : decode cX11_shorten 136 = .ok (.bipush 32, 2) := by decide +kernel
theorem dX11_shorten_138 : decode cX11_shorten 138 = .ok (.if_icmp .ne 6, 3) := by decide +kernel
theorem dX11_shorten_141 : decode cX11_shorten 141 = .ok (.goto 23, 3) := by decide +kernel
theorem dX11_shorten_144 : decode cX11_shorten 144 = .ok (.aload_n 0, 1) := by decide +kernel
theorem dX11_shorten_145 : decode cX11_shorten 145 = .ok (.getfield 69, 3) := by decide +kernel
theorem dX11_shorten_148 : decode cX11_shorten 148 = .ok (.iload 4, 2) := by decide +kernel
theorem dX11_shorten_150 : decode cX11_shorten 150 = .ok (.aload_n 0, 1) := by decide +kernel
theorem dX11_shorten_151 : decode cX11_shorten 151 = .ok (.getfield 60, 3) := by decide +kernel
theorem dX11_shorten_154 : decode cX11_shorten 154 = .ok (.iload 5, 2) := by decide +kernel
theorem dX11_shorten_156 : decode cX11_shorten 156 = .ok (.caload, 1) := by decide +kernel
theorem dX11_shorten_157 : decode cX11_shorten 157 = .ok (.invokestatic 357, 3) := by decide +kernel
theorem dX11_shorten_160 : decode cX11_shorten 160 = .ok (.iastore, 1) := by decide +kernel
theorem dX11_shorten_161 : decode cX11_shorten 161 = .ok (.iinc 4 1, 3) := by decide +kernel
theorem dX11_shorten_164 : decode cX11_shorten 164 = .ok (.iinc 5 1, 3) := by decide +kernel
theorem dX11_shorten_167 : decode cX11_shorten 167 = .ok (.goto (-57), 3) := by decide +kernel
theorem dX11_shorten_170 : decode cX11_shorten 170 = .ok (.iconst 1, 1) := by decide +kernel
theorem dX11_shorten_171 : decode cX11_shorten 171 = .ok (.istore 5, 2) := by decide +kernel
theorem dX11_shorten_173 : decode cX11_shorten 173 = .ok (.iconst 1, 1) := by decide +kernel
theorem dX11_shorten_174 : decode cX11_shorten 174 = .ok (.istore 6, 2) := by decide +kernel
theorem dX11_shorten_176 : decode cX11_shorten 176 = .ok (.iload 5, 2) := by decide +kernel
theorem dX11_shorten_178 : decode cX11_shorten 178 = .ok (.ifCond .eq 195, 3) := by decide +kernel
theorem dX11_shorten_181 : decode cX11_shorten 181 = .ok (.iconst 1, 1) := by decide +kernel
theorem dX11_shorten_182 : decode cX11_shorten 182 = .ok (.istore 7, 2) := by decide +kernel
theorem dX11_shorten_184 : decode cX11_shorten 184 = .ok (.iconst 1, 1) := by decide +kernel
theorem dX11_shorten_185 : decode cX11_shorten 185 = .ok (.istore 8, 2) := by decide +kernel
theorem dX11_shorten_187 : decode cX11_shorten 187 = .ok (.iload 6, 2) := by decide +kernel
theorem dX11_shorten_189 : decode cX11_shorten 189 = .ok (.iload 8, 2) := by decide +kernel
theorem dX11_shorten_191 : decode cX11_shorten 191 = .ok (.idiv, 1) := by decide +kernel
theorem dX11_shorten_192 : decode cX11_shorten 192 = .ok (.bipush 9, 2) := by decide +kernel
theorem dX11_shorten_194 : decode cX11_shorten 194 = .ok (.if_icmp .le 16, 3) := by decide +kernel
theorem dX11_shorten_197 : decode cX11_shorten 197 = .ok (.iload 8, 2) := by decide +kernel
theorem dX11_shorten_199 : decode cX11_shorten 199 = .ok (.bipush 10, 2) := by decide +kernel
theorem dX11_shorten_201 : decode cX11_shorten 201 = .ok (.imul, 1) := by decide +kernel
theorem dX11_shorten_202 : decode cX11_shorten 202 = .ok (.istore 8, 2) := by decide +kernel
theorem dX11_shorten_204 : decode cX11_shorten 204 = .ok (.iinc 7 1, 3) := by decide +kernel
theorem dX11_shorten_207 : decode cX11_shorten 207 = .ok (.goto (-20), 3) := by decide +kernel
theorem dX11_shorten_210 : decode cX11_shorten 210 = .ok (.iload_n 3, 1) := by decide +kernel
theorem dX11_shorten_211 : decode cX11_shorten 211 = .ok (.bipush 7, 2) := by decide +kernel
theorem dX11_shorten_213 : decode cX11_shorten 213 = .ok (.iload 7, 2) := by decide +kernel
theorem dX11_shorten_215 : decode cX11_shorten 215 = .ok (.isub, 1) := by decide +kernel
theorem dX11_shorten_216 : decode cX11_shorten 216 = .ok (.if_icmp .ge 7, 3) := by decide +kernel
theorem dX11_shorten_219 : decode cX11_shorten 219 = .ok (.iload_n 3, 1) := by decide +kernel
theorem dX11_shorten_220 : decode cX11_shorten 220 = .ok (.goto 8, 3) := by decide +kernel
theorem dX11_shorten_223 : decode cX11_shorten 223 = .ok (.bipush 7, 2) := by decide +kernel
theorem dX11_shorten_225 : decode cX11_shorten 225 = .ok (.iload 7, 2) := by decide +kernel
theorem dX11_shorten_227 : decode cX11_shorten 227 = .ok (.isub, 1) := by decide +kernel
theorem dX11_shorten_228 : decode cX11_shorten 228 = .ok (.istore 9, 2) := by decide +kernel
theorem dX11_shorten_230 : decode cX11_shorten 230 = .ok (.iconst 0, 1) := by decide +kernel
theorem dX11_shorten_231 : decode cX11_shorten 231 = .ok (.istore 10, 2) := by decide +kernel
theorem dX11_shorten_233 : decode cX11_shorten 233 = .ok (.iload 10, 2) := by decide +kernel
theorem dX11_shorten_235 : decode cX11_shorten 235 = .ok (.bipush 11, 2) := by decide +kernel
theorem dX11_shorten_237 : decode cX11_shorten 237 = .ok (.if_icmp .ge 77, 3) := by decide +kernel
theorem dX11_shorten_240 : decode cX11_shorten 240 = .ok (.aload_n 0, 1) := by decide +kernel
theorem dX11_shorten_241 : decode cX11_shorten 241 = .ok (.getfield 63, 3) := by decide +kernel
theorem dX11_shorten_244 : decode cX11_shorten 244 = .ok (.iload 10, 2) := by decide +kernel
theorem dX11_shorten_246 : decode cX11_shorten 246 = .ok (.iload 10, 2) := by decide +kernel
theorem dX11_shorten_248 : decode cX11_shorten 248 = .ok (.iload 9, 2) := by decide +kernel
theorem dX11_shorten_250 : decode cX11_shorten 250 = .ok (.if_icmp .ge 13, 3) := by decide +kernel
theorem dX11_shorten_253 : decode cX11_shorten 253 = .ok (.aload_n 0, 1) := by decide +kernel
theorem dX11_shorten_254 : decode cX11_shorten 254 = .ok (.getfield 66, 3) := by decide +kernel
theorem dX11_shorten_257 : decode cX11_shorten 257 = .ok (.iload 10, 2) := by decide +kernel
theorem dX11_shorten_259 : decode cX11_shorten 259 = .ok (.iaload, 1) := by decide +kernel
theorem dX11_shorten_260 : decode cX11_shorten 260 = .ok (.goto 47, 3) := by decide +kernel
theorem dX11_shorten_263 : decode cX11_shorten 263 = .ok (.iload 10, 2) := by decide +kernel
theorem dX11_shorten_265 : decode cX11_shorten 265 = .ok (.iload 9, 2) := by decide +kernel
theorem dX11_shorten_267 : decode cX11_shorten 267 = .ok (.if_icmp .ne 8, 3) := by decide +kernel
theorem dX11_shorten_270 : decode cX11_shorten 270 = .ok (.bipush 126, 2) := by decide +kernel
theorem dX11_shorten_272 : decode cX11_shorten 272 = .ok (.goto 35, 3) := by decide +kernel
theorem dX11_shorten_275 : decode cX11_shorten 275 = .ok (.iload 10, 2) := by decide +kernel
theorem dX11_shorten_277 : decode cX11_shorten 277 = .ok (.bipush 7, 2) := by decide +kernel
theorem dX11_shorten_279 : decode cX11_shorten 279 = .ok (.if_icmp .le 26, 3) := by decide +kernel
theorem dX11_shorten_282 : decode cX11_shorten 282 = .ok (.iload 10, 2) := by decide +kernel
theorem dX11_shorten_284 : decode cX11_shorten 284 = .ok (.bipush 8, 2) := by decide +kernel
theorem dX11_shorten_286 : decode cX11_shorten 286 = .ok (.isub, 1) := by decide +kernel
theorem dX11_shorten_287 : decode cX11_shorten 287 = .ok (.iload 4, 2) := by decide +kernel
theorem dX11_shorten_289 : decode cX11_shorten 289 = .ok (.if_icmp .ge 16, 3) := by decide +kernel
theorem dX11_shorten_292 : decode cX11_shorten 292 = .ok (.aload_n 0, 1) := by decide +kernel
theorem dX11_shorten_293 : decode cX11_shorten 293 = .ok (.getfield 69, 3) := by decide +kernel
theorem dX11_shorten_296 : decode cX11_shorten 296 = .ok (.iload 10, 2) := by decide +kernel
theorem dX11_shorten_298 : decode cX11_shorten 298 = .ok (.bipush 8, 2) := by decide +kernel
theorem dX11_shorten_300 : decode cX11_shorten 300 = .ok (.isub, 1) := by decide +kernel
theorem dX11_shorten_301 : decode cX11_shorten 301 = .ok (.iaload, 1) := by decide +kernel
theorem dX11_shorten_302 : decode cX11_shorten 302 = .ok (.goto 5, 3) := by decide +kernel
theorem dX11_shorten_305 : decode cX11_shorten 305 = .ok (.bipush 32, 2) := by decide +kernel
theorem dX11_shorten_307 : decode cX11_shorten 307 = .ok (.iastore, 1) := by decide +kernel
theorem dX11_shorten_308 : decode cX11_shorten 308 = .ok (.iinc 10 1, 3) := by decide +kernel
theorem dX11_shorten_311 : decode cX11_shorten 311 = .ok (.goto (-78), 3) := by decide +kernel
theorem dX11_shorten_314 : decode cX11_shorten 314 = .ok (.iconst 0, 1) := by decide +kernel
theorem dX11_shorten_315 : decode cX11_shorten 315 = .ok (.istore 10, 2) := by decide +kernel
theorem dX11_shorten_317 : decode cX11_shorten 317 = .ok (.iload 10, 2) := by decide +kernel
theorem dX11_shorten_319 : decode cX11_shorten 319 = .ok (.iload 7, 2) := by decide +kernel
theorem dX11_shorten_321 : decode cX11_shorten 321 = .ok (.if_icmp .ge 39, 3) := by decide +kernel
theorem dX11_shorten_324 : decode cX11_shorten 324 = .ok (.aload_n 0, 1) := by decide +kernel
theorem dX11_shorten_325 : decode cX11_shorten 325 = .ok (.getfield 63, 3) := by decide +kernel
theorem dX11_shorten_328 : decode cX11_shorten 328 = .ok (.iload 9, 2) := by decide +kernel
theorem dX11_shorten_330 : decode cX11_shorten 330 = .ok (.iconst 1, 1) := by decide +kernel
theorem dX11_shorten_331 : decode cX11_shorten 331 = .ok (.iadd, 1) := by decide +kernel
theorem dX11_shorten_332 : decode cX11_shorten 332 = .ok (.iload 10, 2) := by decide +kernel
theorem dX11_shorten_334 : decode cX11_shorten 334 = .ok (.iadd, 1) := by decide +kernel
theorem dX11_shorten_335 : decode cX11_shorten 335 = .ok (.bipush 48, 2) := by decide +kernel
theorem dX11_shorten_337 : decode cX11_shorten 337 = .ok (.iload 6, 2) := by decide +kernel
theorem dX11_shorten_339 : decode cX11_shorten 339 = .ok (.iload 8, 2) := by decide +kernel
theorem dX11_shorten_341 : decode cX11_shorten 341 = .ok (.idiv, 1) := by decide +kernel
theorem dX11_shorten_342 : decode cX11_shorten 342 = .ok (.bipush 10, 2) := by decide +kernel
theorem dX11_shorten_344 : decode cX11_shorten 344 = .ok (.irem, 1) := by decide +kernel
theorem dX11_shorten_345 : decode cX11_shorten 345 = .ok (.iadd, 1) := by decide +kernel
theorem dX11_shorten_346 : decode cX11_shorten 346 = .ok (.iastore, 1) := by decide +kernel
theorem dX11_shorten_347 : decode cX11_shorten 347 = .ok (.iload 8, 2) := by decide +kernel
theorem dX11_shorten_349 : decode cX11_shorten 349 = .ok (.bipush 10, 2) := by decide +kernel
theorem dX11_shorten_351 : decode cX11_shorten 351 = .ok (.idiv, 1) := by decide +kernel
theorem dX11_shorten_352 : decode cX11_shorten 352 = .ok (.istore 8, 2) := by decide +kernel
theorem dX11_shorten_354 : decode cX11_shorten 354 = .ok (.iinc 10 1, 3) := by decide +kernel
theorem dX11_shorten_357 : decode cX11_shorten 357 = .ok (.goto (-40), 3) := by decide +kernel
theorem dX11_shorten_360 : decode cX11_shorten 360 = .ok (.aload_n 0, 1) := by decide +kernel
theorem dX11_shorten_361 : decode cX11_shorten 361 = .ok (.iload_n 1, 1) := by decide +kernel
theorem dX11_shorten_362 : decode cX11_shorten 362 = .ok (.invokevirtual 360, 3) := by decide +kernel
theorem dX11_shorten_365 : decode cX11_shorten 365 = .ok (.istore 5, 2) := by decide +kernel
theorem dX11_shorten_367 : decode cX11_shorten 367 = .ok (.iinc 6 1, 3) := by decide +kernel
theorem dX11_shorten_370 : decode cX11_shorten 370 = .ok (.goto (-194), 3) := by decide +kernel
theorem dX11_shorten_373 : decode cX11_shorten 373 = .ok (.return_, 1) := by decide +kernel
theorem dX11_make_0 : decode cX11_make 0 = .ok (.aload_n 0, 1) := by decide +kernel
theorem dX11_make_1 : decode cX11_make 1 = .ok (.invokevirtual 322, 3) := by decide +kernel
theorem dX11_make_4 : decode cX11_make 4 = .ok (.istore_n 2, 1) := by decide +kernel
theorem dX11_make_5 : decode cX11_make 5 = .ok (.aload_n 0, 1) := by decide +kernel
theorem dX11_make_6 : decode cX11_make 6 = .ok (.invokevirtual 363, 3) := by decide +kernel
theorem dX11_make_9 : decode cX11_make 9 = .ok (.istore_n 3, 1) := by decide +kernel
theorem dX11_make_10 : decode cX11_make 10 = .ok (.iload_n 2, 1) := by decide +kernel
theorem dX11_make_11 : decode cX11_make 11 = .ok (.ifCond .ne 31, 3) := by decide +kernel
theorem dX11_make_14 : decode cX11_make 14 = .ok (.aload_n 0, 1) := by decide +kernel
theorem dX11_make_15 : decode cX11_make 15 = .ok (.iload_n 3, 1) := by decide +kernel
theorem dX11_make_16 : decode cX11_make 16 = .ok (.ifCond .eq 14, 3) := by decide +kernel
theorem dX11_make_19 : decode cX11_make 19 = .ok (.aload_n 0, 1) := by decide +kernel
theorem dX11_make_20 : decode cX11_make 20 = .ok (.aload_n 0, 1) := by decide +kernel
theorem dX11_make_21 : decode cX11_make 21 = .ok (.invokevirtual 319, 3) := by decide +kernel
theorem dX11_make_24 : decode cX11_make 24 = .ok (.invokevirtual 266, 3) := by decide +kernel
theorem dX11_make_27 : decode cX11_make 27 = .ok (.ifCond .eq 7, 3) := by decide +kernel
theorem dX11_make_30 : decode cX11_make 30 = .ok (.iconst 1, 1) := by decide +kernel
theorem dX11_make_31 : decode cX11_make 31 = .ok (.goto 4, 3) := by decide +kernel
theorem dX11_make_34 : decode cX11_make 34 = .ok (.iconst 0, 1) := by decide +kernel
theorem dX11_make_35 : decode cX11_make 35 = .ok (.iconst 2, 1) := by decide +kernel
theorem dX11_make_36 : decode cX11_make 36 = .ok (.invokevirtual 287, 3) := by decide +kernel
theorem dX11_make_39 : decode cX11_make 39 = .ok (.ifCond .eq 5, 3) := by decide +kernel
theorem dX11_make_42 : decode cX11_make 42 = .ok (.iconst 0, 1) := by decide +kernel
theorem dX11_make_43 : decode cX11_make 43 = .ok (.ireturn, 1) := by decide +kernel
theorem dX11_make_44 : decode cX11_make 44 = .ok (.aload_n 0, 1) := by decide +kernel
theorem dX11_make_45 : decode cX11_make 45 = .ok (.invokevirtual 319, 3) := by decide +kernel
theorem dX11_make_48 : decode cX11_make 48 = .ok (.istore 4, 2) := by decide +kernel
theorem dX11_make_50 : decode cX11_make 50 = .ok (.aload_n 0, 1) := by decide +kernel
theorem dX11_make_51 : decode cX11_make 51 = .ok (.invokevirtual 366, 3) := by decide +kernel
theorem dX11_make_54 : decode cX11_make 54 = .ok (.istore 5, 2) := by decide +kernel
theorem dX11_make_56 : decode cX11_make 56 = .ok (.aload_n 0, 1) := by decide +kernel
theorem dX11_make_57 : decode cX11_make 57 = .ok (.iload 5, 2) := by decide +kernel
theorem dX11_make_59 : decode cX11_make 59 = .ok (.ifCond .eq 16, 3) := by decide +kernel
theorem dX11_make_62 : decode cX11_make 62 = .ok (.aload_n 0, 1) := by decide +kernel
theorem dX11_make_63 : decode cX11_make 63 = .ok (.iload 4, 2) := by decide +kernel
theorem dX11_make_65 : decode cX11_make 65 = .ok (.invokevirtual 360, 3) := by decide +kernel
theorem dX11_make_68 : decode cX11_make 68 = .ok (.ifCond .eq 7, 3) := by decide +kernel
theorem dX11_make_71 : decode cX11_make 71 = .ok (.iconst 1, 1) := by decide +kernel
theorem dX11_make_72 : decode cX11_make 72 = .ok (.goto 4, 3) := by decide +kernel
theorem dX11_make_75 : decode cX11_make 75 = .ok (.iconst 0, 1) := by decide +kernel
theorem dX11_make_76 : decode cX11_make 76 = .ok (.iconst 2, 1) := by decide +kernel
theorem dX11_make_77 : decode cX11_make 77 = .ok (.invokevirtual 287, 3) := by decide +kernel
theorem dX11_make_80 : decode cX11_make 80 = .ok (.ifCond .eq 5, 3) := by decide +kernel
theorem dX11_make_83 : decode cX11_make 83 = .ok (.iconst 0, 1) := by decide +kernel
theorem dX11_make_84 : decode cX11_make 84 = .ok (.ireturn, 1) := by decide +kernel
theorem dX11_make_85 : decode cX11_make 85 = .ok (.iload 5, 2) := by decide +kernel
theorem dX11_make_87 : decode cX11_make 87 = .ok (.ifCond .ne 9, 3) := by decide +kernel
theorem dX11_make_90 : decode cX11_make 90 = .ok (.aload_n 0, 1) := by decide +kernel
theorem dX11_make_91 : decode cX11_make 91 = .ok (.iload 4, 2) := by decide +kernel
theorem dX11_make_93 : decode cX11_make 93 = .ok (.invokevirtual 369, 3) := by decide +kernel
theorem dX11_make_96 : decode cX11_make 96 = .ok (.iload 5, 2) := by decide +kernel
theorem dX11_make_98 : decode cX11_make 98 = .ok (.ifCond .eq 7, 3) := by decide +kernel
theorem dX11_make_101 : decode cX11_make 101 = .ok (.iconst 1, 1) := by decide +kernel
theorem dX11_make_102 : decode cX11_make 102 = .ok (.goto 14, 3) := by decide +kernel
theorem dX11_make_105 : decode cX11_make 105 = .ok (.iconst 1, 1) := by decide +kernel
theorem dX11_make_106 : decode cX11_make 106 = .ok (.aload_n 0, 1) := by decide +kernel
theorem dX11_make_107 : decode cX11_make 107 = .ok (.getfield 200, 3) := by decide +kernel
theorem dX11_make_110 : decode cX11_make 110 = .ok (.bipush 13, 2) := by decide +kernel
theorem dX11_make_112 : decode cX11_make 112 = .ok (.invokestatic 238, 3) := by decide +kernel
theorem dX11_make_115 : decode cX11_make 115 = .ok (.iadd, 1) := by decide +kernel
theorem dX11_make_116 : decode cX11_make 116 = .ok (.istore 6, 2) := by decide +kernel
theorem dX11_make_118 : decode cX11_make 118 = .ok (.aload_n 0, 1) := by decide +kernel
theorem dX11_make_119 : decode cX11_make 119 = .ok (.iload 4, 2) := by decide +kernel
theorem dX11_make_121 : decode cX11_make 121 = .ok (.invokevirtual 372, 3) := by decide +kernel
theorem dX11_make_124 : decode cX11_make 124 = .ok (.aload_n 0, 1) := by decide +kernel
theorem dX11_make_125 : decode cX11_make 125 = .ok (.getfield 174, 3) := by decide +kernel
theorem dX11_make_128 : decode cX11_make 128 = .ok (.bipush 16, 2) := by decide +kernel
theorem dX11_make_130 : decode cX11_make 130 = .ok (.imul, 1) := by decide +kernel
theorem dX11_make_131 : decode cX11_make 131 = .ok (.aload_n 0, 1) := by decide +kernel
theorem dX11_make_132 : decode cX11_make 132 = .ok (.getfield 114, 3) := by decide +kernel
theorem dX11_make_135 : decode cX11_make 135 = .ok (.imul, 1) := by decide +kernel
theorem dX11_make_136 : decode cX11_make 136 = .ok (.istore 7, 2) := by decide +kernel
theorem dX11_make_138 : decode cX11_make 138 = .ok (.iconst 0, 1) := by decide +kernel
theorem dX11_make_139 : decode cX11_make 139 = .ok (.istore 8, 2) := by decide +kernel
theorem dX11_make_141 : decode cX11_make 141 = .ok (.iload 8, 2) := by decide +kernel
theorem dX11_make_143 : decode cX11_make 143 = .ok (.iload 7, 2) := by decide +kernel
theorem dX11_make_145 : decode cX11_make 145 = .ok (.if_icmp .ge 22, 3) := by decide +kernel
theorem dX11_make_148 : decode cX11_make 148 = .ok (.aload_n 0, 1) := by decide +kernel
theorem dX11_make_149 : decode cX11_make 149 = .ok (.aload_n 0, 1) := by decide +kernel
theorem dX11_make_150 : decode cX11_make 150 = .ok (.iload 8, 2) := by decide +kernel
theorem dX11_make_152 : decode cX11_make 152 = .ok (.invokevirtual 186, 3) := by decide +kernel
theorem dX11_make_155 : decode cX11_make 155 = .ok (.invokevirtual 79, 3) := by decide +kernel
theorem dX11_make_158 : decode cX11_make 158 = .ok (.ifCond .eq 9, 3) := by decide +kernel
theorem dX11_make_161 : decode cX11_make 161 = .ok (.iinc 8 1, 3) := by decide +kernel
theorem dX11_make_164 : decode cX11_make 164 = .ok (.goto (-23), 3) := by decide +kernel
theorem dX11_make_167 : decode cX11_make 167 = .ok (.iconst 0, 1) := by decide +kernel
theorem dX11_make_168 : decode cX11_make 168 = .ok (.istore 9, 2) := by decide +kernel
theorem dX11_make_170 : decode cX11_make 170 = .ok (.iconst 0, 1) := by decide +kernel
theorem dX11_make_171 : decode cX11_make 171 = .ok (.istore 10, 2) := by decide +kernel
theorem dX11_make_173 : decode cX11_make 173 = .ok (.iload 10, 2) := by decide +kernel
theorem dX11_make_175 : decode cX11_make 175 = .ok (.iload 7, 2) := by decide +kernel
theorem dX11_make_177 : decode cX11_make 177 = .ok (.if_icmp .ge 48, 3) := by decide +kernel
theorem dX11_make_180 : decode cX11_make 180 = .ok (.iload 10, 2) := by decide +kernel
theorem dX11_make_182 : decode cX11_make 182 = .ok (.iload 9, 2) := by decide +kernel
theorem dX11_make_184 : decode cX11_make 184 = .ok (.isub, 1) := by decide +kernel
theorem dX11_make_185 : decode cX11_make 185 = .ok (.iload 6, 2) := by decide +kernel
theorem dX11_make_187 : decode cX11_make 187 = .ok (.if_icmp .ge 38, 3) := by decide +kernel
theorem dX11_make_190 : decode cX11_make 190 = .ok (.iload 10, 2) := by decide +kernel
theorem dX11_make_192 : decode cX11_make 192 = .ok (.iload 8, 2) := by decide +kernel
theorem dX11_make_194 : decode cX11_make 194 = .ok (.if_icmp .ge 25, 3) := by decide +kernel
theorem dX11_make_197 : decode cX11_make 197 = .ok (.aload_n 0, 1) := by decide +kernel
theorem dX11_make_198 : decode cX11_make 198 = .ok (.aload_n 0, 1) := by decide +kernel
theorem dX11_make_199 : decode cX11_make 199 = .ok (.iload 10, 2) := by decide +kernel
theorem dX11_make_201 : decode cX11_make 201 = .ok (.invokevirtual 186, 3) := by decide +kernel
theorem dX11_make_204 : decode cX11_make 204 = .ok (.invokevirtual 79, 3) := by decide +kernel
theorem dX11_make_207 : decode cX11_make 207 = .ok (.sipush 229, 3) := by decide +kernel
theorem dX11_make_210 : decode cX11_make 210 = .ok (.if_icmp .eq 9, 3) := by decide +kernel
theorem dX11_make_213 : decode cX11_make 213 = .ok (.iload 10, 2) := by decide +kernel
theorem dX11_make_215 : decode cX11_make 215 = .ok (.iconst 1, 1) := by decide +kernel
theorem dX11_make_216 : decode cX11_make 216 = .ok (.iadd, 1) := by decide +kernel
theorem dX11_make_217 : decode cX11_make 217 = .ok (.istore 9, 2) := by decide +kernel
theorem dX11_make_219 : decode cX11_make 219 = .ok (.iinc 10 1, 3) := by decide +kernel
theorem dX11_make_222 : decode cX11_make 222 = .ok (.goto (-49), 3) := by decide +kernel
theorem dX11_make_225 : decode cX11_make 225 = .ok (.iload 9, 2) := by decide +kernel
theorem dX11_make_227 : decode cX11_make 227 = .ok (.iload 6, 2) := by decide +kernel
theorem dX11_make_229 : decode cX11_make 229 = .ok (.iadd, 1) := by decide +kernel
theorem dX11_make_230 : decode cX11_make 230 = .ok (.iload 7, 2) := by decide +kernel
theorem dX11_make_232 : decode cX11_make 232 = .ok (.if_icmp .le 24, 3) := by decide +kernel
theorem dX11_make_235 : decode cX11_make 235 = .ok (.iload 9, 2) := by decide +kernel
theorem dX11_make_237 : decode cX11_make 237 = .ok (.iload 6, 2) := by decide +kernel
theorem dX11_make_239 : decode cX11_make 239 = .ok (.iadd, 1) := by decide +kernel
theorem dX11_make_240 : decode cX11_make 240 = .ok (.iload 7, 2) := by decide +kernel
theorem dX11_make_242 : decode cX11_make 242 = .ok (.isub, 1) := by decide +kernel
theorem dX11_make_243 : decode cX11_make 243 = .ok (.bipush 16, 2) := by decide +kernel
theorem dX11_make_245 : decode cX11_make 245 = .ok (.aload_n 0, 1) := by decide +kernel
theorem dX11_make_246 : decode cX11_make 246 = .ok (.getfield 114, 3) := by decide +kernel
theorem dX11_make_249 : decode cX11_make 249 = .ok (.imul, 1) := by decide +kernel
theorem dX11_make_250 : decode cX11_make 250 = .ok (.invokestatic 238, 3) := by decide +kernel
theorem dX11_make_253 : decode cX11_make 253 = .ok (.goto 4, 3) := by decide +kernel
theorem dX11_make_256 : decode cX11_make 256 = .ok (.iconst 0, 1) := by decide +kernel
theorem dX11_make_257 : decode cX11_make 257 = .ok (.istore 10, 2) := by decide +kernel
theorem dX11_make_259 : decode cX11_make 259 = .ok (.aload_n 0, 1) := by decide +kernel
theorem dX11_make_260 : decode cX11_make 260 = .ok (.iload 10, 2) := by decide +kernel
theorem dX11_make_262 : decode cX11_make 262 = .ok (.iload_n 1, 1) := by decide +kernel
theorem dX11_make_263 : decode cX11_make 263 = .ok (.ifCond .eq 7, 3) := by decide +kernel
theorem dX11_make_266 : decode cX11_make 266 = .ok (.iconst 1, 1) := by decide +kernel
theorem dX11_make_267 : decode cX11_make 267 = .ok (.goto 4, 3) := by decide +kernel
theorem dX11_make_270 : decode cX11_make 270 = .ok (.iconst 0, 1) := by decide +kernel
theorem dX11_make_271 : decode cX11_make 271 = .ok (.iadd, 1) := by decide +kernel
theorem dX11_make_272 : decode cX11_make 272 = .ok (.aload_n 0, 1) := by decide +kernel
theorem dX11_make_273 : decode cX11_make 273 = .ok (.invokevirtual 315, 3) := by decide +kernel
theorem dX11_make_276 : decode cX11_make 276 = .ok (.if_icmp .le 7, 3) := by decide +kernel
theorem dX11_make_279 : decode cX11_make 279 = .ok (.iconst 1, 1) := by decide +kernel
theorem dX11_make_280 : decode cX11_make 280 = .ok (.goto 4, 3) := by decide +kernel
theorem dX11_make_283 : decode cX11_make 283 = .ok (.iconst 0, 1) := by decide +kernel
theorem dX11_make_284 : decode cX11_make 284 = .ok (.iconst 3, 1) := by decide +kernel
theorem dX11_make_285 : decode cX11_make 285 = .ok (.invokevirtual 287, 3) := by decide +kernel
theorem dX11_make_288 : decode cX11_make 288 = .ok (.ifCond .eq 5, 3) := by decide +kernel
theorem dX11_make_291 : decode cX11_make 291 = .ok (.iconst 0, 1) := by decide +kernel
theorem dX11_make_292 : decode cX11_make 292 = .ok (.ireturn, 1) := by decide +kernel
theorem dX11_make_293 : decode cX11_make 293 = .ok (.iload_n 1, 1) := by decide +kernel
theorem dX11_make_294 : decode cX11_make 294 = .ok (.ifCond .eq 10, 3) := by decide +kernel
theorem dX11_make_297 : decode cX11_make 297 = .ok (.aload_n 0, 1) := by decide +kernel
theorem dX11_make_298 : decode cX11_make 298 = .ok (.invokevirtual 375, 3) := by decide +kernel
theorem dX11_make_301 : decode cX11_make 301 = .ok (.goto 4, 3) := by decide +kernel
theorem dX11_make_304 : decode cX11_make 304 = .ok (.iconst 0, 1) := by decide +kernel
theorem dX11_make_305 : decode cX11_make 305 = .ok (.istore 11, 2) := by decide +kernel
theorem dX11_make_307 : decode cX11_make 307 = .ok (.iconst 0, 1) := by decide +kernel
theorem dX11_make_308 : decode cX11_make 308 = .ok (.istore 12, 2) := by decide +kernel
theorem dX11_make_310 : decode cX11_make 310 = .ok (.iload 12, 2) := by decide +kernel
theorem dX11_make_312 : decode cX11_make 312 = .ok (.iload 10, 2) := by decide +kernel
theorem dX11_make_314 : decode cX11_make 314 = .ok (.if_icmp .ge 56, 3) := by decide +kernel
theorem dX11_make_317 : decode cX11_make 317 = .ok (.aload_n 0, 1) := by decide +kernel
theorem dX11_make_318 : decode cX11_make 318 = .ok (.getfield 57, 3) := by decide +kernel
theorem dX11_make_321 : decode cX11_make 321 = .ok (.aload_n 0, 1) := by decide +kernel
theorem dX11_make_322 : decode cX11_make 322 = .ok (.getfield 174, 3) := by decide +kernel
theorem dX11_make_325 : decode cX11_make 325 = .ok (.aload_n 0, 1) := by decide +kernel
theorem dX11_make_326 : decode cX11_make 326 = .ok (.invokevirtual 375, 3) := by decide +kernel
theorem dX11_make_329 : decode cX11_make 329 = .ok (.iastore, 1) := by decide +kernel
theorem dX11_make_330 : decode cX11_make 330 = .ok (.aload_n 0, 1) := by decide +kernel
theorem dX11_make_331 : decode cX11_make 331 = .ok (.aload_n 0, 1) := by decide +kernel
theorem dX11_make_332 : decode cX11_make 332 = .ok (.getfield 57, 3) := by decide +kernel
theorem dX11_make_335 : decode cX11_make 335 = .ok (.aload_n 0, 1) := by decide +kernel
theorem dX11_make_336 : decode cX11_make 336 = .ok (.getfield 174, 3) := by decide +kernel
theorem dX11_make_339 : decode cX11_make 339 = .ok (.iconst 1, 1) := by decide +kernel
theorem dX11_make_340 : decode cX11_make 340 = .ok (.isub, 1) := by decide +kernel
theorem dX11_make_341 : decode cX11_make 341 = .ok (.iaload, 1) := by decide +kernel
theorem dX11_make_342 : decode cX11_make 342 = .ok (.aload_n 0, 1) := by decide +kernel
theorem dX11_make_343 : decode cX11_make 343 = .ok (.getfield 57, 3) := by decide +kernel
theorem dX11_make_346 : decode cX11_make 346 = .ok (.aload_n 0, 1) := by decide +kernel
theorem dX11_make_347 : decode cX11_make 347 = .ok (.getfield 174, 3) := by decide +kernel
theorem dX11_make_350 : decode cX11_make 350 = .ok (.iaload, 1) := by decide +kernel
theorem dX11_make_351 : decode cX11_make 351 = .ok (.invokevirtual 307, 3) := by decide +kernel
theorem dX11_make_354 : decode cX11_make 354 = .ok (.aload_n 0, 1) := by decide +kernel
theorem dX11_make_355 : decode cX11_make 355 = .ok (.dup, 1) := by decide +kernel
theorem dX11_make_356 : decode cX11_make 356 = .ok (.getfield 174, 3) := by decide +kernel
theorem dX11_make_359 : decode cX11_make 359 = .ok (.iconst 1, 1) := by decide +kernel
theorem dX11_make_360 : decode cX11_make 360 = .ok (.iadd, 1) := by decide +kernel
theorem dX11_make_361 : decode cX11_make 361 = .ok (.putfield 174, 3) := by decide +kernel
theorem dX11_make_364 : decode cX11_make 364 = .ok (.iinc 12 1, 3) := by decide +kernel
theorem dX11_make_367 : decode cX11_make 367 = .ok (.goto (-57), 3) := by decide +kernel
theorem dX11_make_370 : decode cX11_make 370 = .ok (.iload 9, 2) := by decide +kernel
theorem dX11_make_372 : decode cX11_make 372 = .ok (.istore 12, 2) := by decide +kernel
theorem dX11_make_374 : decode cX11_make 374 = .ok (.iload 12, 2) := by decide +kernel
theorem dX11_make_376 : decode cX11_make 376 = .ok (.iload 9, 2) := by decide +kernel
theorem dX11_make_378 : decode cX11_make 378 = .ok (.iload 6, 2) := by decide +kernel
theorem dX11_make_380 : decode cX11_make 380 = .ok (.iadd, 1) := by decide +kernel
theorem dX11_make_381 : decode cX11_make 381 = .ok (.if_icmp .ge 40, 3) := by decide +kernel
theorem dX11_make_384 : decode cX11_make 384 = .ok (.iconst 0, 1) := by decide +kernel
theorem dX11_make_385 : decode cX11_make 385 = .ok (.istore 13, 2) := by decide +kernel
theorem dX11_make_387 : decode cX11_make 387 = .ok (.iload 13, 2) := by decide +kernel
theorem dX11_make_389 : decode cX11_make 389 = .ok (.bipush 32, 2) := by decide +kernel
theorem dX11_make_391 : decode cX11_make 391 = .ok (.if_icmp .ge 24, 3) := by decide +kernel
theorem dX11_make_394 : decode cX11_make 394 = .ok (.aload_n 0, 1) := by decide +kernel
theorem dX11_make_395 : decode cX11_make 395 = .ok (.getfield 8, 3) := by decide +kernel
theorem dX11_make_398 : decode cX11_make 398 = .ok (.aload_n 0, 1) := by decide +kernel
theorem dX11_make_399 : decode cX11_make 399 = .ok (.iload 12, 2) := by decide +kernel
theorem dX11_make_401 : decode cX11_make 401 = .ok (.invokevirtual 186, 3) := by decide +kernel
theorem dX11_make_404 : decode cX11_make 404 = .ok (.iload 13, 2) := by decide +kernel
theorem dX11_make_406 : decode cX11_make 406 = .ok (.iadd, 1) := by decide +kernel
theorem dX11_make_407 : decode cX11_make 407 = .ok (.iconst 0, 1) := by decide +kernel
theorem dX11_make_408 : decode cX11_make 408 = .ok (.bastore, 1) := by decide +kernel
theorem dX11_make_409 : decode cX11_make 409 = .ok (.iinc 13 1, 3) := by decide +kernel
theorem dX11_make_412 : decode cX11_make 412 = .ok (.goto (-25), 3) := by decide +kernel
theorem dX11_make_415 : decode cX11_make 415 = .ok (.iinc 12 1, 3) := by decide +kernel
theorem dX11_make_418 : decode cX11_make 418 = .ok (.goto (-44), 3) := by decide +kernel
theorem dX11_make_421 : decode cX11_make 421 = .ok (.aload_n 0, 1) := by decide +kernel
theorem dX11_make_422 : decode cX11_make 422 = .ok (.iload 9, 2) := by decide +kernel
theorem dX11_make_424 : decode cX11_make 424 = .ok (.iload 6, 2) := by decide +kernel
theorem dX11_make_426 : decode cX11_make 426 = .ok (.iadd, 1) := by decide +kernel
theorem dX11_make_427 : decode cX11_make 427 = .ok (.iconst 1, 1) := by decide +kernel
theorem dX11_make_428 : decode cX11_make 428 = .ok (.isub, 1) := by decide +kernel
theorem dX11_make_429 : decode cX11_make 429 = .ok (.invokevirtual 186, 3) := by decide +kernel
theorem dX11_make_432 : decode cX11_make 432 = .ok (.istore 12, 2) := by decide +kernel
theorem dX11_make_434 : decode cX11_make 434 = .ok (.iconst 0, 1) := by decide +kernel
theorem dX11_make_435 : decode cX11_make 435 = .ok (.istore 13, 2) := by decide +kernel
theorem dX11_make_437 : decode cX11_make 437 = .ok (.iload 13, 2) := by decide +kernel
theorem dX11_make_439 : decode cX11_make 439 = .ok (.bipush 11, 2) := by decide +kernel
theorem dX11_make_441 : decode cX11_make 441 = .ok (.if_icmp .ge 27, 3) := by decide +kernel
theorem dX11_make_444 : decode cX11_make 444 = .ok (.aload_n 0, 1) := by decide +kernel
theorem dX11_make_445 : decode cX11_make 445 = .ok (.getfield 8, 3) := by decide +kernel
theorem dX11_make_448 : decode cX11_make 448 = .ok (.iload 12, 2) := by decide +kernel
theorem dX11_make_450 : decode cX11_make 450 = .ok (.iload 13, 2) := by decide +kernel
theorem dX11_make_452 : decode cX11_make 452 = .ok (.iadd, 1) := by decide +kernel
theorem dX11_make_453 : decode cX11_make 453 = .ok (.aload_n 0, 1) := by decide +kernel
theorem dX11_make_454 : decode cX11_make 454 = .ok (.getfield 63, 3) := by decide +kernel
theorem dX11_make_457 : decode cX11_make 457 = .ok (.iload 13, 2) := by decide +kernel
theorem dX11_make_459 : decode cX11_make 459 = .ok (.iaload, 1) := by decide +kernel
theorem dX11_make_460 : decode cX11_make 460 = .ok (.i2b, 1) := by decide +kernel
theorem dX11_make_461 : decode cX11_make 461 = .ok (.bastore, 1) := by decide +kernel
theorem dX11_make_462 : decode cX11_make 462 = .ok (.iinc 13 1, 3) := by decide +kernel
theorem dX11_make_465 : decode cX11_make 465 = .ok (.goto (-28), 3) := by decide +kernel
theorem dX11_make_468 : decode cX11_make 468 = .ok (.iload 9, 2) := by decide +kernel
theorem dX11_make_470 : decode cX11_make 470 = .ok (.istore 13, 2) := by decide +kernel
theorem dX11_make_472 : decode cX11_make 472 = .ok (.iload 13, 2) := by decide +kernel
theorem dX11_make_474 : decode cX11_make 474 = .ok (.iload 9, 2) := by decide +kernel
theorem dX11_make_476 : decode cX11_make 476 = .ok (.iload 6, 2) := by decide +kernel
theorem dX11_make_478 : decode cX11_make 478 = .ok (.iadd, 1) := by decide +kernel
theorem dX11_make_479 : decode cX11_make 479 = .ok (.iconst 1, 1) := by decide +kernel
theorem dX11_make_480 : decode cX11_make 480 = .ok (.isub, 1) := by decide +kernel
theorem dX11_make_481 : decode cX11_make 481 = .ok (.if_icmp .ge 47, 3) := by decide +kernel
theorem dX11_make_484 : decode cX11_make 484 = .ok (.aload_n 0, 1) := by decide +kernel
theorem dX11_make_485 : decode cX11_make 485 = .ok (.aload_n 0, 1) := by decide +kernel
theorem dX11_make_486 : decode cX11_make 486 = .ok (.iload 13, 2) := by decide +kernel
theorem dX11_make_488 : decode cX11_make 488 = .ok (.invokevirtual 186, 3) := by decide +kernel
theorem dX11_make_491 : decode cX11_make 491 = .ok (.iload 6, 2) := by decide +kernel
theorem dX11_make_493 : decode cX11_make 493 = .ok (.iconst 1, 1) := by decide +kernel
theorem dX11_make_494 : decode cX11_make 494 = .ok (.isub, 1) := by decide +kernel
theorem dX11_make_495 : decode cX11_make 495 = .ok (.iload 13, 2) := by decide +kernel
theorem dX11_make_497 : decode cX11_make 497 = .ok (.iload 9, 2) := by decide +kernel
theorem dX11_make_499 : decode cX11_make 499 = .ok (.isub, 1) := by decide +kernel
theorem dX11_make_500 : decode cX11_make 500 = .ok (.isub, 1) := by decide +kernel
theorem dX11_make_501 : decode cX11_make 501 = .ok (.iload 13, 2) := by decide +kernel
theorem dX11_make_503 : decode cX11_make 503 = .ok (.iload 9, 2) := by decide +kernel
theorem dX11_make_505 : decode cX11_make 505 = .ok (.if_icmp .ne 7, 3) := by decide +kernel
theorem dX11_make_508 : decode cX11_make 508 = .ok (.iconst 1, 1) := by decide +kernel
theorem dX11_make_509 : decode cX11_make 509 = .ok (.goto 4, 3) := by decide +kernel
theorem dX11_make_512 : decode cX11_make 512 = .ok (.iconst 0, 1) := by decide +kernel
theorem dX11_make_513 : decode cX11_make 513 = .ok (.aload_n 0, 1) := by decide +kernel
theorem dX11_make_514 : decode cX11_make 514 = .ok (.iload 12, 2) := by decide +kernel
theorem dX11_make_516 : decode cX11_make 516 = .ok (.invokevirtual 257, 3) := by decide +kernel
theorem dX11_make_519 : decode cX11_make 519 = .ok (.invokevirtual 378, 3) := by decide +kernel
theorem dX11_make_522 : decode cX11_make 522 = .ok (.iinc 13 1, 3) := by decide +kernel
theorem dX11_make_525 : decode cX11_make 525 = .ok (.goto (-53), 3) := by decide +kernel
theorem dX11_make_528 : decode cX11_make 528 = .ok (.aload_n 0, 1) := by decide +kernel
theorem dX11_make_529 : decode cX11_make 529 = .ok (.iload 12, 2) := by decide +kernel
theorem dX11_make_531 : decode cX11_make 531 = .ok (.bipush 11, 2) := by decide +kernel
theorem dX11_make_533 : decode cX11_make 533 = .ok (.iadd, 1) := by decide +kernel
theorem dX11_make_534 : decode cX11_make 534 = .ok (.iconst 1, 1) := by decide +kernel
theorem dX11_make_535 : decode cX11_make 535 = .ok (.iload_n 1, 1) := by decide +kernel
theorem dX11_make_536 : decode cX11_make 536 = .ok (.ifCond .eq 9, 3) := by decide +kernel
theorem dX11_make_539 : decode cX11_make 539 = .ok (.ldc2_w 382, 3) := by decide +kernel
theorem dX11_make_542 : decode cX11_make 542 = .ok (.goto 6, 3) := by decide +kernel
theorem dX11_make_545 : decode cX11_make 545 = .ok (.ldc2_w 384, 3) := by decide +kernel
theorem dX11_make_548 : decode cX11_make 548 = .ok (.invokevirtual 104, 3) := by decide +kernel
theorem dX11_make_551 : decode cX11_make 551 = .ok (.aload_n 0, 1) := by decide +kernel
theorem dX11_make_552 : decode cX11_make 552 = .ok (.iload 12, 2) := by decide +kernel
theorem dX11_make_554 : decode cX11_make 554 = .ok (.bipush 24, 2) := by decide +kernel
theorem dX11_make_556 : decode cX11_make 556 = .ok (.iadd, 1) := by decide +kernel
theorem dX11_make_557 : decode cX11_make 557 = .ok (.iconst 2, 1) := by decide +kernel
theorem dX11_make_558 : decode cX11_make 558 = .ok (.ldc2_w 313, 3) := by decide +kernel
theorem dX11_make_561 : decode cX11_make 561 = .ok (.invokevirtual 104, 3) := by decide +kernel
theorem dX11_make_564 : decode cX11_make 564 = .ok (.aload_n 0, 1) := by decide +kernel
theorem dX11_make_565 : decode cX11_make 565 = .ok (.iload 12, 2) := by decide +kernel
theorem dX11_make_567 : decode cX11_make 567 = .ok (.bipush 20, 2) := by decide +kernel
theorem dX11_make_569 : decode cX11_make 569 = .ok (.iadd, 1) := by decide +kernel
theorem dX11_make_570 : decode cX11_make 570 = .ok (.iconst 2, 1) := by decide +kernel
theorem dX11_make_571 : decode cX11_make 571 = .ok (.iload 11, 2) := by decide +kernel
theorem dX11_make_573 : decode cX11_make 573 = .ok (.bipush 16, 2) := by decide +kernel
theorem dX11_make_575 : decode cX11_make 575 = .ok (.ishr, 1) := by decide +kernel
theorem dX11_make_576 : decode cX11_make 576 = .ok (.i2l, 1) := by decide +kernel
theorem dX11_make_577 : decode cX11_make 577 = .ok (.invokevirtual 104, 3) := by decide +kernel
theorem dX11_make_580 : decode cX11_make 580 = .ok (.aload_n 0, 1) := by decide +kernel
theorem dX11_make_581 : decode cX11_make 581 = .ok (.iload 12, 2) := by decide +kernel
theorem dX11_make_583 : decode cX11_make 583 = .ok (.bipush 26, 2) := by decide +kernel
theorem dX11_make_585 : decode cX11_make 585 = .ok (.iadd, 1) := by decide +kernel
theorem dX11_make_586 : decode cX11_make 586 = .ok (.iconst 2, 1) := by decide +kernel
theorem dX11_make_587 : decode cX11_make 587 = .ok (.iload 11, 2) := by decide +kernel
theorem dX11_make_589 : decode cX11_make 589 = .ok (.i2l, 1) := by decide +kernel
theorem dX11_make_590 : decode cX11_make 590 = .ok (.invokevirtual 104, 3) := by decide +kernel
theorem dX11_make_593 : decode cX11_make 593 = .ok (.iload 9, 2) := by decide +kernel
theorem dX11_make_595 : decode cX11_make 595 = .ok (.iload 6, 2) := by decide +kernel
theorem dX11_make_597 : decode cX11_make 597 = .ok (.iadd, 1) := by decide +kernel
theorem dX11_make_598 : decode cX11_make 598 = .ok (.istore 13, 2) := by decide +kernel
theorem dX11_make_600 : decode cX11_make 600 = .ok (.iload 13, 2) := by decide +kernel
theorem dX11_make_602 : decode cX11_make 602 = .ok (.iload 8, 2) := by decide +kernel
theorem dX11_make_604 : decode cX11_make 604 = .ok (.if_icmp .lt 22, 3) := by decide +kernel
theorem dX11_make_607 : decode cX11_make 607 = .ok (.iload 13, 2) := by decide +kernel
theorem dX11_make_609 : decode cX11_make 609 = .ok (.iload 7, 2) := by decide +kernel
theorem dX11_make_611 : decode cX11_make 611 = .ok (.if_icmp .ge 15, 3) := by decide +kernel
theorem dX11_make_614 : decode cX11_make 614 = .ok (.aload_n 0, 1) := by decide +kernel
theorem dX11_make_615 : decode cX11_make 615 = .ok (.getfield 8, 3) := by decide +kernel
theorem dX11_make_618 : decode cX11_make 618 = .ok (.aload_n 0, 1) := by decide +kernel
theorem dX11_make_619 : decode cX11_make 619 = .ok (.iload 13, 2) := by decide +kernel
theorem dX11_make_621 : decode cX11_make 621 = .ok (.invokevirtual 186, 3) := by decide +kernel
theorem dX11_make_624 : decode cX11_make 624 = .ok (.iconst 0, 1) := by decide +kernel
theorem dX11_make_625 : decode cX11_make 625 = .ok (.bastore, 1) := by decide +kernel
theorem dX11_make_626 : decode cX11_make 626 = .ok (.iconst 0, 1) := by decide +kernel
theorem dX11_make_627 : decode cX11_make 627 = .ok (.istore 14, 2) := by decide +kernel
theorem dX11_make_629 : decode cX11_make 629 = .ok (.iload 14, 2) := by decide +kernel
theorem dX11_make_631 : decode cX11_make 631 = .ok (.iconst 2, 1) := by decide +kernel
theorem dX11_make_632 : decode cX11_make 632 = .ok (.if_icmp .ge 123, 3) := by decide +kernel
theorem dX11_make_635 : decode cX11_make 635 = .ok (.iload_n 1, 1) := by decide +kernel
theorem dX11_make_636 : decode cX11_make 636 = .ok (.ifCond .eq 119, 3) := by decide +kernel
theorem dX11_make_639 : decode cX11_make 639 = .ok (.aload_n 0, 1) := by decide +kernel
theorem dX11_make_640 : decode cX11_make 640 = .ok (.iload 11, 2) := by decide +kernel
theorem dX11_make_642 : decode cX11_make 642 = .ok (.invokevirtual 135, 3) := by decide +kernel
theorem dX11_make_645 : decode cX11_make 645 = .ok (.bipush 32, 2) := by decide +kernel
theorem dX11_make_647 : decode cX11_make 647 = .ok (.iload 14, 2) := by decide +kernel
theorem dX11_make_649 : decode cX11_make 649 = .ok (.imul, 1) := by decide +kernel
theorem dX11_make_650 : decode cX11_make 650 = .ok (.iadd, 1) := by decide +kernel
theorem dX11_make_651 : decode cX11_make 651 = .ok (.istore 15, 2) := by decide +kernel
theorem dX11_make_653 : decode cX11_make 653 = .ok (.iload 14, 2) := by decide +kernel
theorem dX11_make_655 : decode cX11_make 655 = .ok (.ifCond .ne 8, 3) := by decide +kernel
theorem dX11_make_658 : decode cX11_make 658 = .ok (.iload 11, 2) := by decide +kernel
theorem dX11_make_660 : decode cX11_make 660 = .ok (.goto 7, 3) := by decide +kernel
theorem dX11_make_663 : decode cX11_make 663 = .ok (.aload_n 0, 1) := by decide +kernel
theorem dX11_make_664 : decode cX11_make 664 = .ok (.getfield 281, 3) := by decide +kernel
theorem dX11_make_667 : decode cX11_make 667 = .ok (.istore 16, 2) := by decide +kernel
theorem dX11_make_669 : decode cX11_make 669 = .ok (.iconst 0, 1) := by decide +kernel
theorem dX11_make_670 : decode cX11_make 670 = .ok (.istore 17, 2) := by decide +kernel
theorem dX11_make_672 : decode cX11_make 672 = .ok (.iload 17, 2) := by decide +kernel
theorem dX11_make_674 : decode cX11_make 674 = .ok (.bipush 11, 2) := by decide +kernel
theorem dX11_make_676 : decode cX11_make 676 = .ok (.if_icmp .ge 34, 3) := by decide +kernel
theorem dX11_make_679 : decode cX11_make 679 = .ok (.aload_n 0, 1) := by decide +kernel
theorem dX11_make_680 : decode cX11_make 680 = .ok (.getfield 8, 3) := by decide +kernel
theorem dX11_make_683 : decode cX11_make 683 = .ok (.iload 15, 2) := by decide +kernel
theorem dX11_make_685 : decode cX11_make 685 = .ok (.iload 17, 2) := by decide +kernel
theorem dX11_make_687 : decode cX11_make 687 = .ok (.iadd, 1) := by decide +kernel
theorem dX11_make_688 : decode cX11_make 688 = .ok (.iload 17, 2) := by decide +kernel
theorem dX11_make_690 : decode cX11_make 690 = .ok (.iload 14, 2) := by decide +kernel
theorem dX11_make_692 : decode cX11_make 692 = .ok (.if_icmp .gt 8, 3) := by decide +kernel
theorem dX11_make_695 : decode cX11_make 695 = .ok (.bipush 46, 2) := by decide +kernel
theorem dX11_make_697 : decode cX11_make 697 = .ok (.goto 5, 3) := by decide +kernel
theorem dX11_make_700 : decode cX11_make 700 = .ok (.bipush 32, 2) := by decide +kernel
theorem dX11_make_702 : decode cX11_make 702 = .ok (.i2b, 1) := by decide +kernel
theorem dX11_make_703 : decode cX11_make 703 = .ok (.bastore, 1) := by decide +kernel
theorem dX11_make_704 : decode cX11_make 704 = .ok (.iinc 17 1, 3) := by decide +kernel
theorem dX11_make_707 : decode cX11_make 707 = .ok (.goto (-35), 3) := by decide +kernel
theorem dX11_make_710 : decode cX11_make 710 = .ok (.aload_n 0, 1) := by decide +kernel
theorem dX11_make_711 : decode cX11_make 711 = .ok (.iload 15, 2) := by decide +kernel
theorem dX11_make_713 : decode cX11_make 713 = .ok (.bipush 11, 2) := by decide +kernel
theorem dX11_make_715 : decode cX11_make 715 = .ok (.iadd, 1) := by decide +kernel
theorem dX11_make_716 : decode cX11_make 716 = .ok (.iconst 1, 1) := by decide +kernel
theorem dX11_make_717 : decode cX11_make 717 = .ok (.ldc2_w 386, 3) := by decide +kernel
theorem dX11_make_720 : decode cX11_make 720 = .ok (.invokevirtual 104, 3) := by decide +kernel
theorem dX11_make_723 : decode cX11_make 723 = .ok (.aload_n 0, 1) := by decide +kernel
theorem dX11_make_724 : decode cX11_make 724 = .ok (.iload 15, 2) := by decide +kernel
theorem dX11_make_726 : decode cX11_make 726 = .ok (.bipush 24, 2) := by decide +kernel
theorem dX11_make_728 : decode cX11_make 728 = .ok (.iadd, 1) := by decide +kernel
theorem dX11_make_729 : decode cX11_make 729 = .ok (.iconst 2, 1) := by decide +kernel
theorem dX11_make_730 : decode cX11_make 730 = .ok (.ldc2_w 313, 3) := by decide +kernel
theorem dX11_make_733 : decode cX11_make 733 = .ok (.invokevirtual 104, 3) := by decide +kernel
theorem dX11_make_736 : decode cX11_make 736 = .ok (.aload_n 0, 1) := by decide +kernel
theorem dX11_make_737 : decode cX11_make 737 = .ok (.iload 15, 2) := by decide +kernel
theorem dX11_make_739 : decode cX11_make 739 = .ok (.bipush 26, 2) := by decide +kernel
theorem dX11_make_741 : decode cX11_make 741 = .ok (.iadd, 1) := by decide +kernel
theorem dX11_make_742 : decode cX11_make 742 = .ok (.iconst 2, 1) := by decide +kernel
theorem dX11_make_743 : decode cX11_make 743 = .ok (.iload 16, 2) := by decide +kernel
theorem dX11_make_745 : decode cX11_make 745 = .ok (.i2l, 1) := by decide +kernel
theorem dX11_make_746 : decode cX11_make 746 = .ok (.invokevirtual 104, 3) := by decide +kernel
theorem dX11_make_749 : decode cX11_make 749 = .ok (.iinc 14 1, 3) := by decide +kernel
theorem dX11_make_752 : decode cX11_make 752 = .ok (.goto (-123), 3) := by decide +kernel
theorem dX11_make_755 : decode cX11_make 755 = .ok (.aload_n 0, 1) := by decide +kernel
theorem dX11_make_756 : decode cX11_make 756 = .ok (.invokevirtual 278, 3) := by decide +kernel
theorem dX11_make_759 : decode cX11_make 759 = .ok (.aload_n 0, 1) := by decide +kernel
theorem dX11_make_760 : decode cX11_make 760 = .ok (.invokevirtual 275, 3) := by decide +kernel
theorem dX11_make_763 : decode cX11_make 763 = .ok (.aload_n 0, 1) := by decide +kernel
theorem dX11_make_764 : decode cX11_make 764 = .ok (.invokevirtual 319, 3) := by decide +kernel
theorem dX11_make_767 : decode cX11_make 767 = .ok (.istore 4, 2) := by decide +kernel
theorem dX11_make_769 : decode cX11_make 769 = .ok (.iconst 0, 1) := by decide +kernel
theorem dX11_make_770 : decode cX11_make 770 = .ok (.istore 14, 2) := by decide +kernel
theorem dX11_make_772 : decode cX11_make 772 = .ok (.aload_n 0, 1) := by decide +kernel
theorem dX11_make_773 : decode cX11_make 773 = .ok (.getfield 28, 3) := by decide +kernel
theorem dX11_make_776 : decode cX11_make 776 = .ok (.aload_n 0, 1) := by decide +kernel
theorem dX11_make_777 : decode cX11_make 777 = .ok (.getfield 40, 3) := by decide +kernel
theorem dX11_make_780 : decode cX11_make 780 = .ok (.iload 4, 2) := by decide +kernel
theorem dX11_make_782 : decode cX11_make 782 = .ok (.iaload, 1) := by decide +kernel
theorem dX11_make_783 : decode cX11_make 783 = .ok (.iload 14, 2) := by decide +kernel
theorem dX11_make_785 : decode cX11_make 785 = .ok (.iadd, 1) := by decide +kernel
theorem dX11_make_786 : decode cX11_make 786 = .ok (.iaload, 1) := by decide +kernel
theorem dX11_make_787 : decode cX11_make 787 = .ok (.iload 9, 2) := by decide +kernel
theorem dX11_make_789 : decode cX11_make 789 = .ok (.iload 6, 2) := by decide +kernel
theorem dX11_make_791 : decode cX11_make 791 = .ok (.iadd, 1) := by decide +kernel
theorem dX11_make_792 : decode cX11_make 792 = .ok (.iconst 1, 1) := by decide +kernel
theorem dX11_make_793 : decode cX11_make 793 = .ok (.isub, 1) := by decide +kernel
theorem dX11_make_794 : decode cX11_make 794 = .ok (.if_icmp .eq 9, 3) := by decide +kernel
theorem dX11_make_797 : decode cX11_make 797 = .ok (.iinc 14 1, 3) := by decide +kernel
theorem dX11_make_800 : decode cX11_make 800 = .ok (.goto (-28), 3) := by decide +kernel
theorem dX11_make_803 : decode cX11_make 803 = .ok (.iload 14, 2) := by decide +kernel
theorem dX11_make_805 : decode cX11_make 805 = .ok (.ireturn, 1) := by decide +kernel
theorem dX11_layPart_0 : decode cX11_layPart 0 = .ok (.aload_n 0, 1) := by decide +kernel
theorem dX11_layPart_1 : decode cX11_layPart 1 = .ok (.iload_n 1, 1) := by decide +kernel
theorem dX11_layPart_2 : decode cX11_layPart 2 = .ok (.iconst 1, 1) := by decide +kernel
theorem dX11_layPart_3 : decode cX11_layPart 3 = .ok (.iload_n 2, 1) := by decide +kernel
theorem dX11_layPart_4 : decode cX11_layPart 4 = .ok (.iload_n 3, 1) := by decide +kernel
theorem dX11_layPart_5 : decode cX11_layPart 5 = .ok (.ifCond .eq 8, 3) := by decide +kernel
theorem dX11_layPart_8 : decode cX11_layPart 8 = .ok (.bipush 64, 2) := by decide +kernel
theorem dX11_layPart_10 : decode cX11_layPart 10 = .ok (.goto 4, 3) := by decide +kernel
theorem dX11_layPart_13 : decode cX11_layPart 13 = .ok (.iconst 0, 1) := by decide +kernel
theorem dX11_layPart_14 : decode cX11_layPart 14 = .ok (.iadd, 1) := by decide +kernel
theorem dX11_layPart_15 : decode cX11_layPart 15 = .ok (.i2l, 1) := by decide +kernel
theorem dX11_layPart_16 : decode cX11_layPart 16 = .ok (.invokevirtual 104, 3) := by decide +kernel
theorem dX11_layPart_19 : decode cX11_layPart 19 = .ok (.aload_n 0, 1) := by decide +kernel
theorem dX11_layPart_20 : decode cX11_layPart 20 = .ok (.iload_n 1, 1) := by decide +kernel
theorem dX11_layPart_21 : decode cX11_layPart 21 = .ok (.bipush 11, 2) := by decide +kernel
theorem dX11_layPart_23 : decode cX11_layPart 23 = .ok (.iadd, 1) := by decide +kernel
theorem dX11_layPart_24 : decode cX11_layPart 24 = .ok (.iconst 1, 1) := by decide +kernel
theorem dX11_layPart_25 : decode cX11_layPart 25 = .ok (.ldc2_w 388, 3) := by decide +kernel
theorem dX11_layPart_28 : decode cX11_layPart 28 = .ok (.invokevirtual 104, 3) := by decide +kernel
theorem dX11_layPart_31 : decode cX11_layPart 31 = .ok (.aload_n 0, 1) := by decide +kernel
theorem dX11_layPart_32 : decode cX11_layPart 32 = .ok (.iload_n 1, 1) := by decide +kernel
theorem dX11_layPart_33 : decode cX11_layPart 33 = .ok (.bipush 13, 2) := by decide +kernel
theorem dX11_layPart_35 : decode cX11_layPart 35 = .ok (.iadd, 1) := by decide +kernel
theorem dX11_layPart_36 : decode cX11_layPart 36 = .ok (.iconst 1, 1) := by decide +kernel
theorem dX11_layPart_37 : decode cX11_layPart 37 = .ok (.iload 4, 2) := by decide +kernel
theorem dX11_layPart_39 : decode cX11_layPart 39 = .ok (.i2l, 1) := by decide +kernel
theorem dX11_layPart_40 : decode cX11_layPart 40 = .ok (.invokevirtual 104, 3) := by decide +kernel
theorem dX11_layPart_43 : decode cX11_layPart 43 = .ok (.iconst 0, 1) := by decide +kernel
theorem dX11_layPart_44 : decode cX11_layPart 44 = .ok (.istore 5, 2) := by decide +kernel
theorem dX11_layPart_46 : decode cX11_layPart 46 = .ok (.iload 5, 2) := by decide +kernel
theorem dX11_layPart_48 : decode cX11_layPart 48 = .ok (.bipush 13, 2) := by decide +kernel
theorem dX11_layPart_50 : decode cX11_layPart 50 = .ok (.if_icmp .ge 101, 3) := by decide +kernel
theorem dX11_layPart_53 : decode cX11_layPart 53 = .ok (.bipush 13, 2) := by decide +kernel
theorem dX11_layPart_55 : decode cX11_layPart 55 = .ok (.iload_n 2, 1) := by decide +kernel
theorem dX11_layPart_56 : decode cX11_layPart 56 = .ok (.iconst 1, 1) := by decide +kernel
theorem dX11_layPart_57 : decode cX11_layPart 57 = .ok (.isub, 1) := by decide +kernel
theorem dX11_layPart_58 : decode cX11_layPart 58 = .ok (.imul, 1) := by decide +kernel
theorem dX11_layPart_59 : decode cX11_layPart 59 = .ok (.iload 5, 2) := by decide +kernel
theorem dX11_layPart_61 : decode cX11_layPart 61 = .ok (.iadd, 1) := by decide +kernel
theorem dX11_layPart_62 : decode cX11_layPart 62 = .ok (.istore 6, 2) := by decide +kernel
theorem dX11_layPart_64 : decode cX11_layPart 64 = .ok (.aload_n 0, 1) := by decide +kernel
theorem dX11_layPart_65 : decode cX11_layPart 65 = .ok (.iload_n 1, 1) := by decide +kernel
theorem dX11_layPart_66 : decode cX11_layPart 66 = .ok (.iload 5, 2) := by decide +kernel
theorem dX11_layPart_68 : decode cX11_layPart 68 = .ok (.iconst 5, 1) := by decide +kernel
theorem dX11_layPart_69 : decode cX11_layPart 69 = .ok (.if_icmp .ge 12, 3) := by decide +kernel
theorem dX11_layPart_72 : decode cX11_layPart 72 = .ok (.iconst 1, 1) := by decide +kernel
theorem dX11_layPart_73 : decode cX11_layPart 73 = .ok (.iconst 2, 1) := by decide +kernel
theorem dX11_layPart_74 : decode cX11_layPart 74 = .ok (.iload 5, 2) := by decide +kernel
theorem dX11_layPart_76 : decode cX11_layPart 76 = .ok (.imul, 1) := by decide +kernel
theorem dX11_layPart_77 : decode cX11_layPart 77 = .ok (.iadd, 1) := by decide +kernel
theorem dX11_layPart_78 : decode cX11_layPart 78 = .ok (.goto 26, 3) := by decide +kernel
theorem dX11_layPart_81 : decode cX11_layPart 81 = .ok (.iload 5, 2) := by decide +kernel
theorem dX11_layPart_83 : decode cX11_layPart 83 = .ok (.bipush 11, 2) := by decide +kernel
theorem dX11_layPart_85 : decode cX11_layPart 85 = .ok (.if_icmp .ge 12, 3) := by decide +kernel
theorem dX11_layPart_88 : decode cX11_layPart 88 = .ok (.iconst 4, 1) := by decide +kernel
theorem dX11_layPart_89 : decode cX11_layPart 89 = .ok (.iconst 2, 1) := by decide +kernel
theorem dX11_layPart_90 : decode cX11_layPart 90 = .ok (.iload 5, 2) := by decide +kernel
theorem dX11_layPart_92 : decode cX11_layPart 92 = .ok (.imul, 1) := by decide +kernel
theorem dX11_layPart_93 : decode cX11_layPart 93 = .ok (.iadd, 1) := by decide +kernel
theorem dX11_layPart_94 : decode cX11_layPart 94 = .ok (.goto 10, 3) := by decide +kernel
theorem dX11_layPart_97 : decode cX11_layPart 97 = .ok (.bipush 6, 2) := by decide +kernel
theorem dX11_layPart_99 : decode cX11_layPart 99 = .ok (.iconst 2, 1) := by decide +kernel
theorem dX11_layPart_100 : decode cX11_layPart 100 = .ok (.iload 5, 2) := by decide +kernel
theorem dX11_layPart_102 : decode cX11_layPart 102 = .ok (.imul, 1) := by decide +kernel
theorem dX11_layPart_103 : decode cX11_layPart 103 = .ok (.iadd, 1) := by decide +kernel
theorem dX11_layPart_104 : decode cX11_layPart 104 = .ok (.iadd, 1) := by decide +kernel
theorem dX11_layPart_105 : decode cX11_layPart 105 = .ok (.iconst 2, 1) := by decide +kernel
theorem dX11_layPart_106 : decode cX11_layPart 106 = .ok (.iload 6, 2) := by decide +kernel
theorem dX11_layPart_108 : decode cX11_layPart 108 = .ok (.aload_n 0, 1) := by decide +kernel
theorem dX11_layPart_109 : decode cX11_layPart 109 = .ok (.getfield 200, 3) := by decide +kernel
theorem dX11_layPart_112 : decode cX11_layPart 112 = .ok (.if_icmp .ge 14, 3) := by decide +kernel
theorem dX11_layPart_115 : decode cX11_layPart 115 = .ok (.aload_n 0, 1) := by decide +kernel
theorem dX11_layPart_116 : decode cX11_layPart 116 = .ok (.getfield 60, 3) := by decide +kernel
theorem dX11_layPart_119 : decode cX11_layPart 119 = .ok (.iload 6, 2) := by decide +kernel
theorem dX11_layPart_121 : decode cX11_layPart 121 = .ok (.caload, 1) := by decide +kernel
theorem dX11_layPart_122 : decode cX11_layPart 122 = .ok (.i2l, 1) := by decide +kernel
theorem dX11_layPart_123 : decode cX11_layPart 123 = .ok (.goto 19, 3) := by decide +kernel
theorem dX11_layPart_126 : decode cX11_layPart 126 = .ok (.iload 6, 2) := by decide +kernel
theorem dX11_layPart_128 : decode cX11_layPart 128 = .ok (.aload_n 0, 1) := by decide +kernel
theorem dX11_layPart_129 : decode cX11_layPart 129 = .ok (.getfield 200, 3) := by decide +kernel
theorem dX11_layPart_132 : decode cX11_layPart 132 = .ok (.if_icmp .ne 7, 3) := by decide +kernel
theorem dX11_layPart_135 : decode cX11_layPart 135 = .ok (.lconst 0, 1) := by decide +kernel
theorem dX11_layPart_136 : decode cX11_layPart 136 = .ok (.goto 6, 3) := by decide +kernel
theorem dX11_layPart_139 : decode cX11_layPart 139 = .ok (.ldc2_w 390, 3) := by decide +kernel
theorem dX11_layPart_142 : decode cX11_layPart 142 = .ok (.invokevirtual 104, 3) := by decide +kernel
theorem dX11_layPart_145 : decode cX11_layPart 145 = .ok (.iinc 5 1, 3) := by decide +kernel
theorem dX11_layPart_148 : decode cX11_layPart 148 = .ok (.goto (-102), 3) := by decide +kernel
theorem dX11_layPart_151 : decode cX11_layPart 151 = .ok (.return_, 1) := by decide +kernel
theorem dX11_append_0 : decode cX11_append 0 = .ok (.aload_n 0, 1) := by decide +kernel
theorem dX11_append_1 : decode cX11_append 1 = .ok (.getfield 24, 3) := by decide +kernel
theorem dX11_append_4 : decode cX11_append 4 = .ok (.iload_n 1, 1) := by decide +kernel
theorem dX11_append_5 : decode cX11_append 5 = .ok (.iaload, 1) := by decide +kernel
theorem dX11_append_6 : decode cX11_append 6 = .ok (.istore 5, 2) := by decide +kernel
theorem dX11_append_8 : decode cX11_append 8 = .ok (.aload_n 0, 1) := by decide +kernel
theorem dX11_append_9 : decode cX11_append 9 = .ok (.iload 5, 2) := by decide +kernel
theorem dX11_append_11 : decode cX11_append 11 = .ok (.bipush 28, 2) := by decide +kernel
theorem dX11_append_13 : decode cX11_append 13 = .ok (.iadd, 1) := by decide +kernel
theorem dX11_append_14 : decode cX11_append 14 = .ok (.invokevirtual 96, 3) := by decide +kernel
theorem dX11_append_17 : decode cX11_append 17 = .ok (.istore 6, 2) := by decide +kernel
theorem dX11_append_19 : decode cX11_append 19 = .ok (.sipush 512, 3) := by decide +kernel
theorem dX11_append_22 : decode cX11_append 22 = .ok (.aload_n 0, 1) := by decide +kernel
theorem dX11_append_23 : decode cX11_append 23 = .ok (.getfield 114, 3) := by decide +kernel
theorem dX11_append_26 : decode cX11_append 26 = .ok (.imul, 1) := by decide +kernel
theorem dX11_append_27 : decode cX11_append 27 = .ok (.istore 7, 2) := by decide +kernel
theorem dX11_append_29 : decode cX11_append 29 = .ok (.iload 6, 2) := by decide +kernel
theorem dX11_append_31 : decode cX11_append 31 = .ok (.iload_n 2, 1) := by decide +kernel
theorem dX11_append_32 : decode cX11_append 32 = .ok (.iadd, 1) := by decide +kernel
theorem dX11_append_33 : decode cX11_append 33 = .ok (.iload 7, 2) := by decide +kernel
theorem dX11_append_35 : decode cX11_append 35 = .ok (.invokestatic 238, 3) := by decide +kernel
theorem dX11_append_38 : decode cX11_append 38 = .ok (.iload 6, 2) := by decide +kernel
theorem dX11_append_40 : decode cX11_append 40 = .ok (.iload 7, 2) := by decide +kernel
theorem dX11_append_42 : decode cX11_append 42 = .ok (.invokestatic 238, 3) := by decide +kernel
theorem dX11_append_45 : decode cX11_append 45 = .ok (.isub, 1) := by decide +kernel
theorem dX11_append_46 : decode cX11_append 46 = .ok (.istore 8, 2) := by decide +kernel
theorem dX11_append_48 : decode cX11_append 48 = .ok (.aload_n 0, 1) := by decide +kernel
theorem dX11_append_49 : decode cX11_append 49 = .ok (.iload 8, 2) := by decide +kernel
theorem dX11_append_51 : decode cX11_append 51 = .ok (.aload_n 0, 1) := by decide +kernel
theorem dX11_append_52 : decode cX11_append 52 = .ok (.invokevirtual 315, 3) := by decide +kernel
theorem dX11_append_55 : decode cX11_append 55 = .ok (.if_icmp .le 7, 3) := by decide +kernel
theorem dX11_append_58 : decode cX11_append 58 = .ok (.iconst 1, 1) := by decide +kernel
theorem dX11_append_59 : decode cX11_append 59 = .ok (.goto 4, 3) := by decide +kernel
theorem dX11_append_62 : decode cX11_append 62 = .ok (.iconst 0, 1) := by decide +kernel
theorem dX11_append_63 : decode cX11_append 63 = .ok (.iconst 4, 1) := by decide +kernel
theorem dX11_append_64 : decode cX11_append 64 = .ok (.invokevirtual 287, 3) := by decide +kernel
theorem dX11_append_67 : decode cX11_append 67 = .ok (.ifCond .eq 5, 3) := by decide +kernel
theorem dX11_append_70 : decode cX11_append 70 = .ok (.iconst 0, 1) := by decide +kernel
theorem dX11_append_71 : decode cX11_append 71 = .ok (.ireturn, 1) := by decide +kernel
theorem dX11_append_72 : decode cX11_append 72 = .ok (.aload_n 0, 1) := by decide +kernel
theorem dX11_append_73 : decode cX11_append 73 = .ok (.aload_n 0, 1) := by decide +kernel
theorem dX11_append_74 : decode cX11_append 74 = .ok (.iload 5, 2) := by decide +kernel
theorem dX11_append_76 : decode cX11_append 76 = .ok (.invokevirtual 132, 3) := by decide +kernel
