theorem mem_idx {T ws : List Cond} (is : List Nat) (h : is.map (fun i => T[i]?) = ws.map some) : ∀ w ∈ ws, w ∈ T := fun w hw => by
  have h1 : some w ∈ ws.map some := List.mem_map.mpr ⟨w, hw, rfl⟩
  rw [← h] at h1
  obtain ⟨i, -, hi⟩ := List.mem_map.mp h1
  exact List.mem_of_getElem? hi
set_option maxRecDepth 20000 in
theorem inr_1 : ∀ w ∈ wsL_law0_r1, w ∈ lw_tbl := mem_idx [110, 111, 83, 1257, 1258, 92, 1743, 747, 748, 82, 749, 112, 113, 114, 115, 116, 117, 118, 119, 84, 120, 121, 122, 123] (by decide +kernel)
set_option maxRecDepth 20000 in
theorem inr_2 : ∀ w ∈ wsL_law0_r2, w ∈ lw_tbl := mem_idx [124, 125, 85, 319, 141, 142, 86, 320, 158, 159, 87, 321, 196, 197, 88, 322, 313, 233, 91, 323, 324, 315, 203, 89] (by decide +kernel)
set_option maxRecDepth 20000 in
theorem inr_3 : ∀ w ∈ wsL_law0_r3, w ∈ lw_tbl := mem_idx [325, 326, 317, 217, 90, 327, 328, 329, 126, 127, 128, 129, 130, 140, 134, 144, 145, 146, 157, 147, 148, 160, 161, 162] (by decide +kernel)
set_option maxRecDepth 20000 in
theorem inr_4 : ∀ w ∈ wsL_law0_r4, w ∈ lw_tbl := mem_idx [163, 174, 164, 198, 199, 200, 201, 202, 284, 285, 216, 286, 281, 167, 282, 232, 283, 132, 312, 287, 288, 289, 205, 206] (by decide +kernel)
set_option maxRecDepth 20000 in
theorem inr_5 : ∀ w ∈ wsL_law0_r5, w ∈ lw_tbl := mem_idx [207, 208, 219, 220, 221, 222, 223, 234, 235, 236, 237, 253, 254, 255, 248, 166, 238, 131, 249, 314, 1259, 1260, 1261, 1262] (by decide +kernel)
set_option maxRecDepth 20000 in
theorem inr_6 : ∀ w ∈ wsL_law0_r6, w ∈ lw_tbl := mem_idx [1263, 1266, 1267, 1268, 1284, 1285, 1286, 1287, 1288, 1289, 1290, 1291, 1292, 1264, 1392, 1293, 1294, 1295, 1299, 1304, 1305, 1306, 1265, 353] (by decide +kernel)
set_option maxRecDepth 20000 in
theorem inr_7 : ∀ w ∈ wsL_law0_r7, w ∈ lw_tbl := mem_idx [354, 355, 356, 357, 358, 359, 360, 1397, 1398, 1399, 1400, 1270, 1271, 361, 362, 363, 364, 365, 366, 367, 368, 149, 369, 370] (by decide +kernel)
set_option maxRecDepth 20000 in
theorem inr_8 : ∀ w ∈ wsL_law0_r8, w ∈ lw_tbl := mem_idx [93, 371, 1401, 1402, 1403, 1404, 1269, 372, 373, 374, 375, 376, 377, 378, 379, 1405, 1406, 1407, 1408, 750, 751, 752, 753, 754] (by decide +kernel)
set_option maxRecDepth 20000 in
theorem inr_9 : ∀ w ∈ wsL_law0_r9, w ∈ lw_tbl := mem_idx [755, 756, 757, 771, 103, 170, 173, 758, 759, 760, 761, 422, 424, 1, 425, 426, 428, 2, 429, 133, 430, 431, 432, 762] (by decide +kernel)
set_option maxRecDepth 20000 in
theorem inr_10 : ∀ w ∈ wsL_law0_r10, w ∈ lw_tbl := mem_idx [763, 764, 765, 766, 767, 768, 769, 770, 529, 530, 94, 531, 533, 534, 535, 95, 536, 537, 538, 539, 540, 1746, 541, 542] (by decide +kernel)
set_option maxRecDepth 20000 in
theorem inr_11 : ∀ w ∈ wsL_law0_r11, w ∈ lw_tbl := mem_idx [543, 544, 545, 1745, 547, 548, 549, 550, 551, 552, 553, 554, 555, 556, 96, 557, 561, 562, 558, 559, 560, 563, 564, 565] (by decide +kernel)
set_option maxRecDepth 20000 in
theorem inr_12 : ∀ w ∈ wsL_law0_r12, w ∈ lw_tbl := mem_idx [566, 567, 97, 568, 569, 570, 571, 572, 573, 574, 575, 576, 577, 578, 579, 580, 581, 582, 583, 584, 586, 587, 98, 588] (by decide +kernel)
set_option maxRecDepth 20000 in
theorem inr_13 : ∀ w ∈ wsL_law0_r13, w ∈ lw_tbl := mem_idx [589, 590, 591, 592, 593, 594, 595, 597, 599, 601, 602, 603, 604, 605, 99, 606, 607, 608, 609, 610, 611, 612, 613, 614] (by decide +kernel)
set_option maxRecDepth 20000 in
theorem inr_14 : ∀ w ∈ wsL_law0_r14, w ∈ lw_tbl := mem_idx [839, 840, 841, 842, 843, 844, 845, 846, 847, 417, 868, 869, 870, 446, 445, 848, 849, 850, 851, 852, 389, 390, 391, 853] (by decide +kernel)
