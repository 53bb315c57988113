theorem mem_r {big : List Cond} (ws : List Cond) (ps : List Nat) (hp : ws = ps.filterMap (fun i => big[i]?)) : ∀ w ∈ ws, w ∈ big := by
  intro w hw
  rw [hp] at hw
  obtain ⟨i, -, hi⟩ := List.mem_filterMap.mp hw
  exact List.mem_of_getElem? hi
set_option maxRecDepth 20000 in
theorem wsL_in_r1 : ∀ w ∈ wsL_law_r1, w ∈ lw_tbl := mem_r _ [53, 54, 46, 494, 495, 51, 55, 56, 57, 58, 59, 60, 61, 62, 47, 142, 143, 79, 80, 48, 144, 98, 99, 49] (by decide +kernel)
set_option maxRecDepth 20000 in
theorem wsL_in_r2 : ∀ w ∈ wsL_law_r2, w ∈ lw_tbl := mem_r _ [145, 123, 124, 50, 146, 147, 63, 64, 65, 66, 77, 67, 78, 68, 69, 81, 82, 83, 84, 85, 86, 87, 88, 100] (by decide +kernel)
set_option maxRecDepth 20000 in
theorem wsL_in_r3 : ∀ w ∈ wsL_law_r3, w ∈ lw_tbl := mem_r _ [101, 102, 103, 104, 105, 106, 107, 108, 109, 125, 126, 127, 128, 129, 130, 131, 132, 496, 497, 498, 499, 501, 502, 504] (by decide +kernel)
set_option maxRecDepth 20000 in
theorem wsL_in_r4 : ∀ w ∈ wsL_law_r4, w ∈ lw_tbl := mem_r _ [505, 508, 509, 510, 511, 512, 513, 515, 516, 517, 518, 506, 161, 162, 163, 164, 165, 167, 0, 168, 169, 170, 171, 172] (by decide +kernel)
set_option maxRecDepth 20000 in
theorem wsL_in_r5 : ∀ w ∈ wsL_law_r5, w ∈ lw_tbl := mem_r _ [173, 174, 175, 176, 177, 178, 179, 180, 181, 182, 183, 184, 558, 559, 560, 561, 500, 562, 563, 564, 185, 186, 187, 188] (by decide +kernel)
set_option maxRecDepth 20000 in
theorem wsL_in_r6 : ∀ w ∈ wsL_law_r6, w ∈ lw_tbl := mem_r _ [565, 566, 567, 568, 503, 189, 190, 191, 192, 193, 194, 195, 196, 197, 198, 199, 200, 201, 202, 203, 204, 205, 569, 570] (by decide +kernel)
set_option maxRecDepth 20000 in
theorem wsL_in_r7 : ∀ w ∈ wsL_law_r7, w ∈ lw_tbl := mem_r _ [571, 572, 573, 575, 25, 576, 206, 207, 208, 209, 210, 211, 212, 213, 577, 578, 579, 580, 214, 215, 216, 217, 581, 582] (by decide +kernel)
set_option maxRecDepth 20000 in
theorem wsL_in_r8 : ∀ w ∈ wsL_law_r8, w ∈ lw_tbl := mem_r _ [583, 584, 218, 219, 220, 221, 585, 586, 587, 588, 222, 223, 224, 225, 589, 590, 591, 592, 226, 227, 228, 229, 230, 231] (by decide +kernel)
set_option maxRecDepth 20000 in
theorem wsL_in_r9 : ∀ w ∈ wsL_law_r9, w ∈ lw_tbl := mem_r _ [232, 233, 234, 235, 236, 237, 238, 240, 1, 241, 242, 244, 2, 245, 246, 247, 249, 3, 250, 251, 253, 4, 254, 255] (by decide +kernel)
set_option maxRecDepth 20000 in
theorem wsL_in_r10 : ∀ w ∈ wsL_law_r10, w ∈ lw_tbl := mem_r _ [256, 257, 258, 259, 260, 261, 262, 263, 265, 5, 266, 267, 269, 6, 270, 271, 272, 273, 274, 275, 276, 277, 278, 279] (by decide +kernel)
set_option maxRecDepth 20000 in
theorem wsL_in_r11 : ∀ w ∈ wsL_law_r11, w ∈ lw_tbl := mem_r _ [280, 281, 282, 283, 284, 285, 286, 287, 289, 7, 290, 291, 293, 8, 294, 295, 297, 9, 298, 299, 300, 301, 302, 303] (by decide +kernel)
set_option maxRecDepth 20000 in
theorem wsL_in_r12 : ∀ w ∈ wsL_law_r12, w ∈ lw_tbl := mem_r _ [304, 305, 306, 307, 308, 309, 310, 311, 312, 313, 314, 315, 316, 318, 10, 319, 320, 322, 11, 323, 324, 325, 327, 12] (by decide +kernel)
set_option maxRecDepth 20000 in
theorem wsL_in_r13 : ∀ w ∈ wsL_law_r13, w ∈ lw_tbl := mem_r _ [328, 329, 593, 594, 595, 596, 507, 597, 599, 26, 600, 601, 603, 27, 604, 605, 607, 28, 608, 609, 611, 29, 612, 613] (by decide +kernel)
set_option maxRecDepth 20000 in
theorem wsL_in_r14 : ∀ w ∈ wsL_law_r14, w ∈ lw_tbl := mem_r _ [615, 30, 616, 617, 619, 31, 620, 514, 621, 623, 32, 624, 625, 627, 33, 628, 629, 631, 34, 632, 633, 635, 35, 636] (by decide +kernel)
set_option maxRecDepth 20000 in
theorem wsL_in_r15 : ∀ w ∈ wsL_law_r15, w ∈ lw_tbl := mem_r _ [330, 331, 332, 333, 334, 336, 13, 337, 338, 339, 637, 638, 639, 640, 641, 643, 36, 644, 340, 341, 342, 343, 344, 645] (by decide +kernel)
set_option maxRecDepth 20000 in
theorem wsL_in_r16 : ∀ w ∈ wsL_law_r16, w ∈ lw_tbl := mem_r _ [646, 647, 648, 345, 346, 347, 348, 349, 649, 650, 651, 652, 350, 351, 352, 353, 354, 356, 14, 357, 358, 359, 360, 361] (by decide +kernel)
set_option maxRecDepth 20000 in
theorem wsL_in_r17 : ∀ w ∈ wsL_law_r17, w ∈ lw_tbl := mem_r _ [362, 363, 364, 365, 653, 654, 655, 656, 366, 367, 368, 369, 370, 371, 372, 373, 657, 658, 659, 660, 661, 663, 37, 664] (by decide +kernel)
set_option maxRecDepth 20000 in
theorem wsL_in_r18 : ∀ w ∈ wsL_law_r18, w ∈ lw_tbl := mem_r _ [374, 375, 376, 377, 378, 380, 15, 381, 382, 383, 384, 385, 386, 665, 666, 667, 668, 669, 671, 38, 672, 673, 675, 39] (by decide +kernel)
set_option maxRecDepth 20000 in
theorem wsL_in_r19 : ∀ w ∈ wsL_law_r19, w ∈ lw_tbl := mem_r _ [676, 387, 388, 389, 390, 391, 393, 16, 394, 395, 397, 17, 398, 677, 678, 679, 680, 681, 683, 40, 684, 685, 687, 41] (by decide +kernel)
set_option maxRecDepth 20000 in
theorem wsL_in_r20 : ∀ w ∈ wsL_law_r20, w ∈ lw_tbl := mem_r _ [688, 399, 400, 401, 402, 689, 690, 691, 692, 403, 404, 405, 406, 407, 409, 18, 410, 693, 694, 695, 696, 697, 699, 42] (by decide +kernel)
set_option maxRecDepth 20000 in
theorem wsL_in_r21 : ∀ w ∈ wsL_law_r21, w ∈ lw_tbl := mem_r _ [700, 411, 412, 413, 414, 415, 417, 19, 418, 701, 702, 703, 704, 419, 420, 421, 422, 423, 425, 20, 426, 427, 429, 21] (by decide +kernel)
set_option maxRecDepth 20000 in
theorem wsL_in_r22 : ∀ w ∈ wsL_law_r22, w ∈ lw_tbl := mem_r _ [430, 705, 706, 707, 708, 431, 432, 433, 434, 435, 436, 437, 438, 709, 710, 711, 712, 439, 440, 441, 442, 443, 444, 445] (by decide +kernel)
set_option maxRecDepth 20000 in
theorem wsL_in_r23 : ∀ w ∈ wsL_law_r23, w ∈ lw_tbl := mem_r _ [446, 447, 448, 449, 450, 451, 713, 714, 715, 716, 452, 453, 454, 455, 456, 457, 458, 459, 717, 718, 719, 720, 460, 461] (by decide +kernel)
set_option maxRecDepth 20000 in
theorem wsL_in_r24 : ∀ w ∈ wsL_law_r24, w ∈ lw_tbl := mem_r _ [462, 463, 464, 466, 22, 467, 468, 470, 23, 471, 721, 722, 723, 724, 725, 727, 43, 728, 472, 473, 474, 475, 476, 477] (by decide +kernel)
set_option maxRecDepth 20000 in
theorem wsL_in_r25 : ∀ w ∈ wsL_law_r25, w ∈ lw_tbl := mem_r _ [52, 478, 479, 481, 24, 482, 483, 484, 485, 486, 487, 488, 489, 729, 730, 731, 732, 733, 735, 44, 736, 490, 491, 492] (by decide +kernel)
set_option maxRecDepth 20000 in
theorem wsL_in_r26 : ∀ w ∈ wsL_law_r26, w ∈ lw_tbl := mem_r _ [493, 737, 738, 739, 740] (by decide +kernel)
set_option maxRecDepth 20000 in
theorem inX0 : ∀ w ∈ wsX00, w ∈ lw_tbl := mem_r _ [110, 112, 114, 116, 118, 120] (by decide +kernel)
set_option maxRecDepth 20000 in
theorem inX1 : ∀ w ∈ wsX10, w ∈ lw_tbl := mem_r _ [89, 91, 93, 95] (by decide +kernel)
set_option maxRecDepth 20000 in
theorem inX2 : ∀ w ∈ wsX20, w ∈ lw_tbl := mem_r _ [133, 135, 137, 139] (by decide +kernel)
set_option maxRecDepth 20000 in
theorem inX3 : ∀ w ∈ wsX30, w ∈ lw_tbl := mem_r _ [70, 72, 74] (by decide +kernel)
set_option maxRecDepth 20000 in
theorem inX4 : ∀ w ∈ wsX40, w ∈ lw_tbl := mem_r _ [148, 150, 152, 154, 156, 158] (by decide +kernel)
set_option maxRecDepth 20000 in
theorem inX5 : ∀ w ∈ wsX50, w ∈ lw_tbl := mem_r _ [519, 521, 523, 525, 527, 529, 531, 533, 535, 537, 539, 541, 543, 545, 547, 549, 551, 553, 555] (by decide +kernel)
theorem mem_ap {big a b : List Cond} (ha : ∀ w ∈ a, w ∈ big) (hb : ∀ w ∈ b, w ∈ big) : ∀ w ∈ a ++ b, w ∈ big := fun w h => (List.mem_append.mp h).elim (ha w) (hb w)
set_option maxRecDepth 20000 in
theorem wsL_law_in : ∀ w ∈ wsL_law, w ∈ lw_tbl := (mem_ap (mem_ap (mem_ap (mem_ap (mem_ap (mem_ap (mem_ap (mem_ap wsL_in_r1 (mem_ap wsL_in_r2 (mem_ap wsL_in_r3 (mem_ap wsL_in_r4 (mem_ap wsL_in_r5 (mem_ap wsL_in_r6 (mem_ap wsL_in_r7 (mem_ap wsL_in_r8 (mem_ap wsL_in_r9 (mem_ap wsL_in_r10 (mem_ap wsL_in_r11 (mem_ap wsL_in_r12 (mem_ap wsL_in_r13 (mem_ap wsL_in_r14 (mem_ap wsL_in_r15 (mem_ap wsL_in_r16 (mem_ap wsL_in_r17 (mem_ap wsL_in_r18 (mem_ap wsL_in_r19 (mem_ap wsL_in_r20 (mem_ap wsL_in_r21 (mem_ap wsL_in_r22 (mem_ap wsL_in_r23 (mem_ap wsL_in_r24 (mem_ap wsL_in_r25 wsL_in_r26))))))))))))))))))))))))) inX4) inX5) inX3) inX1) inX0) inX2) (fun _ h => absurd h List.not_mem_nil))
theorem inlX0 : ∀ w ∈ wsX00, w ∈ wsL_law := fun _ h => List.mem_append_left _ (List.mem_append_left _ (List.mem_append_right _ h))
theorem inlX1 : ∀ w ∈ wsX10, w ∈ wsL_law := fun _ h => List.mem_append_left _ (List.mem_append_left _ (List.mem_append_left _ (List.mem_append_right _ h)))
theorem inlX2 : ∀ w ∈ wsX20, w ∈ wsL_law := fun _ h => List.mem_append_left _ (List.mem_append_right _ h)
theorem inlX3 : ∀ w ∈ wsX30, w ∈ wsL_law := fun _ h => List.mem_append_left _ (List.mem_append_left _ (List.mem_append_left _ (List.mem_append_left _ (List.mem_append_right _ h))))
theorem inlX4 : ∀ w ∈ wsX40, w ∈ wsL_law := fun _ h => List.mem_append_left _ (List.mem_append_left _ (List.mem_append_left _ (List.mem_append_left _ (List.mem_append_left _ (List.mem_append_left _ (List.mem_append_right _ h))))))
theorem inlX5 : ∀ w ∈ wsX50, w ∈ wsL_law := fun _ h => List.mem_append_left _ (List.mem_append_left _ (List.mem_append_left _ (List.mem_append_left _ (List.mem_append_left _ (List.mem_append_right _ h)))))
theorem inJ9 : ∀ w ∈ wsJ90, w ∈ lw_tbl := by decide +kernel
theorem dX0_init_0 : decode cX0_init 0 = .ok (.aload_n 0, 1) := by decide +kernel
theorem dX0_init_1 : decode cX0_init 1 = .ok (.invokespecial 3, 3) := by decide +kernel
theorem dX0_init_4 : decode cX0_init 4 = .ok (.aload_n 0, 1) := by decide +kernel
theorem dX0_init_5 : decode cX0_init 5 = .ok (.bipush 48, 2) := by decide +kernel
theorem dX0_init_7 : decode cX0_init 7 = .ok (.newarray .boolean, 2) := by decide +kernel
theorem dX0_init_9 : decode cX0_init 9 = .ok (.putfield 9, 3) := by decide +kernel
theorem dX0_init_12 : decode cX0_init 12 = .ok (.aload_n 0, 1) := by decide +kernel
theorem dX0_init_13 : decode cX0_init 13 = .ok (.bipush 48, 2) := by decide +kernel
theorem dX0_init_15 : decode cX0_init 15 = .ok (.newarray .boolean, 2) := by decide +kernel
theorem dX0_init_17 : decode cX0_init 17 = .ok (.putfield 15, 3) := by decide +kernel
theorem dX0_init_20 : decode cX0_init 20 = .ok (.aload_n 0, 1) := by decide +kernel
theorem dX0_init_21 : decode cX0_init 21 = .ok (.bipush 49, 2) := by decide +kernel
theorem dX0_init_23 : decode cX0_init 23 = .ok (.newarray .int, 2) := by decide +kernel
theorem dX0_init_25 : decode cX0_init 25 = .ok (.putfield 18, 3) := by decide +kernel
theorem dX0_init_28 : decode cX0_init 28 = .ok (.aload_n 0, 1) := by decide +kernel
theorem dX0_init_29 : decode cX0_init 29 = .ok (.iconst 0, 1) := by decide +kernel
theorem dX0_init_30 : decode cX0_init 30 = .ok (.putfield 22, 3) := by decide +kernel
theorem dX0_init_33 : decode cX0_init 33 = .ok (.aload_n 0, 1) := by decide +kernel
theorem dX0_init_34 : decode cX0_init 34 = .ok (.iconst 0, 1) := by decide +kernel
theorem dX0_init_35 : decode cX0_init 35 = .ok (.putfield 26, 3) := by decide +kernel
theorem dX0_init_38 : decode cX0_init 38 = .ok (.aload_n 0, 1) := by decide +kernel
theorem dX0_init_39 : decode cX0_init 39 = .ok (.iconst 0, 1) := by decide +kernel
theorem dX0_init_40 : decode cX0_init 40 = .ok (.putfield 29, 3) := by decide +kernel
theorem dX0_init_43 : decode cX0_init 43 = .ok (.return_, 1) := by decide +kernel
set_option maxRecDepth 20000 in
theorem ggX0_align_X1_removeAll : GoodIn wsX0_align wsX1_removeAll := goodIn_r _ [8, 9, 74, 75, 76, 77] (by decide +kernel) (by decide +kernel)
set_option maxRecDepth 20000 in
theorem gX0_align_X1_removeAll : GoodIn wsX0_align (wsV RX0 32 RX1 yX1_removeAll wsX1_removeAll) := goodIn_app (goodIn_of _ (by decide +kernel)) ggX0_align_X1_removeAll
set_option maxRecDepth 20000 in
theorem ggX0_align_X0_freeAllWords : GoodIn wsX0_align wsX0_freeAllWords := goodIn_r _ [14, 15, 16, 68, 69, 70, 71, 72, 73] (by decide +kernel) (by decide +kernel)
set_option maxRecDepth 20000 in
theorem gX0_align_X0_freeAllWords : GoodIn wsX0_align (wsV RX0 37 RX0 yX0_freeAllWords wsX0_freeAllWords) := goodIn_app (goodIn_of _ (by decide +kernel)) ggX0_align_X0_freeAllWords
set_option maxRecDepth 20000 in
theorem ggX0_align_X0_findLongestRun : GoodIn wsX0_align wsX0_findLongestRun := goodIn_r _ [20, 2, 3, 1, 21, 22, 23, 24, 25, 26, 27, 28, 29, 30, 13, 31, 32, 33, 34, 35, 15, 16, 36, 37, 38, 39, 40, 41, 42, 43, 44, 45, 46, 47, 48, 49, 50, 51, 52, 53, 54, 55, 56, 68, 69, 70, 71, 72, 73, 78, 79, 80] (by decide +kernel) (by decide +kernel)
set_option maxRecDepth 20000 in
theorem gX0_align_X0_findLongestRun : GoodIn wsX0_align (wsV RX0 40 RX0 yX0_findLongestRun wsX0_findLongestRun) := goodIn_app (goodIn_of _ (by decide +kernel)) ggX0_align_X0_findLongestRun
set_option maxRecDepth 20000 in
theorem ggX0_align_X0_takeLongestRun : GoodIn wsX0_align wsX0_takeLongestRun := goodIn_r _ [60, 1, 2, 3, 15, 16, 32, 33, 34, 13, 35, 68, 69, 70, 71, 72, 73] (by decide +kernel) (by decide +kernel)
set_option maxRecDepth 20000 in
theorem gX0_align_X0_takeLongestRun : GoodIn wsX0_align (wsV RX0 44 RX0 yX0_takeLongestRun wsX0_takeLongestRun) := goodIn_app (goodIn_of _ (by decide +kernel)) ggX0_align_X0_takeLongestRun
set_option maxRecDepth 20000 in
theorem ggX0_align_X1_insert : GoodIn wsX0_align wsX1_insert := goodIn_r _ [64, 9, 65, 66, 67, 74, 75, 76, 77] (by decide +kernel) (by decide +kernel)
set_option maxRecDepth 20000 in
theorem gX0_align_X1_insert : GoodIn wsX0_align (wsV RX0 47 RX1 yX1_insert wsX1_insert) := goodIn_app (goodIn_of _ (by decide +kernel)) ggX0_align_X1_insert
theorem dX0_align_0 : decode cX0_align 0 = .ok (.aload_n 3, 1) := by decide +kernel
theorem dX0_align_1 : decode cX0_align 1 = .ok (.invokevirtual 32, 3) := by decide +kernel
theorem dX0_align_4 : decode cX0_align 4 = .ok (.aload_n 0, 1) := by decide +kernel
theorem dX0_align_5 : decode cX0_align 5 = .ok (.invokevirtual 37, 3) := by decide +kernel
theorem dX0_align_8 : decode cX0_align 8 = .ok (.iconst 0, 1) := by decide +kernel
theorem dX0_align_9 : decode cX0_align 9 = .ok (.istore 5, 2) := by decide +kernel
theorem dX0_align_11 : decode cX0_align 11 = .ok (.iload 5, 2) := by decide +kernel
theorem dX0_align_13 : decode cX0_align 13 = .ok (.bipush 48, 2) := by decide +kernel
theorem dX0_align_15 : decode cX0_align 15 = .ok (.if_icmp .ge 45, 3) := by decide +kernel
theorem dX0_align_18 : decode cX0_align 18 = .ok (.aload_n 0, 1) := by decide +kernel
theorem dX0_align_19 : decode cX0_align 19 = .ok (.aload_n 1, 1) := by decide +kernel
theorem dX0_align_20 : decode cX0_align 20 = .ok (.aload_n 2, 1) := by decide +kernel
theorem dX0_align_21 : decode cX0_align 21 = .ok (.invokevirtual 40, 3) := by decide +kernel
theorem dX0_align_24 : decode cX0_align 24 = .ok (.aload_n 0, 1) := by decide +kernel
theorem dX0_align_25 : decode cX0_align 25 = .ok (.getfield 29, 3) := by decide +kernel
theorem dX0_align_28 : decode cX0_align 28 = .ok (.iload 4, 2) := by decide +kernel
theorem dX0_align_30 : decode cX0_align 30 = .ok (.if_icmp .ge 4, 3) := by decide +kernel
theorem dX0_align_33 : decode cX0_align 33 = .ok (.return_, 1) := by decide +kernel
theorem dX0_align_34 : decode cX0_align 34 = .ok (.aload_n 0, 1) := by decide +kernel
theorem dX0_align_35 : decode cX0_align 35 = .ok (.invokevirtual 44, 3) := by decide +kernel
theorem dX0_align_38 : decode cX0_align 38 = .ok (.aload_n 3, 1) := by decide +kernel
theorem dX0_align_39 : decode cX0_align 39 = .ok (.aload_n 0, 1) := by decide +kernel
theorem dX0_align_40 : decode cX0_align 40 = .ok (.getfield 22, 3) := by decide +kernel
theorem dX0_align_43 : decode cX0_align 43 = .ok (.aload_n 0, 1) := by decide +kernel
theorem dX0_align_44 : decode cX0_align 44 = .ok (.getfield 26, 3) := by decide +kernel
theorem dX0_align_47 : decode cX0_align 47 = .ok (.aload_n 0, 1) := by decide +kernel
theorem dX0_align_48 : decode cX0_align 48 = .ok (.getfield 29, 3) := by decide +kernel
theorem dX0_align_51 : decode cX0_align 51 = .ok (.invokevirtual 47, 3) := by decide +kernel
theorem dX0_align_54 : decode cX0_align 54 = .ok (.iinc 5 1, 3) := by decide +kernel
theorem dX0_align_57 : decode cX0_align 57 = .ok (.goto (-46), 3) := by decide +kernel
theorem dX0_align_60 : decode cX0_align 60 = .ok (.return_, 1) := by decide +kernel
theorem dX0_freeAllWords_0 : decode cX0_freeAllWords 0 = .ok (.iconst 0, 1) := by decide +kernel
theorem dX0_freeAllWords_1 : decode cX0_freeAllWords 1 = .ok (.istore_n 1, 1) := by decide +kernel
theorem dX0_freeAllWords_2 : decode cX0_freeAllWords 2 = .ok (.iload_n 1, 1) := by decide +kernel
theorem dX0_freeAllWords_3 : decode cX0_freeAllWords 3 = .ok (.bipush 48, 2) := by decide +kernel
theorem dX0_freeAllWords_5 : decode cX0_freeAllWords 5 = .ok (.if_icmp .ge 23, 3) := by decide +kernel
theorem dX0_freeAllWords_8 : decode cX0_freeAllWords 8 = .ok (.aload_n 0, 1) := by decide +kernel
theorem dX0_freeAllWords_9 : decode cX0_freeAllWords 9 = .ok (.getfield 9, 3) := by decide +kernel
theorem dX0_freeAllWords_12 : decode cX0_freeAllWords 12 = .ok (.iload_n 1, 1) := by decide +kernel
theorem dX0_freeAllWords_13 : decode cX0_freeAllWords 13 = .ok (.iconst 0, 1) := by decide +kernel
theorem dX0_freeAllWords_14 : decode cX0_freeAllWords 14 = .ok (.bastore, 1) := by decide +kernel
theorem dX0_freeAllWords_15 : decode cX0_freeAllWords 15 = .ok (.aload_n 0, 1) := by decide +kernel
theorem dX0_freeAllWords_16 : decode cX0_freeAllWords 16 = .ok (.getfield 15, 3) := by decide +kernel
theorem dX0_freeAllWords_19 : decode cX0_freeAllWords 19 = .ok (.iload_n 1, 1) := by decide +kernel
theorem dX0_freeAllWords_20 : decode cX0_freeAllWords 20 = .ok (.iconst 0, 1) := by decide +kernel
theorem dX0_freeAllWords_21 : decode cX0_freeAllWords 21 = .ok (.bastore, 1) := by decide +kernel
theorem dX0_freeAllWords_22 : decode cX0_freeAllWords 22 = .ok (.iinc 1 1, 3) := by decide +kernel
theorem dX0_freeAllWords_25 : decode cX0_freeAllWords 25 = .ok (.goto (-23), 3) := by decide +kernel
theorem dX0_freeAllWords_28 : decode cX0_freeAllWords 28 = .ok (.return_, 1) := by decide +kernel
set_option maxRecDepth 20000 in
theorem ggX0_findLongestRun_X3_size : GoodIn wsX0_findLongestRun wsX3_size := goodIn_r _ [9, 10, 49, 50, 51] (by decide +kernel) (by decide +kernel)
set_option maxRecDepth 20000 in
theorem gX0_findLongestRun_X3_size : GoodIn wsX0_findLongestRun (wsV RX0 51 RX3 yX3_size wsX3_size) := goodIn_app (goodIn_of _ (by decide +kernel)) ggX0_findLongestRun_X3_size
set_option maxRecDepth 20000 in
theorem ggX0_findLongestRun_X0_extendRuns : GoodIn wsX0_findLongestRun wsX0_extendRuns := goodIn_r _ [15, 4, 3, 2, 1, 5, 6, 7, 8, 9, 10, 16, 17, 18, 14, 19, 20, 21, 22, 23, 24, 25, 26, 27, 28, 29, 30, 31, 32, 33, 34, 35, 36, 37, 38, 39, 40, 41, 42, 43, 44, 45, 46, 47, 48, 49, 50, 51] (by decide +kernel) (by decide +kernel)
set_option maxRecDepth 20000 in
theorem gX0_findLongestRun_X0_extendRuns : GoodIn wsX0_findLongestRun (wsV RX0 57 RX0 yX0_extendRuns wsX0_extendRuns) := goodIn_app (goodIn_of _ (by decide +kernel)) ggX0_findLongestRun_X0_extendRuns
theorem dX0_findLongestRun_0 : decode cX0_findLongestRun 0 = .ok (.aload_n 0, 1) := by decide +kernel
theorem dX0_findLongestRun_1 : decode cX0_findLongestRun 1 = .ok (.iconst 0, 1) := by decide +kernel
theorem dX0_findLongestRun_2 : decode cX0_findLongestRun 2 = .ok (.putfield 22, 3) := by decide +kernel
theorem dX0_findLongestRun_5 : decode cX0_findLongestRun 5 = .ok (.aload_n 0, 1) := by decide +kernel
theorem dX0_findLongestRun_6 : decode cX0_findLongestRun 6 = .ok (.iconst 0, 1) := by decide +kernel
theorem dX0_findLongestRun_7 : decode cX0_findLongestRun 7 = .ok (.putfield 26, 3) := by decide +kernel
theorem dX0_findLongestRun_10 : decode cX0_findLongestRun 10 = .ok (.aload_n 0, 1) := by decide +kernel
theorem dX0_findLongestRun_11 : decode cX0_findLongestRun 11 = .ok (.iconst 0, 1) := by decide +kernel
theorem dX0_findLongestRun_12 : decode cX0_findLongestRun 12 = .ok (.putfield 29, 3) := by decide +kernel
theorem dX0_findLongestRun_15 : decode cX0_findLongestRun 15 = .ok (.iconst 0, 1) := by decide +kernel
theorem dX0_findLongestRun_16 : decode cX0_findLongestRun 16 = .ok (.istore_n 3, 1) := by decide +kernel
theorem dX0_findLongestRun_17 : decode cX0_findLongestRun 17 = .ok (.iload_n 3, 1) := by decide +kernel
theorem dX0_findLongestRun_18 : decode cX0_findLongestRun 18 = .ok (.bipush 48, 2) := by decide +kernel
theorem dX0_findLongestRun_20 : decode cX0_findLongestRun 20 = .ok (.if_icmp .gt 16, 3) := by decide +kernel
theorem dX0_findLongestRun_23 : decode cX0_findLongestRun 23 = .ok (.aload_n 0, 1) := by decide +kernel
theorem dX0_findLongestRun_24 : decode cX0_findLongestRun 24 = .ok (.getfield 18, 3) := by decide +kernel
theorem dX0_findLongestRun_27 : decode cX0_findLongestRun 27 = .ok (.iload_n 3, 1) := by decide +kernel
theorem dX0_findLongestRun_28 : decode cX0_findLongestRun 28 = .ok (.iconst 0, 1) := by decide +kernel
theorem dX0_findLongestRun_29 : decode cX0_findLongestRun 29 = .ok (.iastore, 1) := by decide +kernel
theorem dX0_findLongestRun_30 : decode cX0_findLongestRun 30 = .ok (.iinc 3 1, 3) := by decide +kernel
theorem dX0_findLongestRun_33 : decode cX0_findLongestRun 33 = .ok (.goto (-16), 3) := by decide +kernel
theorem dX0_findLongestRun_36 : decode cX0_findLongestRun 36 = .ok (.aload_n 2, 1) := by decide +kernel
theorem dX0_findLongestRun_37 : decode cX0_findLongestRun 37 = .ok (.invokevirtual 51, 3) := by decide +kernel
theorem dX0_findLongestRun_40 : decode cX0_findLongestRun 40 = .ok (.iconst 1, 1) := by decide +kernel
theorem dX0_findLongestRun_41 : decode cX0_findLongestRun 41 = .ok (.isub, 1) := by decide +kernel
theorem dX0_findLongestRun_42 : decode cX0_findLongestRun 42 = .ok (.istore_n 3, 1) := by decide +kernel
theorem dX0_findLongestRun_43 : decode cX0_findLongestRun 43 = .ok (.iload_n 3, 1) := by decide +kernel
theorem dX0_findLongestRun_44 : decode cX0_findLongestRun 44 = .ok (.ifCond .lt 16, 3) := by decide +kernel
theorem dX0_findLongestRun_47 : decode cX0_findLongestRun 47 = .ok (.aload_n 0, 1) := by decide +kernel
theorem dX0_findLongestRun_48 : decode cX0_findLongestRun 48 = .ok (.aload_n 1, 1) := by decide +kernel
theorem dX0_findLongestRun_49 : decode cX0_findLongestRun 49 = .ok (.aload_n 2, 1) := by decide +kernel
theorem dX0_findLongestRun_50 : decode cX0_findLongestRun 50 = .ok (.iload_n 3, 1) := by decide +kernel
theorem dX0_findLongestRun_51 : decode cX0_findLongestRun 51 = .ok (.invokevirtual 57, 3) := by decide +kernel
theorem dX0_findLongestRun_54 : decode cX0_findLongestRun 54 = .ok (.iinc 3 (-1), 3) := by decide +kernel
theorem dX0_findLongestRun_57 : decode cX0_findLongestRun 57 = .ok (.goto (-14), 3) := by decide +kernel
theorem dX0_findLongestRun_60 : decode cX0_findLongestRun 60 = .ok (.return_, 1) := by decide +kernel
set_option maxRecDepth 20000 in
theorem ggX0_extendRuns_X3_size : GoodIn wsX0_extendRuns wsX3_size := goodIn_r _ [9, 10, 45, 46, 47] (by decide +kernel) (by decide +kernel)
set_option maxRecDepth 20000 in
theorem gX0_extendRuns_X3_size : GoodIn wsX0_extendRuns (wsV RX0 51 RX3 yX3_size wsX3_size) := goodIn_app (goodIn_of _ (by decide +kernel)) ggX0_extendRuns_X3_size
set_option maxRecDepth 20000 in
theorem ggX0_extendRuns_X0_isFree : GoodIn wsX0_extendRuns wsX0_isFree := goodIn_r _ [15, 16, 17, 39, 40, 41, 42, 43, 44] (by decide +kernel) (by decide +kernel)
set_option maxRecDepth 20000 in
theorem gX0_extendRuns_X0_isFree : GoodIn wsX0_extendRuns (wsV RX0 61 RX0 yX0_isFree wsX0_isFree) := goodIn_app (goodIn_of _ (by decide +kernel)) ggX0_extendRuns_X0_isFree
set_option maxRecDepth 20000 in
theorem ggX0_extendRuns_X0_wordsMatch : GoodIn wsX0_extendRuns wsX0_wordsMatch := goodIn_r _ [20, 21, 22, 23, 8, 24, 25, 26, 27, 28, 29, 10, 30, 31, 32, 33, 34, 45, 46, 47] (by decide +kernel) (by decide +kernel)
set_option maxRecDepth 20000 in
theorem gX0_extendRuns_X0_wordsMatch : GoodIn wsX0_extendRuns (va_wsS RX0 65 yX0_wordsMatch wsX0_wordsMatch) := goodIn_app (goodIn_of _ (by decide +kernel)) ggX0_extendRuns_X0_wordsMatch
set_option maxRecDepth 20000 in
theorem ggX0_extendRuns_X0_isBetter : GoodIn wsX0_extendRuns wsX0_isBetter := goodIn_r _ [38, 2, 3, 39, 40, 41, 42, 43, 44] (by decide +kernel) (by decide +kernel)
set_option maxRecDepth 20000 in
theorem gX0_extendRuns_X0_isBetter : GoodIn wsX0_extendRuns (wsV RX0 69 RX0 yX0_isBetter wsX0_isBetter) := goodIn_app (goodIn_of _ (by decide +kernel)) ggX0_extendRuns_X0_isBetter
theorem dX0_extendRuns_0 : decode cX0_extendRuns 0 = .ok (.iconst 0, 1) := by decide +kernel
theorem dX0_extendRuns_1 : decode cX0_extendRuns 1 = .ok (.istore 4, 2) := by decide +kernel
theorem dX0_extendRuns_3 : decode cX0_extendRuns 3 = .ok (.iload 4, 2) := by decide +kernel
theorem dX0_extendRuns_5 : decode cX0_extendRuns 5 = .ok (.aload_n 1, 1) := by decide +kernel
theorem dX0_extendRuns_6 : decode cX0_extendRuns 6 = .ok (.invokevirtual 51, 3) := by decide +kernel
theorem dX0_extendRuns_9 : decode cX0_extendRuns 9 = .ok (.if_icmp .ge 102, 3) := by decide +kernel
theorem dX0_extendRuns_12 : decode cX0_extendRuns 12 = .ok (.iload 4, 2) := by decide +kernel
theorem dX0_extendRuns_14 : decode cX0_extendRuns 14 = .ok (.bipush 48, 2) := by decide +kernel
theorem dX0_extendRuns_16 : decode cX0_extendRuns 16 = .ok (.if_icmp .ge 95, 3) := by decide +kernel
theorem dX0_extendRuns_19 : decode cX0_extendRuns 19 = .ok (.aload_n 0, 1) := by decide +kernel
theorem dX0_extendRuns_20 : decode cX0_extendRuns 20 = .ok (.iload 4, 2) := by decide +kernel
theorem dX0_extendRuns_22 : decode cX0_extendRuns 22 = .ok (.iload_n 3, 1) := by decide +kernel
theorem dX0_extendRuns_23 : decode cX0_extendRuns 23 = .ok (.invokevirtual 61, 3) := by decide +kernel
theorem dX0_extendRuns_26 : decode cX0_extendRuns 26 = .ok (.ifCond .eq 18, 3) := by decide +kernel
theorem dX0_extendRuns_29 : decode cX0_extendRuns 29 = .ok (.aload_n 1, 1) := by decide +kernel
theorem dX0_extendRuns_30 : decode cX0_extendRuns 30 = .ok (.iload 4, 2) := by decide +kernel
theorem dX0_extendRuns_32 : decode cX0_extendRuns 32 = .ok (.aload_n 2, 1) := by decide +kernel
theorem dX0_extendRuns_33 : decode cX0_extendRuns 33 = .ok (.iload_n 3, 1) := by decide +kernel
theorem dX0_extendRuns_34 : decode cX0_extendRuns 34 = .ok (.invokestatic 65, 3) := by decide +kernel
theorem dX0_extendRuns_37 : decode cX0_extendRuns 37 = .ok (.ifCond .eq 7, 3) := by decide +kernel
theorem dX0_extendRuns_40 : decode cX0_extendRuns 40 = .ok (.iconst 1, 1) := by decide +kernel
theorem dX0_extendRuns_41 : decode cX0_extendRuns 41 = .ok (.goto 4, 3) := by decide +kernel
theorem dX0_extendRuns_44 : decode cX0_extendRuns 44 = .ok (.iconst 0, 1) := by decide +kernel
theorem dX0_extendRuns_45 : decode cX0_extendRuns 45 = .ok (.istore 5, 2) := by decide +kernel
theorem dX0_extendRuns_47 : decode cX0_extendRuns 47 = .ok (.iload 5, 2) := by decide +kernel
theorem dX0_extendRuns_49 : decode cX0_extendRuns 49 = .ok (.ifCond .eq 17, 3) := by decide +kernel
theorem dX0_extendRuns_52 : decode cX0_extendRuns 52 = .ok (.aload_n 0, 1) := by decide +kernel
theorem dX0_extendRuns_53 : decode cX0_extendRuns 53 = .ok (.getfield 18, 3) := by decide +kernel
theorem dX0_extendRuns_56 : decode cX0_extendRuns 56 = .ok (.iload 4, 2) := by decide +kernel
theorem dX0_extendRuns_58 : decode cX0_extendRuns 58 = .ok (.iconst 1, 1) := by decide +kernel
theorem dX0_extendRuns_59 : decode cX0_extendRuns 59 = .ok (.iadd, 1) := by decide +kernel
theorem dX0_extendRuns_60 : decode cX0_extendRuns 60 = .ok (.iaload, 1) := by decide +kernel
theorem dX0_extendRuns_61 : decode cX0_extendRuns 61 = .ok (.iconst 1, 1) := by decide +kernel
theorem dX0_extendRuns_62 : decode cX0_extendRuns 62 = .ok (.iadd, 1) := by decide +kernel
theorem dX0_extendRuns_63 : decode cX0_extendRuns 63 = .ok (.goto 4, 3) := by decide +kernel
theorem dX0_extendRuns_66 : decode cX0_extendRuns 66 = .ok (.iconst 0, 1) := by decide +kernel
theorem dX0_extendRuns_67 : decode cX0_extendRuns 67 = .ok (.istore 6, 2) := by decide +kernel
theorem dX0_extendRuns_69 : decode cX0_extendRuns 69 = .ok (.aload_n 0, 1) := by decide +kernel
theorem dX0_extendRuns_70 : decode cX0_extendRuns 70 = .ok (.getfield 18, 3) := by decide +kernel
theorem dX0_extendRuns_73 : decode cX0_extendRuns 73 = .ok (.iload 4, 2) := by decide +kernel
theorem dX0_extendRuns_75 : decode cX0_extendRuns 75 = .ok (.iload 6, 2) := by decide +kernel
theorem dX0_extendRuns_77 : decode cX0_extendRuns 77 = .ok (.iastore, 1) := by decide +kernel
theorem dX0_extendRuns_78 : decode cX0_extendRuns 78 = .ok (.aload_n 0, 1) := by decide +kernel
theorem dX0_extendRuns_79 : decode cX0_extendRuns 79 = .ok (.iload 6, 2) := by decide +kernel
theorem dX0_extendRuns_81 : decode cX0_extendRuns 81 = .ok (.iload_n 3, 1) := by decide +kernel
theorem dX0_extendRuns_82 : decode cX0_extendRuns 82 = .ok (.invokevirtual 69, 3) := by decide +kernel
theorem dX0_extendRuns_85 : decode cX0_extendRuns 85 = .ok (.ifCond .eq 20, 3) := by decide +kernel
theorem dX0_extendRuns_88 : decode cX0_extendRuns 88 = .ok (.aload_n 0, 1) := by decide +kernel
theorem dX0_extendRuns_89 : decode cX0_extendRuns 89 = .ok (.iload 6, 2) := by decide +kernel
theorem dX0_extendRuns_91 : decode cX0_extendRuns 91 = .ok (.putfield 29, 3) := by decide +kernel
theorem dX0_extendRuns_94 : decode cX0_extendRuns 94 = .ok (.aload_n 0, 1) := by decide +kernel
theorem dX0_extendRuns_95 : decode cX0_extendRuns 95 = .ok (.iload_n 3, 1) := by decide +kernel
theorem dX0_extendRuns_96 : decode cX0_extendRuns 96 = .ok (.putfield 26, 3) := by decide +kernel
theorem dX0_extendRuns_99 : decode cX0_extendRuns 99 = .ok (.aload_n 0, 1) := by decide +kernel
theorem dX0_extendRuns_100 : decode cX0_extendRuns 100 = .ok (.iload 4, 2) := by decide +kernel
theorem dX0_extendRuns_102 : decode cX0_extendRuns 102 = .ok (.putfield 22, 3) := by decide +kernel
theorem dX0_extendRuns_105 : decode cX0_extendRuns 105 = .ok (.iinc 4 1, 3) := by decide +kernel
theorem dX0_extendRuns_108 : decode cX0_extendRuns 108 = .ok (.goto (-105), 3) := by decide +kernel
theorem dX0_extendRuns_111 : decode cX0_extendRuns 111 = .ok (.return_, 1) := by decide +kernel
theorem dX0_isBetter_0 : decode cX0_isBetter 0 = .ok (.iload_n 1, 1) := by decide +kernel
theorem dX0_isBetter_1 : decode cX0_isBetter 1 = .ok (.aload_n 0, 1) := by decide +kernel
theorem dX0_isBetter_2 : decode cX0_isBetter 2 = .ok (.getfield 29, 3) := by decide +kernel
theorem dX0_isBetter_5 : decode cX0_isBetter 5 = .ok (.if_icmp .gt 19, 3) := by decide +kernel
theorem dX0_isBetter_8 : decode cX0_isBetter 8 = .ok (.iload_n 1, 1) := by decide +kernel
theorem dX0_isBetter_9 : decode cX0_isBetter 9 = .ok (.aload_n 0, 1) := by decide +kernel
theorem dX0_isBetter_10 : decode cX0_isBetter 10 = .ok (.getfield 29, 3) := by decide +kernel
theorem dX0_isBetter_13 : decode cX0_isBetter 13 = .ok (.if_icmp .ne 15, 3) := by decide +kernel
theorem dX0_isBetter_16 : decode cX0_isBetter 16 = .ok (.iload_n 2, 1) := by decide +kernel
theorem dX0_isBetter_17 : decode cX0_isBetter 17 = .ok (.aload_n 0, 1) := by decide +kernel
theorem dX0_isBetter_18 : decode cX0_isBetter 18 = .ok (.getfield 26, 3) := by decide +kernel
theorem dX0_isBetter_21 : decode cX0_isBetter 21 = .ok (.if_icmp .ge 7, 3) := by decide +kernel
theorem dX0_isBetter_24 : decode cX0_isBetter 24 = .ok (.iconst 1, 1) := by decide +kernel
theorem dX0_isBetter_25 : decode cX0_isBetter 25 = .ok (.goto 4, 3) := by decide +kernel
theorem dX0_isBetter_28 : decode cX0_isBetter 28 = .ok (.iconst 0, 1) := by decide +kernel
theorem dX0_isBetter_29 : decode cX0_isBetter 29 = .ok (.ireturn, 1) := by decide +kernel
theorem dX0_isFree_0 : decode cX0_isFree 0 = .ok (.iload_n 1, 1) := by decide +kernel
theorem dX0_isFree_1 : decode cX0_isFree 1 = .ok (.ifCond .lt 41, 3) := by decide +kernel
theorem dX0_isFree_4 : decode cX0_isFree 4 = .ok (.iload_n 1, 1) := by decide +kernel
theorem dX0_isFree_5 : decode cX0_isFree 5 = .ok (.bipush 48, 2) := by decide +kernel
theorem dX0_isFree_7 : decode cX0_isFree 7 = .ok (.if_icmp .ge 35, 3) := by decide +kernel
theorem dX0_isFree_10 : decode cX0_isFree 10 = .ok (.aload_n 0, 1) := by decide +kernel
theorem dX0_isFree_11 : decode cX0_isFree 11 = .ok (.getfield 9, 3) := by decide +kernel
theorem dX0_isFree_14 : decode cX0_isFree 14 = .ok (.iload_n 1, 1) := by decide +kernel
theorem dX0_isFree_15 : decode cX0_isFree 15 = .ok (.baload, 1) := by decide +kernel
theorem dX0_isFree_16 : decode cX0_isFree 16 = .ok (.ifCond .ne 26, 3) := by decide +kernel
theorem dX0_isFree_19 : decode cX0_isFree 19 = .ok (.iload_n 2, 1) := by decide +kernel
theorem dX0_isFree_20 : decode cX0_isFree 20 = .ok (.ifCond .lt 22, 3) := by decide +kernel
theorem dX0_isFree_23 : decode cX0_isFree 23 = .ok (.iload_n 2, 1) := by decide +kernel
theorem dX0_isFree_24 : decode cX0_isFree 24 = .ok (.bipush 48, 2) := by decide +kernel
theorem dX0_isFree_26 : decode cX0_isFree 26 = .ok (.if_icmp .ge 16, 3) := by decide +kernel
theorem dX0_isFree_29 : decode cX0_isFree 29 = .ok (.aload_n 0, 1) := by decide +kernel
theorem dX0_isFree_30 : decode cX0_isFree 30 = .ok (.getfield 15, 3) := by decide +kernel
theorem dX0_isFree_33 : decode cX0_isFree 33 = .ok (.iload_n 2, 1) := by decide +kernel
theorem dX0_isFree_34 : decode cX0_isFree 34 = .ok (.baload, 1) := by decide +kernel
theorem dX0_isFree_35 : decode cX0_isFree 35 = .ok (.ifCond .ne 7, 3) := by decide +kernel
theorem dX0_isFree_38 : decode cX0_isFree 38 = .ok (.iconst 1, 1) := by decide +kernel
theorem dX0_isFree_39 : decode cX0_isFree 39 = .ok (.goto 4, 3) := by decide +kernel
theorem dX0_isFree_42 : decode cX0_isFree 42 = .ok (.iconst 0, 1) := by decide +kernel
theorem dX0_isFree_43 : decode cX0_isFree 43 = .ok (.ireturn, 1) := by decide +kernel
set_option maxRecDepth 20000 in
theorem ggX0_wordsMatch_X3_isAddress : GoodIn wsX0_wordsMatch wsX3_isAddress := goodIn_r _ [5, 6, 7, 8, 9, 4, 10, 11, 17, 18, 19] (by decide +kernel) (by decide +kernel)
set_option maxRecDepth 20000 in
theorem gX0_wordsMatch_X3_isAddress : GoodIn wsX0_wordsMatch (wsV RX0 72 RX3 yX3_isAddress wsX3_isAddress) := goodIn_app (goodIn_of _ (by decide +kernel)) ggX0_wordsMatch_X3_isAddress
set_option maxRecDepth 20000 in
theorem ggX0_wordsMatch_X3_valueAt : GoodIn wsX0_wordsMatch wsX3_valueAt := goodIn_r _ [15, 16, 7, 8, 9, 4, 10, 11, 17, 18, 19] (by decide +kernel) (by decide +kernel)
set_option maxRecDepth 20000 in
theorem gX0_wordsMatch_X3_valueAt : GoodIn wsX0_wordsMatch (wsV RX0 76 RX3 yX3_valueAt wsX3_valueAt) := goodIn_app (goodIn_of _ (by decide +kernel)) ggX0_wordsMatch_X3_valueAt
theorem dX0_wordsMatch_0 : decode cX0_wordsMatch 0 = .ok (.aload_n 0, 1) := by decide +kernel
theorem dX0_wordsMatch_1 : decode cX0_wordsMatch 1 = .ok (.iload_n 1, 1) := by decide +kernel
theorem dX0_wordsMatch_2 : decode cX0_wordsMatch 2 = .ok (.invokevirtual 72, 3) := by decide +kernel
theorem dX0_wordsMatch_5 : decode cX0_wordsMatch 5 = .ok (.istore 4, 2) := by decide +kernel
theorem dX0_wordsMatch_7 : decode cX0_wordsMatch 7 = .ok (.iload 4, 2) := by decide +kernel
theorem dX0_wordsMatch_9 : decode cX0_wordsMatch 9 = .ok (.aload_n 2, 1) := by decide +kernel
theorem dX0_wordsMatch_10 : decode cX0_wordsMatch 10 = .ok (.iload_n 3, 1) := by decide +kernel
theorem dX0_wordsMatch_11 : decode cX0_wordsMatch 11 = .ok (.invokevirtual 72, 3) := by decide +kernel
theorem dX0_wordsMatch_14 : decode cX0_wordsMatch 14 = .ok (.if_icmp .eq 5, 3) := by decide +kernel
theorem dX0_wordsMatch_17 : decode cX0_wordsMatch 17 = .ok (.iconst 0, 1) := by decide +kernel
theorem dX0_wordsMatch_18 : decode cX0_wordsMatch 18 = .ok (.ireturn, 1) := by decide +kernel
theorem dX0_wordsMatch_19 : decode cX0_wordsMatch 19 = .ok (.iload 4, 2) := by decide +kernel
theorem dX0_wordsMatch_21 : decode cX0_wordsMatch 21 = .ok (.ifCond .ne 16, 3) := by decide +kernel
theorem dX0_wordsMatch_24 : decode cX0_wordsMatch 24 = .ok (.aload_n 0, 1) := by decide +kernel
theorem dX0_wordsMatch_25 : decode cX0_wordsMatch 25 = .ok (.iload_n 1, 1) := by decide +kernel
theorem dX0_wordsMatch_26 : decode cX0_wordsMatch 26 = .ok (.invokevirtual 76, 3) := by decide +kernel
theorem dX0_wordsMatch_29 : decode cX0_wordsMatch 29 = .ok (.aload_n 2, 1) := by decide +kernel
theorem dX0_wordsMatch_30 : decode cX0_wordsMatch 30 = .ok (.iload_n 3, 1) := by decide +kernel
theorem dX0_wordsMatch_31 : decode cX0_wordsMatch 31 = .ok (.invokevirtual 76, 3) := by decide +kernel
theorem dX0_wordsMatch_34 : decode cX0_wordsMatch 34 = .ok (.if_icmp .ne 7, 3) := by decide +kernel
theorem dX0_wordsMatch_37 : decode cX0_wordsMatch 37 = .ok (.iconst 1, 1) := by decide +kernel
theorem dX0_wordsMatch_38 : decode cX0_wordsMatch 38 = .ok (.goto 4, 3) := by decide +kernel
theorem dX0_wordsMatch_41 : decode cX0_wordsMatch 41 = .ok (.iconst 0, 1) := by decide +kernel
theorem dX0_wordsMatch_42 : decode cX0_wordsMatch 42 = .ok (.ireturn, 1) := by decide +kernel
set_option maxRecDepth 20000 in
theorem ggX0_takeLongestRun_X0_isFree : GoodIn wsX0_takeLongestRun wsX0_isFree := goodIn_r _ [10, 4, 5, 11, 12, 13, 14, 15, 16] (by decide +kernel) (by decide +kernel)
set_option maxRecDepth 20000 in
theorem gX0_takeLongestRun_X0_isFree : GoodIn wsX0_takeLongestRun (wsV RX0 61 RX0 yX0_isFree wsX0_isFree) := goodIn_app (goodIn_of _ (by decide +kernel)) ggX0_takeLongestRun_X0_isFree
theorem dX0_takeLongestRun_0 : decode cX0_takeLongestRun 0 = .ok (.iconst 0, 1) := by decide +kernel
theorem dX0_takeLongestRun_1 : decode cX0_takeLongestRun 1 = .ok (.istore_n 1, 1) := by decide +kernel
theorem dX0_takeLongestRun_2 : decode cX0_takeLongestRun 2 = .ok (.iload_n 1, 1) := by decide +kernel
theorem dX0_takeLongestRun_3 : decode cX0_takeLongestRun 3 = .ok (.aload_n 0, 1) := by decide +kernel
theorem dX0_takeLongestRun_4 : decode cX0_takeLongestRun 4 = .ok (.getfield 29, 3) := by decide +kernel
theorem dX0_takeLongestRun_7 : decode cX0_takeLongestRun 7 = .ok (.if_icmp .ge 52, 3) := by decide +kernel
theorem dX0_takeLongestRun_10 : decode cX0_takeLongestRun 10 = .ok (.aload_n 0, 1) := by decide +kernel
theorem dX0_takeLongestRun_11 : decode cX0_takeLongestRun 11 = .ok (.aload_n 0, 1) := by decide +kernel
theorem dX0_takeLongestRun_12 : decode cX0_takeLongestRun 12 = .ok (.getfield 22, 3) := by decide +kernel
theorem dX0_takeLongestRun_15 : decode cX0_takeLongestRun 15 = .ok (.iload_n 1, 1) := by decide +kernel
theorem dX0_takeLongestRun_16 : decode cX0_takeLongestRun 16 = .ok (.iadd, 1) := by decide +kernel
theorem dX0_takeLongestRun_17 : decode cX0_takeLongestRun 17 = .ok (.aload_n 0, 1) := by decide +kernel
theorem dX0_takeLongestRun_18 : decode cX0_takeLongestRun 18 = .ok (.getfield 26, 3) := by decide +kernel
theorem dX0_takeLongestRun_21 : decode cX0_takeLongestRun 21 = .ok (.iload_n 1, 1) := by decide +kernel
theorem dX0_takeLongestRun_22 : decode cX0_takeLongestRun 22 = .ok (.iadd, 1) := by decide +kernel
theorem dX0_takeLongestRun_23 : decode cX0_takeLongestRun 23 = .ok (.invokevirtual 61, 3) := by decide +kernel
theorem dX0_takeLongestRun_26 : decode cX0_takeLongestRun 26 = .ok (.ifCond .eq 27, 3) := by decide +kernel
theorem dX0_takeLongestRun_29 : decode cX0_takeLongestRun 29 = .ok (.aload_n 0, 1) := by decide +kernel
theorem dX0_takeLongestRun_30 : decode cX0_takeLongestRun 30 = .ok (.getfield 9, 3) := by decide +kernel
theorem dX0_takeLongestRun_33 : decode cX0_takeLongestRun 33 = .ok (.aload_n 0, 1) := by decide +kernel
theorem dX0_takeLongestRun_34 : decode cX0_takeLongestRun 34 = .ok (.getfield 22, 3) := by decide +kernel
theorem dX0_takeLongestRun_37 : decode cX0_takeLongestRun 37 = .ok (.iload_n 1, 1) := by decide +kernel
theorem dX0_takeLongestRun_38 : decode cX0_takeLongestRun 38 = .ok (.iadd, 1) := by decide +kernel
theorem dX0_takeLongestRun_39 : decode cX0_takeLongestRun 39 = .ok (.iconst 1, 1) := by decide +kernel
theorem dX0_takeLongestRun_40 : decode cX0_takeLongestRun 40 = .ok (.bastore, 1) := by decide +kernel
theorem dX0_takeLongestRun_41 : decode cX0_takeLongestRun 41 = .ok (.aload_n 0, 1) := by decide +kernel
theorem dX0_takeLongestRun_42 : decode cX0_takeLongestRun 42 = .ok (.getfield 15, 3) := by decide +kernel
theorem dX0_takeLongestRun_45 : decode cX0_takeLongestRun 45 = .ok (.aload_n 0, 1) := by decide +kernel
theorem dX0_takeLongestRun_46 : decode cX0_takeLongestRun 46 = .ok (.getfield 26, 3) := by decide +kernel
theorem dX0_takeLongestRun_49 : decode cX0_takeLongestRun 49 = .ok (.iload_n 1, 1) := by decide +kernel
theorem dX0_takeLongestRun_50 : decode cX0_takeLongestRun 50 = .ok (.iadd, 1) := by decide +kernel
theorem dX0_takeLongestRun_51 : decode cX0_takeLongestRun 51 = .ok (.iconst 1, 1) := by decide +kernel
theorem dX0_takeLongestRun_52 : decode cX0_takeLongestRun 52 = .ok (.bastore, 1) := by decide +kernel
theorem dX0_takeLongestRun_53 : decode cX0_takeLongestRun 53 = .ok (.iinc 1 1, 3) := by decide +kernel
theorem dX0_takeLongestRun_56 : decode cX0_takeLongestRun 56 = .ok (.goto (-54), 3) := by decide +kernel
theorem dX0_takeLongestRun_59 : decode cX0_takeLongestRun 59 = .ok (.return_, 1) := by decide +kernel
theorem dX1_init_0 : decode cX1_init 0 = .ok (.aload_n 0, 1) := by decide +kernel
theorem dX1_init_1 : decode cX1_init 1 = .ok (.invokespecial 3, 3) := by decide +kernel
theorem dX1_init_4 : decode cX1_init 4 = .ok (.aload_n 0, 1) := by decide +kernel
theorem dX1_init_5 : decode cX1_init 5 = .ok (.bipush 48, 2) := by decide +kernel
theorem dX1_init_7 : decode cX1_init 7 = .ok (.newarray .int, 2) := by decide +kernel
theorem dX1_init_9 : decode cX1_init 9 = .ok (.putfield 9, 3) := by decide +kernel
theorem dX1_init_12 : decode cX1_init 12 = .ok (.aload_n 0, 1) := by decide +kernel
theorem dX1_init_13 : decode cX1_init 13 = .ok (.bipush 48, 2) := by decide +kernel
theorem dX1_init_15 : decode cX1_init 15 = .ok (.newarray .int, 2) := by decide +kernel
theorem dX1_init_17 : decode cX1_init 17 = .ok (.putfield 15, 3) := by decide +kernel
theorem dX1_init_20 : decode cX1_init 20 = .ok (.aload_n 0, 1) := by decide +kernel
theorem dX1_init_21 : decode cX1_init 21 = .ok (.bipush 48, 2) := by decide +kernel
theorem dX1_init_23 : decode cX1_init 23 = .ok (.newarray .int, 2) := by decide +kernel
theorem dX1_init_25 : decode cX1_init 25 = .ok (.putfield 18, 3) := by decide +kernel
theorem dX1_init_28 : decode cX1_init 28 = .ok (.aload_n 0, 1) := by decide +kernel
theorem dX1_init_29 : decode cX1_init 29 = .ok (.iconst 0, 1) := by decide +kernel
theorem dX1_init_30 : decode cX1_init 30 = .ok (.putfield 21, 3) := by decide +kernel
theorem dX1_init_33 : decode cX1_init 33 = .ok (.return_, 1) := by decide +kernel
theorem dX1_size_0 : decode cX1_size 0 = .ok (.aload_n 0, 1) := by decide +kernel
theorem dX1_size_1 : decode cX1_size 1 = .ok (.getfield 21, 3) := by decide +kernel
theorem dX1_size_4 : decode cX1_size 4 = .ok (.ireturn, 1) := by decide +kernel
theorem dX1_has_0 : decode cX1_has 0 = .ok (.iload_n 1, 1) := by decide +kernel
theorem dX1_has_1 : decode cX1_has 1 = .ok (.ifCond .lt 15, 3) := by decide +kernel
theorem dX1_has_4 : decode cX1_has 4 = .ok (.iload_n 1, 1) := by decide +kernel
theorem dX1_has_5 : decode cX1_has 5 = .ok (.aload_n 0, 1) := by decide +kernel
theorem dX1_has_6 : decode cX1_has 6 = .ok (.getfield 21, 3) := by decide +kernel
theorem dX1_has_9 : decode cX1_has 9 = .ok (.if_icmp .ge 7, 3) := by decide +kernel
theorem dX1_has_12 : decode cX1_has 12 = .ok (.iconst 1, 1) := by decide +kernel
theorem dX1_has_13 : decode cX1_has 13 = .ok (.goto 4, 3) := by decide +kernel
theorem dX1_has_16 : decode cX1_has 16 = .ok (.iconst 0, 1) := by decide +kernel
theorem dX1_has_17 : decode cX1_has 17 = .ok (.ireturn, 1) := by decide +kernel
set_option maxRecDepth 20000 in
theorem ggX1_oldStart_X1_has : GoodIn wsX1_oldStart wsX1_has := goodIn_r _ [6, 7, 8, 9, 10, 11] (by decide +kernel) (by decide +kernel)
set_option maxRecDepth 20000 in
theorem gX1_oldStart_X1_has : GoodIn wsX1_oldStart (wsV RX1 25 RX1 yX1_has wsX1_has) := goodIn_app (goodIn_of _ (by decide +kernel)) ggX1_oldStart_X1_has
theorem dX1_oldStart_0 : decode cX1_oldStart 0 = .ok (.aload_n 0, 1) := by decide +kernel
theorem dX1_oldStart_1 : decode cX1_oldStart 1 = .ok (.iload_n 1, 1) := by decide +kernel
theorem dX1_oldStart_2 : decode cX1_oldStart 2 = .ok (.invokevirtual 25, 3) := by decide +kernel
theorem dX1_oldStart_5 : decode cX1_oldStart 5 = .ok (.ifCond .eq 12, 3) := by decide +kernel
theorem dX1_oldStart_8 : decode cX1_oldStart 8 = .ok (.aload_n 0, 1) := by decide +kernel
theorem dX1_oldStart_9 : decode cX1_oldStart 9 = .ok (.getfield 9, 3) := by decide +kernel
theorem dX1_oldStart_12 : decode cX1_oldStart 12 = .ok (.iload_n 1, 1) := by decide +kernel
theorem dX1_oldStart_13 : decode cX1_oldStart 13 = .ok (.iaload, 1) := by decide +kernel
theorem dX1_oldStart_14 : decode cX1_oldStart 14 = .ok (.goto 4, 3) := by decide +kernel
theorem dX1_oldStart_17 : decode cX1_oldStart 17 = .ok (.iconst 0, 1) := by decide +kernel
theorem dX1_oldStart_18 : decode cX1_oldStart 18 = .ok (.ireturn, 1) := by decide +kernel
set_option maxRecDepth 20000 in
theorem ggX1_newStart_X1_has : GoodIn wsX1_newStart wsX1_has := goodIn_r _ [6, 7, 8, 9, 10, 11] (by decide +kernel) (by decide +kernel)
set_option maxRecDepth 20000 in
theorem gX1_newStart_X1_has : GoodIn wsX1_newStart (wsV RX1 25 RX1 yX1_has wsX1_has) := goodIn_app (goodIn_of _ (by decide +kernel)) ggX1_newStart_X1_has
theorem dX1_newStart_0 : decode cX1_newStart 0 = .ok (.aload_n 0, 1) := by decide +kernel
theorem dX1_newStart_1 : decode cX1_newStart 1 = .ok (.iload_n 1, 1) := by decide +kernel
theorem dX1_newStart_2 : decode cX1_newStart 2 = .ok (.invokevirtual 25, 3) := by decide +kernel
theorem dX1_newStart_5 : decode cX1_newStart 5 = .ok (.ifCond .eq 12, 3) := by decide +kernel
theorem dX1_newStart_8 : decode cX1_newStart 8 = .ok (.aload_n 0, 1) := by decide +kernel
theorem dX1_newStart_9 : decode cX1_newStart 9 = .ok (.getfield 15, 3) := by decide +kernel
theorem dX1_newStart_12 : decode cX1_newStart 12 = .ok (.iload_n 1, 1) := by decide +kernel
theorem dX1_newStart_13 : decode cX1_newStart 13 = .ok (.iaload, 1) := by decide +kernel
theorem dX1_newStart_14 : decode cX1_newStart 14 = .ok (.goto 4, 3) := by decide +kernel
theorem dX1_newStart_17 : decode cX1_newStart 17 = .ok (.iconst 0, 1) := by decide +kernel
theorem dX1_newStart_18 : decode cX1_newStart 18 = .ok (.ireturn, 1) := by decide +kernel
set_option maxRecDepth 20000 in
theorem ggX1_length_X1_has : GoodIn wsX1_length wsX1_has := goodIn_r _ [6, 7, 8, 9, 10, 11] (by decide +kernel) (by decide +kernel)
set_option maxRecDepth 20000 in
theorem gX1_length_X1_has : GoodIn wsX1_length (wsV RX1 25 RX1 yX1_has wsX1_has) := goodIn_app (goodIn_of _ (by decide +kernel)) ggX1_length_X1_has
theorem dX1_length_0 : decode cX1_length 0 = .ok (.aload_n 0, 1) := by decide +kernel
theorem dX1_length_1 : decode cX1_length 1 = .ok (.iload_n 1, 1) := by decide +kernel
theorem dX1_length_2 : decode cX1_length 2 = .ok (.invokevirtual 25, 3) := by decide +kernel
theorem dX1_length_5 : decode cX1_length 5 = .ok (.ifCond .eq 12, 3) := by decide +kernel
theorem dX1_length_8 : decode cX1_length 8 = .ok (.aload_n 0, 1) := by decide +kernel
theorem dX1_length_9 : decode cX1_length 9 = .ok (.getfield 18, 3) := by decide +kernel
theorem dX1_length_12 : decode cX1_length 12 = .ok (.iload_n 1, 1) := by decide +kernel
theorem dX1_length_13 : decode cX1_length 13 = .ok (.iaload, 1) := by decide +kernel
theorem dX1_length_14 : decode cX1_length 14 = .ok (.goto 4, 3) := by decide +kernel
theorem dX1_length_17 : decode cX1_length 17 = .ok (.iconst 0, 1) := by decide +kernel
theorem dX1_length_18 : decode cX1_length 18 = .ok (.ireturn, 1) := by decide +kernel
set_option maxRecDepth 20000 in
theorem ggX1_oldIndex_X1_newStart : GoodIn wsX1_oldIndex wsX1_newStart := goodIn_r _ [5, 6, 7, 8, 9, 4, 10, 11, 17, 18, 19, 20] (by decide +kernel) (by decide +kernel)
set_option maxRecDepth 20000 in
theorem gX1_oldIndex_X1_newStart : GoodIn wsX1_oldIndex (wsV RX1 29 RX1 yX1_newStart wsX1_newStart) := goodIn_app (goodIn_of _ (by decide +kernel)) ggX1_oldIndex_X1_newStart
set_option maxRecDepth 20000 in
theorem ggX1_oldIndex_X1_oldStart : GoodIn wsX1_oldIndex wsX1_oldStart := goodIn_r _ [15, 16, 7, 8, 9, 4, 10, 11, 17, 18, 19, 20] (by decide +kernel) (by decide +kernel)
set_option maxRecDepth 20000 in
theorem gX1_oldIndex_X1_oldStart : GoodIn wsX1_oldIndex (wsV RX1 33 RX1 yX1_oldStart wsX1_oldStart) := goodIn_app (goodIn_of _ (by decide +kernel)) ggX1_oldIndex_X1_oldStart
theorem dX1_oldIndex_0 : decode cX1_oldIndex 0 = .ok (.iload_n 2, 1) := by decide +kernel
theorem dX1_oldIndex_1 : decode cX1_oldIndex 1 = .ok (.aload_n 0, 1) := by decide +kernel
theorem dX1_oldIndex_2 : decode cX1_oldIndex 2 = .ok (.iload_n 1, 1) := by decide +kernel
theorem dX1_oldIndex_3 : decode cX1_oldIndex 3 = .ok (.invokevirtual 29, 3) := by decide +kernel
theorem dX1_oldIndex_6 : decode cX1_oldIndex 6 = .ok (.isub, 1) := by decide +kernel
theorem dX1_oldIndex_7 : decode cX1_oldIndex 7 = .ok (.aload_n 0, 1) := by decide +kernel
theorem dX1_oldIndex_8 : decode cX1_oldIndex 8 = .ok (.iload_n 1, 1) := by decide +kernel
theorem dX1_oldIndex_9 : decode cX1_oldIndex 9 = .ok (.invokevirtual 33, 3) := by decide +kernel
theorem dX1_oldIndex_12 : decode cX1_oldIndex 12 = .ok (.iadd, 1) := by decide +kernel
theorem dX1_oldIndex_13 : decode cX1_oldIndex 13 = .ok (.ireturn, 1) := by decide +kernel
set_option maxRecDepth 20000 in
theorem ggX1_covers_X1_newStart : GoodIn wsX1_covers wsX1_newStart := goodIn_r _ [5, 6, 7, 8, 9, 4, 10, 11, 17, 18, 19, 20] (by decide +kernel) (by decide +kernel)
set_option maxRecDepth 20000 in
theorem gX1_covers_X1_newStart : GoodIn wsX1_covers (wsV RX1 29 RX1 yX1_newStart wsX1_newStart) := goodIn_app (goodIn_of _ (by decide +kernel)) ggX1_covers_X1_newStart
set_option maxRecDepth 20000 in
theorem ggX1_covers_X1_length : GoodIn wsX1_covers wsX1_length := goodIn_r _ [15, 16, 7, 8, 9, 4, 10, 11, 17, 18, 19, 20] (by decide +kernel) (by decide +kernel)
set_option maxRecDepth 20000 in
theorem gX1_covers_X1_length : GoodIn wsX1_covers (wsV RX1 36 RX1 yX1_length wsX1_length) := goodIn_app (goodIn_of _ (by decide +kernel)) ggX1_covers_X1_length
theorem dX1_covers_0 : decode cX1_covers 0 = .ok (.aload_n 0, 1) := by decide +kernel
theorem dX1_covers_1 : decode cX1_covers 1 = .ok (.iload_n 1, 1) := by decide +kernel
theorem dX1_covers_2 : decode cX1_covers 2 = .ok (.invokevirtual 29, 3) := by decide +kernel
theorem dX1_covers_5 : decode cX1_covers 5 = .ok (.istore_n 3, 1) := by decide +kernel
theorem dX1_covers_6 : decode cX1_covers 6 = .ok (.iload_n 2, 1) := by decide +kernel
theorem dX1_covers_7 : decode cX1_covers 7 = .ok (.iload_n 3, 1) := by decide +kernel
theorem dX1_covers_8 : decode cX1_covers 8 = .ok (.if_icmp .lt 18, 3) := by decide +kernel
theorem dX1_covers_11 : decode cX1_covers 11 = .ok (.iload_n 2, 1) := by decide +kernel
theorem dX1_covers_12 : decode cX1_covers 12 = .ok (.iload_n 3, 1) := by decide +kernel
theorem dX1_covers_13 : decode cX1_covers 13 = .ok (.aload_n 0, 1) := by decide +kernel
theorem dX1_covers_14 : decode cX1_covers 14 = .ok (.iload_n 1, 1) := by decide +kernel
theorem dX1_covers_15 : decode cX1_covers 15 = .ok (.invokevirtual 36, 3) := by decide +kernel
theorem dX1_covers_18 : decode cX1_covers 18 = .ok (.iadd, 1) := by decide +kernel
theorem dX1_covers_19 : decode cX1_covers 19 = .ok (.if_icmp .ge 7, 3) := by decide +kernel
theorem dX1_covers_22 : decode cX1_covers 22 = .ok (.iconst 1, 1) := by decide +kernel
theorem dX1_covers_23 : decode cX1_covers 23 = .ok (.goto 4, 3) := by decide +kernel
theorem dX1_covers_26 : decode cX1_covers 26 = .ok (.iconst 0, 1) := by decide +kernel
theorem dX1_covers_27 : decode cX1_covers 27 = .ok (.ireturn, 1) := by decide +kernel
set_option maxRecDepth 20000 in
theorem ggX1_withNewIndex_X1_covers : GoodIn wsX1_withNewIndex wsX1_covers := goodIn_r _ [6, 7, 8, 9, 5, 10, 11, 12, 13, 14, 15, 1, 16, 17, 18, 19, 20, 21, 22, 23, 24] (by decide +kernel) (by decide +kernel)
set_option maxRecDepth 20000 in
theorem gX1_withNewIndex_X1_covers : GoodIn wsX1_withNewIndex (wsV RX1 39 RX1 yX1_covers wsX1_covers) := goodIn_app (goodIn_of _ (by decide +kernel)) ggX1_withNewIndex_X1_covers
theorem dX1_withNewIndex_0 : decode cX1_withNewIndex 0 = .ok (.iconst 0, 1) := by decide +kernel
theorem dX1_withNewIndex_1 : decode cX1_withNewIndex 1 = .ok (.istore_n 2, 1) := by decide +kernel
theorem dX1_withNewIndex_2 : decode cX1_withNewIndex 2 = .ok (.iload_n 2, 1) := by decide +kernel
theorem dX1_withNewIndex_3 : decode cX1_withNewIndex 3 = .ok (.aload_n 0, 1) := by decide +kernel
theorem dX1_withNewIndex_4 : decode cX1_withNewIndex 4 = .ok (.getfield 21, 3) := by decide +kernel
theorem dX1_withNewIndex_7 : decode cX1_withNewIndex 7 = .ok (.if_icmp .ge 20, 3) := by decide +kernel
theorem dX1_withNewIndex_10 : decode cX1_withNewIndex 10 = .ok (.aload_n 0, 1) := by decide +kernel
theorem dX1_withNewIndex_11 : decode cX1_withNewIndex 11 = .ok (.iload_n 2, 1) := by decide +kernel
theorem dX1_withNewIndex_12 : decode cX1_withNewIndex 12 = .ok (.iload_n 1, 1) := by decide +kernel
theorem dX1_withNewIndex_13 : decode cX1_withNewIndex 13 = .ok (.invokevirtual 39, 3) := by decide +kernel
theorem dX1_withNewIndex_16 : decode cX1_withNewIndex 16 = .ok (.ifCond .eq 5, 3) := by decide +kernel
theorem dX1_withNewIndex_19 : decode cX1_withNewIndex 19 = .ok (.iload_n 2, 1) := by decide +kernel
theorem dX1_withNewIndex_20 : decode cX1_withNewIndex 20 = .ok (.ireturn, 1) := by decide +kernel
theorem dX1_withNewIndex_21 : decode cX1_withNewIndex 21 = .ok (.iinc 2 1, 3) := by decide +kernel
theorem dX1_withNewIndex_24 : decode cX1_withNewIndex 24 = .ok (.goto (-22), 3) := by decide +kernel
theorem dX1_withNewIndex_27 : decode cX1_withNewIndex 27 = .ok (.iconst (-1), 1) := by decide +kernel
theorem dX1_withNewIndex_28 : decode cX1_withNewIndex 28 = .ok (.ireturn, 1) := by decide +kernel
set_option maxRecDepth 20000 in
theorem ggX1_moved_X1_oldStart : GoodIn wsX1_moved wsX1_oldStart := goodIn_r _ [6, 7, 8, 9, 10, 5, 11, 1, 17, 18, 19, 20] (by decide +kernel) (by decide +kernel)
set_option maxRecDepth 20000 in
theorem gX1_moved_X1_oldStart : GoodIn wsX1_moved (wsV RX1 33 RX1 yX1_oldStart wsX1_oldStart) := goodIn_app (goodIn_of _ (by decide +kernel)) ggX1_moved_X1_oldStart
set_option maxRecDepth 20000 in
theorem ggX1_moved_X1_newStart : GoodIn wsX1_moved wsX1_newStart := goodIn_r _ [15, 16, 8, 9, 10, 5, 11, 1, 17, 18, 19, 20] (by decide +kernel) (by decide +kernel)
set_option maxRecDepth 20000 in
theorem gX1_moved_X1_newStart : GoodIn wsX1_moved (wsV RX1 29 RX1 yX1_newStart wsX1_newStart) := goodIn_app (goodIn_of _ (by decide +kernel)) ggX1_moved_X1_newStart
theorem dX1_moved_0 : decode cX1_moved 0 = .ok (.iconst (-1), 1) := by decide +kernel
theorem dX1_moved_1 : decode cX1_moved 1 = .ok (.istore_n 2, 1) := by decide +kernel
theorem dX1_moved_2 : decode cX1_moved 2 = .ok (.iconst 0, 1) := by decide +kernel
theorem dX1_moved_3 : decode cX1_moved 3 = .ok (.istore_n 3, 1) := by decide +kernel
theorem dX1_moved_4 : decode cX1_moved 4 = .ok (.iload_n 3, 1) := by decide +kernel
theorem dX1_moved_5 : decode cX1_moved 5 = .ok (.aload_n 0, 1) := by decide +kernel
theorem dX1_moved_6 : decode cX1_moved 6 = .ok (.getfield 21, 3) := by decide +kernel
theorem dX1_moved_9 : decode cX1_moved 9 = .ok (.if_icmp .ge 39, 3) := by decide +kernel
theorem dX1_moved_12 : decode cX1_moved 12 = .ok (.aload_n 0, 1) := by decide +kernel
theorem dX1_moved_13 : decode cX1_moved 13 = .ok (.iload_n 3, 1) := by decide +kernel
theorem dX1_moved_14 : decode cX1_moved 14 = .ok (.invokevirtual 33, 3) := by decide +kernel
theorem dX1_moved_17 : decode cX1_moved 17 = .ok (.istore 4, 2) := by decide +kernel
theorem dX1_moved_19 : decode cX1_moved 19 = .ok (.iload 4, 2) := by decide +kernel
theorem dX1_moved_21 : decode cX1_moved 21 = .ok (.iload_n 1, 1) := by decide +kernel
theorem dX1_moved_22 : decode cX1_moved 22 = .ok (.if_icmp .gt 20, 3) := by decide +kernel
theorem dX1_moved_25 : decode cX1_moved 25 = .ok (.iload_n 2, 1) := by decide +kernel
theorem dX1_moved_26 : decode cX1_moved 26 = .ok (.iconst (-1), 1) := by decide +kernel
theorem dX1_moved_27 : decode cX1_moved 27 = .ok (.if_icmp .eq 13, 3) := by decide +kernel
theorem dX1_moved_30 : decode cX1_moved 30 = .ok (.iload 4, 2) := by decide +kernel
theorem dX1_moved_32 : decode cX1_moved 32 = .ok (.aload_n 0, 1) := by decide +kernel
theorem dX1_moved_33 : decode cX1_moved 33 = .ok (.iload_n 2, 1) := by decide +kernel
theorem dX1_moved_34 : decode cX1_moved 34 = .ok (.invokevirtual 33, 3) := by decide +kernel
theorem dX1_moved_37 : decode cX1_moved 37 = .ok (.if_icmp .le 5, 3) := by decide +kernel
theorem dX1_moved_40 : decode cX1_moved 40 = .ok (.iload_n 3, 1) := by decide +kernel
theorem dX1_moved_41 : decode cX1_moved 41 = .ok (.istore_n 2, 1) := by decide +kernel
theorem dX1_moved_42 : decode cX1_moved 42 = .ok (.iinc 3 1, 3) := by decide +kernel
theorem dX1_moved_45 : decode cX1_moved 45 = .ok (.goto (-41), 3) := by decide +kernel
theorem dX1_moved_48 : decode cX1_moved 48 = .ok (.iload_n 2, 1) := by decide +kernel
theorem dX1_moved_49 : decode cX1_moved 49 = .ok (.iconst (-1), 1) := by decide +kernel
theorem dX1_moved_50 : decode cX1_moved 50 = .ok (.if_icmp .ne 7, 3) := by decide +kernel
theorem dX1_moved_53 : decode cX1_moved 53 = .ok (.iload_n 1, 1) := by decide +kernel
theorem dX1_moved_54 : decode cX1_moved 54 = .ok (.goto 16, 3) := by decide +kernel
theorem dX1_moved_57 : decode cX1_moved 57 = .ok (.iload_n 1, 1) := by decide +kernel
theorem dX1_moved_58 : decode cX1_moved 58 = .ok (.aload_n 0, 1) := by decide +kernel
theorem dX1_moved_59 : decode cX1_moved 59 = .ok (.iload_n 2, 1) := by decide +kernel
theorem dX1_moved_60 : decode cX1_moved 60 = .ok (.invokevirtual 29, 3) := by decide +kernel
theorem dX1_moved_63 : decode cX1_moved 63 = .ok (.iadd, 1) := by decide +kernel
theorem dX1_moved_64 : decode cX1_moved 64 = .ok (.aload_n 0, 1) := by decide +kernel
theorem dX1_moved_65 : decode cX1_moved 65 = .ok (.iload_n 2, 1) := by decide +kernel
theorem dX1_moved_66 : decode cX1_moved 66 = .ok (.invokevirtual 33, 3) := by decide +kernel
theorem dX1_moved_69 : decode cX1_moved 69 = .ok (.isub, 1) := by decide +kernel
theorem dX1_moved_70 : decode cX1_moved 70 = .ok (.ireturn, 1) := by decide +kernel
set_option maxRecDepth 20000 in
theorem ggX1_mustGoBefore_X1_newStart : GoodIn wsX1_mustGoBefore wsX1_newStart := goodIn_r _ [5, 6, 7, 8, 9, 4, 10, 11, 22, 23, 24, 25] (by decide +kernel) (by decide +kernel)
set_option maxRecDepth 20000 in
theorem gX1_mustGoBefore_X1_newStart : GoodIn wsX1_mustGoBefore (wsV RX1 29 RX1 yX1_newStart wsX1_newStart) := goodIn_app (goodIn_of _ (by decide +kernel)) ggX1_mustGoBefore_X1_newStart
set_option maxRecDepth 20000 in
theorem ggX1_mustGoBefore_X1_oldStart : GoodIn wsX1_mustGoBefore wsX1_oldStart := goodIn_r _ [15, 16, 7, 8, 9, 4, 10, 11, 22, 23, 24, 25] (by decide +kernel) (by decide +kernel)
set_option maxRecDepth 20000 in
theorem gX1_mustGoBefore_X1_oldStart : GoodIn wsX1_mustGoBefore (wsV RX1 33 RX1 yX1_oldStart wsX1_oldStart) := goodIn_app (goodIn_of _ (by decide +kernel)) ggX1_mustGoBefore_X1_oldStart
set_option maxRecDepth 20000 in
theorem ggX1_mustGoBefore_X1_length : GoodIn wsX1_mustGoBefore wsX1_length := goodIn_r _ [20, 21, 7, 8, 9, 4, 10, 11, 22, 23, 24, 25] (by decide +kernel) (by decide +kernel)
set_option maxRecDepth 20000 in
theorem gX1_mustGoBefore_X1_length : GoodIn wsX1_mustGoBefore (wsV RX1 36 RX1 yX1_length wsX1_length) := goodIn_app (goodIn_of _ (by decide +kernel)) ggX1_mustGoBefore_X1_length
theorem dX1_mustGoBefore_0 : decode cX1_mustGoBefore 0 = .ok (.iload_n 1, 1) := by decide +kernel
theorem dX1_mustGoBefore_1 : decode cX1_mustGoBefore 1 = .ok (.iload_n 2, 1) := by decide +kernel
theorem dX1_mustGoBefore_2 : decode cX1_mustGoBefore 2 = .ok (.if_icmp .eq 45, 3) := by decide +kernel
theorem dX1_mustGoBefore_5 : decode cX1_mustGoBefore 5 = .ok (.aload_n 0, 1) := by decide +kernel
theorem dX1_mustGoBefore_6 : decode cX1_mustGoBefore 6 = .ok (.iload_n 2, 1) := by decide +kernel
theorem dX1_mustGoBefore_7 : decode cX1_mustGoBefore 7 = .ok (.invokevirtual 29, 3) := by decide +kernel
theorem dX1_mustGoBefore_10 : decode cX1_mustGoBefore 10 = .ok (.aload_n 0, 1) := by decide +kernel
theorem dX1_mustGoBefore_11 : decode cX1_mustGoBefore 11 = .ok (.iload_n 1, 1) := by decide +kernel
theorem dX1_mustGoBefore_12 : decode cX1_mustGoBefore 12 = .ok (.invokevirtual 33, 3) := by decide +kernel
theorem dX1_mustGoBefore_15 : decode cX1_mustGoBefore 15 = .ok (.aload_n 0, 1) := by decide +kernel
theorem dX1_mustGoBefore_16 : decode cX1_mustGoBefore 16 = .ok (.iload_n 1, 1) := by decide +kernel
theorem dX1_mustGoBefore_17 : decode cX1_mustGoBefore 17 = .ok (.invokevirtual 36, 3) := by decide +kernel
theorem dX1_mustGoBefore_20 : decode cX1_mustGoBefore 20 = .ok (.iadd, 1) := by decide +kernel
theorem dX1_mustGoBefore_21 : decode cX1_mustGoBefore 21 = .ok (.if_icmp .ge 26, 3) := by decide +kernel
theorem dX1_mustGoBefore_24 : decode cX1_mustGoBefore 24 = .ok (.aload_n 0, 1) := by decide +kernel
theorem dX1_mustGoBefore_25 : decode cX1_mustGoBefore 25 = .ok (.iload_n 1, 1) := by decide +kernel
theorem dX1_mustGoBefore_26 : decode cX1_mustGoBefore 26 = .ok (.invokevirtual 33, 3) := by decide +kernel
theorem dX1_mustGoBefore_29 : decode cX1_mustGoBefore 29 = .ok (.aload_n 0, 1) := by decide +kernel
theorem dX1_mustGoBefore_30 : decode cX1_mustGoBefore 30 = .ok (.iload_n 2, 1) := by decide +kernel
theorem dX1_mustGoBefore_31 : decode cX1_mustGoBefore 31 = .ok (.invokevirtual 29, 3) := by decide +kernel
theorem dX1_mustGoBefore_34 : decode cX1_mustGoBefore 34 = .ok (.aload_n 0, 1) := by decide +kernel
theorem dX1_mustGoBefore_35 : decode cX1_mustGoBefore 35 = .ok (.iload_n 2, 1) := by decide +kernel
theorem dX1_mustGoBefore_36 : decode cX1_mustGoBefore 36 = .ok (.invokevirtual 36, 3) := by decide +kernel
theorem dX1_mustGoBefore_39 : decode cX1_mustGoBefore 39 = .ok (.iadd, 1) := by decide +kernel
theorem dX1_mustGoBefore_40 : decode cX1_mustGoBefore 40 = .ok (.if_icmp .ge 7, 3) := by decide +kernel
theorem dX1_mustGoBefore_43 : decode cX1_mustGoBefore 43 = .ok (.iconst 1, 1) := by decide +kernel
theorem dX1_mustGoBefore_44 : decode cX1_mustGoBefore 44 = .ok (.goto 4, 3) := by decide +kernel
theorem dX1_mustGoBefore_47 : decode cX1_mustGoBefore 47 = .ok (.iconst 0, 1) := by decide +kernel
theorem dX1_mustGoBefore_48 : decode cX1_mustGoBefore 48 = .ok (.ireturn, 1) := by decide +kernel
theorem dX1_removeAll_0 : decode cX1_removeAll 0 = .ok (.aload_n 0, 1) := by decide +kernel
theorem dX1_removeAll_1 : decode cX1_removeAll 1 = .ok (.iconst 0, 1) := by decide +kernel
theorem dX1_removeAll_2 : decode cX1_removeAll 2 = .ok (.putfield 21, 3) := by decide +kernel
theorem dX1_removeAll_5 : decode cX1_removeAll 5 = .ok (.return_, 1) := by decide +kernel
theorem dX1_insert_0 : decode cX1_insert 0 = .ok (.aload_n 0, 1) := by decide +kernel
theorem dX1_insert_1 : decode cX1_insert 1 = .ok (.getfield 21, 3) := by decide +kernel
theorem dX1_insert_4 : decode cX1_insert 4 = .ok (.bipush 48, 2) := by decide +kernel
theorem dX1_insert_6 : decode cX1_insert 6 = .ok (.if_icmp .lt 4, 3) := by decide +kernel
theorem dX1_insert_9 : decode cX1_insert 9 = .ok (.return_, 1) := by decide +kernel
theorem dX1_insert_10 : decode cX1_insert 10 = .ok (.aload_n 0, 1) := by decide +kernel
theorem dX1_insert_11 : decode cX1_insert 11 = .ok (.getfield 21, 3) := by decide +kernel
theorem dX1_insert_14 : decode cX1_insert 14 = .ok (.istore 4, 2) := by decide +kernel
theorem dX1_insert_16 : decode cX1_insert 16 = .ok (.iload 4, 2) := by decide +kernel
theorem dX1_insert_18 : decode cX1_insert 18 = .ok (.ifCond .le 70, 3) := by decide +kernel
theorem dX1_insert_21 : decode cX1_insert 21 = .ok (.aload_n 0, 1) := by decide +kernel
theorem dX1_insert_22 : decode cX1_insert 22 = .ok (.getfield 15, 3) := by decide +kernel
theorem dX1_insert_25 : decode cX1_insert 25 = .ok (.iload 4, 2) := by decide +kernel
theorem dX1_insert_27 : decode cX1_insert 27 = .ok (.iconst 1, 1) := by decide +kernel
theorem dX1_insert_28 : decode cX1_insert 28 = .ok (.isub, 1) := by decide +kernel
theorem dX1_insert_29 : decode cX1_insert 29 = .ok (.iaload, 1) := by decide +kernel
theorem dX1_insert_30 : decode cX1_insert 30 = .ok (.iload_n 2, 1) := by decide +kernel
theorem dX1_insert_31 : decode cX1_insert 31 = .ok (.if_icmp .le 57, 3) := by decide +kernel
theorem dX1_insert_34 : decode cX1_insert 34 = .ok (.aload_n 0, 1) := by decide +kernel
theorem dX1_insert_35 : decode cX1_insert 35 = .ok (.getfield 9, 3) := by decide +kernel
theorem dX1_insert_38 : decode cX1_insert 38 = .ok (.iload 4, 2) := by decide +kernel
theorem dX1_insert_40 : decode cX1_insert 40 = .ok (.aload_n 0, 1) := by decide +kernel
theorem dX1_insert_41 : decode cX1_insert 41 = .ok (.getfield 9, 3) := by decide +kernel
theorem dX1_insert_44 : decode cX1_insert 44 = .ok (.iload 4, 2) := by decide +kernel
theorem dX1_insert_46 : decode cX1_insert 46 = .ok (.iconst 1, 1) := by decide +kernel
theorem dX1_insert_47 : decode cX1_insert 47 = .ok (.isub, 1) := by decide +kernel
theorem dX1_insert_48 : decode cX1_insert 48 = .ok (.iaload, 1) := by decide +kernel
theorem dX1_insert_49 : decode cX1_insert 49 = .ok (.iastore, 1) := by decide +kernel
theorem dX1_insert_50 : decode cX1_insert 50 = .ok (.aload_n 0, 1) := by decide +kernel
theorem dX1_insert_51 : decode cX1_insert 51 = .ok (.getfield 15, 3) := by decide +kernel
theorem dX1_insert_54 : decode cX1_insert 54 = .ok (.iload 4, 2) := by decide +kernel
theorem dX1_insert_56 : decode cX1_insert 56 = .ok (.aload_n 0, 1) := by decide +kernel
theorem dX1_insert_57 : decode cX1_insert 57 = .ok (.getfield 15, 3) := by decide +kernel
theorem dX1_insert_60 : decode cX1_insert 60 = .ok (.iload 4, 2) := by decide +kernel
theorem dX1_insert_62 : decode cX1_insert 62 = .ok (.iconst 1, 1) := by decide +kernel
theorem dX1_insert_63 : decode cX1_insert 63 = .ok (.isub, 1) := by decide +kernel
theorem dX1_insert_64 : decode cX1_insert 64 = .ok (.iaload, 1) := by decide +kernel
theorem dX1_insert_65 : decode cX1_insert 65 = .ok (.iastore, 1) := by decide +kernel
theorem dX1_insert_66 : decode cX1_insert 66 = .ok (.aload_n 0, 1) := by decide +kernel
theorem dX1_insert_67 : decode cX1_insert 67 = .ok (.getfield 18, 3) := by decide +kernel
theorem dX1_insert_70 : decode cX1_insert 70 = .ok (.iload 4, 2) := by decide +kernel
theorem dX1_insert_72 : decode cX1_insert 72 = .ok (.aload_n 0, 1) := by decide +kernel
theorem dX1_insert_73 : decode cX1_insert 73 = .ok (.getfield 18, 3) := by decide +kernel
theorem dX1_insert_76 : decode cX1_insert 76 = .ok (.iload 4, 2) := by decide +kernel
theorem dX1_insert_78 : decode cX1_insert 78 = .ok (.iconst 1, 1) := by decide +kernel
theorem dX1_insert_79 : decode cX1_insert 79 = .ok (.isub, 1) := by decide +kernel
theorem dX1_insert_80 : decode cX1_insert 80 = .ok (.iaload, 1) := by decide +kernel
theorem dX1_insert_81 : decode cX1_insert 81 = .ok (.iastore, 1) := by decide +kernel
theorem dX1_insert_82 : decode cX1_insert 82 = .ok (.iinc 4 (-1), 3) := by decide +kernel
theorem dX1_insert_85 : decode cX1_insert 85 = .ok (.goto (-69), 3) := by decide +kernel
theorem dX1_insert_88 : decode cX1_insert 88 = .ok (.aload_n 0, 1) := by decide +kernel
theorem dX1_insert_89 : decode cX1_insert 89 = .ok (.getfield 9, 3) := by decide +kernel
theorem dX1_insert_92 : decode cX1_insert 92 = .ok (.iload 4, 2) := by decide +kernel
theorem dX1_insert_94 : decode cX1_insert 94 = .ok (.iload_n 1, 1) := by decide +kernel
theorem dX1_insert_95 : decode cX1_insert 95 = .ok (.iastore, 1) := by decide +kernel
theorem dX1_insert_96 : decode cX1_insert 96 = .ok (.aload_n 0, 1) := by decide +kernel
theorem dX1_insert_97 : decode cX1_insert 97 = .ok (.getfield 15, 3) := by decide +kernel
theorem dX1_insert_100 : decode cX1_insert 100 = .ok (.iload 4, 2) := by decide +kernel
theorem dX1_insert_102 : decode cX1_insert 102 = .ok (.iload_n 2, 1) := by decide +kernel
theorem dX1_insert_103 : decode cX1_insert 103 = .ok (.iastore, 1) := by decide +kernel
theorem dX1_insert_104 : decode cX1_insert 104 = .ok (.aload_n 0, 1) := by decide +kernel
theorem dX1_insert_105 : decode cX1_insert 105 = .ok (.getfield 18, 3) := by decide +kernel
theorem dX1_insert_108 : decode cX1_insert 108 = .ok (.iload 4, 2) := by decide +kernel
theorem dX1_insert_110 : decode cX1_insert 110 = .ok (.iload_n 3, 1) := by decide +kernel
theorem dX1_insert_111 : decode cX1_insert 111 = .ok (.iastore, 1) := by decide +kernel
theorem dX1_insert_112 : decode cX1_insert 112 = .ok (.aload_n 0, 1) := by decide +kernel
theorem dX1_insert_113 : decode cX1_insert 113 = .ok (.dup, 1) := by decide +kernel
theorem dX1_insert_114 : decode cX1_insert 114 = .ok (.getfield 21, 3) := by decide +kernel
theorem dX1_insert_117 : decode cX1_insert 117 = .ok (.iconst 1, 1) := by decide +kernel
theorem dX1_insert_118 : decode cX1_insert 118 = .ok (.iadd, 1) := by decide +kernel
theorem dX1_insert_119 : decode cX1_insert 119 = .ok (.putfield 21, 3) := by decide +kernel
theorem dX1_insert_122 : decode cX1_insert 122 = .ok (.return_, 1) := by decide +kernel
theorem dX2_init_0 : decode cX2_init 0 = .ok (.aload_n 0, 1) := by decide +kernel
theorem dX2_init_1 : decode cX2_init 1 = .ok (.invokespecial 3, 3) := by decide +kernel
theorem dX2_init_4 : decode cX2_init 4 = .ok (.aload_n 0, 1) := by decide +kernel
theorem dX2_init_5 : decode cX2_init 5 = .ok (.bipush 48, 2) := by decide +kernel
theorem dX2_init_7 : decode cX2_init 7 = .ok (.newarray .int, 2) := by decide +kernel
theorem dX2_init_9 : decode cX2_init 9 = .ok (.putfield 9, 3) := by decide +kernel
theorem dX2_init_12 : decode cX2_init 12 = .ok (.aload_n 0, 1) := by decide +kernel
theorem dX2_init_13 : decode cX2_init 13 = .ok (.bipush 48, 2) := by decide +kernel
theorem dX2_init_15 : decode cX2_init 15 = .ok (.newarray .boolean, 2) := by decide +kernel
theorem dX2_init_17 : decode cX2_init 17 = .ok (.putfield 15, 3) := by decide +kernel
theorem dX2_init_20 : decode cX2_init 20 = .ok (.aload_n 0, 1) := by decide +kernel
theorem dX2_init_21 : decode cX2_init 21 = .ok (.bipush 48, 2) := by decide +kernel
theorem dX2_init_23 : decode cX2_init 23 = .ok (.newarray .boolean, 2) := by decide +kernel
theorem dX2_init_25 : decode cX2_init 25 = .ok (.putfield 19, 3) := by decide +kernel
theorem dX2_init_28 : decode cX2_init 28 = .ok (.aload_n 0, 1) := by decide +kernel
theorem dX2_init_29 : decode cX2_init 29 = .ok (.iconst 0, 1) := by decide +kernel
theorem dX2_init_30 : decode cX2_init 30 = .ok (.putfield 22, 3) := by decide +kernel
theorem dX2_init_33 : decode cX2_init 33 = .ok (.return_, 1) := by decide +kernel
theorem dX2_steps_0 : decode cX2_steps 0 = .ok (.aload_n 0, 1) := by decide +kernel
theorem dX2_steps_1 : decode cX2_steps 1 = .ok (.getfield 22, 3) := by decide +kernel
theorem dX2_steps_4 : decode cX2_steps 4 = .ok (.ireturn, 1) := by decide +kernel
theorem dX2_hasStep_0 : decode cX2_hasStep 0 = .ok (.iload_n 1, 1) := by decide +kernel
theorem dX2_hasStep_1 : decode cX2_hasStep 1 = .ok (.ifCond .lt 15, 3) := by decide +kernel
theorem dX2_hasStep_4 : decode cX2_hasStep 4 = .ok (.iload_n 1, 1) := by decide +kernel
theorem dX2_hasStep_5 : decode cX2_hasStep 5 = .ok (.aload_n 0, 1) := by decide +kernel
theorem dX2_hasStep_6 : decode cX2_hasStep 6 = .ok (.getfield 22, 3) := by decide +kernel
theorem dX2_hasStep_9 : decode cX2_hasStep 9 = .ok (.if_icmp .ge 7, 3) := by decide +kernel
theorem dX2_hasStep_12 : decode cX2_hasStep 12 = .ok (.iconst 1, 1) := by decide +kernel
theorem dX2_hasStep_13 : decode cX2_hasStep 13 = .ok (.goto 4, 3) := by decide +kernel
theorem dX2_hasStep_16 : decode cX2_hasStep 16 = .ok (.iconst 0, 1) := by decide +kernel
theorem dX2_hasStep_17 : decode cX2_hasStep 17 = .ok (.ireturn, 1) := by decide +kernel
set_option maxRecDepth 20000 in
theorem ggX2_blockOfStep_X2_hasStep : GoodIn wsX2_blockOfStep wsX2_hasStep := goodIn_r _ [6, 7, 8, 9, 10, 11] (by decide +kernel) (by decide +kernel)
set_option maxRecDepth 20000 in
theorem gX2_blockOfStep_X2_hasStep : GoodIn wsX2_blockOfStep (wsV RX2 26 RX2 yX2_hasStep wsX2_hasStep) := goodIn_app (goodIn_of _ (by decide +kernel)) ggX2_blockOfStep_X2_hasStep
theorem dX2_blockOfStep_0 : decode cX2_blockOfStep 0 = .ok (.aload_n 0, 1) := by decide +kernel
theorem dX2_blockOfStep_1 : decode cX2_blockOfStep 1 = .ok (.iload_n 1, 1) := by decide +kernel
theorem dX2_blockOfStep_2 : decode cX2_blockOfStep 2 = .ok (.invokevirtual 26, 3) := by decide +kernel
theorem dX2_blockOfStep_5 : decode cX2_blockOfStep 5 = .ok (.ifCond .eq 12, 3) := by decide +kernel
theorem dX2_blockOfStep_8 : decode cX2_blockOfStep 8 = .ok (.aload_n 0, 1) := by decide +kernel
theorem dX2_blockOfStep_9 : decode cX2_blockOfStep 9 = .ok (.getfield 9, 3) := by decide +kernel
theorem dX2_blockOfStep_12 : decode cX2_blockOfStep 12 = .ok (.iload_n 1, 1) := by decide +kernel
theorem dX2_blockOfStep_13 : decode cX2_blockOfStep 13 = .ok (.iaload, 1) := by decide +kernel
theorem dX2_blockOfStep_14 : decode cX2_blockOfStep 14 = .ok (.goto 4, 3) := by decide +kernel
theorem dX2_blockOfStep_17 : decode cX2_blockOfStep 17 = .ok (.iconst (-1), 1) := by decide +kernel
theorem dX2_blockOfStep_18 : decode cX2_blockOfStep 18 = .ok (.ireturn, 1) := by decide +kernel
theorem dX2_drops_0 : decode cX2_drops 0 = .ok (.iload_n 1, 1) := by decide +kernel
theorem dX2_drops_1 : decode cX2_drops 1 = .ok (.ifCond .lt 22, 3) := by decide +kernel
theorem dX2_drops_4 : decode cX2_drops 4 = .ok (.iload_n 1, 1) := by decide +kernel
theorem dX2_drops_5 : decode cX2_drops 5 = .ok (.bipush 48, 2) := by decide +kernel
theorem dX2_drops_7 : decode cX2_drops 7 = .ok (.if_icmp .ge 16, 3) := by decide +kernel
theorem dX2_drops_10 : decode cX2_drops 10 = .ok (.aload_n 0, 1) := by decide +kernel
theorem dX2_drops_11 : decode cX2_drops 11 = .ok (.getfield 19, 3) := by decide +kernel
theorem dX2_drops_14 : decode cX2_drops 14 = .ok (.iload_n 1, 1) := by decide +kernel
theorem dX2_drops_15 : decode cX2_drops 15 = .ok (.baload, 1) := by decide +kernel
theorem dX2_drops_16 : decode cX2_drops 16 = .ok (.ifCond .eq 7, 3) := by decide +kernel
theorem dX2_drops_19 : decode cX2_drops 19 = .ok (.iconst 1, 1) := by decide +kernel
theorem dX2_drops_20 : decode cX2_drops 20 = .ok (.goto 4, 3) := by decide +kernel
theorem dX2_drops_23 : decode cX2_drops 23 = .ok (.iconst 0, 1) := by decide +kernel
theorem dX2_drops_24 : decode cX2_drops 24 = .ok (.ireturn, 1) := by decide +kernel
set_option maxRecDepth 20000 in
theorem ggX2_origin_X2_blockOfStep : GoodIn wsX2_origin wsX2_blockOfStep := goodIn_r _ [5, 6, 7, 8, 9, 4, 10, 11, 41, 42, 43, 44] (by decide +kernel) (by decide +kernel)
set_option maxRecDepth 20000 in
theorem gX2_origin_X2_blockOfStep : GoodIn wsX2_origin (wsV RX2 30 RX2 yX2_blockOfStep wsX2_blockOfStep) := goodIn_app (goodIn_of _ (by decide +kernel)) ggX2_origin_X2_blockOfStep
set_option maxRecDepth 20000 in
theorem ggX2_origin_X1_covers : GoodIn wsX2_origin wsX1_covers := goodIn_r _ [16, 17, 18, 19, 15, 20, 21, 22, 23, 24, 25, 26, 27, 28, 29, 30, 31, 45, 46, 47, 48] (by decide +kernel) (by decide +kernel)
set_option maxRecDepth 20000 in
theorem gX2_origin_X1_covers : GoodIn wsX2_origin (wsV RX2 34 RX1 yX1_covers wsX1_covers) := goodIn_app (goodIn_of _ (by decide +kernel)) ggX2_origin_X1_covers
set_option maxRecDepth 20000 in
theorem ggX2_origin_X1_oldIndex : GoodIn wsX2_origin wsX1_oldIndex := goodIn_r _ [35, 17, 18, 19, 15, 20, 21, 22, 23, 24, 25, 26, 36, 37, 38, 39, 40, 45, 46, 47, 48] (by decide +kernel) (by decide +kernel)
set_option maxRecDepth 20000 in
theorem gX2_origin_X1_oldIndex : GoodIn wsX2_origin (wsV RX2 40 RX1 yX1_oldIndex wsX1_oldIndex) := goodIn_app (goodIn_of _ (by decide +kernel)) ggX2_origin_X1_oldIndex
theorem dX2_origin_0 : decode cX2_origin 0 = .ok (.iload_n 3, 1) := by decide +kernel
theorem dX2_origin_1 : decode cX2_origin 1 = .ok (.istore 4, 2) := by decide +kernel
theorem dX2_origin_3 : decode cX2_origin 3 = .ok (.iload_n 2, 1) := by decide +kernel
theorem dX2_origin_4 : decode cX2_origin 4 = .ok (.iconst 1, 1) := by decide +kernel
theorem dX2_origin_5 : decode cX2_origin 5 = .ok (.isub, 1) := by decide +kernel
theorem dX2_origin_6 : decode cX2_origin 6 = .ok (.istore 5, 2) := by decide +kernel
theorem dX2_origin_8 : decode cX2_origin 8 = .ok (.iload 5, 2) := by decide +kernel
theorem dX2_origin_10 : decode cX2_origin 10 = .ok (.ifCond .lt 38, 3) := by decide +kernel
theorem dX2_origin_13 : decode cX2_origin 13 = .ok (.aload_n 0, 1) := by decide +kernel
theorem dX2_origin_14 : decode cX2_origin 14 = .ok (.iload 5, 2) := by decide +kernel
theorem dX2_origin_16 : decode cX2_origin 16 = .ok (.invokevirtual 30, 3) := by decide +kernel
theorem dX2_origin_19 : decode cX2_origin 19 = .ok (.istore 6, 2) := by decide +kernel
theorem dX2_origin_21 : decode cX2_origin 21 = .ok (.aload_n 1, 1) := by decide +kernel
theorem dX2_origin_22 : decode cX2_origin 22 = .ok (.iload 6, 2) := by decide +kernel
theorem dX2_origin_24 : decode cX2_origin 24 = .ok (.iload 4, 2) := by decide +kernel
theorem dX2_origin_26 : decode cX2_origin 26 = .ok (.invokevirtual 34, 3) := by decide +kernel
theorem dX2_origin_29 : decode cX2_origin 29 = .ok (.ifCond .eq 13, 3) := by decide +kernel
theorem dX2_origin_32 : decode cX2_origin 32 = .ok (.aload_n 1, 1) := by decide +kernel
theorem dX2_origin_33 : decode cX2_origin 33 = .ok (.iload 6, 2) := by decide +kernel
theorem dX2_origin_35 : decode cX2_origin 35 = .ok (.iload 4, 2) := by decide +kernel
theorem dX2_origin_37 : decode cX2_origin 37 = .ok (.invokevirtual 40, 3) := by decide +kernel
theorem dX2_origin_40 : decode cX2_origin 40 = .ok (.istore 4, 2) := by decide +kernel
theorem dX2_origin_42 : decode cX2_origin 42 = .ok (.iinc 5 (-1), 3) := by decide +kernel
theorem dX2_origin_45 : decode cX2_origin 45 = .ok (.goto (-37), 3) := by decide +kernel
theorem dX2_origin_48 : decode cX2_origin 48 = .ok (.iload 4, 2) := by decide +kernel
theorem dX2_origin_50 : decode cX2_origin 50 = .ok (.ireturn, 1) := by decide +kernel
set_option maxRecDepth 20000 in
theorem ggX2_arrange_X1_has : GoodIn wsX2_arrange wsX1_has := goodIn_r _ [8, 9, 65, 66, 67, 68] (by decide +kernel) (by decide +kernel)
set_option maxRecDepth 20000 in
theorem gX2_arrange_X1_has : GoodIn wsX2_arrange (wsV RX2 44 RX1 yX1_has wsX1_has) := goodIn_app (goodIn_of _ (by decide +kernel)) ggX2_arrange_X1_has
set_option maxRecDepth 20000 in
theorem ggX2_arrange_X1_size : GoodIn wsX2_arrange wsX1_size := goodIn_r _ [13, 9, 65, 66, 67, 68] (by decide +kernel) (by decide +kernel)
set_option maxRecDepth 20000 in
theorem gX2_arrange_X1_size : GoodIn wsX2_arrange (wsV RX2 47 RX1 yX1_size wsX1_size) := goodIn_app (goodIn_of _ (by decide +kernel)) ggX2_arrange_X1_size
set_option maxRecDepth 20000 in
theorem ggX2_arrange_X2_firstReady : GoodIn wsX2_arrange wsX2_firstReady := goodIn_r _ [18, 10, 11, 12, 7, 13, 9, 19, 20, 21, 17, 22, 2, 23, 24, 25, 26, 27, 28, 29, 30, 31, 32, 33, 34, 35, 36, 5, 6, 8, 37, 38, 39, 40, 41, 42, 43, 44, 45, 46, 65, 66, 67, 68, 61, 62, 63, 64] (by decide +kernel) (by decide +kernel)
set_option maxRecDepth 20000 in
theorem gX2_arrange_X2_firstReady : GoodIn wsX2_arrange (wsV RX2 51 RX2 yX2_firstReady wsX2_firstReady) := goodIn_app (goodIn_of _ (by decide +kernel)) ggX2_arrange_X2_firstReady
set_option maxRecDepth 20000 in
theorem ggX2_arrange_X2_copy : GoodIn wsX2_arrange wsX2_copy := goodIn_r _ [50, 1, 2, 51, 19, 20, 21, 17, 22, 61, 62, 63, 64] (by decide +kernel) (by decide +kernel)
set_option maxRecDepth 20000 in
theorem gX2_arrange_X2_copy : GoodIn wsX2_arrange (wsV RX2 55 RX2 yX2_copy wsX2_copy) := goodIn_app (goodIn_of _ (by decide +kernel)) ggX2_arrange_X2_copy
set_option maxRecDepth 20000 in
theorem ggX2_arrange_X2_shortestWaiting : GoodIn wsX2_arrange wsX2_shortestWaiting := goodIn_r _ [55, 10, 11, 12, 7, 13, 9, 19, 20, 21, 17, 22, 2, 56, 43, 44, 45, 46, 36, 5, 6, 8, 65, 66, 67, 68, 61, 62, 63, 64] (by decide +kernel) (by decide +kernel)
set_option maxRecDepth 20000 in
theorem gX2_arrange_X2_shortestWaiting : GoodIn wsX2_arrange (wsV RX2 59 RX2 yX2_shortestWaiting wsX2_shortestWaiting) := goodIn_app (goodIn_of _ (by decide +kernel)) ggX2_arrange_X2_shortestWaiting
set_option maxRecDepth 20000 in
theorem ggX2_arrange_X2_drop : GoodIn wsX2_arrange wsX2_drop := goodIn_r _ [60, 2, 3, 19, 20, 21, 17, 22, 61, 62, 63, 64] (by decide +kernel) (by decide +kernel)
set_option maxRecDepth 20000 in
theorem gX2_arrange_X2_drop : GoodIn wsX2_arrange (wsV RX2 62 RX2 yX2_drop wsX2_drop) := goodIn_app (goodIn_of _ (by decide +kernel)) ggX2_arrange_X2_drop
theorem dX2_arrange_0 : decode cX2_arrange 0 = .ok (.aload_n 0, 1) := by decide +kernel
theorem dX2_arrange_1 : decode cX2_arrange 1 = .ok (.iconst 0, 1) := by decide +kernel
theorem dX2_arrange_2 : decode cX2_arrange 2 = .ok (.putfield 22, 3) := by decide +kernel
theorem dX2_arrange_5 : decode cX2_arrange 5 = .ok (.iconst 0, 1) := by decide +kernel
theorem dX2_arrange_6 : decode cX2_arrange 6 = .ok (.istore_n 2, 1) := by decide +kernel
theorem dX2_arrange_7 : decode cX2_arrange 7 = .ok (.iload_n 2, 1) := by decide +kernel
theorem dX2_arrange_8 : decode cX2_arrange 8 = .ok (.bipush 48, 2) := by decide +kernel
theorem dX2_arrange_10 : decode cX2_arrange 10 = .ok (.if_icmp .ge 27, 3) := by decide +kernel
theorem dX2_arrange_13 : decode cX2_arrange 13 = .ok (.aload_n 0, 1) := by decide +kernel
theorem dX2_arrange_14 : decode cX2_arrange 14 = .ok (.getfield 15, 3) := by decide +kernel
theorem dX2_arrange_17 : decode cX2_arrange 17 = .ok (.iload_n 2, 1) := by decide +kernel
theorem dX2_arrange_18 : decode cX2_arrange 18 = .ok (.aload_n 1, 1) := by decide +kernel
theorem dX2_arrange_19 : decode cX2_arrange 19 = .ok (.iload_n 2, 1) := by decide +kernel
theorem dX2_arrange_20 : decode cX2_arrange 20 = .ok (.invokevirtual 44, 3) := by decide +kernel
theorem dX2_arrange_23 : decode cX2_arrange 23 = .ok (.bastore, 1) := by decide +kernel
theorem dX2_arrange_24 : decode cX2_arrange 24 = .ok (.aload_n 0, 1) := by decide +kernel
theorem dX2_arrange_25 : decode cX2_arrange 25 = .ok (.getfield 19, 3) := by decide +kernel
theorem dX2_arrange_28 : decode cX2_arrange 28 = .ok (.iload_n 2, 1) := by decide +kernel
theorem dX2_arrange_29 : decode cX2_arrange 29 = .ok (.iconst 0, 1) := by decide +kernel
theorem dX2_arrange_30 : decode cX2_arrange 30 = .ok (.bastore, 1) := by decide +kernel
theorem dX2_arrange_31 : decode cX2_arrange 31 = .ok (.iinc 2 1, 3) := by decide +kernel
theorem dX2_arrange_34 : decode cX2_arrange 34 = .ok (.goto (-27), 3) := by decide +kernel
theorem dX2_arrange_37 : decode cX2_arrange 37 = .ok (.iconst 0, 1) := by decide +kernel
theorem dX2_arrange_38 : decode cX2_arrange 38 = .ok (.istore_n 2, 1) := by decide +kernel
theorem dX2_arrange_39 : decode cX2_arrange 39 = .ok (.iload_n 2, 1) := by decide +kernel
theorem dX2_arrange_40 : decode cX2_arrange 40 = .ok (.aload_n 1, 1) := by decide +kernel
theorem dX2_arrange_41 : decode cX2_arrange 41 = .ok (.invokevirtual 47, 3) := by decide +kernel
theorem dX2_arrange_44 : decode cX2_arrange 44 = .ok (.if_icmp .ge 37, 3) := by decide +kernel
theorem dX2_arrange_47 : decode cX2_arrange 47 = .ok (.aload_n 0, 1) := by decide +kernel
theorem dX2_arrange_48 : decode cX2_arrange 48 = .ok (.aload_n 1, 1) := by decide +kernel
theorem dX2_arrange_49 : decode cX2_arrange 49 = .ok (.invokevirtual 51, 3) := by decide +kernel
theorem dX2_arrange_52 : decode cX2_arrange 52 = .ok (.istore_n 3, 1) := by decide +kernel
theorem dX2_arrange_53 : decode cX2_arrange 53 = .ok (.iload_n 3, 1) := by decide +kernel
theorem dX2_arrange_54 : decode cX2_arrange 54 = .ok (.iconst (-1), 1) := by decide +kernel
theorem dX2_arrange_55 : decode cX2_arrange 55 = .ok (.if_icmp .eq 11, 3) := by decide +kernel
theorem dX2_arrange_58 : decode cX2_arrange 58 = .ok (.aload_n 0, 1) := by decide +kernel
theorem dX2_arrange_59 : decode cX2_arrange 59 = .ok (.iload_n 3, 1) := by decide +kernel
theorem dX2_arrange_60 : decode cX2_arrange 60 = .ok (.invokevirtual 55, 3) := by decide +kernel
theorem dX2_arrange_63 : decode cX2_arrange 63 = .ok (.goto 12, 3) := by decide +kernel
theorem dX2_arrange_66 : decode cX2_arrange 66 = .ok (.aload_n 0, 1) := by decide +kernel
theorem dX2_arrange_67 : decode cX2_arrange 67 = .ok (.aload_n 0, 1) := by decide +kernel
theorem dX2_arrange_68 : decode cX2_arrange 68 = .ok (.aload_n 1, 1) := by decide +kernel
theorem dX2_arrange_69 : decode cX2_arrange 69 = .ok (.invokevirtual 59, 3) := by decide +kernel
theorem dX2_arrange_72 : decode cX2_arrange 72 = .ok (.invokevirtual 62, 3) := by decide +kernel
theorem dX2_arrange_75 : decode cX2_arrange 75 = .ok (.iinc 2 1, 3) := by decide +kernel
theorem dX2_arrange_78 : decode cX2_arrange 78 = .ok (.goto (-39), 3) := by decide +kernel
theorem dX2_arrange_81 : decode cX2_arrange 81 = .ok (.return_, 1) := by decide +kernel
theorem dX2_waits_0 : decode cX2_waits 0 = .ok (.iload_n 1, 1) := by decide +kernel
theorem dX2_waits_1 : decode cX2_waits 1 = .ok (.ifCond .lt 22, 3) := by decide +kernel
theorem dX2_waits_4 : decode cX2_waits 4 = .ok (.iload_n 1, 1) := by decide +kernel
theorem dX2_waits_5 : decode cX2_waits 5 = .ok (.bipush 48, 2) := by decide +kernel
theorem dX2_waits_7 : decode cX2_waits 7 = .ok (.if_icmp .ge 16, 3) := by decide +kernel
theorem dX2_waits_10 : decode cX2_waits 10 = .ok (.aload_n 0, 1) := by decide +kernel
theorem dX2_waits_11 : decode cX2_waits 11 = .ok (.getfield 15, 3) := by decide +kernel
theorem dX2_waits_14 : decode cX2_waits 14 = .ok (.iload_n 1, 1) := by decide +kernel
theorem dX2_waits_15 : decode cX2_waits 15 = .ok (.baload, 1) := by decide +kernel
theorem dX2_waits_16 : decode cX2_waits 16 = .ok (.ifCond .eq 7, 3) := by decide +kernel
theorem dX2_waits_19 : decode cX2_waits 19 = .ok (.iconst 1, 1) := by decide +kernel
theorem dX2_waits_20 : decode cX2_waits 20 = .ok (.goto 4, 3) := by decide +kernel
theorem dX2_waits_23 : decode cX2_waits 23 = .ok (.iconst 0, 1) := by decide +kernel
theorem dX2_waits_24 : decode cX2_waits 24 = .ok (.ireturn, 1) := by decide +kernel
set_option maxRecDepth 20000 in
theorem ggX2_firstReady_X1_size : GoodIn wsX2_firstReady wsX1_size := goodIn_r _ [5, 6, 40, 41, 42, 43] (by decide +kernel) (by decide +kernel)
set_option maxRecDepth 20000 in
theorem gX2_firstReady_X1_size : GoodIn wsX2_firstReady (wsV RX2 47 RX1 yX1_size wsX1_size) := goodIn_app (goodIn_of _ (by decide +kernel)) ggX2_firstReady_X1_size
set_option maxRecDepth 20000 in
theorem ggX2_firstReady_X2_waits : GoodIn wsX2_firstReady wsX2_waits := goodIn_r _ [11, 12, 44, 45, 46, 47] (by decide +kernel) (by decide +kernel)
set_option maxRecDepth 20000 in
theorem gX2_firstReady_X2_waits : GoodIn wsX2_firstReady (wsV RX2 65 RX2 yX2_waits wsX2_waits) := goodIn_app (goodIn_of _ (by decide +kernel)) ggX2_firstReady_X2_waits
set_option maxRecDepth 20000 in
theorem ggX2_firstReady_X2_isReady : GoodIn wsX2_firstReady wsX2_isReady := goodIn_r _ [16, 1, 2, 3, 4, 5, 6, 7, 8, 9, 10, 11, 12, 17, 18, 19, 20, 21, 22, 23, 24, 25, 26, 27, 28, 29, 30, 31, 32, 33, 34, 35, 36, 37, 38, 39, 40, 41, 42, 43, 44, 45, 46, 47] (by decide +kernel) (by decide +kernel)
set_option maxRecDepth 20000 in
theorem gX2_firstReady_X2_isReady : GoodIn wsX2_firstReady (wsV RX2 68 RX2 yX2_isReady wsX2_isReady) := goodIn_app (goodIn_of _ (by decide +kernel)) ggX2_firstReady_X2_isReady
theorem dX2_firstReady_0 : decode cX2_firstReady 0 = .ok (.iconst 0, 1) := by decide +kernel
theorem dX2_firstReady_1 : decode cX2_firstReady 1 = .ok (.istore_n 2, 1) := by decide +kernel
theorem dX2_firstReady_2 : decode cX2_firstReady 2 = .ok (.iload_n 2, 1) := by decide +kernel
theorem dX2_firstReady_3 : decode cX2_firstReady 3 = .ok (.aload_n 1, 1) := by decide +kernel
theorem dX2_firstReady_4 : decode cX2_firstReady 4 = .ok (.invokevirtual 47, 3) := by decide +kernel
theorem dX2_firstReady_7 : decode cX2_firstReady 7 = .ok (.if_icmp .ge 28, 3) := by decide +kernel
theorem dX2_firstReady_10 : decode cX2_firstReady 10 = .ok (.aload_n 0, 1) := by decide +kernel
theorem dX2_firstReady_11 : decode cX2_firstReady 11 = .ok (.iload_n 2, 1) := by decide +kernel
theorem dX2_firstReady_12 : decode cX2_firstReady 12 = .ok (.invokevirtual 65, 3) := by decide +kernel
theorem dX2_firstReady_15 : decode cX2_firstReady 15 = .ok (.ifCond .eq 14, 3) := by decide +kernel
theorem dX2_firstReady_18 : decode cX2_firstReady 18 = .ok (.aload_n 0, 1) := by decide +kernel
theorem dX2_firstReady_19 : decode cX2_firstReady 19 = .ok (.aload_n 1, 1) := by decide +kernel
theorem dX2_firstReady_20 : decode cX2_firstReady 20 = .ok (.iload_n 2, 1) := by decide +kernel
theorem dX2_firstReady_21 : decode cX2_firstReady 21 = .ok (.invokevirtual 68, 3) := by decide +kernel
theorem dX2_firstReady_24 : decode cX2_firstReady 24 = .ok (.ifCond .eq 5, 3) := by decide +kernel
theorem dX2_firstReady_27 : decode cX2_firstReady 27 = .ok (.iload_n 2, 1) := by decide +kernel
theorem dX2_firstReady_28 : decode cX2_firstReady 28 = .ok (.ireturn, 1) := by decide +kernel
theorem dX2_firstReady_29 : decode cX2_firstReady 29 = .ok (.iinc 2 1, 3) := by decide +kernel
theorem dX2_firstReady_32 : decode cX2_firstReady 32 = .ok (.goto (-30), 3) := by decide +kernel
theorem dX2_firstReady_35 : decode cX2_firstReady 35 = .ok (.iconst (-1), 1) := by decide +kernel
theorem dX2_firstReady_36 : decode cX2_firstReady 36 = .ok (.ireturn, 1) := by decide +kernel
set_option maxRecDepth 20000 in
theorem ggX2_isReady_X1_size : GoodIn wsX2_isReady wsX1_size := goodIn_r _ [5, 6, 36, 37, 38, 39] (by decide +kernel) (by decide +kernel)
set_option maxRecDepth 20000 in
theorem gX2_isReady_X1_size : GoodIn wsX2_isReady (wsV RX2 47 RX1 yX1_size wsX1_size) := goodIn_app (goodIn_of _ (by decide +kernel)) ggX2_isReady_X1_size
set_option maxRecDepth 20000 in
theorem ggX2_isReady_X2_waits : GoodIn wsX2_isReady wsX2_waits := goodIn_r _ [11, 12, 40, 41, 42, 43] (by decide +kernel) (by decide +kernel)
set_option maxRecDepth 20000 in
theorem gX2_isReady_X2_waits : GoodIn wsX2_isReady (wsV RX2 65 RX2 yX2_waits wsX2_waits) := goodIn_app (goodIn_of _ (by decide +kernel)) ggX2_isReady_X2_waits
set_option maxRecDepth 20000 in
theorem ggX2_isReady_X1_mustGoBefore : GoodIn wsX2_isReady wsX1_mustGoBefore := goodIn_r _ [16, 17, 18, 19, 4, 20, 21, 22, 23, 24, 25, 6, 26, 27, 28, 29, 30, 31, 32, 33, 34, 35, 36, 37, 38, 39] (by decide +kernel) (by decide +kernel)
set_option maxRecDepth 20000 in
theorem gX2_isReady_X1_mustGoBefore : GoodIn wsX2_isReady (wsV RX2 72 RX1 yX1_mustGoBefore wsX1_mustGoBefore) := goodIn_app (goodIn_of _ (by decide +kernel)) ggX2_isReady_X1_mustGoBefore

