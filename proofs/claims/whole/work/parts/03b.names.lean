theorem gc_mem {big : List Cond} (ws : List Cond) (ps : List Nat) (hp : ws = ps.filterMap (fun i => big[i]?)) : ∀ w ∈ ws, w ∈ big := by
  intro w hw
  rw [hp] at hw
  obtain ⟨i, -, hi⟩ := List.mem_filterMap.mp hw
  exact List.mem_of_getElem? hi
theorem gc_all_app {big a b : List Cond} (ha : ∀ w ∈ a, w ∈ big) (hb : ∀ w ∈ b, w ∈ big) : ∀ w ∈ a ++ b, w ∈ big := fun w h => (List.mem_append.mp h).elim (ha w) (hb w)
set_option maxRecDepth 20000 in
theorem wsL_law_a1 : ∀ w ∈ wsL_law0_r1, w ∈ lw_tbl := gc_mem _ [43, 44, 33, 416, 417, 34, 613, 45, 46, 47, 48, 49, 50, 129, 98, 99, 100, 101, 102, 103, 51, 53, 0, 54] (by decide +kernel)
set_option maxRecDepth 20000 in
theorem wsL_law_a2 : ∀ w ∈ wsL_law0_r2, w ∈ lw_tbl := gc_mem _ [55, 57, 1, 58, 105, 106, 59, 60, 61, 62, 63, 64, 65, 66, 67, 68, 69, 70, 71, 72, 73, 74, 75, 76] (by decide +kernel)
set_option maxRecDepth 20000 in
theorem wsL_law_a3 : ∀ w ∈ wsL_law0_r3, w ∈ lw_tbl := gc_mem _ [77, 79, 2, 80, 107, 104, 81, 83, 3, 84, 85, 86, 87, 88, 89, 90, 91, 92, 93, 94, 96, 4, 97, 418] (by decide +kernel)
set_option maxRecDepth 20000 in
theorem wsL_law_a4 : ∀ w ∈ wsL_law0_r4, w ∈ lw_tbl := gc_mem _ [419, 420, 421, 425, 426, 453, 427, 428, 429, 430, 431, 299, 300, 32, 301, 302, 303, 304, 305, 306, 307, 38, 458, 459] (by decide +kernel)
set_option maxRecDepth 20000 in
theorem wsL_law_a5 : ∀ w ∈ wsL_law0_r5, w ∈ lw_tbl := gc_mem _ [460, 461, 422, 423, 462, 464, 16, 465, 454, 455, 456, 457, 323, 324, 325, 326, 327, 328, 329, 330, 331, 337, 40, 332] (by decide +kernel)
set_option maxRecDepth 20000 in
theorem wsL_law_a6 : ∀ w ∈ wsL_law0_r6, w ∈ lw_tbl := gc_mem _ [334, 14, 335, 192, 39, 264, 266, 9, 267, 466, 467, 468, 469, 424, 470, 472, 17, 473, 474, 475, 476, 354, 355, 356] (by decide +kernel)
set_option maxRecDepth 20000 in
theorem wsL_law_a7 : ∀ w ∈ wsL_law0_r7, w ∈ lw_tbl := gc_mem _ [357, 358, 359, 360, 280, 282, 11, 283, 477, 478, 479, 480, 361, 362, 363, 364, 277, 278, 279, 189, 190, 191, 481, 482] (by decide +kernel)
set_option maxRecDepth 20000 in
theorem wsL_law_a8 : ∀ w ∈ wsL_law0_r8, w ∈ lw_tbl := gc_mem _ [483, 484, 485, 487, 18, 488, 365, 366, 367, 368, 369, 370, 371, 489, 490, 491, 492, 493, 495, 19, 496, 497, 499, 20] (by decide +kernel)
set_option maxRecDepth 20000 in
theorem wsL_law_a9 : ∀ w ∈ wsL_law0_r9, w ∈ lw_tbl := gc_mem _ [500, 501, 503, 21, 504, 505, 506, 507, 372, 373, 374, 375, 376, 377, 378, 508, 509, 510, 511, 512, 514, 22, 515, 379] (by decide +kernel)
set_option maxRecDepth 20000 in
theorem wsL_law_a10 : ∀ w ∈ wsL_law0_r10, w ∈ lw_tbl := gc_mem _ [380, 381, 382, 383, 384, 385, 386, 388, 15, 389, 516, 517, 518, 519, 390, 391, 392, 393, 286, 287, 288, 289, 291, 12] (by decide +kernel)
set_option maxRecDepth 20000 in
theorem wsL_law_a11 : ∀ w ∈ wsL_law0_r11, w ∈ lw_tbl := gc_mem _ [292, 138, 131, 132, 133, 294, 296, 13, 297, 155, 156, 41, 157, 158, 159, 160, 520, 521, 522, 523, 524, 526, 23, 527] (by decide +kernel)
set_option maxRecDepth 20000 in
theorem wsL_law_a12 : ∀ w ∈ wsL_law0_r12, w ∈ lw_tbl := gc_mem _ [528, 530, 24, 531, 532, 534, 25, 535, 536, 538, 26, 539, 540, 542, 27, 543, 544, 545, 546, 547, 549, 28, 550, 551] (by decide +kernel)
set_option maxRecDepth 20000 in
theorem wsL_law_a13 : ∀ w ∈ wsL_law0_r13, w ∈ lw_tbl := gc_mem _ [553, 29, 554, 130, 555, 556, 557, 558, 134, 135, 136, 137, 139, 141, 5, 142, 559, 560, 561, 562, 563, 565, 30, 566] (by decide +kernel)
set_option maxRecDepth 20000 in
theorem wsL_law_a14 : ∀ w ∈ wsL_law0_r14, w ∈ lw_tbl := gc_mem _ [143, 144, 145, 146, 567, 568, 569, 570, 147, 148, 149, 150, 151, 152, 153, 154, 571, 572, 573, 574, 575, 576, 577, 161] (by decide +kernel)
set_option maxRecDepth 20000 in
theorem wsL_law_a15 : ∀ w ∈ wsL_law0_r15, w ∈ lw_tbl := gc_mem _ [162, 163, 164, 165, 166, 42, 167, 578, 579, 580, 581, 582, 394, 395, 396, 397, 398, 399, 400, 402, 403, 404, 583, 584] (by decide +kernel)
set_option maxRecDepth 20000 in
theorem wsL_law_a16 : ∀ w ∈ wsL_law0_r16, w ∈ lw_tbl := gc_mem _ [585, 586, 168, 169, 170, 171, 172, 174, 6, 175, 587, 588, 589, 590, 405, 406, 407, 408, 409, 410, 411, 591, 592, 593] (by decide +kernel)
set_option maxRecDepth 20000 in
theorem wsL_law_a17 : ∀ w ∈ wsL_law0_r17, w ∈ lw_tbl := gc_mem _ [594, 412, 413, 414, 415, 186, 187, 188, 260, 262, 8, 263, 268, 270, 10, 271, 595, 596, 597, 598, 599, 601, 31, 602] (by decide +kernel)
set_option maxRecDepth 20000 in
theorem wsL_law_a18 : ∀ w ∈ wsL_law0_r18, w ∈ lw_tbl := gc_mem _ [176, 177, 178, 179, 603, 604, 605, 606, 180, 181, 182, 183, 184, 185, 272, 273, 274, 275, 276, 285, 298, 607, 608, 609] (by decide +kernel)
set_option maxRecDepth 20000 in
theorem wsL_law_a19 : ∀ w ∈ wsL_law0_r19, w ∈ lw_tbl := gc_mem _ [610, 611, 612] (by decide +kernel)
set_option maxRecDepth 20000 in
theorem wsL_law_w0 : ∀ w ∈ wsX00, w ∈ lw_tbl := gc_mem _ [108, 110, 112, 114, 116, 118, 120, 122, 124, 126] (by decide +kernel)
set_option maxRecDepth 20000 in
theorem wsL_law_w1 : ∀ w ∈ wsX10, w ∈ lw_tbl := gc_mem _ [432, 434, 436, 438, 440, 442, 444, 446, 448, 450] (by decide +kernel)
theorem wsL_law_in0 : ∀ w ∈ wsL_law0, w ∈ lw_tbl := gc_all_app (gc_all_app (gc_all_app (gc_all_app wsL_law_a1 (gc_all_app wsL_law_a2 (gc_all_app wsL_law_a3 (gc_all_app wsL_law_a4 (gc_all_app wsL_law_a5 (gc_all_app wsL_law_a6 (gc_all_app wsL_law_a7 (gc_all_app wsL_law_a8 (gc_all_app wsL_law_a9 (gc_all_app wsL_law_a10 (gc_all_app wsL_law_a11 (gc_all_app wsL_law_a12 (gc_all_app wsL_law_a13 (gc_all_app wsL_law_a14 (gc_all_app wsL_law_a15 (gc_all_app wsL_law_a16 (gc_all_app wsL_law_a17 (gc_all_app wsL_law_a18 wsL_law_a19)))))))))))))))))) wsL_law_w0) wsL_law_w1) (fun _ h => absurd h List.not_mem_nil)
theorem wsL_law_x0 : ∀ w ∈ (vx_atS RX0 39 "java/lang/IllegalStateException" ["java/lang/RuntimeException", "java/lang/Exception"]).filter goodWord, w ∈ lw_tbl := by decide +kernel
theorem wsL_law_x1 : ∀ w ∈ (vx_atS RX0 50 "java/lang/IllegalArgumentException" ["java/lang/RuntimeException", "java/lang/Exception"]).filter goodWord, w ∈ lw_tbl := by decide +kernel
theorem wsL_law_x2 : ∀ w ∈ (vx_atS RX0 171 "java/lang/IndexOutOfBoundsException" ["java/lang/RuntimeException", "java/lang/Exception"]).filter goodWord, w ∈ lw_tbl := by decide +kernel
theorem wsL_law_in : ∀ w ∈ wsL_law, w ∈ lw_tbl := fun w h => (List.mem_append.mp h).elim (fun h => (List.mem_append.mp h).elim (fun h => (List.mem_append.mp h).elim (fun h => wsL_law_in0 w h) (fun h => wsL_law_x0 w h)) (fun h => wsL_law_x1 w h)) (fun h => wsL_law_x2 w h)
theorem inlX0 : ∀ w ∈ wsX00, w ∈ wsL_law := fun _ h => List.mem_append_left _ (List.mem_append_left _ (List.mem_append_left _ (List.mem_append_left _ (List.mem_append_left _ (List.mem_append_right _ h)))))
theorem inX0 : ∀ w ∈ wsX00, w ∈ lw_tbl := fun w h => wsL_law_in w (inlX0 w h)
theorem inlX1 : ∀ w ∈ wsX10, w ∈ wsL_law := fun _ h => List.mem_append_left _ (List.mem_append_left _ (List.mem_append_left _ (List.mem_append_left _ (List.mem_append_right _ h))))
theorem inX1 : ∀ w ∈ wsX10, w ∈ lw_tbl := fun w h => wsL_law_in w (inlX1 w h)
theorem inJ6 : ∀ w ∈ wsJ60, w ∈ lw_tbl := by decide +kernel
theorem inJ9 : ∀ w ∈ wsJ90, w ∈ lw_tbl := by decide +kernel
theorem inJ0 : ∀ w ∈ wsJ00, w ∈ lw_tbl := by decide +kernel
