theorem gc_mem {big : List Cond} (ws : List Cond) (ps : List Nat) (hp : ws = ps.filterMap (fun i => big[i]?)) : ∀ w ∈ ws, w ∈ big := by
  intro w hw
  rw [hp] at hw
  obtain ⟨i, -, hi⟩ := List.mem_filterMap.mp hw
  exact List.mem_of_getElem? hi
theorem gc_all_app {big a b : List Cond} (ha : ∀ w ∈ a, w ∈ big) (hb : ∀ w ∈ b, w ∈ big) : ∀ w ∈ a ++ b, w ∈ big := fun w h => (List.mem_append.mp h).elim (ha w) (hb w)
set_option maxRecDepth 20000 in
theorem wsL_law_a1 : ∀ w ∈ wsL_law0_r1, w ∈ lw_tbl := gc_mem _ [28, 29, 18, 445, 347, 27, 348, 444, 288, 289, 429, 114, 30, 31, 32, 33, 34, 35, 83, 84, 85, 86, 87, 88] (by decide +kernel)
set_option maxRecDepth 20000 in
theorem wsL_law_a2 : ∀ w ∈ wsL_law0_r2, w ∈ lw_tbl := gc_mem _ [36, 38, 0, 39, 40, 42, 1, 43, 90, 91, 44, 45, 46, 47, 48, 49, 50, 51, 52, 53, 54, 55, 56, 57] (by decide +kernel)
set_option maxRecDepth 20000 in
theorem wsL_law_a3 : ∀ w ∈ wsL_law0_r3, w ∈ lw_tbl := gc_mem _ [58, 59, 60, 61, 62, 64, 2, 65, 92, 89, 66, 68, 3, 69, 70, 71, 72, 73, 74, 75, 76, 77, 78, 79] (by decide +kernel)
set_option maxRecDepth 20000 in
theorem wsL_law_a4 : ∀ w ∈ wsL_law0_r4, w ∈ lw_tbl := gc_mem _ [81, 4, 82, 418, 419, 17, 420, 421, 397, 19, 426, 423, 424, 425, 329, 428, 406, 407, 408, 409, 402, 403, 404, 405] (by decide +kernel)
set_option maxRecDepth 20000 in
theorem wsL_law_a5 : ∀ w ∈ wsL_law0_r5, w ∈ lw_tbl := gc_mem _ [413, 414, 415, 416, 211, 23, 410, 411, 412, 227, 228, 229, 230, 231, 233, 8, 234, 127, 24, 326, 327, 328, 115, 116] (by decide +kernel)
set_option maxRecDepth 20000 in
theorem wsL_law_a6 : ∀ w ∈ wsL_law0_r6, w ∈ lw_tbl := gc_mem _ [117, 118, 195, 25, 119, 121, 5, 122, 123, 125, 6, 126, 310, 311, 312, 313, 240, 241, 242, 277, 278, 26, 279, 280] (by decide +kernel)
set_option maxRecDepth 20000 in
theorem wsL_law_a7 : ∀ w ∈ wsL_law0_r7, w ∈ lw_tbl := gc_mem _ [281, 282, 314, 316, 11, 317, 318, 320, 12, 321, 290, 291, 292, 293, 295, 296, 297, 236, 237, 238, 239, 331, 332, 333] (by decide +kernel)
set_option maxRecDepth 20000 in
theorem wsL_law_a8 : ∀ w ∈ wsL_law0_r8, w ∈ lw_tbl := gc_mem _ [334, 335, 336, 265, 266, 267, 268, 252, 253, 254, 255, 269, 270, 271, 272, 273, 274, 275, 276, 283, 284, 285, 286, 287] (by decide +kernel)
set_option maxRecDepth 20000 in
theorem wsL_law_a9 : ∀ w ∈ wsL_law0_r9, w ∈ lw_tbl := gc_mem _ [322, 323, 324, 325, 256, 257, 258, 259, 260, 261, 263, 9, 264, 306, 307, 308, 309, 244, 245, 246, 247, 298, 299, 300] (by decide +kernel)
theorem gc_split {big : List Cond} {ws : List Cond} (n : Nat) (ha : ∀ w ∈ ws.take n, w ∈ big) (hc : ∀ w, ws[n]? = some w → w ∈ big) (hb : ∀ w ∈ ws.drop (n + 1), w ∈ big) : ∀ w ∈ ws, w ∈ big := by
  intro w hw
  obtain ⟨i, hi⟩ := List.getElem?_of_mem hw
  rcases Nat.lt_trichotomy i n with h | h | h
  · exact ha w (List.mem_of_getElem? (i := i) (by rw [List.getElem?_take_of_lt h]; exact hi))
  · subst h; exact hc w hi
  · exact hb w (List.mem_of_getElem? (i := i - (n + 1)) (by rw [List.getElem?_drop, show n + 1 + (i - (n + 1)) = i by omega]; exact hi))
set_option maxRecDepth 20000 in
theorem wsL_law_a10 : ∀ w ∈ wsL_law0_r10, w ∈ lw_tbl := gc_split 12 (gc_mem _ [301, 302, 304, 10, 305, 248, 249, 250, 251, 337, 338, 339] (by decide +kernel)) (fun w h => by
  have e : some (Cond.code yX1_isSame cX1_isSame 19 (some .boolean)) = some w := h
  cases e
  exact List.mem_of_getElem? (i := 340) rfl) (gc_mem _ [427, 431, 430, 432, 341, 342, 343, 344, 345, 346, 349] (by decide +kernel))
set_option maxRecDepth 20000 in
theorem wsL_law_a11 : ∀ w ∈ wsL_law0_r11, w ∈ lw_tbl := gc_mem _ [350, 351, 352, 353, 354, 355, 356, 357, 358, 359, 360, 361, 362, 363, 364, 365, 366, 367, 368, 370, 13, 371, 372, 373] (by decide +kernel)
set_option maxRecDepth 20000 in
theorem wsL_law_a12 : ∀ w ∈ wsL_law0_r12, w ∈ lw_tbl := gc_mem _ [374, 375, 376, 377, 379, 14, 380, 382, 384, 15, 385, 386, 387, 388, 389, 390, 391, 392, 393, 394, 396, 16, 398, 399] (by decide +kernel)
set_option maxRecDepth 20000 in
theorem wsL_law_a13 : ∀ w ∈ wsL_law0_r13, w ∈ lw_tbl := gc_mem _ [400, 401] (by decide +kernel)
set_option maxRecDepth 20000 in
theorem wsL_law_w0 : ∀ w ∈ wsX00, w ∈ lw_tbl := gc_mem _ [93, 95, 97, 99, 101, 103, 105, 107, 109, 111] (by decide +kernel)
set_option maxRecDepth 20000 in
theorem wsL_law_w1 : ∀ w ∈ wsX10, w ∈ lw_tbl := gc_mem _ [433, 435, 437, 439, 441] (by decide +kernel)
theorem wsL_law_in0 : ∀ w ∈ wsL_law0, w ∈ lw_tbl := gc_all_app (gc_all_app (gc_all_app (gc_all_app wsL_law_a1 (gc_all_app wsL_law_a2 (gc_all_app wsL_law_a3 (gc_all_app wsL_law_a4 (gc_all_app wsL_law_a5 (gc_all_app wsL_law_a6 (gc_all_app wsL_law_a7 (gc_all_app wsL_law_a8 (gc_all_app wsL_law_a9 (gc_all_app wsL_law_a10 (gc_all_app wsL_law_a11 (gc_all_app wsL_law_a12 wsL_law_a13)))))))))))) wsL_law_w0) wsL_law_w1) (fun _ h => absurd h List.not_mem_nil)
theorem wsL_law_x0 : ∀ w ∈ (vx_atS RX0 39 "java/lang/IllegalStateException" ["java/lang/RuntimeException", "java/lang/Exception"]).filter goodWord, w ∈ lw_tbl := by decide +kernel
theorem wsL_law_x1 : ∀ w ∈ (vx_atS RX0 171 "java/lang/IndexOutOfBoundsException" ["java/lang/RuntimeException", "java/lang/Exception"]).filter goodWord, w ∈ lw_tbl := by decide +kernel
theorem wsL_law_x2 : ∀ w ∈ (vx_atS RX0 50 "java/lang/IllegalArgumentException" ["java/lang/RuntimeException", "java/lang/Exception"]).filter goodWord, w ∈ lw_tbl := by decide +kernel
theorem wsL_law_in : ∀ w ∈ wsL_law, w ∈ lw_tbl := fun w h => (List.mem_append.mp h).elim (fun h => (List.mem_append.mp h).elim (fun h => (List.mem_append.mp h).elim (fun h => wsL_law_in0 w h) (fun h => wsL_law_x0 w h)) (fun h => wsL_law_x1 w h)) (fun h => wsL_law_x2 w h)
theorem inlX0 : ∀ w ∈ wsX00, w ∈ wsL_law := fun _ h => List.mem_append_left _ (List.mem_append_left _ (List.mem_append_left _ (List.mem_append_left _ (List.mem_append_left _ (List.mem_append_right _ h)))))
theorem inX0 : ∀ w ∈ wsX00, w ∈ lw_tbl := fun w h => wsL_law_in w (inlX0 w h)
theorem inlX1 : ∀ w ∈ wsX10, w ∈ wsL_law := fun _ h => List.mem_append_left _ (List.mem_append_left _ (List.mem_append_left _ (List.mem_append_left _ (List.mem_append_right _ h))))
theorem inX1 : ∀ w ∈ wsX10, w ∈ lw_tbl := fun w h => wsL_law_in w (inlX1 w h)
theorem inX2 : ∀ w ∈ wsX20, w ∈ lw_tbl := by decide +kernel
theorem inJ6 : ∀ w ∈ wsJ60, w ∈ lw_tbl := by decide +kernel
theorem inJ9 : ∀ w ∈ wsJ90, w ∈ lw_tbl := by decide +kernel
theorem inJ0 : ∀ w ∈ wsJ00, w ∈ lw_tbl := by decide +kernel
