/-! the words of the law among the tables, piece by piece -/
theorem mem_r {big : List Cond} (ws : List Cond) (ps : List Nat) (hp : ws = ps.filterMap (fun i => big[i]?)) : ∀ w ∈ ws, w ∈ big := by
  intro w hw
  rw [hp] at hw
  obtain ⟨i, -, hi⟩ := List.mem_filterMap.mp hw
  exact List.mem_of_getElem? hi
theorem mem_a {a b c : List Cond} (ha : ∀ w ∈ a, w ∈ c) (hb : ∀ w ∈ b, w ∈ c) : ∀ w ∈ a ++ b, w ∈ c := fun w h => (List.mem_append.mp h).elim (ha w) (hb w)
theorem inT_wsL_law0_r1 : ∀ w ∈ wsL_law0_r1, w ∈ lw_tbl := mem_r _ [42, 43, 33, 404, 405, 36, 649, 290, 291, 32, 292, 44, 45, 46, 47, 48, 49, 50, 51, 34, 121, 104, 105, 35] (by decide +kernel)
theorem inT_wsL_law0_r2 : ∀ w ∈ wsL_law0_r2, w ∈ lw_tbl := mem_r _ [122, 103, 123, 102, 124, 125, 52, 53, 54, 55, 56, 58, 61, 63, 66, 69, 72, 76, 77, 78, 106, 107, 108, 109] (by decide +kernel)
theorem inT_wsL_law0_r3 : ∀ w ∈ wsL_law0_r3, w ∈ lw_tbl := mem_r _ [110, 57, 111, 406, 407, 408, 409, 416, 417, 418, 419, 420, 421, 422, 423, 425, 426, 433, 411, 412, 413, 140, 141, 142] (by decide +kernel)
theorem inT_wsL_law0_r4 : ∀ w ∈ wsL_law0_r4, w ∈ lw_tbl := mem_r _ [143, 113, 64, 68, 71, 144, 145, 146, 147, 148, 149, 150, 151, 112, 59, 70, 67, 152, 154, 0, 155, 156, 158, 1] (by decide +kernel)
theorem inT_wsL_law0_r5 : ∀ w ∈ wsL_law0_r5, w ∈ lw_tbl := mem_r _ [159, 126, 160, 161, 162, 163, 74, 164, 166, 2, 167, 168, 169, 170, 171, 172, 173, 174, 175, 176, 178, 3, 179, 180] (by decide +kernel)
theorem inT_wsL_law0_r6 : ∀ w ∈ wsL_law0_r6, w ∈ lw_tbl := mem_r _ [181, 182, 183, 184, 186, 4, 187, 188, 189, 190, 191, 192, 193, 194, 195, 196, 197, 198, 199, 200, 201, 202, 203, 204] (by decide +kernel)
theorem inT_wsL_law0_r7 : ∀ w ∈ wsL_law0_r7, w ∈ lw_tbl := mem_r _ [205, 207, 5, 208, 209, 210, 211, 212, 213, 214, 215, 217, 6, 218, 487, 488, 489, 490, 410, 432, 429, 491, 493, 9] (by decide +kernel)
theorem inT_wsL_law0_r8 : ∀ w ∈ wsL_law0_r8, w ∈ lw_tbl := mem_r _ [494, 495, 497, 10, 498, 499, 501, 11, 502, 427, 428, 430, 503, 505, 12, 506, 507, 509, 13, 510, 424, 511, 513, 14] (by decide +kernel)
theorem inT_wsL_law0_r9 : ∀ w ∈ wsL_law0_r9, w ∈ lw_tbl := mem_r _ [514, 515, 517, 15, 518, 519, 521, 16, 522, 414, 415, 523, 525, 17, 526, 527, 529, 18, 530, 531, 533, 19, 534, 535] (by decide +kernel)
theorem inT_wsL_law0_r10 : ∀ w ∈ wsL_law0_r10, w ∈ lw_tbl := mem_r _ [537, 20, 538, 431, 539, 541, 21, 542, 543, 545, 22, 546, 547, 548, 550, 23, 551, 219, 220, 221, 222, 223, 224, 225] (by decide +kernel)
theorem inT_wsL_law0_r11 : ∀ w ∈ wsL_law0_r11, w ∈ lw_tbl := mem_r _ [226, 227, 228, 229, 230, 231, 65, 552, 553, 554, 555, 556, 558, 24, 559, 560, 562, 25, 563, 232, 233, 234, 235, 236] (by decide +kernel)
theorem inT_wsL_law0_r12 : ∀ w ∈ wsL_law0_r12, w ∈ lw_tbl := mem_r _ [237, 238, 239, 564, 565, 566, 567, 240, 241, 242, 243, 73, 60, 244, 245, 246, 247, 248, 568, 569, 570, 571, 572, 574] (by decide +kernel)
theorem inT_wsL_law0_r13 : ∀ w ∈ wsL_law0_r13, w ∈ lw_tbl := mem_r _ [26, 575, 576, 578, 27, 579, 249, 250, 251, 252, 580, 581, 582, 583, 253, 584, 585, 586, 587, 293, 294, 295, 296, 297] (by decide +kernel)
theorem inT_wsL_law0_r14 : ∀ w ∈ wsL_law0_r14, w ∈ lw_tbl := mem_r _ [298, 299, 300, 301, 40, 62, 258, 260, 7, 261, 588, 589, 590, 591, 483, 484, 485, 486, 254, 255, 256, 257, 592, 593] (by decide +kernel)
theorem inT_wsL_law0_r15 : ∀ w ∈ wsL_law0_r15, w ∈ lw_tbl := mem_r _ [594, 595, 262, 263, 264, 265, 596, 597, 598, 599, 600, 602, 28, 603, 363, 364, 365, 366, 367, 368, 369, 370, 371, 372] (by decide +kernel)
theorem inT_wsL_law0_r16 : ∀ w ∈ wsL_law0_r16, w ∈ lw_tbl := mem_r _ [373, 604, 605, 606, 607, 374, 375, 376, 377, 378, 379, 380, 381, 382, 41, 608, 609, 610, 611, 612, 614, 29, 615, 616] (by decide +kernel)
theorem inT_wsL_law0_r17 : ∀ w ∈ wsL_law0_r17, w ∈ lw_tbl := mem_r _ [618, 30, 619, 266, 267, 268, 269, 270, 271, 272, 273, 620, 621, 622, 623, 397, 398, 399, 400, 401, 402, 403, 624, 625] (by decide +kernel)
theorem inT_wsL_law0_r18 : ∀ w ∈ wsL_law0_r18, w ∈ lw_tbl := mem_r _ [626, 627, 274, 275, 276, 277, 628, 629, 630, 631, 632, 633, 635, 31, 636, 278, 279, 280, 281, 637, 638, 639, 640, 282] (by decide +kernel)
theorem inT_wsL_law0_r19 : ∀ w ∈ wsL_law0_r19, w ∈ lw_tbl := mem_r _ [283, 284, 285, 75, 641, 642, 643, 644, 286, 287, 288, 289, 645, 646, 647, 648] (by decide +kernel)
theorem inT_wsX20 : ∀ w ∈ wsX20, w ∈ lw_tbl := mem_r _ [127, 129, 131, 133, 135, 137] (by decide +kernel)
theorem inT_wsX30 : ∀ w ∈ wsX30, w ∈ lw_tbl := mem_r _ [434, 436, 438, 440, 442, 444, 446, 448, 450, 452, 454, 456, 458, 460, 462, 464, 466, 468, 470, 472, 474, 476, 478, 480] (by decide +kernel)
theorem inT_wsX00 : ∀ w ∈ wsX00, w ∈ lw_tbl := mem_r _ [79, 81, 83, 85, 87, 89, 91, 93, 95, 97, 99] (by decide +kernel)
theorem inT_wsX10 : ∀ w ∈ wsX10, w ∈ lw_tbl := mem_r _ [114, 116, 118] (by decide +kernel)
theorem wsL_law_in0 : ∀ w ∈ wsL_law0, w ∈ lw_tbl := mem_a (mem_a (mem_a (mem_a (mem_a (mem_a inT_wsL_law0_r1 (mem_a inT_wsL_law0_r2 (mem_a inT_wsL_law0_r3 (mem_a inT_wsL_law0_r4 (mem_a inT_wsL_law0_r5 (mem_a inT_wsL_law0_r6 (mem_a inT_wsL_law0_r7 (mem_a inT_wsL_law0_r8 (mem_a inT_wsL_law0_r9 (mem_a inT_wsL_law0_r10 (mem_a inT_wsL_law0_r11 (mem_a inT_wsL_law0_r12 (mem_a inT_wsL_law0_r13 (mem_a inT_wsL_law0_r14 (mem_a inT_wsL_law0_r15 (mem_a inT_wsL_law0_r16 (mem_a inT_wsL_law0_r17 (mem_a inT_wsL_law0_r18 inT_wsL_law0_r19)))))))))))))))))) inT_wsX20) inT_wsX30) inT_wsX00) inT_wsX10) (fun w h => by cases h)
theorem wsL_law_x0 : ∀ w ∈ (vx_at0 RX2 105 "java/util/NoSuchElementException" ["java/lang/RuntimeException", "java/lang/Exception"]).filter goodWord, w ∈ lw_tbl := by decide +kernel
theorem wsL_law_x1 : ∀ w ∈ (vx_at0 RX2 114 "java/lang/IndexOutOfBoundsException" ["java/lang/RuntimeException", "java/lang/Exception"]).filter goodWord, w ∈ lw_tbl := by decide +kernel
theorem wsL_law_in : ∀ w ∈ wsL_law, w ∈ lw_tbl := fun w h => (List.mem_append.mp h).elim (fun h => (List.mem_append.mp h).elim (fun h => wsL_law_in0 w h) (fun h => wsL_law_x0 w h)) (fun h => wsL_law_x1 w h)
theorem inlX0 : ∀ w ∈ wsX00, w ∈ wsL_law := fun _ h => List.mem_append_left _ (List.mem_append_left _ (List.mem_append_left _ (List.mem_append_left _ (List.mem_append_right _ h))))
theorem inX0 : ∀ w ∈ wsX00, w ∈ lw_tbl := fun w h => wsL_law_in w (inlX0 w h)
theorem inlX1 : ∀ w ∈ wsX10, w ∈ wsL_law := fun _ h => List.mem_append_left _ (List.mem_append_left _ (List.mem_append_left _ (List.mem_append_right _ h)))
theorem inX1 : ∀ w ∈ wsX10, w ∈ lw_tbl := fun w h => wsL_law_in w (inlX1 w h)
theorem inlX2 : ∀ w ∈ wsX20, w ∈ wsL_law := fun _ h => List.mem_append_left _ (List.mem_append_left _ (List.mem_append_left _ (List.mem_append_left _ (List.mem_append_left _ (List.mem_append_left _ (List.mem_append_right _ h))))))
theorem inX2 : ∀ w ∈ wsX20, w ∈ lw_tbl := fun w h => wsL_law_in w (inlX2 w h)
theorem inlX3 : ∀ w ∈ wsX30, w ∈ wsL_law := fun _ h => List.mem_append_left _ (List.mem_append_left _ (List.mem_append_left _ (List.mem_append_left _ (List.mem_append_left _ (List.mem_append_right _ h)))))
theorem inX3 : ∀ w ∈ wsX30, w ∈ lw_tbl := fun w h => wsL_law_in w (inlX3 w h)
