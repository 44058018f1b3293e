set_option maxRecDepth 20000 in
theorem wsL_law_r1_lt : GoodIn lw_tbl wsL_law_r1 := goodIn_p _ [77, 80] (by decide +kernel) (by decide +kernel)
set_option maxRecDepth 20000 in
theorem wsL_law_r2_lt : GoodIn lw_tbl wsL_law_r2 := goodIn_p _ [85, 91] (by decide +kernel) (by decide +kernel)
set_option maxRecDepth 20000 in
theorem wsL_law_r3_lt : GoodIn lw_tbl wsL_law_r3 := goodIn_p _ [110, 173, 540] (by decide +kernel) (by decide +kernel)
set_option maxRecDepth 20000 in
theorem wsL_law_r4_lt : GoodIn lw_tbl wsL_law_r4 := goodIn_p _ [544, 237] (by decide +kernel) (by decide +kernel)
set_option maxRecDepth 20000 in
theorem wsL_law_r5_lt : GoodIn lw_tbl wsL_law_r5 := goodIn_p _ [241, 613, 617, 245, 249, 252] (by decide +kernel) (by decide +kernel)
set_option maxRecDepth 20000 in
theorem wsL_law_r6_lt : GoodIn lw_tbl wsL_law_r6 := goodIn_p _ [255, 260, 263, 621, 625, 629] (by decide +kernel) (by decide +kernel)
set_option maxRecDepth 20000 in
theorem wsL_law_r7_lt : GoodIn lw_tbl wsL_law_r7 := goodIn_p _ [632, 635, 638, 271, 276, 642, 280] (by decide +kernel) (by decide +kernel)
set_option maxRecDepth 20000 in
theorem wsL_law_r8_lt : GoodIn lw_tbl wsL_law_r8 := goodIn_p _ [284, 646, 288, 292, 650] (by decide +kernel) (by decide +kernel)
set_option maxRecDepth 20000 in
theorem wsL_law_r9_lt : GoodIn lw_tbl wsL_law_r9 := goodIn_p _ [296, 300, 654, 304, 308, 312, 315] (by decide +kernel) (by decide +kernel)
set_option maxRecDepth 20000 in
theorem wsL_law_r10_lt : GoodIn lw_tbl wsL_law_r10 := goodIn_p _ [319, 658, 662, 666, 323] (by decide +kernel) (by decide +kernel)
set_option maxRecDepth 20000 in
theorem wsL_law_r11_lt : GoodIn lw_tbl wsL_law_r11 := goodIn_p _ [327, 331, 670, 674, 677, 335, 339] (by decide +kernel) (by decide +kernel)
set_option maxRecDepth 20000 in
theorem wsL_law_r12_lt : GoodIn lw_tbl wsL_law_r12 := goodIn_p _ [681, 684, 343, 347, 350, 354] (by decide +kernel) (by decide +kernel)
set_option maxRecDepth 20000 in
theorem wsL_law_r13_lt : GoodIn lw_tbl wsL_law_r13 := goodIn_p _ [358, 362, 688, 692, 696, 366, 370] (by decide +kernel) (by decide +kernel)
set_option maxRecDepth 20000 in
theorem wsL_law_r14_lt : GoodIn lw_tbl wsL_law_r14 := goodIn_p _ [374, 378, 381, 384, 388] (by decide +kernel) (by decide +kernel)
set_option maxRecDepth 20000 in
theorem wsL_law_r15_lt : GoodIn lw_tbl wsL_law_r15 := goodIn_p _ [394, 397, 400, 404, 408, 412, 416] (by decide +kernel) (by decide +kernel)
set_option maxRecDepth 20000 in
theorem wsL_law_r16_lt : GoodIn lw_tbl wsL_law_r16 := goodIn_p _ [700, 704, 708, 711, 715, 719] (by decide +kernel) (by decide +kernel)
set_option maxRecDepth 20000 in
theorem wsL_law_r17_lt : GoodIn lw_tbl wsL_law_r17 := goodIn_p _ [723, 727, 421, 425, 432] (by decide +kernel) (by decide +kernel)
set_option maxRecDepth 20000 in
theorem wsL_law_r18_lt : GoodIn lw_tbl wsL_law_r18 := goodIn_p _ [437, 441, 445, 449, 453, 457, 731] (by decide +kernel) (by decide +kernel)
set_option maxRecDepth 20000 in
theorem wsL_law_r19_lt : GoodIn lw_tbl wsL_law_r19 := goodIn_p _ [735, 739, 743, 462, 466, 470, 747] (by decide +kernel) (by decide +kernel)
set_option maxRecDepth 20000 in
theorem wsL_law_r20_lt : GoodIn lw_tbl wsL_law_r20 := goodIn_p _ [474, 478, 482, 751, 486, 490] (by decide +kernel) (by decide +kernel)
set_option maxRecDepth 20000 in
theorem wsL_law_r21_lt : GoodIn lw_tbl wsL_law_r21 := goodIn_p _ [755, 494, 498, 502, 506, 510, 514] (by decide +kernel) (by decide +kernel)
set_option maxRecDepth 20000 in
theorem wsL_law_r22_lt : GoodIn lw_tbl wsL_law_r22 := goodIn_p _ [759, 763, 767, 771, 518, 775] (by decide +kernel) (by decide +kernel)
set_option maxRecDepth 20000 in
theorem wsL_law_r23_lt : GoodIn lw_tbl wsL_law_r23 := goodIn_p _ [522, 525, 531, 779, 535] (by decide +kernel) (by decide +kernel)
set_option maxRecDepth 20000 in
theorem wsL_law_r24_lt : GoodIn lw_tbl wsL_law_r24 := goodIn_p _ [785] (by decide +kernel) (by decide +kernel)
set_option maxRecDepth 20000 in
theorem wsX40_lt : GoodIn lw_tbl wsX40 := goodIn_p _ [] (by decide +kernel) (by decide +kernel)
set_option maxRecDepth 20000 in
theorem wsX50_lt : GoodIn lw_tbl wsX50 := goodIn_p _ [] (by decide +kernel) (by decide +kernel)
set_option maxRecDepth 20000 in
theorem wsX30_lt : GoodIn lw_tbl wsX30 := goodIn_p _ [] (by decide +kernel) (by decide +kernel)
set_option maxRecDepth 20000 in
theorem wsX00_lt : GoodIn lw_tbl wsX00 := goodIn_p _ [] (by decide +kernel) (by decide +kernel)
set_option maxRecDepth 20000 in
theorem wsX20_lt : GoodIn lw_tbl wsX20 := goodIn_p _ [] (by decide +kernel) (by decide +kernel)
set_option maxRecDepth 20000 in
theorem wsX10_lt : GoodIn lw_tbl wsX10 := goodIn_p _ [] (by decide +kernel) (by decide +kernel)
theorem wsL_law_lt : GoodIn lw_tbl wsL_law := (goodIn_app (goodIn_app (goodIn_app (goodIn_app (goodIn_app (goodIn_app (goodIn_app (goodIn_app wsL_law_r1_lt (goodIn_app wsL_law_r2_lt (goodIn_app wsL_law_r3_lt (goodIn_app wsL_law_r4_lt (goodIn_app wsL_law_r5_lt (goodIn_app wsL_law_r6_lt (goodIn_app wsL_law_r7_lt (goodIn_app wsL_law_r8_lt (goodIn_app wsL_law_r9_lt (goodIn_app wsL_law_r10_lt (goodIn_app wsL_law_r11_lt (goodIn_app wsL_law_r12_lt (goodIn_app wsL_law_r13_lt (goodIn_app wsL_law_r14_lt (goodIn_app wsL_law_r15_lt (goodIn_app wsL_law_r16_lt (goodIn_app wsL_law_r17_lt (goodIn_app wsL_law_r18_lt (goodIn_app wsL_law_r19_lt (goodIn_app wsL_law_r20_lt (goodIn_app wsL_law_r21_lt (goodIn_app wsL_law_r22_lt (goodIn_app wsL_law_r23_lt wsL_law_r24_lt))))))))))))))))))))))) wsX40_lt) wsX50_lt) wsX30_lt) wsX00_lt) wsX20_lt) wsX10_lt) (fun _ h => absurd h List.not_mem_nil))
theorem wsL_law_in : ∀ w ∈ wsL_law, w ∈ lw_tbl := fun w h => (wsL_law_lt w h).1
theorem inlX0 : ∀ w ∈ wsX00, w ∈ wsL_law := fun _ h => List.mem_append_left _ (List.mem_append_left _ (List.mem_append_left _ (List.mem_append_right _ h)))
theorem inX0 : ∀ w ∈ wsX00, w ∈ lw_tbl := fun w h => wsL_law_in w (inlX0 w h)
theorem inlX1 : ∀ w ∈ wsX10, w ∈ wsL_law := fun _ h => List.mem_append_left _ (List.mem_append_right _ h)
theorem inX1 : ∀ w ∈ wsX10, w ∈ lw_tbl := fun w h => wsL_law_in w (inlX1 w h)
theorem inlX2 : ∀ w ∈ wsX20, w ∈ wsL_law := fun _ h => List.mem_append_left _ (List.mem_append_left _ (List.mem_append_right _ h))
theorem inX2 : ∀ w ∈ wsX20, w ∈ lw_tbl := fun w h => wsL_law_in w (inlX2 w h)
theorem inlX3 : ∀ w ∈ wsX30, w ∈ wsL_law := fun _ h => List.mem_append_left _ (List.mem_append_left _ (List.mem_append_left _ (List.mem_append_left _ (List.mem_append_right _ h))))
theorem inX3 : ∀ w ∈ wsX30, w ∈ lw_tbl := fun w h => wsL_law_in w (inlX3 w h)
theorem inlX4 : ∀ w ∈ wsX40, w ∈ wsL_law := fun _ h => List.mem_append_left _ (List.mem_append_left _ (List.mem_append_left _ (List.mem_append_left _ (List.mem_append_left _ (List.mem_append_left _ (List.mem_append_right _ h))))))
theorem inX4 : ∀ w ∈ wsX40, w ∈ lw_tbl := fun w h => wsL_law_in w (inlX4 w h)
theorem inlX5 : ∀ w ∈ wsX50, w ∈ wsL_law := fun _ h => List.mem_append_left _ (List.mem_append_left _ (List.mem_append_left _ (List.mem_append_left _ (List.mem_append_left _ (List.mem_append_right _ h)))))
theorem inX5 : ∀ w ∈ wsX50, w ∈ lw_tbl := fun w h => wsL_law_in w (inlX5 w h)
theorem inJ9 : ∀ w ∈ wsJ90, w ∈ lw_tbl := by decide +kernel
theorem inJ10 : ∀ w ∈ wsJ100, w ∈ lw_tbl := by decide +kernel
theorem inJ7 : ∀ w ∈ wsJ70, w ∈ lw_tbl := by decide +kernel
