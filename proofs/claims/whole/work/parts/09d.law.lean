set_option maxRecDepth 20000 in
theorem wsL_law_r1_lt : GoodIn lw_tbl wsL_law_r1 := goodIn_p _ [77, 80] (by decide +kernel) (by decide +kernel)
set_option maxRecDepth 20000 in
theorem wsL_law_r2_lt : GoodIn lw_tbl wsL_law_r2 := goodIn_p _ [85, 91] (by decide +kernel) (by decide +kernel)
set_option maxRecDepth 20000 in
theorem wsL_law_r3_lt : GoodIn lw_tbl wsL_law_r3 := goodIn_p _ [110, 173, 537] (by decide +kernel) (by decide +kernel)
set_option maxRecDepth 20000 in
theorem wsL_law_r4_lt : GoodIn lw_tbl wsL_law_r4 := goodIn_p _ [541, 237] (by decide +kernel) (by decide +kernel)
set_option maxRecDepth 20000 in
theorem wsL_law_r5_lt : GoodIn lw_tbl wsL_law_r5 := goodIn_p _ [241, 610, 614, 245, 249, 252] (by decide +kernel) (by decide +kernel)
set_option maxRecDepth 20000 in
theorem wsL_law_r6_lt : GoodIn lw_tbl wsL_law_r6 := goodIn_p _ [255, 260, 618, 622, 626, 629] (by decide +kernel) (by decide +kernel)
set_option maxRecDepth 20000 in
theorem wsL_law_r7_lt : GoodIn lw_tbl wsL_law_r7 := goodIn_p _ [632, 635, 268, 273, 639, 277] (by decide +kernel) (by decide +kernel)
set_option maxRecDepth 20000 in
theorem wsL_law_r8_lt : GoodIn lw_tbl wsL_law_r8 := goodIn_p _ [281, 643, 285, 289, 647, 293] (by decide +kernel) (by decide +kernel)
set_option maxRecDepth 20000 in
theorem wsL_law_r9_lt : GoodIn lw_tbl wsL_law_r9 := goodIn_p _ [297, 651, 301, 305, 309, 312, 316] (by decide +kernel) (by decide +kernel)
set_option maxRecDepth 20000 in
theorem wsL_law_r10_lt : GoodIn lw_tbl wsL_law_r10 := goodIn_p _ [655, 659, 663, 320, 324] (by decide +kernel) (by decide +kernel)
set_option maxRecDepth 20000 in
theorem wsL_law_r11_lt : GoodIn lw_tbl wsL_law_r11 := goodIn_p _ [328, 667, 671, 674, 332, 336] (by decide +kernel) (by decide +kernel)
set_option maxRecDepth 20000 in
theorem wsL_law_r12_lt : GoodIn lw_tbl wsL_law_r12 := goodIn_p _ [678, 681, 340, 344, 347, 351, 355] (by decide +kernel) (by decide +kernel)
set_option maxRecDepth 20000 in
theorem wsL_law_r13_lt : GoodIn lw_tbl wsL_law_r13 := goodIn_p _ [359, 685, 689, 693, 363, 367, 371] (by decide +kernel) (by decide +kernel)
set_option maxRecDepth 20000 in
theorem wsL_law_r14_lt : GoodIn lw_tbl wsL_law_r14 := goodIn_p _ [375, 378, 381, 385] (by decide +kernel) (by decide +kernel)
set_option maxRecDepth 20000 in
theorem wsL_law_r15_lt : GoodIn lw_tbl wsL_law_r15 := goodIn_p _ [391, 394, 397, 401, 405, 409, 413] (by decide +kernel) (by decide +kernel)
set_option maxRecDepth 20000 in
theorem wsL_law_r16_lt : GoodIn lw_tbl wsL_law_r16 := goodIn_p _ [697, 701, 705, 708, 712, 716] (by decide +kernel) (by decide +kernel)
set_option maxRecDepth 20000 in
theorem wsL_law_r17_lt : GoodIn lw_tbl wsL_law_r17 := goodIn_p _ [720, 724, 418, 422, 429, 434] (by decide +kernel) (by decide +kernel)
set_option maxRecDepth 20000 in
theorem wsL_law_r18_lt : GoodIn lw_tbl wsL_law_r18 := goodIn_p _ [438, 442, 446, 450, 454, 728, 732] (by decide +kernel) (by decide +kernel)
set_option maxRecDepth 20000 in
theorem wsL_law_r19_lt : GoodIn lw_tbl wsL_law_r19 := goodIn_p _ [736, 740, 459, 463, 467, 744] (by decide +kernel) (by decide +kernel)
set_option maxRecDepth 20000 in
theorem wsL_law_r20_lt : GoodIn lw_tbl wsL_law_r20 := goodIn_p _ [471, 475, 479, 748, 483, 487, 752] (by decide +kernel) (by decide +kernel)
set_option maxRecDepth 20000 in
theorem wsL_law_r21_lt : GoodIn lw_tbl wsL_law_r21 := goodIn_p _ [491, 495, 499, 503, 507, 511] (by decide +kernel) (by decide +kernel)
set_option maxRecDepth 20000 in
theorem wsL_law_r22_lt : GoodIn lw_tbl wsL_law_r22 := goodIn_p _ [756, 760, 764, 768, 515, 772] (by decide +kernel) (by decide +kernel)
set_option maxRecDepth 20000 in
theorem wsL_law_r23_lt : GoodIn lw_tbl wsL_law_r23 := goodIn_p _ [519, 522, 528, 776, 532, 782] (by decide +kernel) (by decide +kernel)
set_option maxRecDepth 20000 in
theorem wsX40_lt : GoodIn lw_tbl wsX40 := goodIn_p _ [] (by decide +kernel) (by decide +kernel)
set_option maxRecDepth 20000 in
theorem wsX50_lt : GoodIn lw_tbl wsX50 := goodIn_p _ [] (by decide +kernel) (by decide +kernel)
set_option maxRecDepth 20000 in
theorem wsX30_lt : GoodIn lw_tbl wsX30 := goodIn_p _ [] (by decide +kernel) (by decide +kernel)
set_option maxRecDepth 20000 in
theorem wsX00_lt : GoodIn lw_tbl wsX00 := goodIn_p _ [] (by decide +kernel) (by decide +kernel)
set_option maxRecDepth 20000 in
theorem wsX20_lt : GoodIn lw_tbl wsX20 := goodIn_p _ [] (by decide +kernel) (by decide +kernel)
set_option maxRecDepth 20000 in
theorem wsX10_lt : GoodIn lw_tbl wsX10 := goodIn_p _ [] (by decide +kernel) (by decide +kernel)
theorem wsL_law_lt : GoodIn lw_tbl wsL_law := (goodIn_app (goodIn_app (goodIn_app (goodIn_app (goodIn_app (goodIn_app (goodIn_app (goodIn_app wsL_law_r1_lt (goodIn_app wsL_law_r2_lt (goodIn_app wsL_law_r3_lt (goodIn_app wsL_law_r4_lt (goodIn_app wsL_law_r5_lt (goodIn_app wsL_law_r6_lt (goodIn_app wsL_law_r7_lt (goodIn_app wsL_law_r8_lt (goodIn_app wsL_law_r9_lt (goodIn_app wsL_law_r10_lt (goodIn_app wsL_law_r11_lt (goodIn_app wsL_law_r12_lt (goodIn_app wsL_law_r13_lt (goodIn_app wsL_law_r14_lt (goodIn_app wsL_law_r15_lt (goodIn_app wsL_law_r16_lt (goodIn_app wsL_law_r17_lt (goodIn_app wsL_law_r18_lt (goodIn_app wsL_law_r19_lt (goodIn_app wsL_law_r20_lt (goodIn_app wsL_law_r21_lt (goodIn_app wsL_law_r22_lt wsL_law_r23_lt)))))))))))))))))))))) wsX40_lt) wsX50_lt) wsX30_lt) wsX00_lt) wsX20_lt) wsX10_lt) (fun _ h => absurd h List.not_mem_nil))
theorem wsL_law_in : ∀ w ∈ wsL_law, w ∈ lw_tbl := fun w h => (wsL_law_lt w h).1
theorem inlX0 : ∀ w ∈ wsX00, w ∈ wsL_law := fun _ h => List.mem_append_left _ (List.mem_append_left _ (List.mem_append_left _ (List.mem_append_right _ h)))
theorem inX0 : ∀ w ∈ wsX00, w ∈ lw_tbl := fun w h => wsL_law_in w (inlX0 w h)
theorem inlX1 : ∀ w ∈ wsX10, w ∈ wsL_law := fun _ h => List.mem_append_left _ (List.mem_append_right _ h)
theorem inX1 : ∀ w ∈ wsX10, w ∈ lw_tbl := fun w h => wsL_law_in w (inlX1 w h)
theorem inlX2 : ∀ w ∈ wsX20, w ∈ wsL_law := fun _ h => List.mem_append_left _ (List.mem_append_left _ (List.mem_append_right _ h))
theorem inX2 : ∀ w ∈ wsX20, w ∈ lw_tbl := fun w h => wsL_law_in w (inlX2 w h)
theorem inlX3 : ∀ w ∈ wsX30, w ∈ wsL_law := fun _ h => List.mem_append_left _ (List.mem_append_left _ (List.mem_append_left _ (List.mem_append_left _ (List.mem_append_right _ h))))
theorem inX3 : ∀ w ∈ wsX30, w ∈ lw_tbl := fun w h => wsL_law_in w (inlX3 w h)
theorem inlX4 : ∀ w ∈ wsX40, w ∈ wsL_law := fun _ h => List.mem_append_left _ (List.mem_append_left _ (List.mem_append_left _ (List.mem_append_left _ (List.mem_append_left _ (List.mem_append_left _ (List.mem_append_right _ h))))))
theorem inX4 : ∀ w ∈ wsX40, w ∈ lw_tbl := fun w h => wsL_law_in w (inlX4 w h)
theorem inlX5 : ∀ w ∈ wsX50, w ∈ wsL_law := fun _ h => List.mem_append_left _ (List.mem_append_left _ (List.mem_append_left _ (List.mem_append_left _ (List.mem_append_left _ (List.mem_append_right _ h)))))
theorem inX5 : ∀ w ∈ wsX50, w ∈ lw_tbl := fun w h => wsL_law_in w (inlX5 w h)
theorem inJ9 : ∀ w ∈ wsJ90, w ∈ lw_tbl := by decide +kernel
theorem inJ10 : ∀ w ∈ wsJ100, w ∈ lw_tbl := by decide +kernel
theorem inJ7 : ∀ w ∈ wsJ70, w ∈ lw_tbl := by decide +kernel
