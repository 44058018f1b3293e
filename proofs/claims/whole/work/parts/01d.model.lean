set_option maxRecDepth 20000 in
theorem ggX5_init_X5_asAtFirst : GoodIn wsX5_init wsX5_asAtFirst := goodIn_r _ [27] (by decide +kernel) (by decide +kernel)
set_option maxRecDepth 20000 in
theorem gX5_init_X5_asAtFirst : GoodIn wsX5_init (va_wsS RX5 64 yX5_asAtFirst wsX5_asAtFirst) := goodIn_app (goodIn_of _ (by decide +kernel)) ggX5_init_X5_asAtFirst
theorem dX5_init_0 : decode cX5_init 0 = .ok (.aload_n 0, 1) := by decide +kernel
theorem dX5_init_1 : decode cX5_init 1 = .ok (.invokespecial 1, 3) := by decide +kernel
theorem dX5_init_4 : decode cX5_init 4 = .ok (.aload_n 0, 1) := by decide +kernel
theorem dX5_init_5 : decode cX5_init 5 = .ok (.bipush 60, 2) := by decide +kernel
theorem dX5_init_7 : decode cX5_init 7 = .ok (.newarray .byte, 2) := by decide +kernel
theorem dX5_init_9 : decode cX5_init 9 = .ok (.putfield 7, 3) := by decide +kernel
theorem dX5_init_12 : decode cX5_init 12 = .ok (.aload_n 0, 1) := by decide +kernel
theorem dX5_init_13 : decode cX5_init 13 = .ok (.bipush 7, 2) := by decide +kernel
theorem dX5_init_15 : decode cX5_init 15 = .ok (.newarray .int, 2) := by decide +kernel
theorem dX5_init_17 : decode cX5_init 17 = .ok (.putfield 13, 3) := by decide +kernel
theorem dX5_init_20 : decode cX5_init 20 = .ok (.aload_n 0, 1) := by decide +kernel
theorem dX5_init_21 : decode cX5_init 21 = .ok (.bipush 7, 2) := by decide +kernel
theorem dX5_init_23 : decode cX5_init 23 = .ok (.newarray .int, 2) := by decide +kernel
theorem dX5_init_25 : decode cX5_init 25 = .ok (.putfield 17, 3) := by decide +kernel
theorem dX5_init_28 : decode cX5_init 28 = .ok (.aload_n 0, 1) := by decide +kernel
theorem dX5_init_29 : decode cX5_init 29 = .ok (.bipush 20, 2) := by decide +kernel
theorem dX5_init_31 : decode cX5_init 31 = .ok (.putfield 20, 3) := by decide +kernel
theorem dX5_init_34 : decode cX5_init 34 = .ok (.aload_n 0, 1) := by decide +kernel
theorem dX5_init_35 : decode cX5_init 35 = .ok (.bipush 24, 2) := by decide +kernel
theorem dX5_init_37 : decode cX5_init 37 = .ok (.newarray .int, 2) := by decide +kernel
theorem dX5_init_39 : decode cX5_init 39 = .ok (.putfield 24, 3) := by decide +kernel
theorem dX5_init_42 : decode cX5_init 42 = .ok (.aload_n 0, 1) := by decide +kernel
theorem dX5_init_43 : decode cX5_init 43 = .ok (.bipush 24, 2) := by decide +kernel
theorem dX5_init_45 : decode cX5_init 45 = .ok (.newarray .int, 2) := by decide +kernel
theorem dX5_init_47 : decode cX5_init 47 = .ok (.putfield 27, 3) := by decide +kernel
theorem dX5_init_50 : decode cX5_init 50 = .ok (.aload_n 0, 1) := by decide +kernel
theorem dX5_init_51 : decode cX5_init 51 = .ok (.iconst 5, 1) := by decide +kernel
theorem dX5_init_52 : decode cX5_init 52 = .ok (.newarray .int, 2) := by decide +kernel
theorem dX5_init_54 : decode cX5_init 54 = .ok (.putfield 30, 3) := by decide +kernel
theorem dX5_init_57 : decode cX5_init 57 = .ok (.aload_n 0, 1) := by decide +kernel
theorem dX5_init_58 : decode cX5_init 58 = .ok (.sipush 200, 3) := by decide +kernel
theorem dX5_init_61 : decode cX5_init 61 = .ok (.newarray .int, 2) := by decide +kernel
theorem dX5_init_63 : decode cX5_init 63 = .ok (.putfield 33, 3) := by decide +kernel
theorem dX5_init_66 : decode cX5_init 66 = .ok (.aload_n 0, 1) := by decide +kernel
theorem dX5_init_67 : decode cX5_init 67 = .ok (.sipush 200, 3) := by decide +kernel
theorem dX5_init_70 : decode cX5_init 70 = .ok (.newarray .int, 2) := by decide +kernel
theorem dX5_init_72 : decode cX5_init 72 = .ok (.putfield 36, 3) := by decide +kernel
theorem dX5_init_75 : decode cX5_init 75 = .ok (.aload_n 0, 1) := by decide +kernel
theorem dX5_init_76 : decode cX5_init 76 = .ok (.sipush 1000, 3) := by decide +kernel
theorem dX5_init_79 : decode cX5_init 79 = .ok (.newarray .int, 2) := by decide +kernel
theorem dX5_init_81 : decode cX5_init 81 = .ok (.putfield 39, 3) := by decide +kernel
theorem dX5_init_84 : decode cX5_init 84 = .ok (.aload_n 0, 1) := by decide +kernel
theorem dX5_init_85 : decode cX5_init 85 = .ok (.sipush (-10000), 3) := by decide +kernel
theorem dX5_init_88 : decode cX5_init 88 = .ok (.putfield 42, 3) := by decide +kernel
theorem dX5_init_91 : decode cX5_init 91 = .ok (.aload_n 0, 1) := by decide +kernel
theorem dX5_init_92 : decode cX5_init 92 = .ok (.sipush (-10000), 3) := by decide +kernel
theorem dX5_init_95 : decode cX5_init 95 = .ok (.putfield 45, 3) := by decide +kernel
theorem dX5_init_98 : decode cX5_init 98 = .ok (.aload_n 0, 1) := by decide +kernel
theorem dX5_init_99 : decode cX5_init 99 = .ok (.bipush 24, 2) := by decide +kernel
theorem dX5_init_101 : decode cX5_init 101 = .ok (.newarray .boolean, 2) := by decide +kernel
theorem dX5_init_103 : decode cX5_init 103 = .ok (.putfield 48, 3) := by decide +kernel
theorem dX5_init_106 : decode cX5_init 106 = .ok (.aload_n 0, 1) := by decide +kernel
theorem dX5_init_107 : decode cX5_init 107 = .ok (.bipush 24, 2) := by decide +kernel
theorem dX5_init_109 : decode cX5_init 109 = .ok (.newarray .boolean, 2) := by decide +kernel
theorem dX5_init_111 : decode cX5_init 111 = .ok (.putfield 52, 3) := by decide +kernel
theorem dX5_init_114 : decode cX5_init 114 = .ok (.aload_n 0, 1) := by decide +kernel
theorem dX5_init_115 : decode cX5_init 115 = .ok (.bipush 24, 2) := by decide +kernel
theorem dX5_init_117 : decode cX5_init 117 = .ok (.newarray .int, 2) := by decide +kernel
theorem dX5_init_119 : decode cX5_init 119 = .ok (.putfield 55, 3) := by decide +kernel
theorem dX5_init_122 : decode cX5_init 122 = .ok (.aload_n 0, 1) := by decide +kernel
theorem dX5_init_123 : decode cX5_init 123 = .ok (.bipush 24, 2) := by decide +kernel
theorem dX5_init_125 : decode cX5_init 125 = .ok (.newarray .int, 2) := by decide +kernel
theorem dX5_init_127 : decode cX5_init 127 = .ok (.putfield 58, 3) := by decide +kernel
theorem dX5_init_130 : decode cX5_init 130 = .ok (.aload_n 0, 1) := by decide +kernel
theorem dX5_init_131 : decode cX5_init 131 = .ok (.bipush 24, 2) := by decide +kernel
theorem dX5_init_133 : decode cX5_init 133 = .ok (.newarray .int, 2) := by decide +kernel
theorem dX5_init_135 : decode cX5_init 135 = .ok (.putfield 61, 3) := by decide +kernel
theorem dX5_init_138 : decode cX5_init 138 = .ok (.aload_n 0, 1) := by decide +kernel
theorem dX5_init_139 : decode cX5_init 139 = .ok (.getfield 13, 3) := by decide +kernel
theorem dX5_init_142 : decode cX5_init 142 = .ok (.invokestatic 64, 3) := by decide +kernel
theorem dX5_init_145 : decode cX5_init 145 = .ok (.iconst 0, 1) := by decide +kernel
theorem dX5_init_146 : decode cX5_init 146 = .ok (.istore_n 1, 1) := by decide +kernel
theorem dX5_init_147 : decode cX5_init 147 = .ok (.iload_n 1, 1) := by decide +kernel
theorem dX5_init_148 : decode cX5_init 148 = .ok (.iconst 5, 1) := by decide +kernel
theorem dX5_init_149 : decode cX5_init 149 = .ok (.if_icmp .ge 16, 3) := by decide +kernel
theorem dX5_init_152 : decode cX5_init 152 = .ok (.aload_n 0, 1) := by decide +kernel
theorem dX5_init_153 : decode cX5_init 153 = .ok (.getfield 30, 3) := by decide +kernel
theorem dX5_init_156 : decode cX5_init 156 = .ok (.iload_n 1, 1) := by decide +kernel
theorem dX5_init_157 : decode cX5_init 157 = .ok (.iconst 1, 1) := by decide +kernel
theorem dX5_init_158 : decode cX5_init 158 = .ok (.iastore, 1) := by decide +kernel
theorem dX5_init_159 : decode cX5_init 159 = .ok (.iinc 1 1, 3) := by decide +kernel
theorem dX5_init_162 : decode cX5_init 162 = .ok (.goto (-15), 3) := by decide +kernel
theorem dX5_init_165 : decode cX5_init 165 = .ok (.return_, 1) := by decide +kernel
theorem dX5_lies_0 : decode cX5_lies 0 = .ok (.iload_n 0, 1) := by decide +kernel
theorem dX5_lies_1 : decode cX5_lies 1 = .ok (.iload_n 1, 1) := by decide +kernel
theorem dX5_lies_2 : decode cX5_lies 2 = .ok (.if_icmp .lt 12, 3) := by decide +kernel
theorem dX5_lies_5 : decode cX5_lies 5 = .ok (.iload_n 0, 1) := by decide +kernel
theorem dX5_lies_6 : decode cX5_lies 6 = .ok (.iload_n 2, 1) := by decide +kernel
theorem dX5_lies_7 : decode cX5_lies 7 = .ok (.if_icmp .gt 7, 3) := by decide +kernel
theorem dX5_lies_10 : decode cX5_lies 10 = .ok (.iconst 1, 1) := by decide +kernel
theorem dX5_lies_11 : decode cX5_lies 11 = .ok (.goto 4, 3) := by decide +kernel
theorem dX5_lies_14 : decode cX5_lies 14 = .ok (.iconst 0, 1) := by decide +kernel
theorem dX5_lies_15 : decode cX5_lies 15 = .ok (.ireturn, 1) := by decide +kernel
theorem dX5_push_0 : decode cX5_push 0 = .ok (.bipush 24, 2) := by decide +kernel
theorem dX5_push_2 : decode cX5_push 2 = .ok (.istore_n 2, 1) := by decide +kernel
theorem dX5_push_3 : decode cX5_push 3 = .ok (.iload_n 2, 1) := by decide +kernel
theorem dX5_push_4 : decode cX5_push 4 = .ok (.ifCond .lt 32, 3) := by decide +kernel
theorem dX5_push_7 : decode cX5_push 7 = .ok (.aload_n 0, 1) := by decide +kernel
theorem dX5_push_8 : decode cX5_push 8 = .ok (.getfield 7, 3) := by decide +kernel
theorem dX5_push_11 : decode cX5_push 11 = .ok (.aload_n 0, 1) := by decide +kernel
theorem dX5_push_12 : decode cX5_push 12 = .ok (.getfield 68, 3) := by decide +kernel
theorem dX5_push_15 : decode cX5_push 15 = .ok (.iload_n 1, 1) := by decide +kernel
theorem dX5_push_16 : decode cX5_push 16 = .ok (.iload_n 2, 1) := by decide +kernel
theorem dX5_push_17 : decode cX5_push 17 = .ok (.ishr, 1) := by decide +kernel
theorem dX5_push_18 : decode cX5_push 18 = .ok (.i2b, 1) := by decide +kernel
theorem dX5_push_19 : decode cX5_push 19 = .ok (.bastore, 1) := by decide +kernel
theorem dX5_push_20 : decode cX5_push 20 = .ok (.aload_n 0, 1) := by decide +kernel
theorem dX5_push_21 : decode cX5_push 21 = .ok (.dup, 1) := by decide +kernel
theorem dX5_push_22 : decode cX5_push 22 = .ok (.getfield 68, 3) := by decide +kernel
theorem dX5_push_25 : decode cX5_push 25 = .ok (.iconst 1, 1) := by decide +kernel
theorem dX5_push_26 : decode cX5_push 26 = .ok (.iadd, 1) := by decide +kernel
theorem dX5_push_27 : decode cX5_push 27 = .ok (.putfield 68, 3) := by decide +kernel
theorem dX5_push_30 : decode cX5_push 30 = .ok (.iinc 2 (-8), 3) := by decide +kernel
theorem dX5_push_33 : decode cX5_push 33 = .ok (.goto (-30), 3) := by decide +kernel
theorem dX5_push_36 : decode cX5_push 36 = .ok (.return_, 1) := by decide +kernel
set_option maxRecDepth 20000 in
theorem ggX5_feed_X5_push : GoodIn wsX5_feed wsX5_push := goodIn_r _ [6, 7, 1, 8, 9, 10, 11, 12, 13, 14, 15, 16, 17, 18, 19, 20, 21, 22, 23, 24, 25, 26, 27, 28] (by decide +kernel) (by decide +kernel)
set_option maxRecDepth 20000 in
theorem gX5_feed_X5_push : GoodIn wsX5_feed (wsV RX5 71 RX5 yX5_push wsX5_push) := goodIn_app (goodIn_of _ (by decide +kernel)) ggX5_feed_X5_push
theorem dX5_feed_0 : decode cX5_feed 0 = .ok (.aload_n 0, 1) := by decide +kernel
theorem dX5_feed_1 : decode cX5_feed 1 = .ok (.getfield 68, 3) := by decide +kernel
theorem dX5_feed_4 : decode cX5_feed 4 = .ok (.bipush 20, 2) := by decide +kernel
theorem dX5_feed_6 : decode cX5_feed 6 = .ok (.iadd, 1) := by decide +kernel
theorem dX5_feed_7 : decode cX5_feed 7 = .ok (.bipush 60, 2) := by decide +kernel
theorem dX5_feed_9 : decode cX5_feed 9 = .ok (.if_icmp .le 7, 3) := by decide +kernel
theorem dX5_feed_12 : decode cX5_feed 12 = .ok (.sipush (-10000), 3) := by decide +kernel
theorem dX5_feed_15 : decode cX5_feed 15 = .ok (.ireturn, 1) := by decide +kernel
theorem dX5_feed_16 : decode cX5_feed 16 = .ok (.aload_n 0, 1) := by decide +kernel
theorem dX5_feed_17 : decode cX5_feed 17 = .ok (.iload_n 1, 1) := by decide +kernel
theorem dX5_feed_18 : decode cX5_feed 18 = .ok (.invokevirtual 71, 3) := by decide +kernel
theorem dX5_feed_21 : decode cX5_feed 21 = .ok (.aload_n 0, 1) := by decide +kernel
theorem dX5_feed_22 : decode cX5_feed 22 = .ok (.iload_n 2, 1) := by decide +kernel
theorem dX5_feed_23 : decode cX5_feed 23 = .ok (.invokevirtual 71, 3) := by decide +kernel
theorem dX5_feed_26 : decode cX5_feed 26 = .ok (.aload_n 0, 1) := by decide +kernel
theorem dX5_feed_27 : decode cX5_feed 27 = .ok (.iload_n 3, 1) := by decide +kernel
theorem dX5_feed_28 : decode cX5_feed 28 = .ok (.invokevirtual 71, 3) := by decide +kernel
theorem dX5_feed_31 : decode cX5_feed 31 = .ok (.aload_n 0, 1) := by decide +kernel
theorem dX5_feed_32 : decode cX5_feed 32 = .ok (.iload 4, 2) := by decide +kernel
theorem dX5_feed_34 : decode cX5_feed 34 = .ok (.invokevirtual 71, 3) := by decide +kernel
theorem dX5_feed_37 : decode cX5_feed 37 = .ok (.aload_n 0, 1) := by decide +kernel
theorem dX5_feed_38 : decode cX5_feed 38 = .ok (.iload 5, 2) := by decide +kernel
theorem dX5_feed_40 : decode cX5_feed 40 = .ok (.invokevirtual 71, 3) := by decide +kernel
theorem dX5_feed_43 : decode cX5_feed 43 = .ok (.aload_n 0, 1) := by decide +kernel
theorem dX5_feed_44 : decode cX5_feed 44 = .ok (.getfield 68, 3) := by decide +kernel
theorem dX5_feed_47 : decode cX5_feed 47 = .ok (.ireturn, 1) := by decide +kernel
theorem dX5_asAtFirst_0 : decode cX5_asAtFirst 0 = .ok (.aload_n 0, 1) := by decide +kernel
theorem dX5_asAtFirst_1 : decode cX5_asAtFirst 1 = .ok (.iconst 0, 1) := by decide +kernel
theorem dX5_asAtFirst_2 : decode cX5_asAtFirst 2 = .ok (.sipush 240, 3) := by decide +kernel
theorem dX5_asAtFirst_5 : decode cX5_asAtFirst 5 = .ok (.iastore, 1) := by decide +kernel
theorem dX5_asAtFirst_6 : decode cX5_asAtFirst 6 = .ok (.aload_n 0, 1) := by decide +kernel
theorem dX5_asAtFirst_7 : decode cX5_asAtFirst 7 = .ok (.iconst 1, 1) := by decide +kernel
theorem dX5_asAtFirst_8 : decode cX5_asAtFirst 8 = .ok (.bipush 18, 2) := by decide +kernel
theorem dX5_asAtFirst_10 : decode cX5_asAtFirst 10 = .ok (.iastore, 1) := by decide +kernel
theorem dX5_asAtFirst_11 : decode cX5_asAtFirst 11 = .ok (.aload_n 0, 1) := by decide +kernel
theorem dX5_asAtFirst_12 : decode cX5_asAtFirst 12 = .ok (.iconst 2, 1) := by decide +kernel
theorem dX5_asAtFirst_13 : decode cX5_asAtFirst 13 = .ok (.bipush 100, 2) := by decide +kernel
theorem dX5_asAtFirst_15 : decode cX5_asAtFirst 15 = .ok (.iastore, 1) := by decide +kernel
theorem dX5_asAtFirst_16 : decode cX5_asAtFirst 16 = .ok (.aload_n 0, 1) := by decide +kernel
theorem dX5_asAtFirst_17 : decode cX5_asAtFirst 17 = .ok (.iconst 3, 1) := by decide +kernel
theorem dX5_asAtFirst_18 : decode cX5_asAtFirst 18 = .ok (.bipush 70, 2) := by decide +kernel
theorem dX5_asAtFirst_20 : decode cX5_asAtFirst 20 = .ok (.iastore, 1) := by decide +kernel
theorem dX5_asAtFirst_21 : decode cX5_asAtFirst 21 = .ok (.aload_n 0, 1) := by decide +kernel
theorem dX5_asAtFirst_22 : decode cX5_asAtFirst 22 = .ok (.iconst 4, 1) := by decide +kernel
theorem dX5_asAtFirst_23 : decode cX5_asAtFirst 23 = .ok (.bipush 95, 2) := by decide +kernel
theorem dX5_asAtFirst_25 : decode cX5_asAtFirst 25 = .ok (.iastore, 1) := by decide +kernel
theorem dX5_asAtFirst_26 : decode cX5_asAtFirst 26 = .ok (.aload_n 0, 1) := by decide +kernel
theorem dX5_asAtFirst_27 : decode cX5_asAtFirst 27 = .ok (.iconst 5, 1) := by decide +kernel
theorem dX5_asAtFirst_28 : decode cX5_asAtFirst 28 = .ok (.bipush 12, 2) := by decide +kernel
theorem dX5_asAtFirst_30 : decode cX5_asAtFirst 30 = .ok (.iastore, 1) := by decide +kernel
theorem dX5_asAtFirst_31 : decode cX5_asAtFirst 31 = .ok (.aload_n 0, 1) := by decide +kernel
theorem dX5_asAtFirst_32 : decode cX5_asAtFirst 32 = .ok (.bipush 6, 2) := by decide +kernel
theorem dX5_asAtFirst_34 : decode cX5_asAtFirst 34 = .ok (.iconst 1, 1) := by decide +kernel
theorem dX5_asAtFirst_35 : decode cX5_asAtFirst 35 = .ok (.iastore, 1) := by decide +kernel
theorem dX5_asAtFirst_36 : decode cX5_asAtFirst 36 = .ok (.return_, 1) := by decide +kernel
theorem dX5_letter_0 : decode cX5_letter 0 = .ok (.iload_n 0, 1) := by decide +kernel
theorem dX5_letter_1 : decode cX5_letter 1 = .ok (.tableswitch 114 99 119 #[109, 114, 114, 114, 105, 107, 114, 114, 99, 114, 101, 114, 114, 114, 114, 114, 114, 111, 114, 114, 103], 99) := by decide +kernel
theorem dX5_letter_100 : decode cX5_letter 100 = .ok (.iconst 0, 1) := by decide +kernel
theorem dX5_letter_101 : decode cX5_letter 101 = .ok (.ireturn, 1) := by decide +kernel
theorem dX5_letter_102 : decode cX5_letter 102 = .ok (.iconst 1, 1) := by decide +kernel
theorem dX5_letter_103 : decode cX5_letter 103 = .ok (.ireturn, 1) := by decide +kernel
theorem dX5_letter_104 : decode cX5_letter 104 = .ok (.iconst 2, 1) := by decide +kernel
theorem dX5_letter_105 : decode cX5_letter 105 = .ok (.ireturn, 1) := by decide +kernel
theorem dX5_letter_106 : decode cX5_letter 106 = .ok (.iconst 3, 1) := by decide +kernel
theorem dX5_letter_107 : decode cX5_letter 107 = .ok (.ireturn, 1) := by decide +kernel
theorem dX5_letter_108 : decode cX5_letter 108 = .ok (.iconst 4, 1) := by decide +kernel
theorem dX5_letter_109 : decode cX5_letter 109 = .ok (.ireturn, 1) := by decide +kernel
theorem dX5_letter_110 : decode cX5_letter 110 = .ok (.iconst 5, 1) := by decide +kernel
theorem dX5_letter_111 : decode cX5_letter 111 = .ok (.ireturn, 1) := by decide +kernel
theorem dX5_letter_112 : decode cX5_letter 112 = .ok (.bipush 6, 2) := by decide +kernel
theorem dX5_letter_114 : decode cX5_letter 114 = .ok (.ireturn, 1) := by decide +kernel
theorem dX5_letter_115 : decode cX5_letter 115 = .ok (.sipush (-10000), 3) := by decide +kernel
theorem dX5_letter_118 : decode cX5_letter 118 = .ok (.ireturn, 1) := by decide +kernel
set_option maxRecDepth 20000 in
theorem ggX5_canBe_X5_lies : GoodIn wsX5_canBe wsX5_lies := goodIn_r _ [4] (by decide +kernel) (by decide +kernel)
set_option maxRecDepth 20000 in
theorem gX5_canBe_X5_lies : GoodIn wsX5_canBe (va_wsS RX5 75 yX5_lies wsX5_lies) := goodIn_app (goodIn_of _ (by decide +kernel)) ggX5_canBe_X5_lies
theorem dX5_canBe_0 : decode cX5_canBe 0 = .ok (.iload_n 0, 1) := by decide +kernel
theorem dX5_canBe_1 : decode cX5_canBe 1 = .ok (.tableswitch 95 0 5 #[39, 49, 61, 61, 74, 87], 39) := by decide +kernel
theorem dX5_canBe_40 : decode cX5_canBe 40 = .ok (.iload_n 1, 1) := by decide +kernel
theorem dX5_canBe_41 : decode cX5_canBe 41 = .ok (.bipush 20, 2) := by decide +kernel
theorem dX5_canBe_43 : decode cX5_canBe 43 = .ok (.sipush 600, 3) := by decide +kernel
theorem dX5_canBe_46 : decode cX5_canBe 46 = .ok (.invokestatic 75, 3) := by decide +kernel
theorem dX5_canBe_49 : decode cX5_canBe 49 = .ok (.ireturn, 1) := by decide +kernel
theorem dX5_canBe_50 : decode cX5_canBe 50 = .ok (.iload_n 1, 1) := by decide +kernel
theorem dX5_canBe_51 : decode cX5_canBe 51 = .ok (.bipush 99, 2) := by decide +kernel
theorem dX5_canBe_53 : decode cX5_canBe 53 = .ok (.if_icmp .gt 7, 3) := by decide +kernel
theorem dX5_canBe_56 : decode cX5_canBe 56 = .ok (.iconst 1, 1) := by decide +kernel
theorem dX5_canBe_57 : decode cX5_canBe 57 = .ok (.goto 4, 3) := by decide +kernel
theorem dX5_canBe_60 : decode cX5_canBe 60 = .ok (.iconst 0, 1) := by decide +kernel
theorem dX5_canBe_61 : decode cX5_canBe 61 = .ok (.ireturn, 1) := by decide +kernel
theorem dX5_canBe_62 : decode cX5_canBe 62 = .ok (.iload_n 1, 1) := by decide +kernel
theorem dX5_canBe_63 : decode cX5_canBe 63 = .ok (.sipush 999, 3) := by decide +kernel
theorem dX5_canBe_66 : decode cX5_canBe 66 = .ok (.if_icmp .gt 7, 3) := by decide +kernel
theorem dX5_canBe_69 : decode cX5_canBe 69 = .ok (.iconst 1, 1) := by decide +kernel
theorem dX5_canBe_70 : decode cX5_canBe 70 = .ok (.goto 4, 3) := by decide +kernel
theorem dX5_canBe_73 : decode cX5_canBe 73 = .ok (.iconst 0, 1) := by decide +kernel
theorem dX5_canBe_74 : decode cX5_canBe 74 = .ok (.ireturn, 1) := by decide +kernel
theorem dX5_canBe_75 : decode cX5_canBe 75 = .ok (.iload_n 1, 1) := by decide +kernel
theorem dX5_canBe_76 : decode cX5_canBe 76 = .ok (.sipush 200, 3) := by decide +kernel
theorem dX5_canBe_79 : decode cX5_canBe 79 = .ok (.if_icmp .gt 7, 3) := by decide +kernel
theorem dX5_canBe_82 : decode cX5_canBe 82 = .ok (.iconst 1, 1) := by decide +kernel
theorem dX5_canBe_83 : decode cX5_canBe 83 = .ok (.goto 4, 3) := by decide +kernel
theorem dX5_canBe_86 : decode cX5_canBe 86 = .ok (.iconst 0, 1) := by decide +kernel
theorem dX5_canBe_87 : decode cX5_canBe 87 = .ok (.ireturn, 1) := by decide +kernel
theorem dX5_canBe_88 : decode cX5_canBe 88 = .ok (.iload_n 1, 1) := by decide +kernel
theorem dX5_canBe_89 : decode cX5_canBe 89 = .ok (.iconst 1, 1) := by decide +kernel
theorem dX5_canBe_90 : decode cX5_canBe 90 = .ok (.bipush 24, 2) := by decide +kernel
theorem dX5_canBe_92 : decode cX5_canBe 92 = .ok (.invokestatic 75, 3) := by decide +kernel
theorem dX5_canBe_95 : decode cX5_canBe 95 = .ok (.ireturn, 1) := by decide +kernel
theorem dX5_canBe_96 : decode cX5_canBe 96 = .ok (.iload_n 1, 1) := by decide +kernel
theorem dX5_canBe_97 : decode cX5_canBe 97 = .ok (.iconst 1, 1) := by decide +kernel
theorem dX5_canBe_98 : decode cX5_canBe 98 = .ok (.if_icmp .gt 7, 3) := by decide +kernel
theorem dX5_canBe_101 : decode cX5_canBe 101 = .ok (.iconst 1, 1) := by decide +kernel
theorem dX5_canBe_102 : decode cX5_canBe 102 = .ok (.goto 4, 3) := by decide +kernel
theorem dX5_canBe_105 : decode cX5_canBe 105 = .ok (.iconst 0, 1) := by decide +kernel
theorem dX5_canBe_106 : decode cX5_canBe 106 = .ok (.ireturn, 1) := by decide +kernel
theorem dX5_at_0 : decode cX5_at 0 = .ok (.iload_n 1, 1) := by decide +kernel
theorem dX5_at_1 : decode cX5_at 1 = .ok (.iload_n 2, 1) := by decide +kernel
theorem dX5_at_2 : decode cX5_at 2 = .ok (.if_icmp .ge 16, 3) := by decide +kernel
theorem dX5_at_5 : decode cX5_at 5 = .ok (.aload_n 0, 1) := by decide +kernel
theorem dX5_at_6 : decode cX5_at 6 = .ok (.getfield 7, 3) := by decide +kernel
theorem dX5_at_9 : decode cX5_at 9 = .ok (.iload_n 1, 1) := by decide +kernel
theorem dX5_at_10 : decode cX5_at 10 = .ok (.baload, 1) := by decide +kernel
theorem dX5_at_11 : decode cX5_at 11 = .ok (.sipush 255, 3) := by decide +kernel
theorem dX5_at_14 : decode cX5_at 14 = .ok (.iand, 1) := by decide +kernel
theorem dX5_at_15 : decode cX5_at 15 = .ok (.goto 4, 3) := by decide +kernel
theorem dX5_at_18 : decode cX5_at 18 = .ok (.iconst 0, 1) := by decide +kernel
theorem dX5_at_19 : decode cX5_at 19 = .ok (.ireturn, 1) := by decide +kernel
set_option maxRecDepth 20000 in
theorem ggX5_reads_X5_asAtFirst : GoodIn wsX5_reads wsX5_asAtFirst := goodIn_r _ [5] (by decide +kernel) (by decide +kernel)
set_option maxRecDepth 20000 in
theorem gX5_reads_X5_asAtFirst : GoodIn wsX5_reads (va_wsS RX5 64 yX5_asAtFirst wsX5_asAtFirst) := goodIn_app (goodIn_of _ (by decide +kernel)) ggX5_reads_X5_asAtFirst
set_option maxRecDepth 20000 in
theorem ggX5_reads_X5_at : GoodIn wsX5_reads wsX5_at := goodIn_r _ [9, 10, 20, 21, 22, 23, 24, 25, 26, 27, 28, 29, 30, 31, 32, 33, 34, 35, 36, 37, 38, 39, 40] (by decide +kernel) (by decide +kernel)
set_option maxRecDepth 20000 in
theorem gX5_reads_X5_at : GoodIn wsX5_reads (wsV RX5 79 RX5 yX5_at wsX5_at) := goodIn_app (goodIn_of _ (by decide +kernel)) ggX5_reads_X5_at
set_option maxRecDepth 20000 in
theorem ggX5_reads_X5_letter : GoodIn wsX5_reads wsX5_letter := goodIn_r _ [13] (by decide +kernel) (by decide +kernel)
set_option maxRecDepth 20000 in
theorem gX5_reads_X5_letter : GoodIn wsX5_reads (va_wsS RX5 83 yX5_letter wsX5_letter) := goodIn_app (goodIn_of _ (by decide +kernel)) ggX5_reads_X5_letter
set_option maxRecDepth 20000 in
theorem ggX5_reads_X5_lies : GoodIn wsX5_reads wsX5_lies := goodIn_r _ [16] (by decide +kernel) (by decide +kernel)
set_option maxRecDepth 20000 in
theorem gX5_reads_X5_lies : GoodIn wsX5_reads (va_wsS RX5 75 yX5_lies wsX5_lies) := goodIn_app (goodIn_of _ (by decide +kernel)) ggX5_reads_X5_lies
set_option maxRecDepth 20000 in
theorem ggX5_reads_X5_canBe : GoodIn wsX5_reads wsX5_canBe := goodIn_r _ [19, 14, 15, 4, 16] (by decide +kernel) (by decide +kernel)
set_option maxRecDepth 20000 in
theorem gX5_reads_X5_canBe : GoodIn wsX5_reads (va_wsS RX5 87 yX5_canBe wsX5_canBe) := goodIn_app (goodIn_of _ (by decide +kernel)) ggX5_reads_X5_canBe
theorem dX5_reads_0 : decode cX5_reads 0 = .ok (.aload_n 0, 1) := by decide +kernel
theorem dX5_reads_1 : decode cX5_reads 1 = .ok (.getfield 17, 3) := by decide +kernel
theorem dX5_reads_4 : decode cX5_reads 4 = .ok (.invokestatic 64, 3) := by decide +kernel
theorem dX5_reads_7 : decode cX5_reads 7 = .ok (.iconst 0, 1) := by decide +kernel
theorem dX5_reads_8 : decode cX5_reads 8 = .ok (.istore_n 2, 1) := by decide +kernel
theorem dX5_reads_9 : decode cX5_reads 9 = .ok (.iconst 0, 1) := by decide +kernel
theorem dX5_reads_10 : decode cX5_reads 10 = .ok (.istore_n 3, 1) := by decide +kernel
theorem dX5_reads_11 : decode cX5_reads 11 = .ok (.iload_n 3, 1) := by decide +kernel
theorem dX5_reads_12 : decode cX5_reads 12 = .ok (.iload_n 1, 1) := by decide +kernel
theorem dX5_reads_13 : decode cX5_reads 13 = .ok (.if_icmp .gt 170, 3) := by decide +kernel
theorem dX5_reads_16 : decode cX5_reads 16 = .ok (.aload_n 0, 1) := by decide +kernel
theorem dX5_reads_17 : decode cX5_reads 17 = .ok (.iload_n 2, 1) := by decide +kernel
theorem dX5_reads_18 : decode cX5_reads 18 = .ok (.iload_n 1, 1) := by decide +kernel
theorem dX5_reads_19 : decode cX5_reads 19 = .ok (.invokevirtual 79, 3) := by decide +kernel
theorem dX5_reads_22 : decode cX5_reads 22 = .ok (.invokestatic 83, 3) := by decide +kernel
theorem dX5_reads_25 : decode cX5_reads 25 = .ok (.istore 4, 2) := by decide +kernel
theorem dX5_reads_27 : decode cX5_reads 27 = .ok (.iload 4, 2) := by decide +kernel
theorem dX5_reads_29 : decode cX5_reads 29 = .ok (.sipush (-10000), 3) := by decide +kernel
theorem dX5_reads_32 : decode cX5_reads 32 = .ok (.if_icmp .ne 8, 3) := by decide +kernel
theorem dX5_reads_35 : decode cX5_reads 35 = .ok (.bipush 100, 2) := by decide +kernel
theorem dX5_reads_37 : decode cX5_reads 37 = .ok (.iload_n 2, 1) := by decide +kernel
theorem dX5_reads_38 : decode cX5_reads 38 = .ok (.iadd, 1) := by decide +kernel
theorem dX5_reads_39 : decode cX5_reads 39 = .ok (.ireturn, 1) := by decide +kernel
theorem dX5_reads_40 : decode cX5_reads 40 = .ok (.iinc 2 1, 3) := by decide +kernel
theorem dX5_reads_43 : decode cX5_reads 43 = .ok (.aload_n 0, 1) := by decide +kernel
theorem dX5_reads_44 : decode cX5_reads 44 = .ok (.iload_n 2, 1) := by decide +kernel
theorem dX5_reads_45 : decode cX5_reads 45 = .ok (.iload_n 1, 1) := by decide +kernel
theorem dX5_reads_46 : decode cX5_reads 46 = .ok (.invokevirtual 79, 3) := by decide +kernel
theorem dX5_reads_49 : decode cX5_reads 49 = .ok (.bipush 48, 2) := by decide +kernel
theorem dX5_reads_51 : decode cX5_reads 51 = .ok (.bipush 57, 2) := by decide +kernel
theorem dX5_reads_53 : decode cX5_reads 53 = .ok (.invokestatic 75, 3) := by decide +kernel
theorem dX5_reads_56 : decode cX5_reads 56 = .ok (.ifCond .ne 9, 3) := by decide +kernel
theorem dX5_reads_59 : decode cX5_reads 59 = .ok (.sipush 200, 3) := by decide +kernel
theorem dX5_reads_62 : decode cX5_reads 62 = .ok (.iload_n 2, 1) := by decide +kernel
theorem dX5_reads_63 : decode cX5_reads 63 = .ok (.iadd, 1) := by decide +kernel
theorem dX5_reads_64 : decode cX5_reads 64 = .ok (.ireturn, 1) := by decide +kernel
theorem dX5_reads_65 : decode cX5_reads 65 = .ok (.iload_n 2, 1) := by decide +kernel
theorem dX5_reads_66 : decode cX5_reads 66 = .ok (.istore 5, 2) := by decide +kernel
theorem dX5_reads_68 : decode cX5_reads 68 = .ok (.iconst 0, 1) := by decide +kernel
theorem dX5_reads_69 : decode cX5_reads 69 = .ok (.istore 6, 2) := by decide +kernel
theorem dX5_reads_71 : decode cX5_reads 71 = .ok (.aload_n 0, 1) := by decide +kernel
theorem dX5_reads_72 : decode cX5_reads 72 = .ok (.iload_n 2, 1) := by decide +kernel
theorem dX5_reads_73 : decode cX5_reads 73 = .ok (.iload_n 1, 1) := by decide +kernel
theorem dX5_reads_74 : decode cX5_reads 74 = .ok (.invokevirtual 79, 3) := by decide +kernel
theorem dX5_reads_77 : decode cX5_reads 77 = .ok (.bipush 48, 2) := by decide +kernel
theorem dX5_reads_79 : decode cX5_reads 79 = .ok (.bipush 57, 2) := by decide +kernel
theorem dX5_reads_81 : decode cX5_reads 81 = .ok (.invokestatic 75, 3) := by decide +kernel
theorem dX5_reads_84 : decode cX5_reads 84 = .ok (.ifCond .eq 40, 3) := by decide +kernel
theorem dX5_reads_87 : decode cX5_reads 87 = .ok (.iload_n 2, 1) := by decide +kernel
theorem dX5_reads_88 : decode cX5_reads 88 = .ok (.iload 5, 2) := by decide +kernel
theorem dX5_reads_90 : decode cX5_reads 90 = .ok (.iconst 4, 1) := by decide +kernel
theorem dX5_reads_91 : decode cX5_reads 91 = .ok (.iadd, 1) := by decide +kernel
theorem dX5_reads_92 : decode cX5_reads 92 = .ok (.if_icmp .ne 9, 3) := by decide +kernel
theorem dX5_reads_95 : decode cX5_reads 95 = .ok (.sipush 300, 3) := by decide +kernel
theorem dX5_reads_98 : decode cX5_reads 98 = .ok (.iload_n 2, 1) := by decide +kernel
theorem dX5_reads_99 : decode cX5_reads 99 = .ok (.iadd, 1) := by decide +kernel
theorem dX5_reads_100 : decode cX5_reads 100 = .ok (.ireturn, 1) := by decide +kernel
theorem dX5_reads_101 : decode cX5_reads 101 = .ok (.bipush 10, 2) := by decide +kernel
theorem dX5_reads_103 : decode cX5_reads 103 = .ok (.iload 6, 2) := by decide +kernel
theorem dX5_reads_105 : decode cX5_reads 105 = .ok (.imul, 1) := by decide +kernel
theorem dX5_reads_106 : decode cX5_reads 106 = .ok (.aload_n 0, 1) := by decide +kernel
theorem dX5_reads_107 : decode cX5_reads 107 = .ok (.iload_n 2, 1) := by decide +kernel
theorem dX5_reads_108 : decode cX5_reads 108 = .ok (.iload_n 1, 1) := by decide +kernel
theorem dX5_reads_109 : decode cX5_reads 109 = .ok (.invokevirtual 79, 3) := by decide +kernel
theorem dX5_reads_112 : decode cX5_reads 112 = .ok (.iadd, 1) := by decide +kernel
theorem dX5_reads_113 : decode cX5_reads 113 = .ok (.bipush 48, 2) := by decide +kernel
theorem dX5_reads_115 : decode cX5_reads 115 = .ok (.isub, 1) := by decide +kernel
theorem dX5_reads_116 : decode cX5_reads 116 = .ok (.istore 6, 2) := by decide +kernel
theorem dX5_reads_118 : decode cX5_reads 118 = .ok (.iinc 2 1, 3) := by decide +kernel
theorem dX5_reads_121 : decode cX5_reads 121 = .ok (.goto (-50), 3) := by decide +kernel
theorem dX5_reads_124 : decode cX5_reads 124 = .ok (.iload 4, 2) := by decide +kernel
theorem dX5_reads_126 : decode cX5_reads 126 = .ok (.iload 6, 2) := by decide +kernel
theorem dX5_reads_128 : decode cX5_reads 128 = .ok (.invokestatic 87, 3) := by decide +kernel
theorem dX5_reads_131 : decode cX5_reads 131 = .ok (.ifCond .ne 10, 3) := by decide +kernel
theorem dX5_reads_134 : decode cX5_reads 134 = .ok (.sipush 400, 3) := by decide +kernel
theorem dX5_reads_137 : decode cX5_reads 137 = .ok (.iload 5, 2) := by decide +kernel
theorem dX5_reads_139 : decode cX5_reads 139 = .ok (.iadd, 1) := by decide +kernel
theorem dX5_reads_140 : decode cX5_reads 140 = .ok (.ireturn, 1) := by decide +kernel
theorem dX5_reads_141 : decode cX5_reads 141 = .ok (.aload_n 0, 1) := by decide +kernel
theorem dX5_reads_142 : decode cX5_reads 142 = .ok (.getfield 17, 3) := by decide +kernel
theorem dX5_reads_145 : decode cX5_reads 145 = .ok (.iload 4, 2) := by decide +kernel
theorem dX5_reads_147 : decode cX5_reads 147 = .ok (.iload 6, 2) := by decide +kernel
theorem dX5_reads_149 : decode cX5_reads 149 = .ok (.iastore, 1) := by decide +kernel
theorem dX5_reads_150 : decode cX5_reads 150 = .ok (.iload_n 2, 1) := by decide +kernel
theorem dX5_reads_151 : decode cX5_reads 151 = .ok (.iload_n 1, 1) := by decide +kernel
theorem dX5_reads_152 : decode cX5_reads 152 = .ok (.if_icmp .ne 5, 3) := by decide +kernel
theorem dX5_reads_155 : decode cX5_reads 155 = .ok (.iconst 0, 1) := by decide +kernel
theorem dX5_reads_156 : decode cX5_reads 156 = .ok (.ireturn, 1) := by decide +kernel
theorem dX5_reads_157 : decode cX5_reads 157 = .ok (.aload_n 0, 1) := by decide +kernel
theorem dX5_reads_158 : decode cX5_reads 158 = .ok (.iload_n 2, 1) := by decide +kernel
theorem dX5_reads_159 : decode cX5_reads 159 = .ok (.iload_n 1, 1) := by decide +kernel
theorem dX5_reads_160 : decode cX5_reads 160 = .ok (.invokevirtual 79, 3) := by decide +kernel
theorem dX5_reads_163 : decode cX5_reads 163 = .ok (.bipush 59, 2) := by decide +kernel
theorem dX5_reads_165 : decode cX5_reads 165 = .ok (.if_icmp .eq 9, 3) := by decide +kernel
theorem dX5_reads_168 : decode cX5_reads 168 = .ok (.sipush 500, 3) := by decide +kernel
theorem dX5_reads_171 : decode cX5_reads 171 = .ok (.iload_n 2, 1) := by decide +kernel
theorem dX5_reads_172 : decode cX5_reads 172 = .ok (.iadd, 1) := by decide +kernel
theorem dX5_reads_173 : decode cX5_reads 173 = .ok (.ireturn, 1) := by decide +kernel
theorem dX5_reads_174 : decode cX5_reads 174 = .ok (.iinc 2 1, 3) := by decide +kernel
theorem dX5_reads_177 : decode cX5_reads 177 = .ok (.iinc 3 1, 3) := by decide +kernel
theorem dX5_reads_180 : decode cX5_reads 180 = .ok (.goto (-169), 3) := by decide +kernel
theorem dX5_reads_183 : decode cX5_reads 183 = .ok (.bipush 100, 2) := by decide +kernel
theorem dX5_reads_185 : decode cX5_reads 185 = .ok (.iload_n 2, 1) := by decide +kernel
theorem dX5_reads_186 : decode cX5_reads 186 = .ok (.iadd, 1) := by decide +kernel
theorem dX5_reads_187 : decode cX5_reads 187 = .ok (.ireturn, 1) := by decide +kernel
set_option maxRecDepth 20000 in
theorem ggX5_rules_X5_reads : GoodIn wsX5_rules wsX5_reads := goodIn_r _ [8, 3, 9, 10, 7, 11, 12, 13, 14, 15, 16, 17, 18, 19, 20, 21, 22, 23, 24, 25, 26, 27, 28, 29, 30, 31, 32, 33, 34, 35, 36, 37, 38, 39, 40, 41, 42, 43, 44, 45, 46] (by decide +kernel) (by decide +kernel)
set_option maxRecDepth 20000 in
theorem gX5_rules_X5_reads : GoodIn wsX5_rules (wsV RX5 91 RX5 yX5_reads wsX5_reads) := goodIn_app (goodIn_of _ (by decide +kernel)) ggX5_rules_X5_reads
theorem dX5_rules_0 : decode cX5_rules 0 = .ok (.iload_n 1, 1) := by decide +kernel
theorem dX5_rules_1 : decode cX5_rules 1 = .ok (.ifCond .lt 11, 3) := by decide +kernel
theorem dX5_rules_4 : decode cX5_rules 4 = .ok (.iload_n 1, 1) := by decide +kernel
theorem dX5_rules_5 : decode cX5_rules 5 = .ok (.aload_n 0, 1) := by decide +kernel
theorem dX5_rules_6 : decode cX5_rules 6 = .ok (.getfield 68, 3) := by decide +kernel
theorem dX5_rules_9 : decode cX5_rules 9 = .ok (.if_icmp .le 7, 3) := by decide +kernel
theorem dX5_rules_12 : decode cX5_rules 12 = .ok (.sipush (-10000), 3) := by decide +kernel
theorem dX5_rules_15 : decode cX5_rules 15 = .ok (.ireturn, 1) := by decide +kernel
theorem dX5_rules_16 : decode cX5_rules 16 = .ok (.aload_n 0, 1) := by decide +kernel
theorem dX5_rules_17 : decode cX5_rules 17 = .ok (.iconst 0, 1) := by decide +kernel
theorem dX5_rules_18 : decode cX5_rules 18 = .ok (.putfield 68, 3) := by decide +kernel
theorem dX5_rules_21 : decode cX5_rules 21 = .ok (.aload_n 0, 1) := by decide +kernel
theorem dX5_rules_22 : decode cX5_rules 22 = .ok (.iload_n 1, 1) := by decide +kernel
theorem dX5_rules_23 : decode cX5_rules 23 = .ok (.invokevirtual 91, 3) := by decide +kernel
theorem dX5_rules_26 : decode cX5_rules 26 = .ok (.istore_n 2, 1) := by decide +kernel
theorem dX5_rules_27 : decode cX5_rules 27 = .ok (.iconst 0, 1) := by decide +kernel
theorem dX5_rules_28 : decode cX5_rules 28 = .ok (.istore_n 3, 1) := by decide +kernel
theorem dX5_rules_29 : decode cX5_rules 29 = .ok (.iload_n 3, 1) := by decide +kernel
theorem dX5_rules_30 : decode cX5_rules 30 = .ok (.bipush 7, 2) := by decide +kernel
theorem dX5_rules_32 : decode cX5_rules 32 = .ok (.if_icmp .ge 25, 3) := by decide +kernel
theorem dX5_rules_35 : decode cX5_rules 35 = .ok (.iload_n 2, 1) := by decide +kernel
theorem dX5_rules_36 : decode cX5_rules 36 = .ok (.ifCond .ne 21, 3) := by decide +kernel
theorem dX5_rules_39 : decode cX5_rules 39 = .ok (.aload_n 0, 1) := by decide +kernel
theorem dX5_rules_40 : decode cX5_rules 40 = .ok (.getfield 13, 3) := by decide +kernel
theorem dX5_rules_43 : decode cX5_rules 43 = .ok (.iload_n 3, 1) := by decide +kernel
theorem dX5_rules_44 : decode cX5_rules 44 = .ok (.aload_n 0, 1) := by decide +kernel
theorem dX5_rules_45 : decode cX5_rules 45 = .ok (.getfield 17, 3) := by decide +kernel
theorem dX5_rules_48 : decode cX5_rules 48 = .ok (.iload_n 3, 1) := by decide +kernel
theorem dX5_rules_49 : decode cX5_rules 49 = .ok (.iaload, 1) := by decide +kernel
theorem dX5_rules_50 : decode cX5_rules 50 = .ok (.iastore, 1) := by decide +kernel
theorem dX5_rules_51 : decode cX5_rules 51 = .ok (.iinc 3 1, 3) := by decide +kernel
theorem dX5_rules_54 : decode cX5_rules 54 = .ok (.goto (-25), 3) := by decide +kernel
theorem dX5_rules_57 : decode cX5_rules 57 = .ok (.iload_n 2, 1) := by decide +kernel
theorem dX5_rules_58 : decode cX5_rules 58 = .ok (.ireturn, 1) := by decide +kernel
set_option maxRecDepth 20000 in
theorem ggX5_rule_X5_lies : GoodIn wsX5_rule wsX5_lies := goodIn_r _ [5] (by decide +kernel) (by decide +kernel)
set_option maxRecDepth 20000 in
theorem gX5_rule_X5_lies : GoodIn wsX5_rule (va_wsS RX5 75 yX5_lies wsX5_lies) := goodIn_app (goodIn_of _ (by decide +kernel)) ggX5_rule_X5_lies
theorem dX5_rule_0 : decode cX5_rule 0 = .ok (.iload_n 1, 1) := by decide +kernel
theorem dX5_rule_1 : decode cX5_rule 1 = .ok (.iconst 0, 1) := by decide +kernel
theorem dX5_rule_2 : decode cX5_rule 2 = .ok (.bipush 6, 2) := by decide +kernel
theorem dX5_rule_4 : decode cX5_rule 4 = .ok (.invokestatic 75, 3) := by decide +kernel
theorem dX5_rule_7 : decode cX5_rule 7 = .ok (.ifCond .eq 12, 3) := by decide +kernel
theorem dX5_rule_10 : decode cX5_rule 10 = .ok (.aload_n 0, 1) := by decide +kernel
theorem dX5_rule_11 : decode cX5_rule 11 = .ok (.getfield 13, 3) := by decide +kernel
theorem dX5_rule_14 : decode cX5_rule 14 = .ok (.iload_n 1, 1) := by decide +kernel
theorem dX5_rule_15 : decode cX5_rule 15 = .ok (.iaload, 1) := by decide +kernel
theorem dX5_rule_16 : decode cX5_rule 16 = .ok (.goto 6, 3) := by decide +kernel
theorem dX5_rule_19 : decode cX5_rule 19 = .ok (.sipush (-10000), 3) := by decide +kernel
theorem dX5_rule_22 : decode cX5_rule 22 = .ok (.ireturn, 1) := by decide +kernel
set_option maxRecDepth 20000 in
theorem ggX5_jumper_X5_lies : GoodIn wsX5_jumper wsX5_lies := goodIn_r _ [6] (by decide +kernel) (by decide +kernel)
set_option maxRecDepth 20000 in
theorem gX5_jumper_X5_lies : GoodIn wsX5_jumper (va_wsS RX5 75 yX5_lies wsX5_lies) := goodIn_app (goodIn_of _ (by decide +kernel)) ggX5_jumper_X5_lies
theorem dX5_jumper_0 : decode cX5_jumper 0 = .ok (.aload_n 0, 1) := by decide +kernel
theorem dX5_jumper_1 : decode cX5_jumper 1 = .ok (.getfield 94, 3) := by decide +kernel
theorem dX5_jumper_4 : decode cX5_jumper 4 = .ok (.bipush 24, 2) := by decide +kernel
theorem dX5_jumper_6 : decode cX5_jumper 6 = .ok (.if_icmp .eq 12, 3) := by decide +kernel
theorem dX5_jumper_9 : decode cX5_jumper 9 = .ok (.iload_n 1, 1) := by decide +kernel
theorem dX5_jumper_10 : decode cX5_jumper 10 = .ok (.iconst 0, 1) := by decide +kernel
theorem dX5_jumper_11 : decode cX5_jumper 11 = .ok (.iconst 5, 1) := by decide +kernel
theorem dX5_jumper_12 : decode cX5_jumper 12 = .ok (.invokestatic 75, 3) := by decide +kernel
theorem dX5_jumper_15 : decode cX5_jumper 15 = .ok (.ifCond .ne 7, 3) := by decide +kernel
theorem dX5_jumper_18 : decode cX5_jumper 18 = .ok (.sipush (-10000), 3) := by decide +kernel
theorem dX5_jumper_21 : decode cX5_jumper 21 = .ok (.ireturn, 1) := by decide +kernel
theorem dX5_jumper_22 : decode cX5_jumper 22 = .ok (.aload_n 0, 1) := by decide +kernel
theorem dX5_jumper_23 : decode cX5_jumper 23 = .ok (.getfield 24, 3) := by decide +kernel
theorem dX5_jumper_26 : decode cX5_jumper 26 = .ok (.aload_n 0, 1) := by decide +kernel
theorem dX5_jumper_27 : decode cX5_jumper 27 = .ok (.getfield 94, 3) := by decide +kernel
theorem dX5_jumper_30 : decode cX5_jumper 30 = .ok (.iload_n 1, 1) := by decide +kernel
theorem dX5_jumper_31 : decode cX5_jumper 31 = .ok (.iastore, 1) := by decide +kernel
theorem dX5_jumper_32 : decode cX5_jumper 32 = .ok (.aload_n 0, 1) := by decide +kernel
theorem dX5_jumper_33 : decode cX5_jumper 33 = .ok (.dup, 1) := by decide +kernel
theorem dX5_jumper_34 : decode cX5_jumper 34 = .ok (.getfield 94, 3) := by decide +kernel
theorem dX5_jumper_37 : decode cX5_jumper 37 = .ok (.iconst 1, 1) := by decide +kernel
theorem dX5_jumper_38 : decode cX5_jumper 38 = .ok (.iadd, 1) := by decide +kernel
theorem dX5_jumper_39 : decode cX5_jumper 39 = .ok (.putfield 94, 3) := by decide +kernel
theorem dX5_jumper_42 : decode cX5_jumper 42 = .ok (.aload_n 0, 1) := by decide +kernel
theorem dX5_jumper_43 : decode cX5_jumper 43 = .ok (.getfield 94, 3) := by decide +kernel
theorem dX5_jumper_46 : decode cX5_jumper 46 = .ok (.iconst 1, 1) := by decide +kernel
theorem dX5_jumper_47 : decode cX5_jumper 47 = .ok (.isub, 1) := by decide +kernel
theorem dX5_jumper_48 : decode cX5_jumper 48 = .ok (.ireturn, 1) := by decide +kernel
set_option maxRecDepth 20000 in
theorem ggX5_isJumper_X5_lies : GoodIn wsX5_isJumper wsX5_lies := goodIn_r _ [5] (by decide +kernel) (by decide +kernel)
set_option maxRecDepth 20000 in
theorem gX5_isJumper_X5_lies : GoodIn wsX5_isJumper (va_wsS RX5 75 yX5_lies wsX5_lies) := goodIn_app (goodIn_of _ (by decide +kernel)) ggX5_isJumper_X5_lies
theorem dX5_isJumper_0 : decode cX5_isJumper 0 = .ok (.iload_n 1, 1) := by decide +kernel
theorem dX5_isJumper_1 : decode cX5_isJumper 1 = .ok (.iconst 0, 1) := by decide +kernel
theorem dX5_isJumper_2 : decode cX5_isJumper 2 = .ok (.aload_n 0, 1) := by decide +kernel
theorem dX5_isJumper_3 : decode cX5_isJumper 3 = .ok (.getfield 94, 3) := by decide +kernel
theorem dX5_isJumper_6 : decode cX5_isJumper 6 = .ok (.iconst 1, 1) := by decide +kernel
theorem dX5_isJumper_7 : decode cX5_isJumper 7 = .ok (.isub, 1) := by decide +kernel
theorem dX5_isJumper_8 : decode cX5_isJumper 8 = .ok (.invokestatic 75, 3) := by decide +kernel
theorem dX5_isJumper_11 : decode cX5_isJumper 11 = .ok (.ireturn, 1) := by decide +kernel
set_option maxRecDepth 20000 in
theorem ggX5_sensor_X5_lies : GoodIn wsX5_sensor wsX5_lies := goodIn_r _ [5] (by decide +kernel) (by decide +kernel)
set_option maxRecDepth 20000 in
theorem gX5_sensor_X5_lies : GoodIn wsX5_sensor (va_wsS RX5 75 yX5_lies wsX5_lies) := goodIn_app (goodIn_of _ (by decide +kernel)) ggX5_sensor_X5_lies
theorem dX5_sensor_0 : decode cX5_sensor 0 = .ok (.iload_n 1, 1) := by decide +kernel
theorem dX5_sensor_1 : decode cX5_sensor 1 = .ok (.iconst 0, 1) := by decide +kernel
theorem dX5_sensor_2 : decode cX5_sensor 2 = .ok (.iconst 4, 1) := by decide +kernel
theorem dX5_sensor_3 : decode cX5_sensor 3 = .ok (.invokestatic 75, 3) := by decide +kernel
theorem dX5_sensor_6 : decode cX5_sensor 6 = .ok (.ifCond .eq 13, 3) := by decide +kernel
theorem dX5_sensor_9 : decode cX5_sensor 9 = .ok (.iload_n 2, 1) := by decide +kernel
theorem dX5_sensor_10 : decode cX5_sensor 10 = .ok (.iconst 0, 1) := by decide +kernel
theorem dX5_sensor_11 : decode cX5_sensor 11 = .ok (.bipush 9, 2) := by decide +kernel
theorem dX5_sensor_13 : decode cX5_sensor 13 = .ok (.invokestatic 75, 3) := by decide +kernel
theorem dX5_sensor_16 : decode cX5_sensor 16 = .ok (.ifCond .ne 5, 3) := by decide +kernel
theorem dX5_sensor_19 : decode cX5_sensor 19 = .ok (.iconst 0, 1) := by decide +kernel
theorem dX5_sensor_20 : decode cX5_sensor 20 = .ok (.ireturn, 1) := by decide +kernel
theorem dX5_sensor_21 : decode cX5_sensor 21 = .ok (.aload_n 0, 1) := by decide +kernel
theorem dX5_sensor_22 : decode cX5_sensor 22 = .ok (.getfield 30, 3) := by decide +kernel
theorem dX5_sensor_25 : decode cX5_sensor 25 = .ok (.iload_n 1, 1) := by decide +kernel
theorem dX5_sensor_26 : decode cX5_sensor 26 = .ok (.iload_n 2, 1) := by decide +kernel
theorem dX5_sensor_27 : decode cX5_sensor 27 = .ok (.iastore, 1) := by decide +kernel
theorem dX5_sensor_28 : decode cX5_sensor 28 = .ok (.iconst 1, 1) := by decide +kernel
theorem dX5_sensor_29 : decode cX5_sensor 29 = .ok (.ireturn, 1) := by decide +kernel
set_option maxRecDepth 20000 in
theorem ggX5_base_X5_lies : GoodIn wsX5_base wsX5_lies := goodIn_r _ [5] (by decide +kernel) (by decide +kernel)
set_option maxRecDepth 20000 in
theorem gX5_base_X5_lies : GoodIn wsX5_base (va_wsS RX5 75 yX5_lies wsX5_lies) := goodIn_app (goodIn_of _ (by decide +kernel)) ggX5_base_X5_lies
theorem dX5_base_0 : decode cX5_base 0 = .ok (.iload_n 1, 1) := by decide +kernel
theorem dX5_base_1 : decode cX5_base 1 = .ok (.iconst 1, 1) := by decide +kernel
theorem dX5_base_2 : decode cX5_base 2 = .ok (.bipush 50, 2) := by decide +kernel
theorem dX5_base_4 : decode cX5_base 4 = .ok (.invokestatic 75, 3) := by decide +kernel
theorem dX5_base_7 : decode cX5_base 7 = .ok (.ifCond .ne 5, 3) := by decide +kernel
theorem dX5_base_10 : decode cX5_base 10 = .ok (.iconst 0, 1) := by decide +kernel
theorem dX5_base_11 : decode cX5_base 11 = .ok (.ireturn, 1) := by decide +kernel
theorem dX5_base_12 : decode cX5_base 12 = .ok (.aload_n 0, 1) := by decide +kernel
theorem dX5_base_13 : decode cX5_base 13 = .ok (.iload_n 1, 1) := by decide +kernel
theorem dX5_base_14 : decode cX5_base 14 = .ok (.putfield 20, 3) := by decide +kernel
theorem dX5_base_17 : decode cX5_base 17 = .ok (.iconst 1, 1) := by decide +kernel
theorem dX5_base_18 : decode cX5_base 18 = .ok (.ireturn, 1) := by decide +kernel
set_option maxRecDepth 20000 in
theorem ggX5_isJump_X5_isJumper : GoodIn wsX5_isJump wsX5_isJumper := goodIn_r _ [5, 6, 7, 8, 4, 9, 10, 11, 12, 13, 14, 15, 16, 17, 18, 19, 20, 21, 22, 23, 24, 25, 26, 27, 28, 29, 30] (by decide +kernel) (by decide +kernel)
set_option maxRecDepth 20000 in
theorem gX5_isJump_X5_isJumper : GoodIn wsX5_isJump (wsV RX5 97 RX5 yX5_isJumper wsX5_isJumper) := goodIn_app (goodIn_of _ (by decide +kernel)) ggX5_isJump_X5_isJumper
theorem dX5_isJump_0 : decode cX5_isJump 0 = .ok (.aload_n 0, 1) := by decide +kernel
theorem dX5_isJump_1 : decode cX5_isJump 1 = .ok (.iload_n 1, 1) := by decide +kernel
theorem dX5_isJump_2 : decode cX5_isJump 2 = .ok (.invokevirtual 97, 3) := by decide +kernel
theorem dX5_isJump_5 : decode cX5_isJump 5 = .ok (.ifCond .ne 14, 3) := by decide +kernel
theorem dX5_isJump_8 : decode cX5_isJump 8 = .ok (.aload_n 0, 1) := by decide +kernel
theorem dX5_isJump_9 : decode cX5_isJump 9 = .ok (.iload_n 1, 1) := by decide +kernel
theorem dX5_isJump_10 : decode cX5_isJump 10 = .ok (.bipush 32, 2) := by decide +kernel
theorem dX5_isJump_12 : decode cX5_isJump 12 = .ok (.isub, 1) := by decide +kernel
theorem dX5_isJump_13 : decode cX5_isJump 13 = .ok (.invokevirtual 97, 3) := by decide +kernel
theorem dX5_isJump_16 : decode cX5_isJump 16 = .ok (.ifCond .eq 7, 3) := by decide +kernel
theorem dX5_isJump_19 : decode cX5_isJump 19 = .ok (.iconst 1, 1) := by decide +kernel
theorem dX5_isJump_20 : decode cX5_isJump 20 = .ok (.goto 4, 3) := by decide +kernel
theorem dX5_isJump_23 : decode cX5_isJump 23 = .ok (.iconst 0, 1) := by decide +kernel
theorem dX5_isJump_24 : decode cX5_isJump 24 = .ok (.ireturn, 1) := by decide +kernel
theorem dX5_tells_0 : decode cX5_tells 0 = .ok (.aload_n 0, 1) := by decide +kernel
theorem dX5_tells_1 : decode cX5_tells 1 = .ok (.getfield 33, 3) := by decide +kernel
theorem dX5_tells_4 : decode cX5_tells 4 = .ok (.aload_n 0, 1) := by decide +kernel
theorem dX5_tells_5 : decode cX5_tells 5 = .ok (.getfield 101, 3) := by decide +kernel
theorem dX5_tells_8 : decode cX5_tells 8 = .ok (.iload_n 1, 1) := by decide +kernel
theorem dX5_tells_9 : decode cX5_tells 9 = .ok (.iastore, 1) := by decide +kernel
theorem dX5_tells_10 : decode cX5_tells 10 = .ok (.aload_n 0, 1) := by decide +kernel
theorem dX5_tells_11 : decode cX5_tells 11 = .ok (.getfield 36, 3) := by decide +kernel
theorem dX5_tells_14 : decode cX5_tells 14 = .ok (.aload_n 0, 1) := by decide +kernel
theorem dX5_tells_15 : decode cX5_tells 15 = .ok (.getfield 101, 3) := by decide +kernel
theorem dX5_tells_18 : decode cX5_tells 18 = .ok (.iload_n 2, 1) := by decide +kernel
theorem dX5_tells_19 : decode cX5_tells 19 = .ok (.iastore, 1) := by decide +kernel
theorem dX5_tells_20 : decode cX5_tells 20 = .ok (.aload_n 0, 1) := by decide +kernel
theorem dX5_tells_21 : decode cX5_tells 21 = .ok (.getfield 39, 3) := by decide +kernel
theorem dX5_tells_24 : decode cX5_tells 24 = .ok (.iconst 5, 1) := by decide +kernel
theorem dX5_tells_25 : decode cX5_tells 25 = .ok (.aload_n 0, 1) := by decide +kernel
theorem dX5_tells_26 : decode cX5_tells 26 = .ok (.getfield 101, 3) := by decide +kernel
theorem dX5_tells_29 : decode cX5_tells 29 = .ok (.imul, 1) := by decide +kernel
theorem dX5_tells_30 : decode cX5_tells 30 = .ok (.iload_n 3, 1) := by decide +kernel
theorem dX5_tells_31 : decode cX5_tells 31 = .ok (.iastore, 1) := by decide +kernel
theorem dX5_tells_32 : decode cX5_tells 32 = .ok (.aload_n 0, 1) := by decide +kernel
theorem dX5_tells_33 : decode cX5_tells 33 = .ok (.getfield 39, 3) := by decide +kernel
theorem dX5_tells_36 : decode cX5_tells 36 = .ok (.iconst 5, 1) := by decide +kernel
theorem dX5_tells_37 : decode cX5_tells 37 = .ok (.aload_n 0, 1) := by decide +kernel
theorem dX5_tells_38 : decode cX5_tells 38 = .ok (.getfield 101, 3) := by decide +kernel
theorem dX5_tells_41 : decode cX5_tells 41 = .ok (.imul, 1) := by decide +kernel
theorem dX5_tells_42 : decode cX5_tells 42 = .ok (.iconst 1, 1) := by decide +kernel
theorem dX5_tells_43 : decode cX5_tells 43 = .ok (.iadd, 1) := by decide +kernel
theorem dX5_tells_44 : decode cX5_tells 44 = .ok (.iload 4, 2) := by decide +kernel
theorem dX5_tells_46 : decode cX5_tells 46 = .ok (.iastore, 1) := by decide +kernel
theorem dX5_tells_47 : decode cX5_tells 47 = .ok (.aload_n 0, 1) := by decide +kernel
theorem dX5_tells_48 : decode cX5_tells 48 = .ok (.getfield 39, 3) := by decide +kernel
theorem dX5_tells_51 : decode cX5_tells 51 = .ok (.iconst 5, 1) := by decide +kernel
theorem dX5_tells_52 : decode cX5_tells 52 = .ok (.aload_n 0, 1) := by decide +kernel
theorem dX5_tells_53 : decode cX5_tells 53 = .ok (.getfield 101, 3) := by decide +kernel
theorem dX5_tells_56 : decode cX5_tells 56 = .ok (.imul, 1) := by decide +kernel
theorem dX5_tells_57 : decode cX5_tells 57 = .ok (.iconst 2, 1) := by decide +kernel
theorem dX5_tells_58 : decode cX5_tells 58 = .ok (.iadd, 1) := by decide +kernel
theorem dX5_tells_59 : decode cX5_tells 59 = .ok (.iload 5, 2) := by decide +kernel
theorem dX5_tells_61 : decode cX5_tells 61 = .ok (.iastore, 1) := by decide +kernel
theorem dX5_tells_62 : decode cX5_tells 62 = .ok (.aload_n 0, 1) := by decide +kernel
theorem dX5_tells_63 : decode cX5_tells 63 = .ok (.getfield 39, 3) := by decide +kernel
theorem dX5_tells_66 : decode cX5_tells 66 = .ok (.iconst 5, 1) := by decide +kernel
theorem dX5_tells_67 : decode cX5_tells 67 = .ok (.aload_n 0, 1) := by decide +kernel
theorem dX5_tells_68 : decode cX5_tells 68 = .ok (.getfield 101, 3) := by decide +kernel
theorem dX5_tells_71 : decode cX5_tells 71 = .ok (.imul, 1) := by decide +kernel
theorem dX5_tells_72 : decode cX5_tells 72 = .ok (.iconst 3, 1) := by decide +kernel
theorem dX5_tells_73 : decode cX5_tells 73 = .ok (.iadd, 1) := by decide +kernel
theorem dX5_tells_74 : decode cX5_tells 74 = .ok (.iload 6, 2) := by decide +kernel
theorem dX5_tells_76 : decode cX5_tells 76 = .ok (.iastore, 1) := by decide +kernel
theorem dX5_tells_77 : decode cX5_tells 77 = .ok (.aload_n 0, 1) := by decide +kernel
theorem dX5_tells_78 : decode cX5_tells 78 = .ok (.getfield 39, 3) := by decide +kernel
theorem dX5_tells_81 : decode cX5_tells 81 = .ok (.iconst 5, 1) := by decide +kernel
theorem dX5_tells_82 : decode cX5_tells 82 = .ok (.aload_n 0, 1) := by decide +kernel
theorem dX5_tells_83 : decode cX5_tells 83 = .ok (.getfield 101, 3) := by decide +kernel
theorem dX5_tells_86 : decode cX5_tells 86 = .ok (.imul, 1) := by decide +kernel
theorem dX5_tells_87 : decode cX5_tells 87 = .ok (.iconst 4, 1) := by decide +kernel
theorem dX5_tells_88 : decode cX5_tells 88 = .ok (.iadd, 1) := by decide +kernel
theorem dX5_tells_89 : decode cX5_tells 89 = .ok (.iload 7, 2) := by decide +kernel
theorem dX5_tells_91 : decode cX5_tells 91 = .ok (.iastore, 1) := by decide +kernel
theorem dX5_tells_92 : decode cX5_tells 92 = .ok (.aload_n 0, 1) := by decide +kernel
theorem dX5_tells_93 : decode cX5_tells 93 = .ok (.dup, 1) := by decide +kernel
theorem dX5_tells_94 : decode cX5_tells 94 = .ok (.getfield 101, 3) := by decide +kernel
theorem dX5_tells_97 : decode cX5_tells 97 = .ok (.iconst 1, 1) := by decide +kernel
theorem dX5_tells_98 : decode cX5_tells 98 = .ok (.iadd, 1) := by decide +kernel
theorem dX5_tells_99 : decode cX5_tells 99 = .ok (.putfield 101, 3) := by decide +kernel
theorem dX5_tells_102 : decode cX5_tells 102 = .ok (.aload_n 0, 1) := by decide +kernel
theorem dX5_tells_103 : decode cX5_tells 103 = .ok (.getfield 101, 3) := by decide +kernel
theorem dX5_tells_106 : decode cX5_tells 106 = .ok (.iconst 1, 1) := by decide +kernel
theorem dX5_tells_107 : decode cX5_tells 107 = .ok (.isub, 1) := by decide +kernel
theorem dX5_tells_108 : decode cX5_tells 108 = .ok (.ireturn, 1) := by decide +kernel
set_option maxRecDepth 20000 in
theorem ggX5_reading_X5_isJumper : GoodIn wsX5_reading wsX5_isJumper := goodIn_r _ [6, 7, 8, 9, 5, 10, 18, 19, 20, 21, 22, 23, 24, 25, 26, 27, 28, 29, 30, 31, 32, 33, 34, 35, 36, 37, 38] (by decide +kernel) (by decide +kernel)
set_option maxRecDepth 20000 in
theorem gX5_reading_X5_isJumper : GoodIn wsX5_reading (wsV RX5 97 RX5 yX5_isJumper wsX5_isJumper) := goodIn_app (goodIn_of _ (by decide +kernel)) ggX5_reading_X5_isJumper
set_option maxRecDepth 20000 in
theorem ggX5_reading_X5_lies : GoodIn wsX5_reading wsX5_lies := goodIn_r _ [10] (by decide +kernel) (by decide +kernel)
set_option maxRecDepth 20000 in
theorem gX5_reading_X5_lies : GoodIn wsX5_reading (va_wsS RX5 75 yX5_lies wsX5_lies) := goodIn_app (goodIn_of _ (by decide +kernel)) ggX5_reading_X5_lies
set_option maxRecDepth 20000 in
theorem ggX5_reading_X5_tells : GoodIn wsX5_reading wsX5_tells := goodIn_r _ [14, 15, 1, 16, 17, 18, 19, 20, 21, 22, 23, 24, 25, 26, 27, 28, 29, 30, 31, 32, 33, 34, 35, 36, 37, 38] (by decide +kernel) (by decide +kernel)
set_option maxRecDepth 20000 in
theorem gX5_reading_X5_tells : GoodIn wsX5_reading (wsV RX5 104 RX5 yX5_tells wsX5_tells) := goodIn_app (goodIn_of _ (by decide +kernel)) ggX5_reading_X5_tells
theorem dX5_reading_0 : decode cX5_reading 0 = .ok (.aload_n 0, 1) := by decide +kernel
theorem dX5_reading_1 : decode cX5_reading 1 = .ok (.iload_n 1, 1) := by decide +kernel
theorem dX5_reading_2 : decode cX5_reading 2 = .ok (.invokevirtual 97, 3) := by decide +kernel
theorem dX5_reading_5 : decode cX5_reading 5 = .ok (.ifCond .eq 44, 3) := by decide +kernel
theorem dX5_reading_8 : decode cX5_reading 8 = .ok (.iload_n 2, 1) := by decide +kernel
theorem dX5_reading_9 : decode cX5_reading 9 = .ok (.iconst 0, 1) := by decide +kernel
theorem dX5_reading_10 : decode cX5_reading 10 = .ok (.iconst 1, 1) := by decide +kernel
theorem dX5_reading_11 : decode cX5_reading 11 = .ok (.invokestatic 75, 3) := by decide +kernel
theorem dX5_reading_14 : decode cX5_reading 14 = .ok (.ifCond .eq 35, 3) := by decide +kernel
theorem dX5_reading_17 : decode cX5_reading 17 = .ok (.iload_n 3, 1) := by decide +kernel
theorem dX5_reading_18 : decode cX5_reading 18 = .ok (.iconst 0, 1) := by decide +kernel
theorem dX5_reading_19 : decode cX5_reading 19 = .ok (.sipush 600, 3) := by decide +kernel
theorem dX5_reading_22 : decode cX5_reading 22 = .ok (.invokestatic 75, 3) := by decide +kernel
theorem dX5_reading_25 : decode cX5_reading 25 = .ok (.ifCond .eq 24, 3) := by decide +kernel
theorem dX5_reading_28 : decode cX5_reading 28 = .ok (.iload 4, 2) := by decide +kernel
theorem dX5_reading_30 : decode cX5_reading 30 = .ok (.iconst 1, 1) := by decide +kernel
theorem dX5_reading_31 : decode cX5_reading 31 = .ok (.bipush 50, 2) := by decide +kernel
theorem dX5_reading_33 : decode cX5_reading 33 = .ok (.invokestatic 75, 3) := by decide +kernel
theorem dX5_reading_36 : decode cX5_reading 36 = .ok (.ifCond .eq 13, 3) := by decide +kernel
theorem dX5_reading_39 : decode cX5_reading 39 = .ok (.aload_n 0, 1) := by decide +kernel
theorem dX5_reading_40 : decode cX5_reading 40 = .ok (.getfield 101, 3) := by decide +kernel
theorem dX5_reading_43 : decode cX5_reading 43 = .ok (.sipush 200, 3) := by decide +kernel
theorem dX5_reading_46 : decode cX5_reading 46 = .ok (.if_icmp .ne 7, 3) := by decide +kernel
theorem dX5_reading_49 : decode cX5_reading 49 = .ok (.sipush (-10000), 3) := by decide +kernel
theorem dX5_reading_52 : decode cX5_reading 52 = .ok (.ireturn, 1) := by decide +kernel
theorem dX5_reading_53 : decode cX5_reading 53 = .ok (.aload_n 0, 1) := by decide +kernel
theorem dX5_reading_54 : decode cX5_reading 54 = .ok (.iconst 0, 1) := by decide +kernel
theorem dX5_reading_55 : decode cX5_reading 55 = .ok (.iload_n 1, 1) := by decide +kernel
theorem dX5_reading_56 : decode cX5_reading 56 = .ok (.bipush 32, 2) := by decide +kernel
theorem dX5_reading_58 : decode cX5_reading 58 = .ok (.iload_n 2, 1) := by decide +kernel
theorem dX5_reading_59 : decode cX5_reading 59 = .ok (.imul, 1) := by decide +kernel
theorem dX5_reading_60 : decode cX5_reading 60 = .ok (.iadd, 1) := by decide +kernel
theorem dX5_reading_61 : decode cX5_reading 61 = .ok (.iload_n 3, 1) := by decide +kernel
theorem dX5_reading_62 : decode cX5_reading 62 = .ok (.iload 4, 2) := by decide +kernel
theorem dX5_reading_64 : decode cX5_reading 64 = .ok (.iload 5, 2) := by decide +kernel
theorem dX5_reading_66 : decode cX5_reading 66 = .ok (.ifCond .eq 7, 3) := by decide +kernel
theorem dX5_reading_69 : decode cX5_reading 69 = .ok (.iconst 1, 1) := by decide +kernel
theorem dX5_reading_70 : decode cX5_reading 70 = .ok (.goto 4, 3) := by decide +kernel
theorem dX5_reading_73 : decode cX5_reading 73 = .ok (.iconst 0, 1) := by decide +kernel
theorem dX5_reading_74 : decode cX5_reading 74 = .ok (.iconst 0, 1) := by decide +kernel
theorem dX5_reading_75 : decode cX5_reading 75 = .ok (.iconst 0, 1) := by decide +kernel
theorem dX5_reading_76 : decode cX5_reading 76 = .ok (.invokevirtual 104, 3) := by decide +kernel
theorem dX5_reading_79 : decode cX5_reading 79 = .ok (.ireturn, 1) := by decide +kernel
set_option maxRecDepth 20000 in
theorem ggX5_isWind_X5_lies : GoodIn wsX5_isWind wsX5_lies := goodIn_r _ [4] (by decide +kernel) (by decide +kernel)
set_option maxRecDepth 20000 in
theorem gX5_isWind_X5_lies : GoodIn wsX5_isWind (va_wsS RX5 75 yX5_lies wsX5_lies) := goodIn_app (goodIn_of _ (by decide +kernel)) ggX5_isWind_X5_lies
theorem dX5_isWind_0 : decode cX5_isWind 0 = .ok (.iload_n 0, 1) := by decide +kernel
theorem dX5_isWind_1 : decode cX5_isWind 1 = .ok (.sipush (-10000), 3) := by decide +kernel
theorem dX5_isWind_4 : decode cX5_isWind 4 = .ok (.if_icmp .eq 16, 3) := by decide +kernel
theorem dX5_isWind_7 : decode cX5_isWind 7 = .ok (.iload_n 0, 1) := by decide +kernel
theorem dX5_isWind_8 : decode cX5_isWind 8 = .ok (.sipush (-999), 3) := by decide +kernel
theorem dX5_isWind_11 : decode cX5_isWind 11 = .ok (.sipush 999, 3) := by decide +kernel
theorem dX5_isWind_14 : decode cX5_isWind 14 = .ok (.invokestatic 75, 3) := by decide +kernel
theorem dX5_isWind_17 : decode cX5_isWind 17 = .ok (.ifCond .eq 7, 3) := by decide +kernel
theorem dX5_isWind_20 : decode cX5_isWind 20 = .ok (.iconst 1, 1) := by decide +kernel
theorem dX5_isWind_21 : decode cX5_isWind 21 = .ok (.goto 4, 3) := by decide +kernel
theorem dX5_isWind_24 : decode cX5_isWind 24 = .ok (.iconst 0, 1) := by decide +kernel
theorem dX5_isWind_25 : decode cX5_isWind 25 = .ok (.ireturn, 1) := by decide +kernel
set_option maxRecDepth 20000 in
theorem ggX5_wind_X5_isJump : GoodIn wsX5_wind wsX5_isJump := goodIn_r _ [6, 7, 8, 9, 5, 10, 11, 12, 13, 14, 25, 26, 27, 28, 29, 30, 31, 32, 33, 34, 35, 36, 37, 38, 39, 40, 41, 42, 43, 44, 45] (by decide +kernel) (by decide +kernel)
set_option maxRecDepth 20000 in
theorem gX5_wind_X5_isJump : GoodIn wsX5_wind (wsV RX5 108 RX5 yX5_isJump wsX5_isJump) := goodIn_app (goodIn_of _ (by decide +kernel)) ggX5_wind_X5_isJump
set_option maxRecDepth 20000 in
theorem ggX5_wind_X5_isWind : GoodIn wsX5_wind wsX5_isWind := goodIn_r _ [17, 12, 13, 5, 14] (by decide +kernel) (by decide +kernel)
set_option maxRecDepth 20000 in
theorem gX5_wind_X5_isWind : GoodIn wsX5_wind (va_wsS RX5 111 yX5_isWind wsX5_isWind) := goodIn_app (goodIn_of _ (by decide +kernel)) ggX5_wind_X5_isWind
set_option maxRecDepth 20000 in
theorem ggX5_wind_X5_tells : GoodIn wsX5_wind wsX5_tells := goodIn_r _ [21, 22, 1, 23, 24, 25, 26, 27, 28, 29, 30, 31, 32, 33, 34, 35, 36, 37, 38, 39, 40, 41, 42, 43, 44, 45] (by decide +kernel) (by decide +kernel)
set_option maxRecDepth 20000 in
theorem gX5_wind_X5_tells : GoodIn wsX5_wind (wsV RX5 104 RX5 yX5_tells wsX5_tells) := goodIn_app (goodIn_of _ (by decide +kernel)) ggX5_wind_X5_tells
theorem dX5_wind_0 : decode cX5_wind 0 = .ok (.aload_n 0, 1) := by decide +kernel
theorem dX5_wind_1 : decode cX5_wind 1 = .ok (.iload_n 1, 1) := by decide +kernel
theorem dX5_wind_2 : decode cX5_wind 2 = .ok (.invokevirtual 108, 3) := by decide +kernel
theorem dX5_wind_5 : decode cX5_wind 5 = .ok (.ifCond .eq 51, 3) := by decide +kernel
theorem dX5_wind_8 : decode cX5_wind 8 = .ok (.iload_n 2, 1) := by decide +kernel
theorem dX5_wind_9 : decode cX5_wind 9 = .ok (.invokestatic 111, 3) := by decide +kernel
theorem dX5_wind_12 : decode cX5_wind 12 = .ok (.ifCond .eq 44, 3) := by decide +kernel
theorem dX5_wind_15 : decode cX5_wind 15 = .ok (.iload_n 3, 1) := by decide +kernel
theorem dX5_wind_16 : decode cX5_wind 16 = .ok (.invokestatic 111, 3) := by decide +kernel
theorem dX5_wind_19 : decode cX5_wind 19 = .ok (.ifCond .eq 37, 3) := by decide +kernel
theorem dX5_wind_22 : decode cX5_wind 22 = .ok (.iload 4, 2) := by decide +kernel
theorem dX5_wind_24 : decode cX5_wind 24 = .ok (.invokestatic 111, 3) := by decide +kernel
theorem dX5_wind_27 : decode cX5_wind 27 = .ok (.ifCond .eq 29, 3) := by decide +kernel
theorem dX5_wind_30 : decode cX5_wind 30 = .ok (.iload 5, 2) := by decide +kernel
theorem dX5_wind_32 : decode cX5_wind 32 = .ok (.invokestatic 111, 3) := by decide +kernel
theorem dX5_wind_35 : decode cX5_wind 35 = .ok (.ifCond .eq 21, 3) := by decide +kernel
theorem dX5_wind_38 : decode cX5_wind 38 = .ok (.iload 6, 2) := by decide +kernel
theorem dX5_wind_40 : decode cX5_wind 40 = .ok (.invokestatic 111, 3) := by decide +kernel
theorem dX5_wind_43 : decode cX5_wind 43 = .ok (.ifCond .eq 13, 3) := by decide +kernel
theorem dX5_wind_46 : decode cX5_wind 46 = .ok (.aload_n 0, 1) := by decide +kernel
theorem dX5_wind_47 : decode cX5_wind 47 = .ok (.getfield 101, 3) := by decide +kernel
theorem dX5_wind_50 : decode cX5_wind 50 = .ok (.sipush 200, 3) := by decide +kernel
theorem dX5_wind_53 : decode cX5_wind 53 = .ok (.if_icmp .ne 7, 3) := by decide +kernel
theorem dX5_wind_56 : decode cX5_wind 56 = .ok (.sipush (-10000), 3) := by decide +kernel
theorem dX5_wind_59 : decode cX5_wind 59 = .ok (.ireturn, 1) := by decide +kernel
theorem dX5_wind_60 : decode cX5_wind 60 = .ok (.aload_n 0, 1) := by decide +kernel
theorem dX5_wind_61 : decode cX5_wind 61 = .ok (.iconst 1, 1) := by decide +kernel
theorem dX5_wind_62 : decode cX5_wind 62 = .ok (.iload_n 1, 1) := by decide +kernel
theorem dX5_wind_63 : decode cX5_wind 63 = .ok (.iload_n 2, 1) := by decide +kernel
theorem dX5_wind_64 : decode cX5_wind 64 = .ok (.iload_n 3, 1) := by decide +kernel
theorem dX5_wind_65 : decode cX5_wind 65 = .ok (.iload 4, 2) := by decide +kernel
theorem dX5_wind_67 : decode cX5_wind 67 = .ok (.iload 5, 2) := by decide +kernel
theorem dX5_wind_69 : decode cX5_wind 69 = .ok (.iload 6, 2) := by decide +kernel
theorem dX5_wind_71 : decode cX5_wind 71 = .ok (.invokevirtual 104, 3) := by decide +kernel
theorem dX5_wind_74 : decode cX5_wind 74 = .ok (.ireturn, 1) := by decide +kernel
set_option maxRecDepth 20000 in
theorem ggX5_isMark_X5_lies : GoodIn wsX5_isMark wsX5_lies := goodIn_r _ [4] (by decide +kernel) (by decide +kernel)
set_option maxRecDepth 20000 in
theorem gX5_isMark_X5_lies : GoodIn wsX5_isMark (va_wsS RX5 75 yX5_lies wsX5_lies) := goodIn_app (goodIn_of _ (by decide +kernel)) ggX5_isMark_X5_lies
theorem dX5_isMark_0 : decode cX5_isMark 0 = .ok (.iload_n 0, 1) := by decide +kernel
theorem dX5_isMark_1 : decode cX5_isMark 1 = .ok (.iconst 0, 1) := by decide +kernel
theorem dX5_isMark_2 : decode cX5_isMark 2 = .ok (.bipush 40, 2) := by decide +kernel
theorem dX5_isMark_4 : decode cX5_isMark 4 = .ok (.invokestatic 75, 3) := by decide +kernel
theorem dX5_isMark_7 : decode cX5_isMark 7 = .ok (.ireturn, 1) := by decide +kernel
set_option maxRecDepth 20000 in
theorem ggX5_style_X5_isJump : GoodIn wsX5_style wsX5_isJump := goodIn_r _ [6, 7, 8, 9, 5, 10, 11, 12, 13, 14, 25, 26, 27, 28, 29, 30, 31, 32, 33, 34, 35, 36, 37, 38, 39, 40, 41, 42, 43, 44, 45] (by decide +kernel) (by decide +kernel)
set_option maxRecDepth 20000 in
theorem gX5_style_X5_isJump : GoodIn wsX5_style (wsV RX5 108 RX5 yX5_isJump wsX5_isJump) := goodIn_app (goodIn_of _ (by decide +kernel)) ggX5_style_X5_isJump
set_option maxRecDepth 20000 in
theorem ggX5_style_X5_isMark : GoodIn wsX5_style wsX5_isMark := goodIn_r _ [17, 12, 13, 5, 14] (by decide +kernel) (by decide +kernel)
set_option maxRecDepth 20000 in
theorem gX5_style_X5_isMark : GoodIn wsX5_style (va_wsS RX5 114 yX5_isMark wsX5_isMark) := goodIn_app (goodIn_of _ (by decide +kernel)) ggX5_style_X5_isMark
set_option maxRecDepth 20000 in
theorem ggX5_style_X5_tells : GoodIn wsX5_style wsX5_tells := goodIn_r _ [21, 22, 1, 23, 24, 25, 26, 27, 28, 29, 30, 31, 32, 33, 34, 35, 36, 37, 38, 39, 40, 41, 42, 43, 44, 45] (by decide +kernel) (by decide +kernel)
set_option maxRecDepth 20000 in
theorem gX5_style_X5_tells : GoodIn wsX5_style (wsV RX5 104 RX5 yX5_tells wsX5_tells) := goodIn_app (goodIn_of _ (by decide +kernel)) ggX5_style_X5_tells
theorem dX5_style_0 : decode cX5_style 0 = .ok (.aload_n 0, 1) := by decide +kernel
theorem dX5_style_1 : decode cX5_style 1 = .ok (.iload_n 1, 1) := by decide +kernel
theorem dX5_style_2 : decode cX5_style 2 = .ok (.invokevirtual 108, 3) := by decide +kernel
theorem dX5_style_5 : decode cX5_style 5 = .ok (.ifCond .eq 51, 3) := by decide +kernel
theorem dX5_style_8 : decode cX5_style 8 = .ok (.iload_n 2, 1) := by decide +kernel
theorem dX5_style_9 : decode cX5_style 9 = .ok (.invokestatic 114, 3) := by decide +kernel
theorem dX5_style_12 : decode cX5_style 12 = .ok (.ifCond .eq 44, 3) := by decide +kernel
theorem dX5_style_15 : decode cX5_style 15 = .ok (.iload_n 3, 1) := by decide +kernel
theorem dX5_style_16 : decode cX5_style 16 = .ok (.invokestatic 114, 3) := by decide +kernel
theorem dX5_style_19 : decode cX5_style 19 = .ok (.ifCond .eq 37, 3) := by decide +kernel
theorem dX5_style_22 : decode cX5_style 22 = .ok (.iload 4, 2) := by decide +kernel
theorem dX5_style_24 : decode cX5_style 24 = .ok (.invokestatic 114, 3) := by decide +kernel
theorem dX5_style_27 : decode cX5_style 27 = .ok (.ifCond .eq 29, 3) := by decide +kernel
theorem dX5_style_30 : decode cX5_style 30 = .ok (.iload 5, 2) := by decide +kernel
theorem dX5_style_32 : decode cX5_style 32 = .ok (.invokestatic 114, 3) := by decide +kernel
theorem dX5_style_35 : decode cX5_style 35 = .ok (.ifCond .eq 21, 3) := by decide +kernel
theorem dX5_style_38 : decode cX5_style 38 = .ok (.iload 6, 2) := by decide +kernel
theorem dX5_style_40 : decode cX5_style 40 = .ok (.invokestatic 114, 3) := by decide +kernel
theorem dX5_style_43 : decode cX5_style 43 = .ok (.ifCond .eq 13, 3) := by decide +kernel
theorem dX5_style_46 : decode cX5_style 46 = .ok (.aload_n 0, 1) := by decide +kernel
theorem dX5_style_47 : decode cX5_style 47 = .ok (.getfield 101, 3) := by decide +kernel
theorem dX5_style_50 : decode cX5_style 50 = .ok (.sipush 200, 3) := by decide +kernel
theorem dX5_style_53 : decode cX5_style 53 = .ok (.if_icmp .ne 7, 3) := by decide +kernel
theorem dX5_style_56 : decode cX5_style 56 = .ok (.sipush (-10000), 3) := by decide +kernel
theorem dX5_style_59 : decode cX5_style 59 = .ok (.ireturn, 1) := by decide +kernel
theorem dX5_style_60 : decode cX5_style 60 = .ok (.aload_n 0, 1) := by decide +kernel
theorem dX5_style_61 : decode cX5_style 61 = .ok (.iconst 2, 1) := by decide +kernel
theorem dX5_style_62 : decode cX5_style 62 = .ok (.iload_n 1, 1) := by decide +kernel
theorem dX5_style_63 : decode cX5_style 63 = .ok (.iload_n 2, 1) := by decide +kernel
theorem dX5_style_64 : decode cX5_style 64 = .ok (.iload_n 3, 1) := by decide +kernel
theorem dX5_style_65 : decode cX5_style 65 = .ok (.iload 4, 2) := by decide +kernel
theorem dX5_style_67 : decode cX5_style 67 = .ok (.iload 5, 2) := by decide +kernel
theorem dX5_style_69 : decode cX5_style 69 = .ok (.iload 6, 2) := by decide +kernel
theorem dX5_style_71 : decode cX5_style 71 = .ok (.invokevirtual 104, 3) := by decide +kernel
theorem dX5_style_74 : decode cX5_style 74 = .ok (.ireturn, 1) := by decide +kernel
set_option maxRecDepth 20000 in
theorem ggX5_strike_X5_isJumper : GoodIn wsX5_strike wsX5_isJumper := goodIn_r _ [6, 7, 8, 9, 5, 10, 26, 27, 28, 29, 30, 31, 32, 33, 34, 35, 36, 37, 38, 39, 40, 41, 42, 43, 44, 45, 46] (by decide +kernel) (by decide +kernel)
set_option maxRecDepth 20000 in
theorem gX5_strike_X5_isJumper : GoodIn wsX5_strike (wsV RX5 97 RX5 yX5_isJumper wsX5_isJumper) := goodIn_app (goodIn_of _ (by decide +kernel)) ggX5_strike_X5_isJumper
set_option maxRecDepth 20000 in
theorem ggX5_strike_X5_lies : GoodIn wsX5_strike wsX5_lies := goodIn_r _ [10] (by decide +kernel) (by decide +kernel)
set_option maxRecDepth 20000 in
theorem gX5_strike_X5_lies : GoodIn wsX5_strike (va_wsS RX5 75 yX5_lies wsX5_lies) := goodIn_app (goodIn_of _ (by decide +kernel)) ggX5_strike_X5_lies
set_option maxRecDepth 20000 in
theorem ggX5_strike_X5_isStruck : GoodIn wsX5_strike wsX5_isStruck := goodIn_r _ [14, 15, 16, 17, 18, 5, 19, 20, 21, 26, 27, 28, 29, 30, 31, 32, 33, 34, 35, 36, 37, 38, 39, 40, 41, 42, 43, 44, 45, 46] (by decide +kernel) (by decide +kernel)
set_option maxRecDepth 20000 in
theorem gX5_strike_X5_isStruck : GoodIn wsX5_strike (wsV RX5 117 RX5 yX5_isStruck wsX5_isStruck) := goodIn_app (goodIn_of _ (by decide +kernel)) ggX5_strike_X5_isStruck
set_option maxRecDepth 20000 in
theorem ggX5_strike_X5_tells : GoodIn wsX5_strike wsX5_tells := goodIn_r _ [25, 20, 1, 21, 15, 26, 27, 28, 29, 30, 31, 32, 33, 34, 35, 36, 37, 38, 39, 40, 41, 42, 43, 44, 45, 46] (by decide +kernel) (by decide +kernel)
set_option maxRecDepth 20000 in
theorem gX5_strike_X5_tells : GoodIn wsX5_strike (wsV RX5 104 RX5 yX5_tells wsX5_tells) := goodIn_app (goodIn_of _ (by decide +kernel)) ggX5_strike_X5_tells
theorem dX5_strike_0 : decode cX5_strike 0 = .ok (.aload_n 0, 1) := by decide +kernel
theorem dX5_strike_1 : decode cX5_strike 1 = .ok (.iload_n 1, 1) := by decide +kernel
theorem dX5_strike_2 : decode cX5_strike 2 = .ok (.invokevirtual 97, 3) := by decide +kernel
theorem dX5_strike_5 : decode cX5_strike 5 = .ok (.ifCond .eq 40, 3) := by decide +kernel
theorem dX5_strike_8 : decode cX5_strike 8 = .ok (.iload_n 2, 1) := by decide +kernel
theorem dX5_strike_9 : decode cX5_strike 9 = .ok (.iconst 0, 1) := by decide +kernel
theorem dX5_strike_10 : decode cX5_strike 10 = .ok (.iconst 1, 1) := by decide +kernel
theorem dX5_strike_11 : decode cX5_strike 11 = .ok (.invokestatic 75, 3) := by decide +kernel
theorem dX5_strike_14 : decode cX5_strike 14 = .ok (.ifCond .eq 31, 3) := by decide +kernel
theorem dX5_strike_17 : decode cX5_strike 17 = .ok (.aload_n 0, 1) := by decide +kernel
theorem dX5_strike_18 : decode cX5_strike 18 = .ok (.getfield 101, 3) := by decide +kernel
theorem dX5_strike_21 : decode cX5_strike 21 = .ok (.sipush 200, 3) := by decide +kernel
theorem dX5_strike_24 : decode cX5_strike 24 = .ok (.if_icmp .eq 21, 3) := by decide +kernel
theorem dX5_strike_27 : decode cX5_strike 27 = .ok (.aload_n 0, 1) := by decide +kernel
theorem dX5_strike_28 : decode cX5_strike 28 = .ok (.aload_n 0, 1) := by decide +kernel
theorem dX5_strike_29 : decode cX5_strike 29 = .ok (.getfield 101, 3) := by decide +kernel
theorem dX5_strike_32 : decode cX5_strike 32 = .ok (.iload_n 1, 1) := by decide +kernel
theorem dX5_strike_33 : decode cX5_strike 33 = .ok (.bipush 32, 2) := by decide +kernel
theorem dX5_strike_35 : decode cX5_strike 35 = .ok (.iload_n 2, 1) := by decide +kernel
theorem dX5_strike_36 : decode cX5_strike 36 = .ok (.imul, 1) := by decide +kernel
theorem dX5_strike_37 : decode cX5_strike 37 = .ok (.iadd, 1) := by decide +kernel
theorem dX5_strike_38 : decode cX5_strike 38 = .ok (.invokevirtual 117, 3) := by decide +kernel
theorem dX5_strike_41 : decode cX5_strike 41 = .ok (.iload_n 3, 1) := by decide +kernel
theorem dX5_strike_42 : decode cX5_strike 42 = .ok (.if_icmp .ne 7, 3) := by decide +kernel
theorem dX5_strike_45 : decode cX5_strike 45 = .ok (.sipush (-10000), 3) := by decide +kernel
theorem dX5_strike_48 : decode cX5_strike 48 = .ok (.ireturn, 1) := by decide +kernel
theorem dX5_strike_49 : decode cX5_strike 49 = .ok (.aload_n 0, 1) := by decide +kernel
theorem dX5_strike_50 : decode cX5_strike 50 = .ok (.iconst 3, 1) := by decide +kernel
theorem dX5_strike_51 : decode cX5_strike 51 = .ok (.iload_n 1, 1) := by decide +kernel
theorem dX5_strike_52 : decode cX5_strike 52 = .ok (.bipush 32, 2) := by decide +kernel
theorem dX5_strike_54 : decode cX5_strike 54 = .ok (.iload_n 2, 1) := by decide +kernel
theorem dX5_strike_55 : decode cX5_strike 55 = .ok (.imul, 1) := by decide +kernel
theorem dX5_strike_56 : decode cX5_strike 56 = .ok (.iadd, 1) := by decide +kernel
theorem dX5_strike_57 : decode cX5_strike 57 = .ok (.iload_n 3, 1) := by decide +kernel
theorem dX5_strike_58 : decode cX5_strike 58 = .ok (.ifCond .eq 7, 3) := by decide +kernel
theorem dX5_strike_61 : decode cX5_strike 61 = .ok (.iconst 1, 1) := by decide +kernel
theorem dX5_strike_62 : decode cX5_strike 62 = .ok (.goto 4, 3) := by decide +kernel
theorem dX5_strike_65 : decode cX5_strike 65 = .ok (.iconst 0, 1) := by decide +kernel
theorem dX5_strike_66 : decode cX5_strike 66 = .ok (.iconst 0, 1) := by decide +kernel
theorem dX5_strike_67 : decode cX5_strike 67 = .ok (.iconst 0, 1) := by decide +kernel
theorem dX5_strike_68 : decode cX5_strike 68 = .ok (.iconst 0, 1) := by decide +kernel
theorem dX5_strike_69 : decode cX5_strike 69 = .ok (.iconst 0, 1) := by decide +kernel
theorem dX5_strike_70 : decode cX5_strike 70 = .ok (.invokevirtual 104, 3) := by decide +kernel
theorem dX5_strike_73 : decode cX5_strike 73 = .ok (.ireturn, 1) := by decide +kernel
theorem dX5_lastOf_0 : decode cX5_lastOf 0 = .ok (.iload_n 1, 1) := by decide +kernel
theorem dX5_lastOf_1 : decode cX5_lastOf 1 = .ok (.iconst 1, 1) := by decide +kernel
theorem dX5_lastOf_2 : decode cX5_lastOf 2 = .ok (.isub, 1) := by decide +kernel
theorem dX5_lastOf_3 : decode cX5_lastOf 3 = .ok (.istore 4, 2) := by decide +kernel
theorem dX5_lastOf_5 : decode cX5_lastOf 5 = .ok (.iload 4, 2) := by decide +kernel
theorem dX5_lastOf_7 : decode cX5_lastOf 7 = .ok (.ifCond .lt 31, 3) := by decide +kernel
theorem dX5_lastOf_10 : decode cX5_lastOf 10 = .ok (.aload_n 0, 1) := by decide +kernel
theorem dX5_lastOf_11 : decode cX5_lastOf 11 = .ok (.getfield 33, 3) := by decide +kernel
theorem dX5_lastOf_14 : decode cX5_lastOf 14 = .ok (.iload 4, 2) := by decide +kernel
theorem dX5_lastOf_16 : decode cX5_lastOf 16 = .ok (.iaload, 1) := by decide +kernel
theorem dX5_lastOf_17 : decode cX5_lastOf 17 = .ok (.iload_n 2, 1) := by decide +kernel
theorem dX5_lastOf_18 : decode cX5_lastOf 18 = .ok (.if_icmp .ne 14, 3) := by decide +kernel
theorem dX5_lastOf_21 : decode cX5_lastOf 21 = .ok (.aload_n 0, 1) := by decide +kernel
theorem dX5_lastOf_22 : decode cX5_lastOf 22 = .ok (.getfield 36, 3) := by decide +kernel
theorem dX5_lastOf_25 : decode cX5_lastOf 25 = .ok (.iload 4, 2) := by decide +kernel
theorem dX5_lastOf_27 : decode cX5_lastOf 27 = .ok (.iaload, 1) := by decide +kernel
theorem dX5_lastOf_28 : decode cX5_lastOf 28 = .ok (.iload_n 3, 1) := by decide +kernel
theorem dX5_lastOf_29 : decode cX5_lastOf 29 = .ok (.if_icmp .eq 9, 3) := by decide +kernel
theorem dX5_lastOf_32 : decode cX5_lastOf 32 = .ok (.iinc 4 (-1), 3) := by decide +kernel
theorem dX5_lastOf_35 : decode cX5_lastOf 35 = .ok (.goto (-30), 3) := by decide +kernel
theorem dX5_lastOf_38 : decode cX5_lastOf 38 = .ok (.iload 4, 2) := by decide +kernel
theorem dX5_lastOf_40 : decode cX5_lastOf 40 = .ok (.ireturn, 1) := by decide +kernel
set_option maxRecDepth 20000 in
theorem ggX5_isStruck_X5_lastOf : GoodIn wsX5_isStruck wsX5_lastOf := goodIn_r _ [6, 7, 8, 9, 10, 11, 12, 13, 14, 15, 16, 17, 18, 19, 20, 21, 22, 23, 24, 25, 26, 27, 28, 29] (by decide +kernel) (by decide +kernel)
set_option maxRecDepth 20000 in
theorem gX5_isStruck_X5_lastOf : GoodIn wsX5_isStruck (wsV RX5 120 RX5 yX5_lastOf wsX5_lastOf) := goodIn_app (goodIn_of _ (by decide +kernel)) ggX5_isStruck_X5_lastOf
theorem dX5_isStruck_0 : decode cX5_isStruck 0 = .ok (.aload_n 0, 1) := by decide +kernel
theorem dX5_isStruck_1 : decode cX5_isStruck 1 = .ok (.iload_n 1, 1) := by decide +kernel
theorem dX5_isStruck_2 : decode cX5_isStruck 2 = .ok (.iconst 3, 1) := by decide +kernel
theorem dX5_isStruck_3 : decode cX5_isStruck 3 = .ok (.iload_n 2, 1) := by decide +kernel
theorem dX5_isStruck_4 : decode cX5_isStruck 4 = .ok (.invokevirtual 120, 3) := by decide +kernel
theorem dX5_isStruck_7 : decode cX5_isStruck 7 = .ok (.istore_n 3, 1) := by decide +kernel
theorem dX5_isStruck_8 : decode cX5_isStruck 8 = .ok (.iload_n 3, 1) := by decide +kernel
theorem dX5_isStruck_9 : decode cX5_isStruck 9 = .ok (.ifCond .lt 19, 3) := by decide +kernel
theorem dX5_isStruck_12 : decode cX5_isStruck 12 = .ok (.aload_n 0, 1) := by decide +kernel
theorem dX5_isStruck_13 : decode cX5_isStruck 13 = .ok (.getfield 39, 3) := by decide +kernel
theorem dX5_isStruck_16 : decode cX5_isStruck 16 = .ok (.iconst 5, 1) := by decide +kernel
theorem dX5_isStruck_17 : decode cX5_isStruck 17 = .ok (.iload_n 3, 1) := by decide +kernel
theorem dX5_isStruck_18 : decode cX5_isStruck 18 = .ok (.imul, 1) := by decide +kernel
theorem dX5_isStruck_19 : decode cX5_isStruck 19 = .ok (.iaload, 1) := by decide +kernel
theorem dX5_isStruck_20 : decode cX5_isStruck 20 = .ok (.iconst 1, 1) := by decide +kernel
theorem dX5_isStruck_21 : decode cX5_isStruck 21 = .ok (.if_icmp .ne 7, 3) := by decide +kernel
theorem dX5_isStruck_24 : decode cX5_isStruck 24 = .ok (.iconst 1, 1) := by decide +kernel
theorem dX5_isStruck_25 : decode cX5_isStruck 25 = .ok (.goto 4, 3) := by decide +kernel
theorem dX5_isStruck_28 : decode cX5_isStruck 28 = .ok (.iconst 0, 1) := by decide +kernel
theorem dX5_isStruck_29 : decode cX5_isStruck 29 = .ok (.ireturn, 1) := by decide +kernel
set_option maxRecDepth 20000 in
theorem ggX5_has_X5_lastOf : GoodIn wsX5_has wsX5_lastOf := goodIn_r _ [5, 6, 7, 13, 14, 15, 16, 17, 18, 19, 20, 21, 22, 23, 24, 25, 26, 27, 28, 29, 30, 31, 32, 33] (by decide +kernel) (by decide +kernel)
set_option maxRecDepth 20000 in
theorem gX5_has_X5_lastOf : GoodIn wsX5_has (wsV RX5 120 RX5 yX5_lastOf wsX5_lastOf) := goodIn_app (goodIn_of _ (by decide +kernel)) ggX5_has_X5_lastOf
set_option maxRecDepth 20000 in
theorem ggX5_has_X5_isStruck : GoodIn wsX5_has wsX5_isStruck := goodIn_r _ [11, 12, 1, 2, 3, 4, 5, 6, 7, 13, 14, 15, 16, 17, 18, 19, 20, 21, 22, 23, 24, 25, 26, 27, 28, 29, 30, 31, 32, 33] (by decide +kernel) (by decide +kernel)
set_option maxRecDepth 20000 in
theorem gX5_has_X5_isStruck : GoodIn wsX5_has (wsV RX5 117 RX5 yX5_isStruck wsX5_isStruck) := goodIn_app (goodIn_of _ (by decide +kernel)) ggX5_has_X5_isStruck
theorem dX5_has_0 : decode cX5_has 0 = .ok (.aload_n 0, 1) := by decide +kernel
theorem dX5_has_1 : decode cX5_has 1 = .ok (.iload_n 1, 1) := by decide +kernel
theorem dX5_has_2 : decode cX5_has 2 = .ok (.iconst 0, 1) := by decide +kernel
theorem dX5_has_3 : decode cX5_has 3 = .ok (.iload_n 2, 1) := by decide +kernel
theorem dX5_has_4 : decode cX5_has 4 = .ok (.invokevirtual 120, 3) := by decide +kernel
theorem dX5_has_7 : decode cX5_has 7 = .ok (.ifCond .lt 16, 3) := by decide +kernel
theorem dX5_has_10 : decode cX5_has 10 = .ok (.aload_n 0, 1) := by decide +kernel
theorem dX5_has_11 : decode cX5_has 11 = .ok (.iload_n 1, 1) := by decide +kernel
theorem dX5_has_12 : decode cX5_has 12 = .ok (.iload_n 2, 1) := by decide +kernel
theorem dX5_has_13 : decode cX5_has 13 = .ok (.invokevirtual 117, 3) := by decide +kernel
theorem dX5_has_16 : decode cX5_has 16 = .ok (.ifCond .ne 7, 3) := by decide +kernel
theorem dX5_has_19 : decode cX5_has 19 = .ok (.iconst 1, 1) := by decide +kernel
theorem dX5_has_20 : decode cX5_has 20 = .ok (.goto 4, 3) := by decide +kernel
theorem dX5_has_23 : decode cX5_has 23 = .ok (.iconst 0, 1) := by decide +kernel
theorem dX5_has_24 : decode cX5_has 24 = .ok (.ireturn, 1) := by decide +kernel
theorem dX5_nearest_0 : decode cX5_nearest 0 = .ok (.iload_n 0, 1) := by decide +kernel
theorem dX5_nearest_1 : decode cX5_nearest 1 = .ok (.ifCond .ge 8, 3) := by decide +kernel
theorem dX5_nearest_4 : decode cX5_nearest 4 = .ok (.iload_n 0, 1) := by decide +kernel
theorem dX5_nearest_5 : decode cX5_nearest 5 = .ok (.ineg, 1) := by decide +kernel
theorem dX5_nearest_6 : decode cX5_nearest 6 = .ok (.goto 4, 3) := by decide +kernel
theorem dX5_nearest_9 : decode cX5_nearest 9 = .ok (.iload_n 0, 1) := by decide +kernel
theorem dX5_nearest_10 : decode cX5_nearest 10 = .ok (.istore_n 2, 1) := by decide +kernel
theorem dX5_nearest_11 : decode cX5_nearest 11 = .ok (.iconst 2, 1) := by decide +kernel
theorem dX5_nearest_12 : decode cX5_nearest 12 = .ok (.iload_n 2, 1) := by decide +kernel
theorem dX5_nearest_13 : decode cX5_nearest 13 = .ok (.imul, 1) := by decide +kernel
theorem dX5_nearest_14 : decode cX5_nearest 14 = .ok (.iload_n 1, 1) := by decide +kernel
theorem dX5_nearest_15 : decode cX5_nearest 15 = .ok (.iadd, 1) := by decide +kernel
theorem dX5_nearest_16 : decode cX5_nearest 16 = .ok (.iconst 2, 1) := by decide +kernel
theorem dX5_nearest_17 : decode cX5_nearest 17 = .ok (.iload_n 1, 1) := by decide +kernel
theorem dX5_nearest_18 : decode cX5_nearest 18 = .ok (.imul, 1) := by decide +kernel
theorem dX5_nearest_19 : decode cX5_nearest 19 = .ok (.idiv, 1) := by decide +kernel
theorem dX5_nearest_20 : decode cX5_nearest 20 = .ok (.istore_n 3, 1) := by decide +kernel
theorem dX5_nearest_21 : decode cX5_nearest 21 = .ok (.iload_n 0, 1) := by decide +kernel
theorem dX5_nearest_22 : decode cX5_nearest 22 = .ok (.ifCond .ge 8, 3) := by decide +kernel
theorem dX5_nearest_25 : decode cX5_nearest 25 = .ok (.iload_n 3, 1) := by decide +kernel
theorem dX5_nearest_26 : decode cX5_nearest 26 = .ok (.ineg, 1) := by decide +kernel
theorem dX5_nearest_27 : decode cX5_nearest 27 = .ok (.goto 4, 3) := by decide +kernel
theorem dX5_nearest_30 : decode cX5_nearest 30 = .ok (.iload_n 3, 1) := by decide +kernel
theorem dX5_nearest_31 : decode cX5_nearest 31 = .ok (.ireturn, 1) := by decide +kernel
set_option maxRecDepth 20000 in
theorem ggX5_mean_X5_lastOf : GoodIn wsX5_mean wsX5_lastOf := goodIn_r _ [7, 8, 9, 13, 14, 15, 16, 17, 18, 19, 20, 21, 22, 23, 24, 25, 26, 27, 28, 29, 30, 31, 32, 33] (by decide +kernel) (by decide +kernel)
set_option maxRecDepth 20000 in
theorem gX5_mean_X5_lastOf : GoodIn wsX5_mean (wsV RX5 120 RX5 yX5_lastOf wsX5_lastOf) := goodIn_app (goodIn_of _ (by decide +kernel)) ggX5_mean_X5_lastOf
set_option maxRecDepth 20000 in
theorem ggX5_mean_X5_nearest : GoodIn wsX5_mean wsX5_nearest := goodIn_r _ [12] (by decide +kernel) (by decide +kernel)
set_option maxRecDepth 20000 in
theorem gX5_mean_X5_nearest : GoodIn wsX5_mean (va_wsS RX5 124 yX5_nearest wsX5_nearest) := goodIn_app (goodIn_of _ (by decide +kernel)) ggX5_mean_X5_nearest
theorem dX5_mean_0 : decode cX5_mean 0 = .ok (.aload_n 0, 1) := by decide +kernel
theorem dX5_mean_1 : decode cX5_mean 1 = .ok (.iload_n 1, 1) := by decide +kernel
theorem dX5_mean_2 : decode cX5_mean 2 = .ok (.iconst 1, 1) := by decide +kernel
theorem dX5_mean_3 : decode cX5_mean 3 = .ok (.iload_n 2, 1) := by decide +kernel
theorem dX5_mean_4 : decode cX5_mean 4 = .ok (.invokevirtual 120, 3) := by decide +kernel
theorem dX5_mean_7 : decode cX5_mean 7 = .ok (.istore_n 3, 1) := by decide +kernel
theorem dX5_mean_8 : decode cX5_mean 8 = .ok (.iconst 0, 1) := by decide +kernel
theorem dX5_mean_9 : decode cX5_mean 9 = .ok (.istore 4, 2) := by decide +kernel
theorem dX5_mean_11 : decode cX5_mean 11 = .ok (.iconst 0, 1) := by decide +kernel
theorem dX5_mean_12 : decode cX5_mean 12 = .ok (.istore 5, 2) := by decide +kernel
theorem dX5_mean_14 : decode cX5_mean 14 = .ok (.iconst 0, 1) := by decide +kernel
theorem dX5_mean_15 : decode cX5_mean 15 = .ok (.istore 6, 2) := by decide +kernel
theorem dX5_mean_17 : decode cX5_mean 17 = .ok (.iload 6, 2) := by decide +kernel
theorem dX5_mean_19 : decode cX5_mean 19 = .ok (.iconst 5, 1) := by decide +kernel
theorem dX5_mean_20 : decode cX5_mean 20 = .ok (.if_icmp .ge 69, 3) := by decide +kernel
theorem dX5_mean_23 : decode cX5_mean 23 = .ok (.iload_n 3, 1) := by decide +kernel
theorem dX5_mean_24 : decode cX5_mean 24 = .ok (.ifCond .lt 65, 3) := by decide +kernel
theorem dX5_mean_27 : decode cX5_mean 27 = .ok (.aload_n 0, 1) := by decide +kernel
theorem dX5_mean_28 : decode cX5_mean 28 = .ok (.getfield 39, 3) := by decide +kernel
theorem dX5_mean_31 : decode cX5_mean 31 = .ok (.iconst 5, 1) := by decide +kernel
theorem dX5_mean_32 : decode cX5_mean 32 = .ok (.iload_n 3, 1) := by decide +kernel
theorem dX5_mean_33 : decode cX5_mean 33 = .ok (.imul, 1) := by decide +kernel
theorem dX5_mean_34 : decode cX5_mean 34 = .ok (.iload 6, 2) := by decide +kernel
theorem dX5_mean_36 : decode cX5_mean 36 = .ok (.iadd, 1) := by decide +kernel
theorem dX5_mean_37 : decode cX5_mean 37 = .ok (.iaload, 1) := by decide +kernel
theorem dX5_mean_38 : decode cX5_mean 38 = .ok (.sipush (-10000), 3) := by decide +kernel
theorem dX5_mean_41 : decode cX5_mean 41 = .ok (.if_icmp .ne 6, 3) := by decide +kernel
theorem dX5_mean_44 : decode cX5_mean 44 = .ok (.goto 39, 3) := by decide +kernel
theorem dX5_mean_47 : decode cX5_mean 47 = .ok (.iload 4, 2) := by decide +kernel
theorem dX5_mean_49 : decode cX5_mean 49 = .ok (.aload_n 0, 1) := by decide +kernel
theorem dX5_mean_50 : decode cX5_mean 50 = .ok (.getfield 30, 3) := by decide +kernel
theorem dX5_mean_53 : decode cX5_mean 53 = .ok (.iload 6, 2) := by decide +kernel
theorem dX5_mean_55 : decode cX5_mean 55 = .ok (.iaload, 1) := by decide +kernel
theorem dX5_mean_56 : decode cX5_mean 56 = .ok (.aload_n 0, 1) := by decide +kernel
theorem dX5_mean_57 : decode cX5_mean 57 = .ok (.getfield 39, 3) := by decide +kernel
theorem dX5_mean_60 : decode cX5_mean 60 = .ok (.iconst 5, 1) := by decide +kernel
theorem dX5_mean_61 : decode cX5_mean 61 = .ok (.iload_n 3, 1) := by decide +kernel
theorem dX5_mean_62 : decode cX5_mean 62 = .ok (.imul, 1) := by decide +kernel
theorem dX5_mean_63 : decode cX5_mean 63 = .ok (.iload 6, 2) := by decide +kernel
theorem dX5_mean_65 : decode cX5_mean 65 = .ok (.iadd, 1) := by decide +kernel
theorem dX5_mean_66 : decode cX5_mean 66 = .ok (.iaload, 1) := by decide +kernel
theorem dX5_mean_67 : decode cX5_mean 67 = .ok (.imul, 1) := by decide +kernel
theorem dX5_mean_68 : decode cX5_mean 68 = .ok (.iadd, 1) := by decide +kernel
theorem dX5_mean_69 : decode cX5_mean 69 = .ok (.istore 4, 2) := by decide +kernel
theorem dX5_mean_71 : decode cX5_mean 71 = .ok (.iload 5, 2) := by decide +kernel
theorem dX5_mean_73 : decode cX5_mean 73 = .ok (.aload_n 0, 1) := by decide +kernel
theorem dX5_mean_74 : decode cX5_mean 74 = .ok (.getfield 30, 3) := by decide +kernel
theorem dX5_mean_77 : decode cX5_mean 77 = .ok (.iload 6, 2) := by decide +kernel
theorem dX5_mean_79 : decode cX5_mean 79 = .ok (.iaload, 1) := by decide +kernel
theorem dX5_mean_80 : decode cX5_mean 80 = .ok (.iadd, 1) := by decide +kernel
theorem dX5_mean_81 : decode cX5_mean 81 = .ok (.istore 5, 2) := by decide +kernel
theorem dX5_mean_83 : decode cX5_mean 83 = .ok (.iinc 6 1, 3) := by decide +kernel
theorem dX5_mean_86 : decode cX5_mean 86 = .ok (.goto (-69), 3) := by decide +kernel
theorem dX5_mean_89 : decode cX5_mean 89 = .ok (.iload 5, 2) := by decide +kernel
theorem dX5_mean_91 : decode cX5_mean 91 = .ok (.ifCond .ne 7, 3) := by decide +kernel
theorem dX5_mean_94 : decode cX5_mean 94 = .ok (.iconst 0, 1) := by decide +kernel
theorem dX5_mean_95 : decode cX5_mean 95 = .ok (.goto 10, 3) := by decide +kernel
theorem dX5_mean_98 : decode cX5_mean 98 = .ok (.iload 4, 2) := by decide +kernel
theorem dX5_mean_100 : decode cX5_mean 100 = .ok (.iload 5, 2) := by decide +kernel
theorem dX5_mean_102 : decode cX5_mean 102 = .ok (.invokestatic 124, 3) := by decide +kernel
theorem dX5_mean_105 : decode cX5_mean 105 = .ok (.ireturn, 1) := by decide +kernel
set_option maxRecDepth 20000 in
theorem ggX5_part_X5_lastOf : GoodIn wsX5_part wsX5_lastOf := goodIn_r _ [8, 9, 10, 23, 24, 25, 26, 27, 28, 29, 30, 31, 32, 33, 34, 35, 36, 37, 38, 39, 40, 41, 42, 43] (by decide +kernel) (by decide +kernel)
set_option maxRecDepth 20000 in
theorem gX5_part_X5_lastOf : GoodIn wsX5_part (wsV RX5 120 RX5 yX5_lastOf wsX5_lastOf) := goodIn_app (goodIn_of _ (by decide +kernel)) ggX5_part_X5_lastOf
set_option maxRecDepth 20000 in
theorem ggX5_part_X5_style_ : GoodIn wsX5_part wsX5_style_ := goodIn_r _ [14, 2, 4, 5, 6, 7, 8, 9, 10, 23, 24, 25, 26, 27, 28, 29, 30, 31, 32, 33, 34, 35, 36, 37, 38, 39, 40, 41, 42, 43] (by decide +kernel) (by decide +kernel)
set_option maxRecDepth 20000 in
theorem gX5_part_X5_style_ : GoodIn wsX5_part (wsV RX5 127 RX5 yX5_style_ wsX5_style_) := goodIn_app (goodIn_of _ (by decide +kernel)) ggX5_part_X5_style_
set_option maxRecDepth 20000 in
theorem ggX5_part_X5_mean : GoodIn wsX5_part wsX5_mean := goodIn_r _ [18, 2, 19, 4, 5, 6, 7, 8, 9, 10, 20, 21, 22, 23, 24, 25, 26, 27, 28, 29, 30, 31, 32, 33, 34, 35, 36, 37, 38, 39, 40, 41, 42, 43] (by decide +kernel) (by decide +kernel)
set_option maxRecDepth 20000 in
theorem gX5_part_X5_mean : GoodIn wsX5_part (wsV RX5 130 RX5 yX5_mean wsX5_mean) := goodIn_app (goodIn_of _ (by decide +kernel)) ggX5_part_X5_mean
set_option maxRecDepth 20000 in
theorem ggX5_part_X5_nearest : GoodIn wsX5_part wsX5_nearest := goodIn_r _ [22] (by decide +kernel) (by decide +kernel)
set_option maxRecDepth 20000 in
theorem gX5_part_X5_nearest : GoodIn wsX5_part (va_wsS RX5 124 yX5_nearest wsX5_nearest) := goodIn_app (goodIn_of _ (by decide +kernel)) ggX5_part_X5_nearest
theorem dX5_part_0 : decode cX5_part 0 = .ok (.iconst 5, 1) := by decide +kernel
theorem dX5_part_1 : decode cX5_part 1 = .ok (.aload_n 0, 1) := by decide +kernel
theorem dX5_part_2 : decode cX5_part 2 = .ok (.iload_n 1, 1) := by decide +kernel
theorem dX5_part_3 : decode cX5_part 3 = .ok (.iconst 0, 1) := by decide +kernel
theorem dX5_part_4 : decode cX5_part 4 = .ok (.iload_n 2, 1) := by decide +kernel
theorem dX5_part_5 : decode cX5_part 5 = .ok (.invokevirtual 120, 3) := by decide +kernel
theorem dX5_part_8 : decode cX5_part 8 = .ok (.imul, 1) := by decide +kernel
theorem dX5_part_9 : decode cX5_part 9 = .ok (.istore 4, 2) := by decide +kernel
theorem dX5_part_11 : decode cX5_part 11 = .ok (.iload_n 3, 1) := by decide +kernel
theorem dX5_part_12 : decode cX5_part 12 = .ok (.tableswitch 128 1 3 #[28, 54, 61], 28) := by decide +kernel
theorem dX5_part_40 : decode cX5_part 40 = .ok (.sipush 1200, 3) := by decide +kernel
theorem dX5_part_43 : decode cX5_part 43 = .ok (.aload_n 0, 1) := by decide +kernel
theorem dX5_part_44 : decode cX5_part 44 = .ok (.getfield 13, 3) := by decide +kernel
theorem dX5_part_47 : decode cX5_part 47 = .ok (.iconst 1, 1) := by decide +kernel
theorem dX5_part_48 : decode cX5_part 48 = .ok (.iaload, 1) := by decide +kernel
theorem dX5_part_49 : decode cX5_part 49 = .ok (.aload_n 0, 1) := by decide +kernel
theorem dX5_part_50 : decode cX5_part 50 = .ok (.getfield 39, 3) := by decide +kernel
theorem dX5_part_53 : decode cX5_part 53 = .ok (.iload 4, 2) := by decide +kernel
theorem dX5_part_55 : decode cX5_part 55 = .ok (.iaload, 1) := by decide +kernel
theorem dX5_part_56 : decode cX5_part 56 = .ok (.aload_n 0, 1) := by decide +kernel
theorem dX5_part_57 : decode cX5_part 57 = .ok (.getfield 13, 3) := by decide +kernel
theorem dX5_part_60 : decode cX5_part 60 = .ok (.iconst 0, 1) := by decide +kernel
theorem dX5_part_61 : decode cX5_part 61 = .ok (.iaload, 1) := by decide +kernel
theorem dX5_part_62 : decode cX5_part 62 = .ok (.isub, 1) := by decide +kernel
theorem dX5_part_63 : decode cX5_part 63 = .ok (.imul, 1) := by decide +kernel
theorem dX5_part_64 : decode cX5_part 64 = .ok (.iadd, 1) := by decide +kernel
theorem dX5_part_65 : decode cX5_part 65 = .ok (.ireturn, 1) := by decide +kernel
theorem dX5_part_66 : decode cX5_part 66 = .ok (.aload_n 0, 1) := by decide +kernel
theorem dX5_part_67 : decode cX5_part 67 = .ok (.iload_n 1, 1) := by decide +kernel
theorem dX5_part_68 : decode cX5_part 68 = .ok (.iload_n 2, 1) := by decide +kernel
theorem dX5_part_69 : decode cX5_part 69 = .ok (.invokevirtual 127, 3) := by decide +kernel
theorem dX5_part_72 : decode cX5_part 72 = .ok (.ireturn, 1) := by decide +kernel
theorem dX5_part_73 : decode cX5_part 73 = .ok (.aload_n 0, 1) := by decide +kernel
theorem dX5_part_74 : decode cX5_part 74 = .ok (.getfield 39, 3) := by decide +kernel
theorem dX5_part_77 : decode cX5_part 77 = .ok (.iload 4, 2) := by decide +kernel
theorem dX5_part_79 : decode cX5_part 79 = .ok (.iconst 2, 1) := by decide +kernel
theorem dX5_part_80 : decode cX5_part 80 = .ok (.iadd, 1) := by decide +kernel
theorem dX5_part_81 : decode cX5_part 81 = .ok (.iaload, 1) := by decide +kernel
theorem dX5_part_82 : decode cX5_part 82 = .ok (.iconst 1, 1) := by decide +kernel
theorem dX5_part_83 : decode cX5_part 83 = .ok (.if_icmp .ne 33, 3) := by decide +kernel
theorem dX5_part_86 : decode cX5_part 86 = .ok (.bipush 100, 2) := by decide +kernel
theorem dX5_part_88 : decode cX5_part 88 = .ok (.aload_n 0, 1) := by decide +kernel
theorem dX5_part_89 : decode cX5_part 89 = .ok (.getfield 39, 3) := by decide +kernel
theorem dX5_part_92 : decode cX5_part 92 = .ok (.iload 4, 2) := by decide +kernel
theorem dX5_part_94 : decode cX5_part 94 = .ok (.iaload, 1) := by decide +kernel
theorem dX5_part_95 : decode cX5_part 95 = .ok (.imul, 1) := by decide +kernel
theorem dX5_part_96 : decode cX5_part 96 = .ok (.aload_n 0, 1) := by decide +kernel
theorem dX5_part_97 : decode cX5_part 97 = .ok (.getfield 13, 3) := by decide +kernel
theorem dX5_part_100 : decode cX5_part 100 = .ok (.iconst 4, 1) := by decide +kernel
theorem dX5_part_101 : decode cX5_part 101 = .ok (.iaload, 1) := by decide +kernel
theorem dX5_part_102 : decode cX5_part 102 = .ok (.aload_n 0, 1) := by decide +kernel
theorem dX5_part_103 : decode cX5_part 103 = .ok (.getfield 13, 3) := by decide +kernel
theorem dX5_part_106 : decode cX5_part 106 = .ok (.iconst 0, 1) := by decide +kernel
theorem dX5_part_107 : decode cX5_part 107 = .ok (.iaload, 1) := by decide +kernel
theorem dX5_part_108 : decode cX5_part 108 = .ok (.imul, 1) := by decide +kernel
theorem dX5_part_109 : decode cX5_part 109 = .ok (.if_icmp .ge 7, 3) := by decide +kernel
theorem dX5_part_112 : decode cX5_part 112 = .ok (.iconst 0, 1) := by decide +kernel
theorem dX5_part_113 : decode cX5_part 113 = .ok (.goto 26, 3) := by decide +kernel
theorem dX5_part_116 : decode cX5_part 116 = .ok (.iconst 2, 1) := by decide +kernel
theorem dX5_part_117 : decode cX5_part 117 = .ok (.aload_n 0, 1) := by decide +kernel
theorem dX5_part_118 : decode cX5_part 118 = .ok (.getfield 13, 3) := by decide +kernel
theorem dX5_part_121 : decode cX5_part 121 = .ok (.iconst 3, 1) := by decide +kernel
theorem dX5_part_122 : decode cX5_part 122 = .ok (.iaload, 1) := by decide +kernel
theorem dX5_part_123 : decode cX5_part 123 = .ok (.imul, 1) := by decide +kernel
theorem dX5_part_124 : decode cX5_part 124 = .ok (.aload_n 0, 1) := by decide +kernel
theorem dX5_part_125 : decode cX5_part 125 = .ok (.getfield 20, 3) := by decide +kernel
theorem dX5_part_128 : decode cX5_part 128 = .ok (.aload_n 0, 1) := by decide +kernel
theorem dX5_part_129 : decode cX5_part 129 = .ok (.getfield 39, 3) := by decide +kernel
theorem dX5_part_132 : decode cX5_part 132 = .ok (.iload 4, 2) := by decide +kernel
theorem dX5_part_134 : decode cX5_part 134 = .ok (.iconst 1, 1) := by decide +kernel
theorem dX5_part_135 : decode cX5_part 135 = .ok (.iadd, 1) := by decide +kernel
theorem dX5_part_136 : decode cX5_part 136 = .ok (.iaload, 1) := by decide +kernel
theorem dX5_part_137 : decode cX5_part 137 = .ok (.isub, 1) := by decide +kernel
theorem dX5_part_138 : decode cX5_part 138 = .ok (.imul, 1) := by decide +kernel
theorem dX5_part_139 : decode cX5_part 139 = .ok (.ireturn, 1) := by decide +kernel
theorem dX5_part_140 : decode cX5_part 140 = .ok (.bipush (-2), 2) := by decide +kernel
theorem dX5_part_142 : decode cX5_part 142 = .ok (.aload_n 0, 1) := by decide +kernel
theorem dX5_part_143 : decode cX5_part 143 = .ok (.iload_n 1, 1) := by decide +kernel
theorem dX5_part_144 : decode cX5_part 144 = .ok (.iload_n 2, 1) := by decide +kernel
theorem dX5_part_145 : decode cX5_part 145 = .ok (.invokevirtual 130, 3) := by decide +kernel
theorem dX5_part_148 : decode cX5_part 148 = .ok (.aload_n 0, 1) := by decide +kernel
theorem dX5_part_149 : decode cX5_part 149 = .ok (.getfield 13, 3) := by decide +kernel
theorem dX5_part_152 : decode cX5_part 152 = .ok (.iconst 2, 1) := by decide +kernel
theorem dX5_part_153 : decode cX5_part 153 = .ok (.iaload, 1) := by decide +kernel
theorem dX5_part_154 : decode cX5_part 154 = .ok (.imul, 1) := by decide +kernel
theorem dX5_part_155 : decode cX5_part 155 = .ok (.bipush 100, 2) := by decide +kernel
theorem dX5_part_157 : decode cX5_part 157 = .ok (.invokestatic 124, 3) := by decide +kernel
theorem dX5_part_160 : decode cX5_part 160 = .ok (.imul, 1) := by decide +kernel
theorem dX5_part_161 : decode cX5_part 161 = .ok (.ireturn, 1) := by decide +kernel
set_option maxRecDepth 20000 in
theorem ggX5_style__X5_lastOf : GoodIn wsX5_style_ wsX5_lastOf := goodIn_r _ [6, 7, 8, 9, 10, 11, 12, 13, 14, 15, 16, 17, 18, 19, 20, 21, 22, 23, 24, 25, 26, 27, 28, 29] (by decide +kernel) (by decide +kernel)
set_option maxRecDepth 20000 in
theorem gX5_style__X5_lastOf : GoodIn wsX5_style_ (wsV RX5 120 RX5 yX5_lastOf wsX5_lastOf) := goodIn_app (goodIn_of _ (by decide +kernel)) ggX5_style__X5_lastOf
theorem dX5_style__0 : decode cX5_style_ 0 = .ok (.aload_n 0, 1) := by decide +kernel
theorem dX5_style__1 : decode cX5_style_ 1 = .ok (.iload_n 1, 1) := by decide +kernel
theorem dX5_style__2 : decode cX5_style_ 2 = .ok (.iconst 2, 1) := by decide +kernel
theorem dX5_style__3 : decode cX5_style_ 3 = .ok (.iload_n 2, 1) := by decide +kernel
theorem dX5_style__4 : decode cX5_style_ 4 = .ok (.invokevirtual 120, 3) := by decide +kernel
theorem dX5_style__7 : decode cX5_style_ 7 = .ok (.istore_n 3, 1) := by decide +kernel
theorem dX5_style__8 : decode cX5_style_ 8 = .ok (.iload_n 3, 1) := by decide +kernel
theorem dX5_style__9 : decode cX5_style_ 9 = .ok (.ifCond .ge 5, 3) := by decide +kernel
theorem dX5_style__12 : decode cX5_style_ 12 = .ok (.iconst 0, 1) := by decide +kernel
theorem dX5_style__13 : decode cX5_style_ 13 = .ok (.ireturn, 1) := by decide +kernel
theorem dX5_style__14 : decode cX5_style_ 14 = .ok (.iconst 0, 1) := by decide +kernel
theorem dX5_style__15 : decode cX5_style_ 15 = .ok (.istore 4, 2) := by decide +kernel
theorem dX5_style__17 : decode cX5_style_ 17 = .ok (.bipush 40, 2) := by decide +kernel
theorem dX5_style__19 : decode cX5_style_ 19 = .ok (.istore 5, 2) := by decide +kernel
theorem dX5_style__21 : decode cX5_style_ 21 = .ok (.iconst 0, 1) := by decide +kernel
theorem dX5_style__22 : decode cX5_style_ 22 = .ok (.istore 6, 2) := by decide +kernel
theorem dX5_style__24 : decode cX5_style_ 24 = .ok (.iconst 0, 1) := by decide +kernel
theorem dX5_style__25 : decode cX5_style_ 25 = .ok (.istore 7, 2) := by decide +kernel
theorem dX5_style__27 : decode cX5_style_ 27 = .ok (.iload 7, 2) := by decide +kernel
theorem dX5_style__29 : decode cX5_style_ 29 = .ok (.iconst 5, 1) := by decide +kernel
theorem dX5_style__30 : decode cX5_style_ 30 = .ok (.if_icmp .ge 61, 3) := by decide +kernel
theorem dX5_style__33 : decode cX5_style_ 33 = .ok (.aload_n 0, 1) := by decide +kernel
theorem dX5_style__34 : decode cX5_style_ 34 = .ok (.getfield 39, 3) := by decide +kernel
theorem dX5_style__37 : decode cX5_style_ 37 = .ok (.iconst 5, 1) := by decide +kernel
theorem dX5_style__38 : decode cX5_style_ 38 = .ok (.iload_n 3, 1) := by decide +kernel
theorem dX5_style__39 : decode cX5_style_ 39 = .ok (.imul, 1) := by decide +kernel
theorem dX5_style__40 : decode cX5_style_ 40 = .ok (.iload 7, 2) := by decide +kernel
theorem dX5_style__42 : decode cX5_style_ 42 = .ok (.iadd, 1) := by decide +kernel
theorem dX5_style__43 : decode cX5_style_ 43 = .ok (.iaload, 1) := by decide +kernel
theorem dX5_style__44 : decode cX5_style_ 44 = .ok (.istore 8, 2) := by decide +kernel
theorem dX5_style__46 : decode cX5_style_ 46 = .ok (.iload 4, 2) := by decide +kernel
theorem dX5_style__48 : decode cX5_style_ 48 = .ok (.iload 8, 2) := by decide +kernel
theorem dX5_style__50 : decode cX5_style_ 50 = .ok (.iadd, 1) := by decide +kernel
theorem dX5_style__51 : decode cX5_style_ 51 = .ok (.istore 4, 2) := by decide +kernel
theorem dX5_style__53 : decode cX5_style_ 53 = .ok (.iload 8, 2) := by decide +kernel
theorem dX5_style__55 : decode cX5_style_ 55 = .ok (.iload 5, 2) := by decide +kernel
theorem dX5_style__57 : decode cX5_style_ 57 = .ok (.if_icmp .ge 8, 3) := by decide +kernel
theorem dX5_style__60 : decode cX5_style_ 60 = .ok (.iload 8, 2) := by decide +kernel
theorem dX5_style__62 : decode cX5_style_ 62 = .ok (.goto 5, 3) := by decide +kernel
theorem dX5_style__65 : decode cX5_style_ 65 = .ok (.iload 5, 2) := by decide +kernel
theorem dX5_style__67 : decode cX5_style_ 67 = .ok (.istore 5, 2) := by decide +kernel
theorem dX5_style__69 : decode cX5_style_ 69 = .ok (.iload 8, 2) := by decide +kernel
theorem dX5_style__71 : decode cX5_style_ 71 = .ok (.iload 6, 2) := by decide +kernel
theorem dX5_style__73 : decode cX5_style_ 73 = .ok (.if_icmp .le 8, 3) := by decide +kernel
theorem dX5_style__76 : decode cX5_style_ 76 = .ok (.iload 8, 2) := by decide +kernel
theorem dX5_style__78 : decode cX5_style_ 78 = .ok (.goto 5, 3) := by decide +kernel
theorem dX5_style__81 : decode cX5_style_ 81 = .ok (.iload 6, 2) := by decide +kernel
theorem dX5_style__83 : decode cX5_style_ 83 = .ok (.istore 6, 2) := by decide +kernel
theorem dX5_style__85 : decode cX5_style_ 85 = .ok (.iinc 7 1, 3) := by decide +kernel
theorem dX5_style__88 : decode cX5_style_ 88 = .ok (.goto (-61), 3) := by decide +kernel
theorem dX5_style__91 : decode cX5_style_ 91 = .ok (.bipush 10, 2) := by decide +kernel
theorem dX5_style__93 : decode cX5_style_ 93 = .ok (.iload 4, 2) := by decide +kernel
theorem dX5_style__95 : decode cX5_style_ 95 = .ok (.iload 5, 2) := by decide +kernel
theorem dX5_style__97 : decode cX5_style_ 97 = .ok (.isub, 1) := by decide +kernel
theorem dX5_style__98 : decode cX5_style_ 98 = .ok (.iload 6, 2) := by decide +kernel
theorem dX5_style__100 : decode cX5_style_ 100 = .ok (.isub, 1) := by decide +kernel
theorem dX5_style__101 : decode cX5_style_ 101 = .ok (.imul, 1) := by decide +kernel
theorem dX5_style__102 : decode cX5_style_ 102 = .ok (.ireturn, 1) := by decide +kernel
set_option maxRecDepth 20000 in
theorem ggX5_without_X5_part : GoodIn wsX5_without wsX5_part := goodIn_r _ [5, 6, 7, 8, 9, 10, 11, 4, 12, 13, 14, 15, 16, 17, 18, 19, 20, 21, 22, 23, 24, 25, 26, 27, 28, 29, 30, 31, 32, 33, 34, 35, 36, 37, 38, 39, 40, 41, 42, 43, 44, 45, 46, 47] (by decide +kernel) (by decide +kernel)
set_option maxRecDepth 20000 in
theorem gX5_without_X5_part : GoodIn wsX5_without (wsV RX5 133 RX5 yX5_part wsX5_part) := goodIn_app (goodIn_of _ (by decide +kernel)) ggX5_without_X5_part
theorem dX5_without_0 : decode cX5_without 0 = .ok (.iconst 0, 1) := by decide +kernel
theorem dX5_without_1 : decode cX5_without 1 = .ok (.istore 4, 2) := by decide +kernel
theorem dX5_without_3 : decode cX5_without 3 = .ok (.iconst 1, 1) := by decide +kernel
theorem dX5_without_4 : decode cX5_without 4 = .ok (.istore 5, 2) := by decide +kernel
theorem dX5_without_6 : decode cX5_without 6 = .ok (.iload 5, 2) := by decide +kernel
theorem dX5_without_8 : decode cX5_without 8 = .ok (.iconst 5, 1) := by decide +kernel
theorem dX5_without_9 : decode cX5_without 9 = .ok (.if_icmp .ge 32, 3) := by decide +kernel
theorem dX5_without_12 : decode cX5_without 12 = .ok (.iload 4, 2) := by decide +kernel
theorem dX5_without_14 : decode cX5_without 14 = .ok (.iload 5, 2) := by decide +kernel
theorem dX5_without_16 : decode cX5_without 16 = .ok (.iload_n 3, 1) := by decide +kernel
theorem dX5_without_17 : decode cX5_without 17 = .ok (.if_icmp .ne 7, 3) := by decide +kernel
theorem dX5_without_20 : decode cX5_without 20 = .ok (.iconst 0, 1) := by decide +kernel
theorem dX5_without_21 : decode cX5_without 21 = .ok (.goto 11, 3) := by decide +kernel
theorem dX5_without_24 : decode cX5_without 24 = .ok (.aload_n 0, 1) := by decide +kernel
theorem dX5_without_25 : decode cX5_without 25 = .ok (.iload_n 1, 1) := by decide +kernel
theorem dX5_without_26 : decode cX5_without 26 = .ok (.iload_n 2, 1) := by decide +kernel
theorem dX5_without_27 : decode cX5_without 27 = .ok (.iload 5, 2) := by decide +kernel
theorem dX5_without_29 : decode cX5_without 29 = .ok (.invokevirtual 133, 3) := by decide +kernel
theorem dX5_without_32 : decode cX5_without 32 = .ok (.iadd, 1) := by decide +kernel
theorem dX5_without_33 : decode cX5_without 33 = .ok (.istore 4, 2) := by decide +kernel
theorem dX5_without_35 : decode cX5_without 35 = .ok (.iinc 5 1, 3) := by decide +kernel
theorem dX5_without_38 : decode cX5_without 38 = .ok (.goto (-32), 3) := by decide +kernel
theorem dX5_without_41 : decode cX5_without 41 = .ok (.iload 4, 2) := by decide +kernel
theorem dX5_without_43 : decode cX5_without 43 = .ok (.ifCond .ge 7, 3) := by decide +kernel
theorem dX5_without_46 : decode cX5_without 46 = .ok (.iconst 0, 1) := by decide +kernel
theorem dX5_without_47 : decode cX5_without 47 = .ok (.goto 5, 3) := by decide +kernel
theorem dX5_without_50 : decode cX5_without 50 = .ok (.iload 4, 2) := by decide +kernel
theorem dX5_without_52 : decode cX5_without 52 = .ok (.ireturn, 1) := by decide +kernel
set_option maxRecDepth 20000 in
theorem ggX5_isKnowing_X5_lies : GoodIn wsX5_isKnowing wsX5_lies := goodIn_r _ [5] (by decide +kernel) (by decide +kernel)
set_option maxRecDepth 20000 in
theorem gX5_isKnowing_X5_lies : GoodIn wsX5_isKnowing (va_wsS RX5 75 yX5_lies wsX5_lies) := goodIn_app (goodIn_of _ (by decide +kernel)) ggX5_isKnowing_X5_lies
theorem dX5_isKnowing_0 : decode cX5_isKnowing 0 = .ok (.iload_n 1, 1) := by decide +kernel
theorem dX5_isKnowing_1 : decode cX5_isKnowing 1 = .ok (.iconst 0, 1) := by decide +kernel
theorem dX5_isKnowing_2 : decode cX5_isKnowing 2 = .ok (.aload_n 0, 1) := by decide +kernel
theorem dX5_isKnowing_3 : decode cX5_isKnowing 3 = .ok (.getfield 101, 3) := by decide +kernel
theorem dX5_isKnowing_6 : decode cX5_isKnowing 6 = .ok (.invokestatic 75, 3) := by decide +kernel
theorem dX5_isKnowing_9 : decode cX5_isKnowing 9 = .ok (.ireturn, 1) := by decide +kernel
set_option maxRecDepth 20000 in
theorem ggX5_points_X5_isKnowing : GoodIn wsX5_points wsX5_isKnowing := goodIn_r _ [5, 6, 7, 8, 4, 9, 52, 53, 54, 55, 56, 57, 58, 59, 60, 61, 62, 63, 64, 65, 66, 67, 68, 69, 70, 71, 72] (by decide +kernel) (by decide +kernel)
set_option maxRecDepth 20000 in
theorem gX5_points_X5_isKnowing : GoodIn wsX5_points (wsV RX5 136 RX5 yX5_isKnowing wsX5_isKnowing) := goodIn_app (goodIn_of _ (by decide +kernel)) ggX5_points_X5_isKnowing
set_option maxRecDepth 20000 in
theorem ggX5_points_X5_isJumper : GoodIn wsX5_points wsX5_isJumper := goodIn_r _ [13, 14, 7, 8, 4, 9, 52, 53, 54, 55, 56, 57, 58, 59, 60, 61, 62, 63, 64, 65, 66, 67, 68, 69, 70, 71, 72] (by decide +kernel) (by decide +kernel)
set_option maxRecDepth 20000 in
theorem gX5_points_X5_isJumper : GoodIn wsX5_points (wsV RX5 97 RX5 yX5_isJumper wsX5_isJumper) := goodIn_app (goodIn_of _ (by decide +kernel)) ggX5_points_X5_isJumper
set_option maxRecDepth 20000 in
theorem ggX5_points_X5_lies : GoodIn wsX5_points wsX5_lies := goodIn_r _ [9] (by decide +kernel) (by decide +kernel)
set_option maxRecDepth 20000 in
theorem gX5_points_X5_lies : GoodIn wsX5_points (va_wsS RX5 75 yX5_lies wsX5_lies) := goodIn_app (goodIn_of _ (by decide +kernel)) ggX5_points_X5_lies
set_option maxRecDepth 20000 in
theorem ggX5_points_X5_mean : GoodIn wsX5_points wsX5_mean := goodIn_r _ [18, 19, 20, 21, 22, 23, 4, 24, 25, 26, 27, 28, 29, 52, 53, 54, 55, 56, 57, 58, 59, 60, 61, 62, 63, 64, 65, 66, 67, 68, 69, 70, 71, 72] (by decide +kernel) (by decide +kernel)
set_option maxRecDepth 20000 in
theorem gX5_points_X5_mean : GoodIn wsX5_points (wsV RX5 130 RX5 yX5_mean wsX5_mean) := goodIn_app (goodIn_of _ (by decide +kernel)) ggX5_points_X5_mean
set_option maxRecDepth 20000 in
theorem ggX5_points_X5_has : GoodIn wsX5_points wsX5_has := goodIn_r _ [33, 21, 22, 23, 4, 24, 25, 26, 34, 35, 36, 37, 19, 52, 53, 54, 55, 56, 57, 58, 59, 60, 61, 62, 63, 64, 65, 66, 67, 68, 69, 70, 71, 72] (by decide +kernel) (by decide +kernel)
set_option maxRecDepth 20000 in
theorem gX5_points_X5_has : GoodIn wsX5_points (wsV RX5 139 RX5 yX5_has wsX5_has) := goodIn_app (goodIn_of _ (by decide +kernel)) ggX5_points_X5_has
set_option maxRecDepth 20000 in
theorem ggX5_points_X5_without : GoodIn wsX5_points wsX5_without := goodIn_r _ [41, 42, 43, 44, 4, 45, 46, 19, 47, 21, 22, 23, 24, 25, 26, 48, 49, 50, 51, 15, 16, 17, 18, 20, 27, 28, 29, 52, 53, 54, 55, 56, 57, 58, 59, 60, 61, 62, 63, 64, 65, 66, 67, 68, 69, 70, 71, 72] (by decide +kernel) (by decide +kernel)
set_option maxRecDepth 20000 in
theorem gX5_points_X5_without : GoodIn wsX5_points (wsV RX5 142 RX5 yX5_without wsX5_without) := goodIn_app (goodIn_of _ (by decide +kernel)) ggX5_points_X5_without
set_option maxRecDepth 20000 in
theorem ggX5_points_X5_part : GoodIn wsX5_points wsX5_part := goodIn_r _ [45, 46, 19, 47, 21, 22, 23, 4, 24, 25, 26, 48, 49, 50, 51, 15, 16, 17, 18, 20, 27, 28, 29, 52, 53, 54, 55, 56, 57, 58, 59, 60, 61, 62, 63, 64, 65, 66, 67, 68, 69, 70, 71, 72] (by decide +kernel) (by decide +kernel)
set_option maxRecDepth 20000 in
theorem gX5_points_X5_part : GoodIn wsX5_points (wsV RX5 133 RX5 yX5_part wsX5_part) := goodIn_app (goodIn_of _ (by decide +kernel)) ggX5_points_X5_part
theorem dX5_points_0 : decode cX5_points 0 = .ok (.aload_n 0, 1) := by decide +kernel
theorem dX5_points_1 : decode cX5_points 1 = .ok (.iload_n 1, 1) := by decide +kernel
theorem dX5_points_2 : decode cX5_points 2 = .ok (.invokevirtual 136, 3) := by decide +kernel
theorem dX5_points_5 : decode cX5_points 5 = .ok (.ifCond .eq 31, 3) := by decide +kernel
theorem dX5_points_8 : decode cX5_points 8 = .ok (.aload_n 0, 1) := by decide +kernel
theorem dX5_points_9 : decode cX5_points 9 = .ok (.iload_n 2, 1) := by decide +kernel
theorem dX5_points_10 : decode cX5_points 10 = .ok (.invokevirtual 97, 3) := by decide +kernel
theorem dX5_points_13 : decode cX5_points 13 = .ok (.ifCond .eq 23, 3) := by decide +kernel
theorem dX5_points_16 : decode cX5_points 16 = .ok (.iload_n 3, 1) := by decide +kernel
theorem dX5_points_17 : decode cX5_points 17 = .ok (.iconst 0, 1) := by decide +kernel
theorem dX5_points_18 : decode cX5_points 18 = .ok (.iconst 1, 1) := by decide +kernel
theorem dX5_points_19 : decode cX5_points 19 = .ok (.invokestatic 75, 3) := by decide +kernel
theorem dX5_points_22 : decode cX5_points 22 = .ok (.ifCond .eq 14, 3) := by decide +kernel
theorem dX5_points_25 : decode cX5_points 25 = .ok (.iload 4, 2) := by decide +kernel
theorem dX5_points_27 : decode cX5_points 27 = .ok (.iconst 0, 1) := by decide +kernel
theorem dX5_points_28 : decode cX5_points 28 = .ok (.bipush 7, 2) := by decide +kernel
theorem dX5_points_30 : decode cX5_points 30 = .ok (.invokestatic 75, 3) := by decide +kernel
theorem dX5_points_33 : decode cX5_points 33 = .ok (.ifCond .ne 7, 3) := by decide +kernel
theorem dX5_points_36 : decode cX5_points 36 = .ok (.sipush (-10000), 3) := by decide +kernel
theorem dX5_points_39 : decode cX5_points 39 = .ok (.ireturn, 1) := by decide +kernel
theorem dX5_points_40 : decode cX5_points 40 = .ok (.iload_n 2, 1) := by decide +kernel
theorem dX5_points_41 : decode cX5_points 41 = .ok (.bipush 32, 2) := by decide +kernel
theorem dX5_points_43 : decode cX5_points 43 = .ok (.iload_n 3, 1) := by decide +kernel
theorem dX5_points_44 : decode cX5_points 44 = .ok (.imul, 1) := by decide +kernel
theorem dX5_points_45 : decode cX5_points 45 = .ok (.iadd, 1) := by decide +kernel
theorem dX5_points_46 : decode cX5_points 46 = .ok (.istore 5, 2) := by decide +kernel
theorem dX5_points_48 : decode cX5_points 48 = .ok (.iload 4, 2) := by decide +kernel
theorem dX5_points_50 : decode cX5_points 50 = .ok (.bipush 7, 2) := by decide +kernel
theorem dX5_points_52 : decode cX5_points 52 = .ok (.if_icmp .ne 11, 3) := by decide +kernel
theorem dX5_points_55 : decode cX5_points 55 = .ok (.aload_n 0, 1) := by decide +kernel
theorem dX5_points_56 : decode cX5_points 56 = .ok (.iload_n 1, 1) := by decide +kernel
theorem dX5_points_57 : decode cX5_points 57 = .ok (.iload 5, 2) := by decide +kernel
theorem dX5_points_59 : decode cX5_points 59 = .ok (.invokevirtual 130, 3) := by decide +kernel
theorem dX5_points_62 : decode cX5_points 62 = .ok (.ireturn, 1) := by decide +kernel
theorem dX5_points_63 : decode cX5_points 63 = .ok (.aload_n 0, 1) := by decide +kernel
theorem dX5_points_64 : decode cX5_points 64 = .ok (.iload_n 1, 1) := by decide +kernel
theorem dX5_points_65 : decode cX5_points 65 = .ok (.iload 5, 2) := by decide +kernel
theorem dX5_points_67 : decode cX5_points 67 = .ok (.invokevirtual 139, 3) := by decide +kernel
theorem dX5_points_70 : decode cX5_points 70 = .ok (.ifCond .ne 7, 3) := by decide +kernel
theorem dX5_points_73 : decode cX5_points 73 = .ok (.sipush (-10000), 3) := by decide +kernel
theorem dX5_points_76 : decode cX5_points 76 = .ok (.ireturn, 1) := by decide +kernel
theorem dX5_points_77 : decode cX5_points 77 = .ok (.iload 4, 2) := by decide +kernel
theorem dX5_points_79 : decode cX5_points 79 = .ok (.ifCond .ne 12, 3) := by decide +kernel
theorem dX5_points_82 : decode cX5_points 82 = .ok (.aload_n 0, 1) := by decide +kernel
theorem dX5_points_83 : decode cX5_points 83 = .ok (.iload_n 1, 1) := by decide +kernel
theorem dX5_points_84 : decode cX5_points 84 = .ok (.iload 5, 2) := by decide +kernel
theorem dX5_points_86 : decode cX5_points 86 = .ok (.iconst 0, 1) := by decide +kernel
theorem dX5_points_87 : decode cX5_points 87 = .ok (.invokevirtual 142, 3) := by decide +kernel
theorem dX5_points_90 : decode cX5_points 90 = .ok (.ireturn, 1) := by decide +kernel
theorem dX5_points_91 : decode cX5_points 91 = .ok (.iload 4, 2) := by decide +kernel
theorem dX5_points_93 : decode cX5_points 93 = .ok (.iconst 5, 1) := by decide +kernel
theorem dX5_points_94 : decode cX5_points 94 = .ok (.if_icmp .ge 15, 3) := by decide +kernel
theorem dX5_points_97 : decode cX5_points 97 = .ok (.aload_n 0, 1) := by decide +kernel
theorem dX5_points_98 : decode cX5_points 98 = .ok (.iload_n 1, 1) := by decide +kernel
theorem dX5_points_99 : decode cX5_points 99 = .ok (.iload 5, 2) := by decide +kernel
theorem dX5_points_101 : decode cX5_points 101 = .ok (.iload 4, 2) := by decide +kernel
theorem dX5_points_103 : decode cX5_points 103 = .ok (.invokevirtual 133, 3) := by decide +kernel
theorem dX5_points_106 : decode cX5_points 106 = .ok (.goto 23, 3) := by decide +kernel
theorem dX5_points_109 : decode cX5_points 109 = .ok (.aload_n 0, 1) := by decide +kernel
theorem dX5_points_110 : decode cX5_points 110 = .ok (.iload_n 1, 1) := by decide +kernel
theorem dX5_points_111 : decode cX5_points 111 = .ok (.iload 5, 2) := by decide +kernel
theorem dX5_points_113 : decode cX5_points 113 = .ok (.iconst 0, 1) := by decide +kernel
theorem dX5_points_114 : decode cX5_points 114 = .ok (.invokevirtual 142, 3) := by decide +kernel
theorem dX5_points_117 : decode cX5_points 117 = .ok (.aload_n 0, 1) := by decide +kernel
theorem dX5_points_118 : decode cX5_points 118 = .ok (.iload_n 1, 1) := by decide +kernel
theorem dX5_points_119 : decode cX5_points 119 = .ok (.iload 5, 2) := by decide +kernel
theorem dX5_points_121 : decode cX5_points 121 = .ok (.iload 4, 2) := by decide +kernel
theorem dX5_points_123 : decode cX5_points 123 = .ok (.iconst 2, 1) := by decide +kernel
theorem dX5_points_124 : decode cX5_points 124 = .ok (.isub, 1) := by decide +kernel
theorem dX5_points_125 : decode cX5_points 125 = .ok (.invokevirtual 142, 3) := by decide +kernel
theorem dX5_points_128 : decode cX5_points 128 = .ok (.isub, 1) := by decide +kernel
theorem dX5_points_129 : decode cX5_points 129 = .ok (.ireturn, 1) := by decide +kernel
set_option maxRecDepth 20000 in
theorem ggX5_works_X5_has : GoodIn wsX5_works wsX5_has := goodIn_r _ [11, 12, 13, 14, 10, 15, 16, 17, 18, 19, 20, 21, 22, 44, 45, 46, 47, 48, 49, 50, 51, 52, 53, 54, 55, 56, 57, 58, 59, 60, 61, 62, 63, 64] (by decide +kernel) (by decide +kernel)
set_option maxRecDepth 20000 in
theorem gX5_works_X5_has : GoodIn wsX5_works (wsV RX5 139 RX5 yX5_has wsX5_has) := goodIn_app (goodIn_of _ (by decide +kernel)) ggX5_works_X5_has
set_option maxRecDepth 20000 in
theorem ggX5_works_X5_without : GoodIn wsX5_works wsX5_without := goodIn_r _ [26, 27, 28, 29, 10, 30, 5, 22, 31, 12, 13, 14, 15, 16, 17, 32, 33, 34, 35, 36, 37, 38, 39, 40, 41, 42, 43, 44, 45, 46, 47, 48, 49, 50, 51, 52, 53, 54, 55, 56, 57, 58, 59, 60, 61, 62, 63, 64] (by decide +kernel) (by decide +kernel)
set_option maxRecDepth 20000 in
theorem gX5_works_X5_without : GoodIn wsX5_works (wsV RX5 142 RX5 yX5_without wsX5_without) := goodIn_app (goodIn_of _ (by decide +kernel)) ggX5_works_X5_without
theorem dX5_works_0 : decode cX5_works 0 = .ok (.iconst 0, 1) := by decide +kernel
theorem dX5_works_1 : decode cX5_works 1 = .ok (.istore_n 2, 1) := by decide +kernel
theorem dX5_works_2 : decode cX5_works 2 = .ok (.iload_n 2, 1) := by decide +kernel
theorem dX5_works_3 : decode cX5_works 3 = .ok (.aload_n 0, 1) := by decide +kernel
theorem dX5_works_4 : decode cX5_works 4 = .ok (.getfield 94, 3) := by decide +kernel
theorem dX5_works_7 : decode cX5_works 7 = .ok (.if_icmp .ge 49, 3) := by decide +kernel
theorem dX5_works_10 : decode cX5_works 10 = .ok (.aload_n 0, 1) := by decide +kernel
theorem dX5_works_11 : decode cX5_works 11 = .ok (.getfield 48, 3) := by decide +kernel
theorem dX5_works_14 : decode cX5_works 14 = .ok (.iload_n 2, 1) := by decide +kernel
theorem dX5_works_15 : decode cX5_works 15 = .ok (.aload_n 0, 1) := by decide +kernel
theorem dX5_works_16 : decode cX5_works 16 = .ok (.iload_n 1, 1) := by decide +kernel
theorem dX5_works_17 : decode cX5_works 17 = .ok (.iload_n 2, 1) := by decide +kernel
theorem dX5_works_18 : decode cX5_works 18 = .ok (.invokevirtual 139, 3) := by decide +kernel
theorem dX5_works_21 : decode cX5_works 21 = .ok (.bastore, 1) := by decide +kernel
theorem dX5_works_22 : decode cX5_works 22 = .ok (.aload_n 0, 1) := by decide +kernel
theorem dX5_works_23 : decode cX5_works 23 = .ok (.getfield 55, 3) := by decide +kernel
theorem dX5_works_26 : decode cX5_works 26 = .ok (.iload_n 2, 1) := by decide +kernel
theorem dX5_works_27 : decode cX5_works 27 = .ok (.aload_n 0, 1) := by decide +kernel
theorem dX5_works_28 : decode cX5_works 28 = .ok (.getfield 48, 3) := by decide +kernel
theorem dX5_works_31 : decode cX5_works 31 = .ok (.iload_n 2, 1) := by decide +kernel
theorem dX5_works_32 : decode cX5_works 32 = .ok (.baload, 1) := by decide +kernel
theorem dX5_works_33 : decode cX5_works 33 = .ok (.ifCond .eq 13, 3) := by decide +kernel
theorem dX5_works_36 : decode cX5_works 36 = .ok (.aload_n 0, 1) := by decide +kernel
theorem dX5_works_37 : decode cX5_works 37 = .ok (.iload_n 1, 1) := by decide +kernel
theorem dX5_works_38 : decode cX5_works 38 = .ok (.iload_n 2, 1) := by decide +kernel
theorem dX5_works_39 : decode cX5_works 39 = .ok (.iconst 0, 1) := by decide +kernel
theorem dX5_works_40 : decode cX5_works 40 = .ok (.invokevirtual 142, 3) := by decide +kernel
theorem dX5_works_43 : decode cX5_works 43 = .ok (.goto 6, 3) := by decide +kernel
theorem dX5_works_46 : decode cX5_works 46 = .ok (.sipush (-10000), 3) := by decide +kernel
theorem dX5_works_49 : decode cX5_works 49 = .ok (.iastore, 1) := by decide +kernel
theorem dX5_works_50 : decode cX5_works 50 = .ok (.iinc 2 1, 3) := by decide +kernel
theorem dX5_works_53 : decode cX5_works 53 = .ok (.goto (-51), 3) := by decide +kernel
theorem dX5_works_56 : decode cX5_works 56 = .ok (.iconst 0, 1) := by decide +kernel
theorem dX5_works_57 : decode cX5_works 57 = .ok (.istore_n 2, 1) := by decide +kernel
theorem dX5_works_58 : decode cX5_works 58 = .ok (.iload_n 2, 1) := by decide +kernel
theorem dX5_works_59 : decode cX5_works 59 = .ok (.aload_n 0, 1) := by decide +kernel
theorem dX5_works_60 : decode cX5_works 60 = .ok (.getfield 94, 3) := by decide +kernel
theorem dX5_works_63 : decode cX5_works 63 = .ok (.if_icmp .ge 220, 3) := by decide +kernel
theorem dX5_works_66 : decode cX5_works 66 = .ok (.iconst 0, 1) := by decide +kernel
theorem dX5_works_67 : decode cX5_works 67 = .ok (.istore_n 3, 1) := by decide +kernel
theorem dX5_works_68 : decode cX5_works 68 = .ok (.iconst 0, 1) := by decide +kernel
theorem dX5_works_69 : decode cX5_works 69 = .ok (.istore 4, 2) := by decide +kernel
theorem dX5_works_71 : decode cX5_works 71 = .ok (.iconst 0, 1) := by decide +kernel
theorem dX5_works_72 : decode cX5_works 72 = .ok (.istore 5, 2) := by decide +kernel
theorem dX5_works_74 : decode cX5_works 74 = .ok (.iload 5, 2) := by decide +kernel
theorem dX5_works_76 : decode cX5_works 76 = .ok (.aload_n 0, 1) := by decide +kernel
theorem dX5_works_77 : decode cX5_works 77 = .ok (.getfield 94, 3) := by decide +kernel
theorem dX5_works_80 : decode cX5_works 80 = .ok (.if_icmp .ge 94, 3) := by decide +kernel
theorem dX5_works_83 : decode cX5_works 83 = .ok (.aload_n 0, 1) := by decide +kernel
theorem dX5_works_84 : decode cX5_works 84 = .ok (.getfield 48, 3) := by decide +kernel
theorem dX5_works_87 : decode cX5_works 87 = .ok (.iload 5, 2) := by decide +kernel
theorem dX5_works_89 : decode cX5_works 89 = .ok (.baload, 1) := by decide +kernel
theorem dX5_works_90 : decode cX5_works 90 = .ok (.ifCond .ne 6, 3) := by decide +kernel
theorem dX5_works_93 : decode cX5_works 93 = .ok (.goto 75, 3) := by decide +kernel
theorem dX5_works_96 : decode cX5_works 96 = .ok (.iload 4, 2) := by decide +kernel
theorem dX5_works_98 : decode cX5_works 98 = .ok (.aload_n 0, 1) := by decide +kernel
theorem dX5_works_99 : decode cX5_works 99 = .ok (.getfield 55, 3) := by decide +kernel
theorem dX5_works_102 : decode cX5_works 102 = .ok (.iload 5, 2) := by decide +kernel
theorem dX5_works_104 : decode cX5_works 104 = .ok (.iaload, 1) := by decide +kernel
theorem dX5_works_105 : decode cX5_works 105 = .ok (.aload_n 0, 1) := by decide +kernel
theorem dX5_works_106 : decode cX5_works 106 = .ok (.getfield 55, 3) := by decide +kernel
theorem dX5_works_109 : decode cX5_works 109 = .ok (.iload_n 2, 1) := by decide +kernel
theorem dX5_works_110 : decode cX5_works 110 = .ok (.iaload, 1) := by decide +kernel
theorem dX5_works_111 : decode cX5_works 111 = .ok (.if_icmp .le 7, 3) := by decide +kernel
theorem dX5_works_114 : decode cX5_works 114 = .ok (.iconst 1, 1) := by decide +kernel
theorem dX5_works_115 : decode cX5_works 115 = .ok (.goto 4, 3) := by decide +kernel
theorem dX5_works_118 : decode cX5_works 118 = .ok (.iconst 0, 1) := by decide +kernel
theorem dX5_works_119 : decode cX5_works 119 = .ok (.iadd, 1) := by decide +kernel
theorem dX5_works_120 : decode cX5_works 120 = .ok (.istore 4, 2) := by decide +kernel
theorem dX5_works_122 : decode cX5_works 122 = .ok (.iload_n 3, 1) := by decide +kernel
theorem dX5_works_123 : decode cX5_works 123 = .ok (.aload_n 0, 1) := by decide +kernel
theorem dX5_works_124 : decode cX5_works 124 = .ok (.getfield 55, 3) := by decide +kernel
theorem dX5_works_127 : decode cX5_works 127 = .ok (.iload 5, 2) := by decide +kernel
theorem dX5_works_129 : decode cX5_works 129 = .ok (.iaload, 1) := by decide +kernel
theorem dX5_works_130 : decode cX5_works 130 = .ok (.aload_n 0, 1) := by decide +kernel
theorem dX5_works_131 : decode cX5_works 131 = .ok (.getfield 55, 3) := by decide +kernel
theorem dX5_works_134 : decode cX5_works 134 = .ok (.iload_n 2, 1) := by decide +kernel
theorem dX5_works_135 : decode cX5_works 135 = .ok (.iaload, 1) := by decide +kernel
theorem dX5_works_136 : decode cX5_works 136 = .ok (.if_icmp .gt 25, 3) := by decide +kernel
theorem dX5_works_139 : decode cX5_works 139 = .ok (.aload_n 0, 1) := by decide +kernel
theorem dX5_works_140 : decode cX5_works 140 = .ok (.getfield 55, 3) := by decide +kernel
theorem dX5_works_143 : decode cX5_works 143 = .ok (.iload 5, 2) := by decide +kernel
theorem dX5_works_145 : decode cX5_works 145 = .ok (.iaload, 1) := by decide +kernel
theorem dX5_works_146 : decode cX5_works 146 = .ok (.aload_n 0, 1) := by decide +kernel
theorem dX5_works_147 : decode cX5_works 147 = .ok (.getfield 55, 3) := by decide +kernel
theorem dX5_works_150 : decode cX5_works 150 = .ok (.iload_n 2, 1) := by decide +kernel
theorem dX5_works_151 : decode cX5_works 151 = .ok (.iaload, 1) := by decide +kernel
theorem dX5_works_152 : decode cX5_works 152 = .ok (.if_icmp .ne 13, 3) := by decide +kernel
theorem dX5_works_155 : decode cX5_works 155 = .ok (.iload 5, 2) := by decide +kernel
theorem dX5_works_157 : decode cX5_works 157 = .ok (.iload_n 2, 1) := by decide +kernel
theorem dX5_works_158 : decode cX5_works 158 = .ok (.if_icmp .ge 7, 3) := by decide +kernel
theorem dX5_works_161 : decode cX5_works 161 = .ok (.iconst 1, 1) := by decide +kernel
theorem dX5_works_162 : decode cX5_works 162 = .ok (.goto 4, 3) := by decide +kernel
theorem dX5_works_165 : decode cX5_works 165 = .ok (.iconst 0, 1) := by decide +kernel
theorem dX5_works_166 : decode cX5_works 166 = .ok (.iadd, 1) := by decide +kernel
theorem dX5_works_167 : decode cX5_works 167 = .ok (.istore_n 3, 1) := by decide +kernel
theorem dX5_works_168 : decode cX5_works 168 = .ok (.iinc 5 1, 3) := by decide +kernel
theorem dX5_works_171 : decode cX5_works 171 = .ok (.goto (-97), 3) := by decide +kernel
theorem dX5_works_174 : decode cX5_works 174 = .ok (.aload_n 0, 1) := by decide +kernel
theorem dX5_works_175 : decode cX5_works 175 = .ok (.getfield 52, 3) := by decide +kernel
theorem dX5_works_178 : decode cX5_works 178 = .ok (.iload_n 2, 1) := by decide +kernel
theorem dX5_works_179 : decode cX5_works 179 = .ok (.aload_n 0, 1) := by decide +kernel
theorem dX5_works_180 : decode cX5_works 180 = .ok (.getfield 48, 3) := by decide +kernel
theorem dX5_works_183 : decode cX5_works 183 = .ok (.iload_n 2, 1) := by decide +kernel
theorem dX5_works_184 : decode cX5_works 184 = .ok (.baload, 1) := by decide +kernel
theorem dX5_works_185 : decode cX5_works 185 = .ok (.ifCond .eq 42, 3) := by decide +kernel
theorem dX5_works_188 : decode cX5_works 188 = .ok (.aload_n 0, 1) := by decide +kernel
theorem dX5_works_189 : decode cX5_works 189 = .ok (.getfield 13, 3) := by decide +kernel
theorem dX5_works_192 : decode cX5_works 192 = .ok (.bipush 6, 2) := by decide +kernel
theorem dX5_works_194 : decode cX5_works 194 = .ok (.iaload, 1) := by decide +kernel
theorem dX5_works_195 : decode cX5_works 195 = .ok (.iconst 1, 1) := by decide +kernel
theorem dX5_works_196 : decode cX5_works 196 = .ok (.if_icmp .ne 17, 3) := by decide +kernel
theorem dX5_works_199 : decode cX5_works 199 = .ok (.iload 4, 2) := by decide +kernel
theorem dX5_works_201 : decode cX5_works 201 = .ok (.aload_n 0, 1) := by decide +kernel
theorem dX5_works_202 : decode cX5_works 202 = .ok (.getfield 13, 3) := by decide +kernel
theorem dX5_works_205 : decode cX5_works 205 = .ok (.iconst 5, 1) := by decide +kernel
theorem dX5_works_206 : decode cX5_works 206 = .ok (.iaload, 1) := by decide +kernel
theorem dX5_works_207 : decode cX5_works 207 = .ok (.if_icmp .ge 20, 3) := by decide +kernel
theorem dX5_works_210 : decode cX5_works 210 = .ok (.goto 13, 3) := by decide +kernel
theorem dX5_works_213 : decode cX5_works 213 = .ok (.iload_n 3, 1) := by decide +kernel
theorem dX5_works_214 : decode cX5_works 214 = .ok (.aload_n 0, 1) := by decide +kernel
theorem dX5_works_215 : decode cX5_works 215 = .ok (.getfield 13, 3) := by decide +kernel
theorem dX5_works_218 : decode cX5_works 218 = .ok (.iconst 5, 1) := by decide +kernel
theorem dX5_works_219 : decode cX5_works 219 = .ok (.iaload, 1) := by decide +kernel
theorem dX5_works_220 : decode cX5_works 220 = .ok (.if_icmp .ge 7, 3) := by decide +kernel
theorem dX5_works_223 : decode cX5_works 223 = .ok (.iconst 1, 1) := by decide +kernel
theorem dX5_works_224 : decode cX5_works 224 = .ok (.goto 4, 3) := by decide +kernel
theorem dX5_works_227 : decode cX5_works 227 = .ok (.iconst 0, 1) := by decide +kernel
theorem dX5_works_228 : decode cX5_works 228 = .ok (.bastore, 1) := by decide +kernel
theorem dX5_works_229 : decode cX5_works 229 = .ok (.aload_n 0, 1) := by decide +kernel
theorem dX5_works_230 : decode cX5_works 230 = .ok (.getfield 58, 3) := by decide +kernel
theorem dX5_works_233 : decode cX5_works 233 = .ok (.iload_n 2, 1) := by decide +kernel
theorem dX5_works_234 : decode cX5_works 234 = .ok (.aload_n 0, 1) := by decide +kernel
theorem dX5_works_235 : decode cX5_works 235 = .ok (.getfield 55, 3) := by decide +kernel
theorem dX5_works_238 : decode cX5_works 238 = .ok (.iload_n 2, 1) := by decide +kernel
theorem dX5_works_239 : decode cX5_works 239 = .ok (.iaload, 1) := by decide +kernel
theorem dX5_works_240 : decode cX5_works 240 = .ok (.aload_n 0, 1) := by decide +kernel
theorem dX5_works_241 : decode cX5_works 241 = .ok (.getfield 52, 3) := by decide +kernel
theorem dX5_works_244 : decode cX5_works 244 = .ok (.iload_n 2, 1) := by decide +kernel
theorem dX5_works_245 : decode cX5_works 245 = .ok (.baload, 1) := by decide +kernel
theorem dX5_works_246 : decode cX5_works 246 = .ok (.ifCond .eq 28, 3) := by decide +kernel
theorem dX5_works_249 : decode cX5_works 249 = .ok (.aload_n 0, 1) := by decide +kernel
theorem dX5_works_250 : decode cX5_works 250 = .ok (.iload_n 1, 1) := by decide +kernel
theorem dX5_works_251 : decode cX5_works 251 = .ok (.iload_n 2, 1) := by decide +kernel
theorem dX5_works_252 : decode cX5_works 252 = .ok (.bipush 32, 2) := by decide +kernel
theorem dX5_works_254 : decode cX5_works 254 = .ok (.iadd, 1) := by decide +kernel
theorem dX5_works_255 : decode cX5_works 255 = .ok (.invokevirtual 139, 3) := by decide +kernel
theorem dX5_works_258 : decode cX5_works 258 = .ok (.ifCond .eq 16, 3) := by decide +kernel
theorem dX5_works_261 : decode cX5_works 261 = .ok (.aload_n 0, 1) := by decide +kernel
theorem dX5_works_262 : decode cX5_works 262 = .ok (.iload_n 1, 1) := by decide +kernel
theorem dX5_works_263 : decode cX5_works 263 = .ok (.iload_n 2, 1) := by decide +kernel
theorem dX5_works_264 : decode cX5_works 264 = .ok (.bipush 32, 2) := by decide +kernel
theorem dX5_works_266 : decode cX5_works 266 = .ok (.iadd, 1) := by decide +kernel
theorem dX5_works_267 : decode cX5_works 267 = .ok (.iconst 0, 1) := by decide +kernel
theorem dX5_works_268 : decode cX5_works 268 = .ok (.invokevirtual 142, 3) := by decide +kernel
theorem dX5_works_271 : decode cX5_works 271 = .ok (.goto 4, 3) := by decide +kernel
theorem dX5_works_274 : decode cX5_works 274 = .ok (.iconst 0, 1) := by decide +kernel
theorem dX5_works_275 : decode cX5_works 275 = .ok (.iadd, 1) := by decide +kernel
theorem dX5_works_276 : decode cX5_works 276 = .ok (.iastore, 1) := by decide +kernel
theorem dX5_works_277 : decode cX5_works 277 = .ok (.iinc 2 1, 3) := by decide +kernel
theorem dX5_works_280 : decode cX5_works 280 = .ok (.goto (-222), 3) := by decide +kernel
theorem dX5_works_283 : decode cX5_works 283 = .ok (.return_, 1) := by decide +kernel
theorem dX5_isBefore_0 : decode cX5_isBefore 0 = .ok (.aload_n 0, 1) := by decide +kernel
theorem dX5_isBefore_1 : decode cX5_isBefore 1 = .ok (.getfield 48, 3) := by decide +kernel
theorem dX5_isBefore_4 : decode cX5_isBefore 4 = .ok (.iload_n 1, 1) := by decide +kernel
theorem dX5_isBefore_5 : decode cX5_isBefore 5 = .ok (.baload, 1) := by decide +kernel
theorem dX5_isBefore_6 : decode cX5_isBefore 6 = .ok (.ifCond .eq 49, 3) := by decide +kernel
theorem dX5_isBefore_9 : decode cX5_isBefore 9 = .ok (.aload_n 0, 1) := by decide +kernel
theorem dX5_isBefore_10 : decode cX5_isBefore 10 = .ok (.getfield 52, 3) := by decide +kernel
theorem dX5_isBefore_13 : decode cX5_isBefore 13 = .ok (.iload_n 1, 1) := by decide +kernel
theorem dX5_isBefore_14 : decode cX5_isBefore 14 = .ok (.baload, 1) := by decide +kernel
theorem dX5_isBefore_15 : decode cX5_isBefore 15 = .ok (.aload_n 0, 1) := by decide +kernel
theorem dX5_isBefore_16 : decode cX5_isBefore 16 = .ok (.getfield 52, 3) := by decide +kernel
theorem dX5_isBefore_19 : decode cX5_isBefore 19 = .ok (.iload_n 2, 1) := by decide +kernel
theorem dX5_isBefore_20 : decode cX5_isBefore 20 = .ok (.baload, 1) := by decide +kernel
theorem dX5_isBefore_21 : decode cX5_isBefore 21 = .ok (.if_icmp .eq 15, 3) := by decide +kernel
theorem dX5_isBefore_24 : decode cX5_isBefore 24 = .ok (.aload_n 0, 1) := by decide +kernel
theorem dX5_isBefore_25 : decode cX5_isBefore 25 = .ok (.getfield 52, 3) := by decide +kernel
theorem dX5_isBefore_28 : decode cX5_isBefore 28 = .ok (.iload_n 1, 1) := by decide +kernel
theorem dX5_isBefore_29 : decode cX5_isBefore 29 = .ok (.baload, 1) := by decide +kernel
theorem dX5_isBefore_30 : decode cX5_isBefore 30 = .ok (.ifCond .eq 25, 3) := by decide +kernel
theorem dX5_isBefore_33 : decode cX5_isBefore 33 = .ok (.goto 18, 3) := by decide +kernel
theorem dX5_isBefore_36 : decode cX5_isBefore 36 = .ok (.aload_n 0, 1) := by decide +kernel
theorem dX5_isBefore_37 : decode cX5_isBefore 37 = .ok (.getfield 58, 3) := by decide +kernel
theorem dX5_isBefore_40 : decode cX5_isBefore 40 = .ok (.iload_n 1, 1) := by decide +kernel
theorem dX5_isBefore_41 : decode cX5_isBefore 41 = .ok (.iaload, 1) := by decide +kernel
theorem dX5_isBefore_42 : decode cX5_isBefore 42 = .ok (.aload_n 0, 1) := by decide +kernel
theorem dX5_isBefore_43 : decode cX5_isBefore 43 = .ok (.getfield 58, 3) := by decide +kernel
theorem dX5_isBefore_46 : decode cX5_isBefore 46 = .ok (.iload_n 2, 1) := by decide +kernel
theorem dX5_isBefore_47 : decode cX5_isBefore 47 = .ok (.iaload, 1) := by decide +kernel
theorem dX5_isBefore_48 : decode cX5_isBefore 48 = .ok (.if_icmp .le 7, 3) := by decide +kernel
theorem dX5_isBefore_51 : decode cX5_isBefore 51 = .ok (.iconst 1, 1) := by decide +kernel
theorem dX5_isBefore_52 : decode cX5_isBefore 52 = .ok (.goto 4, 3) := by decide +kernel
theorem dX5_isBefore_55 : decode cX5_isBefore 55 = .ok (.iconst 0, 1) := by decide +kernel
theorem dX5_isBefore_56 : decode cX5_isBefore 56 = .ok (.ireturn, 1) := by decide +kernel
set_option maxRecDepth 20000 in
theorem ggX5_place_X5_isBefore : GoodIn wsX5_place wsX5_isBefore := goodIn_r _ [6, 7, 8, 9, 10, 11, 12, 13, 14, 15, 16, 17, 18, 19, 20, 21, 22, 23, 24, 25, 26, 27, 28, 29, 30] (by decide +kernel) (by decide +kernel)
set_option maxRecDepth 20000 in
theorem gX5_place_X5_isBefore : GoodIn wsX5_place (wsV RX5 145 RX5 yX5_isBefore wsX5_isBefore) := goodIn_app (goodIn_of _ (by decide +kernel)) ggX5_place_X5_isBefore
theorem dX5_place_0 : decode cX5_place 0 = .ok (.iconst 1, 1) := by decide +kernel
theorem dX5_place_1 : decode cX5_place 1 = .ok (.istore_n 2, 1) := by decide +kernel
theorem dX5_place_2 : decode cX5_place 2 = .ok (.iconst 0, 1) := by decide +kernel
theorem dX5_place_3 : decode cX5_place 3 = .ok (.istore_n 3, 1) := by decide +kernel
theorem dX5_place_4 : decode cX5_place 4 = .ok (.iload_n 3, 1) := by decide +kernel
theorem dX5_place_5 : decode cX5_place 5 = .ok (.aload_n 0, 1) := by decide +kernel
theorem dX5_place_6 : decode cX5_place 6 = .ok (.getfield 94, 3) := by decide +kernel
theorem dX5_place_9 : decode cX5_place 9 = .ok (.if_icmp .ge 26, 3) := by decide +kernel
theorem dX5_place_12 : decode cX5_place 12 = .ok (.iload_n 2, 1) := by decide +kernel
theorem dX5_place_13 : decode cX5_place 13 = .ok (.aload_n 0, 1) := by decide +kernel
theorem dX5_place_14 : decode cX5_place 14 = .ok (.iload_n 3, 1) := by decide +kernel
theorem dX5_place_15 : decode cX5_place 15 = .ok (.iload_n 1, 1) := by decide +kernel
theorem dX5_place_16 : decode cX5_place 16 = .ok (.invokevirtual 145, 3) := by decide +kernel
theorem dX5_place_19 : decode cX5_place 19 = .ok (.ifCond .eq 7, 3) := by decide +kernel
theorem dX5_place_22 : decode cX5_place 22 = .ok (.iconst 1, 1) := by decide +kernel
theorem dX5_place_23 : decode cX5_place 23 = .ok (.goto 4, 3) := by decide +kernel
theorem dX5_place_26 : decode cX5_place 26 = .ok (.iconst 0, 1) := by decide +kernel
theorem dX5_place_27 : decode cX5_place 27 = .ok (.iadd, 1) := by decide +kernel
theorem dX5_place_28 : decode cX5_place 28 = .ok (.istore_n 2, 1) := by decide +kernel
theorem dX5_place_29 : decode cX5_place 29 = .ok (.iinc 3 1, 3) := by decide +kernel
theorem dX5_place_32 : decode cX5_place 32 = .ok (.goto (-28), 3) := by decide +kernel
theorem dX5_place_35 : decode cX5_place 35 = .ok (.iload_n 2, 1) := by decide +kernel
theorem dX5_place_36 : decode cX5_place 36 = .ok (.ireturn, 1) := by decide +kernel
set_option maxRecDepth 20000 in
theorem ggX5_told_X5_isJumper : GoodIn wsX5_told wsX5_isJumper := goodIn_r _ [10, 11, 12, 13, 9, 14, 70, 71, 72, 73, 74, 75, 76, 77, 78, 79, 80, 81, 82, 83, 84, 85, 86, 87, 88, 89, 90] (by decide +kernel) (by decide +kernel)
set_option maxRecDepth 20000 in
theorem gX5_told_X5_isJumper : GoodIn wsX5_told (wsV RX5 97 RX5 yX5_isJumper wsX5_isJumper) := goodIn_app (goodIn_of _ (by decide +kernel)) ggX5_told_X5_isJumper
set_option maxRecDepth 20000 in
theorem ggX5_told_X5_isKnowing : GoodIn wsX5_told wsX5_isKnowing := goodIn_r _ [18, 19, 12, 13, 9, 14, 70, 71, 72, 73, 74, 75, 76, 77, 78, 79, 80, 81, 82, 83, 84, 85, 86, 87, 88, 89, 90] (by decide +kernel) (by decide +kernel)
set_option maxRecDepth 20000 in
theorem gX5_told_X5_isKnowing : GoodIn wsX5_told (wsV RX5 136 RX5 yX5_isKnowing wsX5_isKnowing) := goodIn_app (goodIn_of _ (by decide +kernel)) ggX5_told_X5_isKnowing
set_option maxRecDepth 20000 in
theorem ggX5_told_X5_lies : GoodIn wsX5_told wsX5_lies := goodIn_r _ [14] (by decide +kernel) (by decide +kernel)
set_option maxRecDepth 20000 in
theorem gX5_told_X5_lies : GoodIn wsX5_told (va_wsS RX5 75 yX5_lies wsX5_lies) := goodIn_app (goodIn_of _ (by decide +kernel)) ggX5_told_X5_lies
set_option maxRecDepth 20000 in
theorem ggX5_told_X5_works : GoodIn wsX5_told wsX5_works := goodIn_r _ [23, 11, 4, 24, 3, 25, 5, 26, 27, 28, 9, 29, 30, 31, 32, 33, 34, 35, 36, 37, 38, 39, 40, 41, 42, 43, 44, 45, 46, 47, 48, 49, 50, 51, 52, 53, 54, 55, 56, 57, 58, 59, 60, 61, 70, 71, 72, 73, 74, 75, 76, 77, 78, 79, 80, 81, 82, 83, 84, 85, 86, 87, 88, 89, 90] (by decide +kernel) (by decide +kernel)
set_option maxRecDepth 20000 in
theorem gX5_told_X5_works : GoodIn wsX5_told (wsV RX5 148 RX5 yX5_works wsX5_works) := goodIn_app (goodIn_of _ (by decide +kernel)) ggX5_told_X5_works
set_option maxRecDepth 20000 in
theorem ggX5_told_X5_place : GoodIn wsX5_told wsX5_place := goodIn_r _ [65, 11, 66, 67, 68, 9, 69, 4, 3, 5, 70, 71, 72, 73, 74, 75, 76, 77, 78, 79, 80, 81, 82, 83, 84, 85, 86, 87, 88, 89, 90] (by decide +kernel) (by decide +kernel)
set_option maxRecDepth 20000 in
theorem gX5_told_X5_place : GoodIn wsX5_told (wsV RX5 151 RX5 yX5_place wsX5_place) := goodIn_app (goodIn_of _ (by decide +kernel)) ggX5_told_X5_place
theorem dX5_told_0 : decode cX5_told 0 = .ok (.aload_n 0, 1) := by decide +kernel
theorem dX5_told_1 : decode cX5_told 1 = .ok (.iload_n 2, 1) := by decide +kernel
theorem dX5_told_2 : decode cX5_told 2 = .ok (.invokevirtual 97, 3) := by decide +kernel
theorem dX5_told_5 : decode cX5_told 5 = .ok (.ifCond .ne 7, 3) := by decide +kernel
theorem dX5_told_8 : decode cX5_told 8 = .ok (.sipush (-10000), 3) := by decide +kernel
theorem dX5_told_11 : decode cX5_told 11 = .ok (.ireturn, 1) := by decide +kernel
theorem dX5_told_12 : decode cX5_told 12 = .ok (.iload_n 3, 1) := by decide +kernel
theorem dX5_told_13 : decode cX5_told 13 = .ok (.iconst 3, 1) := by decide +kernel
theorem dX5_told_14 : decode cX5_told 14 = .ok (.if_icmp .ne 10, 3) := by decide +kernel
theorem dX5_told_17 : decode cX5_told 17 = .ok (.aload_n 0, 1) := by decide +kernel
theorem dX5_told_18 : decode cX5_told 18 = .ok (.getfield 24, 3) := by decide +kernel
theorem dX5_told_21 : decode cX5_told 21 = .ok (.iload_n 2, 1) := by decide +kernel
theorem dX5_told_22 : decode cX5_told 22 = .ok (.iaload, 1) := by decide +kernel
theorem dX5_told_23 : decode cX5_told 23 = .ok (.ireturn, 1) := by decide +kernel
theorem dX5_told_24 : decode cX5_told 24 = .ok (.iload_n 3, 1) := by decide +kernel
theorem dX5_told_25 : decode cX5_told 25 = .ok (.iconst 4, 1) := by decide +kernel
theorem dX5_told_26 : decode cX5_told 26 = .ok (.if_icmp .ne 10, 3) := by decide +kernel
theorem dX5_told_29 : decode cX5_told 29 = .ok (.aload_n 0, 1) := by decide +kernel
theorem dX5_told_30 : decode cX5_told 30 = .ok (.getfield 27, 3) := by decide +kernel
theorem dX5_told_33 : decode cX5_told 33 = .ok (.iload_n 2, 1) := by decide +kernel
theorem dX5_told_34 : decode cX5_told 34 = .ok (.iaload, 1) := by decide +kernel
theorem dX5_told_35 : decode cX5_told 35 = .ok (.ireturn, 1) := by decide +kernel
theorem dX5_told_36 : decode cX5_told 36 = .ok (.aload_n 0, 1) := by decide +kernel
theorem dX5_told_37 : decode cX5_told 37 = .ok (.iload_n 1, 1) := by decide +kernel
theorem dX5_told_38 : decode cX5_told 38 = .ok (.invokevirtual 136, 3) := by decide +kernel
theorem dX5_told_41 : decode cX5_told 41 = .ok (.ifCond .eq 12, 3) := by decide +kernel
theorem dX5_told_44 : decode cX5_told 44 = .ok (.iload_n 3, 1) := by decide +kernel
theorem dX5_told_45 : decode cX5_told 45 = .ok (.iconst 0, 1) := by decide +kernel
theorem dX5_told_46 : decode cX5_told 46 = .ok (.iconst 2, 1) := by decide +kernel
theorem dX5_told_47 : decode cX5_told 47 = .ok (.invokestatic 75, 3) := by decide +kernel
theorem dX5_told_50 : decode cX5_told 50 = .ok (.ifCond .ne 7, 3) := by decide +kernel
theorem dX5_told_53 : decode cX5_told 53 = .ok (.sipush (-10000), 3) := by decide +kernel
theorem dX5_told_56 : decode cX5_told 56 = .ok (.ireturn, 1) := by decide +kernel
theorem dX5_told_57 : decode cX5_told 57 = .ok (.aload_n 0, 1) := by decide +kernel
theorem dX5_told_58 : decode cX5_told 58 = .ok (.iload_n 1, 1) := by decide +kernel
theorem dX5_told_59 : decode cX5_told 59 = .ok (.invokevirtual 148, 3) := by decide +kernel
theorem dX5_told_62 : decode cX5_told 62 = .ok (.iload_n 3, 1) := by decide +kernel
theorem dX5_told_63 : decode cX5_told 63 = .ok (.ifCond .ne 18, 3) := by decide +kernel
theorem dX5_told_66 : decode cX5_told 66 = .ok (.aload_n 0, 1) := by decide +kernel
theorem dX5_told_67 : decode cX5_told 67 = .ok (.getfield 52, 3) := by decide +kernel
theorem dX5_told_70 : decode cX5_told 70 = .ok (.iload_n 2, 1) := by decide +kernel
theorem dX5_told_71 : decode cX5_told 71 = .ok (.baload, 1) := by decide +kernel
theorem dX5_told_72 : decode cX5_told 72 = .ok (.ifCond .eq 7, 3) := by decide +kernel
theorem dX5_told_75 : decode cX5_told 75 = .ok (.iconst 1, 1) := by decide +kernel
theorem dX5_told_76 : decode cX5_told 76 = .ok (.goto 4, 3) := by decide +kernel
theorem dX5_told_79 : decode cX5_told 79 = .ok (.iconst 0, 1) := by decide +kernel
theorem dX5_told_80 : decode cX5_told 80 = .ok (.ireturn, 1) := by decide +kernel
theorem dX5_told_81 : decode cX5_told 81 = .ok (.aload_n 0, 1) := by decide +kernel
theorem dX5_told_82 : decode cX5_told 82 = .ok (.getfield 48, 3) := by decide +kernel
theorem dX5_told_85 : decode cX5_told 85 = .ok (.iload_n 2, 1) := by decide +kernel
theorem dX5_told_86 : decode cX5_told 86 = .ok (.baload, 1) := by decide +kernel
theorem dX5_told_87 : decode cX5_told 87 = .ok (.ifCond .ne 9, 3) := by decide +kernel
theorem dX5_told_90 : decode cX5_told 90 = .ok (.sipush (-10000), 3) := by decide +kernel
theorem dX5_told_93 : decode cX5_told 93 = .ok (.goto 22, 3) := by decide +kernel
theorem dX5_told_96 : decode cX5_told 96 = .ok (.iload_n 3, 1) := by decide +kernel
theorem dX5_told_97 : decode cX5_told 97 = .ok (.iconst 1, 1) := by decide +kernel
theorem dX5_told_98 : decode cX5_told 98 = .ok (.if_icmp .ne 12, 3) := by decide +kernel
theorem dX5_told_101 : decode cX5_told 101 = .ok (.aload_n 0, 1) := by decide +kernel
theorem dX5_told_102 : decode cX5_told 102 = .ok (.getfield 58, 3) := by decide +kernel
theorem dX5_told_105 : decode cX5_told 105 = .ok (.iload_n 2, 1) := by decide +kernel
theorem dX5_told_106 : decode cX5_told 106 = .ok (.iaload, 1) := by decide +kernel
theorem dX5_told_107 : decode cX5_told 107 = .ok (.goto 8, 3) := by decide +kernel
theorem dX5_told_110 : decode cX5_told 110 = .ok (.aload_n 0, 1) := by decide +kernel
theorem dX5_told_111 : decode cX5_told 111 = .ok (.iload_n 2, 1) := by decide +kernel
theorem dX5_told_112 : decode cX5_told 112 = .ok (.invokevirtual 151, 3) := by decide +kernel
theorem dX5_told_115 : decode cX5_told 115 = .ok (.ireturn, 1) := by decide +kernel
set_option maxRecDepth 20000 in
theorem ggX5_list_X5_isKnowing : GoodIn wsX5_list wsX5_isKnowing := goodIn_r _ [9, 10, 11, 12, 8, 13, 64, 65, 66, 67, 68, 69, 70, 71, 72, 73, 74, 75, 76, 77, 78, 79, 80, 81, 82, 83, 84] (by decide +kernel) (by decide +kernel)
set_option maxRecDepth 20000 in
theorem gX5_list_X5_isKnowing : GoodIn wsX5_list (wsV RX5 136 RX5 yX5_isKnowing wsX5_isKnowing) := goodIn_app (goodIn_of _ (by decide +kernel)) ggX5_list_X5_isKnowing
set_option maxRecDepth 20000 in
theorem ggX5_list_X5_works : GoodIn wsX5_list wsX5_works := goodIn_r _ [17, 1, 2, 18, 3, 19, 4, 20, 21, 22, 8, 23, 24, 25, 26, 27, 28, 29, 30, 31, 32, 33, 34, 35, 36, 37, 38, 39, 40, 41, 42, 43, 44, 45, 46, 47, 48, 49, 50, 51, 52, 53, 54, 55, 64, 65, 66, 67, 68, 69, 70, 71, 72, 73, 74, 75, 76, 77, 78, 79, 80, 81, 82, 83, 84] (by decide +kernel) (by decide +kernel)
set_option maxRecDepth 20000 in
theorem gX5_list_X5_works : GoodIn wsX5_list (wsV RX5 148 RX5 yX5_works wsX5_works) := goodIn_app (goodIn_of _ (by decide +kernel)) ggX5_list_X5_works
set_option maxRecDepth 20000 in
theorem ggX5_list_X5_place : GoodIn wsX5_list wsX5_place := goodIn_r _ [59, 1, 60, 61, 62, 8, 63, 2, 3, 4, 64, 65, 66, 67, 68, 69, 70, 71, 72, 73, 74, 75, 76, 77, 78, 79, 80, 81, 82, 83, 84] (by decide +kernel) (by decide +kernel)
set_option maxRecDepth 20000 in
theorem gX5_list_X5_place : GoodIn wsX5_list (wsV RX5 151 RX5 yX5_place wsX5_place) := goodIn_app (goodIn_of _ (by decide +kernel)) ggX5_list_X5_place
theorem dX5_list_0 : decode cX5_list 0 = .ok (.aload_n 0, 1) := by decide +kernel
theorem dX5_list_1 : decode cX5_list 1 = .ok (.iload_n 1, 1) := by decide +kernel
theorem dX5_list_2 : decode cX5_list 2 = .ok (.invokevirtual 136, 3) := by decide +kernel
theorem dX5_list_5 : decode cX5_list 5 = .ok (.ifCond .ne 7, 3) := by decide +kernel
theorem dX5_list_8 : decode cX5_list 8 = .ok (.sipush (-10000), 3) := by decide +kernel
theorem dX5_list_11 : decode cX5_list 11 = .ok (.ireturn, 1) := by decide +kernel
theorem dX5_list_12 : decode cX5_list 12 = .ok (.aload_n 0, 1) := by decide +kernel
theorem dX5_list_13 : decode cX5_list 13 = .ok (.iload_n 1, 1) := by decide +kernel
theorem dX5_list_14 : decode cX5_list 14 = .ok (.invokevirtual 148, 3) := by decide +kernel
theorem dX5_list_17 : decode cX5_list 17 = .ok (.iconst 0, 1) := by decide +kernel
theorem dX5_list_18 : decode cX5_list 18 = .ok (.istore_n 3, 1) := by decide +kernel
theorem dX5_list_19 : decode cX5_list 19 = .ok (.iload_n 3, 1) := by decide +kernel
theorem dX5_list_20 : decode cX5_list 20 = .ok (.aload_n 0, 1) := by decide +kernel
theorem dX5_list_21 : decode cX5_list 21 = .ok (.getfield 94, 3) := by decide +kernel
theorem dX5_list_24 : decode cX5_list 24 = .ok (.if_icmp .ge 105, 3) := by decide +kernel
theorem dX5_list_27 : decode cX5_list 27 = .ok (.aload_n 0, 1) := by decide +kernel
theorem dX5_list_28 : decode cX5_list 28 = .ok (.getfield 48, 3) := by decide +kernel
theorem dX5_list_31 : decode cX5_list 31 = .ok (.iload_n 3, 1) := by decide +kernel
theorem dX5_list_32 : decode cX5_list 32 = .ok (.baload, 1) := by decide +kernel
theorem dX5_list_33 : decode cX5_list 33 = .ok (.ifCond .ne 6, 3) := by decide +kernel
theorem dX5_list_36 : decode cX5_list 36 = .ok (.goto 87, 3) := by decide +kernel
theorem dX5_list_39 : decode cX5_list 39 = .ok (.aload_n 0, 1) := by decide +kernel
theorem dX5_list_40 : decode cX5_list 40 = .ok (.iload_n 3, 1) := by decide +kernel
theorem dX5_list_41 : decode cX5_list 41 = .ok (.invokevirtual 151, 3) := by decide +kernel
theorem dX5_list_44 : decode cX5_list 44 = .ok (.iconst 1, 1) := by decide +kernel
theorem dX5_list_45 : decode cX5_list 45 = .ok (.isub, 1) := by decide +kernel
theorem dX5_list_46 : decode cX5_list 46 = .ok (.istore 4, 2) := by decide +kernel
theorem dX5_list_48 : decode cX5_list 48 = .ok (.iconst 0, 1) := by decide +kernel
theorem dX5_list_49 : decode cX5_list 49 = .ok (.istore 5, 2) := by decide +kernel
theorem dX5_list_51 : decode cX5_list 51 = .ok (.iload 5, 2) := by decide +kernel
theorem dX5_list_53 : decode cX5_list 53 = .ok (.iload_n 3, 1) := by decide +kernel
theorem dX5_list_54 : decode cX5_list 54 = .ok (.if_icmp .ge 61, 3) := by decide +kernel
theorem dX5_list_57 : decode cX5_list 57 = .ok (.iload 4, 2) := by decide +kernel
theorem dX5_list_59 : decode cX5_list 59 = .ok (.aload_n 0, 1) := by decide +kernel
theorem dX5_list_60 : decode cX5_list 60 = .ok (.getfield 48, 3) := by decide +kernel
theorem dX5_list_63 : decode cX5_list 63 = .ok (.iload 5, 2) := by decide +kernel
theorem dX5_list_65 : decode cX5_list 65 = .ok (.baload, 1) := by decide +kernel
theorem dX5_list_66 : decode cX5_list 66 = .ok (.ifCond .eq 39, 3) := by decide +kernel
theorem dX5_list_69 : decode cX5_list 69 = .ok (.aload_n 0, 1) := by decide +kernel
theorem dX5_list_70 : decode cX5_list 70 = .ok (.getfield 52, 3) := by decide +kernel
theorem dX5_list_73 : decode cX5_list 73 = .ok (.iload 5, 2) := by decide +kernel
theorem dX5_list_75 : decode cX5_list 75 = .ok (.baload, 1) := by decide +kernel
theorem dX5_list_76 : decode cX5_list 76 = .ok (.aload_n 0, 1) := by decide +kernel
theorem dX5_list_77 : decode cX5_list 77 = .ok (.getfield 52, 3) := by decide +kernel
theorem dX5_list_80 : decode cX5_list 80 = .ok (.iload_n 3, 1) := by decide +kernel
theorem dX5_list_81 : decode cX5_list 81 = .ok (.baload, 1) := by decide +kernel
theorem dX5_list_82 : decode cX5_list 82 = .ok (.if_icmp .ne 23, 3) := by decide +kernel
theorem dX5_list_85 : decode cX5_list 85 = .ok (.aload_n 0, 1) := by decide +kernel
theorem dX5_list_86 : decode cX5_list 86 = .ok (.getfield 58, 3) := by decide +kernel
theorem dX5_list_89 : decode cX5_list 89 = .ok (.iload 5, 2) := by decide +kernel
theorem dX5_list_91 : decode cX5_list 91 = .ok (.iaload, 1) := by decide +kernel
theorem dX5_list_92 : decode cX5_list 92 = .ok (.aload_n 0, 1) := by decide +kernel
theorem dX5_list_93 : decode cX5_list 93 = .ok (.getfield 58, 3) := by decide +kernel
theorem dX5_list_96 : decode cX5_list 96 = .ok (.iload_n 3, 1) := by decide +kernel
theorem dX5_list_97 : decode cX5_list 97 = .ok (.iaload, 1) := by decide +kernel
theorem dX5_list_98 : decode cX5_list 98 = .ok (.if_icmp .ne 7, 3) := by decide +kernel
theorem dX5_list_101 : decode cX5_list 101 = .ok (.iconst 1, 1) := by decide +kernel
theorem dX5_list_102 : decode cX5_list 102 = .ok (.goto 4, 3) := by decide +kernel
theorem dX5_list_105 : decode cX5_list 105 = .ok (.iconst 0, 1) := by decide +kernel
theorem dX5_list_106 : decode cX5_list 106 = .ok (.iadd, 1) := by decide +kernel
theorem dX5_list_107 : decode cX5_list 107 = .ok (.istore 4, 2) := by decide +kernel
theorem dX5_list_109 : decode cX5_list 109 = .ok (.iinc 5 1, 3) := by decide +kernel
theorem dX5_list_112 : decode cX5_list 112 = .ok (.goto (-61), 3) := by decide +kernel
theorem dX5_list_115 : decode cX5_list 115 = .ok (.iload 4, 2) := by decide +kernel
theorem dX5_list_117 : decode cX5_list 117 = .ok (.iload_n 2, 1) := by decide +kernel
theorem dX5_list_118 : decode cX5_list 118 = .ok (.if_icmp .ne 5, 3) := by decide +kernel
theorem dX5_list_121 : decode cX5_list 121 = .ok (.iload_n 3, 1) := by decide +kernel
theorem dX5_list_122 : decode cX5_list 122 = .ok (.ireturn, 1) := by decide +kernel
theorem dX5_list_123 : decode cX5_list 123 = .ok (.iinc 3 1, 3) := by decide +kernel
theorem dX5_list_126 : decode cX5_list 126 = .ok (.goto (-107), 3) := by decide +kernel
theorem dX5_list_129 : decode cX5_list 129 = .ok (.sipush (-10000), 3) := by decide +kernel
theorem dX5_list_132 : decode cX5_list 132 = .ok (.ireturn, 1) := by decide +kernel
set_option maxRecDepth 20000 in
theorem ggX5_start_X5_isKnowing : GoodIn wsX5_start wsX5_isKnowing := goodIn_r _ [8, 9, 10, 11, 7, 12, 60, 61, 62, 63, 64, 65, 66, 67, 68, 69, 70, 71, 72, 73, 74, 75, 76, 77, 78, 79, 80] (by decide +kernel) (by decide +kernel)
set_option maxRecDepth 20000 in
theorem gX5_start_X5_isKnowing : GoodIn wsX5_start (wsV RX5 136 RX5 yX5_isKnowing wsX5_isKnowing) := goodIn_app (goodIn_of _ (by decide +kernel)) ggX5_start_X5_isKnowing
set_option maxRecDepth 20000 in
theorem ggX5_start_X5_lies : GoodIn wsX5_start wsX5_lies := goodIn_r _ [12] (by decide +kernel) (by decide +kernel)
set_option maxRecDepth 20000 in
theorem gX5_start_X5_lies : GoodIn wsX5_start (va_wsS RX5 75 yX5_lies wsX5_lies) := goodIn_app (goodIn_of _ (by decide +kernel)) ggX5_start_X5_lies
set_option maxRecDepth 20000 in
theorem ggX5_start_X5_isJumper : GoodIn wsX5_start wsX5_isJumper := goodIn_r _ [16, 1, 10, 11, 7, 12, 60, 61, 62, 63, 64, 65, 66, 67, 68, 69, 70, 71, 72, 73, 74, 75, 76, 77, 78, 79, 80] (by decide +kernel) (by decide +kernel)
set_option maxRecDepth 20000 in
theorem gX5_start_X5_isJumper : GoodIn wsX5_start (wsV RX5 97 RX5 yX5_isJumper wsX5_isJumper) := goodIn_app (goodIn_of _ (by decide +kernel)) ggX5_start_X5_isJumper
set_option maxRecDepth 20000 in
theorem ggX5_start_X5_works : GoodIn wsX5_start wsX5_works := goodIn_r _ [20, 1, 21, 3, 2, 22, 23, 24, 25, 26, 7, 27, 28, 29, 30, 31, 32, 33, 34, 35, 36, 37, 38, 39, 40, 41, 42, 43, 44, 45, 46, 47, 48, 49, 50, 51, 52, 53, 54, 55, 56, 57, 58, 59, 60, 61, 62, 63, 64, 65, 66, 67, 68, 69, 70, 71, 72, 73, 74, 75, 76, 77, 78, 79, 80] (by decide +kernel) (by decide +kernel)
set_option maxRecDepth 20000 in
theorem gX5_start_X5_works : GoodIn wsX5_start (wsV RX5 148 RX5 yX5_works wsX5_works) := goodIn_app (goodIn_of _ (by decide +kernel)) ggX5_start_X5_works
theorem dX5_start_0 : decode cX5_start 0 = .ok (.aload_n 0, 1) := by decide +kernel
theorem dX5_start_1 : decode cX5_start 1 = .ok (.iload_n 1, 1) := by decide +kernel
theorem dX5_start_2 : decode cX5_start 2 = .ok (.invokevirtual 136, 3) := by decide +kernel
theorem dX5_start_5 : decode cX5_start 5 = .ok (.ifCond .eq 12, 3) := by decide +kernel
theorem dX5_start_8 : decode cX5_start 8 = .ok (.iload_n 2, 1) := by decide +kernel
theorem dX5_start_9 : decode cX5_start 9 = .ok (.iconst 0, 1) := by decide +kernel
theorem dX5_start_10 : decode cX5_start 10 = .ok (.iconst 1, 1) := by decide +kernel
theorem dX5_start_11 : decode cX5_start 11 = .ok (.invokestatic 75, 3) := by decide +kernel
theorem dX5_start_14 : decode cX5_start 14 = .ok (.ifCond .ne 7, 3) := by decide +kernel
theorem dX5_start_17 : decode cX5_start 17 = .ok (.sipush (-10000), 3) := by decide +kernel
theorem dX5_start_20 : decode cX5_start 20 = .ok (.ireturn, 1) := by decide +kernel
theorem dX5_start_21 : decode cX5_start 21 = .ok (.iload_n 2, 1) := by decide +kernel
theorem dX5_start_22 : decode cX5_start 22 = .ok (.ifCond .ne 19, 3) := by decide +kernel
theorem dX5_start_25 : decode cX5_start 25 = .ok (.aload_n 0, 1) := by decide +kernel
theorem dX5_start_26 : decode cX5_start 26 = .ok (.iload_n 3, 1) := by decide +kernel
theorem dX5_start_27 : decode cX5_start 27 = .ok (.invokevirtual 97, 3) := by decide +kernel
theorem dX5_start_30 : decode cX5_start 30 = .ok (.ifCond .eq 7, 3) := by decide +kernel
theorem dX5_start_33 : decode cX5_start 33 = .ok (.iload_n 3, 1) := by decide +kernel
theorem dX5_start_34 : decode cX5_start 34 = .ok (.goto 6, 3) := by decide +kernel
theorem dX5_start_37 : decode cX5_start 37 = .ok (.sipush (-10000), 3) := by decide +kernel
theorem dX5_start_40 : decode cX5_start 40 = .ok (.ireturn, 1) := by decide +kernel
theorem dX5_start_41 : decode cX5_start 41 = .ok (.aload_n 0, 1) := by decide +kernel
theorem dX5_start_42 : decode cX5_start 42 = .ok (.iload_n 1, 1) := by decide +kernel
theorem dX5_start_43 : decode cX5_start 43 = .ok (.invokevirtual 148, 3) := by decide +kernel
theorem dX5_start_46 : decode cX5_start 46 = .ok (.iconst 0, 1) := by decide +kernel
theorem dX5_start_47 : decode cX5_start 47 = .ok (.istore 4, 2) := by decide +kernel
theorem dX5_start_49 : decode cX5_start 49 = .ok (.iload 4, 2) := by decide +kernel
theorem dX5_start_51 : decode cX5_start 51 = .ok (.aload_n 0, 1) := by decide +kernel
theorem dX5_start_52 : decode cX5_start 52 = .ok (.getfield 94, 3) := by decide +kernel
theorem dX5_start_55 : decode cX5_start 55 = .ok (.if_icmp .ge 113, 3) := by decide +kernel
theorem dX5_start_58 : decode cX5_start 58 = .ok (.aload_n 0, 1) := by decide +kernel
theorem dX5_start_59 : decode cX5_start 59 = .ok (.getfield 52, 3) := by decide +kernel
theorem dX5_start_62 : decode cX5_start 62 = .ok (.iload 4, 2) := by decide +kernel
theorem dX5_start_64 : decode cX5_start 64 = .ok (.baload, 1) := by decide +kernel
theorem dX5_start_65 : decode cX5_start 65 = .ok (.ifCond .ne 6, 3) := by decide +kernel
theorem dX5_start_68 : decode cX5_start 68 = .ok (.goto 94, 3) := by decide +kernel
theorem dX5_start_71 : decode cX5_start 71 = .ok (.iconst 0, 1) := by decide +kernel
theorem dX5_start_72 : decode cX5_start 72 = .ok (.istore 5, 2) := by decide +kernel
theorem dX5_start_74 : decode cX5_start 74 = .ok (.iconst 0, 1) := by decide +kernel
theorem dX5_start_75 : decode cX5_start 75 = .ok (.istore 6, 2) := by decide +kernel
theorem dX5_start_77 : decode cX5_start 77 = .ok (.iload 6, 2) := by decide +kernel
theorem dX5_start_79 : decode cX5_start 79 = .ok (.aload_n 0, 1) := by decide +kernel
theorem dX5_start_80 : decode cX5_start 80 = .ok (.getfield 94, 3) := by decide +kernel
theorem dX5_start_83 : decode cX5_start 83 = .ok (.if_icmp .ge 70, 3) := by decide +kernel
theorem dX5_start_86 : decode cX5_start 86 = .ok (.iload 5, 2) := by decide +kernel
theorem dX5_start_88 : decode cX5_start 88 = .ok (.aload_n 0, 1) := by decide +kernel
theorem dX5_start_89 : decode cX5_start 89 = .ok (.getfield 52, 3) := by decide +kernel
theorem dX5_start_92 : decode cX5_start 92 = .ok (.iload 6, 2) := by decide +kernel
theorem dX5_start_94 : decode cX5_start 94 = .ok (.baload, 1) := by decide +kernel
theorem dX5_start_95 : decode cX5_start 95 = .ok (.ifCond .eq 48, 3) := by decide +kernel
theorem dX5_start_98 : decode cX5_start 98 = .ok (.aload_n 0, 1) := by decide +kernel
theorem dX5_start_99 : decode cX5_start 99 = .ok (.getfield 55, 3) := by decide +kernel
theorem dX5_start_102 : decode cX5_start 102 = .ok (.iload 6, 2) := by decide +kernel
theorem dX5_start_104 : decode cX5_start 104 = .ok (.iaload, 1) := by decide +kernel
theorem dX5_start_105 : decode cX5_start 105 = .ok (.aload_n 0, 1) := by decide +kernel
theorem dX5_start_106 : decode cX5_start 106 = .ok (.getfield 55, 3) := by decide +kernel
theorem dX5_start_109 : decode cX5_start 109 = .ok (.iload 4, 2) := by decide +kernel
theorem dX5_start_111 : decode cX5_start 111 = .ok (.iaload, 1) := by decide +kernel
theorem dX5_start_112 : decode cX5_start 112 = .ok (.if_icmp .lt 27, 3) := by decide +kernel
theorem dX5_start_115 : decode cX5_start 115 = .ok (.aload_n 0, 1) := by decide +kernel
theorem dX5_start_116 : decode cX5_start 116 = .ok (.getfield 55, 3) := by decide +kernel
theorem dX5_start_119 : decode cX5_start 119 = .ok (.iload 6, 2) := by decide +kernel
theorem dX5_start_121 : decode cX5_start 121 = .ok (.iaload, 1) := by decide +kernel
theorem dX5_start_122 : decode cX5_start 122 = .ok (.aload_n 0, 1) := by decide +kernel
theorem dX5_start_123 : decode cX5_start 123 = .ok (.getfield 55, 3) := by decide +kernel
theorem dX5_start_126 : decode cX5_start 126 = .ok (.iload 4, 2) := by decide +kernel
theorem dX5_start_128 : decode cX5_start 128 = .ok (.iaload, 1) := by decide +kernel
theorem dX5_start_129 : decode cX5_start 129 = .ok (.if_icmp .ne 14, 3) := by decide +kernel
theorem dX5_start_132 : decode cX5_start 132 = .ok (.iload 6, 2) := by decide +kernel
theorem dX5_start_134 : decode cX5_start 134 = .ok (.iload 4, 2) := by decide +kernel
theorem dX5_start_136 : decode cX5_start 136 = .ok (.if_icmp .le 7, 3) := by decide +kernel
theorem dX5_start_139 : decode cX5_start 139 = .ok (.iconst 1, 1) := by decide +kernel
theorem dX5_start_140 : decode cX5_start 140 = .ok (.goto 4, 3) := by decide +kernel
theorem dX5_start_143 : decode cX5_start 143 = .ok (.iconst 0, 1) := by decide +kernel
theorem dX5_start_144 : decode cX5_start 144 = .ok (.iadd, 1) := by decide +kernel
theorem dX5_start_145 : decode cX5_start 145 = .ok (.istore 5, 2) := by decide +kernel
theorem dX5_start_147 : decode cX5_start 147 = .ok (.iinc 6 1, 3) := by decide +kernel
theorem dX5_start_150 : decode cX5_start 150 = .ok (.goto (-73), 3) := by decide +kernel
theorem dX5_start_153 : decode cX5_start 153 = .ok (.iload 5, 2) := by decide +kernel
theorem dX5_start_155 : decode cX5_start 155 = .ok (.iload_n 3, 1) := by decide +kernel
theorem dX5_start_156 : decode cX5_start 156 = .ok (.if_icmp .ne 6, 3) := by decide +kernel
theorem dX5_start_159 : decode cX5_start 159 = .ok (.iload 4, 2) := by decide +kernel
theorem dX5_start_161 : decode cX5_start 161 = .ok (.ireturn, 1) := by decide +kernel
theorem dX5_start_162 : decode cX5_start 162 = .ok (.iinc 4 1, 3) := by decide +kernel
theorem dX5_start_165 : decode cX5_start 165 = .ok (.goto (-116), 3) := by decide +kernel
theorem dX5_start_168 : decode cX5_start 168 = .ok (.sipush (-10000), 3) := by decide +kernel
theorem dX5_start_171 : decode cX5_start 171 = .ok (.ireturn, 1) := by decide +kernel
set_option maxRecDepth 20000 in
theorem ggX5_team_X5_isKnowing : GoodIn wsX5_team wsX5_isKnowing := goodIn_r _ [9, 10, 11, 12, 8, 13, 57, 58, 59, 60, 61, 62, 63, 64, 65, 66, 67, 68, 69, 70, 71, 72, 73, 74, 75, 76, 77] (by decide +kernel) (by decide +kernel)
set_option maxRecDepth 20000 in
theorem gX5_team_X5_isKnowing : GoodIn wsX5_team (wsV RX5 136 RX5 yX5_isKnowing wsX5_isKnowing) := goodIn_app (goodIn_of _ (by decide +kernel)) ggX5_team_X5_isKnowing
set_option maxRecDepth 20000 in
theorem ggX5_team_X5_lies : GoodIn wsX5_team wsX5_lies := goodIn_r _ [13] (by decide +kernel) (by decide +kernel)
set_option maxRecDepth 20000 in
theorem gX5_team_X5_lies : GoodIn wsX5_team (va_wsS RX5 75 yX5_lies wsX5_lies) := goodIn_app (goodIn_of _ (by decide +kernel)) ggX5_team_X5_lies
set_option maxRecDepth 20000 in
theorem ggX5_team_X5_works : GoodIn wsX5_team wsX5_works := goodIn_r _ [17, 1, 2, 18, 19, 20, 4, 21, 22, 23, 8, 24, 25, 26, 27, 28, 29, 30, 31, 32, 33, 34, 35, 36, 37, 38, 39, 40, 41, 42, 43, 44, 45, 46, 47, 48, 49, 50, 51, 52, 53, 54, 55, 56, 57, 58, 59, 60, 61, 62, 63, 64, 65, 66, 67, 68, 69, 70, 71, 72, 73, 74, 75, 76, 77] (by decide +kernel) (by decide +kernel)
set_option maxRecDepth 20000 in
theorem gX5_team_X5_works : GoodIn wsX5_team (wsV RX5 148 RX5 yX5_works wsX5_works) := goodIn_app (goodIn_of _ (by decide +kernel)) ggX5_team_X5_works
theorem dX5_team_0 : decode cX5_team 0 = .ok (.aload_n 0, 1) := by decide +kernel
theorem dX5_team_1 : decode cX5_team 1 = .ok (.iload_n 1, 1) := by decide +kernel
theorem dX5_team_2 : decode cX5_team 2 = .ok (.invokevirtual 136, 3) := by decide +kernel
theorem dX5_team_5 : decode cX5_team 5 = .ok (.ifCond .eq 12, 3) := by decide +kernel
theorem dX5_team_8 : decode cX5_team 8 = .ok (.iload_n 2, 1) := by decide +kernel
theorem dX5_team_9 : decode cX5_team 9 = .ok (.iconst 0, 1) := by decide +kernel
theorem dX5_team_10 : decode cX5_team 10 = .ok (.iconst 5, 1) := by decide +kernel
theorem dX5_team_11 : decode cX5_team 11 = .ok (.invokestatic 75, 3) := by decide +kernel
theorem dX5_team_14 : decode cX5_team 14 = .ok (.ifCond .ne 7, 3) := by decide +kernel
theorem dX5_team_17 : decode cX5_team 17 = .ok (.sipush (-10000), 3) := by decide +kernel
theorem dX5_team_20 : decode cX5_team 20 = .ok (.ireturn, 1) := by decide +kernel
theorem dX5_team_21 : decode cX5_team 21 = .ok (.aload_n 0, 1) := by decide +kernel
theorem dX5_team_22 : decode cX5_team 22 = .ok (.iload_n 1, 1) := by decide +kernel
theorem dX5_team_23 : decode cX5_team 23 = .ok (.invokevirtual 148, 3) := by decide +kernel
theorem dX5_team_26 : decode cX5_team 26 = .ok (.iconst 0, 1) := by decide +kernel
theorem dX5_team_27 : decode cX5_team 27 = .ok (.istore_n 3, 1) := by decide +kernel
theorem dX5_team_28 : decode cX5_team 28 = .ok (.iconst 0, 1) := by decide +kernel
theorem dX5_team_29 : decode cX5_team 29 = .ok (.istore 4, 2) := by decide +kernel
theorem dX5_team_31 : decode cX5_team 31 = .ok (.iconst 0, 1) := by decide +kernel
theorem dX5_team_32 : decode cX5_team 32 = .ok (.istore 5, 2) := by decide +kernel
theorem dX5_team_34 : decode cX5_team 34 = .ok (.iload 5, 2) := by decide +kernel
theorem dX5_team_36 : decode cX5_team 36 = .ok (.aload_n 0, 1) := by decide +kernel
theorem dX5_team_37 : decode cX5_team 37 = .ok (.getfield 94, 3) := by decide +kernel
theorem dX5_team_40 : decode cX5_team 40 = .ok (.if_icmp .ge 151, 3) := by decide +kernel
theorem dX5_team_43 : decode cX5_team 43 = .ok (.aload_n 0, 1) := by decide +kernel
theorem dX5_team_44 : decode cX5_team 44 = .ok (.getfield 48, 3) := by decide +kernel
theorem dX5_team_47 : decode cX5_team 47 = .ok (.iload 5, 2) := by decide +kernel
theorem dX5_team_49 : decode cX5_team 49 = .ok (.baload, 1) := by decide +kernel
theorem dX5_team_50 : decode cX5_team 50 = .ok (.ifCond .eq 135, 3) := by decide +kernel
theorem dX5_team_53 : decode cX5_team 53 = .ok (.aload_n 0, 1) := by decide +kernel
theorem dX5_team_54 : decode cX5_team 54 = .ok (.getfield 24, 3) := by decide +kernel
theorem dX5_team_57 : decode cX5_team 57 = .ok (.iload 5, 2) := by decide +kernel
theorem dX5_team_59 : decode cX5_team 59 = .ok (.iaload, 1) := by decide +kernel
theorem dX5_team_60 : decode cX5_team 60 = .ok (.iload_n 2, 1) := by decide +kernel
theorem dX5_team_61 : decode cX5_team 61 = .ok (.if_icmp .eq 6, 3) := by decide +kernel
theorem dX5_team_64 : decode cX5_team 64 = .ok (.goto 121, 3) := by decide +kernel
theorem dX5_team_67 : decode cX5_team 67 = .ok (.iinc 3 1, 3) := by decide +kernel
theorem dX5_team_70 : decode cX5_team 70 = .ok (.iconst 0, 1) := by decide +kernel
theorem dX5_team_71 : decode cX5_team 71 = .ok (.istore 6, 2) := by decide +kernel
theorem dX5_team_73 : decode cX5_team 73 = .ok (.iconst 0, 1) := by decide +kernel
theorem dX5_team_74 : decode cX5_team 74 = .ok (.istore 7, 2) := by decide +kernel
theorem dX5_team_76 : decode cX5_team 76 = .ok (.iload 7, 2) := by decide +kernel
theorem dX5_team_78 : decode cX5_team 78 = .ok (.aload_n 0, 1) := by decide +kernel
theorem dX5_team_79 : decode cX5_team 79 = .ok (.getfield 94, 3) := by decide +kernel
theorem dX5_team_82 : decode cX5_team 82 = .ok (.if_icmp .ge 81, 3) := by decide +kernel
theorem dX5_team_85 : decode cX5_team 85 = .ok (.iload 6, 2) := by decide +kernel
theorem dX5_team_87 : decode cX5_team 87 = .ok (.aload_n 0, 1) := by decide +kernel
theorem dX5_team_88 : decode cX5_team 88 = .ok (.getfield 48, 3) := by decide +kernel
theorem dX5_team_91 : decode cX5_team 91 = .ok (.iload 7, 2) := by decide +kernel
theorem dX5_team_93 : decode cX5_team 93 = .ok (.baload, 1) := by decide +kernel
theorem dX5_team_94 : decode cX5_team 94 = .ok (.ifCond .eq 59, 3) := by decide +kernel
theorem dX5_team_97 : decode cX5_team 97 = .ok (.aload_n 0, 1) := by decide +kernel
theorem dX5_team_98 : decode cX5_team 98 = .ok (.getfield 24, 3) := by decide +kernel
theorem dX5_team_101 : decode cX5_team 101 = .ok (.iload 7, 2) := by decide +kernel
theorem dX5_team_103 : decode cX5_team 103 = .ok (.iaload, 1) := by decide +kernel
theorem dX5_team_104 : decode cX5_team 104 = .ok (.iload_n 2, 1) := by decide +kernel
theorem dX5_team_105 : decode cX5_team 105 = .ok (.if_icmp .ne 48, 3) := by decide +kernel
theorem dX5_team_108 : decode cX5_team 108 = .ok (.aload_n 0, 1) := by decide +kernel
theorem dX5_team_109 : decode cX5_team 109 = .ok (.getfield 58, 3) := by decide +kernel
theorem dX5_team_112 : decode cX5_team 112 = .ok (.iload 7, 2) := by decide +kernel
theorem dX5_team_114 : decode cX5_team 114 = .ok (.iaload, 1) := by decide +kernel
theorem dX5_team_115 : decode cX5_team 115 = .ok (.aload_n 0, 1) := by decide +kernel
theorem dX5_team_116 : decode cX5_team 116 = .ok (.getfield 58, 3) := by decide +kernel
theorem dX5_team_119 : decode cX5_team 119 = .ok (.iload 5, 2) := by decide +kernel
theorem dX5_team_121 : decode cX5_team 121 = .ok (.iaload, 1) := by decide +kernel
theorem dX5_team_122 : decode cX5_team 122 = .ok (.if_icmp .gt 27, 3) := by decide +kernel
theorem dX5_team_125 : decode cX5_team 125 = .ok (.aload_n 0, 1) := by decide +kernel
theorem dX5_team_126 : decode cX5_team 126 = .ok (.getfield 58, 3) := by decide +kernel
theorem dX5_team_129 : decode cX5_team 129 = .ok (.iload 7, 2) := by decide +kernel
theorem dX5_team_131 : decode cX5_team 131 = .ok (.iaload, 1) := by decide +kernel
theorem dX5_team_132 : decode cX5_team 132 = .ok (.aload_n 0, 1) := by decide +kernel
theorem dX5_team_133 : decode cX5_team 133 = .ok (.getfield 58, 3) := by decide +kernel
theorem dX5_team_136 : decode cX5_team 136 = .ok (.iload 5, 2) := by decide +kernel
theorem dX5_team_138 : decode cX5_team 138 = .ok (.iaload, 1) := by decide +kernel
theorem dX5_team_139 : decode cX5_team 139 = .ok (.if_icmp .ne 14, 3) := by decide +kernel
theorem dX5_team_142 : decode cX5_team 142 = .ok (.iload 7, 2) := by decide +kernel
theorem dX5_team_144 : decode cX5_team 144 = .ok (.iload 5, 2) := by decide +kernel
theorem dX5_team_146 : decode cX5_team 146 = .ok (.if_icmp .ge 7, 3) := by decide +kernel
theorem dX5_team_149 : decode cX5_team 149 = .ok (.iconst 1, 1) := by decide +kernel
theorem dX5_team_150 : decode cX5_team 150 = .ok (.goto 4, 3) := by decide +kernel
theorem dX5_team_153 : decode cX5_team 153 = .ok (.iconst 0, 1) := by decide +kernel
theorem dX5_team_154 : decode cX5_team 154 = .ok (.iadd, 1) := by decide +kernel
theorem dX5_team_155 : decode cX5_team 155 = .ok (.istore 6, 2) := by decide +kernel
theorem dX5_team_157 : decode cX5_team 157 = .ok (.iinc 7 1, 3) := by decide +kernel
theorem dX5_team_160 : decode cX5_team 160 = .ok (.goto (-84), 3) := by decide +kernel
theorem dX5_team_163 : decode cX5_team 163 = .ok (.iload 4, 2) := by decide +kernel
theorem dX5_team_165 : decode cX5_team 165 = .ok (.iload 6, 2) := by decide +kernel
theorem dX5_team_167 : decode cX5_team 167 = .ok (.iconst 4, 1) := by decide +kernel
theorem dX5_team_168 : decode cX5_team 168 = .ok (.if_icmp .ge 13, 3) := by decide +kernel
theorem dX5_team_171 : decode cX5_team 171 = .ok (.aload_n 0, 1) := by decide +kernel
theorem dX5_team_172 : decode cX5_team 172 = .ok (.getfield 58, 3) := by decide +kernel
theorem dX5_team_175 : decode cX5_team 175 = .ok (.iload 5, 2) := by decide +kernel
theorem dX5_team_177 : decode cX5_team 177 = .ok (.iaload, 1) := by decide +kernel
theorem dX5_team_178 : decode cX5_team 178 = .ok (.goto 4, 3) := by decide +kernel
theorem dX5_team_181 : decode cX5_team 181 = .ok (.iconst 0, 1) := by decide +kernel
theorem dX5_team_182 : decode cX5_team 182 = .ok (.iadd, 1) := by decide +kernel
theorem dX5_team_183 : decode cX5_team 183 = .ok (.istore 4, 2) := by decide +kernel
theorem dX5_team_185 : decode cX5_team 185 = .ok (.iinc 5 1, 3) := by decide +kernel
theorem dX5_team_188 : decode cX5_team 188 = .ok (.goto (-154), 3) := by decide +kernel
theorem dX5_team_191 : decode cX5_team 191 = .ok (.iload_n 3, 1) := by decide +kernel
theorem dX5_team_192 : decode cX5_team 192 = .ok (.ifCond .ne 9, 3) := by decide +kernel
theorem dX5_team_195 : decode cX5_team 195 = .ok (.sipush (-10000), 3) := by decide +kernel
theorem dX5_team_198 : decode cX5_team 198 = .ok (.goto 5, 3) := by decide +kernel
theorem dX5_team_201 : decode cX5_team 201 = .ok (.iload 4, 2) := by decide +kernel
theorem dX5_team_203 : decode cX5_team 203 = .ok (.ireturn, 1) := by decide +kernel
set_option maxRecDepth 20000 in
theorem ggX5_isClean_X5_lastOf : GoodIn wsX5_isClean wsX5_lastOf := goodIn_r _ [7, 8, 9, 10, 11, 12, 13, 14, 15, 16, 17, 18, 19, 20, 21, 22, 23, 24, 25, 26, 27, 28, 29, 30] (by decide +kernel) (by decide +kernel)
set_option maxRecDepth 20000 in
theorem gX5_isClean_X5_lastOf : GoodIn wsX5_isClean (wsV RX5 120 RX5 yX5_lastOf wsX5_lastOf) := goodIn_app (goodIn_of _ (by decide +kernel)) ggX5_isClean_X5_lastOf
theorem dX5_isClean_0 : decode cX5_isClean 0 = .ok (.aload_n 0, 1) := by decide +kernel
theorem dX5_isClean_1 : decode cX5_isClean 1 = .ok (.aload_n 0, 1) := by decide +kernel
theorem dX5_isClean_2 : decode cX5_isClean 2 = .ok (.getfield 101, 3) := by decide +kernel
theorem dX5_isClean_5 : decode cX5_isClean 5 = .ok (.iconst 2, 1) := by decide +kernel
theorem dX5_isClean_6 : decode cX5_isClean 6 = .ok (.iload_n 1, 1) := by decide +kernel
theorem dX5_isClean_7 : decode cX5_isClean 7 = .ok (.invokevirtual 120, 3) := by decide +kernel
theorem dX5_isClean_10 : decode cX5_isClean 10 = .ok (.istore_n 2, 1) := by decide +kernel
theorem dX5_isClean_11 : decode cX5_isClean 11 = .ok (.iload_n 2, 1) := by decide +kernel
theorem dX5_isClean_12 : decode cX5_isClean 12 = .ok (.ifCond .ge 5, 3) := by decide +kernel
theorem dX5_isClean_15 : decode cX5_isClean 15 = .ok (.iconst 0, 1) := by decide +kernel
theorem dX5_isClean_16 : decode cX5_isClean 16 = .ok (.ireturn, 1) := by decide +kernel
theorem dX5_isClean_17 : decode cX5_isClean 17 = .ok (.iconst 0, 1) := by decide +kernel
theorem dX5_isClean_18 : decode cX5_isClean 18 = .ok (.istore_n 3, 1) := by decide +kernel
theorem dX5_isClean_19 : decode cX5_isClean 19 = .ok (.iload_n 3, 1) := by decide +kernel
theorem dX5_isClean_20 : decode cX5_isClean 20 = .ok (.iconst 5, 1) := by decide +kernel
theorem dX5_isClean_21 : decode cX5_isClean 21 = .ok (.if_icmp .ge 26, 3) := by decide +kernel
theorem dX5_isClean_24 : decode cX5_isClean 24 = .ok (.aload_n 0, 1) := by decide +kernel
theorem dX5_isClean_25 : decode cX5_isClean 25 = .ok (.getfield 39, 3) := by decide +kernel
theorem dX5_isClean_28 : decode cX5_isClean 28 = .ok (.iconst 5, 1) := by decide +kernel
theorem dX5_isClean_29 : decode cX5_isClean 29 = .ok (.iload_n 2, 1) := by decide +kernel
theorem dX5_isClean_30 : decode cX5_isClean 30 = .ok (.imul, 1) := by decide +kernel
theorem dX5_isClean_31 : decode cX5_isClean 31 = .ok (.iload_n 3, 1) := by decide +kernel
theorem dX5_isClean_32 : decode cX5_isClean 32 = .ok (.iadd, 1) := by decide +kernel
theorem dX5_isClean_33 : decode cX5_isClean 33 = .ok (.iaload, 1) := by decide +kernel
theorem dX5_isClean_34 : decode cX5_isClean 34 = .ok (.bipush 20, 2) := by decide +kernel
theorem dX5_isClean_36 : decode cX5_isClean 36 = .ok (.if_icmp .ge 5, 3) := by decide +kernel
theorem dX5_isClean_39 : decode cX5_isClean 39 = .ok (.iconst 0, 1) := by decide +kernel
theorem dX5_isClean_40 : decode cX5_isClean 40 = .ok (.ireturn, 1) := by decide +kernel
theorem dX5_isClean_41 : decode cX5_isClean 41 = .ok (.iinc 3 1, 3) := by decide +kernel
theorem dX5_isClean_44 : decode cX5_isClean 44 = .ok (.goto (-25), 3) := by decide +kernel
theorem dX5_isClean_47 : decode cX5_isClean 47 = .ok (.iconst 1, 1) := by decide +kernel
theorem dX5_isClean_48 : decode cX5_isClean 48 = .ok (.ireturn, 1) := by decide +kernel
set_option maxRecDepth 20000 in
theorem ggX5_longest_X5_lastOf : GoodIn wsX5_longest wsX5_lastOf := goodIn_r _ [9, 3, 2, 22, 23, 24, 25, 26, 27, 28, 29, 30, 31, 32, 33, 34, 35, 36, 37, 38, 39, 40, 41, 42] (by decide +kernel) (by decide +kernel)
set_option maxRecDepth 20000 in
theorem gX5_longest_X5_lastOf : GoodIn wsX5_longest (wsV RX5 120 RX5 yX5_lastOf wsX5_lastOf) := goodIn_app (goodIn_of _ (by decide +kernel)) ggX5_longest_X5_lastOf
set_option maxRecDepth 20000 in
theorem ggX5_longest_X5_has : GoodIn wsX5_longest wsX5_has := goodIn_r _ [13, 5, 6, 7, 8, 9, 3, 2, 14, 15, 16, 17, 4, 22, 23, 24, 25, 26, 27, 28, 29, 30, 31, 32, 33, 34, 35, 36, 37, 38, 39, 40, 41, 42] (by decide +kernel) (by decide +kernel)
set_option maxRecDepth 20000 in
theorem gX5_longest_X5_has : GoodIn wsX5_longest (wsV RX5 139 RX5 yX5_has wsX5_has) := goodIn_app (goodIn_of _ (by decide +kernel)) ggX5_longest_X5_has
set_option maxRecDepth 20000 in
theorem ggX5_longest_X5_isClean : GoodIn wsX5_longest wsX5_isClean := goodIn_r _ [21, 1, 4, 5, 6, 7, 8, 9, 3, 2, 22, 23, 24, 25, 26, 27, 28, 29, 30, 31, 32, 33, 34, 35, 36, 37, 38, 39, 40, 41, 42] (by decide +kernel) (by decide +kernel)
set_option maxRecDepth 20000 in
theorem gX5_longest_X5_isClean : GoodIn wsX5_longest (wsV RX5 154 RX5 yX5_isClean wsX5_isClean) := goodIn_app (goodIn_of _ (by decide +kernel)) ggX5_longest_X5_isClean
theorem dX5_longest_0 : decode cX5_longest 0 = .ok (.sipush (-10000), 3) := by decide +kernel
theorem dX5_longest_3 : decode cX5_longest 3 = .ok (.istore_n 1, 1) := by decide +kernel
theorem dX5_longest_4 : decode cX5_longest 4 = .ok (.iconst 0, 1) := by decide +kernel
theorem dX5_longest_5 : decode cX5_longest 5 = .ok (.istore_n 2, 1) := by decide +kernel
theorem dX5_longest_6 : decode cX5_longest 6 = .ok (.iload_n 2, 1) := by decide +kernel
theorem dX5_longest_7 : decode cX5_longest 7 = .ok (.aload_n 0, 1) := by decide +kernel
theorem dX5_longest_8 : decode cX5_longest 8 = .ok (.getfield 101, 3) := by decide +kernel
theorem dX5_longest_11 : decode cX5_longest 11 = .ok (.if_icmp .ge 87, 3) := by decide +kernel
theorem dX5_longest_14 : decode cX5_longest 14 = .ok (.aload_n 0, 1) := by decide +kernel
theorem dX5_longest_15 : decode cX5_longest 15 = .ok (.getfield 36, 3) := by decide +kernel
theorem dX5_longest_18 : decode cX5_longest 18 = .ok (.iload_n 2, 1) := by decide +kernel
theorem dX5_longest_19 : decode cX5_longest 19 = .ok (.iaload, 1) := by decide +kernel
theorem dX5_longest_20 : decode cX5_longest 20 = .ok (.istore_n 3, 1) := by decide +kernel
theorem dX5_longest_21 : decode cX5_longest 21 = .ok (.aload_n 0, 1) := by decide +kernel
theorem dX5_longest_22 : decode cX5_longest 22 = .ok (.getfield 33, 3) := by decide +kernel
theorem dX5_longest_25 : decode cX5_longest 25 = .ok (.iload_n 2, 1) := by decide +kernel
theorem dX5_longest_26 : decode cX5_longest 26 = .ok (.iaload, 1) := by decide +kernel
theorem dX5_longest_27 : decode cX5_longest 27 = .ok (.ifCond .ne 65, 3) := by decide +kernel
theorem dX5_longest_30 : decode cX5_longest 30 = .ok (.aload_n 0, 1) := by decide +kernel
theorem dX5_longest_31 : decode cX5_longest 31 = .ok (.aload_n 0, 1) := by decide +kernel
theorem dX5_longest_32 : decode cX5_longest 32 = .ok (.getfield 101, 3) := by decide +kernel
theorem dX5_longest_35 : decode cX5_longest 35 = .ok (.iconst 0, 1) := by decide +kernel
theorem dX5_longest_36 : decode cX5_longest 36 = .ok (.iload_n 3, 1) := by decide +kernel
theorem dX5_longest_37 : decode cX5_longest 37 = .ok (.invokevirtual 120, 3) := by decide +kernel
theorem dX5_longest_40 : decode cX5_longest 40 = .ok (.iload_n 2, 1) := by decide +kernel
theorem dX5_longest_41 : decode cX5_longest 41 = .ok (.if_icmp .ne 51, 3) := by decide +kernel
theorem dX5_longest_44 : decode cX5_longest 44 = .ok (.aload_n 0, 1) := by decide +kernel
theorem dX5_longest_45 : decode cX5_longest 45 = .ok (.aload_n 0, 1) := by decide +kernel
theorem dX5_longest_46 : decode cX5_longest 46 = .ok (.getfield 101, 3) := by decide +kernel
theorem dX5_longest_49 : decode cX5_longest 49 = .ok (.iload_n 3, 1) := by decide +kernel
theorem dX5_longest_50 : decode cX5_longest 50 = .ok (.invokevirtual 139, 3) := by decide +kernel
theorem dX5_longest_53 : decode cX5_longest 53 = .ok (.ifCond .eq 39, 3) := by decide +kernel
theorem dX5_longest_56 : decode cX5_longest 56 = .ok (.aload_n 0, 1) := by decide +kernel
theorem dX5_longest_57 : decode cX5_longest 57 = .ok (.iload_n 3, 1) := by decide +kernel
theorem dX5_longest_58 : decode cX5_longest 58 = .ok (.invokevirtual 154, 3) := by decide +kernel
theorem dX5_longest_61 : decode cX5_longest 61 = .ok (.ifCond .ne 6, 3) := by decide +kernel
theorem dX5_longest_64 : decode cX5_longest 64 = .ok (.goto 28, 3) := by decide +kernel
theorem dX5_longest_67 : decode cX5_longest 67 = .ok (.iload_n 1, 1) := by decide +kernel
theorem dX5_longest_68 : decode cX5_longest 68 = .ok (.ifCond .lt 22, 3) := by decide +kernel
theorem dX5_longest_71 : decode cX5_longest 71 = .ok (.aload_n 0, 1) := by decide +kernel
theorem dX5_longest_72 : decode cX5_longest 72 = .ok (.getfield 39, 3) := by decide +kernel
theorem dX5_longest_75 : decode cX5_longest 75 = .ok (.iconst 5, 1) := by decide +kernel
theorem dX5_longest_76 : decode cX5_longest 76 = .ok (.iload_n 2, 1) := by decide +kernel
theorem dX5_longest_77 : decode cX5_longest 77 = .ok (.imul, 1) := by decide +kernel
theorem dX5_longest_78 : decode cX5_longest 78 = .ok (.iaload, 1) := by decide +kernel
theorem dX5_longest_79 : decode cX5_longest 79 = .ok (.aload_n 0, 1) := by decide +kernel
theorem dX5_longest_80 : decode cX5_longest 80 = .ok (.getfield 39, 3) := by decide +kernel
theorem dX5_longest_83 : decode cX5_longest 83 = .ok (.iconst 5, 1) := by decide +kernel
theorem dX5_longest_84 : decode cX5_longest 84 = .ok (.iload_n 1, 1) := by decide +kernel
theorem dX5_longest_85 : decode cX5_longest 85 = .ok (.imul, 1) := by decide +kernel
theorem dX5_longest_86 : decode cX5_longest 86 = .ok (.iaload, 1) := by decide +kernel
theorem dX5_longest_87 : decode cX5_longest 87 = .ok (.if_icmp .le 5, 3) := by decide +kernel
theorem dX5_longest_90 : decode cX5_longest 90 = .ok (.iload_n 2, 1) := by decide +kernel
theorem dX5_longest_91 : decode cX5_longest 91 = .ok (.istore_n 1, 1) := by decide +kernel
theorem dX5_longest_92 : decode cX5_longest 92 = .ok (.iinc 2 1, 3) := by decide +kernel
theorem dX5_longest_95 : decode cX5_longest 95 = .ok (.goto (-89), 3) := by decide +kernel
theorem dX5_longest_98 : decode cX5_longest 98 = .ok (.iload_n 1, 1) := by decide +kernel
theorem dX5_longest_99 : decode cX5_longest 99 = .ok (.ireturn, 1) := by decide +kernel
theorem dX5_isGreater_0 : decode cX5_isGreater 0 = .ok (.iload_n 1, 1) := by decide +kernel
theorem dX5_isGreater_1 : decode cX5_isGreater 1 = .ok (.ifCond .lt 32, 3) := by decide +kernel
theorem dX5_isGreater_4 : decode cX5_isGreater 4 = .ok (.aload_n 0, 1) := by decide +kernel
theorem dX5_isGreater_5 : decode cX5_isGreater 5 = .ok (.getfield 42, 3) := by decide +kernel
theorem dX5_isGreater_8 : decode cX5_isGreater 8 = .ok (.sipush (-10000), 3) := by decide +kernel
theorem dX5_isGreater_11 : decode cX5_isGreater 11 = .ok (.if_icmp .eq 18, 3) := by decide +kernel
theorem dX5_isGreater_14 : decode cX5_isGreater 14 = .ok (.aload_n 0, 1) := by decide +kernel
theorem dX5_isGreater_15 : decode cX5_isGreater 15 = .ok (.getfield 39, 3) := by decide +kernel
theorem dX5_isGreater_18 : decode cX5_isGreater 18 = .ok (.iconst 5, 1) := by decide +kernel
theorem dX5_isGreater_19 : decode cX5_isGreater 19 = .ok (.iload_n 1, 1) := by decide +kernel
theorem dX5_isGreater_20 : decode cX5_isGreater 20 = .ok (.imul, 1) := by decide +kernel
theorem dX5_isGreater_21 : decode cX5_isGreater 21 = .ok (.iaload, 1) := by decide +kernel
theorem dX5_isGreater_22 : decode cX5_isGreater 22 = .ok (.aload_n 0, 1) := by decide +kernel
theorem dX5_isGreater_23 : decode cX5_isGreater 23 = .ok (.getfield 42, 3) := by decide +kernel
theorem dX5_isGreater_26 : decode cX5_isGreater 26 = .ok (.if_icmp .le 7, 3) := by decide +kernel
theorem dX5_isGreater_29 : decode cX5_isGreater 29 = .ok (.iconst 1, 1) := by decide +kernel
theorem dX5_isGreater_30 : decode cX5_isGreater 30 = .ok (.goto 4, 3) := by decide +kernel
theorem dX5_isGreater_33 : decode cX5_isGreater 33 = .ok (.iconst 0, 1) := by decide +kernel
theorem dX5_isGreater_34 : decode cX5_isGreater 34 = .ok (.ireturn, 1) := by decide +kernel
set_option maxRecDepth 20000 in
theorem ggX5_record_X5_lies : GoodIn wsX5_record wsX5_lies := goodIn_r _ [8] (by decide +kernel) (by decide +kernel)
set_option maxRecDepth 20000 in
theorem gX5_record_X5_lies : GoodIn wsX5_record (va_wsS RX5 75 yX5_lies wsX5_lies) := goodIn_app (goodIn_of _ (by decide +kernel)) ggX5_record_X5_lies
set_option maxRecDepth 20000 in
theorem ggX5_record_X5_longest : GoodIn wsX5_record wsX5_longest := goodIn_r _ [12, 13, 4, 14, 3, 15, 16, 17, 7, 18, 19, 20, 21, 22, 23, 24, 25, 26, 27, 28, 29, 30, 35, 36, 37, 38, 39, 40, 41, 42, 43, 44, 45, 46, 47, 48, 49, 50, 51, 52, 53, 54, 55] (by decide +kernel) (by decide +kernel)
set_option maxRecDepth 20000 in
theorem gX5_record_X5_longest : GoodIn wsX5_record (wsV RX5 157 RX5 yX5_longest wsX5_longest) := goodIn_app (goodIn_of _ (by decide +kernel)) ggX5_record_X5_longest
set_option maxRecDepth 20000 in
theorem ggX5_record_X5_isGreater : GoodIn wsX5_record wsX5_isGreater := goodIn_r _ [34, 1, 3, 35, 36, 37, 38, 39, 40, 41, 42, 43, 44, 45, 46, 47, 48, 49, 50, 51, 52, 53, 54, 55] (by decide +kernel) (by decide +kernel)
set_option maxRecDepth 20000 in
theorem gX5_record_X5_isGreater : GoodIn wsX5_record (wsV RX5 161 RX5 yX5_isGreater wsX5_isGreater) := goodIn_app (goodIn_of _ (by decide +kernel)) ggX5_record_X5_isGreater
theorem dX5_record_0 : decode cX5_record 0 = .ok (.iload_n 1, 1) := by decide +kernel
theorem dX5_record_1 : decode cX5_record 1 = .ok (.iconst 0, 1) := by decide +kernel
theorem dX5_record_2 : decode cX5_record 2 = .ok (.iconst 1, 1) := by decide +kernel
theorem dX5_record_3 : decode cX5_record 3 = .ok (.invokestatic 75, 3) := by decide +kernel
theorem dX5_record_6 : decode cX5_record 6 = .ok (.ifCond .ne 7, 3) := by decide +kernel
theorem dX5_record_9 : decode cX5_record 9 = .ok (.sipush (-10000), 3) := by decide +kernel
theorem dX5_record_12 : decode cX5_record 12 = .ok (.ireturn, 1) := by decide +kernel
theorem dX5_record_13 : decode cX5_record 13 = .ok (.aload_n 0, 1) := by decide +kernel
theorem dX5_record_14 : decode cX5_record 14 = .ok (.invokevirtual 157, 3) := by decide +kernel
theorem dX5_record_17 : decode cX5_record 17 = .ok (.istore_n 2, 1) := by decide +kernel
theorem dX5_record_18 : decode cX5_record 18 = .ok (.aload_n 0, 1) := by decide +kernel
theorem dX5_record_19 : decode cX5_record 19 = .ok (.iload_n 2, 1) := by decide +kernel
theorem dX5_record_20 : decode cX5_record 20 = .ok (.invokevirtual 161, 3) := by decide +kernel
theorem dX5_record_23 : decode cX5_record 23 = .ok (.ifCond .ne 19, 3) := by decide +kernel
theorem dX5_record_26 : decode cX5_record 26 = .ok (.iload_n 1, 1) := by decide +kernel
theorem dX5_record_27 : decode cX5_record 27 = .ok (.ifCond .ne 10, 3) := by decide +kernel
theorem dX5_record_30 : decode cX5_record 30 = .ok (.aload_n 0, 1) := by decide +kernel
theorem dX5_record_31 : decode cX5_record 31 = .ok (.getfield 42, 3) := by decide +kernel
theorem dX5_record_34 : decode cX5_record 34 = .ok (.goto 7, 3) := by decide +kernel
theorem dX5_record_37 : decode cX5_record 37 = .ok (.aload_n 0, 1) := by decide +kernel
theorem dX5_record_38 : decode cX5_record 38 = .ok (.getfield 45, 3) := by decide +kernel
theorem dX5_record_41 : decode cX5_record 41 = .ok (.ireturn, 1) := by decide +kernel
theorem dX5_record_42 : decode cX5_record 42 = .ok (.iload_n 1, 1) := by decide +kernel
theorem dX5_record_43 : decode cX5_record 43 = .ok (.ifCond .ne 14, 3) := by decide +kernel
theorem dX5_record_46 : decode cX5_record 46 = .ok (.aload_n 0, 1) := by decide +kernel
theorem dX5_record_47 : decode cX5_record 47 = .ok (.getfield 39, 3) := by decide +kernel
theorem dX5_record_50 : decode cX5_record 50 = .ok (.iconst 5, 1) := by decide +kernel
theorem dX5_record_51 : decode cX5_record 51 = .ok (.iload_n 2, 1) := by decide +kernel
theorem dX5_record_52 : decode cX5_record 52 = .ok (.imul, 1) := by decide +kernel
theorem dX5_record_53 : decode cX5_record 53 = .ok (.iaload, 1) := by decide +kernel
theorem dX5_record_54 : decode cX5_record 54 = .ok (.goto 12, 3) := by decide +kernel
theorem dX5_record_57 : decode cX5_record 57 = .ok (.aload_n 0, 1) := by decide +kernel
theorem dX5_record_58 : decode cX5_record 58 = .ok (.getfield 36, 3) := by decide +kernel
theorem dX5_record_61 : decode cX5_record 61 = .ok (.iload_n 2, 1) := by decide +kernel
theorem dX5_record_62 : decode cX5_record 62 = .ok (.iaload, 1) := by decide +kernel
theorem dX5_record_63 : decode cX5_record 63 = .ok (.bipush 32, 2) := by decide +kernel
theorem dX5_record_65 : decode cX5_record 65 = .ok (.irem, 1) := by decide +kernel
theorem dX5_record_66 : decode cX5_record 66 = .ok (.ireturn, 1) := by decide +kernel
set_option maxRecDepth 20000 in
theorem ggX5_differ_X5_isKnowing : GoodIn wsX5_differ wsX5_isKnowing := goodIn_r _ [8, 9, 10, 11, 7, 12, 65, 66, 67, 68, 69, 70, 71, 72, 73, 74, 75, 76, 77, 78, 79, 80, 81, 82, 83, 84, 85] (by decide +kernel) (by decide +kernel)
set_option maxRecDepth 20000 in
theorem gX5_differ_X5_isKnowing : GoodIn wsX5_differ (wsV RX5 136 RX5 yX5_isKnowing wsX5_isKnowing) := goodIn_app (goodIn_of _ (by decide +kernel)) ggX5_differ_X5_isKnowing
set_option maxRecDepth 20000 in
theorem ggX5_differ_X5_works : GoodIn wsX5_differ wsX5_works := goodIn_r _ [16, 1, 3, 17, 18, 19, 20, 21, 22, 23, 7, 24, 25, 26, 27, 28, 29, 30, 31, 32, 33, 34, 35, 36, 37, 38, 39, 40, 41, 42, 43, 44, 45, 46, 47, 48, 49, 50, 51, 52, 53, 54, 55, 56, 65, 66, 67, 68, 69, 70, 71, 72, 73, 74, 75, 76, 77, 78, 79, 80, 81, 82, 83, 84, 85] (by decide +kernel) (by decide +kernel)
set_option maxRecDepth 20000 in
theorem gX5_differ_X5_works : GoodIn wsX5_differ (wsV RX5 148 RX5 yX5_works wsX5_works) := goodIn_app (goodIn_of _ (by decide +kernel)) ggX5_differ_X5_works
set_option maxRecDepth 20000 in
theorem ggX5_differ_X5_place : GoodIn wsX5_differ wsX5_place := goodIn_r _ [60, 1, 61, 62, 63, 7, 64, 3, 18, 20, 65, 66, 67, 68, 69, 70, 71, 72, 73, 74, 75, 76, 77, 78, 79, 80, 81, 82, 83, 84, 85] (by decide +kernel) (by decide +kernel)
set_option maxRecDepth 20000 in
theorem gX5_differ_X5_place : GoodIn wsX5_differ (wsV RX5 151 RX5 yX5_place wsX5_place) := goodIn_app (goodIn_of _ (by decide +kernel)) ggX5_differ_X5_place
theorem dX5_differ_0 : decode cX5_differ 0 = .ok (.aload_n 0, 1) := by decide +kernel
theorem dX5_differ_1 : decode cX5_differ 1 = .ok (.iload_n 1, 1) := by decide +kernel
theorem dX5_differ_2 : decode cX5_differ 2 = .ok (.invokevirtual 136, 3) := by decide +kernel
theorem dX5_differ_5 : decode cX5_differ 5 = .ok (.ifCond .eq 15, 3) := by decide +kernel
theorem dX5_differ_8 : decode cX5_differ 8 = .ok (.aload_n 0, 1) := by decide +kernel
theorem dX5_differ_9 : decode cX5_differ 9 = .ok (.iload_n 2, 1) := by decide +kernel
theorem dX5_differ_10 : decode cX5_differ 10 = .ok (.invokevirtual 136, 3) := by decide +kernel
theorem dX5_differ_13 : decode cX5_differ 13 = .ok (.ifCond .eq 7, 3) := by decide +kernel
theorem dX5_differ_16 : decode cX5_differ 16 = .ok (.iload_n 3, 1) := by decide +kernel
theorem dX5_differ_17 : decode cX5_differ 17 = .ok (.ifCond .ge 7, 3) := by decide +kernel
theorem dX5_differ_20 : decode cX5_differ 20 = .ok (.sipush (-10000), 3) := by decide +kernel
theorem dX5_differ_23 : decode cX5_differ 23 = .ok (.ireturn, 1) := by decide +kernel
theorem dX5_differ_24 : decode cX5_differ 24 = .ok (.aload_n 0, 1) := by decide +kernel
theorem dX5_differ_25 : decode cX5_differ 25 = .ok (.iload_n 1, 1) := by decide +kernel
theorem dX5_differ_26 : decode cX5_differ 26 = .ok (.invokevirtual 148, 3) := by decide +kernel
theorem dX5_differ_29 : decode cX5_differ 29 = .ok (.iconst 0, 1) := by decide +kernel
theorem dX5_differ_30 : decode cX5_differ 30 = .ok (.istore 4, 2) := by decide +kernel
theorem dX5_differ_32 : decode cX5_differ 32 = .ok (.iload 4, 2) := by decide +kernel
theorem dX5_differ_34 : decode cX5_differ 34 = .ok (.aload_n 0, 1) := by decide +kernel
theorem dX5_differ_35 : decode cX5_differ 35 = .ok (.getfield 94, 3) := by decide +kernel
theorem dX5_differ_38 : decode cX5_differ 38 = .ok (.if_icmp .ge 36, 3) := by decide +kernel
theorem dX5_differ_41 : decode cX5_differ 41 = .ok (.aload_n 0, 1) := by decide +kernel
theorem dX5_differ_42 : decode cX5_differ 42 = .ok (.getfield 61, 3) := by decide +kernel
theorem dX5_differ_45 : decode cX5_differ 45 = .ok (.iload 4, 2) := by decide +kernel
theorem dX5_differ_47 : decode cX5_differ 47 = .ok (.aload_n 0, 1) := by decide +kernel
theorem dX5_differ_48 : decode cX5_differ 48 = .ok (.getfield 48, 3) := by decide +kernel
theorem dX5_differ_51 : decode cX5_differ 51 = .ok (.iload 4, 2) := by decide +kernel
theorem dX5_differ_53 : decode cX5_differ 53 = .ok (.baload, 1) := by decide +kernel
theorem dX5_differ_54 : decode cX5_differ 54 = .ok (.ifCond .eq 12, 3) := by decide +kernel
theorem dX5_differ_57 : decode cX5_differ 57 = .ok (.aload_n 0, 1) := by decide +kernel
theorem dX5_differ_58 : decode cX5_differ 58 = .ok (.iload 4, 2) := by decide +kernel
theorem dX5_differ_60 : decode cX5_differ 60 = .ok (.invokevirtual 151, 3) := by decide +kernel
theorem dX5_differ_63 : decode cX5_differ 63 = .ok (.goto 4, 3) := by decide +kernel
theorem dX5_differ_66 : decode cX5_differ 66 = .ok (.iconst 0, 1) := by decide +kernel
theorem dX5_differ_67 : decode cX5_differ 67 = .ok (.iastore, 1) := by decide +kernel
theorem dX5_differ_68 : decode cX5_differ 68 = .ok (.iinc 4 1, 3) := by decide +kernel
theorem dX5_differ_71 : decode cX5_differ 71 = .ok (.goto (-39), 3) := by decide +kernel
theorem dX5_differ_74 : decode cX5_differ 74 = .ok (.aload_n 0, 1) := by decide +kernel
theorem dX5_differ_75 : decode cX5_differ 75 = .ok (.iload_n 2, 1) := by decide +kernel
theorem dX5_differ_76 : decode cX5_differ 76 = .ok (.invokevirtual 148, 3) := by decide +kernel
theorem dX5_differ_79 : decode cX5_differ 79 = .ok (.iconst 0, 1) := by decide +kernel
theorem dX5_differ_80 : decode cX5_differ 80 = .ok (.istore 4, 2) := by decide +kernel
theorem dX5_differ_82 : decode cX5_differ 82 = .ok (.iconst 0, 1) := by decide +kernel
theorem dX5_differ_83 : decode cX5_differ 83 = .ok (.istore 5, 2) := by decide +kernel
theorem dX5_differ_85 : decode cX5_differ 85 = .ok (.iload 5, 2) := by decide +kernel
theorem dX5_differ_87 : decode cX5_differ 87 = .ok (.aload_n 0, 1) := by decide +kernel
theorem dX5_differ_88 : decode cX5_differ 88 = .ok (.getfield 94, 3) := by decide +kernel
theorem dX5_differ_91 : decode cX5_differ 91 = .ok (.if_icmp .ge 54, 3) := by decide +kernel
theorem dX5_differ_94 : decode cX5_differ 94 = .ok (.aload_n 0, 1) := by decide +kernel
theorem dX5_differ_95 : decode cX5_differ 95 = .ok (.getfield 61, 3) := by decide +kernel
theorem dX5_differ_98 : decode cX5_differ 98 = .ok (.iload 5, 2) := by decide +kernel
theorem dX5_differ_100 : decode cX5_differ 100 = .ok (.iaload, 1) := by decide +kernel
theorem dX5_differ_101 : decode cX5_differ 101 = .ok (.aload_n 0, 1) := by decide +kernel
theorem dX5_differ_102 : decode cX5_differ 102 = .ok (.getfield 48, 3) := by decide +kernel
theorem dX5_differ_105 : decode cX5_differ 105 = .ok (.iload 5, 2) := by decide +kernel
theorem dX5_differ_107 : decode cX5_differ 107 = .ok (.baload, 1) := by decide +kernel
theorem dX5_differ_108 : decode cX5_differ 108 = .ok (.ifCond .eq 12, 3) := by decide +kernel
theorem dX5_differ_111 : decode cX5_differ 111 = .ok (.aload_n 0, 1) := by decide +kernel
theorem dX5_differ_112 : decode cX5_differ 112 = .ok (.iload 5, 2) := by decide +kernel
theorem dX5_differ_114 : decode cX5_differ 114 = .ok (.invokevirtual 151, 3) := by decide +kernel
theorem dX5_differ_117 : decode cX5_differ 117 = .ok (.goto 4, 3) := by decide +kernel
theorem dX5_differ_120 : decode cX5_differ 120 = .ok (.iconst 0, 1) := by decide +kernel
theorem dX5_differ_121 : decode cX5_differ 121 = .ok (.if_icmp .ne 6, 3) := by decide +kernel
theorem dX5_differ_124 : decode cX5_differ 124 = .ok (.goto 15, 3) := by decide +kernel
theorem dX5_differ_127 : decode cX5_differ 127 = .ok (.iload 4, 2) := by decide +kernel
theorem dX5_differ_129 : decode cX5_differ 129 = .ok (.iload_n 3, 1) := by decide +kernel
theorem dX5_differ_130 : decode cX5_differ 130 = .ok (.if_icmp .ne 6, 3) := by decide +kernel
theorem dX5_differ_133 : decode cX5_differ 133 = .ok (.iload 5, 2) := by decide +kernel
theorem dX5_differ_135 : decode cX5_differ 135 = .ok (.ireturn, 1) := by decide +kernel
theorem dX5_differ_136 : decode cX5_differ 136 = .ok (.iinc 4 1, 3) := by decide +kernel
theorem dX5_differ_139 : decode cX5_differ 139 = .ok (.iinc 5 1, 3) := by decide +kernel
theorem dX5_differ_142 : decode cX5_differ 142 = .ok (.goto (-57), 3) := by decide +kernel
theorem dX5_differ_145 : decode cX5_differ 145 = .ok (.sipush (-10000), 3) := by decide +kernel
theorem dX5_differ_148 : decode cX5_differ 148 = .ok (.ireturn, 1) := by decide +kernel
set_option maxRecDepth 20000 in
theorem ggX5_close_X5_works : GoodIn wsX5_close wsX5_works := goodIn_r _ [15, 2, 3, 16, 17, 18, 19, 20, 21, 22, 14, 23, 24, 25, 26, 27, 28, 8, 29, 30, 31, 32, 6, 33, 34, 35, 36, 37, 38, 39, 40, 41, 42, 43, 44, 45, 46, 47, 48, 49, 50, 51, 52, 53, 74, 75, 76, 77, 78, 79, 80, 81, 82, 83, 84, 85, 86, 87, 88, 89, 90, 91, 92, 93, 94] (by decide +kernel) (by decide +kernel)
set_option maxRecDepth 20000 in
theorem gX5_close_X5_works : GoodIn wsX5_close (wsV RX5 148 RX5 yX5_works wsX5_works) := goodIn_app (goodIn_of _ (by decide +kernel)) ggX5_close_X5_works
set_option maxRecDepth 20000 in
theorem ggX5_close_X5_place : GoodIn wsX5_close wsX5_place := goodIn_r _ [57, 2, 58, 59, 60, 14, 61, 3, 17, 19, 74, 75, 76, 77, 78, 79, 80, 81, 82, 83, 84, 85, 86, 87, 88, 89, 90, 91, 92, 93, 94] (by decide +kernel) (by decide +kernel)
set_option maxRecDepth 20000 in
theorem gX5_close_X5_place : GoodIn wsX5_close (wsV RX5 151 RX5 yX5_place wsX5_place) := goodIn_app (goodIn_of _ (by decide +kernel)) ggX5_close_X5_place
set_option maxRecDepth 20000 in
theorem ggX5_close_X5_longest : GoodIn wsX5_close wsX5_longest := goodIn_r _ [65, 1, 8, 28, 6, 24, 25, 26, 14, 27, 20, 21, 22, 23, 29, 30, 31, 32, 66, 67, 68, 69, 74, 75, 76, 77, 78, 79, 80, 81, 82, 83, 84, 85, 86, 87, 88, 89, 90, 91, 92, 93, 94] (by decide +kernel) (by decide +kernel)
set_option maxRecDepth 20000 in
theorem gX5_close_X5_longest : GoodIn wsX5_close (wsV RX5 157 RX5 yX5_longest wsX5_longest) := goodIn_app (goodIn_of _ (by decide +kernel)) ggX5_close_X5_longest
set_option maxRecDepth 20000 in
theorem ggX5_close_X5_isGreater : GoodIn wsX5_close wsX5_isGreater := goodIn_r _ [73, 7, 6, 74, 75, 76, 77, 78, 79, 80, 81, 82, 83, 84, 85, 86, 87, 88, 89, 90, 91, 92, 93, 94] (by decide +kernel) (by decide +kernel)
set_option maxRecDepth 20000 in
theorem gX5_close_X5_isGreater : GoodIn wsX5_close (wsV RX5 161 RX5 yX5_isGreater wsX5_isGreater) := goodIn_app (goodIn_of _ (by decide +kernel)) ggX5_close_X5_isGreater
theorem dX5_close_0 : decode cX5_close 0 = .ok (.aload_n 0, 1) := by decide +kernel
theorem dX5_close_1 : decode cX5_close 1 = .ok (.aload_n 0, 1) := by decide +kernel
theorem dX5_close_2 : decode cX5_close 2 = .ok (.getfield 101, 3) := by decide +kernel
theorem dX5_close_5 : decode cX5_close 5 = .ok (.invokevirtual 148, 3) := by decide +kernel
theorem dX5_close_8 : decode cX5_close 8 = .ok (.iconst 0, 1) := by decide +kernel
theorem dX5_close_9 : decode cX5_close 9 = .ok (.istore_n 1, 1) := by decide +kernel
theorem dX5_close_10 : decode cX5_close 10 = .ok (.iconst 0, 1) := by decide +kernel
theorem dX5_close_11 : decode cX5_close 11 = .ok (.istore_n 2, 1) := by decide +kernel
theorem dX5_close_12 : decode cX5_close 12 = .ok (.iload_n 2, 1) := by decide +kernel
theorem dX5_close_13 : decode cX5_close 13 = .ok (.aload_n 0, 1) := by decide +kernel
theorem dX5_close_14 : decode cX5_close 14 = .ok (.getfield 94, 3) := by decide +kernel
theorem dX5_close_17 : decode cX5_close 17 = .ok (.if_icmp .ge 44, 3) := by decide +kernel
theorem dX5_close_20 : decode cX5_close 20 = .ok (.aload_n 0, 1) := by decide +kernel
theorem dX5_close_21 : decode cX5_close 21 = .ok (.getfield 48, 3) := by decide +kernel
theorem dX5_close_24 : decode cX5_close 24 = .ok (.iload_n 2, 1) := by decide +kernel
theorem dX5_close_25 : decode cX5_close 25 = .ok (.baload, 1) := by decide +kernel
theorem dX5_close_26 : decode cX5_close 26 = .ok (.ifCond .ne 6, 3) := by decide +kernel
theorem dX5_close_29 : decode cX5_close 29 = .ok (.goto 26, 3) := by decide +kernel
theorem dX5_close_32 : decode cX5_close 32 = .ok (.aload_n 0, 1) := by decide +kernel
theorem dX5_close_33 : decode cX5_close 33 = .ok (.getfield 27, 3) := by decide +kernel
theorem dX5_close_36 : decode cX5_close 36 = .ok (.iload_n 2, 1) := by decide +kernel
theorem dX5_close_37 : decode cX5_close 37 = .ok (.dup2, 1) := by decide +kernel
theorem dX5_close_38 : decode cX5_close 38 = .ok (.iaload, 1) := by decide +kernel
theorem dX5_close_39 : decode cX5_close 39 = .ok (.getstatic 164, 3) := by decide +kernel
theorem dX5_close_42 : decode cX5_close 42 = .ok (.aload_n 0, 1) := by decide +kernel
theorem dX5_close_43 : decode cX5_close 43 = .ok (.iload_n 2, 1) := by decide +kernel
theorem dX5_close_44 : decode cX5_close 44 = .ok (.invokevirtual 151, 3) := by decide +kernel
theorem dX5_close_47 : decode cX5_close 47 = .ok (.iconst 1, 1) := by decide +kernel
theorem dX5_close_48 : decode cX5_close 48 = .ok (.isub, 1) := by decide +kernel
theorem dX5_close_49 : decode cX5_close 49 = .ok (.iaload, 1) := by decide +kernel
theorem dX5_close_50 : decode cX5_close 50 = .ok (.iadd, 1) := by decide +kernel
theorem dX5_close_51 : decode cX5_close 51 = .ok (.iastore, 1) := by decide +kernel
theorem dX5_close_52 : decode cX5_close 52 = .ok (.iinc 1 1, 3) := by decide +kernel
theorem dX5_close_55 : decode cX5_close 55 = .ok (.iinc 2 1, 3) := by decide +kernel
theorem dX5_close_58 : decode cX5_close 58 = .ok (.goto (-46), 3) := by decide +kernel
theorem dX5_close_61 : decode cX5_close 61 = .ok (.iload_n 1, 1) := by decide +kernel
theorem dX5_close_62 : decode cX5_close 62 = .ok (.ifCond .ne 7, 3) := by decide +kernel
theorem dX5_close_65 : decode cX5_close 65 = .ok (.sipush (-10000), 3) := by decide +kernel
theorem dX5_close_68 : decode cX5_close 68 = .ok (.ireturn, 1) := by decide +kernel
theorem dX5_close_69 : decode cX5_close 69 = .ok (.aload_n 0, 1) := by decide +kernel
theorem dX5_close_70 : decode cX5_close 70 = .ok (.invokevirtual 157, 3) := by decide +kernel
theorem dX5_close_73 : decode cX5_close 73 = .ok (.istore_n 2, 1) := by decide +kernel
theorem dX5_close_74 : decode cX5_close 74 = .ok (.aload_n 0, 1) := by decide +kernel
theorem dX5_close_75 : decode cX5_close 75 = .ok (.iload_n 2, 1) := by decide +kernel
theorem dX5_close_76 : decode cX5_close 76 = .ok (.invokevirtual 161, 3) := by decide +kernel
theorem dX5_close_79 : decode cX5_close 79 = .ok (.ifCond .eq 28, 3) := by decide +kernel
theorem dX5_close_82 : decode cX5_close 82 = .ok (.aload_n 0, 1) := by decide +kernel
theorem dX5_close_83 : decode cX5_close 83 = .ok (.aload_n 0, 1) := by decide +kernel
theorem dX5_close_84 : decode cX5_close 84 = .ok (.getfield 39, 3) := by decide +kernel
theorem dX5_close_87 : decode cX5_close 87 = .ok (.iconst 5, 1) := by decide +kernel
theorem dX5_close_88 : decode cX5_close 88 = .ok (.iload_n 2, 1) := by decide +kernel
theorem dX5_close_89 : decode cX5_close 89 = .ok (.imul, 1) := by decide +kernel
theorem dX5_close_90 : decode cX5_close 90 = .ok (.iaload, 1) := by decide +kernel
theorem dX5_close_91 : decode cX5_close 91 = .ok (.putfield 42, 3) := by decide +kernel
theorem dX5_close_94 : decode cX5_close 94 = .ok (.aload_n 0, 1) := by decide +kernel
theorem dX5_close_95 : decode cX5_close 95 = .ok (.aload_n 0, 1) := by decide +kernel
theorem dX5_close_96 : decode cX5_close 96 = .ok (.getfield 36, 3) := by decide +kernel
theorem dX5_close_99 : decode cX5_close 99 = .ok (.iload_n 2, 1) := by decide +kernel
theorem dX5_close_100 : decode cX5_close 100 = .ok (.iaload, 1) := by decide +kernel
theorem dX5_close_101 : decode cX5_close 101 = .ok (.bipush 32, 2) := by decide +kernel
theorem dX5_close_103 : decode cX5_close 103 = .ok (.irem, 1) := by decide +kernel
theorem dX5_close_104 : decode cX5_close 104 = .ok (.putfield 45, 3) := by decide +kernel
theorem dX5_close_107 : decode cX5_close 107 = .ok (.aload_n 0, 1) := by decide +kernel
theorem dX5_close_108 : decode cX5_close 108 = .ok (.iconst 0, 1) := by decide +kernel
theorem dX5_close_109 : decode cX5_close 109 = .ok (.putfield 101, 3) := by decide +kernel
theorem dX5_close_112 : decode cX5_close 112 = .ok (.aload_n 0, 1) := by decide +kernel
theorem dX5_close_113 : decode cX5_close 113 = .ok (.dup, 1) := by decide +kernel
theorem dX5_close_114 : decode cX5_close 114 = .ok (.getfield 167, 3) := by decide +kernel
theorem dX5_close_117 : decode cX5_close 117 = .ok (.iconst 1, 1) := by decide +kernel
theorem dX5_close_118 : decode cX5_close 118 = .ok (.iadd, 1) := by decide +kernel
theorem dX5_close_119 : decode cX5_close 119 = .ok (.putfield 167, 3) := by decide +kernel
theorem dX5_close_122 : decode cX5_close 122 = .ok (.iload_n 1, 1) := by decide +kernel
theorem dX5_close_123 : decode cX5_close 123 = .ok (.ireturn, 1) := by decide +kernel
set_option maxRecDepth 20000 in
theorem ggX5_count_X5_lies : GoodIn wsX5_count wsX5_lies := goodIn_r _ [12] (by decide +kernel) (by decide +kernel)
set_option maxRecDepth 20000 in
theorem gX5_count_X5_lies : GoodIn wsX5_count (va_wsS RX5 75 yX5_lies wsX5_lies) := goodIn_app (goodIn_of _ (by decide +kernel)) ggX5_count_X5_lies
set_option maxRecDepth 20000 in
theorem ggX5_count_X5_works : GoodIn wsX5_count wsX5_works := goodIn_r _ [16, 3, 4, 17, 5, 18, 19, 20, 21, 22, 11, 23, 24, 25, 26, 27, 28, 29, 30, 31, 32, 33, 34, 35, 36, 37, 38, 39, 40, 41, 42, 7, 43, 44, 45, 46, 47, 48, 49, 50, 1, 51, 52, 53, 54, 55, 56, 57, 58, 59, 60, 61, 62, 63, 64, 65, 66, 67, 68, 69, 70, 71, 72, 73, 74] (by decide +kernel) (by decide +kernel)
set_option maxRecDepth 20000 in
theorem gX5_count_X5_works : GoodIn wsX5_count (wsV RX5 148 RX5 yX5_works wsX5_works) := goodIn_app (goodIn_of _ (by decide +kernel)) ggX5_count_X5_works
theorem dX5_count_0 : decode cX5_count 0 = .ok (.iload_n 1, 1) := by decide +kernel
theorem dX5_count_1 : decode cX5_count 1 = .ok (.bipush 10, 2) := by decide +kernel
theorem dX5_count_3 : decode cX5_count 3 = .ok (.isub, 1) := by decide +kernel
theorem dX5_count_4 : decode cX5_count 4 = .ok (.iconst 0, 1) := by decide +kernel
theorem dX5_count_5 : decode cX5_count 5 = .ok (.iconst 4, 1) := by decide +kernel
theorem dX5_count_6 : decode cX5_count 6 = .ok (.invokestatic 75, 3) := by decide +kernel
theorem dX5_count_9 : decode cX5_count 9 = .ok (.ifCond .eq 13, 3) := by decide +kernel
theorem dX5_count_12 : decode cX5_count 12 = .ok (.aload_n 0, 1) := by decide +kernel
theorem dX5_count_13 : decode cX5_count 13 = .ok (.getfield 30, 3) := by decide +kernel
theorem dX5_count_16 : decode cX5_count 16 = .ok (.iload_n 1, 1) := by decide +kernel
theorem dX5_count_17 : decode cX5_count 17 = .ok (.bipush 10, 2) := by decide +kernel
theorem dX5_count_19 : decode cX5_count 19 = .ok (.isub, 1) := by decide +kernel
theorem dX5_count_20 : decode cX5_count 20 = .ok (.iaload, 1) := by decide +kernel
theorem dX5_count_21 : decode cX5_count 21 = .ok (.ireturn, 1) := by decide +kernel
theorem dX5_count_22 : decode cX5_count 22 = .ok (.iconst 0, 1) := by decide +kernel
theorem dX5_count_23 : decode cX5_count 23 = .ok (.istore_n 2, 1) := by decide +kernel
theorem dX5_count_24 : decode cX5_count 24 = .ok (.iconst 0, 1) := by decide +kernel
theorem dX5_count_25 : decode cX5_count 25 = .ok (.istore_n 3, 1) := by decide +kernel
theorem dX5_count_26 : decode cX5_count 26 = .ok (.aload_n 0, 1) := by decide +kernel
theorem dX5_count_27 : decode cX5_count 27 = .ok (.aload_n 0, 1) := by decide +kernel
theorem dX5_count_28 : decode cX5_count 28 = .ok (.getfield 101, 3) := by decide +kernel
theorem dX5_count_31 : decode cX5_count 31 = .ok (.invokevirtual 148, 3) := by decide +kernel
theorem dX5_count_34 : decode cX5_count 34 = .ok (.iconst 0, 1) := by decide +kernel
theorem dX5_count_35 : decode cX5_count 35 = .ok (.istore 4, 2) := by decide +kernel
theorem dX5_count_37 : decode cX5_count 37 = .ok (.iload 4, 2) := by decide +kernel
theorem dX5_count_39 : decode cX5_count 39 = .ok (.aload_n 0, 1) := by decide +kernel
theorem dX5_count_40 : decode cX5_count 40 = .ok (.getfield 94, 3) := by decide +kernel
theorem dX5_count_43 : decode cX5_count 43 = .ok (.if_icmp .ge 45, 3) := by decide +kernel
theorem dX5_count_46 : decode cX5_count 46 = .ok (.iload_n 2, 1) := by decide +kernel
theorem dX5_count_47 : decode cX5_count 47 = .ok (.aload_n 0, 1) := by decide +kernel
theorem dX5_count_48 : decode cX5_count 48 = .ok (.getfield 48, 3) := by decide +kernel
theorem dX5_count_51 : decode cX5_count 51 = .ok (.iload 4, 2) := by decide +kernel
theorem dX5_count_53 : decode cX5_count 53 = .ok (.baload, 1) := by decide +kernel
theorem dX5_count_54 : decode cX5_count 54 = .ok (.ifCond .eq 7, 3) := by decide +kernel
theorem dX5_count_57 : decode cX5_count 57 = .ok (.iconst 1, 1) := by decide +kernel
theorem dX5_count_58 : decode cX5_count 58 = .ok (.goto 4, 3) := by decide +kernel
theorem dX5_count_61 : decode cX5_count 61 = .ok (.iconst 0, 1) := by decide +kernel
theorem dX5_count_62 : decode cX5_count 62 = .ok (.iadd, 1) := by decide +kernel
theorem dX5_count_63 : decode cX5_count 63 = .ok (.istore_n 2, 1) := by decide +kernel
theorem dX5_count_64 : decode cX5_count 64 = .ok (.iload_n 3, 1) := by decide +kernel
theorem dX5_count_65 : decode cX5_count 65 = .ok (.aload_n 0, 1) := by decide +kernel
theorem dX5_count_66 : decode cX5_count 66 = .ok (.getfield 52, 3) := by decide +kernel
theorem dX5_count_69 : decode cX5_count 69 = .ok (.iload 4, 2) := by decide +kernel
theorem dX5_count_71 : decode cX5_count 71 = .ok (.baload, 1) := by decide +kernel
theorem dX5_count_72 : decode cX5_count 72 = .ok (.ifCond .eq 7, 3) := by decide +kernel
theorem dX5_count_75 : decode cX5_count 75 = .ok (.iconst 1, 1) := by decide +kernel
theorem dX5_count_76 : decode cX5_count 76 = .ok (.goto 4, 3) := by decide +kernel
theorem dX5_count_79 : decode cX5_count 79 = .ok (.iconst 0, 1) := by decide +kernel
theorem dX5_count_80 : decode cX5_count 80 = .ok (.iadd, 1) := by decide +kernel
theorem dX5_count_81 : decode cX5_count 81 = .ok (.istore_n 3, 1) := by decide +kernel
theorem dX5_count_82 : decode cX5_count 82 = .ok (.iinc 4 1, 3) := by decide +kernel
theorem dX5_count_85 : decode cX5_count 85 = .ok (.goto (-48), 3) := by decide +kernel
theorem dX5_count_88 : decode cX5_count 88 = .ok (.iload_n 1, 1) := by decide +kernel
theorem dX5_count_89 : decode cX5_count 89 = .ok (.tableswitch 72 0 6 #[43, 48, 53, 58, 63, 65, 67], 43) := by decide +kernel
theorem dX5_count_132 : decode cX5_count 132 = .ok (.aload_n 0, 1) := by decide +kernel
theorem dX5_count_133 : decode cX5_count 133 = .ok (.getfield 94, 3) := by decide +kernel
theorem dX5_count_136 : decode cX5_count 136 = .ok (.ireturn, 1) := by decide +kernel
theorem dX5_count_137 : decode cX5_count 137 = .ok (.aload_n 0, 1) := by decide +kernel
theorem dX5_count_138 : decode cX5_count 138 = .ok (.getfield 101, 3) := by decide +kernel
theorem dX5_count_141 : decode cX5_count 141 = .ok (.ireturn, 1) := by decide +kernel
theorem dX5_count_142 : decode cX5_count 142 = .ok (.aload_n 0, 1) := by decide +kernel
theorem dX5_count_143 : decode cX5_count 143 = .ok (.getfield 167, 3) := by decide +kernel
theorem dX5_count_146 : decode cX5_count 146 = .ok (.ireturn, 1) := by decide +kernel
theorem dX5_count_147 : decode cX5_count 147 = .ok (.aload_n 0, 1) := by decide +kernel
theorem dX5_count_148 : decode cX5_count 148 = .ok (.getfield 20, 3) := by decide +kernel
theorem dX5_count_151 : decode cX5_count 151 = .ok (.ireturn, 1) := by decide +kernel
theorem dX5_count_152 : decode cX5_count 152 = .ok (.iload_n 2, 1) := by decide +kernel
theorem dX5_count_153 : decode cX5_count 153 = .ok (.ireturn, 1) := by decide +kernel
theorem dX5_count_154 : decode cX5_count 154 = .ok (.iload_n 3, 1) := by decide +kernel
theorem dX5_count_155 : decode cX5_count 155 = .ok (.ireturn, 1) := by decide +kernel
theorem dX5_count_156 : decode cX5_count 156 = .ok (.aload_n 0, 1) := by decide +kernel
theorem dX5_count_157 : decode cX5_count 157 = .ok (.getfield 68, 3) := by decide +kernel
theorem dX5_count_160 : decode cX5_count 160 = .ok (.ireturn, 1) := by decide +kernel
theorem dX5_count_161 : decode cX5_count 161 = .ok (.sipush (-10000), 3) := by decide +kernel
theorem dX5_count_164 : decode cX5_count 164 = .ok (.ireturn, 1) := by decide +kernel
theorem dJ9_abs_0f7a4_0 : decode cJ9_abs_0f7a4 0 = .ok (.iload_n 0, 1) := by decide +kernel
theorem dJ9_abs_0f7a4_1 : decode cJ9_abs_0f7a4 1 = .ok (.ifCond .ge 8, 3) := by decide +kernel
theorem dJ9_abs_0f7a4_4 : decode cJ9_abs_0f7a4 4 = .ok (.iload_n 0, 1) := by decide +kernel
theorem dJ9_abs_0f7a4_5 : decode cJ9_abs_0f7a4 5 = .ok (.ineg, 1) := by decide +kernel
theorem dJ9_abs_0f7a4_6 : decode cJ9_abs_0f7a4 6 = .ok (.goto 4, 3) := by decide +kernel
theorem dJ9_abs_0f7a4_9 : decode cJ9_abs_0f7a4 9 = .ok (.iload_n 0, 1) := by decide +kernel
theorem dJ9_abs_0f7a4_10 : decode cJ9_abs_0f7a4 10 = .ok (.ireturn, 1) := by decide +kernel
theorem dJ9_max_7cf53_0 : decode cJ9_max_7cf53 0 = .ok (.iload_n 0, 1) := by decide +kernel
theorem dJ9_max_7cf53_1 : decode cJ9_max_7cf53 1 = .ok (.iload_n 1, 1) := by decide +kernel
theorem dJ9_max_7cf53_2 : decode cJ9_max_7cf53 2 = .ok (.if_icmp .lt 7, 3) := by decide +kernel
theorem dJ9_max_7cf53_5 : decode cJ9_max_7cf53 5 = .ok (.iload_n 0, 1) := by decide +kernel
theorem dJ9_max_7cf53_6 : decode cJ9_max_7cf53 6 = .ok (.goto 4, 3) := by decide +kernel
theorem dJ9_max_7cf53_9 : decode cJ9_max_7cf53 9 = .ok (.iload_n 1, 1) := by decide +kernel
theorem dJ9_max_7cf53_10 : decode cJ9_max_7cf53 10 = .ok (.ireturn, 1) := by decide +kernel
theorem dJ9_min_7cf53_0 : decode cJ9_min_7cf53 0 = .ok (.iload_n 0, 1) := by decide +kernel
theorem dJ9_min_7cf53_1 : decode cJ9_min_7cf53 1 = .ok (.iload_n 1, 1) := by decide +kernel
theorem dJ9_min_7cf53_2 : decode cJ9_min_7cf53 2 = .ok (.if_icmp .gt 7, 3) := by decide +kernel
theorem dJ9_min_7cf53_5 : decode cJ9_min_7cf53 5 = .ok (.iload_n 0, 1) := by decide +kernel
theorem dJ9_min_7cf53_6 : decode cJ9_min_7cf53 6 = .ok (.goto 4, 3) := by decide +kernel
theorem dJ9_min_7cf53_9 : decode cJ9_min_7cf53 9 = .ok (.iload_n 1, 1) := by decide +kernel
theorem dJ9_min_7cf53_10 : decode cJ9_min_7cf53 10 = .ok (.ireturn, 1) := by decide +kernel
theorem dJ7_fill_53178_0 : decode cJ7_fill_53178 0 = .ok (.iconst 0, 1) := by decide +kernel
theorem dJ7_fill_53178_1 : decode cJ7_fill_53178 1 = .ok (.istore_n 2, 1) := by decide +kernel
theorem dJ7_fill_53178_2 : decode cJ7_fill_53178 2 = .ok (.aload_n 0, 1) := by decide +kernel
theorem dJ7_fill_53178_3 : decode cJ7_fill_53178 3 = .ok (.arraylength, 1) := by decide +kernel
theorem dJ7_fill_53178_4 : decode cJ7_fill_53178 4 = .ok (.istore_n 3, 1) := by decide +kernel
theorem dJ7_fill_53178_5 : decode cJ7_fill_53178 5 = .ok (.iload_n 2, 1) := by decide +kernel
theorem dJ7_fill_53178_6 : decode cJ7_fill_53178 6 = .ok (.iload_n 3, 1) := by decide +kernel
theorem dJ7_fill_53178_7 : decode cJ7_fill_53178 7 = .ok (.if_icmp .ge 13, 3) := by decide +kernel
theorem dJ7_fill_53178_10 : decode cJ7_fill_53178 10 = .ok (.aload_n 0, 1) := by decide +kernel
theorem dJ7_fill_53178_11 : decode cJ7_fill_53178 11 = .ok (.iload_n 2, 1) := by decide +kernel
theorem dJ7_fill_53178_12 : decode cJ7_fill_53178 12 = .ok (.iload_n 1, 1) := by decide +kernel
theorem dJ7_fill_53178_13 : decode cJ7_fill_53178 13 = .ok (.iastore, 1) := by decide +kernel
theorem dJ7_fill_53178_14 : decode cJ7_fill_53178 14 = .ok (.iinc 2 1, 3) := by decide +kernel
theorem dJ7_fill_53178_17 : decode cJ7_fill_53178 17 = .ok (.goto (-12), 3) := by decide +kernel
theorem dJ7_fill_53178_20 : decode cJ7_fill_53178 20 = .ok (.return_, 1) := by decide +kernel
