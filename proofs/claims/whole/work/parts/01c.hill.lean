set_option maxRecDepth 20000 in
theorem ggX4_init_X3_init : GoodIn wsX4_init wsX3_init := goodIn_r _ [20, 21, 2, 3, 22, 23, 24, 25, 26, 27, 28, 29, 4, 30, 31, 32, 33, 34, 35, 36, 37, 38, 39, 40, 41, 42, 43, 44, 45, 46, 47, 48, 86, 87, 69, 70, 71, 72, 73, 74, 75, 76, 77, 78, 88, 89, 90, 91] (by decide +kernel) (by decide +kernel)
set_option maxRecDepth 20000 in
theorem gX4_init_X3_init_n15 : GoodIn wsX4_init (wsX3_init) := ggX4_init_X3_init
set_option maxRecDepth 20000 in
theorem ggX4_init_X0_init : GoodIn wsX4_init wsX0_init := goodIn_r _ [50, 51, 2, 3, 4, 52, 53, 54, 55, 56, 57, 79, 80, 81, 82, 83, 84, 85] (by decide +kernel) (by decide +kernel)
set_option maxRecDepth 20000 in
theorem gX4_init_X0_init_n22 : GoodIn wsX4_init (wsX0_init) := ggX4_init_X0_init
theorem dX4_init_0 : decode cX4_init 0 = .ok (.aload_n 0, 1) := by decide +kernel
theorem dX4_init_1 : decode cX4_init 1 = .ok (.invokespecial 1, 3) := by decide +kernel
theorem dX4_init_4 : decode cX4_init 4 = .ok (.aload_n 0, 1) := by decide +kernel
theorem dX4_init_5 : decode cX4_init 5 = .ok (.bipush 60, 2) := by decide +kernel
theorem dX4_init_7 : decode cX4_init 7 = .ok (.newarray .int, 2) := by decide +kernel
theorem dX4_init_9 : decode cX4_init 9 = .ok (.putfield 9, 3) := by decide +kernel
theorem dX4_init_12 : decode cX4_init 12 = .ok (.aload_n 0, 1) := by decide +kernel
theorem dX4_init_13 : decode cX4_init 13 = .ok (.new 13, 3) := by decide +kernel
theorem dX4_init_16 : decode cX4_init 16 = .ok (.dup, 1) := by decide +kernel
theorem dX4_init_17 : decode cX4_init 17 = .ok (.invokespecial 15, 3) := by decide +kernel
theorem dX4_init_20 : decode cX4_init 20 = .ok (.putfield 16, 3) := by decide +kernel
theorem dX4_init_23 : decode cX4_init 23 = .ok (.aload_n 0, 1) := by decide +kernel
theorem dX4_init_24 : decode cX4_init 24 = .ok (.new 20, 3) := by decide +kernel
theorem dX4_init_27 : decode cX4_init 27 = .ok (.dup, 1) := by decide +kernel
theorem dX4_init_28 : decode cX4_init 28 = .ok (.invokespecial 22, 3) := by decide +kernel
theorem dX4_init_31 : decode cX4_init 31 = .ok (.putfield 23, 3) := by decide +kernel
theorem dX4_init_34 : decode cX4_init 34 = .ok (.aload_n 0, 1) := by decide +kernel
theorem dX4_init_35 : decode cX4_init 35 = .ok (.new 20, 3) := by decide +kernel
theorem dX4_init_38 : decode cX4_init 38 = .ok (.dup, 1) := by decide +kernel
theorem dX4_init_39 : decode cX4_init 39 = .ok (.invokespecial 22, 3) := by decide +kernel
theorem dX4_init_42 : decode cX4_init 42 = .ok (.putfield 27, 3) := by decide +kernel
theorem dX4_init_45 : decode cX4_init 45 = .ok (.aload_n 0, 1) := by decide +kernel
theorem dX4_init_46 : decode cX4_init 46 = .ok (.bipush 24, 2) := by decide +kernel
theorem dX4_init_48 : decode cX4_init 48 = .ok (.newarray .int, 2) := by decide +kernel
theorem dX4_init_50 : decode cX4_init 50 = .ok (.putfield 30, 3) := by decide +kernel
theorem dX4_init_53 : decode cX4_init 53 = .ok (.aload_n 0, 1) := by decide +kernel
theorem dX4_init_54 : decode cX4_init 54 = .ok (.bipush 24, 2) := by decide +kernel
theorem dX4_init_56 : decode cX4_init 56 = .ok (.newarray .int, 2) := by decide +kernel
theorem dX4_init_58 : decode cX4_init 58 = .ok (.putfield 33, 3) := by decide +kernel
theorem dX4_init_61 : decode cX4_init 61 = .ok (.aload_n 0, 1) := by decide +kernel
theorem dX4_init_62 : decode cX4_init 62 = .ok (.iconst (-1), 1) := by decide +kernel
theorem dX4_init_63 : decode cX4_init 63 = .ok (.putfield 36, 3) := by decide +kernel
theorem dX4_init_66 : decode cX4_init 66 = .ok (.aload_n 0, 1) := by decide +kernel
theorem dX4_init_67 : decode cX4_init 67 = .ok (.iconst (-1), 1) := by decide +kernel
theorem dX4_init_68 : decode cX4_init 68 = .ok (.putfield 40, 3) := by decide +kernel
theorem dX4_init_71 : decode cX4_init 71 = .ok (.return_, 1) := by decide +kernel
set_option maxRecDepth 20000 in
theorem ggX4_feed_X4_tapeInt : GoodIn wsX4_feed wsX4_tapeInt := goodIn_r _ [6, 1, 7, 8, 9, 10, 11, 12, 13, 14, 15, 16, 17, 18] (by decide +kernel) (by decide +kernel)
set_option maxRecDepth 20000 in
theorem gX4_feed_X4_tapeInt : GoodIn wsX4_feed (wsV RX4 46 RX4 yX4_tapeInt wsX4_tapeInt) := goodIn_app (goodIn_of _ (by decide +kernel)) ggX4_feed_X4_tapeInt
theorem dX4_feed_0 : decode cX4_feed 0 = .ok (.aload_n 0, 1) := by decide +kernel
theorem dX4_feed_1 : decode cX4_feed 1 = .ok (.getfield 43, 3) := by decide +kernel
theorem dX4_feed_4 : decode cX4_feed 4 = .ok (.bipush 20, 2) := by decide +kernel
theorem dX4_feed_6 : decode cX4_feed 6 = .ok (.iadd, 1) := by decide +kernel
theorem dX4_feed_7 : decode cX4_feed 7 = .ok (.bipush 60, 2) := by decide +kernel
theorem dX4_feed_9 : decode cX4_feed 9 = .ok (.if_icmp .le 7, 3) := by decide +kernel
theorem dX4_feed_12 : decode cX4_feed 12 = .ok (.sipush (-10000), 3) := by decide +kernel
theorem dX4_feed_15 : decode cX4_feed 15 = .ok (.ireturn, 1) := by decide +kernel
theorem dX4_feed_16 : decode cX4_feed 16 = .ok (.aload_n 0, 1) := by decide +kernel
theorem dX4_feed_17 : decode cX4_feed 17 = .ok (.iload_n 1, 1) := by decide +kernel
theorem dX4_feed_18 : decode cX4_feed 18 = .ok (.invokevirtual 46, 3) := by decide +kernel
theorem dX4_feed_21 : decode cX4_feed 21 = .ok (.aload_n 0, 1) := by decide +kernel
theorem dX4_feed_22 : decode cX4_feed 22 = .ok (.iload_n 2, 1) := by decide +kernel
theorem dX4_feed_23 : decode cX4_feed 23 = .ok (.invokevirtual 46, 3) := by decide +kernel
theorem dX4_feed_26 : decode cX4_feed 26 = .ok (.aload_n 0, 1) := by decide +kernel
theorem dX4_feed_27 : decode cX4_feed 27 = .ok (.iload_n 3, 1) := by decide +kernel
theorem dX4_feed_28 : decode cX4_feed 28 = .ok (.invokevirtual 46, 3) := by decide +kernel
theorem dX4_feed_31 : decode cX4_feed 31 = .ok (.aload_n 0, 1) := by decide +kernel
theorem dX4_feed_32 : decode cX4_feed 32 = .ok (.iload 4, 2) := by decide +kernel
theorem dX4_feed_34 : decode cX4_feed 34 = .ok (.invokevirtual 46, 3) := by decide +kernel
theorem dX4_feed_37 : decode cX4_feed 37 = .ok (.aload_n 0, 1) := by decide +kernel
theorem dX4_feed_38 : decode cX4_feed 38 = .ok (.iload 5, 2) := by decide +kernel
theorem dX4_feed_40 : decode cX4_feed 40 = .ok (.invokevirtual 46, 3) := by decide +kernel
theorem dX4_feed_43 : decode cX4_feed 43 = .ok (.aload_n 0, 1) := by decide +kernel
theorem dX4_feed_44 : decode cX4_feed 44 = .ok (.getfield 43, 3) := by decide +kernel
theorem dX4_feed_47 : decode cX4_feed 47 = .ok (.ireturn, 1) := by decide +kernel
set_option maxRecDepth 20000 in
theorem ggX4_rules_X2_read : GoodIn wsX4_rules wsX2_read := goodIn_r _ [7, 8, 9, 10, 11, 12, 13, 14, 15, 16, 5, 17, 18, 19, 20, 21, 22, 23, 24, 25, 26, 27, 28, 29, 51, 52] (by decide +kernel) (by decide +kernel)
set_option maxRecDepth 20000 in
theorem gX4_rules_X2_read_n54 : GoodIn wsX4_rules (wsX2_read) := ggX4_rules_X2_read
theorem dX4_rules_0 : decode cX4_rules 0 = .ok (.iload_n 1, 1) := by decide +kernel
theorem dX4_rules_1 : decode cX4_rules 1 = .ok (.ifCond .lt 11, 3) := by decide +kernel
theorem dX4_rules_4 : decode cX4_rules 4 = .ok (.iload_n 1, 1) := by decide +kernel
theorem dX4_rules_5 : decode cX4_rules 5 = .ok (.aload_n 0, 1) := by decide +kernel
theorem dX4_rules_6 : decode cX4_rules 6 = .ok (.getfield 43, 3) := by decide +kernel
theorem dX4_rules_9 : decode cX4_rules 9 = .ok (.if_icmp .le 7, 3) := by decide +kernel
theorem dX4_rules_12 : decode cX4_rules 12 = .ok (.sipush (-10000), 3) := by decide +kernel
theorem dX4_rules_15 : decode cX4_rules 15 = .ok (.ireturn, 1) := by decide +kernel
theorem dX4_rules_16 : decode cX4_rules 16 = .ok (.aload_n 0, 1) := by decide +kernel
theorem dX4_rules_17 : decode cX4_rules 17 = .ok (.iconst 0, 1) := by decide +kernel
theorem dX4_rules_18 : decode cX4_rules 18 = .ok (.putfield 43, 3) := by decide +kernel
theorem dX4_rules_21 : decode cX4_rules 21 = .ok (.aload_n 0, 1) := by decide +kernel
theorem dX4_rules_22 : decode cX4_rules 22 = .ok (.getfield 16, 3) := by decide +kernel
theorem dX4_rules_25 : decode cX4_rules 25 = .ok (.getfield 50, 3) := by decide +kernel
theorem dX4_rules_28 : decode cX4_rules 28 = .ok (.aload_n 0, 1) := by decide +kernel
theorem dX4_rules_29 : decode cX4_rules 29 = .ok (.getfield 9, 3) := by decide +kernel
theorem dX4_rules_32 : decode cX4_rules 32 = .ok (.iload_n 1, 1) := by decide +kernel
theorem dX4_rules_33 : decode cX4_rules 33 = .ok (.invokevirtual 54, 3) := by decide +kernel
theorem dX4_rules_36 : decode cX4_rules 36 = .ok (.ireturn, 1) := by decide +kernel
set_option maxRecDepth 20000 in
theorem ggX4_rule_X2_isLetter : GoodIn wsX4_rule wsX2_isLetter := goodIn_r _ [4] (by decide +kernel) (by decide +kernel)
set_option maxRecDepth 20000 in
theorem gX4_rule_X2_isLetter_n60 : GoodIn wsX4_rule (wsX2_isLetter) := ggX4_rule_X2_isLetter
set_option maxRecDepth 20000 in
theorem ggX4_rule_X2_number : GoodIn wsX4_rule wsX2_number := goodIn_r _ [7, 8, 9, 2, 3, 4, 31, 32] (by decide +kernel) (by decide +kernel)
set_option maxRecDepth 20000 in
theorem gX4_rule_X2_number_n64 : GoodIn wsX4_rule (wsX2_number) := ggX4_rule_X2_number
theorem dX4_rule_0 : decode cX4_rule 0 = .ok (.iload_n 1, 1) := by decide +kernel
theorem dX4_rule_1 : decode cX4_rule 1 = .ok (.invokestatic 60, 3) := by decide +kernel
theorem dX4_rule_4 : decode cX4_rule 4 = .ok (.ifCond .eq 17, 3) := by decide +kernel
theorem dX4_rule_7 : decode cX4_rule 7 = .ok (.aload_n 0, 1) := by decide +kernel
theorem dX4_rule_8 : decode cX4_rule 8 = .ok (.getfield 16, 3) := by decide +kernel
theorem dX4_rule_11 : decode cX4_rule 11 = .ok (.getfield 50, 3) := by decide +kernel
theorem dX4_rule_14 : decode cX4_rule 14 = .ok (.iload_n 1, 1) := by decide +kernel
theorem dX4_rule_15 : decode cX4_rule 15 = .ok (.invokevirtual 64, 3) := by decide +kernel
theorem dX4_rule_18 : decode cX4_rule 18 = .ok (.goto 6, 3) := by decide +kernel
theorem dX4_rule_21 : decode cX4_rule 21 = .ok (.sipush (-10000), 3) := by decide +kernel
theorem dX4_rule_24 : decode cX4_rule 24 = .ok (.ireturn, 1) := by decide +kernel
set_option maxRecDepth 20000 in
theorem ggX4_jumper_X4_isTeam : GoodIn wsX4_jumper wsX4_isTeam := goodIn_r _ [7] (by decide +kernel) (by decide +kernel)
set_option maxRecDepth 20000 in
theorem gX4_jumper_X4_isTeam : GoodIn wsX4_jumper (wsV RX4 68 RX4 yX4_isTeam wsX4_isTeam) := goodIn_app (goodIn_of _ (by decide +kernel)) ggX4_jumper_X4_isTeam
theorem dX4_jumper_0 : decode cX4_jumper 0 = .ok (.aload_n 0, 1) := by decide +kernel
theorem dX4_jumper_1 : decode cX4_jumper 1 = .ok (.iload_n 1, 1) := by decide +kernel
theorem dX4_jumper_2 : decode cX4_jumper 2 = .ok (.invokevirtual 68, 3) := by decide +kernel
theorem dX4_jumper_5 : decode cX4_jumper 5 = .ok (.ifCond .eq 19, 3) := by decide +kernel
theorem dX4_jumper_8 : decode cX4_jumper 8 = .ok (.aload_n 0, 1) := by decide +kernel
theorem dX4_jumper_9 : decode cX4_jumper 9 = .ok (.getfield 71, 3) := by decide +kernel
theorem dX4_jumper_12 : decode cX4_jumper 12 = .ok (.ifCond .lt 12, 3) := by decide +kernel
theorem dX4_jumper_15 : decode cX4_jumper 15 = .ok (.aload_n 0, 1) := by decide +kernel
theorem dX4_jumper_16 : decode cX4_jumper 16 = .ok (.getfield 71, 3) := by decide +kernel
theorem dX4_jumper_19 : decode cX4_jumper 19 = .ok (.bipush 24, 2) := by decide +kernel
theorem dX4_jumper_21 : decode cX4_jumper 21 = .ok (.if_icmp .lt 7, 3) := by decide +kernel
theorem dX4_jumper_24 : decode cX4_jumper 24 = .ok (.sipush (-10000), 3) := by decide +kernel
theorem dX4_jumper_27 : decode cX4_jumper 27 = .ok (.ireturn, 1) := by decide +kernel
theorem dX4_jumper_28 : decode cX4_jumper 28 = .ok (.aload_n 0, 1) := by decide +kernel
theorem dX4_jumper_29 : decode cX4_jumper 29 = .ok (.getfield 71, 3) := by decide +kernel
theorem dX4_jumper_32 : decode cX4_jumper 32 = .ok (.istore_n 2, 1) := by decide +kernel
theorem dX4_jumper_33 : decode cX4_jumper 33 = .ok (.aload_n 0, 1) := by decide +kernel
theorem dX4_jumper_34 : decode cX4_jumper 34 = .ok (.getfield 30, 3) := by decide +kernel
theorem dX4_jumper_37 : decode cX4_jumper 37 = .ok (.iload_n 2, 1) := by decide +kernel
theorem dX4_jumper_38 : decode cX4_jumper 38 = .ok (.iload_n 1, 1) := by decide +kernel
theorem dX4_jumper_39 : decode cX4_jumper 39 = .ok (.iastore, 1) := by decide +kernel
theorem dX4_jumper_40 : decode cX4_jumper 40 = .ok (.aload_n 0, 1) := by decide +kernel
theorem dX4_jumper_41 : decode cX4_jumper 41 = .ok (.iload_n 2, 1) := by decide +kernel
theorem dX4_jumper_42 : decode cX4_jumper 42 = .ok (.iconst 1, 1) := by decide +kernel
theorem dX4_jumper_43 : decode cX4_jumper 43 = .ok (.iadd, 1) := by decide +kernel
theorem dX4_jumper_44 : decode cX4_jumper 44 = .ok (.putfield 71, 3) := by decide +kernel
theorem dX4_jumper_47 : decode cX4_jumper 47 = .ok (.iload_n 2, 1) := by decide +kernel
theorem dX4_jumper_48 : decode cX4_jumper 48 = .ok (.ireturn, 1) := by decide +kernel
set_option maxRecDepth 20000 in
theorem ggX4_sensor_X4_isSensor : GoodIn wsX4_sensor wsX4_isSensor := goodIn_r _ [6] (by decide +kernel) (by decide +kernel)
set_option maxRecDepth 20000 in
theorem gX4_sensor_X4_isSensor : GoodIn wsX4_sensor (wsV RX4 74 RX4 yX4_isSensor wsX4_isSensor) := goodIn_app (goodIn_of _ (by decide +kernel)) ggX4_sensor_X4_isSensor
theorem dX4_sensor_0 : decode cX4_sensor 0 = .ok (.aload_n 0, 1) := by decide +kernel
theorem dX4_sensor_1 : decode cX4_sensor 1 = .ok (.iload_n 1, 1) := by decide +kernel
theorem dX4_sensor_2 : decode cX4_sensor 2 = .ok (.invokevirtual 74, 3) := by decide +kernel
theorem dX4_sensor_5 : decode cX4_sensor 5 = .ok (.ifCond .eq 13, 3) := by decide +kernel
theorem dX4_sensor_8 : decode cX4_sensor 8 = .ok (.iload_n 2, 1) := by decide +kernel
theorem dX4_sensor_9 : decode cX4_sensor 9 = .ok (.ifCond .lt 9, 3) := by decide +kernel
theorem dX4_sensor_12 : decode cX4_sensor 12 = .ok (.iload_n 2, 1) := by decide +kernel
theorem dX4_sensor_13 : decode cX4_sensor 13 = .ok (.bipush 9, 2) := by decide +kernel
theorem dX4_sensor_15 : decode cX4_sensor 15 = .ok (.if_icmp .le 5, 3) := by decide +kernel
theorem dX4_sensor_18 : decode cX4_sensor 18 = .ok (.iconst 0, 1) := by decide +kernel
theorem dX4_sensor_19 : decode cX4_sensor 19 = .ok (.ireturn, 1) := by decide +kernel
theorem dX4_sensor_20 : decode cX4_sensor 20 = .ok (.aload_n 0, 1) := by decide +kernel
theorem dX4_sensor_21 : decode cX4_sensor 21 = .ok (.getfield 16, 3) := by decide +kernel
theorem dX4_sensor_24 : decode cX4_sensor 24 = .ok (.getfield 77, 3) := by decide +kernel
theorem dX4_sensor_27 : decode cX4_sensor 27 = .ok (.iload_n 1, 1) := by decide +kernel
theorem dX4_sensor_28 : decode cX4_sensor 28 = .ok (.iload_n 2, 1) := by decide +kernel
theorem dX4_sensor_29 : decode cX4_sensor 29 = .ok (.iastore, 1) := by decide +kernel
theorem dX4_sensor_30 : decode cX4_sensor 30 = .ok (.iconst 1, 1) := by decide +kernel
theorem dX4_sensor_31 : decode cX4_sensor 31 = .ok (.ireturn, 1) := by decide +kernel
set_option maxRecDepth 20000 in
theorem ggX4_base_X4_isGate : GoodIn wsX4_base wsX4_isGate := goodIn_r _ [6] (by decide +kernel) (by decide +kernel)
set_option maxRecDepth 20000 in
theorem gX4_base_X4_isGate : GoodIn wsX4_base (wsV RX4 80 RX4 yX4_isGate wsX4_isGate) := goodIn_app (goodIn_of _ (by decide +kernel)) ggX4_base_X4_isGate
theorem dX4_base_0 : decode cX4_base 0 = .ok (.aload_n 0, 1) := by decide +kernel
theorem dX4_base_1 : decode cX4_base 1 = .ok (.iload_n 1, 1) := by decide +kernel
theorem dX4_base_2 : decode cX4_base 2 = .ok (.invokevirtual 80, 3) := by decide +kernel
theorem dX4_base_5 : decode cX4_base 5 = .ok (.ifCond .ne 5, 3) := by decide +kernel
theorem dX4_base_8 : decode cX4_base 8 = .ok (.iconst 0, 1) := by decide +kernel
theorem dX4_base_9 : decode cX4_base 9 = .ok (.ireturn, 1) := by decide +kernel
theorem dX4_base_10 : decode cX4_base 10 = .ok (.aload_n 0, 1) := by decide +kernel
theorem dX4_base_11 : decode cX4_base 11 = .ok (.getfield 16, 3) := by decide +kernel
theorem dX4_base_14 : decode cX4_base 14 = .ok (.iload_n 1, 1) := by decide +kernel
theorem dX4_base_15 : decode cX4_base 15 = .ok (.putfield 83, 3) := by decide +kernel
theorem dX4_base_18 : decode cX4_base 18 = .ok (.iconst 1, 1) := by decide +kernel
theorem dX4_base_19 : decode cX4_base 19 = .ok (.ireturn, 1) := by decide +kernel
set_option maxRecDepth 20000 in
theorem ggX4_reading_X4_isJumper : GoodIn wsX4_reading wsX4_isJumper := goodIn_r _ [6, 7, 27, 28, 29, 30, 31, 32, 33, 34, 35, 36, 37] (by decide +kernel) (by decide +kernel)
set_option maxRecDepth 20000 in
theorem gX4_reading_X4_isJumper : GoodIn wsX4_reading (wsV RX4 86 RX4 yX4_isJumper wsX4_isJumper) := goodIn_app (goodIn_of _ (by decide +kernel)) ggX4_reading_X4_isJumper
set_option maxRecDepth 20000 in
theorem ggX4_reading_X4_isRound : GoodIn wsX4_reading wsX4_isRound := goodIn_r _ [11] (by decide +kernel) (by decide +kernel)
set_option maxRecDepth 20000 in
theorem gX4_reading_X4_isRound : GoodIn wsX4_reading (wsV RX4 89 RX4 yX4_isRound wsX4_isRound) := goodIn_app (goodIn_of _ (by decide +kernel)) ggX4_reading_X4_isRound
set_option maxRecDepth 20000 in
theorem ggX4_reading_X4_isGate : GoodIn wsX4_reading wsX4_isGate := goodIn_r _ [15] (by decide +kernel) (by decide +kernel)
set_option maxRecDepth 20000 in
theorem gX4_reading_X4_isGate : GoodIn wsX4_reading (wsV RX4 80 RX4 yX4_isGate wsX4_isGate) := goodIn_app (goodIn_of _ (by decide +kernel)) ggX4_reading_X4_isGate
set_option maxRecDepth 20000 in
theorem ggX4_reading_X4_jumpOf : GoodIn wsX4_reading wsX4_jumpOf := goodIn_r _ [18] (by decide +kernel) (by decide +kernel)
set_option maxRecDepth 20000 in
theorem gX4_reading_X4_jumpOf : GoodIn wsX4_reading (va_wsS RX4 98 yX4_jumpOf wsX4_jumpOf) := goodIn_app (goodIn_of _ (by decide +kernel)) ggX4_reading_X4_jumpOf
set_option maxRecDepth 20000 in
theorem ggX4_reading_X1_add : GoodIn wsX4_reading wsX1_add := goodIn_r _ [22, 23, 24, 25, 26, 48, 49, 50, 51] (by decide +kernel) (by decide +kernel)
set_option maxRecDepth 20000 in
theorem gX4_reading_X1_add_n102 : GoodIn wsX4_reading (wsX1_add) := ggX4_reading_X1_add
theorem dX4_reading_0 : decode cX4_reading 0 = .ok (.aload_n 0, 1) := by decide +kernel
theorem dX4_reading_1 : decode cX4_reading 1 = .ok (.iload_n 1, 1) := by decide +kernel
theorem dX4_reading_2 : decode cX4_reading 2 = .ok (.invokevirtual 86, 3) := by decide +kernel
theorem dX4_reading_5 : decode cX4_reading 5 = .ok (.ifCond .eq 31, 3) := by decide +kernel
theorem dX4_reading_8 : decode cX4_reading 8 = .ok (.aload_n 0, 1) := by decide +kernel
theorem dX4_reading_9 : decode cX4_reading 9 = .ok (.iload_n 2, 1) := by decide +kernel
theorem dX4_reading_10 : decode cX4_reading 10 = .ok (.invokevirtual 89, 3) := by decide +kernel
theorem dX4_reading_13 : decode cX4_reading 13 = .ok (.ifCond .eq 23, 3) := by decide +kernel
theorem dX4_reading_16 : decode cX4_reading 16 = .ok (.iload_n 3, 1) := by decide +kernel
theorem dX4_reading_17 : decode cX4_reading 17 = .ok (.ifCond .lt 19, 3) := by decide +kernel
theorem dX4_reading_20 : decode cX4_reading 20 = .ok (.iload_n 3, 1) := by decide +kernel
theorem dX4_reading_21 : decode cX4_reading 21 = .ok (.sipush 600, 3) := by decide +kernel
theorem dX4_reading_24 : decode cX4_reading 24 = .ok (.if_icmp .gt 12, 3) := by decide +kernel
theorem dX4_reading_27 : decode cX4_reading 27 = .ok (.aload_n 0, 1) := by decide +kernel
theorem dX4_reading_28 : decode cX4_reading 28 = .ok (.iload 4, 2) := by decide +kernel
theorem dX4_reading_30 : decode cX4_reading 30 = .ok (.invokevirtual 80, 3) := by decide +kernel
theorem dX4_reading_33 : decode cX4_reading 33 = .ok (.ifCond .ne 7, 3) := by decide +kernel
theorem dX4_reading_36 : decode cX4_reading 36 = .ok (.sipush (-10000), 3) := by decide +kernel
theorem dX4_reading_39 : decode cX4_reading 39 = .ok (.ireturn, 1) := by decide +kernel
theorem dX4_reading_40 : decode cX4_reading 40 = .ok (.aload_n 0, 1) := by decide +kernel
theorem dX4_reading_41 : decode cX4_reading 41 = .ok (.getfield 16, 3) := by decide +kernel
theorem dX4_reading_44 : decode cX4_reading 44 = .ok (.getfield 92, 3) := by decide +kernel
theorem dX4_reading_47 : decode cX4_reading 47 = .ok (.iconst 0, 1) := by decide +kernel
theorem dX4_reading_48 : decode cX4_reading 48 = .ok (.iload_n 1, 1) := by decide +kernel
theorem dX4_reading_49 : decode cX4_reading 49 = .ok (.iload_n 2, 1) := by decide +kernel
theorem dX4_reading_50 : decode cX4_reading 50 = .ok (.invokestatic 98, 3) := by decide +kernel
theorem dX4_reading_53 : decode cX4_reading 53 = .ok (.iload_n 3, 1) := by decide +kernel
theorem dX4_reading_54 : decode cX4_reading 54 = .ok (.iload 4, 2) := by decide +kernel
theorem dX4_reading_56 : decode cX4_reading 56 = .ok (.iload 5, 2) := by decide +kernel
theorem dX4_reading_58 : decode cX4_reading 58 = .ok (.ifCond .eq 7, 3) := by decide +kernel
theorem dX4_reading_61 : decode cX4_reading 61 = .ok (.iconst 1, 1) := by decide +kernel
theorem dX4_reading_62 : decode cX4_reading 62 = .ok (.goto 4, 3) := by decide +kernel
theorem dX4_reading_65 : decode cX4_reading 65 = .ok (.iconst 0, 1) := by decide +kernel
theorem dX4_reading_66 : decode cX4_reading 66 = .ok (.iconst 0, 1) := by decide +kernel
theorem dX4_reading_67 : decode cX4_reading 67 = .ok (.iconst 0, 1) := by decide +kernel
theorem dX4_reading_68 : decode cX4_reading 68 = .ok (.invokevirtual 102, 3) := by decide +kernel
theorem dX4_reading_71 : decode cX4_reading 71 = .ok (.ireturn, 1) := by decide +kernel
set_option maxRecDepth 20000 in
theorem ggX4_wind_X4_isWind : GoodIn wsX4_wind wsX4_isWind := goodIn_r _ [5] (by decide +kernel) (by decide +kernel)
set_option maxRecDepth 20000 in
theorem gX4_wind_X4_isWind : GoodIn wsX4_wind (wsV RX4 106 RX4 yX4_isWind wsX4_isWind) := goodIn_app (goodIn_of _ (by decide +kernel)) ggX4_wind_X4_isWind
set_option maxRecDepth 20000 in
theorem ggX4_wind_X4_addToJump : GoodIn wsX4_wind wsX4_addToJump := goodIn_r _ [9, 10, 11, 12, 13, 4, 14, 15, 16, 17, 18, 19, 20, 21, 22, 23, 24, 25, 26, 27, 28, 29, 30, 31, 32, 33, 34, 35, 36, 37, 38, 39, 40, 41, 42, 43, 44, 45, 46, 47, 48, 49, 50, 51] (by decide +kernel) (by decide +kernel)
set_option maxRecDepth 20000 in
theorem gX4_wind_X4_addToJump : GoodIn wsX4_wind (wsV RX4 109 RX4 yX4_addToJump wsX4_addToJump) := goodIn_app (goodIn_of _ (by decide +kernel)) ggX4_wind_X4_addToJump
theorem dX4_wind_0 : decode cX4_wind 0 = .ok (.aload_n 0, 1) := by decide +kernel
theorem dX4_wind_1 : decode cX4_wind 1 = .ok (.iload_n 2, 1) := by decide +kernel
theorem dX4_wind_2 : decode cX4_wind 2 = .ok (.invokevirtual 106, 3) := by decide +kernel
theorem dX4_wind_5 : decode cX4_wind 5 = .ok (.ifCond .eq 38, 3) := by decide +kernel
theorem dX4_wind_8 : decode cX4_wind 8 = .ok (.aload_n 0, 1) := by decide +kernel
theorem dX4_wind_9 : decode cX4_wind 9 = .ok (.iload_n 3, 1) := by decide +kernel
theorem dX4_wind_10 : decode cX4_wind 10 = .ok (.invokevirtual 106, 3) := by decide +kernel
theorem dX4_wind_13 : decode cX4_wind 13 = .ok (.ifCond .eq 30, 3) := by decide +kernel
theorem dX4_wind_16 : decode cX4_wind 16 = .ok (.aload_n 0, 1) := by decide +kernel
theorem dX4_wind_17 : decode cX4_wind 17 = .ok (.iload 4, 2) := by decide +kernel
theorem dX4_wind_19 : decode cX4_wind 19 = .ok (.invokevirtual 106, 3) := by decide +kernel
theorem dX4_wind_22 : decode cX4_wind 22 = .ok (.ifCond .eq 21, 3) := by decide +kernel
theorem dX4_wind_25 : decode cX4_wind 25 = .ok (.aload_n 0, 1) := by decide +kernel
theorem dX4_wind_26 : decode cX4_wind 26 = .ok (.iload 5, 2) := by decide +kernel
theorem dX4_wind_28 : decode cX4_wind 28 = .ok (.invokevirtual 106, 3) := by decide +kernel
theorem dX4_wind_31 : decode cX4_wind 31 = .ok (.ifCond .eq 12, 3) := by decide +kernel
theorem dX4_wind_34 : decode cX4_wind 34 = .ok (.aload_n 0, 1) := by decide +kernel
theorem dX4_wind_35 : decode cX4_wind 35 = .ok (.iload 6, 2) := by decide +kernel
theorem dX4_wind_37 : decode cX4_wind 37 = .ok (.invokevirtual 106, 3) := by decide +kernel
theorem dX4_wind_40 : decode cX4_wind 40 = .ok (.ifCond .ne 7, 3) := by decide +kernel
theorem dX4_wind_43 : decode cX4_wind 43 = .ok (.sipush (-10000), 3) := by decide +kernel
theorem dX4_wind_46 : decode cX4_wind 46 = .ok (.ireturn, 1) := by decide +kernel
theorem dX4_wind_47 : decode cX4_wind 47 = .ok (.aload_n 0, 1) := by decide +kernel
theorem dX4_wind_48 : decode cX4_wind 48 = .ok (.iconst 1, 1) := by decide +kernel
theorem dX4_wind_49 : decode cX4_wind 49 = .ok (.iload_n 1, 1) := by decide +kernel
theorem dX4_wind_50 : decode cX4_wind 50 = .ok (.iload_n 2, 1) := by decide +kernel
theorem dX4_wind_51 : decode cX4_wind 51 = .ok (.iload_n 3, 1) := by decide +kernel
theorem dX4_wind_52 : decode cX4_wind 52 = .ok (.iload 4, 2) := by decide +kernel
theorem dX4_wind_54 : decode cX4_wind 54 = .ok (.iload 5, 2) := by decide +kernel
theorem dX4_wind_56 : decode cX4_wind 56 = .ok (.iload 6, 2) := by decide +kernel
theorem dX4_wind_58 : decode cX4_wind 58 = .ok (.invokevirtual 109, 3) := by decide +kernel
theorem dX4_wind_61 : decode cX4_wind 61 = .ok (.ireturn, 1) := by decide +kernel
set_option maxRecDepth 20000 in
theorem ggX4_style_X4_isMark : GoodIn wsX4_style wsX4_isMark := goodIn_r _ [5] (by decide +kernel) (by decide +kernel)
set_option maxRecDepth 20000 in
theorem gX4_style_X4_isMark : GoodIn wsX4_style (wsV RX4 112 RX4 yX4_isMark wsX4_isMark) := goodIn_app (goodIn_of _ (by decide +kernel)) ggX4_style_X4_isMark
set_option maxRecDepth 20000 in
theorem ggX4_style_X4_addToJump : GoodIn wsX4_style wsX4_addToJump := goodIn_r _ [9, 10, 11, 12, 13, 4, 14, 15, 16, 17, 18, 19, 20, 21, 22, 23, 24, 25, 26, 27, 28, 29, 30, 31, 32, 33, 34, 35, 36, 37, 38, 39, 40, 41, 42, 43, 44, 45, 46, 47, 48, 49, 50, 51] (by decide +kernel) (by decide +kernel)
set_option maxRecDepth 20000 in
theorem gX4_style_X4_addToJump : GoodIn wsX4_style (wsV RX4 109 RX4 yX4_addToJump wsX4_addToJump) := goodIn_app (goodIn_of _ (by decide +kernel)) ggX4_style_X4_addToJump
theorem dX4_style_0 : decode cX4_style 0 = .ok (.aload_n 0, 1) := by decide +kernel
theorem dX4_style_1 : decode cX4_style 1 = .ok (.iload_n 2, 1) := by decide +kernel
theorem dX4_style_2 : decode cX4_style 2 = .ok (.invokevirtual 112, 3) := by decide +kernel
theorem dX4_style_5 : decode cX4_style 5 = .ok (.ifCond .eq 38, 3) := by decide +kernel
theorem dX4_style_8 : decode cX4_style 8 = .ok (.aload_n 0, 1) := by decide +kernel
theorem dX4_style_9 : decode cX4_style 9 = .ok (.iload_n 3, 1) := by decide +kernel
theorem dX4_style_10 : decode cX4_style 10 = .ok (.invokevirtual 112, 3) := by decide +kernel
theorem dX4_style_13 : decode cX4_style 13 = .ok (.ifCond .eq 30, 3) := by decide +kernel
theorem dX4_style_16 : decode cX4_style 16 = .ok (.aload_n 0, 1) := by decide +kernel
theorem dX4_style_17 : decode cX4_style 17 = .ok (.iload 4, 2) := by decide +kernel
theorem dX4_style_19 : decode cX4_style 19 = .ok (.invokevirtual 112, 3) := by decide +kernel
theorem dX4_style_22 : decode cX4_style 22 = .ok (.ifCond .eq 21, 3) := by decide +kernel
theorem dX4_style_25 : decode cX4_style 25 = .ok (.aload_n 0, 1) := by decide +kernel
theorem dX4_style_26 : decode cX4_style 26 = .ok (.iload 5, 2) := by decide +kernel
theorem dX4_style_28 : decode cX4_style 28 = .ok (.invokevirtual 112, 3) := by decide +kernel
theorem dX4_style_31 : decode cX4_style 31 = .ok (.ifCond .eq 12, 3) := by decide +kernel
theorem dX4_style_34 : decode cX4_style 34 = .ok (.aload_n 0, 1) := by decide +kernel
theorem dX4_style_35 : decode cX4_style 35 = .ok (.iload 6, 2) := by decide +kernel
theorem dX4_style_37 : decode cX4_style 37 = .ok (.invokevirtual 112, 3) := by decide +kernel
theorem dX4_style_40 : decode cX4_style 40 = .ok (.ifCond .ne 7, 3) := by decide +kernel
theorem dX4_style_43 : decode cX4_style 43 = .ok (.sipush (-10000), 3) := by decide +kernel
theorem dX4_style_46 : decode cX4_style 46 = .ok (.ireturn, 1) := by decide +kernel
theorem dX4_style_47 : decode cX4_style 47 = .ok (.aload_n 0, 1) := by decide +kernel
theorem dX4_style_48 : decode cX4_style 48 = .ok (.iconst 2, 1) := by decide +kernel
theorem dX4_style_49 : decode cX4_style 49 = .ok (.iload_n 1, 1) := by decide +kernel
theorem dX4_style_50 : decode cX4_style 50 = .ok (.iload_n 2, 1) := by decide +kernel
theorem dX4_style_51 : decode cX4_style 51 = .ok (.iload_n 3, 1) := by decide +kernel
theorem dX4_style_52 : decode cX4_style 52 = .ok (.iload 4, 2) := by decide +kernel
theorem dX4_style_54 : decode cX4_style 54 = .ok (.iload 5, 2) := by decide +kernel
theorem dX4_style_56 : decode cX4_style 56 = .ok (.iload 6, 2) := by decide +kernel
theorem dX4_style_58 : decode cX4_style 58 = .ok (.invokevirtual 109, 3) := by decide +kernel
theorem dX4_style_61 : decode cX4_style 61 = .ok (.ireturn, 1) := by decide +kernel
set_option maxRecDepth 20000 in
theorem ggX4_strike_X4_isJumper : GoodIn wsX4_strike wsX4_isJumper := goodIn_r _ [6, 7, 43, 44, 45, 46, 47, 48, 49, 50, 51, 52, 53] (by decide +kernel) (by decide +kernel)
set_option maxRecDepth 20000 in
theorem gX4_strike_X4_isJumper : GoodIn wsX4_strike (wsV RX4 86 RX4 yX4_isJumper wsX4_isJumper) := goodIn_app (goodIn_of _ (by decide +kernel)) ggX4_strike_X4_isJumper
set_option maxRecDepth 20000 in
theorem ggX4_strike_X4_isRound : GoodIn wsX4_strike wsX4_isRound := goodIn_r _ [11] (by decide +kernel) (by decide +kernel)
set_option maxRecDepth 20000 in
theorem gX4_strike_X4_isRound : GoodIn wsX4_strike (wsV RX4 89 RX4 yX4_isRound wsX4_isRound) := goodIn_app (goodIn_of _ (by decide +kernel)) ggX4_strike_X4_isRound
set_option maxRecDepth 20000 in
theorem ggX4_strike_X4_jumpOf : GoodIn wsX4_strike wsX4_jumpOf := goodIn_r _ [14] (by decide +kernel) (by decide +kernel)
set_option maxRecDepth 20000 in
theorem gX4_strike_X4_jumpOf : GoodIn wsX4_strike (va_wsS RX4 98 yX4_jumpOf wsX4_jumpOf) := goodIn_app (goodIn_of _ (by decide +kernel)) ggX4_strike_X4_jumpOf
set_option maxRecDepth 20000 in
theorem ggX4_strike_X3_know : GoodIn wsX4_strike wsX3_know := goodIn_r _ [18, 19, 20, 21, 22, 23, 24, 54, 55, 56, 57, 58, 59, 60, 61, 62, 63, 64, 65, 66, 67] (by decide +kernel) (by decide +kernel)
set_option maxRecDepth 20000 in
theorem gX4_strike_X3_know_n118 : GoodIn wsX4_strike (wsX3_know) := ggX4_strike_X3_know
set_option maxRecDepth 20000 in
theorem ggX4_strike_X3_isStruck : GoodIn wsX4_strike wsX3_isStruck := goodIn_r _ [27, 20, 28, 29, 30, 16, 31, 19, 32, 33, 34, 35, 36, 54, 55, 56, 57, 58, 59, 60, 61, 62, 63, 64, 65, 66, 67] (by decide +kernel) (by decide +kernel)
set_option maxRecDepth 20000 in
theorem gX4_strike_X3_isStruck_n121 : GoodIn wsX4_strike (wsX3_isStruck) := ggX4_strike_X3_isStruck
set_option maxRecDepth 20000 in
theorem ggX4_strike_X1_add : GoodIn wsX4_strike wsX1_add := goodIn_r _ [39, 40, 41, 42, 36, 64, 65, 66, 67] (by decide +kernel) (by decide +kernel)
set_option maxRecDepth 20000 in
theorem gX4_strike_X1_add_n102 : GoodIn wsX4_strike (wsX1_add) := ggX4_strike_X1_add
theorem dX4_strike_0 : decode cX4_strike 0 = .ok (.aload_n 0, 1) := by decide +kernel
theorem dX4_strike_1 : decode cX4_strike 1 = .ok (.iload_n 1, 1) := by decide +kernel
theorem dX4_strike_2 : decode cX4_strike 2 = .ok (.invokevirtual 86, 3) := by decide +kernel
theorem dX4_strike_5 : decode cX4_strike 5 = .ok (.ifCond .eq 11, 3) := by decide +kernel
theorem dX4_strike_8 : decode cX4_strike 8 = .ok (.aload_n 0, 1) := by decide +kernel
theorem dX4_strike_9 : decode cX4_strike 9 = .ok (.iload_n 2, 1) := by decide +kernel
theorem dX4_strike_10 : decode cX4_strike 10 = .ok (.invokevirtual 89, 3) := by decide +kernel
theorem dX4_strike_13 : decode cX4_strike 13 = .ok (.ifCond .ne 7, 3) := by decide +kernel
theorem dX4_strike_16 : decode cX4_strike 16 = .ok (.sipush (-10000), 3) := by decide +kernel
theorem dX4_strike_19 : decode cX4_strike 19 = .ok (.ireturn, 1) := by decide +kernel
theorem dX4_strike_20 : decode cX4_strike 20 = .ok (.iload_n 1, 1) := by decide +kernel
theorem dX4_strike_21 : decode cX4_strike 21 = .ok (.iload_n 2, 1) := by decide +kernel
theorem dX4_strike_22 : decode cX4_strike 22 = .ok (.invokestatic 98, 3) := by decide +kernel
theorem dX4_strike_25 : decode cX4_strike 25 = .ok (.istore 4, 2) := by decide +kernel
theorem dX4_strike_27 : decode cX4_strike 27 = .ok (.aload_n 0, 1) := by decide +kernel
theorem dX4_strike_28 : decode cX4_strike 28 = .ok (.getfield 16, 3) := by decide +kernel
theorem dX4_strike_31 : decode cX4_strike 31 = .ok (.aload_n 0, 1) := by decide +kernel
theorem dX4_strike_32 : decode cX4_strike 32 = .ok (.getfield 16, 3) := by decide +kernel
theorem dX4_strike_35 : decode cX4_strike 35 = .ok (.getfield 92, 3) := by decide +kernel
theorem dX4_strike_38 : decode cX4_strike 38 = .ok (.getfield 115, 3) := by decide +kernel
theorem dX4_strike_41 : decode cX4_strike 41 = .ok (.invokevirtual 118, 3) := by decide +kernel
theorem dX4_strike_44 : decode cX4_strike 44 = .ok (.aload_n 0, 1) := by decide +kernel
theorem dX4_strike_45 : decode cX4_strike 45 = .ok (.getfield 16, 3) := by decide +kernel
theorem dX4_strike_48 : decode cX4_strike 48 = .ok (.iload 4, 2) := by decide +kernel
theorem dX4_strike_50 : decode cX4_strike 50 = .ok (.invokevirtual 121, 3) := by decide +kernel
theorem dX4_strike_53 : decode cX4_strike 53 = .ok (.iload_n 3, 1) := by decide +kernel
theorem dX4_strike_54 : decode cX4_strike 54 = .ok (.if_icmp .ne 7, 3) := by decide +kernel
theorem dX4_strike_57 : decode cX4_strike 57 = .ok (.sipush (-10000), 3) := by decide +kernel
theorem dX4_strike_60 : decode cX4_strike 60 = .ok (.ireturn, 1) := by decide +kernel
theorem dX4_strike_61 : decode cX4_strike 61 = .ok (.aload_n 0, 1) := by decide +kernel
theorem dX4_strike_62 : decode cX4_strike 62 = .ok (.getfield 16, 3) := by decide +kernel
theorem dX4_strike_65 : decode cX4_strike 65 = .ok (.getfield 92, 3) := by decide +kernel
theorem dX4_strike_68 : decode cX4_strike 68 = .ok (.iconst 3, 1) := by decide +kernel
theorem dX4_strike_69 : decode cX4_strike 69 = .ok (.iload 4, 2) := by decide +kernel
theorem dX4_strike_71 : decode cX4_strike 71 = .ok (.iload_n 3, 1) := by decide +kernel
theorem dX4_strike_72 : decode cX4_strike 72 = .ok (.ifCond .eq 7, 3) := by decide +kernel
theorem dX4_strike_75 : decode cX4_strike 75 = .ok (.iconst 1, 1) := by decide +kernel
theorem dX4_strike_76 : decode cX4_strike 76 = .ok (.goto 4, 3) := by decide +kernel
theorem dX4_strike_79 : decode cX4_strike 79 = .ok (.iconst 0, 1) := by decide +kernel
theorem dX4_strike_80 : decode cX4_strike 80 = .ok (.iconst 0, 1) := by decide +kernel
theorem dX4_strike_81 : decode cX4_strike 81 = .ok (.iconst 0, 1) := by decide +kernel
theorem dX4_strike_82 : decode cX4_strike 82 = .ok (.iconst 0, 1) := by decide +kernel
theorem dX4_strike_83 : decode cX4_strike 83 = .ok (.iconst 0, 1) := by decide +kernel
theorem dX4_strike_84 : decode cX4_strike 84 = .ok (.invokevirtual 102, 3) := by decide +kernel
theorem dX4_strike_87 : decode cX4_strike 87 = .ok (.ireturn, 1) := by decide +kernel
set_option maxRecDepth 20000 in
theorem ggX4_points_X4_isKnowing : GoodIn wsX4_points wsX4_isKnowing := goodIn_r _ [6, 1, 101, 102, 103, 104, 105, 106, 107, 108, 109, 110, 111, 112, 113, 114, 115, 116, 117, 118, 119, 120, 121, 122, 123, 124, 125] (by decide +kernel) (by decide +kernel)
set_option maxRecDepth 20000 in
theorem gX4_points_X4_isKnowing : GoodIn wsX4_points (wsV RX4 124 RX4 yX4_isKnowing wsX4_isKnowing) := goodIn_app (goodIn_of _ (by decide +kernel)) ggX4_points_X4_isKnowing
set_option maxRecDepth 20000 in
theorem ggX4_points_X4_isJumper : GoodIn wsX4_points wsX4_isJumper := goodIn_r _ [10, 11, 101, 102, 103, 104, 105, 106, 107, 108, 109, 110, 111] (by decide +kernel) (by decide +kernel)
set_option maxRecDepth 20000 in
theorem gX4_points_X4_isJumper : GoodIn wsX4_points (wsV RX4 86 RX4 yX4_isJumper wsX4_isJumper) := goodIn_app (goodIn_of _ (by decide +kernel)) ggX4_points_X4_isJumper
set_option maxRecDepth 20000 in
theorem ggX4_points_X4_isRound : GoodIn wsX4_points wsX4_isRound := goodIn_r _ [15] (by decide +kernel) (by decide +kernel)
set_option maxRecDepth 20000 in
theorem gX4_points_X4_isRound : GoodIn wsX4_points (wsV RX4 89 RX4 yX4_isRound wsX4_isRound) := goodIn_app (goodIn_of _ (by decide +kernel)) ggX4_points_X4_isRound
set_option maxRecDepth 20000 in
theorem ggX4_points_X3_know : GoodIn wsX4_points wsX3_know := goodIn_r _ [19, 20, 21, 22, 23, 24, 25, 112, 113, 114, 115, 116, 117, 118, 119, 120, 121, 122, 123, 124, 125] (by decide +kernel) (by decide +kernel)
set_option maxRecDepth 20000 in
theorem gX4_points_X3_know_n118 : GoodIn wsX4_points (wsX3_know) := ggX4_points_X3_know
set_option maxRecDepth 20000 in
theorem ggX4_points_X4_jumpOf : GoodIn wsX4_points wsX4_jumpOf := goodIn_r _ [28] (by decide +kernel) (by decide +kernel)
set_option maxRecDepth 20000 in
theorem gX4_points_X4_jumpOf : GoodIn wsX4_points (va_wsS RX4 98 yX4_jumpOf wsX4_jumpOf) := goodIn_app (goodIn_of _ (by decide +kernel)) ggX4_points_X4_jumpOf
set_option maxRecDepth 20000 in
theorem ggX4_points_X3_measure : GoodIn wsX4_points wsX3_measure := goodIn_r _ [31, 32, 33, 21, 34, 35, 36, 37, 38, 39, 40, 17, 41, 20, 42, 43, 44, 45, 46, 47, 48, 49, 50, 51, 52, 53, 54, 55, 56, 57, 58, 59, 60, 61, 62, 63, 64, 65, 66, 67, 68, 69, 70, 71, 72, 73, 74, 75, 76, 77, 78, 79, 80, 81, 82, 83, 84, 85, 86, 87, 88, 89, 112, 113, 114, 115, 116, 117, 118, 119, 120, 121, 122, 123, 124, 125, 126, 127] (by decide +kernel) (by decide +kernel)
set_option maxRecDepth 20000 in
theorem gX4_points_X3_measure_n127 : GoodIn wsX4_points (wsX3_measure) := ggX4_points_X3_measure
set_option maxRecDepth 20000 in
theorem ggX4_points_X4_partOfPoints : GoodIn wsX4_points wsX4_partOfPoints := goodIn_r _ [93, 1, 94, 17, 95, 96, 34, 35, 36, 37, 82, 83, 57, 84, 97, 98, 99, 100, 101, 102, 103, 104, 105, 106, 107, 108, 109, 110, 111, 112, 113, 114, 115, 116, 117, 118, 119, 120, 121] (by decide +kernel) (by decide +kernel)
set_option maxRecDepth 20000 in
theorem gX4_points_X4_partOfPoints : GoodIn wsX4_points (wsV RX4 133 RX4 yX4_partOfPoints wsX4_partOfPoints) := goodIn_app (goodIn_of _ (by decide +kernel)) ggX4_points_X4_partOfPoints
theorem dX4_points_0 : decode cX4_points 0 = .ok (.aload_n 0, 1) := by decide +kernel
theorem dX4_points_1 : decode cX4_points 1 = .ok (.iload_n 1, 1) := by decide +kernel
theorem dX4_points_2 : decode cX4_points 2 = .ok (.invokevirtual 124, 3) := by decide +kernel
theorem dX4_points_5 : decode cX4_points 5 = .ok (.ifCond .eq 31, 3) := by decide +kernel
theorem dX4_points_8 : decode cX4_points 8 = .ok (.aload_n 0, 1) := by decide +kernel
theorem dX4_points_9 : decode cX4_points 9 = .ok (.iload_n 2, 1) := by decide +kernel
theorem dX4_points_10 : decode cX4_points 10 = .ok (.invokevirtual 86, 3) := by decide +kernel
theorem dX4_points_13 : decode cX4_points 13 = .ok (.ifCond .eq 23, 3) := by decide +kernel
theorem dX4_points_16 : decode cX4_points 16 = .ok (.aload_n 0, 1) := by decide +kernel
theorem dX4_points_17 : decode cX4_points 17 = .ok (.iload_n 3, 1) := by decide +kernel
theorem dX4_points_18 : decode cX4_points 18 = .ok (.invokevirtual 89, 3) := by decide +kernel
theorem dX4_points_21 : decode cX4_points 21 = .ok (.ifCond .eq 15, 3) := by decide +kernel
theorem dX4_points_24 : decode cX4_points 24 = .ok (.iload 4, 2) := by decide +kernel
theorem dX4_points_26 : decode cX4_points 26 = .ok (.ifCond .lt 10, 3) := by decide +kernel
theorem dX4_points_29 : decode cX4_points 29 = .ok (.iload 4, 2) := by decide +kernel
theorem dX4_points_31 : decode cX4_points 31 = .ok (.bipush 7, 2) := by decide +kernel
theorem dX4_points_33 : decode cX4_points 33 = .ok (.if_icmp .le 7, 3) := by decide +kernel
theorem dX4_points_36 : decode cX4_points 36 = .ok (.sipush (-10000), 3) := by decide +kernel
theorem dX4_points_39 : decode cX4_points 39 = .ok (.ireturn, 1) := by decide +kernel
theorem dX4_points_40 : decode cX4_points 40 = .ok (.aload_n 0, 1) := by decide +kernel
theorem dX4_points_41 : decode cX4_points 41 = .ok (.getfield 16, 3) := by decide +kernel
theorem dX4_points_44 : decode cX4_points 44 = .ok (.iload_n 1, 1) := by decide +kernel
theorem dX4_points_45 : decode cX4_points 45 = .ok (.invokevirtual 118, 3) := by decide +kernel
theorem dX4_points_48 : decode cX4_points 48 = .ok (.aload_n 0, 1) := by decide +kernel
theorem dX4_points_49 : decode cX4_points 49 = .ok (.getfield 16, 3) := by decide +kernel
theorem dX4_points_52 : decode cX4_points 52 = .ok (.iload_n 2, 1) := by decide +kernel
theorem dX4_points_53 : decode cX4_points 53 = .ok (.iload_n 3, 1) := by decide +kernel
theorem dX4_points_54 : decode cX4_points 54 = .ok (.invokestatic 98, 3) := by decide +kernel
theorem dX4_points_57 : decode cX4_points 57 = .ok (.invokevirtual 127, 3) := by decide +kernel
theorem dX4_points_60 : decode cX4_points 60 = .ok (.istore 5, 2) := by decide +kernel
theorem dX4_points_62 : decode cX4_points 62 = .ok (.iload 4, 2) := by decide +kernel
theorem dX4_points_64 : decode cX4_points 64 = .ok (.bipush 7, 2) := by decide +kernel
theorem dX4_points_66 : decode cX4_points 66 = .ok (.if_icmp .ne 11, 3) := by decide +kernel
theorem dX4_points_69 : decode cX4_points 69 = .ok (.aload_n 0, 1) := by decide +kernel
theorem dX4_points_70 : decode cX4_points 70 = .ok (.getfield 16, 3) := by decide +kernel
theorem dX4_points_73 : decode cX4_points 73 = .ok (.getfield 130, 3) := by decide +kernel
theorem dX4_points_76 : decode cX4_points 76 = .ok (.ireturn, 1) := by decide +kernel
theorem dX4_points_77 : decode cX4_points 77 = .ok (.iload 5, 2) := by decide +kernel
theorem dX4_points_79 : decode cX4_points 79 = .ok (.ifCond .eq 12, 3) := by decide +kernel
theorem dX4_points_82 : decode cX4_points 82 = .ok (.aload_n 0, 1) := by decide +kernel
theorem dX4_points_83 : decode cX4_points 83 = .ok (.iload 4, 2) := by decide +kernel
theorem dX4_points_85 : decode cX4_points 85 = .ok (.invokevirtual 133, 3) := by decide +kernel
theorem dX4_points_88 : decode cX4_points 88 = .ok (.goto 6, 3) := by decide +kernel
theorem dX4_points_91 : decode cX4_points 91 = .ok (.sipush (-10000), 3) := by decide +kernel
theorem dX4_points_94 : decode cX4_points 94 = .ok (.ireturn, 1) := by decide +kernel
set_option maxRecDepth 20000 in
theorem ggX4_told_X4_isJumper : GoodIn wsX4_told wsX4_isJumper := goodIn_r _ [10, 5, 125, 126, 127, 128, 129, 130, 131, 132, 133, 134, 135] (by decide +kernel) (by decide +kernel)
set_option maxRecDepth 20000 in
theorem gX4_told_X4_isJumper : GoodIn wsX4_told (wsV RX4 86 RX4 yX4_isJumper wsX4_isJumper) := goodIn_app (goodIn_of _ (by decide +kernel)) ggX4_told_X4_isJumper
set_option maxRecDepth 20000 in
theorem ggX4_told_X4_isKnowing : GoodIn wsX4_told wsX4_isKnowing := goodIn_r _ [14, 4, 125, 126, 127, 128, 129, 130, 131, 132, 133, 134, 135, 136, 137, 138, 139, 140, 141, 142, 143, 144, 145, 146, 147, 148, 149] (by decide +kernel) (by decide +kernel)
set_option maxRecDepth 20000 in
theorem gX4_told_X4_isKnowing : GoodIn wsX4_told (wsV RX4 124 RX4 yX4_isKnowing wsX4_isKnowing) := goodIn_app (goodIn_of _ (by decide +kernel)) ggX4_told_X4_isKnowing
set_option maxRecDepth 20000 in
theorem ggX4_told_X0_draw : GoodIn wsX4_told wsX0_draw := goodIn_r _ [18, 19, 20, 21, 22, 23, 24, 25, 26, 27, 28, 29, 30, 31, 32, 33, 34, 35, 36, 37, 38, 39, 40, 41, 42, 43, 44, 45, 46, 47, 48, 49, 50, 51, 52, 53, 54, 55, 56, 57, 58, 59, 60, 61, 62, 63, 64, 65, 66, 67, 68, 69, 70, 71, 72, 73, 74, 75, 76, 77, 78, 79, 80, 81, 82, 83, 84, 85, 86, 87, 88, 89, 90, 91, 92, 93, 94, 95, 96, 97, 98, 99, 100, 16, 101, 102, 103, 104, 105, 106, 107, 108, 109, 110, 111, 150, 151, 152, 153, 154, 155, 156, 136, 137, 138, 139, 140, 141, 142, 143, 144, 145, 146, 147, 148, 149, 157, 158] (by decide +kernel) (by decide +kernel)
set_option maxRecDepth 20000 in
theorem gX4_told_X0_draw_n136 : GoodIn wsX4_told (wsX0_draw) := ggX4_told_X0_draw
set_option maxRecDepth 20000 in
theorem ggX4_told_X0_isThrough : GoodIn wsX4_told wsX0_isThrough := goodIn_r _ [114, 22, 150, 151, 152, 153, 154, 155, 156] (by decide +kernel) (by decide +kernel)
set_option maxRecDepth 20000 in
theorem gX4_told_X0_isThrough_n140 : GoodIn wsX4_told (wsX0_isThrough) := ggX4_told_X0_isThrough
set_option maxRecDepth 20000 in
theorem ggX4_told_X0_isListed : GoodIn wsX4_told wsX0_isListed := goodIn_r _ [117, 118, 119, 120, 16, 121, 106, 150, 151, 152, 153, 154, 155, 156] (by decide +kernel) (by decide +kernel)
set_option maxRecDepth 20000 in
theorem gX4_told_X0_isListed_n143 : GoodIn wsX4_told (wsX0_isListed) := ggX4_told_X0_isListed
set_option maxRecDepth 20000 in
theorem ggX4_told_X0_totalOf : GoodIn wsX4_told wsX0_totalOf := goodIn_r _ [124, 23, 150, 151, 152, 153, 154, 155, 156] (by decide +kernel) (by decide +kernel)
set_option maxRecDepth 20000 in
theorem gX4_told_X0_totalOf_n146 : GoodIn wsX4_told (wsX0_totalOf) := ggX4_told_X0_totalOf
set_option maxRecDepth 20000 in
theorem ggX4_told_X0_placeOf : GoodIn wsX4_told wsX0_placeOf := goodIn_r _ [121, 106, 150, 151, 152, 153, 154, 155, 156] (by decide +kernel) (by decide +kernel)
set_option maxRecDepth 20000 in
theorem gX4_told_X0_placeOf_n149 : GoodIn wsX4_told (wsX0_placeOf) := ggX4_told_X0_placeOf
theorem dX4_told_0 : decode cX4_told 0 = .ok (.aload_n 0, 1) := by decide +kernel
theorem dX4_told_1 : decode cX4_told 1 = .ok (.iload_n 2, 1) := by decide +kernel
theorem dX4_told_2 : decode cX4_told 2 = .ok (.invokevirtual 86, 3) := by decide +kernel
theorem dX4_told_5 : decode cX4_told 5 = .ok (.ifCond .ne 7, 3) := by decide +kernel
theorem dX4_told_8 : decode cX4_told 8 = .ok (.sipush (-10000), 3) := by decide +kernel
theorem dX4_told_11 : decode cX4_told 11 = .ok (.ireturn, 1) := by decide +kernel
theorem dX4_told_12 : decode cX4_told 12 = .ok (.iload_n 3, 1) := by decide +kernel
theorem dX4_told_13 : decode cX4_told 13 = .ok (.iconst 3, 1) := by decide +kernel
theorem dX4_told_14 : decode cX4_told 14 = .ok (.if_icmp .ne 10, 3) := by decide +kernel
theorem dX4_told_17 : decode cX4_told 17 = .ok (.aload_n 0, 1) := by decide +kernel
theorem dX4_told_18 : decode cX4_told 18 = .ok (.getfield 30, 3) := by decide +kernel
theorem dX4_told_21 : decode cX4_told 21 = .ok (.iload_n 2, 1) := by decide +kernel
theorem dX4_told_22 : decode cX4_told 22 = .ok (.iaload, 1) := by decide +kernel
theorem dX4_told_23 : decode cX4_told 23 = .ok (.ireturn, 1) := by decide +kernel
theorem dX4_told_24 : decode cX4_told 24 = .ok (.iload_n 3, 1) := by decide +kernel
theorem dX4_told_25 : decode cX4_told 25 = .ok (.iconst 4, 1) := by decide +kernel
theorem dX4_told_26 : decode cX4_told 26 = .ok (.if_icmp .ne 10, 3) := by decide +kernel
theorem dX4_told_29 : decode cX4_told 29 = .ok (.aload_n 0, 1) := by decide +kernel
theorem dX4_told_30 : decode cX4_told 30 = .ok (.getfield 33, 3) := by decide +kernel
theorem dX4_told_33 : decode cX4_told 33 = .ok (.iload_n 2, 1) := by decide +kernel
theorem dX4_told_34 : decode cX4_told 34 = .ok (.iaload, 1) := by decide +kernel
theorem dX4_told_35 : decode cX4_told 35 = .ok (.ireturn, 1) := by decide +kernel
theorem dX4_told_36 : decode cX4_told 36 = .ok (.aload_n 0, 1) := by decide +kernel
theorem dX4_told_37 : decode cX4_told 37 = .ok (.iload_n 1, 1) := by decide +kernel
theorem dX4_told_38 : decode cX4_told 38 = .ok (.invokevirtual 124, 3) := by decide +kernel
theorem dX4_told_41 : decode cX4_told 41 = .ok (.ifCond .eq 12, 3) := by decide +kernel
theorem dX4_told_44 : decode cX4_told 44 = .ok (.iload_n 3, 1) := by decide +kernel
theorem dX4_told_45 : decode cX4_told 45 = .ok (.ifCond .lt 8, 3) := by decide +kernel
theorem dX4_told_48 : decode cX4_told 48 = .ok (.iload_n 3, 1) := by decide +kernel
theorem dX4_told_49 : decode cX4_told 49 = .ok (.iconst 2, 1) := by decide +kernel
theorem dX4_told_50 : decode cX4_told 50 = .ok (.if_icmp .le 7, 3) := by decide +kernel
theorem dX4_told_53 : decode cX4_told 53 = .ok (.sipush (-10000), 3) := by decide +kernel
theorem dX4_told_56 : decode cX4_told 56 = .ok (.ireturn, 1) := by decide +kernel
theorem dX4_told_57 : decode cX4_told 57 = .ok (.aload_n 0, 1) := by decide +kernel
theorem dX4_told_58 : decode cX4_told 58 = .ok (.getfield 23, 3) := by decide +kernel
theorem dX4_told_61 : decode cX4_told 61 = .ok (.aload_n 0, 1) := by decide +kernel
theorem dX4_told_62 : decode cX4_told 62 = .ok (.getfield 16, 3) := by decide +kernel
theorem dX4_told_65 : decode cX4_told 65 = .ok (.iload_n 1, 1) := by decide +kernel
theorem dX4_told_66 : decode cX4_told 66 = .ok (.aload_n 0, 1) := by decide +kernel
theorem dX4_told_67 : decode cX4_told 67 = .ok (.getfield 71, 3) := by decide +kernel
theorem dX4_told_70 : decode cX4_told 70 = .ok (.invokevirtual 136, 3) := by decide +kernel
theorem dX4_told_73 : decode cX4_told 73 = .ok (.iload_n 3, 1) := by decide +kernel
theorem dX4_told_74 : decode cX4_told 74 = .ok (.ifCond .ne 20, 3) := by decide +kernel
theorem dX4_told_77 : decode cX4_told 77 = .ok (.aload_n 0, 1) := by decide +kernel
theorem dX4_told_78 : decode cX4_told 78 = .ok (.getfield 23, 3) := by decide +kernel
theorem dX4_told_81 : decode cX4_told 81 = .ok (.iload_n 2, 1) := by decide +kernel
theorem dX4_told_82 : decode cX4_told 82 = .ok (.invokevirtual 140, 3) := by decide +kernel
theorem dX4_told_85 : decode cX4_told 85 = .ok (.ifCond .eq 7, 3) := by decide +kernel
theorem dX4_told_88 : decode cX4_told 88 = .ok (.iconst 1, 1) := by decide +kernel
theorem dX4_told_89 : decode cX4_told 89 = .ok (.goto 4, 3) := by decide +kernel
theorem dX4_told_92 : decode cX4_told 92 = .ok (.iconst 0, 1) := by decide +kernel
theorem dX4_told_93 : decode cX4_told 93 = .ok (.ireturn, 1) := by decide +kernel
theorem dX4_told_94 : decode cX4_told 94 = .ok (.aload_n 0, 1) := by decide +kernel
theorem dX4_told_95 : decode cX4_told 95 = .ok (.getfield 23, 3) := by decide +kernel
theorem dX4_told_98 : decode cX4_told 98 = .ok (.iload_n 2, 1) := by decide +kernel
theorem dX4_told_99 : decode cX4_told 99 = .ok (.invokevirtual 143, 3) := by decide +kernel
theorem dX4_told_102 : decode cX4_told 102 = .ok (.ifCond .ne 7, 3) := by decide +kernel
theorem dX4_told_105 : decode cX4_told 105 = .ok (.sipush (-10000), 3) := by decide +kernel
theorem dX4_told_108 : decode cX4_told 108 = .ok (.ireturn, 1) := by decide +kernel
theorem dX4_told_109 : decode cX4_told 109 = .ok (.iload_n 3, 1) := by decide +kernel
theorem dX4_told_110 : decode cX4_told 110 = .ok (.iconst 1, 1) := by decide +kernel
theorem dX4_told_111 : decode cX4_told 111 = .ok (.if_icmp .ne 14, 3) := by decide +kernel
theorem dX4_told_114 : decode cX4_told 114 = .ok (.aload_n 0, 1) := by decide +kernel
theorem dX4_told_115 : decode cX4_told 115 = .ok (.getfield 23, 3) := by decide +kernel
theorem dX4_told_118 : decode cX4_told 118 = .ok (.iload_n 2, 1) := by decide +kernel
theorem dX4_told_119 : decode cX4_told 119 = .ok (.invokevirtual 146, 3) := by decide +kernel
theorem dX4_told_122 : decode cX4_told 122 = .ok (.goto 11, 3) := by decide +kernel
theorem dX4_told_125 : decode cX4_told 125 = .ok (.aload_n 0, 1) := by decide +kernel
theorem dX4_told_126 : decode cX4_told 126 = .ok (.getfield 23, 3) := by decide +kernel
theorem dX4_told_129 : decode cX4_told 129 = .ok (.iload_n 2, 1) := by decide +kernel
theorem dX4_told_130 : decode cX4_told 130 = .ok (.invokevirtual 149, 3) := by decide +kernel
theorem dX4_told_133 : decode cX4_told 133 = .ok (.ireturn, 1) := by decide +kernel
set_option maxRecDepth 20000 in
theorem ggX4_list_X4_isKnowing : GoodIn wsX4_list wsX4_isKnowing := goodIn_r _ [8, 2, 112, 113, 114, 115, 116, 117, 118, 119, 120, 121, 122, 123, 124, 125, 126, 127, 128, 129, 130, 131, 132, 133, 134, 135, 136] (by decide +kernel) (by decide +kernel)
set_option maxRecDepth 20000 in
theorem gX4_list_X4_isKnowing : GoodIn wsX4_list (wsV RX4 124 RX4 yX4_isKnowing wsX4_isKnowing) := goodIn_app (goodIn_of _ (by decide +kernel)) ggX4_list_X4_isKnowing
set_option maxRecDepth 20000 in
theorem ggX4_list_X0_draw : GoodIn wsX4_list wsX0_draw := goodIn_r _ [12, 13, 14, 15, 16, 17, 18, 19, 20, 21, 22, 23, 24, 25, 26, 27, 28, 29, 30, 31, 32, 33, 34, 35, 36, 37, 38, 39, 40, 41, 42, 43, 44, 45, 46, 47, 48, 49, 50, 51, 52, 53, 54, 55, 56, 57, 58, 59, 60, 61, 62, 63, 64, 65, 66, 67, 68, 69, 70, 71, 72, 73, 74, 75, 76, 77, 78, 79, 80, 81, 82, 83, 84, 85, 86, 87, 88, 89, 90, 91, 92, 93, 94, 10, 95, 96, 97, 98, 99, 100, 101, 102, 103, 104, 105, 137, 138, 139, 140, 141, 142, 143, 123, 124, 125, 126, 127, 128, 129, 130, 131, 132, 133, 134, 135, 136, 144, 145] (by decide +kernel) (by decide +kernel)
set_option maxRecDepth 20000 in
theorem gX4_list_X0_draw_n136 : GoodIn wsX4_list (wsX0_draw) := ggX4_list_X0_draw
set_option maxRecDepth 20000 in
theorem ggX4_list_X0_isPosition : GoodIn wsX4_list wsX0_isPosition := goodIn_r _ [108, 13, 137, 138, 139, 140, 141, 142, 143] (by decide +kernel) (by decide +kernel)
set_option maxRecDepth 20000 in
theorem gX4_list_X0_isPosition_n152 : GoodIn wsX4_list (wsX0_isPosition) := ggX4_list_X0_isPosition
set_option maxRecDepth 20000 in
theorem ggX4_list_X0_jumperAt : GoodIn wsX4_list wsX0_jumperAt := goodIn_r _ [111, 101, 137, 138, 139, 140, 141, 142, 143] (by decide +kernel) (by decide +kernel)
set_option maxRecDepth 20000 in
theorem gX4_list_X0_jumperAt_n155 : GoodIn wsX4_list (wsX0_jumperAt) := ggX4_list_X0_jumperAt
theorem dX4_list_0 : decode cX4_list 0 = .ok (.aload_n 0, 1) := by decide +kernel
theorem dX4_list_1 : decode cX4_list 1 = .ok (.iload_n 1, 1) := by decide +kernel
theorem dX4_list_2 : decode cX4_list 2 = .ok (.invokevirtual 124, 3) := by decide +kernel
theorem dX4_list_5 : decode cX4_list 5 = .ok (.ifCond .ne 7, 3) := by decide +kernel
theorem dX4_list_8 : decode cX4_list 8 = .ok (.sipush (-10000), 3) := by decide +kernel
theorem dX4_list_11 : decode cX4_list 11 = .ok (.ireturn, 1) := by decide +kernel
theorem dX4_list_12 : decode cX4_list 12 = .ok (.aload_n 0, 1) := by decide +kernel
theorem dX4_list_13 : decode cX4_list 13 = .ok (.getfield 23, 3) := by decide +kernel
theorem dX4_list_16 : decode cX4_list 16 = .ok (.aload_n 0, 1) := by decide +kernel
theorem dX4_list_17 : decode cX4_list 17 = .ok (.getfield 16, 3) := by decide +kernel
theorem dX4_list_20 : decode cX4_list 20 = .ok (.iload_n 1, 1) := by decide +kernel
theorem dX4_list_21 : decode cX4_list 21 = .ok (.aload_n 0, 1) := by decide +kernel
theorem dX4_list_22 : decode cX4_list 22 = .ok (.getfield 71, 3) := by decide +kernel
theorem dX4_list_25 : decode cX4_list 25 = .ok (.invokevirtual 136, 3) := by decide +kernel
theorem dX4_list_28 : decode cX4_list 28 = .ok (.aload_n 0, 1) := by decide +kernel
theorem dX4_list_29 : decode cX4_list 29 = .ok (.getfield 23, 3) := by decide +kernel
theorem dX4_list_32 : decode cX4_list 32 = .ok (.iload_n 2, 1) := by decide +kernel
theorem dX4_list_33 : decode cX4_list 33 = .ok (.invokevirtual 152, 3) := by decide +kernel
theorem dX4_list_36 : decode cX4_list 36 = .ok (.ifCond .eq 14, 3) := by decide +kernel
theorem dX4_list_39 : decode cX4_list 39 = .ok (.aload_n 0, 1) := by decide +kernel
theorem dX4_list_40 : decode cX4_list 40 = .ok (.getfield 23, 3) := by decide +kernel
theorem dX4_list_43 : decode cX4_list 43 = .ok (.iload_n 2, 1) := by decide +kernel
theorem dX4_list_44 : decode cX4_list 44 = .ok (.invokevirtual 155, 3) := by decide +kernel
theorem dX4_list_47 : decode cX4_list 47 = .ok (.goto 6, 3) := by decide +kernel
theorem dX4_list_50 : decode cX4_list 50 = .ok (.sipush (-10000), 3) := by decide +kernel
theorem dX4_list_53 : decode cX4_list 53 = .ok (.ireturn, 1) := by decide +kernel
set_option maxRecDepth 20000 in
theorem ggX4_start_X4_isKnowing : GoodIn wsX4_start wsX4_isKnowing := goodIn_r _ [8, 2, 121, 122, 123, 124, 125, 126, 127, 128, 129, 130, 131, 132, 133, 134, 135, 136, 137, 138, 139, 140, 141, 142, 143, 144, 145] (by decide +kernel) (by decide +kernel)
set_option maxRecDepth 20000 in
theorem gX4_start_X4_isKnowing : GoodIn wsX4_start (wsV RX4 124 RX4 yX4_isKnowing wsX4_isKnowing) := goodIn_app (goodIn_of _ (by decide +kernel)) ggX4_start_X4_isKnowing
set_option maxRecDepth 20000 in
theorem ggX4_start_X4_isRound : GoodIn wsX4_start wsX4_isRound := goodIn_r _ [12] (by decide +kernel) (by decide +kernel)
set_option maxRecDepth 20000 in
theorem gX4_start_X4_isRound : GoodIn wsX4_start (wsV RX4 89 RX4 yX4_isRound wsX4_isRound) := goodIn_app (goodIn_of _ (by decide +kernel)) ggX4_start_X4_isRound
set_option maxRecDepth 20000 in
theorem ggX4_start_X4_isJumper : GoodIn wsX4_start wsX4_isJumper := goodIn_r _ [16, 3, 121, 122, 123, 124, 125, 126, 127, 128, 129, 130, 131] (by decide +kernel) (by decide +kernel)
set_option maxRecDepth 20000 in
theorem gX4_start_X4_isJumper : GoodIn wsX4_start (wsV RX4 86 RX4 yX4_isJumper wsX4_isJumper) := goodIn_app (goodIn_of _ (by decide +kernel)) ggX4_start_X4_isJumper
set_option maxRecDepth 20000 in
theorem ggX4_start_X0_draw : GoodIn wsX4_start wsX0_draw := goodIn_r _ [20, 21, 22, 23, 24, 25, 26, 27, 28, 29, 30, 31, 32, 33, 34, 35, 36, 37, 38, 39, 40, 41, 42, 43, 44, 45, 46, 47, 48, 49, 50, 51, 52, 53, 54, 55, 56, 57, 58, 59, 60, 61, 62, 63, 64, 65, 66, 67, 68, 69, 70, 71, 72, 73, 74, 75, 76, 77, 78, 79, 80, 81, 82, 83, 84, 85, 86, 87, 88, 89, 90, 91, 92, 93, 94, 95, 96, 97, 98, 99, 100, 101, 102, 18, 103, 104, 105, 106, 107, 108, 109, 110, 111, 112, 113, 146, 147, 148, 149, 150, 151, 152, 132, 133, 134, 135, 136, 137, 138, 139, 140, 141, 142, 143, 144, 145, 153, 154] (by decide +kernel) (by decide +kernel)
set_option maxRecDepth 20000 in
theorem gX4_start_X0_draw_n136 : GoodIn wsX4_start (wsX0_draw) := ggX4_start_X0_draw
set_option maxRecDepth 20000 in
theorem ggX4_start_X0_starterAt : GoodIn wsX4_start wsX0_starterAt := goodIn_r _ [116, 24, 117, 118, 119, 18, 120, 23, 146, 147, 148, 149, 150, 151, 152] (by decide +kernel) (by decide +kernel)
set_option maxRecDepth 20000 in
theorem gX4_start_X0_starterAt_n158 : GoodIn wsX4_start (wsX0_starterAt) := ggX4_start_X0_starterAt
theorem dX4_start_0 : decode cX4_start 0 = .ok (.aload_n 0, 1) := by decide +kernel
theorem dX4_start_1 : decode cX4_start 1 = .ok (.iload_n 1, 1) := by decide +kernel
theorem dX4_start_2 : decode cX4_start 2 = .ok (.invokevirtual 124, 3) := by decide +kernel
theorem dX4_start_5 : decode cX4_start 5 = .ok (.ifCond .eq 11, 3) := by decide +kernel
theorem dX4_start_8 : decode cX4_start 8 = .ok (.aload_n 0, 1) := by decide +kernel
theorem dX4_start_9 : decode cX4_start 9 = .ok (.iload_n 2, 1) := by decide +kernel
theorem dX4_start_10 : decode cX4_start 10 = .ok (.invokevirtual 89, 3) := by decide +kernel
theorem dX4_start_13 : decode cX4_start 13 = .ok (.ifCond .ne 7, 3) := by decide +kernel
theorem dX4_start_16 : decode cX4_start 16 = .ok (.sipush (-10000), 3) := by decide +kernel
theorem dX4_start_19 : decode cX4_start 19 = .ok (.ireturn, 1) := by decide +kernel
theorem dX4_start_20 : decode cX4_start 20 = .ok (.iload_n 2, 1) := by decide +kernel
theorem dX4_start_21 : decode cX4_start 21 = .ok (.ifCond .ne 19, 3) := by decide +kernel
theorem dX4_start_24 : decode cX4_start 24 = .ok (.aload_n 0, 1) := by decide +kernel
theorem dX4_start_25 : decode cX4_start 25 = .ok (.iload_n 3, 1) := by decide +kernel
theorem dX4_start_26 : decode cX4_start 26 = .ok (.invokevirtual 86, 3) := by decide +kernel
theorem dX4_start_29 : decode cX4_start 29 = .ok (.ifCond .eq 7, 3) := by decide +kernel
theorem dX4_start_32 : decode cX4_start 32 = .ok (.iload_n 3, 1) := by decide +kernel
theorem dX4_start_33 : decode cX4_start 33 = .ok (.goto 6, 3) := by decide +kernel
theorem dX4_start_36 : decode cX4_start 36 = .ok (.sipush (-10000), 3) := by decide +kernel
theorem dX4_start_39 : decode cX4_start 39 = .ok (.ireturn, 1) := by decide +kernel
theorem dX4_start_40 : decode cX4_start 40 = .ok (.aload_n 0, 1) := by decide +kernel
theorem dX4_start_41 : decode cX4_start 41 = .ok (.getfield 23, 3) := by decide +kernel
theorem dX4_start_44 : decode cX4_start 44 = .ok (.aload_n 0, 1) := by decide +kernel
theorem dX4_start_45 : decode cX4_start 45 = .ok (.getfield 16, 3) := by decide +kernel
theorem dX4_start_48 : decode cX4_start 48 = .ok (.iload_n 1, 1) := by decide +kernel
theorem dX4_start_49 : decode cX4_start 49 = .ok (.aload_n 0, 1) := by decide +kernel
theorem dX4_start_50 : decode cX4_start 50 = .ok (.getfield 71, 3) := by decide +kernel
theorem dX4_start_53 : decode cX4_start 53 = .ok (.invokevirtual 136, 3) := by decide +kernel
theorem dX4_start_56 : decode cX4_start 56 = .ok (.aload_n 0, 1) := by decide +kernel
theorem dX4_start_57 : decode cX4_start 57 = .ok (.getfield 23, 3) := by decide +kernel
theorem dX4_start_60 : decode cX4_start 60 = .ok (.iload_n 3, 1) := by decide +kernel
theorem dX4_start_61 : decode cX4_start 61 = .ok (.invokevirtual 158, 3) := by decide +kernel
theorem dX4_start_64 : decode cX4_start 64 = .ok (.ireturn, 1) := by decide +kernel
set_option maxRecDepth 20000 in
theorem ggX4_team_X4_isKnowing : GoodIn wsX4_team wsX4_isKnowing := goodIn_r _ [8, 2, 125, 126, 127, 128, 129, 130, 131, 132, 133, 134, 135, 136, 137, 138, 139, 140, 141, 142, 143, 144, 145, 146, 147, 148, 149] (by decide +kernel) (by decide +kernel)
set_option maxRecDepth 20000 in
theorem gX4_team_X4_isKnowing : GoodIn wsX4_team (wsV RX4 124 RX4 yX4_isKnowing wsX4_isKnowing) := goodIn_app (goodIn_of _ (by decide +kernel)) ggX4_team_X4_isKnowing
set_option maxRecDepth 20000 in
theorem ggX4_team_X4_isTeam : GoodIn wsX4_team wsX4_isTeam := goodIn_r _ [12] (by decide +kernel) (by decide +kernel)
set_option maxRecDepth 20000 in
theorem gX4_team_X4_isTeam : GoodIn wsX4_team (wsV RX4 68 RX4 yX4_isTeam wsX4_isTeam) := goodIn_app (goodIn_of _ (by decide +kernel)) ggX4_team_X4_isTeam
set_option maxRecDepth 20000 in
theorem ggX4_team_X0_draw : GoodIn wsX4_team wsX0_draw := goodIn_r _ [16, 17, 18, 19, 20, 21, 22, 23, 24, 25, 26, 27, 28, 29, 30, 31, 32, 33, 34, 35, 36, 37, 38, 39, 40, 41, 42, 43, 44, 45, 46, 47, 48, 49, 50, 51, 52, 53, 54, 55, 56, 57, 58, 59, 60, 61, 62, 63, 64, 65, 66, 67, 68, 69, 70, 71, 72, 73, 74, 75, 76, 77, 78, 79, 80, 81, 82, 83, 84, 85, 86, 87, 88, 89, 90, 91, 92, 93, 94, 95, 96, 97, 98, 14, 99, 100, 101, 102, 103, 104, 105, 106, 107, 108, 109, 150, 151, 152, 153, 154, 155, 156, 136, 137, 138, 139, 140, 141, 142, 143, 144, 145, 146, 147, 148, 149, 157, 158] (by decide +kernel) (by decide +kernel)
set_option maxRecDepth 20000 in
theorem gX4_team_X0_draw_n136 : GoodIn wsX4_team (wsX0_draw) := ggX4_team_X0_draw
set_option maxRecDepth 20000 in
theorem ggX4_team_X4_teamTotal : GoodIn wsX4_team wsX4_teamTotal := goodIn_r _ [113, 1, 114, 115, 14, 116, 117, 105, 118, 119, 120, 7, 121, 3, 122, 123, 124, 21, 125, 126, 127, 128, 129, 130, 131, 132, 133, 134, 135, 150, 151, 152, 153, 154, 155, 156] (by decide +kernel) (by decide +kernel)
set_option maxRecDepth 20000 in
theorem gX4_team_X4_teamTotal : GoodIn wsX4_team (wsV RX4 161 RX4 yX4_teamTotal wsX4_teamTotal) := goodIn_app (goodIn_of _ (by decide +kernel)) ggX4_team_X4_teamTotal
theorem dX4_team_0 : decode cX4_team 0 = .ok (.aload_n 0, 1) := by decide +kernel
theorem dX4_team_1 : decode cX4_team 1 = .ok (.iload_n 1, 1) := by decide +kernel
theorem dX4_team_2 : decode cX4_team 2 = .ok (.invokevirtual 124, 3) := by decide +kernel
theorem dX4_team_5 : decode cX4_team 5 = .ok (.ifCond .eq 11, 3) := by decide +kernel
theorem dX4_team_8 : decode cX4_team 8 = .ok (.aload_n 0, 1) := by decide +kernel
theorem dX4_team_9 : decode cX4_team 9 = .ok (.iload_n 2, 1) := by decide +kernel
theorem dX4_team_10 : decode cX4_team 10 = .ok (.invokevirtual 68, 3) := by decide +kernel
theorem dX4_team_13 : decode cX4_team 13 = .ok (.ifCond .ne 7, 3) := by decide +kernel
theorem dX4_team_16 : decode cX4_team 16 = .ok (.sipush (-10000), 3) := by decide +kernel
theorem dX4_team_19 : decode cX4_team 19 = .ok (.ireturn, 1) := by decide +kernel
theorem dX4_team_20 : decode cX4_team 20 = .ok (.aload_n 0, 1) := by decide +kernel
theorem dX4_team_21 : decode cX4_team 21 = .ok (.getfield 23, 3) := by decide +kernel
theorem dX4_team_24 : decode cX4_team 24 = .ok (.aload_n 0, 1) := by decide +kernel
theorem dX4_team_25 : decode cX4_team 25 = .ok (.getfield 16, 3) := by decide +kernel
theorem dX4_team_28 : decode cX4_team 28 = .ok (.iload_n 1, 1) := by decide +kernel
theorem dX4_team_29 : decode cX4_team 29 = .ok (.aload_n 0, 1) := by decide +kernel
theorem dX4_team_30 : decode cX4_team 30 = .ok (.getfield 71, 3) := by decide +kernel
theorem dX4_team_33 : decode cX4_team 33 = .ok (.invokevirtual 136, 3) := by decide +kernel
theorem dX4_team_36 : decode cX4_team 36 = .ok (.aload_n 0, 1) := by decide +kernel
theorem dX4_team_37 : decode cX4_team 37 = .ok (.iload_n 2, 1) := by decide +kernel
theorem dX4_team_38 : decode cX4_team 38 = .ok (.invokevirtual 161, 3) := by decide +kernel
theorem dX4_team_41 : decode cX4_team 41 = .ok (.ireturn, 1) := by decide +kernel
set_option maxRecDepth 20000 in
theorem ggX4_record_X4_recordJump : GoodIn wsX4_record wsX4_recordJump := goodIn_r _ [8, 1, 2, 9, 10, 11, 12, 13, 14, 15, 16, 17, 18, 19, 20, 21, 22, 23, 24, 25, 26, 27, 28, 29, 30, 31, 32, 33, 34, 35, 36, 37, 38, 39, 40, 41, 42, 43, 44, 45, 49, 50, 51, 52, 53, 54, 55, 56, 57, 58, 59, 60, 61, 62, 63, 64, 65, 66, 67, 68, 69, 70, 71, 72, 73] (by decide +kernel) (by decide +kernel)
set_option maxRecDepth 20000 in
theorem gX4_record_X4_recordJump : GoodIn wsX4_record (wsV RX4 164 RX4 yX4_recordJump wsX4_recordJump) := goodIn_app (goodIn_of _ (by decide +kernel)) ggX4_record_X4_recordJump
set_option maxRecDepth 20000 in
theorem ggX4_record_X3_lengthOf : GoodIn wsX4_record wsX3_lengthOf := goodIn_r _ [41, 14, 22, 23, 24, 10, 25, 13, 34, 35, 36, 37, 38, 60, 61, 62, 63, 64, 65, 66, 67, 68, 69, 70, 71, 72, 73] (by decide +kernel) (by decide +kernel)
set_option maxRecDepth 20000 in
theorem gX4_record_X3_lengthOf_n168 : GoodIn wsX4_record (wsX3_lengthOf) := ggX4_record_X3_lengthOf
set_option maxRecDepth 20000 in
theorem ggX4_record_X4_jumperOf : GoodIn wsX4_record wsX4_jumperOf := goodIn_r _ [48] (by decide +kernel) (by decide +kernel)
set_option maxRecDepth 20000 in
theorem gX4_record_X4_jumperOf : GoodIn wsX4_record (va_wsS RX4 171 yX4_jumperOf wsX4_jumperOf) := goodIn_app (goodIn_of _ (by decide +kernel)) ggX4_record_X4_jumperOf
theorem dX4_record_0 : decode cX4_record 0 = .ok (.iload_n 1, 1) := by decide +kernel
theorem dX4_record_1 : decode cX4_record 1 = .ok (.ifCond .eq 12, 3) := by decide +kernel
theorem dX4_record_4 : decode cX4_record 4 = .ok (.iload_n 1, 1) := by decide +kernel
theorem dX4_record_5 : decode cX4_record 5 = .ok (.iconst 1, 1) := by decide +kernel
theorem dX4_record_6 : decode cX4_record 6 = .ok (.if_icmp .eq 7, 3) := by decide +kernel
theorem dX4_record_9 : decode cX4_record 9 = .ok (.sipush (-10000), 3) := by decide +kernel
theorem dX4_record_12 : decode cX4_record 12 = .ok (.ireturn, 1) := by decide +kernel
theorem dX4_record_13 : decode cX4_record 13 = .ok (.aload_n 0, 1) := by decide +kernel
theorem dX4_record_14 : decode cX4_record 14 = .ok (.invokevirtual 164, 3) := by decide +kernel
theorem dX4_record_17 : decode cX4_record 17 = .ok (.istore_n 2, 1) := by decide +kernel
theorem dX4_record_18 : decode cX4_record 18 = .ok (.iload_n 2, 1) := by decide +kernel
theorem dX4_record_19 : decode cX4_record 19 = .ok (.ifCond .lt 23, 3) := by decide +kernel
theorem dX4_record_22 : decode cX4_record 22 = .ok (.iload_n 1, 1) := by decide +kernel
theorem dX4_record_23 : decode cX4_record 23 = .ok (.ifCond .ne 14, 3) := by decide +kernel
theorem dX4_record_26 : decode cX4_record 26 = .ok (.aload_n 0, 1) := by decide +kernel
theorem dX4_record_27 : decode cX4_record 27 = .ok (.getfield 16, 3) := by decide +kernel
theorem dX4_record_30 : decode cX4_record 30 = .ok (.iload_n 2, 1) := by decide +kernel
theorem dX4_record_31 : decode cX4_record 31 = .ok (.invokevirtual 168, 3) := by decide +kernel
theorem dX4_record_34 : decode cX4_record 34 = .ok (.goto 7, 3) := by decide +kernel
theorem dX4_record_37 : decode cX4_record 37 = .ok (.iload_n 2, 1) := by decide +kernel
theorem dX4_record_38 : decode cX4_record 38 = .ok (.invokestatic 171, 3) := by decide +kernel
theorem dX4_record_41 : decode cX4_record 41 = .ok (.ireturn, 1) := by decide +kernel
theorem dX4_record_42 : decode cX4_record 42 = .ok (.aload_n 0, 1) := by decide +kernel
theorem dX4_record_43 : decode cX4_record 43 = .ok (.getfield 36, 3) := by decide +kernel
theorem dX4_record_46 : decode cX4_record 46 = .ok (.ifCond .ge 7, 3) := by decide +kernel
theorem dX4_record_49 : decode cX4_record 49 = .ok (.sipush (-10000), 3) := by decide +kernel
theorem dX4_record_52 : decode cX4_record 52 = .ok (.ireturn, 1) := by decide +kernel
theorem dX4_record_53 : decode cX4_record 53 = .ok (.iload_n 1, 1) := by decide +kernel
theorem dX4_record_54 : decode cX4_record 54 = .ok (.ifCond .ne 10, 3) := by decide +kernel
theorem dX4_record_57 : decode cX4_record 57 = .ok (.aload_n 0, 1) := by decide +kernel
theorem dX4_record_58 : decode cX4_record 58 = .ok (.getfield 36, 3) := by decide +kernel
theorem dX4_record_61 : decode cX4_record 61 = .ok (.goto 7, 3) := by decide +kernel
theorem dX4_record_64 : decode cX4_record 64 = .ok (.aload_n 0, 1) := by decide +kernel
theorem dX4_record_65 : decode cX4_record 65 = .ok (.getfield 40, 3) := by decide +kernel
theorem dX4_record_68 : decode cX4_record 68 = .ok (.ireturn, 1) := by decide +kernel
set_option maxRecDepth 20000 in
theorem ggX4_differ_X4_isKnowing : GoodIn wsX4_differ wsX4_isKnowing := goodIn_r _ [9, 2, 110, 111, 112, 113, 114, 115, 116, 117, 118, 119, 120, 121, 122, 123, 124, 125, 126, 127, 128, 129, 130, 131, 132, 133, 134] (by decide +kernel) (by decide +kernel)
set_option maxRecDepth 20000 in
theorem gX4_differ_X4_isKnowing : GoodIn wsX4_differ (wsV RX4 124 RX4 yX4_isKnowing wsX4_isKnowing) := goodIn_app (goodIn_of _ (by decide +kernel)) ggX4_differ_X4_isKnowing
set_option maxRecDepth 20000 in
theorem ggX4_differ_X0_draw : GoodIn wsX4_differ wsX0_draw := goodIn_r _ [13, 14, 15, 16, 17, 18, 19, 20, 21, 22, 23, 24, 25, 26, 27, 28, 29, 30, 31, 32, 33, 34, 35, 36, 37, 38, 39, 40, 41, 42, 43, 44, 45, 46, 47, 48, 49, 50, 51, 52, 53, 54, 55, 56, 57, 58, 59, 60, 61, 62, 63, 64, 65, 66, 67, 68, 69, 70, 71, 72, 73, 74, 75, 76, 77, 78, 79, 80, 81, 82, 83, 84, 85, 86, 87, 88, 89, 90, 91, 92, 93, 94, 95, 11, 96, 97, 98, 99, 100, 101, 102, 103, 104, 105, 106, 135, 136, 137, 138, 139, 140, 141, 121, 122, 123, 124, 125, 126, 127, 128, 129, 130, 131, 132, 133, 134, 142, 143] (by decide +kernel) (by decide +kernel)
set_option maxRecDepth 20000 in
theorem gX4_differ_X0_draw_n136 : GoodIn wsX4_differ (wsX0_draw) := ggX4_differ_X0_draw
set_option maxRecDepth 20000 in
theorem ggX4_differ_X0_placeOf : GoodIn wsX4_differ wsX0_placeOf := goodIn_r _ [109, 101, 135, 136, 137, 138, 139, 140, 141] (by decide +kernel) (by decide +kernel)
set_option maxRecDepth 20000 in
theorem gX4_differ_X0_placeOf_n149 : GoodIn wsX4_differ (wsX0_placeOf) := ggX4_differ_X0_placeOf
theorem dX4_differ_0 : decode cX4_differ 0 = .ok (.aload_n 0, 1) := by decide +kernel
theorem dX4_differ_1 : decode cX4_differ 1 = .ok (.iload_n 1, 1) := by decide +kernel
theorem dX4_differ_2 : decode cX4_differ 2 = .ok (.invokevirtual 124, 3) := by decide +kernel
theorem dX4_differ_5 : decode cX4_differ 5 = .ok (.ifCond .eq 15, 3) := by decide +kernel
theorem dX4_differ_8 : decode cX4_differ 8 = .ok (.aload_n 0, 1) := by decide +kernel
theorem dX4_differ_9 : decode cX4_differ 9 = .ok (.iload_n 2, 1) := by decide +kernel
theorem dX4_differ_10 : decode cX4_differ 10 = .ok (.invokevirtual 124, 3) := by decide +kernel
theorem dX4_differ_13 : decode cX4_differ 13 = .ok (.ifCond .eq 7, 3) := by decide +kernel
theorem dX4_differ_16 : decode cX4_differ 16 = .ok (.iload_n 3, 1) := by decide +kernel
theorem dX4_differ_17 : decode cX4_differ 17 = .ok (.ifCond .ge 7, 3) := by decide +kernel
theorem dX4_differ_20 : decode cX4_differ 20 = .ok (.sipush (-10000), 3) := by decide +kernel
theorem dX4_differ_23 : decode cX4_differ 23 = .ok (.ireturn, 1) := by decide +kernel
theorem dX4_differ_24 : decode cX4_differ 24 = .ok (.aload_n 0, 1) := by decide +kernel
theorem dX4_differ_25 : decode cX4_differ 25 = .ok (.getfield 23, 3) := by decide +kernel
theorem dX4_differ_28 : decode cX4_differ 28 = .ok (.aload_n 0, 1) := by decide +kernel
theorem dX4_differ_29 : decode cX4_differ 29 = .ok (.getfield 16, 3) := by decide +kernel
theorem dX4_differ_32 : decode cX4_differ 32 = .ok (.iload_n 1, 1) := by decide +kernel
theorem dX4_differ_33 : decode cX4_differ 33 = .ok (.aload_n 0, 1) := by decide +kernel
theorem dX4_differ_34 : decode cX4_differ 34 = .ok (.getfield 71, 3) := by decide +kernel
theorem dX4_differ_37 : decode cX4_differ 37 = .ok (.invokevirtual 136, 3) := by decide +kernel
theorem dX4_differ_40 : decode cX4_differ 40 = .ok (.aload_n 0, 1) := by decide +kernel
theorem dX4_differ_41 : decode cX4_differ 41 = .ok (.getfield 27, 3) := by decide +kernel
theorem dX4_differ_44 : decode cX4_differ 44 = .ok (.aload_n 0, 1) := by decide +kernel
theorem dX4_differ_45 : decode cX4_differ 45 = .ok (.getfield 16, 3) := by decide +kernel
theorem dX4_differ_48 : decode cX4_differ 48 = .ok (.iload_n 2, 1) := by decide +kernel
theorem dX4_differ_49 : decode cX4_differ 49 = .ok (.aload_n 0, 1) := by decide +kernel
theorem dX4_differ_50 : decode cX4_differ 50 = .ok (.getfield 71, 3) := by decide +kernel
theorem dX4_differ_53 : decode cX4_differ 53 = .ok (.invokevirtual 136, 3) := by decide +kernel
theorem dX4_differ_56 : decode cX4_differ 56 = .ok (.iconst 0, 1) := by decide +kernel
theorem dX4_differ_57 : decode cX4_differ 57 = .ok (.istore 4, 2) := by decide +kernel
theorem dX4_differ_59 : decode cX4_differ 59 = .ok (.iconst 0, 1) := by decide +kernel
theorem dX4_differ_60 : decode cX4_differ 60 = .ok (.istore 5, 2) := by decide +kernel
theorem dX4_differ_62 : decode cX4_differ 62 = .ok (.iload 5, 2) := by decide +kernel
theorem dX4_differ_64 : decode cX4_differ 64 = .ok (.aload_n 0, 1) := by decide +kernel
theorem dX4_differ_65 : decode cX4_differ 65 = .ok (.getfield 71, 3) := by decide +kernel
theorem dX4_differ_68 : decode cX4_differ 68 = .ok (.if_icmp .ge 42, 3) := by decide +kernel
theorem dX4_differ_71 : decode cX4_differ 71 = .ok (.aload_n 0, 1) := by decide +kernel
theorem dX4_differ_72 : decode cX4_differ 72 = .ok (.getfield 23, 3) := by decide +kernel
theorem dX4_differ_75 : decode cX4_differ 75 = .ok (.iload 5, 2) := by decide +kernel
theorem dX4_differ_77 : decode cX4_differ 77 = .ok (.invokevirtual 149, 3) := by decide +kernel
theorem dX4_differ_80 : decode cX4_differ 80 = .ok (.aload_n 0, 1) := by decide +kernel
theorem dX4_differ_81 : decode cX4_differ 81 = .ok (.getfield 27, 3) := by decide +kernel
theorem dX4_differ_84 : decode cX4_differ 84 = .ok (.iload 5, 2) := by decide +kernel
theorem dX4_differ_86 : decode cX4_differ 86 = .ok (.invokevirtual 149, 3) := by decide +kernel
theorem dX4_differ_89 : decode cX4_differ 89 = .ok (.if_icmp .eq 15, 3) := by decide +kernel
theorem dX4_differ_92 : decode cX4_differ 92 = .ok (.iload 4, 2) := by decide +kernel
theorem dX4_differ_94 : decode cX4_differ 94 = .ok (.iload_n 3, 1) := by decide +kernel
theorem dX4_differ_95 : decode cX4_differ 95 = .ok (.if_icmp .ne 6, 3) := by decide +kernel
theorem dX4_differ_98 : decode cX4_differ 98 = .ok (.iload 5, 2) := by decide +kernel
theorem dX4_differ_100 : decode cX4_differ 100 = .ok (.ireturn, 1) := by decide +kernel
theorem dX4_differ_101 : decode cX4_differ 101 = .ok (.iinc 4 1, 3) := by decide +kernel
theorem dX4_differ_104 : decode cX4_differ 104 = .ok (.iinc 5 1, 3) := by decide +kernel
theorem dX4_differ_107 : decode cX4_differ 107 = .ok (.goto (-45), 3) := by decide +kernel
theorem dX4_differ_110 : decode cX4_differ 110 = .ok (.sipush (-10000), 3) := by decide +kernel
theorem dX4_differ_113 : decode cX4_differ 113 = .ok (.ireturn, 1) := by decide +kernel
set_option maxRecDepth 20000 in
theorem ggX4_close_X0_draw : GoodIn wsX4_close wsX0_draw := goodIn_r _ [9, 10, 11, 12, 13, 14, 15, 16, 17, 18, 19, 20, 21, 22, 23, 24, 25, 26, 27, 28, 29, 30, 31, 32, 33, 34, 35, 36, 37, 38, 39, 40, 41, 42, 43, 44, 45, 46, 47, 48, 49, 50, 51, 52, 53, 54, 55, 56, 57, 58, 59, 60, 61, 62, 63, 64, 65, 66, 67, 68, 69, 70, 71, 72, 73, 74, 75, 76, 77, 78, 79, 80, 81, 82, 83, 84, 85, 86, 87, 88, 89, 90, 91, 7, 92, 93, 94, 95, 96, 97, 98, 99, 100, 101, 102, 159, 160, 161, 162, 163, 164, 165, 145, 146, 147, 148, 149, 150, 151, 152, 153, 154, 155, 156, 157, 158, 166, 167] (by decide +kernel) (by decide +kernel)
set_option maxRecDepth 20000 in
theorem gX4_close_X0_draw_n136 : GoodIn wsX4_close (wsX0_draw) := ggX4_close_X0_draw
set_option maxRecDepth 20000 in
theorem ggX4_close_X0_placeOf : GoodIn wsX4_close wsX0_placeOf := goodIn_r _ [105, 97, 159, 160, 161, 162, 163, 164, 165] (by decide +kernel) (by decide +kernel)
set_option maxRecDepth 20000 in
theorem gX4_close_X0_placeOf_n149 : GoodIn wsX4_close (wsX0_placeOf) := ggX4_close_X0_placeOf
set_option maxRecDepth 20000 in
theorem ggX4_close_X4_seasonPoints : GoodIn wsX4_close wsX4_seasonPoints := goodIn_r _ [109, 110] (by decide +kernel) (by decide +kernel)
set_option maxRecDepth 20000 in
theorem gX4_close_X4_seasonPoints : GoodIn wsX4_close (va_wsS RX4 177 yX4_seasonPoints wsX4_seasonPoints) := goodIn_app (goodIn_of _ (by decide +kernel)) ggX4_close_X4_seasonPoints
set_option maxRecDepth 20000 in
theorem ggX4_close_X4_keepRecord : GoodIn wsX4_close wsX4_keepRecord := goodIn_r _ [114, 2, 115, 116, 117, 118, 119, 108, 120, 15, 16, 17, 18, 19, 20, 21, 22, 23, 24, 121, 122, 123, 34, 35, 36, 37, 55, 56, 57, 58, 59, 60, 61, 62, 43, 44, 45, 46, 47, 124, 125, 126, 127, 128, 129, 130, 131, 132, 133, 134, 135, 136, 137, 138, 139, 140, 141, 142, 143, 144, 145, 146, 147, 148, 149, 150, 151, 152, 153, 154, 155, 156, 157, 158] (by decide +kernel) (by decide +kernel)
set_option maxRecDepth 20000 in
theorem gX4_close_X4_keepRecord : GoodIn wsX4_close (wsV RX4 180 RX4 yX4_keepRecord wsX4_keepRecord) := goodIn_app (goodIn_of _ (by decide +kernel)) ggX4_close_X4_keepRecord
theorem dX4_close_0 : decode cX4_close 0 = .ok (.aload_n 0, 1) := by decide +kernel
theorem dX4_close_1 : decode cX4_close 1 = .ok (.getfield 23, 3) := by decide +kernel
theorem dX4_close_4 : decode cX4_close 4 = .ok (.aload_n 0, 1) := by decide +kernel
theorem dX4_close_5 : decode cX4_close 5 = .ok (.getfield 16, 3) := by decide +kernel
theorem dX4_close_8 : decode cX4_close 8 = .ok (.aload_n 0, 1) := by decide +kernel
theorem dX4_close_9 : decode cX4_close 9 = .ok (.getfield 16, 3) := by decide +kernel
theorem dX4_close_12 : decode cX4_close 12 = .ok (.getfield 92, 3) := by decide +kernel
theorem dX4_close_15 : decode cX4_close 15 = .ok (.getfield 115, 3) := by decide +kernel
theorem dX4_close_18 : decode cX4_close 18 = .ok (.aload_n 0, 1) := by decide +kernel
theorem dX4_close_19 : decode cX4_close 19 = .ok (.getfield 71, 3) := by decide +kernel
theorem dX4_close_22 : decode cX4_close 22 = .ok (.invokevirtual 136, 3) := by decide +kernel
theorem dX4_close_25 : decode cX4_close 25 = .ok (.aload_n 0, 1) := by decide +kernel
theorem dX4_close_26 : decode cX4_close 26 = .ok (.getfield 23, 3) := by decide +kernel
theorem dX4_close_29 : decode cX4_close 29 = .ok (.getfield 174, 3) := by decide +kernel
theorem dX4_close_32 : decode cX4_close 32 = .ok (.ifCond .ne 7, 3) := by decide +kernel
theorem dX4_close_35 : decode cX4_close 35 = .ok (.sipush (-10000), 3) := by decide +kernel
theorem dX4_close_38 : decode cX4_close 38 = .ok (.ireturn, 1) := by decide +kernel
theorem dX4_close_39 : decode cX4_close 39 = .ok (.iconst 0, 1) := by decide +kernel
theorem dX4_close_40 : decode cX4_close 40 = .ok (.istore_n 1, 1) := by decide +kernel
theorem dX4_close_41 : decode cX4_close 41 = .ok (.iload_n 1, 1) := by decide +kernel
theorem dX4_close_42 : decode cX4_close 42 = .ok (.aload_n 0, 1) := by decide +kernel
theorem dX4_close_43 : decode cX4_close 43 = .ok (.getfield 71, 3) := by decide +kernel
theorem dX4_close_46 : decode cX4_close 46 = .ok (.if_icmp .ge 35, 3) := by decide +kernel
theorem dX4_close_49 : decode cX4_close 49 = .ok (.iload_n 1, 1) := by decide +kernel
theorem dX4_close_50 : decode cX4_close 50 = .ok (.bipush 24, 2) := by decide +kernel
theorem dX4_close_52 : decode cX4_close 52 = .ok (.if_icmp .ge 29, 3) := by decide +kernel
theorem dX4_close_55 : decode cX4_close 55 = .ok (.aload_n 0, 1) := by decide +kernel
theorem dX4_close_56 : decode cX4_close 56 = .ok (.getfield 33, 3) := by decide +kernel
theorem dX4_close_59 : decode cX4_close 59 = .ok (.iload_n 1, 1) := by decide +kernel
theorem dX4_close_60 : decode cX4_close 60 = .ok (.dup2, 1) := by decide +kernel
theorem dX4_close_61 : decode cX4_close 61 = .ok (.iaload, 1) := by decide +kernel
theorem dX4_close_62 : decode cX4_close 62 = .ok (.aload_n 0, 1) := by decide +kernel
theorem dX4_close_63 : decode cX4_close 63 = .ok (.getfield 23, 3) := by decide +kernel
theorem dX4_close_66 : decode cX4_close 66 = .ok (.iload_n 1, 1) := by decide +kernel
theorem dX4_close_67 : decode cX4_close 67 = .ok (.invokevirtual 149, 3) := by decide +kernel
theorem dX4_close_70 : decode cX4_close 70 = .ok (.invokestatic 177, 3) := by decide +kernel
theorem dX4_close_73 : decode cX4_close 73 = .ok (.iadd, 1) := by decide +kernel
theorem dX4_close_74 : decode cX4_close 74 = .ok (.iastore, 1) := by decide +kernel
theorem dX4_close_75 : decode cX4_close 75 = .ok (.iinc 1 1, 3) := by decide +kernel
theorem dX4_close_78 : decode cX4_close 78 = .ok (.goto (-37), 3) := by decide +kernel
theorem dX4_close_81 : decode cX4_close 81 = .ok (.aload_n 0, 1) := by decide +kernel
theorem dX4_close_82 : decode cX4_close 82 = .ok (.invokevirtual 180, 3) := by decide +kernel
theorem dX4_close_85 : decode cX4_close 85 = .ok (.aload_n 0, 1) := by decide +kernel
theorem dX4_close_86 : decode cX4_close 86 = .ok (.getfield 16, 3) := by decide +kernel
theorem dX4_close_89 : decode cX4_close 89 = .ok (.getfield 92, 3) := by decide +kernel
theorem dX4_close_92 : decode cX4_close 92 = .ok (.iconst 0, 1) := by decide +kernel
theorem dX4_close_93 : decode cX4_close 93 = .ok (.putfield 115, 3) := by decide +kernel
theorem dX4_close_96 : decode cX4_close 96 = .ok (.aload_n 0, 1) := by decide +kernel
theorem dX4_close_97 : decode cX4_close 97 = .ok (.dup, 1) := by decide +kernel
theorem dX4_close_98 : decode cX4_close 98 = .ok (.getfield 183, 3) := by decide +kernel
theorem dX4_close_101 : decode cX4_close 101 = .ok (.iconst 1, 1) := by decide +kernel
theorem dX4_close_102 : decode cX4_close 102 = .ok (.iadd, 1) := by decide +kernel
theorem dX4_close_103 : decode cX4_close 103 = .ok (.putfield 183, 3) := by decide +kernel
theorem dX4_close_106 : decode cX4_close 106 = .ok (.aload_n 0, 1) := by decide +kernel
theorem dX4_close_107 : decode cX4_close 107 = .ok (.getfield 23, 3) := by decide +kernel
theorem dX4_close_110 : decode cX4_close 110 = .ok (.getfield 174, 3) := by decide +kernel
theorem dX4_close_113 : decode cX4_close 113 = .ok (.ireturn, 1) := by decide +kernel
set_option maxRecDepth 20000 in
theorem ggX4_count_X0_draw : GoodIn wsX4_count wsX0_draw := goodIn_r _ [9, 10, 11, 12, 13, 14, 15, 16, 17, 18, 19, 20, 21, 22, 23, 24, 25, 26, 27, 28, 29, 30, 31, 32, 33, 34, 35, 36, 37, 38, 39, 40, 41, 42, 43, 44, 45, 46, 47, 48, 49, 50, 51, 52, 53, 54, 55, 56, 57, 58, 59, 60, 61, 62, 63, 64, 65, 66, 67, 68, 69, 70, 71, 72, 73, 74, 75, 76, 77, 78, 79, 80, 81, 82, 83, 84, 85, 86, 87, 88, 89, 90, 91, 7, 92, 93, 94, 95, 96, 97, 98, 99, 100, 101, 102, 133, 134, 135, 136, 137, 138, 139, 119, 120, 121, 122, 123, 124, 125, 126, 127, 128, 129, 130, 131, 132, 140, 141] (by decide +kernel) (by decide +kernel)
set_option maxRecDepth 20000 in
theorem gX4_count_X0_draw_n136 : GoodIn wsX4_count (wsX0_draw) := ggX4_count_X0_draw
set_option maxRecDepth 20000 in
theorem ggX4_count_X4_isSensor : GoodIn wsX4_count wsX4_isSensor := goodIn_r _ [107] (by decide +kernel) (by decide +kernel)
set_option maxRecDepth 20000 in
theorem gX4_count_X4_isSensor : GoodIn wsX4_count (wsV RX4 74 RX4 yX4_isSensor wsX4_isSensor) := goodIn_app (goodIn_of _ (by decide +kernel)) ggX4_count_X4_isSensor
theorem dX4_count_0 : decode cX4_count 0 = .ok (.iload_n 1, 1) := by decide +kernel
theorem dX4_count_1 : decode cX4_count 1 = .ok (.tableswitch 143 0 6 #[43, 48, 59, 64, 72, 105, 138], 43) := by decide +kernel
theorem dX4_count_44 : decode cX4_count 44 = .ok (.aload_n 0, 1) := by decide +kernel
theorem dX4_count_45 : decode cX4_count 45 = .ok (.getfield 71, 3) := by decide +kernel
theorem dX4_count_48 : decode cX4_count 48 = .ok (.ireturn, 1) := by decide +kernel
theorem dX4_count_49 : decode cX4_count 49 = .ok (.aload_n 0, 1) := by decide +kernel
theorem dX4_count_50 : decode cX4_count 50 = .ok (.getfield 16, 3) := by decide +kernel
theorem dX4_count_53 : decode cX4_count 53 = .ok (.getfield 92, 3) := by decide +kernel
theorem dX4_count_56 : decode cX4_count 56 = .ok (.getfield 115, 3) := by decide +kernel
theorem dX4_count_59 : decode cX4_count 59 = .ok (.ireturn, 1) := by decide +kernel
theorem dX4_count_60 : decode cX4_count 60 = .ok (.aload_n 0, 1) := by decide +kernel
theorem dX4_count_61 : decode cX4_count 61 = .ok (.getfield 183, 3) := by decide +kernel
theorem dX4_count_64 : decode cX4_count 64 = .ok (.ireturn, 1) := by decide +kernel
theorem dX4_count_65 : decode cX4_count 65 = .ok (.aload_n 0, 1) := by decide +kernel
theorem dX4_count_66 : decode cX4_count 66 = .ok (.getfield 16, 3) := by decide +kernel
theorem dX4_count_69 : decode cX4_count 69 = .ok (.getfield 83, 3) := by decide +kernel
theorem dX4_count_72 : decode cX4_count 72 = .ok (.ireturn, 1) := by decide +kernel
theorem dX4_count_73 : decode cX4_count 73 = .ok (.aload_n 0, 1) := by decide +kernel
theorem dX4_count_74 : decode cX4_count 74 = .ok (.getfield 23, 3) := by decide +kernel
theorem dX4_count_77 : decode cX4_count 77 = .ok (.aload_n 0, 1) := by decide +kernel
theorem dX4_count_78 : decode cX4_count 78 = .ok (.getfield 16, 3) := by decide +kernel
theorem dX4_count_81 : decode cX4_count 81 = .ok (.aload_n 0, 1) := by decide +kernel
theorem dX4_count_82 : decode cX4_count 82 = .ok (.getfield 16, 3) := by decide +kernel
theorem dX4_count_85 : decode cX4_count 85 = .ok (.getfield 92, 3) := by decide +kernel
theorem dX4_count_88 : decode cX4_count 88 = .ok (.getfield 115, 3) := by decide +kernel
theorem dX4_count_91 : decode cX4_count 91 = .ok (.aload_n 0, 1) := by decide +kernel
theorem dX4_count_92 : decode cX4_count 92 = .ok (.getfield 71, 3) := by decide +kernel
theorem dX4_count_95 : decode cX4_count 95 = .ok (.invokevirtual 136, 3) := by decide +kernel
theorem dX4_count_98 : decode cX4_count 98 = .ok (.aload_n 0, 1) := by decide +kernel
theorem dX4_count_99 : decode cX4_count 99 = .ok (.getfield 23, 3) := by decide +kernel
theorem dX4_count_102 : decode cX4_count 102 = .ok (.getfield 174, 3) := by decide +kernel
theorem dX4_count_105 : decode cX4_count 105 = .ok (.ireturn, 1) := by decide +kernel
theorem dX4_count_106 : decode cX4_count 106 = .ok (.aload_n 0, 1) := by decide +kernel
theorem dX4_count_107 : decode cX4_count 107 = .ok (.getfield 23, 3) := by decide +kernel
theorem dX4_count_110 : decode cX4_count 110 = .ok (.aload_n 0, 1) := by decide +kernel
theorem dX4_count_111 : decode cX4_count 111 = .ok (.getfield 16, 3) := by decide +kernel
theorem dX4_count_114 : decode cX4_count 114 = .ok (.aload_n 0, 1) := by decide +kernel
theorem dX4_count_115 : decode cX4_count 115 = .ok (.getfield 16, 3) := by decide +kernel
theorem dX4_count_118 : decode cX4_count 118 = .ok (.getfield 92, 3) := by decide +kernel
theorem dX4_count_121 : decode cX4_count 121 = .ok (.getfield 115, 3) := by decide +kernel
theorem dX4_count_124 : decode cX4_count 124 = .ok (.aload_n 0, 1) := by decide +kernel
theorem dX4_count_125 : decode cX4_count 125 = .ok (.getfield 71, 3) := by decide +kernel
theorem dX4_count_128 : decode cX4_count 128 = .ok (.invokevirtual 136, 3) := by decide +kernel
theorem dX4_count_131 : decode cX4_count 131 = .ok (.aload_n 0, 1) := by decide +kernel
theorem dX4_count_132 : decode cX4_count 132 = .ok (.getfield 23, 3) := by decide +kernel
theorem dX4_count_135 : decode cX4_count 135 = .ok (.getfield 186, 3) := by decide +kernel
theorem dX4_count_138 : decode cX4_count 138 = .ok (.ireturn, 1) := by decide +kernel
theorem dX4_count_139 : decode cX4_count 139 = .ok (.aload_n 0, 1) := by decide +kernel
theorem dX4_count_140 : decode cX4_count 140 = .ok (.getfield 43, 3) := by decide +kernel
theorem dX4_count_143 : decode cX4_count 143 = .ok (.ireturn, 1) := by decide +kernel
theorem dX4_count_144 : decode cX4_count 144 = .ok (.iload_n 1, 1) := by decide +kernel
theorem dX4_count_145 : decode cX4_count 145 = .ok (.bipush 10, 2) := by decide +kernel
theorem dX4_count_147 : decode cX4_count 147 = .ok (.if_icmp .lt 29, 3) := by decide +kernel
theorem dX4_count_150 : decode cX4_count 150 = .ok (.aload_n 0, 1) := by decide +kernel
theorem dX4_count_151 : decode cX4_count 151 = .ok (.iload_n 1, 1) := by decide +kernel
theorem dX4_count_152 : decode cX4_count 152 = .ok (.bipush 10, 2) := by decide +kernel
theorem dX4_count_154 : decode cX4_count 154 = .ok (.isub, 1) := by decide +kernel
theorem dX4_count_155 : decode cX4_count 155 = .ok (.invokevirtual 74, 3) := by decide +kernel
theorem dX4_count_158 : decode cX4_count 158 = .ok (.ifCond .eq 18, 3) := by decide +kernel
theorem dX4_count_161 : decode cX4_count 161 = .ok (.aload_n 0, 1) := by decide +kernel
theorem dX4_count_162 : decode cX4_count 162 = .ok (.getfield 16, 3) := by decide +kernel
theorem dX4_count_165 : decode cX4_count 165 = .ok (.getfield 77, 3) := by decide +kernel
theorem dX4_count_168 : decode cX4_count 168 = .ok (.iload_n 1, 1) := by decide +kernel
theorem dX4_count_169 : decode cX4_count 169 = .ok (.bipush 10, 2) := by decide +kernel
theorem dX4_count_171 : decode cX4_count 171 = .ok (.isub, 1) := by decide +kernel
theorem dX4_count_172 : decode cX4_count 172 = .ok (.iaload, 1) := by decide +kernel
theorem dX4_count_173 : decode cX4_count 173 = .ok (.goto 6, 3) := by decide +kernel
theorem dX4_count_176 : decode cX4_count 176 = .ok (.sipush (-10000), 3) := by decide +kernel
theorem dX4_count_179 : decode cX4_count 179 = .ok (.ireturn, 1) := by decide +kernel
theorem dX4_tapeInt_0 : decode cX4_tapeInt 0 = .ok (.bipush 24, 2) := by decide +kernel
theorem dX4_tapeInt_2 : decode cX4_tapeInt 2 = .ok (.istore_n 2, 1) := by decide +kernel
theorem dX4_tapeInt_3 : decode cX4_tapeInt 3 = .ok (.iload_n 2, 1) := by decide +kernel
theorem dX4_tapeInt_4 : decode cX4_tapeInt 4 = .ok (.ifCond .lt 54, 3) := by decide +kernel
theorem dX4_tapeInt_7 : decode cX4_tapeInt 7 = .ok (.aload_n 0, 1) := by decide +kernel
theorem dX4_tapeInt_8 : decode cX4_tapeInt 8 = .ok (.getfield 43, 3) := by decide +kernel
theorem dX4_tapeInt_11 : decode cX4_tapeInt 11 = .ok (.ifCond .lt 41, 3) := by decide +kernel
theorem dX4_tapeInt_14 : decode cX4_tapeInt 14 = .ok (.aload_n 0, 1) := by decide +kernel
theorem dX4_tapeInt_15 : decode cX4_tapeInt 15 = .ok (.getfield 43, 3) := by decide +kernel
theorem dX4_tapeInt_18 : decode cX4_tapeInt 18 = .ok (.aload_n 0, 1) := by decide +kernel
theorem dX4_tapeInt_19 : decode cX4_tapeInt 19 = .ok (.getfield 9, 3) := by decide +kernel
theorem dX4_tapeInt_22 : decode cX4_tapeInt 22 = .ok (.arraylength, 1) := by decide +kernel
theorem dX4_tapeInt_23 : decode cX4_tapeInt 23 = .ok (.if_icmp .ge 29, 3) := by decide +kernel
theorem dX4_tapeInt_26 : decode cX4_tapeInt 26 = .ok (.aload_n 0, 1) := by decide +kernel
theorem dX4_tapeInt_27 : decode cX4_tapeInt 27 = .ok (.getfield 9, 3) := by decide +kernel
theorem dX4_tapeInt_30 : decode cX4_tapeInt 30 = .ok (.aload_n 0, 1) := by decide +kernel
theorem dX4_tapeInt_31 : decode cX4_tapeInt 31 = .ok (.getfield 43, 3) := by decide +kernel
theorem dX4_tapeInt_34 : decode cX4_tapeInt 34 = .ok (.iload_n 1, 1) := by decide +kernel
theorem dX4_tapeInt_35 : decode cX4_tapeInt 35 = .ok (.iload_n 2, 1) := by decide +kernel
theorem dX4_tapeInt_36 : decode cX4_tapeInt 36 = .ok (.iushr, 1) := by decide +kernel
theorem dX4_tapeInt_37 : decode cX4_tapeInt 37 = .ok (.sipush 255, 3) := by decide +kernel
theorem dX4_tapeInt_40 : decode cX4_tapeInt 40 = .ok (.iand, 1) := by decide +kernel
theorem dX4_tapeInt_41 : decode cX4_tapeInt 41 = .ok (.iastore, 1) := by decide +kernel
theorem dX4_tapeInt_42 : decode cX4_tapeInt 42 = .ok (.aload_n 0, 1) := by decide +kernel
theorem dX4_tapeInt_43 : decode cX4_tapeInt 43 = .ok (.dup, 1) := by decide +kernel
theorem dX4_tapeInt_44 : decode cX4_tapeInt 44 = .ok (.getfield 43, 3) := by decide +kernel
theorem dX4_tapeInt_47 : decode cX4_tapeInt 47 = .ok (.iconst 1, 1) := by decide +kernel
theorem dX4_tapeInt_48 : decode cX4_tapeInt 48 = .ok (.iadd, 1) := by decide +kernel
theorem dX4_tapeInt_49 : decode cX4_tapeInt 49 = .ok (.putfield 43, 3) := by decide +kernel
theorem dX4_tapeInt_52 : decode cX4_tapeInt 52 = .ok (.iinc 2 (-8), 3) := by decide +kernel
theorem dX4_tapeInt_55 : decode cX4_tapeInt 55 = .ok (.goto (-52), 3) := by decide +kernel
theorem dX4_tapeInt_58 : decode cX4_tapeInt 58 = .ok (.return_, 1) := by decide +kernel
set_option maxRecDepth 20000 in
theorem ggX4_addToJump_X4_isJumper : GoodIn wsX4_addToJump wsX4_isJumper := goodIn_r _ [6, 7, 19, 20, 21, 22, 23, 24, 25, 26, 27, 28, 29] (by decide +kernel) (by decide +kernel)
set_option maxRecDepth 20000 in
theorem gX4_addToJump_X4_isJumper : GoodIn wsX4_addToJump (wsV RX4 86 RX4 yX4_isJumper wsX4_isJumper) := goodIn_app (goodIn_of _ (by decide +kernel)) ggX4_addToJump_X4_isJumper
set_option maxRecDepth 20000 in
theorem ggX4_addToJump_X4_jumpOf : GoodIn wsX4_addToJump wsX4_jumpOf := goodIn_r _ [10] (by decide +kernel) (by decide +kernel)
set_option maxRecDepth 20000 in
theorem gX4_addToJump_X4_jumpOf : GoodIn wsX4_addToJump (va_wsS RX4 98 yX4_jumpOf wsX4_jumpOf) := goodIn_app (goodIn_of _ (by decide +kernel)) ggX4_addToJump_X4_jumpOf
set_option maxRecDepth 20000 in
theorem ggX4_addToJump_X1_add : GoodIn wsX4_addToJump wsX1_add := goodIn_r _ [14, 15, 16, 17, 18, 40, 41, 42, 43] (by decide +kernel) (by decide +kernel)
set_option maxRecDepth 20000 in
theorem gX4_addToJump_X1_add_n102 : GoodIn wsX4_addToJump (wsX1_add) := ggX4_addToJump_X1_add
theorem dX4_addToJump_0 : decode cX4_addToJump 0 = .ok (.iload_n 2, 1) := by decide +kernel
theorem dX4_addToJump_1 : decode cX4_addToJump 1 = .ok (.bipush 32, 2) := by decide +kernel
theorem dX4_addToJump_3 : decode cX4_addToJump 3 = .ok (.if_icmp .lt 7, 3) := by decide +kernel
theorem dX4_addToJump_6 : decode cX4_addToJump 6 = .ok (.iconst 1, 1) := by decide +kernel
theorem dX4_addToJump_7 : decode cX4_addToJump 7 = .ok (.goto 4, 3) := by decide +kernel
theorem dX4_addToJump_10 : decode cX4_addToJump 10 = .ok (.iconst 0, 1) := by decide +kernel
theorem dX4_addToJump_11 : decode cX4_addToJump 11 = .ok (.istore 8, 2) := by decide +kernel
theorem dX4_addToJump_13 : decode cX4_addToJump 13 = .ok (.iload_n 2, 1) := by decide +kernel
theorem dX4_addToJump_14 : decode cX4_addToJump 14 = .ok (.iload 8, 2) := by decide +kernel
theorem dX4_addToJump_16 : decode cX4_addToJump 16 = .ok (.bipush 32, 2) := by decide +kernel
theorem dX4_addToJump_18 : decode cX4_addToJump 18 = .ok (.imul, 1) := by decide +kernel
theorem dX4_addToJump_19 : decode cX4_addToJump 19 = .ok (.isub, 1) := by decide +kernel
theorem dX4_addToJump_20 : decode cX4_addToJump 20 = .ok (.istore 9, 2) := by decide +kernel
theorem dX4_addToJump_22 : decode cX4_addToJump 22 = .ok (.aload_n 0, 1) := by decide +kernel
theorem dX4_addToJump_23 : decode cX4_addToJump 23 = .ok (.iload 9, 2) := by decide +kernel
theorem dX4_addToJump_25 : decode cX4_addToJump 25 = .ok (.invokevirtual 86, 3) := by decide +kernel
theorem dX4_addToJump_28 : decode cX4_addToJump 28 = .ok (.ifCond .ne 7, 3) := by decide +kernel
theorem dX4_addToJump_31 : decode cX4_addToJump 31 = .ok (.sipush (-10000), 3) := by decide +kernel
theorem dX4_addToJump_34 : decode cX4_addToJump 34 = .ok (.ireturn, 1) := by decide +kernel
theorem dX4_addToJump_35 : decode cX4_addToJump 35 = .ok (.aload_n 0, 1) := by decide +kernel
theorem dX4_addToJump_36 : decode cX4_addToJump 36 = .ok (.getfield 16, 3) := by decide +kernel
theorem dX4_addToJump_39 : decode cX4_addToJump 39 = .ok (.getfield 92, 3) := by decide +kernel
theorem dX4_addToJump_42 : decode cX4_addToJump 42 = .ok (.iload_n 1, 1) := by decide +kernel
theorem dX4_addToJump_43 : decode cX4_addToJump 43 = .ok (.iload 9, 2) := by decide +kernel
theorem dX4_addToJump_45 : decode cX4_addToJump 45 = .ok (.iload 8, 2) := by decide +kernel
theorem dX4_addToJump_47 : decode cX4_addToJump 47 = .ok (.invokestatic 98, 3) := by decide +kernel
theorem dX4_addToJump_50 : decode cX4_addToJump 50 = .ok (.iload_n 3, 1) := by decide +kernel
theorem dX4_addToJump_51 : decode cX4_addToJump 51 = .ok (.iload 4, 2) := by decide +kernel
theorem dX4_addToJump_53 : decode cX4_addToJump 53 = .ok (.iload 5, 2) := by decide +kernel
theorem dX4_addToJump_55 : decode cX4_addToJump 55 = .ok (.iload 6, 2) := by decide +kernel
theorem dX4_addToJump_57 : decode cX4_addToJump 57 = .ok (.iload 7, 2) := by decide +kernel
theorem dX4_addToJump_59 : decode cX4_addToJump 59 = .ok (.invokevirtual 102, 3) := by decide +kernel
theorem dX4_addToJump_62 : decode cX4_addToJump 62 = .ok (.ireturn, 1) := by decide +kernel
theorem dX4_isTeam_0 : decode cX4_isTeam 0 = .ok (.iload_n 1, 1) := by decide +kernel
theorem dX4_isTeam_1 : decode cX4_isTeam 1 = .ok (.ifCond .lt 13, 3) := by decide +kernel
theorem dX4_isTeam_4 : decode cX4_isTeam 4 = .ok (.iload_n 1, 1) := by decide +kernel
theorem dX4_isTeam_5 : decode cX4_isTeam 5 = .ok (.bipush 6, 2) := by decide +kernel
theorem dX4_isTeam_7 : decode cX4_isTeam 7 = .ok (.if_icmp .ge 7, 3) := by decide +kernel
theorem dX4_isTeam_10 : decode cX4_isTeam 10 = .ok (.iconst 1, 1) := by decide +kernel
theorem dX4_isTeam_11 : decode cX4_isTeam 11 = .ok (.goto 4, 3) := by decide +kernel
theorem dX4_isTeam_14 : decode cX4_isTeam 14 = .ok (.iconst 0, 1) := by decide +kernel
theorem dX4_isTeam_15 : decode cX4_isTeam 15 = .ok (.ireturn, 1) := by decide +kernel
theorem dX4_isSensor_0 : decode cX4_isSensor 0 = .ok (.iload_n 1, 1) := by decide +kernel
theorem dX4_isSensor_1 : decode cX4_isSensor 1 = .ok (.ifCond .lt 12, 3) := by decide +kernel
theorem dX4_isSensor_4 : decode cX4_isSensor 4 = .ok (.iload_n 1, 1) := by decide +kernel
theorem dX4_isSensor_5 : decode cX4_isSensor 5 = .ok (.iconst 5, 1) := by decide +kernel
theorem dX4_isSensor_6 : decode cX4_isSensor 6 = .ok (.if_icmp .ge 7, 3) := by decide +kernel
theorem dX4_isSensor_9 : decode cX4_isSensor 9 = .ok (.iconst 1, 1) := by decide +kernel
theorem dX4_isSensor_10 : decode cX4_isSensor 10 = .ok (.goto 4, 3) := by decide +kernel
theorem dX4_isSensor_13 : decode cX4_isSensor 13 = .ok (.iconst 0, 1) := by decide +kernel
theorem dX4_isSensor_14 : decode cX4_isSensor 14 = .ok (.ireturn, 1) := by decide +kernel
theorem dX4_isGate_0 : decode cX4_isGate 0 = .ok (.iload_n 1, 1) := by decide +kernel
theorem dX4_isGate_1 : decode cX4_isGate 1 = .ok (.iconst 1, 1) := by decide +kernel
theorem dX4_isGate_2 : decode cX4_isGate 2 = .ok (.if_icmp .lt 13, 3) := by decide +kernel
theorem dX4_isGate_5 : decode cX4_isGate 5 = .ok (.iload_n 1, 1) := by decide +kernel
theorem dX4_isGate_6 : decode cX4_isGate 6 = .ok (.bipush 50, 2) := by decide +kernel
theorem dX4_isGate_8 : decode cX4_isGate 8 = .ok (.if_icmp .gt 7, 3) := by decide +kernel
theorem dX4_isGate_11 : decode cX4_isGate 11 = .ok (.iconst 1, 1) := by decide +kernel
theorem dX4_isGate_12 : decode cX4_isGate 12 = .ok (.goto 4, 3) := by decide +kernel
theorem dX4_isGate_15 : decode cX4_isGate 15 = .ok (.iconst 0, 1) := by decide +kernel
theorem dX4_isGate_16 : decode cX4_isGate 16 = .ok (.ireturn, 1) := by decide +kernel
theorem dX4_isRound_0 : decode cX4_isRound 0 = .ok (.iload_n 1, 1) := by decide +kernel
theorem dX4_isRound_1 : decode cX4_isRound 1 = .ok (.ifCond .lt 12, 3) := by decide +kernel
theorem dX4_isRound_4 : decode cX4_isRound 4 = .ok (.iload_n 1, 1) := by decide +kernel
theorem dX4_isRound_5 : decode cX4_isRound 5 = .ok (.iconst 2, 1) := by decide +kernel
theorem dX4_isRound_6 : decode cX4_isRound 6 = .ok (.if_icmp .ge 7, 3) := by decide +kernel
theorem dX4_isRound_9 : decode cX4_isRound 9 = .ok (.iconst 1, 1) := by decide +kernel
theorem dX4_isRound_10 : decode cX4_isRound 10 = .ok (.goto 4, 3) := by decide +kernel
theorem dX4_isRound_13 : decode cX4_isRound 13 = .ok (.iconst 0, 1) := by decide +kernel
theorem dX4_isRound_14 : decode cX4_isRound 14 = .ok (.ireturn, 1) := by decide +kernel
theorem dX4_isWind_0 : decode cX4_isWind 0 = .ok (.iload_n 1, 1) := by decide +kernel
theorem dX4_isWind_1 : decode cX4_isWind 1 = .ok (.sipush (-10000), 3) := by decide +kernel
theorem dX4_isWind_4 : decode cX4_isWind 4 = .ok (.if_icmp .eq 17, 3) := by decide +kernel
theorem dX4_isWind_7 : decode cX4_isWind 7 = .ok (.iload_n 1, 1) := by decide +kernel
theorem dX4_isWind_8 : decode cX4_isWind 8 = .ok (.sipush (-999), 3) := by decide +kernel
theorem dX4_isWind_11 : decode cX4_isWind 11 = .ok (.if_icmp .lt 14, 3) := by decide +kernel
theorem dX4_isWind_14 : decode cX4_isWind 14 = .ok (.iload_n 1, 1) := by decide +kernel
theorem dX4_isWind_15 : decode cX4_isWind 15 = .ok (.sipush 999, 3) := by decide +kernel
theorem dX4_isWind_18 : decode cX4_isWind 18 = .ok (.if_icmp .gt 7, 3) := by decide +kernel
theorem dX4_isWind_21 : decode cX4_isWind 21 = .ok (.iconst 1, 1) := by decide +kernel
theorem dX4_isWind_22 : decode cX4_isWind 22 = .ok (.goto 4, 3) := by decide +kernel
theorem dX4_isWind_25 : decode cX4_isWind 25 = .ok (.iconst 0, 1) := by decide +kernel
theorem dX4_isWind_26 : decode cX4_isWind 26 = .ok (.ireturn, 1) := by decide +kernel
theorem dX4_isMark_0 : decode cX4_isMark 0 = .ok (.iload_n 1, 1) := by decide +kernel
theorem dX4_isMark_1 : decode cX4_isMark 1 = .ok (.ifCond .lt 13, 3) := by decide +kernel
theorem dX4_isMark_4 : decode cX4_isMark 4 = .ok (.iload_n 1, 1) := by decide +kernel
theorem dX4_isMark_5 : decode cX4_isMark 5 = .ok (.bipush 40, 2) := by decide +kernel
theorem dX4_isMark_7 : decode cX4_isMark 7 = .ok (.if_icmp .gt 7, 3) := by decide +kernel
theorem dX4_isMark_10 : decode cX4_isMark 10 = .ok (.iconst 1, 1) := by decide +kernel
theorem dX4_isMark_11 : decode cX4_isMark 11 = .ok (.goto 4, 3) := by decide +kernel
theorem dX4_isMark_14 : decode cX4_isMark 14 = .ok (.iconst 0, 1) := by decide +kernel
theorem dX4_isMark_15 : decode cX4_isMark 15 = .ok (.ireturn, 1) := by decide +kernel
theorem dX4_isJumper_0 : decode cX4_isJumper 0 = .ok (.iload_n 1, 1) := by decide +kernel
theorem dX4_isJumper_1 : decode cX4_isJumper 1 = .ok (.ifCond .lt 21, 3) := by decide +kernel
theorem dX4_isJumper_4 : decode cX4_isJumper 4 = .ok (.iload_n 1, 1) := by decide +kernel
theorem dX4_isJumper_5 : decode cX4_isJumper 5 = .ok (.aload_n 0, 1) := by decide +kernel
theorem dX4_isJumper_6 : decode cX4_isJumper 6 = .ok (.getfield 71, 3) := by decide +kernel
theorem dX4_isJumper_9 : decode cX4_isJumper 9 = .ok (.if_icmp .ge 13, 3) := by decide +kernel
theorem dX4_isJumper_12 : decode cX4_isJumper 12 = .ok (.iload_n 1, 1) := by decide +kernel
theorem dX4_isJumper_13 : decode cX4_isJumper 13 = .ok (.bipush 24, 2) := by decide +kernel
theorem dX4_isJumper_15 : decode cX4_isJumper 15 = .ok (.if_icmp .ge 7, 3) := by decide +kernel
theorem dX4_isJumper_18 : decode cX4_isJumper 18 = .ok (.iconst 1, 1) := by decide +kernel
theorem dX4_isJumper_19 : decode cX4_isJumper 19 = .ok (.goto 4, 3) := by decide +kernel
theorem dX4_isJumper_22 : decode cX4_isJumper 22 = .ok (.iconst 0, 1) := by decide +kernel
theorem dX4_isJumper_23 : decode cX4_isJumper 23 = .ok (.ireturn, 1) := by decide +kernel
theorem dX4_isKnowing_0 : decode cX4_isKnowing 0 = .ok (.iload_n 1, 1) := by decide +kernel
theorem dX4_isKnowing_1 : decode cX4_isKnowing 1 = .ok (.ifCond .lt 21, 3) := by decide +kernel
theorem dX4_isKnowing_4 : decode cX4_isKnowing 4 = .ok (.iload_n 1, 1) := by decide +kernel
theorem dX4_isKnowing_5 : decode cX4_isKnowing 5 = .ok (.aload_n 0, 1) := by decide +kernel
theorem dX4_isKnowing_6 : decode cX4_isKnowing 6 = .ok (.getfield 16, 3) := by decide +kernel
theorem dX4_isKnowing_9 : decode cX4_isKnowing 9 = .ok (.getfield 92, 3) := by decide +kernel
theorem dX4_isKnowing_12 : decode cX4_isKnowing 12 = .ok (.getfield 115, 3) := by decide +kernel
theorem dX4_isKnowing_15 : decode cX4_isKnowing 15 = .ok (.if_icmp .gt 7, 3) := by decide +kernel
theorem dX4_isKnowing_18 : decode cX4_isKnowing 18 = .ok (.iconst 1, 1) := by decide +kernel
theorem dX4_isKnowing_19 : decode cX4_isKnowing 19 = .ok (.goto 4, 3) := by decide +kernel
theorem dX4_isKnowing_22 : decode cX4_isKnowing 22 = .ok (.iconst 0, 1) := by decide +kernel
theorem dX4_isKnowing_23 : decode cX4_isKnowing 23 = .ok (.ireturn, 1) := by decide +kernel
theorem dX4_jumpOf_0 : decode cX4_jumpOf 0 = .ok (.iload_n 1, 1) := by decide +kernel
theorem dX4_jumpOf_1 : decode cX4_jumpOf 1 = .ok (.bipush 24, 2) := by decide +kernel
theorem dX4_jumpOf_3 : decode cX4_jumpOf 3 = .ok (.imul, 1) := by decide +kernel
theorem dX4_jumpOf_4 : decode cX4_jumpOf 4 = .ok (.iload_n 0, 1) := by decide +kernel
theorem dX4_jumpOf_5 : decode cX4_jumpOf 5 = .ok (.iadd, 1) := by decide +kernel
theorem dX4_jumpOf_6 : decode cX4_jumpOf 6 = .ok (.ireturn, 1) := by decide +kernel
theorem dX4_jumperOf_0 : decode cX4_jumperOf 0 = .ok (.iload_n 0, 1) := by decide +kernel
theorem dX4_jumperOf_1 : decode cX4_jumperOf 1 = .ok (.bipush 24, 2) := by decide +kernel
theorem dX4_jumperOf_3 : decode cX4_jumperOf 3 = .ok (.irem, 1) := by decide +kernel
theorem dX4_jumperOf_4 : decode cX4_jumperOf 4 = .ok (.ireturn, 1) := by decide +kernel
set_option maxRecDepth 20000 in
theorem ggX4_partOfPoints_X3_sum : GoodIn wsX4_partOfPoints wsX3_sum := goodIn_r _ [5, 6, 7, 8, 9, 10, 11, 12, 13, 29, 30, 31, 32, 33, 34, 35, 36, 37, 38] (by decide +kernel) (by decide +kernel)
set_option maxRecDepth 20000 in
theorem gX4_partOfPoints_X3_sum_n189 : GoodIn wsX4_partOfPoints (wsX3_sum) := ggX4_partOfPoints_X3_sum
set_option maxRecDepth 20000 in
theorem ggX4_partOfPoints_X3_worthOf : GoodIn wsX4_partOfPoints wsX3_worthOf := goodIn_r _ [16, 6, 7, 8, 9, 10, 11, 12, 13, 17, 2, 4, 3, 5, 29, 30, 31, 32, 33, 34, 35, 36, 37, 38] (by decide +kernel) (by decide +kernel)
set_option maxRecDepth 20000 in
theorem gX4_partOfPoints_X3_worthOf_n204 : GoodIn wsX4_partOfPoints (wsX3_worthOf) := ggX4_partOfPoints_X3_worthOf
theorem dX4_partOfPoints_0 : decode cX4_partOfPoints 0 = .ok (.iload_n 1, 1) := by decide +kernel
theorem dX4_partOfPoints_1 : decode cX4_partOfPoints 1 = .ok (.tableswitch 113 0 6 #[43, 51, 59, 67, 75, 83, 98], 43) := by decide +kernel
theorem dX4_partOfPoints_44 : decode cX4_partOfPoints 44 = .ok (.aload_n 0, 1) := by decide +kernel
theorem dX4_partOfPoints_45 : decode cX4_partOfPoints 45 = .ok (.getfield 16, 3) := by decide +kernel
theorem dX4_partOfPoints_48 : decode cX4_partOfPoints 48 = .ok (.invokevirtual 189, 3) := by decide +kernel
theorem dX4_partOfPoints_51 : decode cX4_partOfPoints 51 = .ok (.ireturn, 1) := by decide +kernel
theorem dX4_partOfPoints_52 : decode cX4_partOfPoints 52 = .ok (.aload_n 0, 1) := by decide +kernel
theorem dX4_partOfPoints_53 : decode cX4_partOfPoints 53 = .ok (.getfield 16, 3) := by decide +kernel
theorem dX4_partOfPoints_56 : decode cX4_partOfPoints 56 = .ok (.getfield 192, 3) := by decide +kernel
theorem dX4_partOfPoints_59 : decode cX4_partOfPoints 59 = .ok (.ireturn, 1) := by decide +kernel
theorem dX4_partOfPoints_60 : decode cX4_partOfPoints 60 = .ok (.aload_n 0, 1) := by decide +kernel
theorem dX4_partOfPoints_61 : decode cX4_partOfPoints 61 = .ok (.getfield 16, 3) := by decide +kernel
theorem dX4_partOfPoints_64 : decode cX4_partOfPoints 64 = .ok (.getfield 195, 3) := by decide +kernel
theorem dX4_partOfPoints_67 : decode cX4_partOfPoints 67 = .ok (.ireturn, 1) := by decide +kernel
theorem dX4_partOfPoints_68 : decode cX4_partOfPoints 68 = .ok (.aload_n 0, 1) := by decide +kernel
theorem dX4_partOfPoints_69 : decode cX4_partOfPoints 69 = .ok (.getfield 16, 3) := by decide +kernel
theorem dX4_partOfPoints_72 : decode cX4_partOfPoints 72 = .ok (.getfield 198, 3) := by decide +kernel
theorem dX4_partOfPoints_75 : decode cX4_partOfPoints 75 = .ok (.ireturn, 1) := by decide +kernel
theorem dX4_partOfPoints_76 : decode cX4_partOfPoints 76 = .ok (.aload_n 0, 1) := by decide +kernel
theorem dX4_partOfPoints_77 : decode cX4_partOfPoints 77 = .ok (.getfield 16, 3) := by decide +kernel
theorem dX4_partOfPoints_80 : decode cX4_partOfPoints 80 = .ok (.getfield 201, 3) := by decide +kernel
theorem dX4_partOfPoints_83 : decode cX4_partOfPoints 83 = .ok (.ireturn, 1) := by decide +kernel
theorem dX4_partOfPoints_84 : decode cX4_partOfPoints 84 = .ok (.aload_n 0, 1) := by decide +kernel
theorem dX4_partOfPoints_85 : decode cX4_partOfPoints 85 = .ok (.getfield 16, 3) := by decide +kernel
theorem dX4_partOfPoints_88 : decode cX4_partOfPoints 88 = .ok (.aload_n 0, 1) := by decide +kernel
theorem dX4_partOfPoints_89 : decode cX4_partOfPoints 89 = .ok (.getfield 16, 3) := by decide +kernel
theorem dX4_partOfPoints_92 : decode cX4_partOfPoints 92 = .ok (.getfield 198, 3) := by decide +kernel
theorem dX4_partOfPoints_95 : decode cX4_partOfPoints 95 = .ok (.invokevirtual 204, 3) := by decide +kernel
theorem dX4_partOfPoints_98 : decode cX4_partOfPoints 98 = .ok (.ireturn, 1) := by decide +kernel
theorem dX4_partOfPoints_99 : decode cX4_partOfPoints 99 = .ok (.aload_n 0, 1) := by decide +kernel
theorem dX4_partOfPoints_100 : decode cX4_partOfPoints 100 = .ok (.getfield 16, 3) := by decide +kernel
theorem dX4_partOfPoints_103 : decode cX4_partOfPoints 103 = .ok (.aload_n 0, 1) := by decide +kernel
theorem dX4_partOfPoints_104 : decode cX4_partOfPoints 104 = .ok (.getfield 16, 3) := by decide +kernel
theorem dX4_partOfPoints_107 : decode cX4_partOfPoints 107 = .ok (.getfield 201, 3) := by decide +kernel
theorem dX4_partOfPoints_110 : decode cX4_partOfPoints 110 = .ok (.invokevirtual 204, 3) := by decide +kernel
theorem dX4_partOfPoints_113 : decode cX4_partOfPoints 113 = .ok (.ireturn, 1) := by decide +kernel
theorem dX4_partOfPoints_114 : decode cX4_partOfPoints 114 = .ok (.sipush (-10000), 3) := by decide +kernel
theorem dX4_partOfPoints_117 : decode cX4_partOfPoints 117 = .ok (.ireturn, 1) := by decide +kernel
set_option maxRecDepth 20000 in
theorem ggX4_teamTotal_X0_jumperAt : GoodIn wsX4_teamTotal wsX0_jumperAt := goodIn_r _ [6, 7, 29, 30, 31, 32, 33, 34, 35] (by decide +kernel) (by decide +kernel)
set_option maxRecDepth 20000 in
theorem gX4_teamTotal_X0_jumperAt_n155 : GoodIn wsX4_teamTotal (wsX0_jumperAt) := ggX4_teamTotal_X0_jumperAt
set_option maxRecDepth 20000 in
theorem ggX4_teamTotal_X4_isJumper : GoodIn wsX4_teamTotal wsX4_isJumper := goodIn_r _ [12, 13, 18, 19, 20, 21, 22, 23, 24, 25, 26, 27, 28] (by decide +kernel) (by decide +kernel)
set_option maxRecDepth 20000 in
theorem gX4_teamTotal_X4_isJumper : GoodIn wsX4_teamTotal (wsV RX4 86 RX4 yX4_isJumper wsX4_isJumper) := goodIn_app (goodIn_of _ (by decide +kernel)) ggX4_teamTotal_X4_isJumper
set_option maxRecDepth 20000 in
theorem ggX4_teamTotal_X0_totalOf : GoodIn wsX4_teamTotal wsX0_totalOf := goodIn_r _ [16, 17, 29, 30, 31, 32, 33, 34, 35] (by decide +kernel) (by decide +kernel)
set_option maxRecDepth 20000 in
theorem gX4_teamTotal_X0_totalOf_n146 : GoodIn wsX4_teamTotal (wsX0_totalOf) := ggX4_teamTotal_X0_totalOf
theorem dX4_teamTotal_0 : decode cX4_teamTotal 0 = .ok (.iconst 0, 1) := by decide +kernel
theorem dX4_teamTotal_1 : decode cX4_teamTotal 1 = .ok (.istore_n 2, 1) := by decide +kernel
theorem dX4_teamTotal_2 : decode cX4_teamTotal 2 = .ok (.iconst 0, 1) := by decide +kernel
theorem dX4_teamTotal_3 : decode cX4_teamTotal 3 = .ok (.istore_n 3, 1) := by decide +kernel
theorem dX4_teamTotal_4 : decode cX4_teamTotal 4 = .ok (.iconst 0, 1) := by decide +kernel
theorem dX4_teamTotal_5 : decode cX4_teamTotal 5 = .ok (.istore 4, 2) := by decide +kernel
theorem dX4_teamTotal_7 : decode cX4_teamTotal 7 = .ok (.iload 4, 2) := by decide +kernel
theorem dX4_teamTotal_9 : decode cX4_teamTotal 9 = .ok (.aload_n 0, 1) := by decide +kernel
theorem dX4_teamTotal_10 : decode cX4_teamTotal 10 = .ok (.getfield 23, 3) := by decide +kernel
theorem dX4_teamTotal_13 : decode cX4_teamTotal 13 = .ok (.getfield 174, 3) := by decide +kernel
theorem dX4_teamTotal_16 : decode cX4_teamTotal 16 = .ok (.if_icmp .ge 60, 3) := by decide +kernel
theorem dX4_teamTotal_19 : decode cX4_teamTotal 19 = .ok (.iload_n 3, 1) := by decide +kernel
theorem dX4_teamTotal_20 : decode cX4_teamTotal 20 = .ok (.iconst 4, 1) := by decide +kernel
theorem dX4_teamTotal_21 : decode cX4_teamTotal 21 = .ok (.if_icmp .ge 55, 3) := by decide +kernel
theorem dX4_teamTotal_24 : decode cX4_teamTotal 24 = .ok (.aload_n 0, 1) := by decide +kernel
theorem dX4_teamTotal_25 : decode cX4_teamTotal 25 = .ok (.getfield 23, 3) := by decide +kernel
theorem dX4_teamTotal_28 : decode cX4_teamTotal 28 = .ok (.iload 4, 2) := by decide +kernel
theorem dX4_teamTotal_30 : decode cX4_teamTotal 30 = .ok (.invokevirtual 155, 3) := by decide +kernel
theorem dX4_teamTotal_33 : decode cX4_teamTotal 33 = .ok (.istore 5, 2) := by decide +kernel
theorem dX4_teamTotal_35 : decode cX4_teamTotal 35 = .ok (.aload_n 0, 1) := by decide +kernel
theorem dX4_teamTotal_36 : decode cX4_teamTotal 36 = .ok (.iload 5, 2) := by decide +kernel
theorem dX4_teamTotal_38 : decode cX4_teamTotal 38 = .ok (.invokevirtual 86, 3) := by decide +kernel
theorem dX4_teamTotal_41 : decode cX4_teamTotal 41 = .ok (.ifCond .eq 29, 3) := by decide +kernel
theorem dX4_teamTotal_44 : decode cX4_teamTotal 44 = .ok (.aload_n 0, 1) := by decide +kernel
theorem dX4_teamTotal_45 : decode cX4_teamTotal 45 = .ok (.getfield 30, 3) := by decide +kernel
theorem dX4_teamTotal_48 : decode cX4_teamTotal 48 = .ok (.iload 5, 2) := by decide +kernel
theorem dX4_teamTotal_50 : decode cX4_teamTotal 50 = .ok (.iaload, 1) := by decide +kernel
theorem dX4_teamTotal_51 : decode cX4_teamTotal 51 = .ok (.iload_n 1, 1) := by decide +kernel
theorem dX4_teamTotal_52 : decode cX4_teamTotal 52 = .ok (.if_icmp .ne 18, 3) := by decide +kernel
theorem dX4_teamTotal_55 : decode cX4_teamTotal 55 = .ok (.iload_n 2, 1) := by decide +kernel
theorem dX4_teamTotal_56 : decode cX4_teamTotal 56 = .ok (.aload_n 0, 1) := by decide +kernel
theorem dX4_teamTotal_57 : decode cX4_teamTotal 57 = .ok (.getfield 23, 3) := by decide +kernel
theorem dX4_teamTotal_60 : decode cX4_teamTotal 60 = .ok (.iload 5, 2) := by decide +kernel
theorem dX4_teamTotal_62 : decode cX4_teamTotal 62 = .ok (.invokevirtual 146, 3) := by decide +kernel
theorem dX4_teamTotal_65 : decode cX4_teamTotal 65 = .ok (.iadd, 1) := by decide +kernel
theorem dX4_teamTotal_66 : decode cX4_teamTotal 66 = .ok (.istore_n 2, 1) := by decide +kernel
theorem dX4_teamTotal_67 : decode cX4_teamTotal 67 = .ok (.iinc 3 1, 3) := by decide +kernel
theorem dX4_teamTotal_70 : decode cX4_teamTotal 70 = .ok (.iinc 4 1, 3) := by decide +kernel
theorem dX4_teamTotal_73 : decode cX4_teamTotal 73 = .ok (.goto (-66), 3) := by decide +kernel
theorem dX4_teamTotal_76 : decode cX4_teamTotal 76 = .ok (.iload_n 3, 1) := by decide +kernel
theorem dX4_teamTotal_77 : decode cX4_teamTotal 77 = .ok (.ifCond .ne 9, 3) := by decide +kernel
theorem dX4_teamTotal_80 : decode cX4_teamTotal 80 = .ok (.sipush (-10000), 3) := by decide +kernel
theorem dX4_teamTotal_83 : decode cX4_teamTotal 83 = .ok (.goto 4, 3) := by decide +kernel
theorem dX4_teamTotal_86 : decode cX4_teamTotal 86 = .ok (.iload_n 2, 1) := by decide +kernel
theorem dX4_teamTotal_87 : decode cX4_teamTotal 87 = .ok (.ireturn, 1) := by decide +kernel
theorem dX4_seasonPoints_0 : decode cX4_seasonPoints 0 = .ok (.iload_n 0, 1) := by decide +kernel
theorem dX4_seasonPoints_1 : decode cX4_seasonPoints 1 = .ok (.iconst 1, 1) := by decide +kernel
theorem dX4_seasonPoints_2 : decode cX4_seasonPoints 2 = .ok (.if_icmp .lt 21, 3) := by decide +kernel
theorem dX4_seasonPoints_5 : decode cX4_seasonPoints 5 = .ok (.iload_n 0, 1) := by decide +kernel
theorem dX4_seasonPoints_6 : decode cX4_seasonPoints 6 = .ok (.getstatic 207, 3) := by decide +kernel
theorem dX4_seasonPoints_9 : decode cX4_seasonPoints 9 = .ok (.arraylength, 1) := by decide +kernel
theorem dX4_seasonPoints_10 : decode cX4_seasonPoints 10 = .ok (.if_icmp .gt 13, 3) := by decide +kernel
theorem dX4_seasonPoints_13 : decode cX4_seasonPoints 13 = .ok (.getstatic 207, 3) := by decide +kernel
theorem dX4_seasonPoints_16 : decode cX4_seasonPoints 16 = .ok (.iload_n 0, 1) := by decide +kernel
theorem dX4_seasonPoints_17 : decode cX4_seasonPoints 17 = .ok (.iconst 1, 1) := by decide +kernel
theorem dX4_seasonPoints_18 : decode cX4_seasonPoints 18 = .ok (.isub, 1) := by decide +kernel
theorem dX4_seasonPoints_19 : decode cX4_seasonPoints 19 = .ok (.iaload, 1) := by decide +kernel
theorem dX4_seasonPoints_20 : decode cX4_seasonPoints 20 = .ok (.goto 4, 3) := by decide +kernel
theorem dX4_seasonPoints_23 : decode cX4_seasonPoints 23 = .ok (.iconst 0, 1) := by decide +kernel
theorem dX4_seasonPoints_24 : decode cX4_seasonPoints 24 = .ok (.ireturn, 1) := by decide +kernel
set_option maxRecDepth 20000 in
theorem ggX4_recordJump_X3_know : GoodIn wsX4_recordJump wsX3_know := goodIn_r _ [6, 7, 8, 9, 10, 11, 12, 51, 52, 53, 54, 55, 56, 57, 58, 59, 60, 61, 62, 63, 64] (by decide +kernel) (by decide +kernel)
set_option maxRecDepth 20000 in
theorem gX4_recordJump_X3_know_n118 : GoodIn wsX4_recordJump (wsX3_know) := ggX4_recordJump_X3_know
set_option maxRecDepth 20000 in
theorem ggX4_recordJump_X3_mayBeRecord : GoodIn wsX4_recordJump wsX3_mayBeRecord := goodIn_r _ [15, 8, 16, 17, 18, 4, 19, 7, 20, 21, 22, 23, 24, 25, 26, 27, 28, 29, 30, 31, 32, 51, 52, 53, 54, 55, 56, 57, 58, 59, 60, 61, 62, 63, 64] (by decide +kernel) (by decide +kernel)
set_option maxRecDepth 20000 in
theorem gX4_recordJump_X3_mayBeRecord_n210 : GoodIn wsX4_recordJump (wsX3_mayBeRecord) := ggX4_recordJump_X3_mayBeRecord
set_option maxRecDepth 20000 in
theorem ggX4_recordJump_X3_lengthOf : GoodIn wsX4_recordJump wsX3_lengthOf := goodIn_r _ [35, 8, 16, 17, 18, 4, 19, 7, 28, 29, 30, 31, 32, 51, 52, 53, 54, 55, 56, 57, 58, 59, 60, 61, 62, 63, 64] (by decide +kernel) (by decide +kernel)
set_option maxRecDepth 20000 in
theorem gX4_recordJump_X3_lengthOf_n168 : GoodIn wsX4_recordJump (wsX3_lengthOf) := ggX4_recordJump_X3_lengthOf
set_option maxRecDepth 20000 in
theorem ggX4_recordJump_X3_isLonger : GoodIn wsX4_recordJump wsX3_isLonger := goodIn_r _ [38, 39, 33, 34, 4, 35, 8, 16, 17, 18, 19, 7, 28, 29, 30, 31, 32, 51, 52, 53, 54, 55, 56, 57, 58, 59, 60, 61, 62, 63, 64] (by decide +kernel) (by decide +kernel)
set_option maxRecDepth 20000 in
theorem gX4_recordJump_X3_isLonger_n213 : GoodIn wsX4_recordJump (wsX3_isLonger) := ggX4_recordJump_X3_isLonger
theorem dX4_recordJump_0 : decode cX4_recordJump 0 = .ok (.aload_n 0, 1) := by decide +kernel
theorem dX4_recordJump_1 : decode cX4_recordJump 1 = .ok (.getfield 16, 3) := by decide +kernel
theorem dX4_recordJump_4 : decode cX4_recordJump 4 = .ok (.aload_n 0, 1) := by decide +kernel
theorem dX4_recordJump_5 : decode cX4_recordJump 5 = .ok (.getfield 16, 3) := by decide +kernel
theorem dX4_recordJump_8 : decode cX4_recordJump 8 = .ok (.getfield 92, 3) := by decide +kernel
theorem dX4_recordJump_11 : decode cX4_recordJump 11 = .ok (.getfield 115, 3) := by decide +kernel
theorem dX4_recordJump_14 : decode cX4_recordJump 14 = .ok (.invokevirtual 118, 3) := by decide +kernel
theorem dX4_recordJump_17 : decode cX4_recordJump 17 = .ok (.iconst (-1), 1) := by decide +kernel
theorem dX4_recordJump_18 : decode cX4_recordJump 18 = .ok (.istore_n 1, 1) := by decide +kernel
theorem dX4_recordJump_19 : decode cX4_recordJump 19 = .ok (.iconst 0, 1) := by decide +kernel
theorem dX4_recordJump_20 : decode cX4_recordJump 20 = .ok (.istore_n 2, 1) := by decide +kernel
theorem dX4_recordJump_21 : decode cX4_recordJump 21 = .ok (.iload_n 2, 1) := by decide +kernel
theorem dX4_recordJump_22 : decode cX4_recordJump 22 = .ok (.bipush 48, 2) := by decide +kernel
theorem dX4_recordJump_24 : decode cX4_recordJump 24 = .ok (.if_icmp .ge 53, 3) := by decide +kernel
theorem dX4_recordJump_27 : decode cX4_recordJump 27 = .ok (.aload_n 0, 1) := by decide +kernel
theorem dX4_recordJump_28 : decode cX4_recordJump 28 = .ok (.getfield 16, 3) := by decide +kernel
theorem dX4_recordJump_31 : decode cX4_recordJump 31 = .ok (.iload_n 2, 1) := by decide +kernel
theorem dX4_recordJump_32 : decode cX4_recordJump 32 = .ok (.invokevirtual 210, 3) := by decide +kernel
theorem dX4_recordJump_35 : decode cX4_recordJump 35 = .ok (.ifCond .eq 36, 3) := by decide +kernel
theorem dX4_recordJump_38 : decode cX4_recordJump 38 = .ok (.aload_n 0, 1) := by decide +kernel
theorem dX4_recordJump_39 : decode cX4_recordJump 39 = .ok (.getfield 16, 3) := by decide +kernel
theorem dX4_recordJump_42 : decode cX4_recordJump 42 = .ok (.iload_n 2, 1) := by decide +kernel
theorem dX4_recordJump_43 : decode cX4_recordJump 43 = .ok (.invokevirtual 168, 3) := by decide +kernel
theorem dX4_recordJump_46 : decode cX4_recordJump 46 = .ok (.aload_n 0, 1) := by decide +kernel
theorem dX4_recordJump_47 : decode cX4_recordJump 47 = .ok (.getfield 36, 3) := by decide +kernel
theorem dX4_recordJump_50 : decode cX4_recordJump 50 = .ok (.if_icmp .le 21, 3) := by decide +kernel
theorem dX4_recordJump_53 : decode cX4_recordJump 53 = .ok (.iload_n 1, 1) := by decide +kernel
theorem dX4_recordJump_54 : decode cX4_recordJump 54 = .ok (.ifCond .lt 15, 3) := by decide +kernel
theorem dX4_recordJump_57 : decode cX4_recordJump 57 = .ok (.aload_n 0, 1) := by decide +kernel
theorem dX4_recordJump_58 : decode cX4_recordJump 58 = .ok (.getfield 16, 3) := by decide +kernel
theorem dX4_recordJump_61 : decode cX4_recordJump 61 = .ok (.iload_n 2, 1) := by decide +kernel
theorem dX4_recordJump_62 : decode cX4_recordJump 62 = .ok (.iload_n 1, 1) := by decide +kernel
theorem dX4_recordJump_63 : decode cX4_recordJump 63 = .ok (.invokevirtual 213, 3) := by decide +kernel
theorem dX4_recordJump_66 : decode cX4_recordJump 66 = .ok (.ifCond .eq 5, 3) := by decide +kernel
theorem dX4_recordJump_69 : decode cX4_recordJump 69 = .ok (.iload_n 2, 1) := by decide +kernel
theorem dX4_recordJump_70 : decode cX4_recordJump 70 = .ok (.istore_n 1, 1) := by decide +kernel
theorem dX4_recordJump_71 : decode cX4_recordJump 71 = .ok (.iinc 2 1, 3) := by decide +kernel
theorem dX4_recordJump_74 : decode cX4_recordJump 74 = .ok (.goto (-53), 3) := by decide +kernel
theorem dX4_recordJump_77 : decode cX4_recordJump 77 = .ok (.iload_n 1, 1) := by decide +kernel
theorem dX4_recordJump_78 : decode cX4_recordJump 78 = .ok (.ireturn, 1) := by decide +kernel
set_option maxRecDepth 20000 in
theorem ggX4_keepRecord_X4_recordJump : GoodIn wsX4_keepRecord wsX4_recordJump := goodIn_r _ [8, 1, 2, 9, 10, 11, 12, 13, 14, 15, 16, 17, 18, 19, 20, 21, 22, 23, 24, 25, 26, 27, 28, 29, 30, 31, 32, 33, 34, 35, 36, 37, 38, 39, 40, 41, 42, 43, 44, 45, 49, 50, 51, 52, 53, 54, 55, 56, 57, 58, 59, 60, 61, 62, 63, 64, 65, 66, 67, 68, 69, 70, 71, 72, 73] (by decide +kernel) (by decide +kernel)
set_option maxRecDepth 20000 in
theorem gX4_keepRecord_X4_recordJump : GoodIn wsX4_keepRecord (wsV RX4 164 RX4 yX4_recordJump wsX4_recordJump) := goodIn_app (goodIn_of _ (by decide +kernel)) ggX4_keepRecord_X4_recordJump
set_option maxRecDepth 20000 in
theorem ggX4_keepRecord_X3_lengthOf : GoodIn wsX4_keepRecord wsX3_lengthOf := goodIn_r _ [41, 14, 22, 23, 24, 10, 25, 13, 34, 35, 36, 37, 38, 60, 61, 62, 63, 64, 65, 66, 67, 68, 69, 70, 71, 72, 73] (by decide +kernel) (by decide +kernel)
set_option maxRecDepth 20000 in
theorem gX4_keepRecord_X3_lengthOf_n168 : GoodIn wsX4_keepRecord (wsX3_lengthOf) := ggX4_keepRecord_X3_lengthOf
set_option maxRecDepth 20000 in
theorem ggX4_keepRecord_X4_jumperOf : GoodIn wsX4_keepRecord wsX4_jumperOf := goodIn_r _ [48] (by decide +kernel) (by decide +kernel)
set_option maxRecDepth 20000 in
theorem gX4_keepRecord_X4_jumperOf : GoodIn wsX4_keepRecord (va_wsS RX4 171 yX4_jumperOf wsX4_jumperOf) := goodIn_app (goodIn_of _ (by decide +kernel)) ggX4_keepRecord_X4_jumperOf
theorem dX4_keepRecord_0 : decode cX4_keepRecord 0 = .ok (.aload_n 0, 1) := by decide +kernel
theorem dX4_keepRecord_1 : decode cX4_keepRecord 1 = .ok (.invokevirtual 164, 3) := by decide +kernel
theorem dX4_keepRecord_4 : decode cX4_keepRecord 4 = .ok (.istore_n 1, 1) := by decide +kernel
theorem dX4_keepRecord_5 : decode cX4_keepRecord 5 = .ok (.iload_n 1, 1) := by decide +kernel
theorem dX4_keepRecord_6 : decode cX4_keepRecord 6 = .ok (.ifCond .lt 23, 3) := by decide +kernel
theorem dX4_keepRecord_9 : decode cX4_keepRecord 9 = .ok (.aload_n 0, 1) := by decide +kernel
theorem dX4_keepRecord_10 : decode cX4_keepRecord 10 = .ok (.aload_n 0, 1) := by decide +kernel
theorem dX4_keepRecord_11 : decode cX4_keepRecord 11 = .ok (.getfield 16, 3) := by decide +kernel
theorem dX4_keepRecord_14 : decode cX4_keepRecord 14 = .ok (.iload_n 1, 1) := by decide +kernel
theorem dX4_keepRecord_15 : decode cX4_keepRecord 15 = .ok (.invokevirtual 168, 3) := by decide +kernel
theorem dX4_keepRecord_18 : decode cX4_keepRecord 18 = .ok (.putfield 36, 3) := by decide +kernel
theorem dX4_keepRecord_21 : decode cX4_keepRecord 21 = .ok (.aload_n 0, 1) := by decide +kernel
theorem dX4_keepRecord_22 : decode cX4_keepRecord 22 = .ok (.iload_n 1, 1) := by decide +kernel
theorem dX4_keepRecord_23 : decode cX4_keepRecord 23 = .ok (.invokestatic 171, 3) := by decide +kernel
theorem dX4_keepRecord_26 : decode cX4_keepRecord 26 = .ok (.putfield 40, 3) := by decide +kernel
theorem dX4_keepRecord_29 : decode cX4_keepRecord 29 = .ok (.return_, 1) := by decide +kernel
