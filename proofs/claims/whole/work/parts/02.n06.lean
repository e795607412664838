theorem dX4_count_95 : decode cX4_count 95 = .ok (.iconst (-1), 1) := by decide +kernel
theorem dX4_count_96 : decode cX4_count 96 = .ok (.if_icmp .ne 8, 3) := by decide +kernel
theorem dX4_count_99 : decode cX4_count 99 = .ok (.bipush (-4), 2) := by decide +kernel
theorem dX4_count_101 : decode cX4_count 101 = .ok (.goto 12, 3) := by decide +kernel
theorem dX4_count_104 : decode cX4_count 104 = .ok (.aload_n 0, 1) := by decide +kernel
theorem dX4_count_105 : decode cX4_count 105 = .ok (.getfield 43, 3) := by decide +kernel
theorem dX4_count_108 : decode cX4_count 108 = .ok (.iconst 0, 1) := by decide +kernel
theorem dX4_count_109 : decode cX4_count 109 = .ok (.aaload, 1) := by decide +kernel
theorem dX4_count_110 : decode cX4_count 110 = .ok (.getfield 260, 3) := by decide +kernel
theorem dX4_count_113 : decode cX4_count 113 = .ok (.ireturn, 1) := by decide +kernel
theorem dX4_count_114 : decode cX4_count 114 = .ok (.aload_n 0, 1) := by decide +kernel
theorem dX4_count_115 : decode cX4_count 115 = .ok (.getfield 10, 3) := by decide +kernel
theorem dX4_count_118 : decode cX4_count 118 = .ok (.iconst 1, 1) := by decide +kernel
theorem dX4_count_119 : decode cX4_count 119 = .ok (.invokevirtual 261, 3) := by decide +kernel
theorem dX4_count_122 : decode cX4_count 122 = .ok (.ireturn, 1) := by decide +kernel
theorem dX4_count_123 : decode cX4_count 123 = .ok (.aload_n 0, 1) := by decide +kernel
theorem dX4_count_124 : decode cX4_count 124 = .ok (.getfield 10, 3) := by decide +kernel
theorem dX4_count_127 : decode cX4_count 127 = .ok (.iconst 2, 1) := by decide +kernel
theorem dX4_count_128 : decode cX4_count 128 = .ok (.invokevirtual 261, 3) := by decide +kernel
theorem dX4_count_131 : decode cX4_count 131 = .ok (.ireturn, 1) := by decide +kernel
theorem dX4_count_132 : decode cX4_count 132 = .ok (.iconst (-1), 1) := by decide +kernel
theorem dX4_count_133 : decode cX4_count 133 = .ok (.ireturn, 1) := by decide +kernel
theorem dX4_within_0 : decode cX4_within 0 = .ok (.iload_n 1, 1) := by decide +kernel
theorem dX4_within_1 : decode cX4_within 1 = .ok (.iload_n 0, 1) := by decide +kernel
theorem dX4_within_2 : decode cX4_within 2 = .ok (.if_icmp .gt 12, 3) := by decide +kernel
theorem dX4_within_5 : decode cX4_within 5 = .ok (.iload_n 0, 1) := by decide +kernel
theorem dX4_within_6 : decode cX4_within 6 = .ok (.iload_n 2, 1) := by decide +kernel
theorem dX4_within_7 : decode cX4_within 7 = .ok (.if_icmp .gt 7, 3) := by decide +kernel
theorem dX4_within_10 : decode cX4_within 10 = .ok (.iconst 1, 1) := by decide +kernel
theorem dX4_within_11 : decode cX4_within 11 = .ok (.goto 4, 3) := by decide +kernel
theorem dX4_within_14 : decode cX4_within 14 = .ok (.iconst 0, 1) := by decide +kernel
theorem dX4_within_15 : decode cX4_within 15 = .ok (.ireturn, 1) := by decide +kernel
set_option maxRecDepth 20000 in
theorem ggX4_isFirstOrSecond_X4_within : GoodIn wsX4_isFirstOrSecond wsX4_within := goodIn_r _ [4] (by decide +kernel) (by decide +kernel)
set_option maxRecDepth 20000 in
theorem gX4_isFirstOrSecond_X4_within : GoodIn wsX4_isFirstOrSecond (va_wsS RX4 56 yX4_within wsX4_within) := goodIn_app (goodIn_of _ (by decide +kernel)) ggX4_isFirstOrSecond_X4_within
theorem dX4_isFirstOrSecond_0 : decode cX4_isFirstOrSecond 0 = .ok (.iload_n 0, 1) := by decide +kernel
theorem dX4_isFirstOrSecond_1 : decode cX4_isFirstOrSecond 1 = .ok (.iconst 0, 1) := by decide +kernel
theorem dX4_isFirstOrSecond_2 : decode cX4_isFirstOrSecond 2 = .ok (.iconst 1, 1) := by decide +kernel
theorem dX4_isFirstOrSecond_3 : decode cX4_isFirstOrSecond 3 = .ok (.invokestatic 56, 3) := by decide +kernel
theorem dX4_isFirstOrSecond_6 : decode cX4_isFirstOrSecond 6 = .ok (.ireturn, 1) := by decide +kernel
set_option maxRecDepth 20000 in
theorem ggX4_isAhead_X4_within : GoodIn wsX4_isAhead wsX4_within := goodIn_r _ [4] (by decide +kernel) (by decide +kernel)
set_option maxRecDepth 20000 in
theorem gX4_isAhead_X4_within : GoodIn wsX4_isAhead (va_wsS RX4 56 yX4_within wsX4_within) := goodIn_app (goodIn_of _ (by decide +kernel)) ggX4_isAhead_X4_within
theorem dX4_isAhead_0 : decode cX4_isAhead 0 = .ok (.iload_n 0, 1) := by decide +kernel
theorem dX4_isAhead_1 : decode cX4_isAhead 1 = .ok (.iconst 0, 1) := by decide +kernel
theorem dX4_isAhead_2 : decode cX4_isAhead 2 = .ok (.sipush 200, 3) := by decide +kernel
theorem dX4_isAhead_5 : decode cX4_isAhead 5 = .ok (.invokestatic 56, 3) := by decide +kernel
theorem dX4_isAhead_8 : decode cX4_isAhead 8 = .ok (.ireturn, 1) := by decide +kernel
set_option maxRecDepth 20000 in
theorem ggX4_isShiftedStroke_X4_within : GoodIn wsX4_isShiftedStroke wsX4_within := goodIn_r _ [4] (by decide +kernel) (by decide +kernel)
set_option maxRecDepth 20000 in
theorem gX4_isShiftedStroke_X4_within : GoodIn wsX4_isShiftedStroke (va_wsS RX4 56 yX4_within wsX4_within) := goodIn_app (goodIn_of _ (by decide +kernel)) ggX4_isShiftedStroke_X4_within
theorem dX4_isShiftedStroke_0 : decode cX4_isShiftedStroke 0 = .ok (.iload_n 0, 1) := by decide +kernel
theorem dX4_isShiftedStroke_1 : decode cX4_isShiftedStroke 1 = .ok (.iconst 0, 1) := by decide +kernel
theorem dX4_isShiftedStroke_2 : decode cX4_isShiftedStroke 2 = .ok (.bipush 18, 2) := by decide +kernel
theorem dX4_isShiftedStroke_4 : decode cX4_isShiftedStroke 4 = .ok (.invokestatic 56, 3) := by decide +kernel
theorem dX4_isShiftedStroke_7 : decode cX4_isShiftedStroke 7 = .ok (.ireturn, 1) := by decide +kernel
set_option maxRecDepth 20000 in
theorem ggX4_isShiftedPlace_X4_within : GoodIn wsX4_isShiftedPlace wsX4_within := goodIn_r _ [6] (by decide +kernel) (by decide +kernel)
set_option maxRecDepth 20000 in
theorem gX4_isShiftedPlace_X4_within : GoodIn wsX4_isShiftedPlace (va_wsS RX4 56 yX4_within wsX4_within) := goodIn_app (goodIn_of _ (by decide +kernel)) ggX4_isShiftedPlace_X4_within
theorem dX4_isShiftedPlace_0 : decode cX4_isShiftedPlace 0 = .ok (.iload_n 0, 1) := by decide +kernel
theorem dX4_isShiftedPlace_1 : decode cX4_isShiftedPlace 1 = .ok (.ldc_w 264, 3) := by decide +kernel
theorem dX4_isShiftedPlace_4 : decode cX4_isShiftedPlace 4 = .ok (.ldc_w 265, 3) := by decide +kernel
theorem dX4_isShiftedPlace_7 : decode cX4_isShiftedPlace 7 = .ok (.invokestatic 56, 3) := by decide +kernel
theorem dX4_isShiftedPlace_10 : decode cX4_isShiftedPlace 10 = .ok (.ireturn, 1) := by decide +kernel
set_option maxRecDepth 20000 in
theorem ggX4_isSheet_X4_within : GoodIn wsX4_isSheet wsX4_within := goodIn_r _ [4] (by decide +kernel) (by decide +kernel)
set_option maxRecDepth 20000 in
theorem gX4_isSheet_X4_within : GoodIn wsX4_isSheet (va_wsS RX4 56 yX4_within wsX4_within) := goodIn_app (goodIn_of _ (by decide +kernel)) ggX4_isSheet_X4_within
theorem dX4_isSheet_0 : decode cX4_isSheet 0 = .ok (.iload_n 0, 1) := by decide +kernel
theorem dX4_isSheet_1 : decode cX4_isSheet 1 = .ok (.iconst 0, 1) := by decide +kernel
theorem dX4_isSheet_2 : decode cX4_isSheet 2 = .ok (.iconst 3, 1) := by decide +kernel
theorem dX4_isSheet_3 : decode cX4_isSheet 3 = .ok (.invokestatic 56, 3) := by decide +kernel
theorem dX4_isSheet_6 : decode cX4_isSheet 6 = .ok (.ireturn, 1) := by decide +kernel
set_option maxRecDepth 20000 in
theorem ggX4_areOdds_X4_within : GoodIn wsX4_areOdds wsX4_within := goodIn_r _ [4] (by decide +kernel) (by decide +kernel)
set_option maxRecDepth 20000 in
theorem gX4_areOdds_X4_within : GoodIn wsX4_areOdds (va_wsS RX4 56 yX4_within wsX4_within) := goodIn_app (goodIn_of _ (by decide +kernel)) ggX4_areOdds_X4_within
set_option maxRecDepth 20000 in
theorem ggX4_areOdds_X4_isFirstOrSecond : GoodIn wsX4_areOdds wsX4_isFirstOrSecond := goodIn_r _ [7, 1, 2, 3, 4] (by decide +kernel) (by decide +kernel)
set_option maxRecDepth 20000 in
theorem gX4_areOdds_X4_isFirstOrSecond : GoodIn wsX4_areOdds (va_wsS RX4 199 yX4_isFirstOrSecond wsX4_isFirstOrSecond) := goodIn_app (goodIn_of _ (by decide +kernel)) ggX4_areOdds_X4_isFirstOrSecond
theorem dX4_areOdds_0 : decode cX4_areOdds 0 = .ok (.iload_n 0, 1) := by decide +kernel
theorem dX4_areOdds_1 : decode cX4_areOdds 1 = .ok (.iconst 0, 1) := by decide +kernel
theorem dX4_areOdds_2 : decode cX4_areOdds 2 = .ok (.bipush 10, 2) := by decide +kernel
theorem dX4_areOdds_4 : decode cX4_areOdds 4 = .ok (.invokestatic 56, 3) := by decide +kernel
theorem dX4_areOdds_7 : decode cX4_areOdds 7 = .ok (.ifCond .eq 24, 3) := by decide +kernel
theorem dX4_areOdds_10 : decode cX4_areOdds 10 = .ok (.iload_n 1, 1) := by decide +kernel
theorem dX4_areOdds_11 : decode cX4_areOdds 11 = .ok (.iconst 0, 1) := by decide +kernel
theorem dX4_areOdds_12 : decode cX4_areOdds 12 = .ok (.bipush 8, 2) := by decide +kernel
theorem dX4_areOdds_14 : decode cX4_areOdds 14 = .ok (.invokestatic 56, 3) := by decide +kernel
theorem dX4_areOdds_17 : decode cX4_areOdds 17 = .ok (.ifCond .eq 14, 3) := by decide +kernel
theorem dX4_areOdds_20 : decode cX4_areOdds 20 = .ok (.iload_n 2, 1) := by decide +kernel
theorem dX4_areOdds_21 : decode cX4_areOdds 21 = .ok (.invokestatic 199, 3) := by decide +kernel
theorem dX4_areOdds_24 : decode cX4_areOdds 24 = .ok (.ifCond .eq 7, 3) := by decide +kernel
theorem dX4_areOdds_27 : decode cX4_areOdds 27 = .ok (.iconst 1, 1) := by decide +kernel
theorem dX4_areOdds_28 : decode cX4_areOdds 28 = .ok (.goto 4, 3) := by decide +kernel
theorem dX4_areOdds_31 : decode cX4_areOdds 31 = .ok (.iconst 0, 1) := by decide +kernel
theorem dX4_areOdds_32 : decode cX4_areOdds 32 = .ok (.ireturn, 1) := by decide +kernel
set_option maxRecDepth 20000 in
theorem ggX4_isArm_X4_within : GoodIn wsX4_isArm wsX4_within := goodIn_r _ [6] (by decide +kernel) (by decide +kernel)
set_option maxRecDepth 20000 in
theorem gX4_isArm_X4_within : GoodIn wsX4_isArm (va_wsS RX4 56 yX4_within wsX4_within) := goodIn_app (goodIn_of _ (by decide +kernel)) ggX4_isArm_X4_within
theorem dX4_isArm_0 : decode cX4_isArm 0 = .ok (.iload_n 1, 1) := by decide +kernel
theorem dX4_isArm_1 : decode cX4_isArm 1 = .ok (.iconst 0, 1) := by decide +kernel
theorem dX4_isArm_2 : decode cX4_isArm 2 = .ok (.aload_n 0, 1) := by decide +kernel
theorem dX4_isArm_3 : decode cX4_isArm 3 = .ok (.getfield 10, 3) := by decide +kernel
theorem dX4_isArm_6 : decode cX4_isArm 6 = .ok (.getfield 84, 3) := by decide +kernel
theorem dX4_isArm_9 : decode cX4_isArm 9 = .ok (.iconst 1, 1) := by decide +kernel
theorem dX4_isArm_10 : decode cX4_isArm 10 = .ok (.isub, 1) := by decide +kernel
theorem dX4_isArm_11 : decode cX4_isArm 11 = .ok (.invokestatic 56, 3) := by decide +kernel
theorem dX4_isArm_14 : decode cX4_isArm 14 = .ok (.ireturn, 1) := by decide +kernel
set_option maxRecDepth 20000 in
theorem ggX4_isStroke_X4_within : GoodIn wsX4_isStroke wsX4_within := goodIn_r _ [6] (by decide +kernel) (by decide +kernel)
set_option maxRecDepth 20000 in
theorem gX4_isStroke_X4_within : GoodIn wsX4_isStroke (va_wsS RX4 56 yX4_within wsX4_within) := goodIn_app (goodIn_of _ (by decide +kernel)) ggX4_isStroke_X4_within
theorem dX4_isStroke_0 : decode cX4_isStroke 0 = .ok (.iload_n 1, 1) := by decide +kernel
theorem dX4_isStroke_1 : decode cX4_isStroke 1 = .ok (.iconst 0, 1) := by decide +kernel
theorem dX4_isStroke_2 : decode cX4_isStroke 2 = .ok (.aload_n 0, 1) := by decide +kernel
theorem dX4_isStroke_3 : decode cX4_isStroke 3 = .ok (.getfield 10, 3) := by decide +kernel
theorem dX4_isStroke_6 : decode cX4_isStroke 6 = .ok (.getfield 87, 3) := by decide +kernel
theorem dX4_isStroke_9 : decode cX4_isStroke 9 = .ok (.iconst 1, 1) := by decide +kernel
theorem dX4_isStroke_10 : decode cX4_isStroke 10 = .ok (.isub, 1) := by decide +kernel
theorem dX4_isStroke_11 : decode cX4_isStroke 11 = .ok (.invokestatic 56, 3) := by decide +kernel
theorem dX4_isStroke_14 : decode cX4_isStroke 14 = .ok (.ireturn, 1) := by decide +kernel
theorem dX4_mostOf_0 : decode cX4_mostOf 0 = .ok (.iload_n 0, 1) := by decide +kernel
theorem dX4_mostOf_1 : decode cX4_mostOf 1 = .ok (.ifCond .ne 5, 3) := by decide +kernel
theorem dX4_mostOf_4 : decode cX4_mostOf 4 = .ok (.iconst 3, 1) := by decide +kernel
theorem dX4_mostOf_5 : decode cX4_mostOf 5 = .ok (.ireturn, 1) := by decide +kernel
theorem dX4_mostOf_6 : decode cX4_mostOf 6 = .ok (.iload_n 0, 1) := by decide +kernel
theorem dX4_mostOf_7 : decode cX4_mostOf 7 = .ok (.iconst 1, 1) := by decide +kernel
theorem dX4_mostOf_8 : decode cX4_mostOf 8 = .ok (.if_icmp .ne 8, 3) := by decide +kernel
theorem dX4_mostOf_11 : decode cX4_mostOf 11 = .ok (.bipush 9, 2) := by decide +kernel
theorem dX4_mostOf_13 : decode cX4_mostOf 13 = .ok (.goto 5, 3) := by decide +kernel
theorem dX4_mostOf_16 : decode cX4_mostOf 16 = .ok (.bipush 9, 2) := by decide +kernel
theorem dX4_mostOf_18 : decode cX4_mostOf 18 = .ok (.ireturn, 1) := by decide +kernel
set_option maxRecDepth 20000 in
theorem ggX4_bestSetting_X4_isArm : GoodIn wsX4_bestSetting wsX4_isArm := goodIn_r _ [8, 3, 9, 10, 11, 7, 12, 96, 97, 98, 99, 100, 101, 102, 103, 104, 105, 106, 107, 108, 109, 110, 111, 112, 113, 114, 115, 116] (by decide +kernel) (by decide +kernel)
set_option maxRecDepth 20000 in
theorem gX4_bestSetting_X4_isArm : GoodIn wsX4_bestSetting (wsV RX4 107 RX4 yX4_isArm wsX4_isArm) := goodIn_app (goodIn_of _ (by decide +kernel)) ggX4_bestSetting_X4_isArm
set_option maxRecDepth 20000 in
theorem ggX4_bestSetting_X4_isAhead : GoodIn wsX4_bestSetting wsX4_isAhead := goodIn_r _ [15, 10, 11, 7, 12] (by decide +kernel) (by decide +kernel)
set_option maxRecDepth 20000 in
theorem gX4_bestSetting_X4_isAhead : GoodIn wsX4_bestSetting (va_wsS RX4 166 yX4_isAhead wsX4_isAhead) := goodIn_app (goodIn_of _ (by decide +kernel)) ggX4_bestSetting_X4_isAhead
set_option maxRecDepth 20000 in
theorem ggX4_bestSetting_X4_isFirstOrSecond : GoodIn wsX4_bestSetting wsX4_isFirstOrSecond := goodIn_r _ [18, 10, 11, 7, 12] (by decide +kernel) (by decide +kernel)
set_option maxRecDepth 20000 in
theorem gX4_bestSetting_X4_isFirstOrSecond : GoodIn wsX4_bestSetting (va_wsS RX4 199 yX4_isFirstOrSecond wsX4_isFirstOrSecond) := goodIn_app (goodIn_of _ (by decide +kernel)) ggX4_bestSetting_X4_isFirstOrSecond
set_option maxRecDepth 20000 in
theorem ggX4_bestSetting_X4_mostOf : GoodIn wsX4_bestSetting wsX4_mostOf := goodIn_r _ [21] (by decide +kernel) (by decide +kernel)
set_option maxRecDepth 20000 in
theorem gX4_bestSetting_X4_mostOf : GoodIn wsX4_bestSetting (va_wsS RX4 132 yX4_mostOf wsX4_mostOf) := goodIn_app (goodIn_of _ (by decide +kernel)) ggX4_bestSetting_X4_mostOf
set_option maxRecDepth 20000 in
theorem ggX4_bestSetting_X0_copyFrom : GoodIn wsX4_bestSetting wsX0_copyFrom := goodIn_r _ [26, 27, 28, 29, 30, 31, 32, 33, 34, 35, 36, 37, 38, 39, 25, 40, 41, 42, 105, 106, 107, 108, 109, 110, 111, 112, 113, 114, 115, 116] (by decide +kernel) (by decide +kernel)
set_option maxRecDepth 20000 in
theorem gX4_bestSetting_X0_copyFrom : GoodIn wsX4_bestSetting (wsV RX4 77 RX0 yX0_copyFrom wsX0_copyFrom) := goodIn_app (goodIn_of _ (by decide +kernel)) ggX4_bestSetting_X0_copyFrom
set_option maxRecDepth 20000 in
theorem ggX4_bestSetting_X0_changeSetting : GoodIn wsX4_bestSetting wsX0_changeSetting := goodIn_r _ [46, 31, 32, 34, 105, 106, 107, 108, 109, 110, 111, 112, 113, 114, 115, 116] (by decide +kernel) (by decide +kernel)
set_option maxRecDepth 20000 in
theorem gX4_bestSetting_X0_changeSetting : GoodIn wsX4_bestSetting (wsV RX4 139 RX0 yX0_changeSetting wsX0_changeSetting) := goodIn_app (goodIn_of _ (by decide +kernel)) ggX4_bestSetting_X0_changeSetting
set_option maxRecDepth 20000 in
theorem ggX4_bestSetting_X0_takeSteps : GoodIn wsX4_bestSetting wsX0_takeSteps := goodIn_r _ [50, 51, 52, 53, 25, 54, 28, 36, 30, 55, 56, 57, 58, 59, 60, 61, 62, 29, 27, 33, 31, 63, 64, 65, 66, 32, 34, 67, 68, 69, 70, 71, 72, 73, 74, 75, 76, 77, 78, 79, 80, 81, 82, 83, 84, 35, 42, 85, 86, 87, 41, 105, 106, 107, 108, 109, 110, 111, 112, 113, 114, 115, 116] (by decide +kernel) (by decide +kernel)
set_option maxRecDepth 20000 in
theorem gX4_bestSetting_X0_takeSteps : GoodIn wsX4_bestSetting (wsV RX4 160 RX0 yX0_takeSteps wsX0_takeSteps) := goodIn_app (goodIn_of _ (by decide +kernel)) ggX4_bestSetting_X0_takeSteps
set_option maxRecDepth 20000 in
theorem ggX4_bestSetting_X0_error : GoodIn wsX4_bestSetting wsX0_error := goodIn_r _ [91, 29, 73, 74, 75, 76, 92, 93, 94, 25, 95, 27, 33, 105, 106, 107, 108, 109, 110, 111, 112, 113, 114, 115, 116] (by decide +kernel) (by decide +kernel)
set_option maxRecDepth 20000 in
theorem gX4_bestSetting_X0_error : GoodIn wsX4_bestSetting (wsV RX4 97 RX0 yX0_error wsX0_error) := goodIn_app (goodIn_of _ (by decide +kernel)) ggX4_bestSetting_X0_error
theorem dX4_bestSetting_0 : decode cX4_bestSetting 0 = .ok (.aload_n 0, 1) := by decide +kernel
theorem dX4_bestSetting_1 : decode cX4_bestSetting 1 = .ok (.iload_n 1, 1) := by decide +kernel
theorem dX4_bestSetting_2 : decode cX4_bestSetting 2 = .ok (.invokevirtual 107, 3) := by decide +kernel
theorem dX4_bestSetting_5 : decode cX4_bestSetting 5 = .ok (.ifCond .eq 18, 3) := by decide +kernel
theorem dX4_bestSetting_8 : decode cX4_bestSetting 8 = .ok (.iload_n 3, 1) := by decide +kernel
theorem dX4_bestSetting_9 : decode cX4_bestSetting 9 = .ok (.invokestatic 166, 3) := by decide +kernel
theorem dX4_bestSetting_12 : decode cX4_bestSetting 12 = .ok (.ifCond .eq 11, 3) := by decide +kernel
theorem dX4_bestSetting_15 : decode cX4_bestSetting 15 = .ok (.iload 4, 2) := by decide +kernel
theorem dX4_bestSetting_17 : decode cX4_bestSetting 17 = .ok (.invokestatic 199, 3) := by decide +kernel
theorem dX4_bestSetting_20 : decode cX4_bestSetting 20 = .ok (.ifCond .ne 5, 3) := by decide +kernel
theorem dX4_bestSetting_23 : decode cX4_bestSetting 23 = .ok (.iconst (-1), 1) := by decide +kernel
theorem dX4_bestSetting_24 : decode cX4_bestSetting 24 = .ok (.ireturn, 1) := by decide +kernel
theorem dX4_bestSetting_25 : decode cX4_bestSetting 25 = .ok (.ldc 206, 2) := by decide +kernel
theorem dX4_bestSetting_27 : decode cX4_bestSetting 27 = .ok (.istore 5, 2) := by decide +kernel
theorem dX4_bestSetting_29 : decode cX4_bestSetting 29 = .ok (.iconst 0, 1) := by decide +kernel
theorem dX4_bestSetting_30 : decode cX4_bestSetting 30 = .ok (.istore 6, 2) := by decide +kernel
theorem dX4_bestSetting_32 : decode cX4_bestSetting 32 = .ok (.iconst 0, 1) := by decide +kernel
theorem dX4_bestSetting_33 : decode cX4_bestSetting 33 = .ok (.istore 7, 2) := by decide +kernel
theorem dX4_bestSetting_35 : decode cX4_bestSetting 35 = .ok (.iload 7, 2) := by decide +kernel
theorem dX4_bestSetting_37 : decode cX4_bestSetting 37 = .ok (.iload_n 2, 1) := by decide +kernel
theorem dX4_bestSetting_38 : decode cX4_bestSetting 38 = .ok (.invokestatic 132, 3) := by decide +kernel
theorem dX4_bestSetting_41 : decode cX4_bestSetting 41 = .ok (.if_icmp .gt 63, 3) := by decide +kernel
theorem dX4_bestSetting_44 : decode cX4_bestSetting 44 = .ok (.aload_n 0, 1) := by decide +kernel
theorem dX4_bestSetting_45 : decode cX4_bestSetting 45 = .ok (.getfield 16, 3) := by decide +kernel
theorem dX4_bestSetting_48 : decode cX4_bestSetting 48 = .ok (.aload_n 0, 1) := by decide +kernel
theorem dX4_bestSetting_49 : decode cX4_bestSetting 49 = .ok (.getfield 10, 3) := by decide +kernel
theorem dX4_bestSetting_52 : decode cX4_bestSetting 52 = .ok (.invokevirtual 77, 3) := by decide +kernel
theorem dX4_bestSetting_55 : decode cX4_bestSetting 55 = .ok (.aload_n 0, 1) := by decide +kernel
theorem dX4_bestSetting_56 : decode cX4_bestSetting 56 = .ok (.getfield 16, 3) := by decide +kernel
theorem dX4_bestSetting_59 : decode cX4_bestSetting 59 = .ok (.iload_n 1, 1) := by decide +kernel
theorem dX4_bestSetting_60 : decode cX4_bestSetting 60 = .ok (.iload_n 2, 1) := by decide +kernel
theorem dX4_bestSetting_61 : decode cX4_bestSetting 61 = .ok (.iload 7, 2) := by decide +kernel
theorem dX4_bestSetting_63 : decode cX4_bestSetting 63 = .ok (.invokevirtual 139, 3) := by decide +kernel
theorem dX4_bestSetting_66 : decode cX4_bestSetting 66 = .ok (.aload_n 0, 1) := by decide +kernel
theorem dX4_bestSetting_67 : decode cX4_bestSetting 67 = .ok (.getfield 16, 3) := by decide +kernel
theorem dX4_bestSetting_70 : decode cX4_bestSetting 70 = .ok (.iload_n 3, 1) := by decide +kernel
theorem dX4_bestSetting_71 : decode cX4_bestSetting 71 = .ok (.invokevirtual 160, 3) := by decide +kernel
theorem dX4_bestSetting_74 : decode cX4_bestSetting 74 = .ok (.aload_n 0, 1) := by decide +kernel
theorem dX4_bestSetting_75 : decode cX4_bestSetting 75 = .ok (.getfield 16, 3) := by decide +kernel
theorem dX4_bestSetting_78 : decode cX4_bestSetting 78 = .ok (.invokevirtual 97, 3) := by decide +kernel
theorem dX4_bestSetting_81 : decode cX4_bestSetting 81 = .ok (.istore 8, 2) := by decide +kernel
theorem dX4_bestSetting_83 : decode cX4_bestSetting 83 = .ok (.iload 8, 2) := by decide +kernel
theorem dX4_bestSetting_85 : decode cX4_bestSetting 85 = .ok (.iload 5, 2) := by decide +kernel
theorem dX4_bestSetting_87 : decode cX4_bestSetting 87 = .ok (.if_icmp .ge 11, 3) := by decide +kernel
theorem dX4_bestSetting_90 : decode cX4_bestSetting 90 = .ok (.iload 8, 2) := by decide +kernel
theorem dX4_bestSetting_92 : decode cX4_bestSetting 92 = .ok (.istore 5, 2) := by decide +kernel
theorem dX4_bestSetting_94 : decode cX4_bestSetting 94 = .ok (.iload 7, 2) := by decide +kernel
theorem dX4_bestSetting_96 : decode cX4_bestSetting 96 = .ok (.istore 6, 2) := by decide +kernel
theorem dX4_bestSetting_98 : decode cX4_bestSetting 98 = .ok (.iinc 7 1, 3) := by decide +kernel
theorem dX4_bestSetting_101 : decode cX4_bestSetting 101 = .ok (.goto (-66), 3) := by decide +kernel
theorem dX4_bestSetting_104 : decode cX4_bestSetting 104 = .ok (.iload 4, 2) := by decide +kernel
theorem dX4_bestSetting_106 : decode cX4_bestSetting 106 = .ok (.ifCond .ne 8, 3) := by decide +kernel
theorem dX4_bestSetting_109 : decode cX4_bestSetting 109 = .ok (.iload 6, 2) := by decide +kernel
theorem dX4_bestSetting_111 : decode cX4_bestSetting 111 = .ok (.goto 5, 3) := by decide +kernel
theorem dX4_bestSetting_114 : decode cX4_bestSetting 114 = .ok (.iload 5, 2) := by decide +kernel
theorem dX4_bestSetting_116 : decode cX4_bestSetting 116 = .ok (.ireturn, 1) := by decide +kernel
set_option maxRecDepth 20000 in
theorem ggX4_settingsAsSeen_X4_mostOf : GoodIn wsX4_settingsAsSeen wsX4_mostOf := goodIn_r _ [7] (by decide +kernel) (by decide +kernel)
set_option maxRecDepth 20000 in
theorem gX4_settingsAsSeen_X4_mostOf : GoodIn wsX4_settingsAsSeen (va_wsS RX4 132 yX4_mostOf wsX4_mostOf) := goodIn_app (goodIn_of _ (by decide +kernel)) ggX4_settingsAsSeen_X4_mostOf
set_option maxRecDepth 20000 in
theorem ggX4_settingsAsSeen_X0_copyFrom : GoodIn wsX4_settingsAsSeen wsX0_copyFrom := goodIn_r _ [12, 13, 14, 15, 16, 17, 18, 19, 20, 21, 22, 23, 24, 25, 11, 26, 27, 28, 101, 102, 103, 104, 105, 106, 107, 108, 109, 110, 111, 112] (by decide +kernel) (by decide +kernel)
set_option maxRecDepth 20000 in
theorem gX4_settingsAsSeen_X0_copyFrom : GoodIn wsX4_settingsAsSeen (wsV RX4 77 RX0 yX0_copyFrom wsX0_copyFrom) := goodIn_app (goodIn_of _ (by decide +kernel)) ggX4_settingsAsSeen_X0_copyFrom
set_option maxRecDepth 20000 in
theorem ggX4_settingsAsSeen_X0_changeSetting : GoodIn wsX4_settingsAsSeen wsX0_changeSetting := goodIn_r _ [32, 17, 18, 20, 101, 102, 103, 104, 105, 106, 107, 108, 109, 110, 111, 112] (by decide +kernel) (by decide +kernel)
set_option maxRecDepth 20000 in
theorem gX4_settingsAsSeen_X0_changeSetting : GoodIn wsX4_settingsAsSeen (wsV RX4 139 RX0 yX0_changeSetting wsX0_changeSetting) := goodIn_app (goodIn_of _ (by decide +kernel)) ggX4_settingsAsSeen_X0_changeSetting
set_option maxRecDepth 20000 in
theorem ggX4_settingsAsSeen_X2_agreeWith : GoodIn wsX4_settingsAsSeen wsX2_agreeWith := goodIn_r _ [37, 38, 39, 40, 36, 41, 42, 43, 44, 45, 46, 47, 48, 49, 50, 11, 51, 14, 22, 16, 52, 53, 54, 55, 56, 57, 58, 59, 15, 13, 19, 17, 60, 61, 62, 63, 18, 20, 64, 65, 66, 67, 68, 69, 70, 71, 72, 73, 74, 75, 76, 77, 78, 79, 80, 21, 28, 81, 82, 83, 27, 84, 85, 86, 87, 88, 89, 90, 91, 113, 114, 115, 116, 101, 102, 103, 104, 105, 106, 107, 108, 109, 110, 111, 112] (by decide +kernel) (by decide +kernel)
set_option maxRecDepth 20000 in
theorem gX4_settingsAsSeen_X2_agreeWith : GoodIn wsX4_settingsAsSeen (wsV RX4 266 RX2 yX2_agreeWith wsX2_agreeWith) := goodIn_app (goodIn_of _ (by decide +kernel)) ggX4_settingsAsSeen_X2_agreeWith
theorem dX4_settingsAsSeen_0 : decode cX4_settingsAsSeen 0 = .ok (.iconst 0, 1) := by decide +kernel
theorem dX4_settingsAsSeen_1 : decode cX4_settingsAsSeen 1 = .ok (.istore_n 3, 1) := by decide +kernel
theorem dX4_settingsAsSeen_2 : decode cX4_settingsAsSeen 2 = .ok (.iconst 0, 1) := by decide +kernel
theorem dX4_settingsAsSeen_3 : decode cX4_settingsAsSeen 3 = .ok (.istore 4, 2) := by decide +kernel
theorem dX4_settingsAsSeen_5 : decode cX4_settingsAsSeen 5 = .ok (.iload 4, 2) := by decide +kernel
theorem dX4_settingsAsSeen_7 : decode cX4_settingsAsSeen 7 = .ok (.iload_n 2, 1) := by decide +kernel
theorem dX4_settingsAsSeen_8 : decode cX4_settingsAsSeen 8 = .ok (.invokestatic 132, 3) := by decide +kernel
theorem dX4_settingsAsSeen_11 : decode cX4_settingsAsSeen 11 = .ok (.if_icmp .gt 52, 3) := by decide +kernel
theorem dX4_settingsAsSeen_14 : decode cX4_settingsAsSeen 14 = .ok (.aload_n 0, 1) := by decide +kernel
theorem dX4_settingsAsSeen_15 : decode cX4_settingsAsSeen 15 = .ok (.getfield 16, 3) := by decide +kernel
theorem dX4_settingsAsSeen_18 : decode cX4_settingsAsSeen 18 = .ok (.aload_n 0, 1) := by decide +kernel
theorem dX4_settingsAsSeen_19 : decode cX4_settingsAsSeen 19 = .ok (.getfield 10, 3) := by decide +kernel
theorem dX4_settingsAsSeen_22 : decode cX4_settingsAsSeen 22 = .ok (.invokevirtual 77, 3) := by decide +kernel
theorem dX4_settingsAsSeen_25 : decode cX4_settingsAsSeen 25 = .ok (.aload_n 0, 1) := by decide +kernel
theorem dX4_settingsAsSeen_26 : decode cX4_settingsAsSeen 26 = .ok (.getfield 16, 3) := by decide +kernel
theorem dX4_settingsAsSeen_29 : decode cX4_settingsAsSeen 29 = .ok (.iload_n 1, 1) := by decide +kernel
theorem dX4_settingsAsSeen_30 : decode cX4_settingsAsSeen 30 = .ok (.iload_n 2, 1) := by decide +kernel
theorem dX4_settingsAsSeen_31 : decode cX4_settingsAsSeen 31 = .ok (.iload 4, 2) := by decide +kernel
theorem dX4_settingsAsSeen_33 : decode cX4_settingsAsSeen 33 = .ok (.invokevirtual 139, 3) := by decide +kernel
theorem dX4_settingsAsSeen_36 : decode cX4_settingsAsSeen 36 = .ok (.aload_n 0, 1) := by decide +kernel
theorem dX4_settingsAsSeen_37 : decode cX4_settingsAsSeen 37 = .ok (.getfield 37, 3) := by decide +kernel
theorem dX4_settingsAsSeen_40 : decode cX4_settingsAsSeen 40 = .ok (.aload_n 0, 1) := by decide +kernel
theorem dX4_settingsAsSeen_41 : decode cX4_settingsAsSeen 41 = .ok (.getfield 16, 3) := by decide +kernel
theorem dX4_settingsAsSeen_44 : decode cX4_settingsAsSeen 44 = .ok (.invokevirtual 266, 3) := by decide +kernel
theorem dX4_settingsAsSeen_47 : decode cX4_settingsAsSeen 47 = .ok (.ifCond .eq 10, 3) := by decide +kernel
theorem dX4_settingsAsSeen_50 : decode cX4_settingsAsSeen 50 = .ok (.iload_n 3, 1) := by decide +kernel
theorem dX4_settingsAsSeen_51 : decode cX4_settingsAsSeen 51 = .ok (.iconst 1, 1) := by decide +kernel
theorem dX4_settingsAsSeen_52 : decode cX4_settingsAsSeen 52 = .ok (.iload 4, 2) := by decide +kernel
theorem dX4_settingsAsSeen_54 : decode cX4_settingsAsSeen 54 = .ok (.ishl, 1) := by decide +kernel
theorem dX4_settingsAsSeen_55 : decode cX4_settingsAsSeen 55 = .ok (.ior, 1) := by decide +kernel
theorem dX4_settingsAsSeen_56 : decode cX4_settingsAsSeen 56 = .ok (.istore_n 3, 1) := by decide +kernel
theorem dX4_settingsAsSeen_57 : decode cX4_settingsAsSeen 57 = .ok (.iinc 4 1, 3) := by decide +kernel
theorem dX4_settingsAsSeen_60 : decode cX4_settingsAsSeen 60 = .ok (.goto (-55), 3) := by decide +kernel
theorem dX4_settingsAsSeen_63 : decode cX4_settingsAsSeen 63 = .ok (.iload_n 3, 1) := by decide +kernel
theorem dX4_settingsAsSeen_64 : decode cX4_settingsAsSeen 64 = .ok (.ireturn, 1) := by decide +kernel
set_option maxRecDepth 20000 in
theorem ggX4_lookAhead_X0_copyFrom : GoodIn wsX4_lookAhead wsX0_copyFrom := goodIn_r _ [8, 9, 10, 11, 12, 13, 14, 15, 16, 17, 18, 19, 20, 21, 7, 22, 23, 24, 83, 84, 85, 86, 87, 88, 89, 90, 91, 92, 93, 94] (by decide +kernel) (by decide +kernel)
set_option maxRecDepth 20000 in
theorem gX4_lookAhead_X0_copyFrom : GoodIn wsX4_lookAhead (wsV RX4 77 RX0 yX0_copyFrom wsX0_copyFrom) := goodIn_app (goodIn_of _ (by decide +kernel)) ggX4_lookAhead_X0_copyFrom
set_option maxRecDepth 20000 in
theorem ggX4_lookAhead_X0_changeSetting : GoodIn wsX4_lookAhead wsX0_changeSetting := goodIn_r _ [28, 13, 14, 16, 83, 84, 85, 86, 87, 88, 89, 90, 91, 92, 93, 94] (by decide +kernel) (by decide +kernel)
set_option maxRecDepth 20000 in
theorem gX4_lookAhead_X0_changeSetting : GoodIn wsX4_lookAhead (wsV RX4 139 RX0 yX0_changeSetting wsX0_changeSetting) := goodIn_app (goodIn_of _ (by decide +kernel)) ggX4_lookAhead_X0_changeSetting
set_option maxRecDepth 20000 in
theorem ggX4_lookAhead_X4_lookIndex : GoodIn wsX4_lookAhead wsX4_lookIndex := goodIn_r _ [32] (by decide +kernel) (by decide +kernel)
set_option maxRecDepth 20000 in
theorem gX4_lookAhead_X4_lookIndex : GoodIn wsX4_lookAhead (va_wsS RX4 269 yX4_lookIndex wsX4_lookIndex) := goodIn_app (goodIn_of _ (by decide +kernel)) ggX4_lookAhead_X4_lookIndex
set_option maxRecDepth 20000 in
theorem ggX4_lookAhead_X0_lastPlace : GoodIn wsX4_lookAhead wsX0_lastPlace := goodIn_r _ [36, 9, 11, 15, 83, 84, 85, 86, 87, 88, 89, 90, 91, 92, 93, 94] (by decide +kernel) (by decide +kernel)
set_option maxRecDepth 20000 in
theorem gX4_lookAhead_X0_lastPlace : GoodIn wsX4_lookAhead (wsV RX4 272 RX0 yX0_lastPlace wsX0_lastPlace) := goodIn_app (goodIn_of _ (by decide +kernel)) ggX4_lookAhead_X0_lastPlace
set_option maxRecDepth 20000 in
theorem ggX4_lookAhead_X0_takeStep : GoodIn wsX4_lookAhead wsX0_takeStep := goodIn_r _ [40, 10, 18, 12, 41, 42, 43, 7, 44, 45, 46, 47, 48, 11, 9, 15, 13, 49, 50, 51, 52, 14, 16, 53, 54, 55, 56, 57, 58, 59, 60, 61, 62, 63, 64, 65, 66, 67, 68, 69, 70, 17, 24, 71, 72, 73, 23, 83, 84, 85, 86, 87, 88, 89, 90, 91, 92, 93, 94] (by decide +kernel) (by decide +kernel)
set_option maxRecDepth 20000 in
theorem gX4_lookAhead_X0_takeStep : GoodIn wsX4_lookAhead (wsV RX4 188 RX0 yX0_takeStep wsX0_takeStep) := goodIn_app (goodIn_of _ (by decide +kernel)) ggX4_lookAhead_X0_takeStep
theorem dX4_lookAhead_0 : decode cX4_lookAhead 0 = .ok (.iconst 0, 1) := by decide +kernel
theorem dX4_lookAhead_1 : decode cX4_lookAhead 1 = .ok (.istore_n 3, 1) := by decide +kernel
theorem dX4_lookAhead_2 : decode cX4_lookAhead 2 = .ok (.iload_n 3, 1) := by decide +kernel
theorem dX4_lookAhead_3 : decode cX4_lookAhead 3 = .ok (.bipush 9, 2) := by decide +kernel
theorem dX4_lookAhead_5 : decode cX4_lookAhead 5 = .ok (.if_icmp .gt 82, 3) := by decide +kernel
theorem dX4_lookAhead_8 : decode cX4_lookAhead 8 = .ok (.iload_n 2, 1) := by decide +kernel
theorem dX4_lookAhead_9 : decode cX4_lookAhead 9 = .ok (.iload_n 3, 1) := by decide +kernel
theorem dX4_lookAhead_10 : decode cX4_lookAhead 10 = .ok (.ishr, 1) := by decide +kernel
theorem dX4_lookAhead_11 : decode cX4_lookAhead 11 = .ok (.iconst 1, 1) := by decide +kernel
theorem dX4_lookAhead_12 : decode cX4_lookAhead 12 = .ok (.iand, 1) := by decide +kernel
theorem dX4_lookAhead_13 : decode cX4_lookAhead 13 = .ok (.ifCond .ne 6, 3) := by decide +kernel
theorem dX4_lookAhead_16 : decode cX4_lookAhead 16 = .ok (.goto 65, 3) := by decide +kernel
theorem dX4_lookAhead_19 : decode cX4_lookAhead 19 = .ok (.aload_n 0, 1) := by decide +kernel
theorem dX4_lookAhead_20 : decode cX4_lookAhead 20 = .ok (.getfield 16, 3) := by decide +kernel
theorem dX4_lookAhead_23 : decode cX4_lookAhead 23 = .ok (.aload_n 0, 1) := by decide +kernel
theorem dX4_lookAhead_24 : decode cX4_lookAhead 24 = .ok (.getfield 10, 3) := by decide +kernel
theorem dX4_lookAhead_27 : decode cX4_lookAhead 27 = .ok (.invokevirtual 77, 3) := by decide +kernel
theorem dX4_lookAhead_30 : decode cX4_lookAhead 30 = .ok (.aload_n 0, 1) := by decide +kernel
theorem dX4_lookAhead_31 : decode cX4_lookAhead 31 = .ok (.getfield 16, 3) := by decide +kernel
theorem dX4_lookAhead_34 : decode cX4_lookAhead 34 = .ok (.iload_n 1, 1) := by decide +kernel
theorem dX4_lookAhead_35 : decode cX4_lookAhead 35 = .ok (.iconst 1, 1) := by decide +kernel
theorem dX4_lookAhead_36 : decode cX4_lookAhead 36 = .ok (.iload_n 3, 1) := by decide +kernel
theorem dX4_lookAhead_37 : decode cX4_lookAhead 37 = .ok (.invokevirtual 139, 3) := by decide +kernel
theorem dX4_lookAhead_40 : decode cX4_lookAhead 40 = .ok (.iconst 0, 1) := by decide +kernel
theorem dX4_lookAhead_41 : decode cX4_lookAhead 41 = .ok (.istore 4, 2) := by decide +kernel
theorem dX4_lookAhead_43 : decode cX4_lookAhead 43 = .ok (.iload 4, 2) := by decide +kernel
theorem dX4_lookAhead_45 : decode cX4_lookAhead 45 = .ok (.bipush 40, 2) := by decide +kernel
theorem dX4_lookAhead_47 : decode cX4_lookAhead 47 = .ok (.if_icmp .gt 34, 3) := by decide +kernel
theorem dX4_lookAhead_50 : decode cX4_lookAhead 50 = .ok (.aload_n 0, 1) := by decide +kernel
theorem dX4_lookAhead_51 : decode cX4_lookAhead 51 = .ok (.getfield 47, 3) := by decide +kernel
theorem dX4_lookAhead_54 : decode cX4_lookAhead 54 = .ok (.iload_n 3, 1) := by decide +kernel
theorem dX4_lookAhead_55 : decode cX4_lookAhead 55 = .ok (.iload 4, 2) := by decide +kernel
theorem dX4_lookAhead_57 : decode cX4_lookAhead 57 = .ok (.invokestatic 269, 3) := by decide +kernel
theorem dX4_lookAhead_60 : decode cX4_lookAhead 60 = .ok (.aload_n 0, 1) := by decide +kernel
theorem dX4_lookAhead_61 : decode cX4_lookAhead 61 = .ok (.getfield 16, 3) := by decide +kernel
theorem dX4_lookAhead_64 : decode cX4_lookAhead 64 = .ok (.invokevirtual 272, 3) := by decide +kernel
theorem dX4_lookAhead_67 : decode cX4_lookAhead 67 = .ok (.iastore, 1) := by decide +kernel
theorem dX4_lookAhead_68 : decode cX4_lookAhead 68 = .ok (.aload_n 0, 1) := by decide +kernel
theorem dX4_lookAhead_69 : decode cX4_lookAhead 69 = .ok (.getfield 16, 3) := by decide +kernel
theorem dX4_lookAhead_72 : decode cX4_lookAhead 72 = .ok (.invokevirtual 188, 3) := by decide +kernel
theorem dX4_lookAhead_75 : decode cX4_lookAhead 75 = .ok (.iinc 4 1, 3) := by decide +kernel
theorem dX4_lookAhead_78 : decode cX4_lookAhead 78 = .ok (.goto (-35), 3) := by decide +kernel
theorem dX4_lookAhead_81 : decode cX4_lookAhead 81 = .ok (.iinc 3 1, 3) := by decide +kernel
theorem dX4_lookAhead_84 : decode cX4_lookAhead 84 = .ok (.goto (-82), 3) := by decide +kernel
theorem dX4_lookAhead_87 : decode cX4_lookAhead 87 = .ok (.return_, 1) := by decide +kernel
theorem dX4_lookIndex_0 : decode cX4_lookIndex 0 = .ok (.iload_n 0, 1) := by decide +kernel
theorem dX4_lookIndex_1 : decode cX4_lookIndex 1 = .ok (.bipush 41, 2) := by decide +kernel
theorem dX4_lookIndex_3 : decode cX4_lookIndex 3 = .ok (.imul, 1) := by decide +kernel
theorem dX4_lookIndex_4 : decode cX4_lookIndex 4 = .ok (.iload_n 1, 1) := by decide +kernel
theorem dX4_lookIndex_5 : decode cX4_lookIndex 5 = .ok (.iadd, 1) := by decide +kernel
theorem dX4_lookIndex_6 : decode cX4_lookIndex 6 = .ok (.ireturn, 1) := by decide +kernel
set_option maxRecDepth 20000 in
theorem ggX4_mostAlikeBehind_X4_lookIndex : GoodIn wsX4_mostAlikeBehind wsX4_lookIndex := goodIn_r _ [9] (by decide +kernel) (by decide +kernel)
set_option maxRecDepth 20000 in
theorem gX4_mostAlikeBehind_X4_lookIndex : GoodIn wsX4_mostAlikeBehind (va_wsS RX4 269 yX4_lookIndex wsX4_lookIndex) := goodIn_app (goodIn_of _ (by decide +kernel)) ggX4_mostAlikeBehind_X4_lookIndex
theorem dX4_mostAlikeBehind_0 : decode cX4_mostAlikeBehind 0 = .ok (.iconst 0, 1) := by decide +kernel
theorem dX4_mostAlikeBehind_1 : decode cX4_mostAlikeBehind 1 = .ok (.istore_n 3, 1) := by decide +kernel
theorem dX4_mostAlikeBehind_2 : decode cX4_mostAlikeBehind 2 = .ok (.iconst 0, 1) := by decide +kernel
theorem dX4_mostAlikeBehind_3 : decode cX4_mostAlikeBehind 3 = .ok (.istore 4, 2) := by decide +kernel
theorem dX4_mostAlikeBehind_5 : decode cX4_mostAlikeBehind 5 = .ok (.iload 4, 2) := by decide +kernel
theorem dX4_mostAlikeBehind_7 : decode cX4_mostAlikeBehind 7 = .ok (.bipush 9, 2) := by decide +kernel
theorem dX4_mostAlikeBehind_9 : decode cX4_mostAlikeBehind 9 = .ok (.if_icmp .gt 84, 3) := by decide +kernel
theorem dX4_mostAlikeBehind_12 : decode cX4_mostAlikeBehind 12 = .ok (.iload_n 2, 1) := by decide +kernel
theorem dX4_mostAlikeBehind_13 : decode cX4_mostAlikeBehind 13 = .ok (.iload 4, 2) := by decide +kernel
theorem dX4_mostAlikeBehind_15 : decode cX4_mostAlikeBehind 15 = .ok (.ishr, 1) := by decide +kernel
theorem dX4_mostAlikeBehind_16 : decode cX4_mostAlikeBehind 16 = .ok (.iconst 1, 1) := by decide +kernel
theorem dX4_mostAlikeBehind_17 : decode cX4_mostAlikeBehind 17 = .ok (.iand, 1) := by decide +kernel
theorem dX4_mostAlikeBehind_18 : decode cX4_mostAlikeBehind 18 = .ok (.ifCond .ne 6, 3) := by decide +kernel
theorem dX4_mostAlikeBehind_21 : decode cX4_mostAlikeBehind 21 = .ok (.goto 66, 3) := by decide +kernel
theorem dX4_mostAlikeBehind_24 : decode cX4_mostAlikeBehind 24 = .ok (.iconst 0, 1) := by decide +kernel
theorem dX4_mostAlikeBehind_25 : decode cX4_mostAlikeBehind 25 = .ok (.istore 5, 2) := by decide +kernel
theorem dX4_mostAlikeBehind_27 : decode cX4_mostAlikeBehind 27 = .ok (.iconst 0, 1) := by decide +kernel
theorem dX4_mostAlikeBehind_28 : decode cX4_mostAlikeBehind 28 = .ok (.istore 6, 2) := by decide +kernel
theorem dX4_mostAlikeBehind_30 : decode cX4_mostAlikeBehind 30 = .ok (.iload 6, 2) := by decide +kernel
theorem dX4_mostAlikeBehind_32 : decode cX4_mostAlikeBehind 32 = .ok (.bipush 9, 2) := by decide +kernel
theorem dX4_mostAlikeBehind_34 : decode cX4_mostAlikeBehind 34 = .ok (.if_icmp .gt 46, 3) := by decide +kernel
theorem dX4_mostAlikeBehind_37 : decode cX4_mostAlikeBehind 37 = .ok (.iload_n 2, 1) := by decide +kernel
theorem dX4_mostAlikeBehind_38 : decode cX4_mostAlikeBehind 38 = .ok (.iload 6, 2) := by decide +kernel
theorem dX4_mostAlikeBehind_40 : decode cX4_mostAlikeBehind 40 = .ok (.ishr, 1) := by decide +kernel
theorem dX4_mostAlikeBehind_41 : decode cX4_mostAlikeBehind 41 = .ok (.iconst 1, 1) := by decide +kernel
theorem dX4_mostAlikeBehind_42 : decode cX4_mostAlikeBehind 42 = .ok (.iand, 1) := by decide +kernel
theorem dX4_mostAlikeBehind_43 : decode cX4_mostAlikeBehind 43 = .ok (.ifCond .eq 31, 3) := by decide +kernel
theorem dX4_mostAlikeBehind_46 : decode cX4_mostAlikeBehind 46 = .ok (.aload_n 0, 1) := by decide +kernel
theorem dX4_mostAlikeBehind_47 : decode cX4_mostAlikeBehind 47 = .ok (.getfield 47, 3) := by decide +kernel
theorem dX4_mostAlikeBehind_50 : decode cX4_mostAlikeBehind 50 = .ok (.iload 6, 2) := by decide +kernel
theorem dX4_mostAlikeBehind_52 : decode cX4_mostAlikeBehind 52 = .ok (.iload_n 1, 1) := by decide +kernel
theorem dX4_mostAlikeBehind_53 : decode cX4_mostAlikeBehind 53 = .ok (.invokestatic 269, 3) := by decide +kernel
theorem dX4_mostAlikeBehind_56 : decode cX4_mostAlikeBehind 56 = .ok (.iaload, 1) := by decide +kernel
theorem dX4_mostAlikeBehind_57 : decode cX4_mostAlikeBehind 57 = .ok (.aload_n 0, 1) := by decide +kernel
theorem dX4_mostAlikeBehind_58 : decode cX4_mostAlikeBehind 58 = .ok (.getfield 47, 3) := by decide +kernel
theorem dX4_mostAlikeBehind_61 : decode cX4_mostAlikeBehind 61 = .ok (.iload 4, 2) := by decide +kernel
theorem dX4_mostAlikeBehind_63 : decode cX4_mostAlikeBehind 63 = .ok (.iload_n 1, 1) := by decide +kernel
theorem dX4_mostAlikeBehind_64 : decode cX4_mostAlikeBehind 64 = .ok (.invokestatic 269, 3) := by decide +kernel
theorem dX4_mostAlikeBehind_67 : decode cX4_mostAlikeBehind 67 = .ok (.iaload, 1) := by decide +kernel
theorem dX4_mostAlikeBehind_68 : decode cX4_mostAlikeBehind 68 = .ok (.if_icmp .ne 6, 3) := by decide +kernel
theorem dX4_mostAlikeBehind_71 : decode cX4_mostAlikeBehind 71 = .ok (.iinc 5 1, 3) := by decide +kernel
theorem dX4_mostAlikeBehind_74 : decode cX4_mostAlikeBehind 74 = .ok (.iinc 6 1, 3) := by decide +kernel
theorem dX4_mostAlikeBehind_77 : decode cX4_mostAlikeBehind 77 = .ok (.goto (-47), 3) := by decide +kernel
theorem dX4_mostAlikeBehind_80 : decode cX4_mostAlikeBehind 80 = .ok (.iload_n 3, 1) := by decide +kernel
theorem dX4_mostAlikeBehind_81 : decode cX4_mostAlikeBehind 81 = .ok (.iload 5, 2) := by decide +kernel
theorem dX4_mostAlikeBehind_83 : decode cX4_mostAlikeBehind 83 = .ok (.invokestatic 172, 3) := by decide +kernel
theorem dX4_mostAlikeBehind_86 : decode cX4_mostAlikeBehind 86 = .ok (.istore_n 3, 1) := by decide +kernel
theorem dX4_mostAlikeBehind_87 : decode cX4_mostAlikeBehind 87 = .ok (.iinc 4 1, 3) := by decide +kernel
theorem dX4_mostAlikeBehind_90 : decode cX4_mostAlikeBehind 90 = .ok (.goto (-85), 3) := by decide +kernel
theorem dX4_mostAlikeBehind_93 : decode cX4_mostAlikeBehind 93 = .ok (.iload_n 3, 1) := by decide +kernel
theorem dX4_mostAlikeBehind_94 : decode cX4_mostAlikeBehind 94 = .ok (.ireturn, 1) := by decide +kernel
set_option maxRecDepth 20000 in
theorem ggX4_errorMissing_X0_copyFrom : GoodIn wsX4_errorMissing wsX0_copyFrom := goodIn_r _ [8, 9, 10, 11, 12, 13, 14, 15, 16, 17, 18, 19, 20, 21, 7, 22, 23, 24, 79, 80, 81, 82, 83, 84, 85, 86, 87, 88, 89, 90] (by decide +kernel) (by decide +kernel)
set_option maxRecDepth 20000 in
theorem gX4_errorMissing_X0_copyFrom : GoodIn wsX4_errorMissing (wsV RX4 77 RX0 yX0_copyFrom wsX0_copyFrom) := goodIn_app (goodIn_of _ (by decide +kernel)) ggX4_errorMissing_X0_copyFrom
set_option maxRecDepth 20000 in
theorem ggX4_errorMissing_X0_takeStep : GoodIn wsX4_errorMissing wsX0_takeStep := goodIn_r _ [28, 10, 18, 12, 29, 30, 31, 7, 32, 33, 34, 35, 36, 11, 9, 15, 13, 37, 38, 39, 40, 14, 16, 41, 42, 43, 44, 45, 46, 47, 48, 49, 50, 51, 52, 53, 54, 55, 56, 57, 58, 17, 24, 59, 60, 61, 23, 79, 80, 81, 82, 83, 84, 85, 86, 87, 88, 89, 90] (by decide +kernel) (by decide +kernel)
set_option maxRecDepth 20000 in
theorem gX4_errorMissing_X0_takeStep : GoodIn wsX4_errorMissing (wsV RX4 188 RX0 yX0_takeStep wsX0_takeStep) := goodIn_app (goodIn_of _ (by decide +kernel)) ggX4_errorMissing_X0_takeStep
set_option maxRecDepth 20000 in
theorem ggX4_errorMissing_X0_error : GoodIn wsX4_errorMissing wsX0_error := goodIn_r _ [65, 11, 47, 48, 49, 50, 66, 67, 68, 7, 69, 9, 15, 79, 80, 81, 82, 83, 84, 85, 86, 87, 88, 89, 90] (by decide +kernel) (by decide +kernel)
set_option maxRecDepth 20000 in
theorem gX4_errorMissing_X0_error : GoodIn wsX4_errorMissing (wsV RX4 97 RX0 yX0_error wsX0_error) := goodIn_app (goodIn_of _ (by decide +kernel)) ggX4_errorMissing_X0_error
theorem dX4_errorMissing_0 : decode cX4_errorMissing 0 = .ok (.aload_n 0, 1) := by decide +kernel
theorem dX4_errorMissing_1 : decode cX4_errorMissing 1 = .ok (.getfield 16, 3) := by decide +kernel
theorem dX4_errorMissing_4 : decode cX4_errorMissing 4 = .ok (.aload_n 0, 1) := by decide +kernel
theorem dX4_errorMissing_5 : decode cX4_errorMissing 5 = .ok (.getfield 10, 3) := by decide +kernel
theorem dX4_errorMissing_8 : decode cX4_errorMissing 8 = .ok (.invokevirtual 77, 3) := by decide +kernel
theorem dX4_errorMissing_11 : decode cX4_errorMissing 11 = .ok (.iconst 0, 1) := by decide +kernel
theorem dX4_errorMissing_12 : decode cX4_errorMissing 12 = .ok (.istore_n 3, 1) := by decide +kernel
theorem dX4_errorMissing_13 : decode cX4_errorMissing 13 = .ok (.iload_n 3, 1) := by decide +kernel
theorem dX4_errorMissing_14 : decode cX4_errorMissing 14 = .ok (.iload_n 2, 1) := by decide +kernel
theorem dX4_errorMissing_15 : decode cX4_errorMissing 15 = .ok (.if_icmp .ge 40, 3) := by decide +kernel
theorem dX4_errorMissing_18 : decode cX4_errorMissing 18 = .ok (.iload_n 1, 1) := by decide +kernel
theorem dX4_errorMissing_19 : decode cX4_errorMissing 19 = .ok (.iload_n 3, 1) := by decide +kernel
theorem dX4_errorMissing_20 : decode cX4_errorMissing 20 = .ok (.ishr, 1) := by decide +kernel
theorem dX4_errorMissing_21 : decode cX4_errorMissing 21 = .ok (.iconst 1, 1) := by decide +kernel
theorem dX4_errorMissing_22 : decode cX4_errorMissing 22 = .ok (.iand, 1) := by decide +kernel
theorem dX4_errorMissing_23 : decode cX4_errorMissing 23 = .ok (.ifCond .eq 19, 3) := by decide +kernel
theorem dX4_errorMissing_26 : decode cX4_errorMissing 26 = .ok (.aload_n 0, 1) := by decide +kernel
theorem dX4_errorMissing_27 : decode cX4_errorMissing 27 = .ok (.getfield 16, 3) := by decide +kernel
theorem dX4_errorMissing_30 : decode cX4_errorMissing 30 = .ok (.dup, 1) := by decide +kernel
theorem dX4_errorMissing_31 : decode cX4_errorMissing 31 = .ok (.getfield 90, 3) := by decide +kernel
theorem dX4_errorMissing_34 : decode cX4_errorMissing 34 = .ok (.iconst 1, 1) := by decide +kernel
theorem dX4_errorMissing_35 : decode cX4_errorMissing 35 = .ok (.iadd, 1) := by decide +kernel
theorem dX4_errorMissing_36 : decode cX4_errorMissing 36 = .ok (.putfield 90, 3) := by decide +kernel
theorem dX4_errorMissing_39 : decode cX4_errorMissing 39 = .ok (.goto 10, 3) := by decide +kernel
theorem dX4_errorMissing_42 : decode cX4_errorMissing 42 = .ok (.aload_n 0, 1) := by decide +kernel
theorem dX4_errorMissing_43 : decode cX4_errorMissing 43 = .ok (.getfield 16, 3) := by decide +kernel
theorem dX4_errorMissing_46 : decode cX4_errorMissing 46 = .ok (.invokevirtual 188, 3) := by decide +kernel
theorem dX4_errorMissing_49 : decode cX4_errorMissing 49 = .ok (.iinc 3 1, 3) := by decide +kernel
theorem dX4_errorMissing_52 : decode cX4_errorMissing 52 = .ok (.goto (-39), 3) := by decide +kernel
theorem dX4_errorMissing_55 : decode cX4_errorMissing 55 = .ok (.aload_n 0, 1) := by decide +kernel
theorem dX4_errorMissing_56 : decode cX4_errorMissing 56 = .ok (.getfield 16, 3) := by decide +kernel
theorem dX4_errorMissing_59 : decode cX4_errorMissing 59 = .ok (.invokevirtual 97, 3) := by decide +kernel
theorem dX4_errorMissing_62 : decode cX4_errorMissing 62 = .ok (.ireturn, 1) := by decide +kernel
set_option maxRecDepth 20000 in
theorem ggX4_weightOf_J6_bitCount_0f7a4 : GoodIn wsX4_weightOf wsJ6_bitCount_0f7a4 := goodIn_r _ [4, 5, 6, 7] (by decide +kernel) (by decide +kernel)
set_option maxRecDepth 20000 in
theorem gX4_weightOf_J6_bitCount_0f7a4 : GoodIn wsX4_weightOf (va_wsS RX4 235 yJ6_bitCount_0f7a4 wsJ6_bitCount_0f7a4) := goodIn_app (goodIn_of _ (by decide +kernel)) ggX4_weightOf_J6_bitCount_0f7a4
set_option maxRecDepth 20000 in
theorem ggX4_weightOf_X4_power : GoodIn wsX4_weightOf wsX4_power := goodIn_r _ [11] (by decide +kernel) (by decide +kernel)
set_option maxRecDepth 20000 in
theorem gX4_weightOf_X4_power : GoodIn wsX4_weightOf (va_wsS RX4 219 yX4_power wsX4_power) := goodIn_app (goodIn_of _ (by decide +kernel)) ggX4_weightOf_X4_power
theorem dX4_weightOf_0 : decode cX4_weightOf 0 = .ok (.iload_n 0, 1) := by decide +kernel
theorem dX4_weightOf_1 : decode cX4_weightOf 1 = .ok (.invokestatic 235, 3) := by decide +kernel
theorem dX4_weightOf_4 : decode cX4_weightOf 4 = .ok (.istore_n 3, 1) := by decide +kernel
theorem dX4_weightOf_5 : decode cX4_weightOf 5 = .ok (.iload_n 1, 1) := by decide +kernel
theorem dX4_weightOf_6 : decode cX4_weightOf 6 = .ok (.iload_n 3, 1) := by decide +kernel
theorem dX4_weightOf_7 : decode cX4_weightOf 7 = .ok (.invokestatic 219, 3) := by decide +kernel
theorem dX4_weightOf_10 : decode cX4_weightOf 10 = .ok (.bipush 10, 2) := by decide +kernel
theorem dX4_weightOf_12 : decode cX4_weightOf 12 = .ok (.iload_n 1, 1) := by decide +kernel
theorem dX4_weightOf_13 : decode cX4_weightOf 13 = .ok (.isub, 1) := by decide +kernel
theorem dX4_weightOf_14 : decode cX4_weightOf 14 = .ok (.iload_n 2, 1) := by decide +kernel
theorem dX4_weightOf_15 : decode cX4_weightOf 15 = .ok (.iload_n 3, 1) := by decide +kernel
theorem dX4_weightOf_16 : decode cX4_weightOf 16 = .ok (.isub, 1) := by decide +kernel
theorem dX4_weightOf_17 : decode cX4_weightOf 17 = .ok (.invokestatic 219, 3) := by decide +kernel
theorem dX4_weightOf_20 : decode cX4_weightOf 20 = .ok (.lmul, 1) := by decide +kernel
theorem dX4_weightOf_21 : decode cX4_weightOf 21 = .ok (.lreturn, 1) := by decide +kernel
theorem dX4_power_0 : decode cX4_power 0 = .ok (.lconst 1, 1) := by decide +kernel
theorem dX4_power_1 : decode cX4_power 1 = .ok (.lstore_n 2, 1) := by decide +kernel
theorem dX4_power_2 : decode cX4_power 2 = .ok (.iconst 0, 1) := by decide +kernel
theorem dX4_power_3 : decode cX4_power 3 = .ok (.istore 4, 2) := by decide +kernel
theorem dX4_power_5 : decode cX4_power 5 = .ok (.iload 4, 2) := by decide +kernel
theorem dX4_power_7 : decode cX4_power 7 = .ok (.iload_n 1, 1) := by decide +kernel
theorem dX4_power_8 : decode cX4_power 8 = .ok (.if_icmp .ge 14, 3) := by decide +kernel
theorem dX4_power_11 : decode cX4_power 11 = .ok (.lload_n 2, 1) := by decide +kernel
theorem dX4_power_12 : decode cX4_power 12 = .ok (.iload_n 0, 1) := by decide +kernel
theorem dX4_power_13 : decode cX4_power 13 = .ok (.i2l, 1) := by decide +kernel
theorem dX4_power_14 : decode cX4_power 14 = .ok (.lmul, 1) := by decide +kernel
theorem dX4_power_15 : decode cX4_power 15 = .ok (.lstore_n 2, 1) := by decide +kernel
theorem dX4_power_16 : decode cX4_power 16 = .ok (.iinc 4 1, 3) := by decide +kernel
theorem dX4_power_19 : decode cX4_power 19 = .ok (.goto (-14), 3) := by decide +kernel
theorem dX4_power_22 : decode cX4_power 22 = .ok (.lload_n 2, 1) := by decide +kernel
theorem dX4_power_23 : decode cX4_power 23 = .ok (.lreturn, 1) := by decide +kernel
set_option maxRecDepth 20000 in
theorem ggX4_ofFraction_X4_greatestDivisor : GoodIn wsX4_ofFraction wsX4_greatestDivisor := goodIn_r _ [4] (by decide +kernel) (by decide +kernel)
set_option maxRecDepth 20000 in
theorem gX4_ofFraction_X4_greatestDivisor : GoodIn wsX4_ofFraction (va_wsS RX4 275 yX4_greatestDivisor wsX4_greatestDivisor) := goodIn_app (goodIn_of _ (by decide +kernel)) ggX4_ofFraction_X4_greatestDivisor
theorem dX4_ofFraction_0 : decode cX4_ofFraction 0 = .ok (.lload_n 0, 1) := by decide +kernel
theorem dX4_ofFraction_1 : decode cX4_ofFraction 1 = .ok (.lload_n 2, 1) := by decide +kernel
theorem dX4_ofFraction_2 : decode cX4_ofFraction 2 = .ok (.invokestatic 275, 3) := by decide +kernel
theorem dX4_ofFraction_5 : decode cX4_ofFraction 5 = .ok (.lstore 5, 2) := by decide +kernel
theorem dX4_ofFraction_7 : decode cX4_ofFraction 7 = .ok (.lload 5, 2) := by decide +kernel
theorem dX4_ofFraction_9 : decode cX4_ofFraction 9 = .ok (.lconst 0, 1) := by decide +kernel
theorem dX4_ofFraction_10 : decode cX4_ofFraction 10 = .ok (.lcmp, 1) := by decide +kernel
theorem dX4_ofFraction_11 : decode cX4_ofFraction 11 = .ok (.ifCond .ne 5, 3) := by decide +kernel
theorem dX4_ofFraction_14 : decode cX4_ofFraction 14 = .ok (.lconst 0, 1) := by decide +kernel
theorem dX4_ofFraction_15 : decode cX4_ofFraction 15 = .ok (.lreturn, 1) := by decide +kernel
theorem dX4_ofFraction_16 : decode cX4_ofFraction 16 = .ok (.iload 4, 2) := by decide +kernel
theorem dX4_ofFraction_18 : decode cX4_ofFraction 18 = .ok (.ifCond .ne 10, 3) := by decide +kernel
theorem dX4_ofFraction_21 : decode cX4_ofFraction 21 = .ok (.lload_n 0, 1) := by decide +kernel
theorem dX4_ofFraction_22 : decode cX4_ofFraction 22 = .ok (.lload 5, 2) := by decide +kernel
theorem dX4_ofFraction_24 : decode cX4_ofFraction 24 = .ok (.ldiv, 1) := by decide +kernel
theorem dX4_ofFraction_25 : decode cX4_ofFraction 25 = .ok (.goto 7, 3) := by decide +kernel
theorem dX4_ofFraction_28 : decode cX4_ofFraction 28 = .ok (.lload_n 2, 1) := by decide +kernel
theorem dX4_ofFraction_29 : decode cX4_ofFraction 29 = .ok (.lload 5, 2) := by decide +kernel
theorem dX4_ofFraction_31 : decode cX4_ofFraction 31 = .ok (.ldiv, 1) := by decide +kernel
theorem dX4_ofFraction_32 : decode cX4_ofFraction 32 = .ok (.lreturn, 1) := by decide +kernel
theorem dX4_greatestDivisor_0 : decode cX4_greatestDivisor 0 = .ok (.lload_n 0, 1) := by decide +kernel
theorem dX4_greatestDivisor_1 : decode cX4_greatestDivisor 1 = .ok (.lstore 4, 2) := by decide +kernel
theorem dX4_greatestDivisor_3 : decode cX4_greatestDivisor 3 = .ok (.lload_n 2, 1) := by decide +kernel
theorem dX4_greatestDivisor_4 : decode cX4_greatestDivisor 4 = .ok (.lstore 6, 2) := by decide +kernel
theorem dX4_greatestDivisor_6 : decode cX4_greatestDivisor 6 = .ok (.iconst 0, 1) := by decide +kernel
theorem dX4_greatestDivisor_7 : decode cX4_greatestDivisor 7 = .ok (.istore 8, 2) := by decide +kernel
theorem dX4_greatestDivisor_9 : decode cX4_greatestDivisor 9 = .ok (.iload 8, 2) := by decide +kernel
theorem dX4_greatestDivisor_11 : decode cX4_greatestDivisor 11 = .ok (.sipush 200, 3) := by decide +kernel
theorem dX4_greatestDivisor_14 : decode cX4_greatestDivisor 14 = .ok (.if_icmp .ge 31, 3) := by decide +kernel
theorem dX4_greatestDivisor_17 : decode cX4_greatestDivisor 17 = .ok (.lload 6, 2) := by decide +kernel
theorem dX4_greatestDivisor_19 : decode cX4_greatestDivisor 19 = .ok (.lconst 0, 1) := by decide +kernel
theorem dX4_greatestDivisor_20 : decode cX4_greatestDivisor 20 = .ok (.lcmp, 1) := by decide +kernel
theorem dX4_greatestDivisor_21 : decode cX4_greatestDivisor 21 = .ok (.ifCond .eq 24, 3) := by decide +kernel
theorem dX4_greatestDivisor_24 : decode cX4_greatestDivisor 24 = .ok (.lload 4, 2) := by decide +kernel
theorem dX4_greatestDivisor_26 : decode cX4_greatestDivisor 26 = .ok (.lload 6, 2) := by decide +kernel
theorem dX4_greatestDivisor_28 : decode cX4_greatestDivisor 28 = .ok (.lrem, 1) := by decide +kernel
theorem dX4_greatestDivisor_29 : decode cX4_greatestDivisor 29 = .ok (.lstore 9, 2) := by decide +kernel
theorem dX4_greatestDivisor_31 : decode cX4_greatestDivisor 31 = .ok (.lload 6, 2) := by decide +kernel
theorem dX4_greatestDivisor_33 : decode cX4_greatestDivisor 33 = .ok (.lstore 4, 2) := by decide +kernel
theorem dX4_greatestDivisor_35 : decode cX4_greatestDivisor 35 = .ok (.lload 9, 2) := by decide +kernel
theorem dX4_greatestDivisor_37 : decode cX4_greatestDivisor 37 = .ok (.lstore 6, 2) := by decide +kernel
theorem dX4_greatestDivisor_39 : decode cX4_greatestDivisor 39 = .ok (.iinc 8 1, 3) := by decide +kernel
theorem dX4_greatestDivisor_42 : decode cX4_greatestDivisor 42 = .ok (.goto (-33), 3) := by decide +kernel
theorem dX4_greatestDivisor_45 : decode cX4_greatestDivisor 45 = .ok (.lload 4, 2) := by decide +kernel
theorem dX4_greatestDivisor_47 : decode cX4_greatestDivisor 47 = .ok (.lreturn, 1) := by decide +kernel
theorem dX5_init_0 : decode cX5_init 0 = .ok (.aload_n 0, 1) := by decide +kernel
theorem dX5_init_1 : decode cX5_init 1 = .ok (.invokespecial 1, 3) := by decide +kernel
theorem dX5_init_4 : decode cX5_init 4 = .ok (.aload_n 0, 1) := by decide +kernel
theorem dX5_init_5 : decode cX5_init 5 = .ok (.sipush 240, 3) := by decide +kernel
theorem dX5_init_8 : decode cX5_init 8 = .ok (.newarray .int, 2) := by decide +kernel
theorem dX5_init_10 : decode cX5_init 10 = .ok (.putfield 7, 3) := by decide +kernel
theorem dX5_init_13 : decode cX5_init 13 = .ok (.aload_n 0, 1) := by decide +kernel
theorem dX5_init_14 : decode cX5_init 14 = .ok (.bipush 40, 2) := by decide +kernel
theorem dX5_init_16 : decode cX5_init 16 = .ok (.newarray .int, 2) := by decide +kernel
theorem dX5_init_18 : decode cX5_init 18 = .ok (.putfield 13, 3) := by decide +kernel
theorem dX5_init_21 : decode cX5_init 21 = .ok (.aload_n 0, 1) := by decide +kernel
theorem dX5_init_22 : decode cX5_init 22 = .ok (.sipush 160, 3) := by decide +kernel
theorem dX5_init_25 : decode cX5_init 25 = .ok (.newarray .int, 2) := by decide +kernel
theorem dX5_init_27 : decode cX5_init 27 = .ok (.putfield 16, 3) := by decide +kernel
theorem dX5_init_30 : decode cX5_init 30 = .ok (.aload_n 0, 1) := by decide +kernel
theorem dX5_init_31 : decode cX5_init 31 = .ok (.bipush 7, 2) := by decide +kernel
theorem dX5_init_33 : decode cX5_init 33 = .ok (.newarray .int, 2) := by decide +kernel
theorem dX5_init_35 : decode cX5_init 35 = .ok (.dup, 1) := by decide +kernel
theorem dX5_init_36 : decode cX5_init 36 = .ok (.iconst 0, 1) := by decide +kernel
theorem dX5_init_37 : decode cX5_init 37 = .ok (.iconst 0, 1) := by decide +kernel
theorem dX5_init_38 : decode cX5_init 38 = .ok (.iastore, 1) := by decide +kernel
theorem dX5_init_39 : decode cX5_init 39 = .ok (.dup, 1) := by decide +kernel
theorem dX5_init_40 : decode cX5_init 40 = .ok (.iconst 1, 1) := by decide +kernel
theorem dX5_init_41 : decode cX5_init 41 = .ok (.iconst 5, 1) := by decide +kernel
theorem dX5_init_42 : decode cX5_init 42 = .ok (.iastore, 1) := by decide +kernel
theorem dX5_init_43 : decode cX5_init 43 = .ok (.dup, 1) := by decide +kernel
theorem dX5_init_44 : decode cX5_init 44 = .ok (.iconst 2, 1) := by decide +kernel
theorem dX5_init_45 : decode cX5_init 45 = .ok (.bipush 8, 2) := by decide +kernel
theorem dX5_init_47 : decode cX5_init 47 = .ok (.iastore, 1) := by decide +kernel
theorem dX5_init_48 : decode cX5_init 48 = .ok (.dup, 1) := by decide +kernel
theorem dX5_init_49 : decode cX5_init 49 = .ok (.iconst 3, 1) := by decide +kernel
theorem dX5_init_50 : decode cX5_init 50 = .ok (.bipush 13, 2) := by decide +kernel
theorem dX5_init_52 : decode cX5_init 52 = .ok (.iastore, 1) := by decide +kernel
theorem dX5_init_53 : decode cX5_init 53 = .ok (.dup, 1) := by decide +kernel
theorem dX5_init_54 : decode cX5_init 54 = .ok (.iconst 4, 1) := by decide +kernel
theorem dX5_init_55 : decode cX5_init 55 = .ok (.bipush 17, 2) := by decide +kernel
theorem dX5_init_57 : decode cX5_init 57 = .ok (.iastore, 1) := by decide +kernel
theorem dX5_init_58 : decode cX5_init 58 = .ok (.dup, 1) := by decide +kernel
theorem dX5_init_59 : decode cX5_init 59 = .ok (.iconst 5, 1) := by decide +kernel
theorem dX5_init_60 : decode cX5_init 60 = .ok (.bipush 19, 2) := by decide +kernel
theorem dX5_init_62 : decode cX5_init 62 = .ok (.iastore, 1) := by decide +kernel
theorem dX5_init_63 : decode cX5_init 63 = .ok (.dup, 1) := by decide +kernel
theorem dX5_init_64 : decode cX5_init 64 = .ok (.bipush 6, 2) := by decide +kernel
theorem dX5_init_66 : decode cX5_init 66 = .ok (.bipush 23, 2) := by decide +kernel
theorem dX5_init_68 : decode cX5_init 68 = .ok (.iastore, 1) := by decide +kernel
theorem dX5_init_69 : decode cX5_init 69 = .ok (.putfield 19, 3) := by decide +kernel
theorem dX5_init_72 : decode cX5_init 72 = .ok (.aload_n 0, 1) := by decide +kernel
theorem dX5_init_73 : decode cX5_init 73 = .ok (.bipush 23, 2) := by decide +kernel
theorem dX5_init_75 : decode cX5_init 75 = .ok (.newarray .int, 2) := by decide +kernel
theorem dX5_init_77 : decode cX5_init 77 = .ok (.dup, 1) := by decide +kernel
theorem dX5_init_78 : decode cX5_init 78 = .ok (.iconst 0, 1) := by decide +kernel
theorem dX5_init_79 : decode cX5_init 79 = .ok (.bipush 112, 2) := by decide +kernel
theorem dX5_init_81 : decode cX5_init 81 = .ok (.iastore, 1) := by decide +kernel
theorem dX5_init_82 : decode cX5_init 82 = .ok (.dup, 1) := by decide +kernel
theorem dX5_init_83 : decode cX5_init 83 = .ok (.iconst 1, 1) := by decide +kernel
theorem dX5_init_84 : decode cX5_init 84 = .ok (.bipush 108, 2) := by decide +kernel
theorem dX5_init_86 : decode cX5_init 86 = .ok (.iastore, 1) := by decide +kernel
theorem dX5_init_87 : decode cX5_init 87 = .ok (.dup, 1) := by decide +kernel
theorem dX5_init_88 : decode cX5_init 88 = .ok (.iconst 2, 1) := by decide +kernel
theorem dX5_init_89 : decode cX5_init 89 = .ok (.bipush 97, 2) := by decide +kernel
theorem dX5_init_91 : decode cX5_init 91 = .ok (.iastore, 1) := by decide +kernel
theorem dX5_init_92 : decode cX5_init 92 = .ok (.dup, 1) := by decide +kernel
theorem dX5_init_93 : decode cX5_init 93 = .ok (.iconst 3, 1) := by decide +kernel
theorem dX5_init_94 : decode cX5_init 94 = .ok (.bipush 105, 2) := by decide +kernel
theorem dX5_init_96 : decode cX5_init 96 = .ok (.iastore, 1) := by decide +kernel
theorem dX5_init_97 : decode cX5_init 97 = .ok (.dup, 1) := by decide +kernel
theorem dX5_init_98 : decode cX5_init 98 = .ok (.iconst 4, 1) := by decide +kernel
theorem dX5_init_99 : decode cX5_init 99 = .ok (.bipush 110, 2) := by decide +kernel
theorem dX5_init_101 : decode cX5_init 101 = .ok (.iastore, 1) := by decide +kernel
theorem dX5_init_102 : decode cX5_init 102 = .ok (.dup, 1) := by decide +kernel
theorem dX5_init_103 : decode cX5_init 103 = .ok (.iconst 5, 1) := by decide +kernel
theorem dX5_init_104 : decode cX5_init 104 = .ok (.bipush 108, 2) := by decide +kernel
theorem dX5_init_106 : decode cX5_init 106 = .ok (.iastore, 1) := by decide +kernel
theorem dX5_init_107 : decode cX5_init 107 = .ok (.dup, 1) := by decide +kernel
theorem dX5_init_108 : decode cX5_init 108 = .ok (.bipush 6, 2) := by decide +kernel
theorem dX5_init_110 : decode cX5_init 110 = .ok (.bipush 97, 2) := by decide +kernel
theorem dX5_init_112 : decode cX5_init 112 = .ok (.iastore, 1) := by decide +kernel
theorem dX5_init_113 : decode cX5_init 113 = .ok (.dup, 1) := by decide +kernel
theorem dX5_init_114 : decode cX5_init 114 = .ok (.bipush 7, 2) := by decide +kernel
theorem dX5_init_116 : decode cX5_init 116 = .ok (.bipush 103, 2) := by decide +kernel
theorem dX5_init_118 : decode cX5_init 118 = .ok (.iastore, 1) := by decide +kernel
theorem dX5_init_119 : decode cX5_init 119 = .ok (.dup, 1) := by decide +kernel
theorem dX5_init_120 : decode cX5_init 120 = .ok (.bipush 8, 2) := by decide +kernel
theorem dX5_init_122 : decode cX5_init 122 = .ok (.bipush 115, 2) := by decide +kernel
theorem dX5_init_124 : decode cX5_init 124 = .ok (.iastore, 1) := by decide +kernel
theorem dX5_init_125 : decode cX5_init 125 = .ok (.dup, 1) := by decide +kernel
theorem dX5_init_126 : decode cX5_init 126 = .ok (.bipush 9, 2) := by decide +kernel
theorem dX5_init_128 : decode cX5_init 128 = .ok (.bipush 116, 2) := by decide +kernel
theorem dX5_init_130 : decode cX5_init 130 = .ok (.iastore, 1) := by decide +kernel
theorem dX5_init_131 : decode cX5_init 131 = .ok (.dup, 1) := by decide +kernel
theorem dX5_init_132 : decode cX5_init 132 = .ok (.bipush 10, 2) := by decide +kernel
theorem dX5_init_134 : decode cX5_init 134 = .ok (.bipush 105, 2) := by decide +kernel
theorem dX5_init_136 : decode cX5_init 136 = .ok (.iastore, 1) := by decide +kernel
theorem dX5_init_137 : decode cX5_init 137 = .ok (.dup, 1) := by decide +kernel
theorem dX5_init_138 : decode cX5_init 138 = .ok (.bipush 11, 2) := by decide +kernel
theorem dX5_init_140 : decode cX5_init 140 = .ok (.bipush 99, 2) := by decide +kernel
theorem dX5_init_142 : decode cX5_init 142 = .ok (.iastore, 1) := by decide +kernel
theorem dX5_init_143 : decode cX5_init 143 = .ok (.dup, 1) := by decide +kernel
theorem dX5_init_144 : decode cX5_init 144 = .ok (.bipush 12, 2) := by decide +kernel
theorem dX5_init_146 : decode cX5_init 146 = .ok (.bipush 107, 2) := by decide +kernel
theorem dX5_init_148 : decode cX5_init 148 = .ok (.iastore, 1) := by decide +kernel
theorem dX5_init_149 : decode cX5_init 149 = .ok (.dup, 1) := by decide +kernel
theorem dX5_init_150 : decode cX5_init 150 = .ok (.bipush 13, 2) := by decide +kernel
theorem dX5_init_152 : decode cX5_init 152 = .ok (.bipush 119, 2) := by decide +kernel
theorem dX5_init_154 : decode cX5_init 154 = .ok (.iastore, 1) := by decide +kernel
theorem dX5_init_155 : decode cX5_init 155 = .ok (.dup, 1) := by decide +kernel
theorem dX5_init_156 : decode cX5_init 156 = .ok (.bipush 14, 2) := by decide +kernel
theorem dX5_init_158 : decode cX5_init 158 = .ok (.bipush 111, 2) := by decide +kernel
theorem dX5_init_160 : decode cX5_init 160 = .ok (.iastore, 1) := by decide +kernel
theorem dX5_init_161 : decode cX5_init 161 = .ok (.dup, 1) := by decide +kernel
theorem dX5_init_162 : decode cX5_init 162 = .ok (.bipush 15, 2) := by decide +kernel
theorem dX5_init_164 : decode cX5_init 164 = .ok (.bipush 114, 2) := by decide +kernel
theorem dX5_init_166 : decode cX5_init 166 = .ok (.iastore, 1) := by decide +kernel
theorem dX5_init_167 : decode cX5_init 167 = .ok (.dup, 1) := by decide +kernel
theorem dX5_init_168 : decode cX5_init 168 = .ok (.bipush 16, 2) := by decide +kernel
theorem dX5_init_170 : decode cX5_init 170 = .ok (.bipush 110, 2) := by decide +kernel
theorem dX5_init_172 : decode cX5_init 172 = .ok (.iastore, 1) := by decide +kernel
theorem dX5_init_173 : decode cX5_init 173 = .ok (.dup, 1) := by decide +kernel
theorem dX5_init_174 : decode cX5_init 174 = .ok (.bipush 17, 2) := by decide +kernel
theorem dX5_init_176 : decode cX5_init 176 = .ok (.bipush 111, 2) := by decide +kernel
theorem dX5_init_178 : decode cX5_init 178 = .ok (.iastore, 1) := by decide +kernel
theorem dX5_init_179 : decode cX5_init 179 = .ok (.dup, 1) := by decide +kernel
theorem dX5_init_180 : decode cX5_init 180 = .ok (.bipush 18, 2) := by decide +kernel
theorem dX5_init_182 : decode cX5_init 182 = .ok (.bipush 110, 2) := by decide +kernel
theorem dX5_init_184 : decode cX5_init 184 = .ok (.iastore, 1) := by decide +kernel
theorem dX5_init_185 : decode cX5_init 185 = .ok (.dup, 1) := by decide +kernel
theorem dX5_init_186 : decode cX5_init 186 = .ok (.bipush 19, 2) := by decide +kernel
theorem dX5_init_188 : decode cX5_init 188 = .ok (.bipush 98, 2) := by decide +kernel
theorem dX5_init_190 : decode cX5_init 190 = .ok (.iastore, 1) := by decide +kernel
theorem dX5_init_191 : decode cX5_init 191 = .ok (.dup, 1) := by decide +kernel
theorem dX5_init_192 : decode cX5_init 192 = .ok (.bipush 20, 2) := by decide +kernel
theorem dX5_init_194 : decode cX5_init 194 = .ok (.bipush 97, 2) := by decide +kernel
theorem dX5_init_196 : decode cX5_init 196 = .ok (.iastore, 1) := by decide +kernel
theorem dX5_init_197 : decode cX5_init 197 = .ok (.dup, 1) := by decide +kernel
theorem dX5_init_198 : decode cX5_init 198 = .ok (.bipush 21, 2) := by decide +kernel
theorem dX5_init_200 : decode cX5_init 200 = .ok (.bipush 99, 2) := by decide +kernel
theorem dX5_init_202 : decode cX5_init 202 = .ok (.iastore, 1) := by decide +kernel
theorem dX5_init_203 : decode cX5_init 203 = .ok (.dup, 1) := by decide +kernel
theorem dX5_init_204 : decode cX5_init 204 = .ok (.bipush 22, 2) := by decide +kernel
theorem dX5_init_206 : decode cX5_init 206 = .ok (.bipush 107, 2) := by decide +kernel
theorem dX5_init_208 : decode cX5_init 208 = .ok (.iastore, 1) := by decide +kernel
theorem dX5_init_209 : decode cX5_init 209 = .ok (.putfield 22, 3) := by decide +kernel
theorem dX5_init_212 : decode cX5_init 212 = .ok (.aload_n 0, 1) := by decide +kernel
theorem dX5_init_213 : decode cX5_init 213 = .ok (.bipush 18, 2) := by decide +kernel
theorem dX5_init_215 : decode cX5_init 215 = .ok (.newarray .int, 2) := by decide +kernel
theorem dX5_init_217 : decode cX5_init 217 = .ok (.putfield 25, 3) := by decide +kernel
theorem dX5_init_220 : decode cX5_init 220 = .ok (.aload_n 0, 1) := by decide +kernel
theorem dX5_init_221 : decode cX5_init 221 = .ok (.sipush 410, 3) := by decide +kernel
theorem dX5_init_224 : decode cX5_init 224 = .ok (.newarray .int, 2) := by decide +kernel
theorem dX5_init_226 : decode cX5_init 226 = .ok (.putfield 28, 3) := by decide +kernel
theorem dX5_init_229 : decode cX5_init 229 = .ok (.aload_n 0, 1) := by decide +kernel
theorem dX5_init_230 : decode cX5_init 230 = .ok (.iconst 2, 1) := by decide +kernel
theorem dX5_init_231 : decode cX5_init 231 = .ok (.newarray .boolean, 2) := by decide +kernel
theorem dX5_init_233 : decode cX5_init 233 = .ok (.putfield 31, 3) := by decide +kernel
theorem dX5_init_236 : decode cX5_init 236 = .ok (.aload_n 0, 1) := by decide +kernel
theorem dX5_init_237 : decode cX5_init 237 = .ok (.iconst 4, 1) := by decide +kernel
theorem dX5_init_238 : decode cX5_init 238 = .ok (.newarray .int, 2) := by decide +kernel
theorem dX5_init_240 : decode cX5_init 240 = .ok (.dup, 1) := by decide +kernel
theorem dX5_init_241 : decode cX5_init 241 = .ok (.iconst 0, 1) := by decide +kernel
theorem dX5_init_242 : decode cX5_init 242 = .ok (.bipush (-4), 2) := by decide +kernel
theorem dX5_init_244 : decode cX5_init 244 = .ok (.iastore, 1) := by decide +kernel
theorem dX5_init_245 : decode cX5_init 245 = .ok (.dup, 1) := by decide +kernel
theorem dX5_init_246 : decode cX5_init 246 = .ok (.iconst 1, 1) := by decide +kernel
theorem dX5_init_247 : decode cX5_init 247 = .ok (.bipush (-4), 2) := by decide +kernel
theorem dX5_init_249 : decode cX5_init 249 = .ok (.iastore, 1) := by decide +kernel
theorem dX5_init_250 : decode cX5_init 250 = .ok (.dup, 1) := by decide +kernel
theorem dX5_init_251 : decode cX5_init 251 = .ok (.iconst 2, 1) := by decide +kernel
theorem dX5_init_252 : decode cX5_init 252 = .ok (.bipush (-4), 2) := by decide +kernel
theorem dX5_init_254 : decode cX5_init 254 = .ok (.iastore, 1) := by decide +kernel
theorem dX5_init_255 : decode cX5_init 255 = .ok (.dup, 1) := by decide +kernel
theorem dX5_init_256 : decode cX5_init 256 = .ok (.iconst 3, 1) := by decide +kernel
theorem dX5_init_257 : decode cX5_init 257 = .ok (.bipush (-4), 2) := by decide +kernel
theorem dX5_init_259 : decode cX5_init 259 = .ok (.iastore, 1) := by decide +kernel
theorem dX5_init_260 : decode cX5_init 260 = .ok (.putfield 35, 3) := by decide +kernel
theorem dX5_init_263 : decode cX5_init 263 = .ok (.aload_n 0, 1) := by decide +kernel
theorem dX5_init_264 : decode cX5_init 264 = .ok (.iconst 4, 1) := by decide +kernel
theorem dX5_init_265 : decode cX5_init 265 = .ok (.newarray .int, 2) := by decide +kernel
theorem dX5_init_267 : decode cX5_init 267 = .ok (.putfield 38, 3) := by decide +kernel
theorem dX5_init_270 : decode cX5_init 270 = .ok (.aload_n 0, 1) := by decide +kernel
theorem dX5_init_271 : decode cX5_init 271 = .ok (.sipush 160, 3) := by decide +kernel
theorem dX5_init_274 : decode cX5_init 274 = .ok (.newarray .int, 2) := by decide +kernel
theorem dX5_init_276 : decode cX5_init 276 = .ok (.putfield 41, 3) := by decide +kernel
theorem dX5_init_279 : decode cX5_init 279 = .ok (.return_, 1) := by decide +kernel
theorem dX5_in_0 : decode cX5_in 0 = .ok (.lload_n 0, 1) := by decide +kernel
theorem dX5_in_1 : decode cX5_in 1 = .ok (.lload_n 2, 1) := by decide +kernel
theorem dX5_in_2 : decode cX5_in 2 = .ok (.lcmp, 1) := by decide +kernel
theorem dX5_in_3 : decode cX5_in 3 = .ok (.ifCond .lt 14, 3) := by decide +kernel
theorem dX5_in_6 : decode cX5_in 6 = .ok (.lload_n 0, 1) := by decide +kernel
theorem dX5_in_7 : decode cX5_in 7 = .ok (.lload 4, 2) := by decide +kernel
theorem dX5_in_9 : decode cX5_in 9 = .ok (.lcmp, 1) := by decide +kernel
theorem dX5_in_10 : decode cX5_in 10 = .ok (.ifCond .gt 7, 3) := by decide +kernel
theorem dX5_in_13 : decode cX5_in 13 = .ok (.iconst 1, 1) := by decide +kernel
theorem dX5_in_14 : decode cX5_in 14 = .ok (.goto 4, 3) := by decide +kernel
theorem dX5_in_17 : decode cX5_in 17 = .ok (.iconst 0, 1) := by decide +kernel
theorem dX5_in_18 : decode cX5_in 18 = .ok (.ireturn, 1) := by decide +kernel
theorem dX5_amount_0 : decode cX5_amount 0 = .ok (.iload_n 0, 1) := by decide +kernel
theorem dX5_amount_1 : decode cX5_amount 1 = .ok (.ifCond .ge 8, 3) := by decide +kernel
theorem dX5_amount_4 : decode cX5_amount 4 = .ok (.iload_n 0, 1) := by decide +kernel
theorem dX5_amount_5 : decode cX5_amount 5 = .ok (.ineg, 1) := by decide +kernel
theorem dX5_amount_6 : decode cX5_amount 6 = .ok (.goto 4, 3) := by decide +kernel
theorem dX5_amount_9 : decode cX5_amount 9 = .ok (.iload_n 0, 1) := by decide +kernel
theorem dX5_amount_10 : decode cX5_amount 10 = .ok (.ireturn, 1) := by decide +kernel
set_option maxRecDepth 20000 in
theorem ggX5_feed_X5_in : GoodIn wsX5_feed wsX5_in := goodIn_r _ [7] (by decide +kernel) (by decide +kernel)
set_option maxRecDepth 20000 in
theorem gX5_feed_X5_in : GoodIn wsX5_feed (va_wsS RX5 46 yX5_in wsX5_in) := goodIn_app (goodIn_of _ (by decide +kernel)) ggX5_feed_X5_in
theorem dX5_feed_0 : decode cX5_feed 0 = .ok (.iload_n 1, 1) := by decide +kernel
theorem dX5_feed_1 : decode cX5_feed 1 = .ok (.i2l, 1) := by decide +kernel
theorem dX5_feed_2 : decode cX5_feed 2 = .ok (.lconst 0, 1) := by decide +kernel
theorem dX5_feed_3 : decode cX5_feed 3 = .ok (.ldc2_w 44, 3) := by decide +kernel
theorem dX5_feed_6 : decode cX5_feed 6 = .ok (.invokestatic 46, 3) := by decide +kernel
theorem dX5_feed_9 : decode cX5_feed 9 = .ok (.ifCond .ne 5, 3) := by decide +kernel
theorem dX5_feed_12 : decode cX5_feed 12 = .ok (.iconst (-1), 1) := by decide +kernel
theorem dX5_feed_13 : decode cX5_feed 13 = .ok (.ireturn, 1) := by decide +kernel
theorem dX5_feed_14 : decode cX5_feed 14 = .ok (.aload_n 0, 1) := by decide +kernel
theorem dX5_feed_15 : decode cX5_feed 15 = .ok (.getfield 50, 3) := by decide +kernel
theorem dX5_feed_18 : decode cX5_feed 18 = .ok (.sipush 160, 3) := by decide +kernel
theorem dX5_feed_21 : decode cX5_feed 21 = .ok (.if_icmp .ne 6, 3) := by decide +kernel
theorem dX5_feed_24 : decode cX5_feed 24 = .ok (.bipush (-3), 2) := by decide +kernel
theorem dX5_feed_26 : decode cX5_feed 26 = .ok (.ireturn, 1) := by decide +kernel
theorem dX5_feed_27 : decode cX5_feed 27 = .ok (.aload_n 0, 1) := by decide +kernel
theorem dX5_feed_28 : decode cX5_feed 28 = .ok (.getfield 16, 3) := by decide +kernel
theorem dX5_feed_31 : decode cX5_feed 31 = .ok (.aload_n 0, 1) := by decide +kernel
theorem dX5_feed_32 : decode cX5_feed 32 = .ok (.getfield 50, 3) := by decide +kernel
theorem dX5_feed_35 : decode cX5_feed 35 = .ok (.iload_n 1, 1) := by decide +kernel
theorem dX5_feed_36 : decode cX5_feed 36 = .ok (.iastore, 1) := by decide +kernel
theorem dX5_feed_37 : decode cX5_feed 37 = .ok (.aload_n 0, 1) := by decide +kernel
theorem dX5_feed_38 : decode cX5_feed 38 = .ok (.dup, 1) := by decide +kernel
theorem dX5_feed_39 : decode cX5_feed 39 = .ok (.getfield 50, 3) := by decide +kernel
theorem dX5_feed_42 : decode cX5_feed 42 = .ok (.iconst 1, 1) := by decide +kernel
theorem dX5_feed_43 : decode cX5_feed 43 = .ok (.iadd, 1) := by decide +kernel
