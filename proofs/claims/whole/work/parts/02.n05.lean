theorem dX4_miss_21 : decode cX4_miss 21 = .ok (.getfield 10, 3) := by decide +kernel
theorem dX4_miss_24 : decode cX4_miss 24 = .ok (.invokevirtual 77, 3) := by decide +kernel
theorem dX4_miss_27 : decode cX4_miss 27 = .ok (.aload_n 0, 1) := by decide +kernel
theorem dX4_miss_28 : decode cX4_miss 28 = .ok (.getfield 16, 3) := by decide +kernel
theorem dX4_miss_31 : decode cX4_miss 31 = .ok (.iload_n 1, 1) := by decide +kernel
theorem dX4_miss_32 : decode cX4_miss 32 = .ok (.invokevirtual 160, 3) := by decide +kernel
theorem dX4_miss_35 : decode cX4_miss 35 = .ok (.aload_n 0, 1) := by decide +kernel
theorem dX4_miss_36 : decode cX4_miss 36 = .ok (.getfield 16, 3) := by decide +kernel
theorem dX4_miss_39 : decode cX4_miss 39 = .ok (.invokevirtual 97, 3) := by decide +kernel
theorem dX4_miss_42 : decode cX4_miss 42 = .ok (.istore_n 3, 1) := by decide +kernel
theorem dX4_miss_43 : decode cX4_miss 43 = .ok (.bipush (-4), 2) := by decide +kernel
theorem dX4_miss_45 : decode cX4_miss 45 = .ok (.istore 4, 2) := by decide +kernel
theorem dX4_miss_47 : decode cX4_miss 47 = .ok (.iconst 0, 1) := by decide +kernel
theorem dX4_miss_48 : decode cX4_miss 48 = .ok (.istore 5, 2) := by decide +kernel
theorem dX4_miss_50 : decode cX4_miss 50 = .ok (.iload 5, 2) := by decide +kernel
theorem dX4_miss_52 : decode cX4_miss 52 = .ok (.aload_n 0, 1) := by decide +kernel
theorem dX4_miss_53 : decode cX4_miss 53 = .ok (.getfield 10, 3) := by decide +kernel
theorem dX4_miss_56 : decode cX4_miss 56 = .ok (.getfield 87, 3) := by decide +kernel
theorem dX4_miss_59 : decode cX4_miss 59 = .ok (.if_icmp .ge 61, 3) := by decide +kernel
theorem dX4_miss_62 : decode cX4_miss 62 = .ok (.aload_n 0, 1) := by decide +kernel
theorem dX4_miss_63 : decode cX4_miss 63 = .ok (.getfield 16, 3) := by decide +kernel
theorem dX4_miss_66 : decode cX4_miss 66 = .ok (.aload_n 0, 1) := by decide +kernel
theorem dX4_miss_67 : decode cX4_miss 67 = .ok (.getfield 10, 3) := by decide +kernel
theorem dX4_miss_70 : decode cX4_miss 70 = .ok (.invokevirtual 77, 3) := by decide +kernel
theorem dX4_miss_73 : decode cX4_miss 73 = .ok (.aload_n 0, 1) := by decide +kernel
theorem dX4_miss_74 : decode cX4_miss 74 = .ok (.getfield 16, 3) := by decide +kernel
theorem dX4_miss_77 : decode cX4_miss 77 = .ok (.getfield 101, 3) := by decide +kernel
theorem dX4_miss_80 : decode cX4_miss 80 = .ok (.iload 5, 2) := by decide +kernel
theorem dX4_miss_82 : decode cX4_miss 82 = .ok (.iconst 0, 1) := by decide +kernel
theorem dX4_miss_83 : decode cX4_miss 83 = .ok (.iastore, 1) := by decide +kernel
theorem dX4_miss_84 : decode cX4_miss 84 = .ok (.aload_n 0, 1) := by decide +kernel
theorem dX4_miss_85 : decode cX4_miss 85 = .ok (.getfield 16, 3) := by decide +kernel
theorem dX4_miss_88 : decode cX4_miss 88 = .ok (.iload_n 1, 1) := by decide +kernel
theorem dX4_miss_89 : decode cX4_miss 89 = .ok (.invokevirtual 160, 3) := by decide +kernel
theorem dX4_miss_92 : decode cX4_miss 92 = .ok (.aload_n 0, 1) := by decide +kernel
theorem dX4_miss_93 : decode cX4_miss 93 = .ok (.getfield 16, 3) := by decide +kernel
theorem dX4_miss_96 : decode cX4_miss 96 = .ok (.invokevirtual 97, 3) := by decide +kernel
theorem dX4_miss_99 : decode cX4_miss 99 = .ok (.istore 6, 2) := by decide +kernel
theorem dX4_miss_101 : decode cX4_miss 101 = .ok (.iload 6, 2) := by decide +kernel
theorem dX4_miss_103 : decode cX4_miss 103 = .ok (.iload_n 3, 1) := by decide +kernel
theorem dX4_miss_104 : decode cX4_miss 104 = .ok (.if_icmp .ge 10, 3) := by decide +kernel
theorem dX4_miss_107 : decode cX4_miss 107 = .ok (.iload 6, 2) := by decide +kernel
theorem dX4_miss_109 : decode cX4_miss 109 = .ok (.istore_n 3, 1) := by decide +kernel
theorem dX4_miss_110 : decode cX4_miss 110 = .ok (.iload 5, 2) := by decide +kernel
theorem dX4_miss_112 : decode cX4_miss 112 = .ok (.istore 4, 2) := by decide +kernel
theorem dX4_miss_114 : decode cX4_miss 114 = .ok (.iinc 5 1, 3) := by decide +kernel
theorem dX4_miss_117 : decode cX4_miss 117 = .ok (.goto (-67), 3) := by decide +kernel
theorem dX4_miss_120 : decode cX4_miss 120 = .ok (.iload_n 2, 1) := by decide +kernel
theorem dX4_miss_121 : decode cX4_miss 121 = .ok (.ifCond .eq 10, 3) := by decide +kernel
theorem dX4_miss_124 : decode cX4_miss 124 = .ok (.iload 4, 2) := by decide +kernel
theorem dX4_miss_126 : decode cX4_miss 126 = .ok (.bipush (-4), 2) := by decide +kernel
theorem dX4_miss_128 : decode cX4_miss 128 = .ok (.if_icmp .ne 8, 3) := by decide +kernel
theorem dX4_miss_131 : decode cX4_miss 131 = .ok (.iload 4, 2) := by decide +kernel
theorem dX4_miss_133 : decode cX4_miss 133 = .ok (.goto 4, 3) := by decide +kernel
theorem dX4_miss_136 : decode cX4_miss 136 = .ok (.iload_n 3, 1) := by decide +kernel
theorem dX4_miss_137 : decode cX4_miss 137 = .ok (.ireturn, 1) := by decide +kernel
set_option maxRecDepth 20000 in
theorem ggX4_lead_X4_isAhead : GoodIn wsX4_lead wsX4_isAhead := goodIn_r _ [7, 8, 9, 6, 10] (by decide +kernel) (by decide +kernel)
set_option maxRecDepth 20000 in
theorem gX4_lead_X4_isAhead : GoodIn wsX4_lead (va_wsS RX4 166 yX4_isAhead wsX4_isAhead) := goodIn_app (goodIn_of _ (by decide +kernel)) ggX4_lead_X4_isAhead
set_option maxRecDepth 20000 in
theorem ggX4_lead_X4_isFirstOrSecond : GoodIn wsX4_lead wsX4_isFirstOrSecond := goodIn_r _ [13, 8, 9, 6, 10] (by decide +kernel) (by decide +kernel)
set_option maxRecDepth 20000 in
theorem gX4_lead_X4_isFirstOrSecond : GoodIn wsX4_lead (va_wsS RX4 199 yX4_isFirstOrSecond wsX4_isFirstOrSecond) := goodIn_app (goodIn_of _ (by decide +kernel)) ggX4_lead_X4_isFirstOrSecond
set_option maxRecDepth 20000 in
theorem ggX4_lead_X0_copyFrom : GoodIn wsX4_lead wsX0_copyFrom := goodIn_r _ [18, 19, 20, 21, 22, 23, 24, 25, 26, 27, 28, 29, 30, 31, 17, 32, 33, 34, 97, 98, 99, 100, 101, 102, 103, 104, 105, 106, 107, 108] (by decide +kernel) (by decide +kernel)
set_option maxRecDepth 20000 in
theorem gX4_lead_X0_copyFrom : GoodIn wsX4_lead (wsV RX4 77 RX0 yX0_copyFrom wsX0_copyFrom) := goodIn_app (goodIn_of _ (by decide +kernel)) ggX4_lead_X0_copyFrom
set_option maxRecDepth 20000 in
theorem ggX4_lead_X0_moveHand : GoodIn wsX4_lead wsX0_moveHand := goodIn_r _ [38, 21, 19, 25, 23, 39, 40, 41, 17, 42, 24, 26, 43, 44, 45, 46, 47, 48, 49, 50, 51, 52, 53, 54, 55, 56, 57, 58, 59, 60, 27, 34, 61, 62, 63, 33, 97, 98, 99, 100, 101, 102, 103, 104, 105, 106, 107, 108] (by decide +kernel) (by decide +kernel)
set_option maxRecDepth 20000 in
theorem gX4_lead_X0_moveHand : GoodIn wsX4_lead (wsV RX4 153 RX0 yX0_moveHand wsX0_moveHand) := goodIn_app (goodIn_of _ (by decide +kernel)) ggX4_lead_X0_moveHand
set_option maxRecDepth 20000 in
theorem ggX4_lead_X0_greatestError : GoodIn wsX4_lead wsX0_greatestError := goodIn_r _ [67, 68, 69, 51, 70, 71, 72, 73, 17, 74, 20, 28, 22, 75, 76, 77, 78, 79, 36, 37, 38, 21, 19, 25, 23, 39, 40, 41, 42, 24, 26, 43, 44, 45, 46, 47, 48, 49, 50, 52, 53, 54, 55, 56, 57, 58, 59, 60, 27, 34, 61, 62, 63, 33, 80, 81, 82, 83, 84, 85, 86, 87, 97, 98, 99, 100, 101, 102, 103, 104, 105, 106, 107, 108] (by decide +kernel) (by decide +kernel)
set_option maxRecDepth 20000 in
theorem gX4_lead_X0_greatestError : GoodIn wsX4_lead (wsV RX4 169 RX0 yX0_greatestError wsX0_greatestError) := goodIn_app (goodIn_of _ (by decide +kernel)) ggX4_lead_X0_greatestError
theorem dX4_lead_0 : decode cX4_lead 0 = .ok (.iload_n 1, 1) := by decide +kernel
theorem dX4_lead_1 : decode cX4_lead 1 = .ok (.invokestatic 166, 3) := by decide +kernel
theorem dX4_lead_4 : decode cX4_lead 4 = .ok (.ifCond .eq 10, 3) := by decide +kernel
theorem dX4_lead_7 : decode cX4_lead 7 = .ok (.iload_n 2, 1) := by decide +kernel
theorem dX4_lead_8 : decode cX4_lead 8 = .ok (.invokestatic 199, 3) := by decide +kernel
theorem dX4_lead_11 : decode cX4_lead 11 = .ok (.ifCond .ne 5, 3) := by decide +kernel
theorem dX4_lead_14 : decode cX4_lead 14 = .ok (.iconst (-1), 1) := by decide +kernel
theorem dX4_lead_15 : decode cX4_lead 15 = .ok (.ireturn, 1) := by decide +kernel
theorem dX4_lead_16 : decode cX4_lead 16 = .ok (.ldc 206, 2) := by decide +kernel
theorem dX4_lead_18 : decode cX4_lead 18 = .ok (.istore_n 3, 1) := by decide +kernel
theorem dX4_lead_19 : decode cX4_lead 19 = .ok (.iconst 0, 1) := by decide +kernel
theorem dX4_lead_20 : decode cX4_lead 20 = .ok (.istore 4, 2) := by decide +kernel
theorem dX4_lead_22 : decode cX4_lead 22 = .ok (.iconst 0, 1) := by decide +kernel
theorem dX4_lead_23 : decode cX4_lead 23 = .ok (.istore 5, 2) := by decide +kernel
theorem dX4_lead_25 : decode cX4_lead 25 = .ok (.iload 5, 2) := by decide +kernel
theorem dX4_lead_27 : decode cX4_lead 27 = .ok (.bipush 18, 2) := by decide +kernel
theorem dX4_lead_29 : decode cX4_lead 29 = .ok (.if_icmp .gt 55, 3) := by decide +kernel
theorem dX4_lead_32 : decode cX4_lead 32 = .ok (.aload_n 0, 1) := by decide +kernel
theorem dX4_lead_33 : decode cX4_lead 33 = .ok (.getfield 16, 3) := by decide +kernel
theorem dX4_lead_36 : decode cX4_lead 36 = .ok (.aload_n 0, 1) := by decide +kernel
theorem dX4_lead_37 : decode cX4_lead 37 = .ok (.getfield 10, 3) := by decide +kernel
theorem dX4_lead_40 : decode cX4_lead 40 = .ok (.invokevirtual 77, 3) := by decide +kernel
theorem dX4_lead_43 : decode cX4_lead 43 = .ok (.aload_n 0, 1) := by decide +kernel
theorem dX4_lead_44 : decode cX4_lead 44 = .ok (.getfield 16, 3) := by decide +kernel
theorem dX4_lead_47 : decode cX4_lead 47 = .ok (.iload 5, 2) := by decide +kernel
theorem dX4_lead_49 : decode cX4_lead 49 = .ok (.bipush 9, 2) := by decide +kernel
theorem dX4_lead_51 : decode cX4_lead 51 = .ok (.isub, 1) := by decide +kernel
theorem dX4_lead_52 : decode cX4_lead 52 = .ok (.invokevirtual 153, 3) := by decide +kernel
theorem dX4_lead_55 : decode cX4_lead 55 = .ok (.aload_n 0, 1) := by decide +kernel
theorem dX4_lead_56 : decode cX4_lead 56 = .ok (.getfield 16, 3) := by decide +kernel
theorem dX4_lead_59 : decode cX4_lead 59 = .ok (.iload_n 1, 1) := by decide +kernel
theorem dX4_lead_60 : decode cX4_lead 60 = .ok (.invokevirtual 169, 3) := by decide +kernel
theorem dX4_lead_63 : decode cX4_lead 63 = .ok (.istore 6, 2) := by decide +kernel
theorem dX4_lead_65 : decode cX4_lead 65 = .ok (.iload 6, 2) := by decide +kernel
theorem dX4_lead_67 : decode cX4_lead 67 = .ok (.iload_n 3, 1) := by decide +kernel
theorem dX4_lead_68 : decode cX4_lead 68 = .ok (.if_icmp .ge 10, 3) := by decide +kernel
theorem dX4_lead_71 : decode cX4_lead 71 = .ok (.iload 6, 2) := by decide +kernel
theorem dX4_lead_73 : decode cX4_lead 73 = .ok (.istore_n 3, 1) := by decide +kernel
theorem dX4_lead_74 : decode cX4_lead 74 = .ok (.iload 5, 2) := by decide +kernel
theorem dX4_lead_76 : decode cX4_lead 76 = .ok (.istore 4, 2) := by decide +kernel
theorem dX4_lead_78 : decode cX4_lead 78 = .ok (.iinc 5 1, 3) := by decide +kernel
theorem dX4_lead_81 : decode cX4_lead 81 = .ok (.goto (-56), 3) := by decide +kernel
theorem dX4_lead_84 : decode cX4_lead 84 = .ok (.iload_n 2, 1) := by decide +kernel
theorem dX4_lead_85 : decode cX4_lead 85 = .ok (.ifCond .ne 8, 3) := by decide +kernel
theorem dX4_lead_88 : decode cX4_lead 88 = .ok (.iload 4, 2) := by decide +kernel
theorem dX4_lead_90 : decode cX4_lead 90 = .ok (.goto 4, 3) := by decide +kernel
theorem dX4_lead_93 : decode cX4_lead 93 = .ok (.iload_n 3, 1) := by decide +kernel
theorem dX4_lead_94 : decode cX4_lead 94 = .ok (.ireturn, 1) := by decide +kernel
set_option maxRecDepth 20000 in
theorem ggX4_luck_X4_areOdds : GoodIn wsX4_luck wsX4_areOdds := goodIn_r _ [5, 6, 7, 4, 8, 9, 10, 11] (by decide +kernel) (by decide +kernel)
set_option maxRecDepth 20000 in
theorem gX4_luck_X4_areOdds : GoodIn wsX4_luck (va_wsS RX4 207 yX4_areOdds wsX4_areOdds) := goodIn_app (goodIn_of _ (by decide +kernel)) ggX4_luck_X4_areOdds
set_option maxRecDepth 20000 in
theorem ggX4_luck_X4_within : GoodIn wsX4_luck wsX4_within := goodIn_r _ [8] (by decide +kernel) (by decide +kernel)
set_option maxRecDepth 20000 in
theorem gX4_luck_X4_within : GoodIn wsX4_luck (va_wsS RX4 56 yX4_within wsX4_within) := goodIn_app (goodIn_of _ (by decide +kernel)) ggX4_luck_X4_within
set_option maxRecDepth 20000 in
theorem ggX4_luck_X4_weightOf : GoodIn wsX4_luck wsX4_weightOf := goodIn_r _ [14, 15, 16, 17, 18, 19, 20, 21, 22, 23, 4, 24] (by decide +kernel) (by decide +kernel)
set_option maxRecDepth 20000 in
theorem gX4_luck_X4_weightOf : GoodIn wsX4_luck (va_wsS RX4 212 yX4_weightOf wsX4_weightOf) := goodIn_app (goodIn_of _ (by decide +kernel)) ggX4_luck_X4_weightOf
set_option maxRecDepth 20000 in
theorem ggX4_luck_X4_errorMissing : GoodIn wsX4_luck wsX4_errorMissing := goodIn_r _ [28, 29, 30, 31, 32, 33, 34, 35, 36, 37, 38, 39, 40, 41, 42, 43, 44, 45, 46, 47, 48, 49, 50, 51, 52, 53, 54, 55, 56, 57, 58, 59, 60, 61, 62, 63, 64, 65, 66, 67, 68, 69, 70, 71, 72, 73, 74, 75, 76, 77, 78, 79, 80, 17, 81, 82, 83, 84, 85, 86, 87, 88, 89, 90, 91, 92, 93, 94, 95, 96, 103, 104, 105, 106, 107, 108, 109, 110, 111, 112, 113, 114, 115, 116, 117, 118, 119, 120, 121, 122, 123] (by decide +kernel) (by decide +kernel)
set_option maxRecDepth 20000 in
theorem gX4_luck_X4_errorMissing : GoodIn wsX4_luck (wsV RX4 216 RX4 yX4_errorMissing wsX4_errorMissing) := goodIn_app (goodIn_of _ (by decide +kernel)) ggX4_luck_X4_errorMissing
set_option maxRecDepth 20000 in
theorem ggX4_luck_X4_power : GoodIn wsX4_luck wsX4_power := goodIn_r _ [24] (by decide +kernel) (by decide +kernel)
set_option maxRecDepth 20000 in
theorem gX4_luck_X4_power : GoodIn wsX4_luck (va_wsS RX4 219 yX4_power wsX4_power) := goodIn_app (goodIn_of _ (by decide +kernel)) ggX4_luck_X4_power
set_option maxRecDepth 20000 in
theorem ggX4_luck_X4_ofFraction : GoodIn wsX4_luck wsX4_ofFraction := goodIn_r _ [99, 100, 101, 4, 102] (by decide +kernel) (by decide +kernel)
set_option maxRecDepth 20000 in
theorem gX4_luck_X4_ofFraction : GoodIn wsX4_luck (va_wsS RX4 223 yX4_ofFraction wsX4_ofFraction) := goodIn_app (goodIn_of _ (by decide +kernel)) ggX4_luck_X4_ofFraction
theorem dX4_luck_0 : decode cX4_luck 0 = .ok (.iload_n 1, 1) := by decide +kernel
theorem dX4_luck_1 : decode cX4_luck 1 = .ok (.iload_n 3, 1) := by decide +kernel
theorem dX4_luck_2 : decode cX4_luck 2 = .ok (.iload 4, 2) := by decide +kernel
theorem dX4_luck_4 : decode cX4_luck 4 = .ok (.invokestatic 207, 3) := by decide +kernel
theorem dX4_luck_7 : decode cX4_luck 7 = .ok (.ifCond .eq 13, 3) := by decide +kernel
theorem dX4_luck_10 : decode cX4_luck 10 = .ok (.iload_n 2, 1) := by decide +kernel
theorem dX4_luck_11 : decode cX4_luck 11 = .ok (.iconst 0, 1) := by decide +kernel
theorem dX4_luck_12 : decode cX4_luck 12 = .ok (.bipush 99, 2) := by decide +kernel
theorem dX4_luck_14 : decode cX4_luck 14 = .ok (.invokestatic 56, 3) := by decide +kernel
theorem dX4_luck_17 : decode cX4_luck 17 = .ok (.ifCond .ne 7, 3) := by decide +kernel
theorem dX4_luck_20 : decode cX4_luck 20 = .ok (.ldc2_w 210, 3) := by decide +kernel
theorem dX4_luck_23 : decode cX4_luck 23 = .ok (.lreturn, 1) := by decide +kernel
theorem dX4_luck_24 : decode cX4_luck 24 = .ok (.lconst 0, 1) := by decide +kernel
theorem dX4_luck_25 : decode cX4_luck 25 = .ok (.lstore 5, 2) := by decide +kernel
theorem dX4_luck_27 : decode cX4_luck 27 = .ok (.iconst 0, 1) := by decide +kernel
theorem dX4_luck_28 : decode cX4_luck 28 = .ok (.istore 7, 2) := by decide +kernel
theorem dX4_luck_30 : decode cX4_luck 30 = .ok (.iload 7, 2) := by decide +kernel
theorem dX4_luck_32 : decode cX4_luck 32 = .ok (.iconst 1, 1) := by decide +kernel
theorem dX4_luck_33 : decode cX4_luck 33 = .ok (.iload_n 3, 1) := by decide +kernel
theorem dX4_luck_34 : decode cX4_luck 34 = .ok (.ishl, 1) := by decide +kernel
theorem dX4_luck_35 : decode cX4_luck 35 = .ok (.if_icmp .ge 43, 3) := by decide +kernel
theorem dX4_luck_38 : decode cX4_luck 38 = .ok (.iload 7, 2) := by decide +kernel
theorem dX4_luck_40 : decode cX4_luck 40 = .ok (.iload_n 1, 1) := by decide +kernel
theorem dX4_luck_41 : decode cX4_luck 41 = .ok (.iload_n 3, 1) := by decide +kernel
theorem dX4_luck_42 : decode cX4_luck 42 = .ok (.invokestatic 212, 3) := by decide +kernel
theorem dX4_luck_45 : decode cX4_luck 45 = .ok (.lstore 8, 2) := by decide +kernel
theorem dX4_luck_47 : decode cX4_luck 47 = .ok (.lload 8, 2) := by decide +kernel
theorem dX4_luck_49 : decode cX4_luck 49 = .ok (.lconst 0, 1) := by decide +kernel
theorem dX4_luck_50 : decode cX4_luck 50 = .ok (.lcmp, 1) := by decide +kernel
theorem dX4_luck_51 : decode cX4_luck 51 = .ok (.ifCond .eq 21, 3) := by decide +kernel
theorem dX4_luck_54 : decode cX4_luck 54 = .ok (.aload_n 0, 1) := by decide +kernel
theorem dX4_luck_55 : decode cX4_luck 55 = .ok (.iload 7, 2) := by decide +kernel
theorem dX4_luck_57 : decode cX4_luck 57 = .ok (.iload_n 3, 1) := by decide +kernel
theorem dX4_luck_58 : decode cX4_luck 58 = .ok (.invokevirtual 216, 3) := by decide +kernel
theorem dX4_luck_61 : decode cX4_luck 61 = .ok (.iload_n 2, 1) := by decide +kernel
theorem dX4_luck_62 : decode cX4_luck 62 = .ok (.if_icmp .gt 10, 3) := by decide +kernel
theorem dX4_luck_65 : decode cX4_luck 65 = .ok (.lload 5, 2) := by decide +kernel
theorem dX4_luck_67 : decode cX4_luck 67 = .ok (.lload 8, 2) := by decide +kernel
theorem dX4_luck_69 : decode cX4_luck 69 = .ok (.ladd, 1) := by decide +kernel
theorem dX4_luck_70 : decode cX4_luck 70 = .ok (.lstore 5, 2) := by decide +kernel
theorem dX4_luck_72 : decode cX4_luck 72 = .ok (.iinc 7 1, 3) := by decide +kernel
theorem dX4_luck_75 : decode cX4_luck 75 = .ok (.goto (-45), 3) := by decide +kernel
theorem dX4_luck_78 : decode cX4_luck 78 = .ok (.lload 5, 2) := by decide +kernel
theorem dX4_luck_80 : decode cX4_luck 80 = .ok (.bipush 10, 2) := by decide +kernel
theorem dX4_luck_82 : decode cX4_luck 82 = .ok (.iload_n 3, 1) := by decide +kernel
theorem dX4_luck_83 : decode cX4_luck 83 = .ok (.invokestatic 219, 3) := by decide +kernel
theorem dX4_luck_86 : decode cX4_luck 86 = .ok (.iload 4, 2) := by decide +kernel
theorem dX4_luck_88 : decode cX4_luck 88 = .ok (.invokestatic 223, 3) := by decide +kernel
theorem dX4_luck_91 : decode cX4_luck 91 = .ok (.lreturn, 1) := by decide +kernel
set_option maxRecDepth 20000 in
theorem ggX4_mean_X4_areOdds : GoodIn wsX4_mean wsX4_areOdds := goodIn_r _ [5, 6, 7, 4, 8, 9, 10, 11] (by decide +kernel) (by decide +kernel)
set_option maxRecDepth 20000 in
theorem gX4_mean_X4_areOdds : GoodIn wsX4_mean (va_wsS RX4 207 yX4_areOdds wsX4_areOdds) := goodIn_app (goodIn_of _ (by decide +kernel)) ggX4_mean_X4_areOdds
set_option maxRecDepth 20000 in
theorem ggX4_mean_X4_weightOf : GoodIn wsX4_mean wsX4_weightOf := goodIn_r _ [14, 15, 16, 17, 18, 19, 20, 21, 22, 23, 4, 24] (by decide +kernel) (by decide +kernel)
set_option maxRecDepth 20000 in
theorem gX4_mean_X4_weightOf : GoodIn wsX4_mean (va_wsS RX4 212 yX4_weightOf wsX4_weightOf) := goodIn_app (goodIn_of _ (by decide +kernel)) ggX4_mean_X4_weightOf
set_option maxRecDepth 20000 in
theorem ggX4_mean_X4_errorMissing : GoodIn wsX4_mean wsX4_errorMissing := goodIn_r _ [28, 29, 30, 31, 32, 33, 34, 35, 36, 37, 38, 39, 40, 41, 42, 43, 44, 45, 46, 47, 48, 49, 50, 51, 52, 53, 54, 55, 56, 57, 58, 59, 60, 61, 62, 63, 64, 65, 66, 67, 68, 69, 70, 71, 72, 73, 74, 75, 76, 77, 78, 79, 80, 17, 81, 82, 83, 84, 85, 86, 87, 88, 89, 90, 91, 92, 93, 94, 95, 96, 103, 104, 105, 106, 107, 108, 109, 110, 111, 112, 113, 114, 115, 116, 117, 118, 119, 120, 121, 122, 123] (by decide +kernel) (by decide +kernel)
set_option maxRecDepth 20000 in
theorem gX4_mean_X4_errorMissing : GoodIn wsX4_mean (wsV RX4 216 RX4 yX4_errorMissing wsX4_errorMissing) := goodIn_app (goodIn_of _ (by decide +kernel)) ggX4_mean_X4_errorMissing
set_option maxRecDepth 20000 in
theorem ggX4_mean_X4_power : GoodIn wsX4_mean wsX4_power := goodIn_r _ [24] (by decide +kernel) (by decide +kernel)
set_option maxRecDepth 20000 in
theorem gX4_mean_X4_power : GoodIn wsX4_mean (va_wsS RX4 219 yX4_power wsX4_power) := goodIn_app (goodIn_of _ (by decide +kernel)) ggX4_mean_X4_power
set_option maxRecDepth 20000 in
theorem ggX4_mean_X4_ofFraction : GoodIn wsX4_mean wsX4_ofFraction := goodIn_r _ [99, 100, 101, 4, 102] (by decide +kernel) (by decide +kernel)
set_option maxRecDepth 20000 in
theorem gX4_mean_X4_ofFraction : GoodIn wsX4_mean (va_wsS RX4 223 yX4_ofFraction wsX4_ofFraction) := goodIn_app (goodIn_of _ (by decide +kernel)) ggX4_mean_X4_ofFraction
theorem dX4_mean_0 : decode cX4_mean 0 = .ok (.iload_n 1, 1) := by decide +kernel
theorem dX4_mean_1 : decode cX4_mean 1 = .ok (.iload_n 2, 1) := by decide +kernel
theorem dX4_mean_2 : decode cX4_mean 2 = .ok (.iload_n 3, 1) := by decide +kernel
theorem dX4_mean_3 : decode cX4_mean 3 = .ok (.invokestatic 207, 3) := by decide +kernel
theorem dX4_mean_6 : decode cX4_mean 6 = .ok (.ifCond .ne 7, 3) := by decide +kernel
theorem dX4_mean_9 : decode cX4_mean 9 = .ok (.ldc2_w 210, 3) := by decide +kernel
theorem dX4_mean_12 : decode cX4_mean 12 = .ok (.lreturn, 1) := by decide +kernel
theorem dX4_mean_13 : decode cX4_mean 13 = .ok (.lconst 0, 1) := by decide +kernel
theorem dX4_mean_14 : decode cX4_mean 14 = .ok (.lstore 4, 2) := by decide +kernel
theorem dX4_mean_16 : decode cX4_mean 16 = .ok (.iconst 0, 1) := by decide +kernel
theorem dX4_mean_17 : decode cX4_mean 17 = .ok (.istore 6, 2) := by decide +kernel
theorem dX4_mean_19 : decode cX4_mean 19 = .ok (.iload 6, 2) := by decide +kernel
theorem dX4_mean_21 : decode cX4_mean 21 = .ok (.iconst 1, 1) := by decide +kernel
theorem dX4_mean_22 : decode cX4_mean 22 = .ok (.iload_n 2, 1) := by decide +kernel
theorem dX4_mean_23 : decode cX4_mean 23 = .ok (.ishl, 1) := by decide +kernel
theorem dX4_mean_24 : decode cX4_mean 24 = .ok (.if_icmp .ge 41, 3) := by decide +kernel
theorem dX4_mean_27 : decode cX4_mean 27 = .ok (.iload 6, 2) := by decide +kernel
theorem dX4_mean_29 : decode cX4_mean 29 = .ok (.iload_n 1, 1) := by decide +kernel
theorem dX4_mean_30 : decode cX4_mean 30 = .ok (.iload_n 2, 1) := by decide +kernel
theorem dX4_mean_31 : decode cX4_mean 31 = .ok (.invokestatic 212, 3) := by decide +kernel
theorem dX4_mean_34 : decode cX4_mean 34 = .ok (.lstore 7, 2) := by decide +kernel
theorem dX4_mean_36 : decode cX4_mean 36 = .ok (.lload 7, 2) := by decide +kernel
theorem dX4_mean_38 : decode cX4_mean 38 = .ok (.lconst 0, 1) := by decide +kernel
theorem dX4_mean_39 : decode cX4_mean 39 = .ok (.lcmp, 1) := by decide +kernel
theorem dX4_mean_40 : decode cX4_mean 40 = .ok (.ifCond .eq 19, 3) := by decide +kernel
theorem dX4_mean_43 : decode cX4_mean 43 = .ok (.lload 4, 2) := by decide +kernel
theorem dX4_mean_45 : decode cX4_mean 45 = .ok (.lload 7, 2) := by decide +kernel
theorem dX4_mean_47 : decode cX4_mean 47 = .ok (.aload_n 0, 1) := by decide +kernel
theorem dX4_mean_48 : decode cX4_mean 48 = .ok (.iload 6, 2) := by decide +kernel
theorem dX4_mean_50 : decode cX4_mean 50 = .ok (.iload_n 2, 1) := by decide +kernel
theorem dX4_mean_51 : decode cX4_mean 51 = .ok (.invokevirtual 216, 3) := by decide +kernel
theorem dX4_mean_54 : decode cX4_mean 54 = .ok (.i2l, 1) := by decide +kernel
theorem dX4_mean_55 : decode cX4_mean 55 = .ok (.lmul, 1) := by decide +kernel
theorem dX4_mean_56 : decode cX4_mean 56 = .ok (.ladd, 1) := by decide +kernel
theorem dX4_mean_57 : decode cX4_mean 57 = .ok (.lstore 4, 2) := by decide +kernel
theorem dX4_mean_59 : decode cX4_mean 59 = .ok (.iinc 6 1, 3) := by decide +kernel
theorem dX4_mean_62 : decode cX4_mean 62 = .ok (.goto (-43), 3) := by decide +kernel
theorem dX4_mean_65 : decode cX4_mean 65 = .ok (.lload 4, 2) := by decide +kernel
theorem dX4_mean_67 : decode cX4_mean 67 = .ok (.bipush 10, 2) := by decide +kernel
theorem dX4_mean_69 : decode cX4_mean 69 = .ok (.iload_n 2, 1) := by decide +kernel
theorem dX4_mean_70 : decode cX4_mean 70 = .ok (.invokestatic 219, 3) := by decide +kernel
theorem dX4_mean_73 : decode cX4_mean 73 = .ok (.iload_n 3, 1) := by decide +kernel
theorem dX4_mean_74 : decode cX4_mean 74 = .ok (.invokestatic 223, 3) := by decide +kernel
theorem dX4_mean_77 : decode cX4_mean 77 = .ok (.lreturn, 1) := by decide +kernel
set_option maxRecDepth 20000 in
theorem ggX4_see_X4_within : GoodIn wsX4_see wsX4_within := goodIn_r _ [7] (by decide +kernel) (by decide +kernel)
set_option maxRecDepth 20000 in
theorem gX4_see_X4_within : GoodIn wsX4_see (va_wsS RX4 56 yX4_within wsX4_within) := goodIn_app (goodIn_of _ (by decide +kernel)) ggX4_see_X4_within
set_option maxRecDepth 20000 in
theorem ggX4_see_X4_isArm : GoodIn wsX4_see wsX4_isArm := goodIn_r _ [11, 12, 13, 4, 5, 6, 7, 28, 29, 30, 31, 32, 33, 34, 35, 36, 41, 42, 43, 44, 45, 46, 47, 48, 49, 50, 51, 52] (by decide +kernel) (by decide +kernel)
set_option maxRecDepth 20000 in
theorem gX4_see_X4_isArm : GoodIn wsX4_see (wsV RX4 107 RX4 yX4_isArm wsX4_isArm) := goodIn_app (goodIn_of _ (by decide +kernel)) ggX4_see_X4_isArm
set_option maxRecDepth 20000 in
theorem ggX4_see_X4_isShiftedPlace : GoodIn wsX4_see wsX4_isShiftedPlace := goodIn_r _ [16, 17, 18, 4, 5, 6, 7] (by decide +kernel) (by decide +kernel)
set_option maxRecDepth 20000 in
theorem gX4_see_X4_isShiftedPlace : GoodIn wsX4_see (va_wsS RX4 180 yX4_isShiftedPlace wsX4_isShiftedPlace) := goodIn_app (goodIn_of _ (by decide +kernel)) ggX4_see_X4_isShiftedPlace
set_option maxRecDepth 20000 in
theorem ggX4_see_X2_append : GoodIn wsX4_see wsX2_append := goodIn_r _ [23, 24, 25, 26, 27, 37, 38, 39, 40] (by decide +kernel) (by decide +kernel)
set_option maxRecDepth 20000 in
theorem gX4_see_X2_append : GoodIn wsX4_see (wsV RX4 227 RX2 yX2_append wsX2_append) := goodIn_app (goodIn_of _ (by decide +kernel)) ggX4_see_X2_append
theorem dX4_see_0 : decode cX4_see 0 = .ok (.iload_n 1, 1) := by decide +kernel
theorem dX4_see_1 : decode cX4_see 1 = .ok (.iconst 0, 1) := by decide +kernel
theorem dX4_see_2 : decode cX4_see 2 = .ok (.bipush 40, 2) := by decide +kernel
theorem dX4_see_4 : decode cX4_see 4 = .ok (.invokestatic 56, 3) := by decide +kernel
theorem dX4_see_7 : decode cX4_see 7 = .ok (.ifCond .eq 18, 3) := by decide +kernel
theorem dX4_see_10 : decode cX4_see 10 = .ok (.aload_n 0, 1) := by decide +kernel
theorem dX4_see_11 : decode cX4_see 11 = .ok (.iload_n 2, 1) := by decide +kernel
theorem dX4_see_12 : decode cX4_see 12 = .ok (.invokevirtual 107, 3) := by decide +kernel
theorem dX4_see_15 : decode cX4_see 15 = .ok (.ifCond .eq 10, 3) := by decide +kernel
theorem dX4_see_18 : decode cX4_see 18 = .ok (.iload_n 3, 1) := by decide +kernel
theorem dX4_see_19 : decode cX4_see 19 = .ok (.invokestatic 180, 3) := by decide +kernel
theorem dX4_see_22 : decode cX4_see 22 = .ok (.ifCond .ne 5, 3) := by decide +kernel
theorem dX4_see_25 : decode cX4_see 25 = .ok (.iconst (-1), 1) := by decide +kernel
theorem dX4_see_26 : decode cX4_see 26 = .ok (.ireturn, 1) := by decide +kernel
theorem dX4_see_27 : decode cX4_see 27 = .ok (.aload_n 0, 1) := by decide +kernel
theorem dX4_see_28 : decode cX4_see 28 = .ok (.getfield 37, 3) := by decide +kernel
theorem dX4_see_31 : decode cX4_see 31 = .ok (.iload_n 1, 1) := by decide +kernel
theorem dX4_see_32 : decode cX4_see 32 = .ok (.iload_n 2, 1) := by decide +kernel
theorem dX4_see_33 : decode cX4_see 33 = .ok (.iload_n 3, 1) := by decide +kernel
theorem dX4_see_34 : decode cX4_see 34 = .ok (.ldc 93, 2) := by decide +kernel
theorem dX4_see_36 : decode cX4_see 36 = .ok (.isub, 1) := by decide +kernel
theorem dX4_see_37 : decode cX4_see 37 = .ok (.invokevirtual 227, 3) := by decide +kernel
theorem dX4_see_40 : decode cX4_see 40 = .ok (.ifCond .eq 13, 3) := by decide +kernel
theorem dX4_see_43 : decode cX4_see 43 = .ok (.aload_n 0, 1) := by decide +kernel
theorem dX4_see_44 : decode cX4_see 44 = .ok (.getfield 37, 3) := by decide +kernel
theorem dX4_see_47 : decode cX4_see 47 = .ok (.getfield 81, 3) := by decide +kernel
theorem dX4_see_50 : decode cX4_see 50 = .ok (.goto 5, 3) := by decide +kernel
theorem dX4_see_53 : decode cX4_see 53 = .ok (.bipush (-3), 2) := by decide +kernel
theorem dX4_see_55 : decode cX4_see 55 = .ok (.ireturn, 1) := by decide +kernel
set_option maxRecDepth 20000 in
theorem ggX4_forget_X4_within : GoodIn wsX4_forget wsX4_within := goodIn_r _ [6] (by decide +kernel) (by decide +kernel)
set_option maxRecDepth 20000 in
theorem gX4_forget_X4_within : GoodIn wsX4_forget (va_wsS RX4 56 yX4_within wsX4_within) := goodIn_app (goodIn_of _ (by decide +kernel)) ggX4_forget_X4_within
theorem dX4_forget_0 : decode cX4_forget 0 = .ok (.iload_n 1, 1) := by decide +kernel
theorem dX4_forget_1 : decode cX4_forget 1 = .ok (.iconst 0, 1) := by decide +kernel
theorem dX4_forget_2 : decode cX4_forget 2 = .ok (.aload_n 0, 1) := by decide +kernel
theorem dX4_forget_3 : decode cX4_forget 3 = .ok (.getfield 37, 3) := by decide +kernel
theorem dX4_forget_6 : decode cX4_forget 6 = .ok (.getfield 81, 3) := by decide +kernel
theorem dX4_forget_9 : decode cX4_forget 9 = .ok (.invokestatic 56, 3) := by decide +kernel
theorem dX4_forget_12 : decode cX4_forget 12 = .ok (.ifCond .ne 5, 3) := by decide +kernel
theorem dX4_forget_15 : decode cX4_forget 15 = .ok (.iconst (-1), 1) := by decide +kernel
theorem dX4_forget_16 : decode cX4_forget 16 = .ok (.ireturn, 1) := by decide +kernel
theorem dX4_forget_17 : decode cX4_forget 17 = .ok (.aload_n 0, 1) := by decide +kernel
theorem dX4_forget_18 : decode cX4_forget 18 = .ok (.getfield 37, 3) := by decide +kernel
theorem dX4_forget_21 : decode cX4_forget 21 = .ok (.getfield 81, 3) := by decide +kernel
theorem dX4_forget_24 : decode cX4_forget 24 = .ok (.istore_n 2, 1) := by decide +kernel
theorem dX4_forget_25 : decode cX4_forget 25 = .ok (.aload_n 0, 1) := by decide +kernel
theorem dX4_forget_26 : decode cX4_forget 26 = .ok (.getfield 37, 3) := by decide +kernel
theorem dX4_forget_29 : decode cX4_forget 29 = .ok (.iload_n 1, 1) := by decide +kernel
theorem dX4_forget_30 : decode cX4_forget 30 = .ok (.putfield 81, 3) := by decide +kernel
theorem dX4_forget_33 : decode cX4_forget 33 = .ok (.iload_n 2, 1) := by decide +kernel
theorem dX4_forget_34 : decode cX4_forget 34 = .ok (.ireturn, 1) := by decide +kernel
set_option maxRecDepth 20000 in
theorem ggX4_kinds_X4_isArm : GoodIn wsX4_kinds wsX4_isArm := goodIn_r _ [5, 6, 7, 8, 9, 4, 10, 104, 105, 106, 107, 108, 109, 110, 111, 112, 113, 114, 115, 116, 117, 118, 119, 120, 121, 122, 123, 124] (by decide +kernel) (by decide +kernel)
set_option maxRecDepth 20000 in
theorem gX4_kinds_X4_isArm : GoodIn wsX4_kinds (wsV RX4 107 RX4 yX4_isArm wsX4_isArm) := goodIn_app (goodIn_of _ (by decide +kernel)) ggX4_kinds_X4_isArm
set_option maxRecDepth 20000 in
theorem ggX4_kinds_X4_settingsAsSeen : GoodIn wsX4_kinds wsX4_settingsAsSeen := goodIn_r _ [14, 15, 6, 16, 17, 18, 4, 19, 20, 21, 22, 23, 24, 25, 26, 27, 28, 29, 30, 31, 32, 33, 34, 35, 36, 37, 38, 39, 40, 41, 42, 43, 44, 45, 46, 47, 48, 49, 50, 51, 52, 53, 54, 55, 56, 57, 58, 59, 60, 61, 62, 63, 64, 65, 66, 67, 68, 69, 70, 71, 72, 73, 74, 75, 76, 77, 78, 79, 80, 81, 82, 83, 84, 85, 86, 87, 88, 89, 90, 91, 92, 93, 94, 95, 96, 97, 98, 99, 100, 101, 102, 103, 104, 105, 106, 107, 108, 109, 110, 111, 112, 113, 114, 115, 116, 117, 118, 119, 120, 121, 122, 123, 124, 125, 126, 127, 128] (by decide +kernel) (by decide +kernel)
set_option maxRecDepth 20000 in
theorem gX4_kinds_X4_settingsAsSeen : GoodIn wsX4_kinds (wsV RX4 229 RX4 yX4_settingsAsSeen wsX4_settingsAsSeen) := goodIn_app (goodIn_of _ (by decide +kernel)) ggX4_kinds_X4_settingsAsSeen
theorem dX4_kinds_0 : decode cX4_kinds 0 = .ok (.aload_n 0, 1) := by decide +kernel
theorem dX4_kinds_1 : decode cX4_kinds 1 = .ok (.iload_n 1, 1) := by decide +kernel
theorem dX4_kinds_2 : decode cX4_kinds 2 = .ok (.invokevirtual 107, 3) := by decide +kernel
theorem dX4_kinds_5 : decode cX4_kinds 5 = .ok (.ifCond .eq 12, 3) := by decide +kernel
theorem dX4_kinds_8 : decode cX4_kinds 8 = .ok (.aload_n 0, 1) := by decide +kernel
theorem dX4_kinds_9 : decode cX4_kinds 9 = .ok (.iload_n 1, 1) := by decide +kernel
theorem dX4_kinds_10 : decode cX4_kinds 10 = .ok (.iconst 0, 1) := by decide +kernel
theorem dX4_kinds_11 : decode cX4_kinds 11 = .ok (.invokevirtual 229, 3) := by decide +kernel
theorem dX4_kinds_14 : decode cX4_kinds 14 = .ok (.goto 4, 3) := by decide +kernel
theorem dX4_kinds_17 : decode cX4_kinds 17 = .ok (.iconst (-1), 1) := by decide +kernel
theorem dX4_kinds_18 : decode cX4_kinds 18 = .ok (.ireturn, 1) := by decide +kernel
set_option maxRecDepth 20000 in
theorem ggX4_slacks_X4_isArm : GoodIn wsX4_slacks wsX4_isArm := goodIn_r _ [5, 6, 7, 8, 9, 4, 10, 104, 105, 106, 107, 108, 109, 110, 111, 112, 113, 114, 115, 116, 117, 118, 119, 120, 121, 122, 123, 124] (by decide +kernel) (by decide +kernel)
set_option maxRecDepth 20000 in
theorem gX4_slacks_X4_isArm : GoodIn wsX4_slacks (wsV RX4 107 RX4 yX4_isArm wsX4_isArm) := goodIn_app (goodIn_of _ (by decide +kernel)) ggX4_slacks_X4_isArm
set_option maxRecDepth 20000 in
theorem ggX4_slacks_X4_settingsAsSeen : GoodIn wsX4_slacks wsX4_settingsAsSeen := goodIn_r _ [14, 15, 6, 16, 17, 18, 4, 19, 20, 21, 22, 23, 24, 25, 26, 27, 28, 29, 30, 31, 32, 33, 34, 35, 36, 37, 38, 39, 40, 41, 42, 43, 44, 45, 46, 47, 48, 49, 50, 51, 52, 53, 54, 55, 56, 57, 58, 59, 60, 61, 62, 63, 64, 65, 66, 67, 68, 69, 70, 71, 72, 73, 74, 75, 76, 77, 78, 79, 80, 81, 82, 83, 84, 85, 86, 87, 88, 89, 90, 91, 92, 93, 94, 95, 96, 97, 98, 99, 100, 101, 102, 103, 104, 105, 106, 107, 108, 109, 110, 111, 112, 113, 114, 115, 116, 117, 118, 119, 120, 121, 122, 123, 124, 125, 126, 127, 128] (by decide +kernel) (by decide +kernel)
set_option maxRecDepth 20000 in
theorem gX4_slacks_X4_settingsAsSeen : GoodIn wsX4_slacks (wsV RX4 229 RX4 yX4_settingsAsSeen wsX4_settingsAsSeen) := goodIn_app (goodIn_of _ (by decide +kernel)) ggX4_slacks_X4_settingsAsSeen
theorem dX4_slacks_0 : decode cX4_slacks 0 = .ok (.aload_n 0, 1) := by decide +kernel
theorem dX4_slacks_1 : decode cX4_slacks 1 = .ok (.iload_n 1, 1) := by decide +kernel
theorem dX4_slacks_2 : decode cX4_slacks 2 = .ok (.invokevirtual 107, 3) := by decide +kernel
theorem dX4_slacks_5 : decode cX4_slacks 5 = .ok (.ifCond .eq 12, 3) := by decide +kernel
theorem dX4_slacks_8 : decode cX4_slacks 8 = .ok (.aload_n 0, 1) := by decide +kernel
theorem dX4_slacks_9 : decode cX4_slacks 9 = .ok (.iload_n 1, 1) := by decide +kernel
theorem dX4_slacks_10 : decode cX4_slacks 10 = .ok (.iconst 1, 1) := by decide +kernel
theorem dX4_slacks_11 : decode cX4_slacks 11 = .ok (.invokevirtual 229, 3) := by decide +kernel
theorem dX4_slacks_14 : decode cX4_slacks 14 = .ok (.goto 4, 3) := by decide +kernel
theorem dX4_slacks_17 : decode cX4_slacks 17 = .ok (.iconst (-1), 1) := by decide +kernel
theorem dX4_slacks_18 : decode cX4_slacks 18 = .ok (.ireturn, 1) := by decide +kernel
set_option maxRecDepth 20000 in
theorem ggX4_ask_X4_isArm : GoodIn wsX4_ask wsX4_isArm := goodIn_r _ [5, 6, 7, 8, 9, 4, 10, 131, 132, 133, 134, 135, 136, 137, 138, 139, 140, 141, 142, 143, 144, 145, 146, 147, 148, 149, 150, 151] (by decide +kernel) (by decide +kernel)
set_option maxRecDepth 20000 in
theorem gX4_ask_X4_isArm : GoodIn wsX4_ask (wsV RX4 107 RX4 yX4_isArm wsX4_isArm) := goodIn_app (goodIn_of _ (by decide +kernel)) ggX4_ask_X4_isArm
set_option maxRecDepth 20000 in
theorem ggX4_ask_X4_isFirstOrSecond : GoodIn wsX4_ask wsX4_isFirstOrSecond := goodIn_r _ [13, 8, 9, 4, 10] (by decide +kernel) (by decide +kernel)
set_option maxRecDepth 20000 in
theorem gX4_ask_X4_isFirstOrSecond : GoodIn wsX4_ask (va_wsS RX4 199 yX4_isFirstOrSecond wsX4_isFirstOrSecond) := goodIn_app (goodIn_of _ (by decide +kernel)) ggX4_ask_X4_isFirstOrSecond
set_option maxRecDepth 20000 in
theorem ggX4_ask_X4_settingsAsSeen : GoodIn wsX4_ask wsX4_settingsAsSeen := goodIn_r _ [17, 18, 6, 19, 20, 21, 4, 22, 23, 24, 25, 26, 27, 28, 29, 30, 31, 32, 33, 34, 35, 36, 37, 38, 39, 40, 41, 42, 43, 44, 45, 46, 47, 48, 49, 50, 51, 52, 53, 54, 55, 56, 57, 58, 59, 60, 61, 62, 63, 64, 65, 66, 67, 68, 69, 70, 71, 72, 73, 74, 75, 76, 77, 78, 79, 80, 81, 82, 83, 84, 85, 86, 87, 88, 89, 90, 91, 92, 93, 94, 95, 96, 97, 98, 99, 100, 101, 102, 103, 104, 105, 106, 131, 132, 133, 134, 135, 136, 137, 138, 139, 140, 141, 142, 143, 144, 145, 146, 147, 148, 149, 150, 151, 152, 153, 154, 155] (by decide +kernel) (by decide +kernel)
set_option maxRecDepth 20000 in
theorem gX4_ask_X4_settingsAsSeen : GoodIn wsX4_ask (wsV RX4 229 RX4 yX4_settingsAsSeen wsX4_settingsAsSeen) := goodIn_app (goodIn_of _ (by decide +kernel)) ggX4_ask_X4_settingsAsSeen
set_option maxRecDepth 20000 in
theorem ggX4_ask_X4_lookAhead : GoodIn wsX4_ask wsX4_lookAhead := goodIn_r _ [110, 18, 6, 111, 23, 24, 25, 26, 27, 28, 29, 30, 31, 32, 33, 34, 35, 36, 37, 38, 39, 40, 41, 42, 43, 44, 45, 46, 47, 112, 113, 4, 114, 115, 116, 117, 118, 119, 64, 65, 66, 67, 68, 69, 70, 71, 72, 73, 74, 75, 76, 77, 78, 79, 80, 81, 82, 83, 84, 85, 86, 61, 87, 88, 89, 90, 91, 92, 93, 94, 95, 96, 97, 98, 131, 132, 133, 134, 135, 136, 137, 138, 139, 140, 141, 142, 143, 144, 145, 146, 147, 148, 149, 150, 151] (by decide +kernel) (by decide +kernel)
set_option maxRecDepth 20000 in
theorem gX4_ask_X4_lookAhead : GoodIn wsX4_ask (wsV RX4 232 RX4 yX4_lookAhead wsX4_lookAhead) := goodIn_app (goodIn_of _ (by decide +kernel)) ggX4_ask_X4_lookAhead
set_option maxRecDepth 20000 in
theorem ggX4_ask_J6_bitCount_0f7a4 : GoodIn wsX4_ask wsJ6_bitCount_0f7a4 := goodIn_r _ [122, 123, 124, 125] (by decide +kernel) (by decide +kernel)
set_option maxRecDepth 20000 in
theorem gX4_ask_J6_bitCount_0f7a4 : GoodIn wsX4_ask (va_wsS RX4 235 yJ6_bitCount_0f7a4 wsJ6_bitCount_0f7a4) := goodIn_app (goodIn_of _ (by decide +kernel)) ggX4_ask_J6_bitCount_0f7a4
set_option maxRecDepth 20000 in
theorem ggX4_ask_X4_mostAlikeBehind : GoodIn wsX4_ask wsX4_mostAlikeBehind := goodIn_r _ [129, 111, 130, 60, 61, 62, 112, 113, 4, 114, 131, 132, 133, 134, 135, 136, 137, 138, 139] (by decide +kernel) (by decide +kernel)
set_option maxRecDepth 20000 in
theorem gX4_ask_X4_mostAlikeBehind : GoodIn wsX4_ask (wsV RX4 238 RX4 yX4_mostAlikeBehind wsX4_mostAlikeBehind) := goodIn_app (goodIn_of _ (by decide +kernel)) ggX4_ask_X4_mostAlikeBehind
theorem dX4_ask_0 : decode cX4_ask 0 = .ok (.aload_n 0, 1) := by decide +kernel
theorem dX4_ask_1 : decode cX4_ask 1 = .ok (.iload_n 1, 1) := by decide +kernel
theorem dX4_ask_2 : decode cX4_ask 2 = .ok (.invokevirtual 107, 3) := by decide +kernel
theorem dX4_ask_5 : decode cX4_ask 5 = .ok (.ifCond .eq 10, 3) := by decide +kernel
theorem dX4_ask_8 : decode cX4_ask 8 = .ok (.iload_n 2, 1) := by decide +kernel
theorem dX4_ask_9 : decode cX4_ask 9 = .ok (.invokestatic 199, 3) := by decide +kernel
theorem dX4_ask_12 : decode cX4_ask 12 = .ok (.ifCond .ne 5, 3) := by decide +kernel
theorem dX4_ask_15 : decode cX4_ask 15 = .ok (.iconst (-1), 1) := by decide +kernel
theorem dX4_ask_16 : decode cX4_ask 16 = .ok (.ireturn, 1) := by decide +kernel
theorem dX4_ask_17 : decode cX4_ask 17 = .ok (.aload_n 0, 1) := by decide +kernel
theorem dX4_ask_18 : decode cX4_ask 18 = .ok (.iload_n 1, 1) := by decide +kernel
theorem dX4_ask_19 : decode cX4_ask 19 = .ok (.iconst 1, 1) := by decide +kernel
theorem dX4_ask_20 : decode cX4_ask 20 = .ok (.invokevirtual 229, 3) := by decide +kernel
theorem dX4_ask_23 : decode cX4_ask 23 = .ok (.istore_n 3, 1) := by decide +kernel
theorem dX4_ask_24 : decode cX4_ask 24 = .ok (.aload_n 0, 1) := by decide +kernel
theorem dX4_ask_25 : decode cX4_ask 25 = .ok (.iload_n 1, 1) := by decide +kernel
theorem dX4_ask_26 : decode cX4_ask 26 = .ok (.iload_n 3, 1) := by decide +kernel
theorem dX4_ask_27 : decode cX4_ask 27 = .ok (.invokevirtual 232, 3) := by decide +kernel
theorem dX4_ask_30 : decode cX4_ask 30 = .ok (.iload_n 3, 1) := by decide +kernel
theorem dX4_ask_31 : decode cX4_ask 31 = .ok (.invokestatic 235, 3) := by decide +kernel
theorem dX4_ask_34 : decode cX4_ask 34 = .ok (.istore 4, 2) := by decide +kernel
theorem dX4_ask_36 : decode cX4_ask 36 = .ok (.bipush (-4), 2) := by decide +kernel
theorem dX4_ask_38 : decode cX4_ask 38 = .ok (.istore 5, 2) := by decide +kernel
theorem dX4_ask_40 : decode cX4_ask 40 = .ok (.iconst 0, 1) := by decide +kernel
theorem dX4_ask_41 : decode cX4_ask 41 = .ok (.istore 6, 2) := by decide +kernel
theorem dX4_ask_43 : decode cX4_ask 43 = .ok (.iload 6, 2) := by decide +kernel
theorem dX4_ask_45 : decode cX4_ask 45 = .ok (.bipush 40, 2) := by decide +kernel
theorem dX4_ask_47 : decode cX4_ask 47 = .ok (.if_icmp .gt 33, 3) := by decide +kernel
theorem dX4_ask_50 : decode cX4_ask 50 = .ok (.aload_n 0, 1) := by decide +kernel
theorem dX4_ask_51 : decode cX4_ask 51 = .ok (.iload 6, 2) := by decide +kernel
theorem dX4_ask_53 : decode cX4_ask 53 = .ok (.iload_n 3, 1) := by decide +kernel
theorem dX4_ask_54 : decode cX4_ask 54 = .ok (.invokevirtual 238, 3) := by decide +kernel
theorem dX4_ask_57 : decode cX4_ask 57 = .ok (.istore 7, 2) := by decide +kernel
theorem dX4_ask_59 : decode cX4_ask 59 = .ok (.iload 7, 2) := by decide +kernel
theorem dX4_ask_61 : decode cX4_ask 61 = .ok (.iload 4, 2) := by decide +kernel
theorem dX4_ask_63 : decode cX4_ask 63 = .ok (.if_icmp .ge 11, 3) := by decide +kernel
theorem dX4_ask_66 : decode cX4_ask 66 = .ok (.iload 7, 2) := by decide +kernel
theorem dX4_ask_68 : decode cX4_ask 68 = .ok (.istore 4, 2) := by decide +kernel
theorem dX4_ask_70 : decode cX4_ask 70 = .ok (.iload 6, 2) := by decide +kernel
theorem dX4_ask_72 : decode cX4_ask 72 = .ok (.istore 5, 2) := by decide +kernel
theorem dX4_ask_74 : decode cX4_ask 74 = .ok (.iinc 6 1, 3) := by decide +kernel
theorem dX4_ask_77 : decode cX4_ask 77 = .ok (.goto (-34), 3) := by decide +kernel
theorem dX4_ask_80 : decode cX4_ask 80 = .ok (.iload_n 2, 1) := by decide +kernel
theorem dX4_ask_81 : decode cX4_ask 81 = .ok (.ifCond .eq 10, 3) := by decide +kernel
theorem dX4_ask_84 : decode cX4_ask 84 = .ok (.iload 5, 2) := by decide +kernel
theorem dX4_ask_86 : decode cX4_ask 86 = .ok (.bipush (-4), 2) := by decide +kernel
theorem dX4_ask_88 : decode cX4_ask 88 = .ok (.if_icmp .ne 8, 3) := by decide +kernel
theorem dX4_ask_91 : decode cX4_ask 91 = .ok (.iload 5, 2) := by decide +kernel
theorem dX4_ask_93 : decode cX4_ask 93 = .ok (.goto 5, 3) := by decide +kernel
theorem dX4_ask_96 : decode cX4_ask 96 = .ok (.iload 4, 2) := by decide +kernel
theorem dX4_ask_98 : decode cX4_ask 98 = .ok (.ireturn, 1) := by decide +kernel
set_option maxRecDepth 20000 in
theorem ggX4_drift_X4_within : GoodIn wsX4_drift wsX4_within := goodIn_r _ [9] (by decide +kernel) (by decide +kernel)
set_option maxRecDepth 20000 in
theorem gX4_drift_X4_within : GoodIn wsX4_drift (va_wsS RX4 56 yX4_within wsX4_within) := goodIn_app (goodIn_of _ (by decide +kernel)) ggX4_drift_X4_within
set_option maxRecDepth 20000 in
theorem ggX4_drift_X4_isFirstOrSecond : GoodIn wsX4_drift wsX4_isFirstOrSecond := goodIn_r _ [12, 6, 7, 8, 9] (by decide +kernel) (by decide +kernel)
set_option maxRecDepth 20000 in
theorem gX4_drift_X4_isFirstOrSecond : GoodIn wsX4_drift (va_wsS RX4 199 yX4_isFirstOrSecond wsX4_isFirstOrSecond) := goodIn_app (goodIn_of _ (by decide +kernel)) ggX4_drift_X4_isFirstOrSecond
set_option maxRecDepth 20000 in
theorem ggX4_drift_X0_copyFrom : GoodIn wsX4_drift wsX0_copyFrom := goodIn_r _ [17, 18, 19, 20, 21, 22, 23, 24, 25, 26, 27, 28, 29, 30, 16, 31, 32, 33, 80, 81, 82, 83, 84, 85, 86, 87, 88, 89, 90, 91] (by decide +kernel) (by decide +kernel)
set_option maxRecDepth 20000 in
theorem gX4_drift_X0_copyFrom : GoodIn wsX4_drift (wsV RX4 77 RX0 yX0_copyFrom wsX0_copyFrom) := goodIn_app (goodIn_of _ (by decide +kernel)) ggX4_drift_X0_copyFrom
set_option maxRecDepth 20000 in
theorem ggX4_drift_X0_moveHand : GoodIn wsX4_drift wsX0_moveHand := goodIn_r _ [37, 20, 18, 24, 22, 38, 39, 40, 16, 41, 23, 25, 42, 43, 44, 45, 46, 47, 48, 49, 50, 51, 52, 53, 54, 55, 56, 57, 58, 59, 26, 33, 60, 61, 62, 32, 80, 81, 82, 83, 84, 85, 86, 87, 88, 89, 90, 91] (by decide +kernel) (by decide +kernel)
set_option maxRecDepth 20000 in
theorem gX4_drift_X0_moveHand : GoodIn wsX4_drift (wsV RX4 153 RX0 yX0_moveHand wsX0_moveHand) := goodIn_app (goodIn_of _ (by decide +kernel)) ggX4_drift_X0_moveHand
set_option maxRecDepth 20000 in
theorem ggX4_drift_X0_error : GoodIn wsX4_drift wsX0_error := goodIn_r _ [66, 20, 48, 49, 50, 51, 67, 68, 69, 16, 70, 18, 24, 80, 81, 82, 83, 84, 85, 86, 87, 88, 89, 90, 91] (by decide +kernel) (by decide +kernel)
set_option maxRecDepth 20000 in
theorem gX4_drift_X0_error : GoodIn wsX4_drift (wsV RX4 97 RX0 yX0_error wsX0_error) := goodIn_app (goodIn_of _ (by decide +kernel)) ggX4_drift_X0_error
theorem dX4_drift_0 : decode cX4_drift 0 = .ok (.iload_n 2, 1) := by decide +kernel
theorem dX4_drift_1 : decode cX4_drift 1 = .ok (.iconst 1, 1) := by decide +kernel
theorem dX4_drift_2 : decode cX4_drift 2 = .ok (.sipush 200, 3) := by decide +kernel
theorem dX4_drift_5 : decode cX4_drift 5 = .ok (.invokestatic 56, 3) := by decide +kernel
theorem dX4_drift_8 : decode cX4_drift 8 = .ok (.ifCond .eq 10, 3) := by decide +kernel
theorem dX4_drift_11 : decode cX4_drift 11 = .ok (.iload_n 3, 1) := by decide +kernel
theorem dX4_drift_12 : decode cX4_drift 12 = .ok (.invokestatic 199, 3) := by decide +kernel
theorem dX4_drift_15 : decode cX4_drift 15 = .ok (.ifCond .ne 5, 3) := by decide +kernel
theorem dX4_drift_18 : decode cX4_drift 18 = .ok (.iconst (-1), 1) := by decide +kernel
theorem dX4_drift_19 : decode cX4_drift 19 = .ok (.ireturn, 1) := by decide +kernel
theorem dX4_drift_20 : decode cX4_drift 20 = .ok (.aload_n 0, 1) := by decide +kernel
theorem dX4_drift_21 : decode cX4_drift 21 = .ok (.getfield 10, 3) := by decide +kernel
theorem dX4_drift_24 : decode cX4_drift 24 = .ok (.getfield 84, 3) := by decide +kernel
theorem dX4_drift_27 : decode cX4_drift 27 = .ok (.ifCond .ne 6, 3) := by decide +kernel
theorem dX4_drift_30 : decode cX4_drift 30 = .ok (.bipush (-2), 2) := by decide +kernel
theorem dX4_drift_32 : decode cX4_drift 32 = .ok (.ireturn, 1) := by decide +kernel
theorem dX4_drift_33 : decode cX4_drift 33 = .ok (.aload_n 0, 1) := by decide +kernel
theorem dX4_drift_34 : decode cX4_drift 34 = .ok (.getfield 16, 3) := by decide +kernel
theorem dX4_drift_37 : decode cX4_drift 37 = .ok (.aload_n 0, 1) := by decide +kernel
theorem dX4_drift_38 : decode cX4_drift 38 = .ok (.getfield 10, 3) := by decide +kernel
theorem dX4_drift_41 : decode cX4_drift 41 = .ok (.invokevirtual 77, 3) := by decide +kernel
theorem dX4_drift_44 : decode cX4_drift 44 = .ok (.iload_n 1, 1) := by decide +kernel
theorem dX4_drift_45 : decode cX4_drift 45 = .ok (.istore 4, 2) := by decide +kernel
theorem dX4_drift_47 : decode cX4_drift 47 = .ok (.iconst 0, 1) := by decide +kernel
theorem dX4_drift_48 : decode cX4_drift 48 = .ok (.istore 5, 2) := by decide +kernel
theorem dX4_drift_50 : decode cX4_drift 50 = .ok (.iload 5, 2) := by decide +kernel
theorem dX4_drift_52 : decode cX4_drift 52 = .ok (.iload_n 2, 1) := by decide +kernel
theorem dX4_drift_53 : decode cX4_drift 53 = .ok (.if_icmp .ge 46, 3) := by decide +kernel
theorem dX4_drift_56 : decode cX4_drift 56 = .ok (.iload 4, 2) := by decide +kernel
theorem dX4_drift_58 : decode cX4_drift 58 = .ok (.ldc 241, 2) := by decide +kernel
theorem dX4_drift_60 : decode cX4_drift 60 = .ok (.imul, 1) := by decide +kernel
theorem dX4_drift_61 : decode cX4_drift 61 = .ok (.sipush 12345, 3) := by decide +kernel
theorem dX4_drift_64 : decode cX4_drift 64 = .ok (.iadd, 1) := by decide +kernel
theorem dX4_drift_65 : decode cX4_drift 65 = .ok (.istore 4, 2) := by decide +kernel
theorem dX4_drift_67 : decode cX4_drift 67 = .ok (.iload 4, 2) := by decide +kernel
theorem dX4_drift_69 : decode cX4_drift 69 = .ok (.bipush 16, 2) := by decide +kernel
theorem dX4_drift_71 : decode cX4_drift 71 = .ok (.iushr, 1) := by decide +kernel
theorem dX4_drift_72 : decode cX4_drift 72 = .ok (.sipush 32767, 3) := by decide +kernel
theorem dX4_drift_75 : decode cX4_drift 75 = .ok (.iand, 1) := by decide +kernel
theorem dX4_drift_76 : decode cX4_drift 76 = .ok (.istore 6, 2) := by decide +kernel
theorem dX4_drift_78 : decode cX4_drift 78 = .ok (.aload_n 0, 1) := by decide +kernel
theorem dX4_drift_79 : decode cX4_drift 79 = .ok (.getfield 16, 3) := by decide +kernel
theorem dX4_drift_82 : decode cX4_drift 82 = .ok (.iload 6, 2) := by decide +kernel
theorem dX4_drift_84 : decode cX4_drift 84 = .ok (.bipush 19, 2) := by decide +kernel
theorem dX4_drift_86 : decode cX4_drift 86 = .ok (.irem, 1) := by decide +kernel
theorem dX4_drift_87 : decode cX4_drift 87 = .ok (.bipush 9, 2) := by decide +kernel
theorem dX4_drift_89 : decode cX4_drift 89 = .ok (.isub, 1) := by decide +kernel
theorem dX4_drift_90 : decode cX4_drift 90 = .ok (.invokevirtual 153, 3) := by decide +kernel
theorem dX4_drift_93 : decode cX4_drift 93 = .ok (.iinc 5 1, 3) := by decide +kernel
theorem dX4_drift_96 : decode cX4_drift 96 = .ok (.goto (-46), 3) := by decide +kernel
theorem dX4_drift_99 : decode cX4_drift 99 = .ok (.iload_n 3, 1) := by decide +kernel
theorem dX4_drift_100 : decode cX4_drift 100 = .ok (.ifCond .ne 13, 3) := by decide +kernel
theorem dX4_drift_103 : decode cX4_drift 103 = .ok (.aload_n 0, 1) := by decide +kernel
theorem dX4_drift_104 : decode cX4_drift 104 = .ok (.getfield 16, 3) := by decide +kernel
theorem dX4_drift_107 : decode cX4_drift 107 = .ok (.invokevirtual 97, 3) := by decide +kernel
theorem dX4_drift_110 : decode cX4_drift 110 = .ok (.goto 10, 3) := by decide +kernel
theorem dX4_drift_113 : decode cX4_drift 113 = .ok (.aload_n 0, 1) := by decide +kernel
theorem dX4_drift_114 : decode cX4_drift 114 = .ok (.getfield 16, 3) := by decide +kernel
theorem dX4_drift_117 : decode cX4_drift 117 = .ok (.getfield 163, 3) := by decide +kernel
theorem dX4_drift_120 : decode cX4_drift 120 = .ok (.ireturn, 1) := by decide +kernel
set_option maxRecDepth 20000 in
theorem ggX4_keep_X4_within : GoodIn wsX4_keep wsX4_within := goodIn_r _ [7] (by decide +kernel) (by decide +kernel)
set_option maxRecDepth 20000 in
theorem gX4_keep_X4_within : GoodIn wsX4_keep (va_wsS RX4 56 yX4_within wsX4_within) := goodIn_app (goodIn_of _ (by decide +kernel)) ggX4_keep_X4_within
set_option maxRecDepth 20000 in
theorem ggX4_keep_X0_copyFrom : GoodIn wsX4_keep wsX0_copyFrom := goodIn_r _ [12, 13, 14, 15, 16, 17, 18, 19, 20, 21, 22, 23, 24, 25, 11, 26, 27, 28, 38, 39, 40, 41, 42, 43, 44, 45, 46, 47, 48, 49] (by decide +kernel) (by decide +kernel)
set_option maxRecDepth 20000 in
theorem gX4_keep_X0_copyFrom : GoodIn wsX4_keep (wsV RX4 77 RX0 yX0_copyFrom wsX0_copyFrom) := goodIn_app (goodIn_of _ (by decide +kernel)) ggX4_keep_X0_copyFrom
theorem dX4_keep_0 : decode cX4_keep 0 = .ok (.iload_n 1, 1) := by decide +kernel
theorem dX4_keep_1 : decode cX4_keep 1 = .ok (.iconst 0, 1) := by decide +kernel
theorem dX4_keep_2 : decode cX4_keep 2 = .ok (.iconst 1, 1) := by decide +kernel
theorem dX4_keep_3 : decode cX4_keep 3 = .ok (.invokestatic 56, 3) := by decide +kernel
theorem dX4_keep_6 : decode cX4_keep 6 = .ok (.ifCond .ne 5, 3) := by decide +kernel
theorem dX4_keep_9 : decode cX4_keep 9 = .ok (.iconst (-1), 1) := by decide +kernel
theorem dX4_keep_10 : decode cX4_keep 10 = .ok (.ireturn, 1) := by decide +kernel
theorem dX4_keep_11 : decode cX4_keep 11 = .ok (.aload_n 0, 1) := by decide +kernel
theorem dX4_keep_12 : decode cX4_keep 12 = .ok (.getfield 23, 3) := by decide +kernel
theorem dX4_keep_15 : decode cX4_keep 15 = .ok (.iload_n 1, 1) := by decide +kernel
theorem dX4_keep_16 : decode cX4_keep 16 = .ok (.baload, 1) := by decide +kernel
theorem dX4_keep_17 : decode cX4_keep 17 = .ok (.ifCond .eq 7, 3) := by decide +kernel
theorem dX4_keep_20 : decode cX4_keep 20 = .ok (.iconst 1, 1) := by decide +kernel
theorem dX4_keep_21 : decode cX4_keep 21 = .ok (.goto 4, 3) := by decide +kernel
theorem dX4_keep_24 : decode cX4_keep 24 = .ok (.iconst 0, 1) := by decide +kernel
theorem dX4_keep_25 : decode cX4_keep 25 = .ok (.istore_n 2, 1) := by decide +kernel
theorem dX4_keep_26 : decode cX4_keep 26 = .ok (.aload_n 0, 1) := by decide +kernel
theorem dX4_keep_27 : decode cX4_keep 27 = .ok (.getfield 19, 3) := by decide +kernel
theorem dX4_keep_30 : decode cX4_keep 30 = .ok (.iload_n 1, 1) := by decide +kernel
theorem dX4_keep_31 : decode cX4_keep 31 = .ok (.aaload, 1) := by decide +kernel
theorem dX4_keep_32 : decode cX4_keep 32 = .ok (.aload_n 0, 1) := by decide +kernel
theorem dX4_keep_33 : decode cX4_keep 33 = .ok (.getfield 10, 3) := by decide +kernel
theorem dX4_keep_36 : decode cX4_keep 36 = .ok (.invokevirtual 77, 3) := by decide +kernel
theorem dX4_keep_39 : decode cX4_keep 39 = .ok (.aload_n 0, 1) := by decide +kernel
theorem dX4_keep_40 : decode cX4_keep 40 = .ok (.getfield 23, 3) := by decide +kernel
theorem dX4_keep_43 : decode cX4_keep 43 = .ok (.iload_n 1, 1) := by decide +kernel
theorem dX4_keep_44 : decode cX4_keep 44 = .ok (.iconst 1, 1) := by decide +kernel
theorem dX4_keep_45 : decode cX4_keep 45 = .ok (.bastore, 1) := by decide +kernel
theorem dX4_keep_46 : decode cX4_keep 46 = .ok (.iload_n 2, 1) := by decide +kernel
theorem dX4_keep_47 : decode cX4_keep 47 = .ok (.ireturn, 1) := by decide +kernel
set_option maxRecDepth 20000 in
theorem ggX4_back_X4_within : GoodIn wsX4_back wsX4_within := goodIn_r _ [8] (by decide +kernel) (by decide +kernel)
set_option maxRecDepth 20000 in
theorem gX4_back_X4_within : GoodIn wsX4_back (va_wsS RX4 56 yX4_within wsX4_within) := goodIn_app (goodIn_of _ (by decide +kernel)) ggX4_back_X4_within
set_option maxRecDepth 20000 in
theorem ggX4_back_X0_copyFrom : GoodIn wsX4_back wsX0_copyFrom := goodIn_r _ [13, 14, 15, 16, 17, 18, 19, 20, 21, 22, 23, 24, 25, 26, 12, 27, 28, 29, 39, 40, 41, 42, 43, 44, 45, 46, 47, 48, 49, 50] (by decide +kernel) (by decide +kernel)
set_option maxRecDepth 20000 in
theorem gX4_back_X0_copyFrom : GoodIn wsX4_back (wsV RX4 77 RX0 yX0_copyFrom wsX0_copyFrom) := goodIn_app (goodIn_of _ (by decide +kernel)) ggX4_back_X0_copyFrom
theorem dX4_back_0 : decode cX4_back 0 = .ok (.iload_n 1, 1) := by decide +kernel
theorem dX4_back_1 : decode cX4_back 1 = .ok (.iconst 0, 1) := by decide +kernel
theorem dX4_back_2 : decode cX4_back 2 = .ok (.iconst 1, 1) := by decide +kernel
theorem dX4_back_3 : decode cX4_back 3 = .ok (.invokestatic 56, 3) := by decide +kernel
theorem dX4_back_6 : decode cX4_back 6 = .ok (.ifCond .ne 5, 3) := by decide +kernel
theorem dX4_back_9 : decode cX4_back 9 = .ok (.iconst (-1), 1) := by decide +kernel
theorem dX4_back_10 : decode cX4_back 10 = .ok (.ireturn, 1) := by decide +kernel
theorem dX4_back_11 : decode cX4_back 11 = .ok (.aload_n 0, 1) := by decide +kernel
theorem dX4_back_12 : decode cX4_back 12 = .ok (.getfield 23, 3) := by decide +kernel
theorem dX4_back_15 : decode cX4_back 15 = .ok (.iload_n 1, 1) := by decide +kernel
theorem dX4_back_16 : decode cX4_back 16 = .ok (.baload, 1) := by decide +kernel
theorem dX4_back_17 : decode cX4_back 17 = .ok (.ifCond .ne 6, 3) := by decide +kernel
theorem dX4_back_20 : decode cX4_back 20 = .ok (.bipush (-2), 2) := by decide +kernel
theorem dX4_back_22 : decode cX4_back 22 = .ok (.ireturn, 1) := by decide +kernel
theorem dX4_back_23 : decode cX4_back 23 = .ok (.aload_n 0, 1) := by decide +kernel
theorem dX4_back_24 : decode cX4_back 24 = .ok (.getfield 10, 3) := by decide +kernel
theorem dX4_back_27 : decode cX4_back 27 = .ok (.aload_n 0, 1) := by decide +kernel
theorem dX4_back_28 : decode cX4_back 28 = .ok (.getfield 19, 3) := by decide +kernel
theorem dX4_back_31 : decode cX4_back 31 = .ok (.iload_n 1, 1) := by decide +kernel
theorem dX4_back_32 : decode cX4_back 32 = .ok (.aaload, 1) := by decide +kernel
theorem dX4_back_33 : decode cX4_back 33 = .ok (.invokevirtual 77, 3) := by decide +kernel
theorem dX4_back_36 : decode cX4_back 36 = .ok (.aload_n 0, 1) := by decide +kernel
theorem dX4_back_37 : decode cX4_back 37 = .ok (.getfield 10, 3) := by decide +kernel
theorem dX4_back_40 : decode cX4_back 40 = .ok (.getfield 90, 3) := by decide +kernel
theorem dX4_back_43 : decode cX4_back 43 = .ok (.ireturn, 1) := by decide +kernel
set_option maxRecDepth 20000 in
theorem ggX4_sheet_X4_isSheet : GoodIn wsX4_sheet wsX4_isSheet := goodIn_r _ [5, 6, 7, 4, 8] (by decide +kernel) (by decide +kernel)
set_option maxRecDepth 20000 in
theorem gX4_sheet_X4_isSheet : GoodIn wsX4_sheet (va_wsS RX4 242 yX4_isSheet wsX4_isSheet) := goodIn_app (goodIn_of _ (by decide +kernel)) ggX4_sheet_X4_isSheet
set_option maxRecDepth 20000 in
theorem ggX4_sheet_X4_within : GoodIn wsX4_sheet wsX4_within := goodIn_r _ [8] (by decide +kernel) (by decide +kernel)
set_option maxRecDepth 20000 in
theorem gX4_sheet_X4_within : GoodIn wsX4_sheet (va_wsS RX4 56 yX4_within wsX4_within) := goodIn_app (goodIn_of _ (by decide +kernel)) ggX4_sheet_X4_within
set_option maxRecDepth 20000 in
theorem ggX4_sheet_X1_renew : GoodIn wsX4_sheet wsX1_renew := goodIn_r _ [13, 14, 15, 16, 26, 27, 28] (by decide +kernel) (by decide +kernel)
set_option maxRecDepth 20000 in
theorem gX4_sheet_X1_renew : GoodIn wsX4_sheet (wsV RX4 245 RX1 yX1_renew wsX1_renew) := goodIn_app (goodIn_of _ (by decide +kernel)) ggX4_sheet_X1_renew
theorem dX4_sheet_0 : decode cX4_sheet 0 = .ok (.iload_n 1, 1) := by decide +kernel
theorem dX4_sheet_1 : decode cX4_sheet 1 = .ok (.invokestatic 242, 3) := by decide +kernel
theorem dX4_sheet_4 : decode cX4_sheet 4 = .ok (.ifCond .eq 18, 3) := by decide +kernel
theorem dX4_sheet_7 : decode cX4_sheet 7 = .ok (.iload_n 2, 1) := by decide +kernel
theorem dX4_sheet_8 : decode cX4_sheet 8 = .ok (.iconst 0, 1) := by decide +kernel
theorem dX4_sheet_9 : decode cX4_sheet 9 = .ok (.iconst 2, 1) := by decide +kernel
theorem dX4_sheet_10 : decode cX4_sheet 10 = .ok (.invokestatic 56, 3) := by decide +kernel
theorem dX4_sheet_13 : decode cX4_sheet 13 = .ok (.ifCond .eq 9, 3) := by decide +kernel
theorem dX4_sheet_16 : decode cX4_sheet 16 = .ok (.iload_n 3, 1) := by decide +kernel
theorem dX4_sheet_17 : decode cX4_sheet 17 = .ok (.bipush 40, 2) := by decide +kernel
theorem dX4_sheet_19 : decode cX4_sheet 19 = .ok (.if_icmp .le 5, 3) := by decide +kernel
theorem dX4_sheet_22 : decode cX4_sheet 22 = .ok (.iconst (-1), 1) := by decide +kernel
theorem dX4_sheet_23 : decode cX4_sheet 23 = .ok (.ireturn, 1) := by decide +kernel
theorem dX4_sheet_24 : decode cX4_sheet 24 = .ok (.iload_n 3, 1) := by decide +kernel
theorem dX4_sheet_25 : decode cX4_sheet 25 = .ok (.ifCond .ge 6, 3) := by decide +kernel
theorem dX4_sheet_28 : decode cX4_sheet 28 = .ok (.bipush (-14), 2) := by decide +kernel
theorem dX4_sheet_30 : decode cX4_sheet 30 = .ok (.ireturn, 1) := by decide +kernel
theorem dX4_sheet_31 : decode cX4_sheet 31 = .ok (.aload_n 0, 1) := by decide +kernel
theorem dX4_sheet_32 : decode cX4_sheet 32 = .ok (.getfield 43, 3) := by decide +kernel
theorem dX4_sheet_35 : decode cX4_sheet 35 = .ok (.iload_n 1, 1) := by decide +kernel
theorem dX4_sheet_36 : decode cX4_sheet 36 = .ok (.aaload, 1) := by decide +kernel
theorem dX4_sheet_37 : decode cX4_sheet 37 = .ok (.iload_n 2, 1) := by decide +kernel
theorem dX4_sheet_38 : decode cX4_sheet 38 = .ok (.iload_n 3, 1) := by decide +kernel
theorem dX4_sheet_39 : decode cX4_sheet 39 = .ok (.invokevirtual 245, 3) := by decide +kernel
theorem dX4_sheet_42 : decode cX4_sheet 42 = .ok (.iconst 1, 1) := by decide +kernel
theorem dX4_sheet_43 : decode cX4_sheet 43 = .ok (.ireturn, 1) := by decide +kernel
set_option maxRecDepth 20000 in
theorem ggX4_lay_X4_isSheet : GoodIn wsX4_lay wsX4_isSheet := goodIn_r _ [5, 6, 7, 4, 8] (by decide +kernel) (by decide +kernel)
set_option maxRecDepth 20000 in
theorem gX4_lay_X4_isSheet : GoodIn wsX4_lay (va_wsS RX4 242 yX4_isSheet wsX4_isSheet) := goodIn_app (goodIn_of _ (by decide +kernel)) ggX4_lay_X4_isSheet
set_option maxRecDepth 20000 in
theorem ggX4_lay_X1_faultAt : GoodIn wsX4_lay wsX1_faultAt := goodIn_r _ [13, 14, 7, 4, 8, 30, 31, 32] (by decide +kernel) (by decide +kernel)
set_option maxRecDepth 20000 in
theorem gX4_lay_X1_faultAt : GoodIn wsX4_lay (wsV RX4 248 RX1 yX1_faultAt wsX1_faultAt) := goodIn_app (goodIn_of _ (by decide +kernel)) ggX4_lay_X1_faultAt
set_option maxRecDepth 20000 in
theorem ggX4_lay_X1_put : GoodIn wsX4_lay wsX1_put := goodIn_r _ [18, 19, 20, 30, 31, 32] (by decide +kernel) (by decide +kernel)
set_option maxRecDepth 20000 in
theorem gX4_lay_X1_put : GoodIn wsX4_lay (wsV RX4 251 RX1 yX1_put wsX1_put) := goodIn_app (goodIn_of _ (by decide +kernel)) ggX4_lay_X1_put
theorem dX4_lay_0 : decode cX4_lay 0 = .ok (.iload_n 1, 1) := by decide +kernel
theorem dX4_lay_1 : decode cX4_lay 1 = .ok (.invokestatic 242, 3) := by decide +kernel
theorem dX4_lay_4 : decode cX4_lay 4 = .ok (.ifCond .ne 5, 3) := by decide +kernel
theorem dX4_lay_7 : decode cX4_lay 7 = .ok (.iconst (-1), 1) := by decide +kernel
theorem dX4_lay_8 : decode cX4_lay 8 = .ok (.ireturn, 1) := by decide +kernel
theorem dX4_lay_9 : decode cX4_lay 9 = .ok (.aload_n 0, 1) := by decide +kernel
theorem dX4_lay_10 : decode cX4_lay 10 = .ok (.getfield 43, 3) := by decide +kernel
theorem dX4_lay_13 : decode cX4_lay 13 = .ok (.iload_n 1, 1) := by decide +kernel
theorem dX4_lay_14 : decode cX4_lay 14 = .ok (.aaload, 1) := by decide +kernel
theorem dX4_lay_15 : decode cX4_lay 15 = .ok (.iload_n 2, 1) := by decide +kernel
theorem dX4_lay_16 : decode cX4_lay 16 = .ok (.invokevirtual 248, 3) := by decide +kernel
theorem dX4_lay_19 : decode cX4_lay 19 = .ok (.istore 4, 2) := by decide +kernel
theorem dX4_lay_21 : decode cX4_lay 21 = .ok (.iload 4, 2) := by decide +kernel
theorem dX4_lay_23 : decode cX4_lay 23 = .ok (.ifCond .eq 9, 3) := by decide +kernel
theorem dX4_lay_26 : decode cX4_lay 26 = .ok (.bipush (-10), 2) := by decide +kernel
theorem dX4_lay_28 : decode cX4_lay 28 = .ok (.iload 4, 2) := by decide +kernel
theorem dX4_lay_30 : decode cX4_lay 30 = .ok (.isub, 1) := by decide +kernel
theorem dX4_lay_31 : decode cX4_lay 31 = .ok (.ireturn, 1) := by decide +kernel
theorem dX4_lay_32 : decode cX4_lay 32 = .ok (.aload_n 0, 1) := by decide +kernel
theorem dX4_lay_33 : decode cX4_lay 33 = .ok (.getfield 43, 3) := by decide +kernel
theorem dX4_lay_36 : decode cX4_lay 36 = .ok (.iload_n 1, 1) := by decide +kernel
theorem dX4_lay_37 : decode cX4_lay 37 = .ok (.aaload, 1) := by decide +kernel
theorem dX4_lay_38 : decode cX4_lay 38 = .ok (.iload_n 2, 1) := by decide +kernel
theorem dX4_lay_39 : decode cX4_lay 39 = .ok (.iload_n 3, 1) := by decide +kernel
theorem dX4_lay_40 : decode cX4_lay 40 = .ok (.invokevirtual 251, 3) := by decide +kernel
theorem dX4_lay_43 : decode cX4_lay 43 = .ok (.iconst 1, 1) := by decide +kernel
theorem dX4_lay_44 : decode cX4_lay 44 = .ok (.ireturn, 1) := by decide +kernel
set_option maxRecDepth 20000 in
theorem ggX4_read_X4_isSheet : GoodIn wsX4_read wsX4_isSheet := goodIn_r _ [9, 10, 11, 8, 12] (by decide +kernel) (by decide +kernel)
set_option maxRecDepth 20000 in
theorem gX4_read_X4_isSheet : GoodIn wsX4_read (va_wsS RX4 242 yX4_isSheet wsX4_isSheet) := goodIn_app (goodIn_of _ (by decide +kernel)) ggX4_read_X4_isSheet
set_option maxRecDepth 20000 in
theorem ggX4_read_X4_within : GoodIn wsX4_read wsX4_within := goodIn_r _ [12] (by decide +kernel) (by decide +kernel)
set_option maxRecDepth 20000 in
theorem gX4_read_X4_within : GoodIn wsX4_read (va_wsS RX4 56 yX4_within wsX4_within) := goodIn_app (goodIn_of _ (by decide +kernel)) ggX4_read_X4_within
set_option maxRecDepth 20000 in
theorem ggX4_read_X1_faultTakenAs : GoodIn wsX4_read wsX1_faultTakenAs := goodIn_r _ [17, 18, 19, 20, 21, 22, 16, 23, 11, 8, 12, 55, 56, 57] (by decide +kernel) (by decide +kernel)
set_option maxRecDepth 20000 in
theorem gX4_read_X1_faultTakenAs : GoodIn wsX4_read (wsV RX4 254 RX1 yX1_faultTakenAs wsX1_faultTakenAs) := goodIn_app (goodIn_of _ (by decide +kernel)) ggX4_read_X1_faultTakenAs
set_option maxRecDepth 20000 in
theorem ggX4_read_X4_isShiftedStroke : GoodIn wsX4_read wsX4_isShiftedStroke := goodIn_r _ [26, 10, 11, 8, 12] (by decide +kernel) (by decide +kernel)
set_option maxRecDepth 20000 in
theorem gX4_read_X4_isShiftedStroke : GoodIn wsX4_read (va_wsS RX4 147 yX4_isShiftedStroke wsX4_isShiftedStroke) := goodIn_app (goodIn_of _ (by decide +kernel)) ggX4_read_X4_isShiftedStroke
set_option maxRecDepth 20000 in
theorem ggX4_read_X0_appendStroke : GoodIn wsX4_read wsX0_appendStroke := goodIn_r _ [31, 32, 33, 43, 44, 45, 46, 47, 48, 49, 50, 51, 52, 53, 54] (by decide +kernel) (by decide +kernel)
set_option maxRecDepth 20000 in
theorem gX4_read_X0_appendStroke : GoodIn wsX4_read (wsV RX4 150 RX0 yX0_appendStroke wsX0_appendStroke) := goodIn_app (goodIn_of _ (by decide +kernel)) ggX4_read_X0_appendStroke
theorem dX4_read_0 : decode cX4_read 0 = .ok (.iload_n 1, 1) := by decide +kernel
theorem dX4_read_1 : decode cX4_read 1 = .ok (.invokestatic 242, 3) := by decide +kernel
theorem dX4_read_4 : decode cX4_read 4 = .ok (.ifCond .eq 23, 3) := by decide +kernel
theorem dX4_read_7 : decode cX4_read 7 = .ok (.iload_n 2, 1) := by decide +kernel
theorem dX4_read_8 : decode cX4_read 8 = .ok (.iconst 0, 1) := by decide +kernel
theorem dX4_read_9 : decode cX4_read 9 = .ok (.iconst 2, 1) := by decide +kernel
theorem dX4_read_10 : decode cX4_read 10 = .ok (.invokestatic 56, 3) := by decide +kernel
theorem dX4_read_13 : decode cX4_read 13 = .ok (.ifCond .eq 14, 3) := by decide +kernel
theorem dX4_read_16 : decode cX4_read 16 = .ok (.iload 4, 2) := by decide +kernel
theorem dX4_read_18 : decode cX4_read 18 = .ok (.iconst 0, 1) := by decide +kernel
theorem dX4_read_19 : decode cX4_read 19 = .ok (.bipush 40, 2) := by decide +kernel
theorem dX4_read_21 : decode cX4_read 21 = .ok (.invokestatic 56, 3) := by decide +kernel
theorem dX4_read_24 : decode cX4_read 24 = .ok (.ifCond .ne 5, 3) := by decide +kernel
theorem dX4_read_27 : decode cX4_read 27 = .ok (.iconst (-1), 1) := by decide +kernel
theorem dX4_read_28 : decode cX4_read 28 = .ok (.ireturn, 1) := by decide +kernel
theorem dX4_read_29 : decode cX4_read 29 = .ok (.aload_n 0, 1) := by decide +kernel
theorem dX4_read_30 : decode cX4_read 30 = .ok (.getfield 43, 3) := by decide +kernel
theorem dX4_read_33 : decode cX4_read 33 = .ok (.iload_n 1, 1) := by decide +kernel
theorem dX4_read_34 : decode cX4_read 34 = .ok (.aaload, 1) := by decide +kernel
theorem dX4_read_35 : decode cX4_read 35 = .ok (.astore 5, 2) := by decide +kernel
theorem dX4_read_37 : decode cX4_read 37 = .ok (.aload_n 0, 1) := by decide +kernel
theorem dX4_read_38 : decode cX4_read 38 = .ok (.getfield 10, 3) := by decide +kernel
theorem dX4_read_41 : decode cX4_read 41 = .ok (.getfield 87, 3) := by decide +kernel
theorem dX4_read_44 : decode cX4_read 44 = .ok (.istore 6, 2) := by decide +kernel
theorem dX4_read_46 : decode cX4_read 46 = .ok (.iconst 0, 1) := by decide +kernel
theorem dX4_read_47 : decode cX4_read 47 = .ok (.istore 7, 2) := by decide +kernel
theorem dX4_read_49 : decode cX4_read 49 = .ok (.iconst 0, 1) := by decide +kernel
theorem dX4_read_50 : decode cX4_read 50 = .ok (.istore 8, 2) := by decide +kernel
theorem dX4_read_52 : decode cX4_read 52 = .ok (.iload 8, 2) := by decide +kernel
theorem dX4_read_54 : decode cX4_read 54 = .ok (.iload 4, 2) := by decide +kernel
theorem dX4_read_56 : decode cX4_read 56 = .ok (.if_icmp .ge 81, 3) := by decide +kernel
theorem dX4_read_59 : decode cX4_read 59 = .ok (.iload 7, 2) := by decide +kernel
theorem dX4_read_61 : decode cX4_read 61 = .ok (.ifCond .ne 76, 3) := by decide +kernel
theorem dX4_read_64 : decode cX4_read 64 = .ok (.aload 5, 2) := by decide +kernel
theorem dX4_read_66 : decode cX4_read 66 = .ok (.iload_n 2, 1) := by decide +kernel
theorem dX4_read_67 : decode cX4_read 67 = .ok (.iload_n 3, 1) := by decide +kernel
theorem dX4_read_68 : decode cX4_read 68 = .ok (.iload 8, 2) := by decide +kernel
theorem dX4_read_70 : decode cX4_read 70 = .ok (.iadd, 1) := by decide +kernel
theorem dX4_read_71 : decode cX4_read 71 = .ok (.invokevirtual 254, 3) := by decide +kernel
theorem dX4_read_74 : decode cX4_read 74 = .ok (.istore 7, 2) := by decide +kernel
theorem dX4_read_76 : decode cX4_read 76 = .ok (.iload 7, 2) := by decide +kernel
theorem dX4_read_78 : decode cX4_read 78 = .ok (.ifCond .ne (-26), 3) := by decide +kernel
theorem dX4_read_81 : decode cX4_read 81 = .ok (.aload 5, 2) := by decide +kernel
theorem dX4_read_83 : decode cX4_read 83 = .ok (.getfield 257, 3) := by decide +kernel
theorem dX4_read_86 : decode cX4_read 86 = .ok (.iload_n 3, 1) := by decide +kernel
theorem dX4_read_87 : decode cX4_read 87 = .ok (.iload 8, 2) := by decide +kernel
theorem dX4_read_89 : decode cX4_read 89 = .ok (.iadd, 1) := by decide +kernel
theorem dX4_read_90 : decode cX4_read 90 = .ok (.iaload, 1) := by decide +kernel
theorem dX4_read_91 : decode cX4_read 91 = .ok (.istore 9, 2) := by decide +kernel
theorem dX4_read_93 : decode cX4_read 93 = .ok (.iload 9, 2) := by decide +kernel
theorem dX4_read_95 : decode cX4_read 95 = .ok (.invokestatic 147, 3) := by decide +kernel
theorem dX4_read_98 : decode cX4_read 98 = .ok (.ifCond .eq 18, 3) := by decide +kernel
theorem dX4_read_101 : decode cX4_read 101 = .ok (.aload_n 0, 1) := by decide +kernel
theorem dX4_read_102 : decode cX4_read 102 = .ok (.getfield 10, 3) := by decide +kernel
theorem dX4_read_105 : decode cX4_read 105 = .ok (.iload 9, 2) := by decide +kernel
theorem dX4_read_107 : decode cX4_read 107 = .ok (.bipush 9, 2) := by decide +kernel
theorem dX4_read_109 : decode cX4_read 109 = .ok (.isub, 1) := by decide +kernel
theorem dX4_read_110 : decode cX4_read 110 = .ok (.invokevirtual 150, 3) := by decide +kernel
theorem dX4_read_113 : decode cX4_read 113 = .ok (.ifCond .ne 18, 3) := by decide +kernel
theorem dX4_read_116 : decode cX4_read 116 = .ok (.aload_n 0, 1) := by decide +kernel
theorem dX4_read_117 : decode cX4_read 117 = .ok (.getfield 10, 3) := by decide +kernel
theorem dX4_read_120 : decode cX4_read 120 = .ok (.iload 6, 2) := by decide +kernel
theorem dX4_read_122 : decode cX4_read 122 = .ok (.putfield 87, 3) := by decide +kernel
theorem dX4_read_125 : decode cX4_read 125 = .ok (.bipush (-20), 2) := by decide +kernel
theorem dX4_read_127 : decode cX4_read 127 = .ok (.iload 8, 2) := by decide +kernel
theorem dX4_read_129 : decode cX4_read 129 = .ok (.isub, 1) := by decide +kernel
theorem dX4_read_130 : decode cX4_read 130 = .ok (.ireturn, 1) := by decide +kernel
theorem dX4_read_131 : decode cX4_read 131 = .ok (.iinc 8 1, 3) := by decide +kernel
theorem dX4_read_134 : decode cX4_read 134 = .ok (.goto (-82), 3) := by decide +kernel
theorem dX4_read_137 : decode cX4_read 137 = .ok (.aload_n 0, 1) := by decide +kernel
theorem dX4_read_138 : decode cX4_read 138 = .ok (.iload 7, 2) := by decide +kernel
theorem dX4_read_140 : decode cX4_read 140 = .ok (.putfield 51, 3) := by decide +kernel
theorem dX4_read_143 : decode cX4_read 143 = .ok (.iload 8, 2) := by decide +kernel
theorem dX4_read_145 : decode cX4_read 145 = .ok (.ireturn, 1) := by decide +kernel
theorem dX4_torn_0 : decode cX4_torn 0 = .ok (.aload_n 0, 1) := by decide +kernel
theorem dX4_torn_1 : decode cX4_torn 1 = .ok (.getfield 51, 3) := by decide +kernel
theorem dX4_torn_4 : decode cX4_torn 4 = .ok (.ireturn, 1) := by decide +kernel
set_option maxRecDepth 20000 in
theorem ggX4_count_X0_sumOf : GoodIn wsX4_count wsX0_sumOf := goodIn_r _ [13, 14, 15, 16, 17, 12, 18, 19, 20, 21, 45, 46, 47, 48, 49, 50, 51, 52, 53, 54, 55, 56] (by decide +kernel) (by decide +kernel)
set_option maxRecDepth 20000 in
theorem gX4_count_X0_sumOf : GoodIn wsX4_count (wsV RX4 261 RX0 yX0_sumOf wsX0_sumOf) := goodIn_app (goodIn_of _ (by decide +kernel)) ggX4_count_X0_sumOf
theorem dX4_count_0 : decode cX4_count 0 = .ok (.iload_n 1, 1) := by decide +kernel
theorem dX4_count_1 : decode cX4_count 1 = .ok (.tableswitch 131 0 5 #[39, 47, 77, 85, 113, 122], 39) := by decide +kernel
theorem dX4_count_40 : decode cX4_count 40 = .ok (.aload_n 0, 1) := by decide +kernel
theorem dX4_count_41 : decode cX4_count 41 = .ok (.getfield 37, 3) := by decide +kernel
theorem dX4_count_44 : decode cX4_count 44 = .ok (.getfield 81, 3) := by decide +kernel
theorem dX4_count_47 : decode cX4_count 47 = .ok (.ireturn, 1) := by decide +kernel
theorem dX4_count_48 : decode cX4_count 48 = .ok (.aload_n 0, 1) := by decide +kernel
theorem dX4_count_49 : decode cX4_count 49 = .ok (.getfield 23, 3) := by decide +kernel
theorem dX4_count_52 : decode cX4_count 52 = .ok (.iconst 0, 1) := by decide +kernel
theorem dX4_count_53 : decode cX4_count 53 = .ok (.baload, 1) := by decide +kernel
theorem dX4_count_54 : decode cX4_count 54 = .ok (.ifCond .eq 7, 3) := by decide +kernel
theorem dX4_count_57 : decode cX4_count 57 = .ok (.iconst 1, 1) := by decide +kernel
theorem dX4_count_58 : decode cX4_count 58 = .ok (.goto 4, 3) := by decide +kernel
theorem dX4_count_61 : decode cX4_count 61 = .ok (.iconst 0, 1) := by decide +kernel
theorem dX4_count_62 : decode cX4_count 62 = .ok (.aload_n 0, 1) := by decide +kernel
theorem dX4_count_63 : decode cX4_count 63 = .ok (.getfield 23, 3) := by decide +kernel
theorem dX4_count_66 : decode cX4_count 66 = .ok (.iconst 1, 1) := by decide +kernel
theorem dX4_count_67 : decode cX4_count 67 = .ok (.baload, 1) := by decide +kernel
theorem dX4_count_68 : decode cX4_count 68 = .ok (.ifCond .eq 7, 3) := by decide +kernel
theorem dX4_count_71 : decode cX4_count 71 = .ok (.iconst 1, 1) := by decide +kernel
theorem dX4_count_72 : decode cX4_count 72 = .ok (.goto 4, 3) := by decide +kernel
theorem dX4_count_75 : decode cX4_count 75 = .ok (.iconst 0, 1) := by decide +kernel
theorem dX4_count_76 : decode cX4_count 76 = .ok (.iadd, 1) := by decide +kernel
theorem dX4_count_77 : decode cX4_count 77 = .ok (.ireturn, 1) := by decide +kernel
theorem dX4_count_78 : decode cX4_count 78 = .ok (.aload_n 0, 1) := by decide +kernel
theorem dX4_count_79 : decode cX4_count 79 = .ok (.getfield 30, 3) := by decide +kernel
theorem dX4_count_82 : decode cX4_count 82 = .ok (.getfield 64, 3) := by decide +kernel
theorem dX4_count_85 : decode cX4_count 85 = .ok (.ireturn, 1) := by decide +kernel
theorem dX4_count_86 : decode cX4_count 86 = .ok (.aload_n 0, 1) := by decide +kernel
theorem dX4_count_87 : decode cX4_count 87 = .ok (.getfield 43, 3) := by decide +kernel
theorem dX4_count_90 : decode cX4_count 90 = .ok (.iconst 0, 1) := by decide +kernel
theorem dX4_count_91 : decode cX4_count 91 = .ok (.aaload, 1) := by decide +kernel
theorem dX4_count_92 : decode cX4_count 92 = .ok (.getfield 260, 3) := by decide +kernel
