theorem dX5_runs_8 : decode cX5_runs 8 = .ok (.i2l, 1) := by decide +kernel
theorem dX5_runs_9 : decode cX5_runs 9 = .ok (.lconst 0, 1) := by decide +kernel
theorem dX5_runs_10 : decode cX5_runs 10 = .ok (.ldc2_w 185, 3) := by decide +kernel
theorem dX5_runs_13 : decode cX5_runs 13 = .ok (.invokestatic 46, 3) := by decide +kernel
theorem dX5_runs_16 : decode cX5_runs 16 = .ok (.ifCond .ne 5, 3) := by decide +kernel
theorem dX5_runs_19 : decode cX5_runs 19 = .ok (.iconst (-1), 1) := by decide +kernel
theorem dX5_runs_20 : decode cX5_runs 20 = .ok (.ireturn, 1) := by decide +kernel
theorem dX5_runs_21 : decode cX5_runs 21 = .ok (.aload_n 0, 1) := by decide +kernel
theorem dX5_runs_22 : decode cX5_runs 22 = .ok (.iconst 0, 1) := by decide +kernel
theorem dX5_runs_23 : decode cX5_runs 23 = .ok (.iload_n 1, 1) := by decide +kernel
theorem dX5_runs_24 : decode cX5_runs 24 = .ok (.invokevirtual 187, 3) := by decide +kernel
theorem dX5_runs_27 : decode cX5_runs 27 = .ok (.istore_n 3, 1) := by decide +kernel
theorem dX5_runs_28 : decode cX5_runs 28 = .ok (.aload_n 0, 1) := by decide +kernel
theorem dX5_runs_29 : decode cX5_runs 29 = .ok (.iconst 0, 1) := by decide +kernel
theorem dX5_runs_30 : decode cX5_runs 30 = .ok (.invokevirtual 145, 3) := by decide +kernel
theorem dX5_runs_33 : decode cX5_runs 33 = .ok (.istore 4, 2) := by decide +kernel
theorem dX5_runs_35 : decode cX5_runs 35 = .ok (.iload_n 2, 1) := by decide +kernel
theorem dX5_runs_36 : decode cX5_runs 36 = .ok (.tableswitch 70 0 3 #[32, 37, 49, 51], 32) := by decide +kernel
theorem dX5_runs_68 : decode cX5_runs 68 = .ok (.aload_n 0, 1) := by decide +kernel
theorem dX5_runs_69 : decode cX5_runs 69 = .ok (.getfield 134, 3) := by decide +kernel
theorem dX5_runs_72 : decode cX5_runs 72 = .ok (.ireturn, 1) := by decide +kernel
theorem dX5_runs_73 : decode cX5_runs 73 = .ok (.ldc 144, 2) := by decide +kernel
theorem dX5_runs_75 : decode cX5_runs 75 = .ok (.aload_n 0, 1) := by decide +kernel
theorem dX5_runs_76 : decode cX5_runs 76 = .ok (.getfield 7, 3) := by decide +kernel
theorem dX5_runs_79 : decode cX5_runs 79 = .ok (.sipush 198, 3) := by decide +kernel
theorem dX5_runs_82 : decode cX5_runs 82 = .ok (.iaload, 1) := by decide +kernel
theorem dX5_runs_83 : decode cX5_runs 83 = .ok (.iadd, 1) := by decide +kernel
theorem dX5_runs_84 : decode cX5_runs 84 = .ok (.ireturn, 1) := by decide +kernel
theorem dX5_runs_85 : decode cX5_runs 85 = .ok (.iload_n 3, 1) := by decide +kernel
theorem dX5_runs_86 : decode cX5_runs 86 = .ok (.ireturn, 1) := by decide +kernel
theorem dX5_runs_87 : decode cX5_runs 87 = .ok (.iload 4, 2) := by decide +kernel
theorem dX5_runs_89 : decode cX5_runs 89 = .ok (.aload_n 0, 1) := by decide +kernel
theorem dX5_runs_90 : decode cX5_runs 90 = .ok (.getfield 179, 3) := by decide +kernel
theorem dX5_runs_93 : decode cX5_runs 93 = .ok (.if_icmp .le 8, 3) := by decide +kernel
theorem dX5_runs_96 : decode cX5_runs 96 = .ok (.iload 4, 2) := by decide +kernel
theorem dX5_runs_98 : decode cX5_runs 98 = .ok (.goto 7, 3) := by decide +kernel
theorem dX5_runs_101 : decode cX5_runs 101 = .ok (.aload_n 0, 1) := by decide +kernel
theorem dX5_runs_102 : decode cX5_runs 102 = .ok (.getfield 179, 3) := by decide +kernel
theorem dX5_runs_105 : decode cX5_runs 105 = .ok (.ireturn, 1) := by decide +kernel
theorem dX5_runs_106 : decode cX5_runs 106 = .ok (.aload_n 0, 1) := by decide +kernel
theorem dX5_runs_107 : decode cX5_runs 107 = .ok (.getfield 131, 3) := by decide +kernel
theorem dX5_runs_110 : decode cX5_runs 110 = .ok (.ireturn, 1) := by decide +kernel
set_option maxRecDepth 20000 in
theorem ggX5_ahead_X5_isArm : GoodIn wsX5_ahead wsX5_isArm := goodIn_r _ [7, 2, 8, 9, 6, 10, 57, 58, 59, 60, 61, 62, 63, 64, 65, 66, 67, 68, 69, 70, 71, 72, 73, 74, 75, 76, 77, 78, 79, 80] (by decide +kernel) (by decide +kernel)
set_option maxRecDepth 20000 in
theorem gX5_ahead_X5_isArm : GoodIn wsX5_ahead (wsV RX5 148 RX5 yX5_isArm wsX5_isArm) := goodIn_app (goodIn_of _ (by decide +kernel)) ggX5_ahead_X5_isArm
set_option maxRecDepth 20000 in
theorem ggX5_ahead_X5_isLong : GoodIn wsX5_ahead wsX5_isLong := goodIn_r _ [13, 14, 8, 9, 6, 10] (by decide +kernel) (by decide +kernel)
set_option maxRecDepth 20000 in
theorem gX5_ahead_X5_isLong : GoodIn wsX5_ahead (va_wsS RX5 182 yX5_isLong wsX5_isLong) := goodIn_app (goodIn_of _ (by decide +kernel)) ggX5_ahead_X5_isLong
set_option maxRecDepth 20000 in
theorem ggX5_ahead_X5_stepsGo : GoodIn wsX5_ahead wsX5_stepsGo := goodIn_r _ [18, 19, 20, 21, 22, 23, 24, 6, 25, 2, 26, 27, 28, 29, 30, 31, 32, 33, 34, 35, 36, 37, 38, 39, 40, 41, 42, 43, 44, 45, 46, 47, 48, 49, 50, 51, 52, 53, 54, 55, 56, 57, 58, 59, 60, 61, 62, 63, 64, 65, 66, 67, 68, 69, 70, 71, 72, 73, 74, 75, 76, 77, 78, 79, 80] (by decide +kernel) (by decide +kernel)
set_option maxRecDepth 20000 in
theorem gX5_ahead_X5_stepsGo : GoodIn wsX5_ahead (wsV RX5 187 RX5 yX5_stepsGo wsX5_stepsGo) := goodIn_app (goodIn_of _ (by decide +kernel)) ggX5_ahead_X5_stepsGo
theorem dX5_ahead_0 : decode cX5_ahead 0 = .ok (.aload_n 0, 1) := by decide +kernel
theorem dX5_ahead_1 : decode cX5_ahead 1 = .ok (.iload_n 1, 1) := by decide +kernel
theorem dX5_ahead_2 : decode cX5_ahead 2 = .ok (.invokevirtual 148, 3) := by decide +kernel
theorem dX5_ahead_5 : decode cX5_ahead 5 = .ok (.ifCond .eq 10, 3) := by decide +kernel
theorem dX5_ahead_8 : decode cX5_ahead 8 = .ok (.iload_n 2, 1) := by decide +kernel
theorem dX5_ahead_9 : decode cX5_ahead 9 = .ok (.invokestatic 182, 3) := by decide +kernel
theorem dX5_ahead_12 : decode cX5_ahead 12 = .ok (.ifCond .ne 5, 3) := by decide +kernel
theorem dX5_ahead_15 : decode cX5_ahead 15 = .ok (.iconst (-1), 1) := by decide +kernel
theorem dX5_ahead_16 : decode cX5_ahead 16 = .ok (.ireturn, 1) := by decide +kernel
theorem dX5_ahead_17 : decode cX5_ahead 17 = .ok (.aload_n 0, 1) := by decide +kernel
theorem dX5_ahead_18 : decode cX5_ahead 18 = .ok (.iconst 0, 1) := by decide +kernel
theorem dX5_ahead_19 : decode cX5_ahead 19 = .ok (.iload_n 2, 1) := by decide +kernel
theorem dX5_ahead_20 : decode cX5_ahead 20 = .ok (.invokevirtual 187, 3) := by decide +kernel
theorem dX5_ahead_23 : decode cX5_ahead 23 = .ok (.pop, 1) := by decide +kernel
theorem dX5_ahead_24 : decode cX5_ahead 24 = .ok (.ldc 144, 2) := by decide +kernel
theorem dX5_ahead_26 : decode cX5_ahead 26 = .ok (.aload_n 0, 1) := by decide +kernel
theorem dX5_ahead_27 : decode cX5_ahead 27 = .ok (.getfield 7, 3) := by decide +kernel
theorem dX5_ahead_30 : decode cX5_ahead 30 = .ok (.sipush 168, 3) := by decide +kernel
theorem dX5_ahead_33 : decode cX5_ahead 33 = .ok (.iload_n 1, 1) := by decide +kernel
theorem dX5_ahead_34 : decode cX5_ahead 34 = .ok (.iadd, 1) := by decide +kernel
theorem dX5_ahead_35 : decode cX5_ahead 35 = .ok (.iaload, 1) := by decide +kernel
theorem dX5_ahead_36 : decode cX5_ahead 36 = .ok (.iadd, 1) := by decide +kernel
theorem dX5_ahead_37 : decode cX5_ahead 37 = .ok (.ireturn, 1) := by decide +kernel
set_option maxRecDepth 20000 in
theorem ggX5_when_X5_isArm : GoodIn wsX5_when wsX5_isArm := goodIn_r _ [7, 2, 8, 9, 6, 10, 49, 50, 51, 52, 53, 54, 55, 56, 57, 58, 59, 60, 61, 62, 63, 64, 65, 66, 67, 68, 69, 70, 71, 72] (by decide +kernel) (by decide +kernel)
set_option maxRecDepth 20000 in
theorem gX5_when_X5_isArm : GoodIn wsX5_when (wsV RX5 148 RX5 yX5_isArm wsX5_isArm) := goodIn_app (goodIn_of _ (by decide +kernel)) ggX5_when_X5_isArm
set_option maxRecDepth 20000 in
theorem ggX5_when_X5_isPlace : GoodIn wsX5_when wsX5_isPlace := goodIn_r _ [13, 14, 15, 8, 9, 6, 10] (by decide +kernel) (by decide +kernel)
set_option maxRecDepth 20000 in
theorem gX5_when_X5_isPlace : GoodIn wsX5_when (va_wsS RX5 190 yX5_isPlace wsX5_isPlace) := goodIn_app (goodIn_of _ (by decide +kernel)) ggX5_when_X5_isPlace
set_option maxRecDepth 20000 in
theorem ggX5_when_X5_copies : GoodIn wsX5_when wsX5_copies := goodIn_r _ [19, 2, 49, 50, 51, 52, 53, 54, 55, 56, 57, 58, 59, 60, 61, 62, 63, 64, 65, 66, 67, 68, 69, 70, 71, 72] (by decide +kernel) (by decide +kernel)
set_option maxRecDepth 20000 in
theorem gX5_when_X5_copies : GoodIn wsX5_when (wsV RX5 176 RX5 yX5_copies wsX5_copies) := goodIn_app (goodIn_of _ (by decide +kernel)) ggX5_when_X5_copies
set_option maxRecDepth 20000 in
theorem ggX5_when_X5_stepOn : GoodIn wsX5_when wsX5_stepOn := goodIn_r _ [23, 2, 24, 25, 26, 6, 27, 28, 29, 30, 31, 32, 33, 34, 35, 36, 37, 38, 39, 40, 41, 42, 43, 44, 45, 46, 47, 48, 49, 50, 51, 52, 53, 54, 55, 56, 57, 58, 59, 60, 61, 62, 63, 64, 65, 66, 67, 68, 69, 70, 71, 72] (by decide +kernel) (by decide +kernel)
set_option maxRecDepth 20000 in
theorem gX5_when_X5_stepOn : GoodIn wsX5_when (wsV RX5 172 RX5 yX5_stepOn wsX5_stepOn) := goodIn_app (goodIn_of _ (by decide +kernel)) ggX5_when_X5_stepOn
theorem dX5_when_0 : decode cX5_when 0 = .ok (.aload_n 0, 1) := by decide +kernel
theorem dX5_when_1 : decode cX5_when 1 = .ok (.iload_n 1, 1) := by decide +kernel
theorem dX5_when_2 : decode cX5_when 2 = .ok (.invokevirtual 148, 3) := by decide +kernel
theorem dX5_when_5 : decode cX5_when 5 = .ok (.ifCond .eq 10, 3) := by decide +kernel
theorem dX5_when_8 : decode cX5_when 8 = .ok (.iload_n 2, 1) := by decide +kernel
theorem dX5_when_9 : decode cX5_when 9 = .ok (.invokestatic 190, 3) := by decide +kernel
theorem dX5_when_12 : decode cX5_when 12 = .ok (.ifCond .ne 5, 3) := by decide +kernel
theorem dX5_when_15 : decode cX5_when 15 = .ok (.iconst (-1), 1) := by decide +kernel
theorem dX5_when_16 : decode cX5_when 16 = .ok (.ireturn, 1) := by decide +kernel
theorem dX5_when_17 : decode cX5_when 17 = .ok (.iload_n 2, 1) := by decide +kernel
theorem dX5_when_18 : decode cX5_when 18 = .ok (.ldc 144, 2) := by decide +kernel
theorem dX5_when_20 : decode cX5_when 20 = .ok (.isub, 1) := by decide +kernel
theorem dX5_when_21 : decode cX5_when 21 = .ok (.aload_n 0, 1) := by decide +kernel
theorem dX5_when_22 : decode cX5_when 22 = .ok (.getfield 7, 3) := by decide +kernel
theorem dX5_when_25 : decode cX5_when 25 = .ok (.bipush 8, 2) := by decide +kernel
theorem dX5_when_27 : decode cX5_when 27 = .ok (.iload_n 1, 1) := by decide +kernel
theorem dX5_when_28 : decode cX5_when 28 = .ok (.iadd, 1) := by decide +kernel
theorem dX5_when_29 : decode cX5_when 29 = .ok (.iaload, 1) := by decide +kernel
theorem dX5_when_30 : decode cX5_when 30 = .ok (.isub, 1) := by decide +kernel
theorem dX5_when_31 : decode cX5_when 31 = .ok (.istore_n 3, 1) := by decide +kernel
theorem dX5_when_32 : decode cX5_when 32 = .ok (.aload_n 0, 1) := by decide +kernel
theorem dX5_when_33 : decode cX5_when 33 = .ok (.iconst 0, 1) := by decide +kernel
theorem dX5_when_34 : decode cX5_when 34 = .ok (.sipush 160, 3) := by decide +kernel
theorem dX5_when_37 : decode cX5_when 37 = .ok (.invokevirtual 176, 3) := by decide +kernel
theorem dX5_when_40 : decode cX5_when 40 = .ok (.iconst 0, 1) := by decide +kernel
theorem dX5_when_41 : decode cX5_when 41 = .ok (.istore 4, 2) := by decide +kernel
theorem dX5_when_43 : decode cX5_when 43 = .ok (.iload 4, 2) := by decide +kernel
theorem dX5_when_45 : decode cX5_when 45 = .ok (.sipush 200, 3) := by decide +kernel
theorem dX5_when_48 : decode cX5_when 48 = .ok (.if_icmp .gt 66, 3) := by decide +kernel
theorem dX5_when_51 : decode cX5_when 51 = .ok (.aload_n 0, 1) := by decide +kernel
theorem dX5_when_52 : decode cX5_when 52 = .ok (.getfield 7, 3) := by decide +kernel
theorem dX5_when_55 : decode cX5_when 55 = .ok (.sipush 168, 3) := by decide +kernel
theorem dX5_when_58 : decode cX5_when 58 = .ok (.iload_n 1, 1) := by decide +kernel
theorem dX5_when_59 : decode cX5_when 59 = .ok (.iadd, 1) := by decide +kernel
theorem dX5_when_60 : decode cX5_when 60 = .ok (.iaload, 1) := by decide +kernel
theorem dX5_when_61 : decode cX5_when 61 = .ok (.aload_n 0, 1) := by decide +kernel
theorem dX5_when_62 : decode cX5_when 62 = .ok (.getfield 7, 3) := by decide +kernel
theorem dX5_when_65 : decode cX5_when 65 = .ok (.bipush 8, 2) := by decide +kernel
theorem dX5_when_67 : decode cX5_when 67 = .ok (.iload_n 1, 1) := by decide +kernel
theorem dX5_when_68 : decode cX5_when 68 = .ok (.iadd, 1) := by decide +kernel
theorem dX5_when_69 : decode cX5_when 69 = .ok (.iaload, 1) := by decide +kernel
theorem dX5_when_70 : decode cX5_when 70 = .ok (.isub, 1) := by decide +kernel
theorem dX5_when_71 : decode cX5_when 71 = .ok (.istore 5, 2) := by decide +kernel
theorem dX5_when_73 : decode cX5_when 73 = .ok (.iload_n 3, 1) := by decide +kernel
theorem dX5_when_74 : decode cX5_when 74 = .ok (.ifCond .eq 23, 3) := by decide +kernel
theorem dX5_when_77 : decode cX5_when 77 = .ok (.iload_n 3, 1) := by decide +kernel
theorem dX5_when_78 : decode cX5_when 78 = .ok (.ifCond .le 9, 3) := by decide +kernel
theorem dX5_when_81 : decode cX5_when 81 = .ok (.iload 5, 2) := by decide +kernel
theorem dX5_when_83 : decode cX5_when 83 = .ok (.iload_n 3, 1) := by decide +kernel
theorem dX5_when_84 : decode cX5_when 84 = .ok (.if_icmp .ge 13, 3) := by decide +kernel
theorem dX5_when_87 : decode cX5_when 87 = .ok (.iload_n 3, 1) := by decide +kernel
theorem dX5_when_88 : decode cX5_when 88 = .ok (.ifCond .ge 12, 3) := by decide +kernel
theorem dX5_when_91 : decode cX5_when 91 = .ok (.iload 5, 2) := by decide +kernel
theorem dX5_when_93 : decode cX5_when 93 = .ok (.iload_n 3, 1) := by decide +kernel
theorem dX5_when_94 : decode cX5_when 94 = .ok (.if_icmp .gt 6, 3) := by decide +kernel
theorem dX5_when_97 : decode cX5_when 97 = .ok (.iload 4, 2) := by decide +kernel
theorem dX5_when_99 : decode cX5_when 99 = .ok (.ireturn, 1) := by decide +kernel
theorem dX5_when_100 : decode cX5_when 100 = .ok (.aload_n 0, 1) := by decide +kernel
theorem dX5_when_101 : decode cX5_when 101 = .ok (.sipush 160, 3) := by decide +kernel
theorem dX5_when_104 : decode cX5_when 104 = .ok (.iconst 0, 1) := by decide +kernel
theorem dX5_when_105 : decode cX5_when 105 = .ok (.invokevirtual 172, 3) := by decide +kernel
theorem dX5_when_108 : decode cX5_when 108 = .ok (.iinc 4 1, 3) := by decide +kernel
theorem dX5_when_111 : decode cX5_when 111 = .ok (.goto (-68), 3) := by decide +kernel
theorem dX5_when_114 : decode cX5_when 114 = .ok (.bipush (-4), 2) := by decide +kernel
theorem dX5_when_116 : decode cX5_when 116 = .ok (.ireturn, 1) := by decide +kernel
set_option maxRecDepth 20000 in
theorem ggX5_again_X5_copies : GoodIn wsX5_again wsX5_copies := goodIn_r _ [6, 1, 36, 37, 38, 39, 40, 41, 42, 43, 44, 45, 46, 47, 48, 49, 50, 51, 52, 53, 54, 55, 56, 57, 58, 59] (by decide +kernel) (by decide +kernel)
set_option maxRecDepth 20000 in
theorem gX5_again_X5_copies : GoodIn wsX5_again (wsV RX5 176 RX5 yX5_copies wsX5_copies) := goodIn_app (goodIn_of _ (by decide +kernel)) ggX5_again_X5_copies
set_option maxRecDepth 20000 in
theorem ggX5_again_X5_stepOn : GoodIn wsX5_again wsX5_stepOn := goodIn_r _ [10, 1, 11, 12, 13, 5, 14, 15, 16, 17, 18, 19, 20, 21, 22, 23, 24, 25, 26, 27, 28, 29, 30, 31, 32, 33, 34, 35, 36, 37, 38, 39, 40, 41, 42, 43, 44, 45, 46, 47, 48, 49, 50, 51, 52, 53, 54, 55, 56, 57, 58, 59] (by decide +kernel) (by decide +kernel)
set_option maxRecDepth 20000 in
theorem gX5_again_X5_stepOn : GoodIn wsX5_again (wsV RX5 172 RX5 yX5_stepOn wsX5_stepOn) := goodIn_app (goodIn_of _ (by decide +kernel)) ggX5_again_X5_stepOn
theorem dX5_again_0 : decode cX5_again 0 = .ok (.aload_n 0, 1) := by decide +kernel
theorem dX5_again_1 : decode cX5_again 1 = .ok (.getfield 7, 3) := by decide +kernel
theorem dX5_again_4 : decode cX5_again 4 = .ok (.bipush 37, 2) := by decide +kernel
theorem dX5_again_6 : decode cX5_again 6 = .ok (.iaload, 1) := by decide +kernel
theorem dX5_again_7 : decode cX5_again 7 = .ok (.istore_n 1, 1) := by decide +kernel
theorem dX5_again_8 : decode cX5_again 8 = .ok (.aload_n 0, 1) := by decide +kernel
theorem dX5_again_9 : decode cX5_again 9 = .ok (.iconst 0, 1) := by decide +kernel
theorem dX5_again_10 : decode cX5_again 10 = .ok (.sipush 160, 3) := by decide +kernel
theorem dX5_again_13 : decode cX5_again 13 = .ok (.invokevirtual 176, 3) := by decide +kernel
theorem dX5_again_16 : decode cX5_again 16 = .ok (.iconst 1, 1) := by decide +kernel
theorem dX5_again_17 : decode cX5_again 17 = .ok (.istore_n 2, 1) := by decide +kernel
theorem dX5_again_18 : decode cX5_again 18 = .ok (.iload_n 2, 1) := by decide +kernel
theorem dX5_again_19 : decode cX5_again 19 = .ok (.sipush 200, 3) := by decide +kernel
theorem dX5_again_22 : decode cX5_again 22 = .ok (.if_icmp .gt 165, 3) := by decide +kernel
theorem dX5_again_25 : decode cX5_again 25 = .ok (.aload_n 0, 1) := by decide +kernel
theorem dX5_again_26 : decode cX5_again 26 = .ok (.sipush 160, 3) := by decide +kernel
theorem dX5_again_29 : decode cX5_again 29 = .ok (.iconst 0, 1) := by decide +kernel
theorem dX5_again_30 : decode cX5_again 30 = .ok (.invokevirtual 172, 3) := by decide +kernel
theorem dX5_again_33 : decode cX5_again 33 = .ok (.aload_n 0, 1) := by decide +kernel
theorem dX5_again_34 : decode cX5_again 34 = .ok (.getfield 7, 3) := by decide +kernel
theorem dX5_again_37 : decode cX5_again 37 = .ok (.sipush 198, 3) := by decide +kernel
theorem dX5_again_40 : decode cX5_again 40 = .ok (.iaload, 1) := by decide +kernel
theorem dX5_again_41 : decode cX5_again 41 = .ok (.aload_n 0, 1) := by decide +kernel
theorem dX5_again_42 : decode cX5_again 42 = .ok (.getfield 7, 3) := by decide +kernel
theorem dX5_again_45 : decode cX5_again 45 = .ok (.bipush 38, 2) := by decide +kernel
theorem dX5_again_47 : decode cX5_again 47 = .ok (.iaload, 1) := by decide +kernel
theorem dX5_again_48 : decode cX5_again 48 = .ok (.isub, 1) := by decide +kernel
theorem dX5_again_49 : decode cX5_again 49 = .ok (.istore_n 3, 1) := by decide +kernel
theorem dX5_again_50 : decode cX5_again 50 = .ok (.iload_n 1, 1) := by decide +kernel
theorem dX5_again_51 : decode cX5_again 51 = .ok (.ifCond .eq 9, 3) := by decide +kernel
theorem dX5_again_54 : decode cX5_again 54 = .ok (.iload_n 2, 1) := by decide +kernel
theorem dX5_again_55 : decode cX5_again 55 = .ok (.iload_n 1, 1) := by decide +kernel
theorem dX5_again_56 : decode cX5_again 56 = .ok (.irem, 1) := by decide +kernel
theorem dX5_again_57 : decode cX5_again 57 = .ok (.ifCond .ne 7, 3) := by decide +kernel
theorem dX5_again_60 : decode cX5_again 60 = .ok (.iconst 1, 1) := by decide +kernel
theorem dX5_again_61 : decode cX5_again 61 = .ok (.goto 4, 3) := by decide +kernel
theorem dX5_again_64 : decode cX5_again 64 = .ok (.iconst 0, 1) := by decide +kernel
theorem dX5_again_65 : decode cX5_again 65 = .ok (.istore 4, 2) := by decide +kernel
theorem dX5_again_67 : decode cX5_again 67 = .ok (.iconst 0, 1) := by decide +kernel
theorem dX5_again_68 : decode cX5_again 68 = .ok (.istore 5, 2) := by decide +kernel
theorem dX5_again_70 : decode cX5_again 70 = .ok (.iload 5, 2) := by decide +kernel
theorem dX5_again_72 : decode cX5_again 72 = .ok (.aload_n 0, 1) := by decide +kernel
theorem dX5_again_73 : decode cX5_again 73 = .ok (.getfield 7, 3) := by decide +kernel
theorem dX5_again_76 : decode cX5_again 76 = .ok (.bipush 20, 2) := by decide +kernel
theorem dX5_again_78 : decode cX5_again 78 = .ok (.iaload, 1) := by decide +kernel
theorem dX5_again_79 : decode cX5_again 79 = .ok (.if_icmp .ge 95, 3) := by decide +kernel
theorem dX5_again_82 : decode cX5_again 82 = .ok (.iload 4, 2) := by decide +kernel
theorem dX5_again_84 : decode cX5_again 84 = .ok (.ifCond .eq 81, 3) := by decide +kernel
theorem dX5_again_87 : decode cX5_again 87 = .ok (.aload_n 0, 1) := by decide +kernel
theorem dX5_again_88 : decode cX5_again 88 = .ok (.getfield 7, 3) := by decide +kernel
theorem dX5_again_91 : decode cX5_again 91 = .ok (.sipush 168, 3) := by decide +kernel
theorem dX5_again_94 : decode cX5_again 94 = .ok (.iload 5, 2) := by decide +kernel
theorem dX5_again_96 : decode cX5_again 96 = .ok (.iadd, 1) := by decide +kernel
theorem dX5_again_97 : decode cX5_again 97 = .ok (.iaload, 1) := by decide +kernel
theorem dX5_again_98 : decode cX5_again 98 = .ok (.aload_n 0, 1) := by decide +kernel
theorem dX5_again_99 : decode cX5_again 99 = .ok (.getfield 7, 3) := by decide +kernel
theorem dX5_again_102 : decode cX5_again 102 = .ok (.bipush 8, 2) := by decide +kernel
theorem dX5_again_104 : decode cX5_again 104 = .ok (.iload 5, 2) := by decide +kernel
theorem dX5_again_106 : decode cX5_again 106 = .ok (.iadd, 1) := by decide +kernel
theorem dX5_again_107 : decode cX5_again 107 = .ok (.iaload, 1) := by decide +kernel
theorem dX5_again_108 : decode cX5_again 108 = .ok (.isub, 1) := by decide +kernel
theorem dX5_again_109 : decode cX5_again 109 = .ok (.iload_n 3, 1) := by decide +kernel
theorem dX5_again_110 : decode cX5_again 110 = .ok (.if_icmp .ne 55, 3) := by decide +kernel
theorem dX5_again_113 : decode cX5_again 113 = .ok (.aload_n 0, 1) := by decide +kernel
theorem dX5_again_114 : decode cX5_again 114 = .ok (.getfield 7, 3) := by decide +kernel
theorem dX5_again_117 : decode cX5_again 117 = .ok (.sipush 176, 3) := by decide +kernel
theorem dX5_again_120 : decode cX5_again 120 = .ok (.iload 5, 2) := by decide +kernel
theorem dX5_again_122 : decode cX5_again 122 = .ok (.iadd, 1) := by decide +kernel
theorem dX5_again_123 : decode cX5_again 123 = .ok (.iaload, 1) := by decide +kernel
theorem dX5_again_124 : decode cX5_again 124 = .ok (.aload_n 0, 1) := by decide +kernel
theorem dX5_again_125 : decode cX5_again 125 = .ok (.getfield 7, 3) := by decide +kernel
theorem dX5_again_128 : decode cX5_again 128 = .ok (.bipush 16, 2) := by decide +kernel
theorem dX5_again_130 : decode cX5_again 130 = .ok (.iload 5, 2) := by decide +kernel
theorem dX5_again_132 : decode cX5_again 132 = .ok (.iadd, 1) := by decide +kernel
theorem dX5_again_133 : decode cX5_again 133 = .ok (.iaload, 1) := by decide +kernel
theorem dX5_again_134 : decode cX5_again 134 = .ok (.if_icmp .ne 31, 3) := by decide +kernel
theorem dX5_again_137 : decode cX5_again 137 = .ok (.aload_n 0, 1) := by decide +kernel
theorem dX5_again_138 : decode cX5_again 138 = .ok (.getfield 7, 3) := by decide +kernel
theorem dX5_again_141 : decode cX5_again 141 = .ok (.sipush 172, 3) := by decide +kernel
theorem dX5_again_144 : decode cX5_again 144 = .ok (.iload 5, 2) := by decide +kernel
theorem dX5_again_146 : decode cX5_again 146 = .ok (.iadd, 1) := by decide +kernel
theorem dX5_again_147 : decode cX5_again 147 = .ok (.iaload, 1) := by decide +kernel
theorem dX5_again_148 : decode cX5_again 148 = .ok (.aload_n 0, 1) := by decide +kernel
theorem dX5_again_149 : decode cX5_again 149 = .ok (.getfield 7, 3) := by decide +kernel
theorem dX5_again_152 : decode cX5_again 152 = .ok (.bipush 12, 2) := by decide +kernel
theorem dX5_again_154 : decode cX5_again 154 = .ok (.iload 5, 2) := by decide +kernel
theorem dX5_again_156 : decode cX5_again 156 = .ok (.iadd, 1) := by decide +kernel
theorem dX5_again_157 : decode cX5_again 157 = .ok (.iaload, 1) := by decide +kernel
theorem dX5_again_158 : decode cX5_again 158 = .ok (.if_icmp .ne 7, 3) := by decide +kernel
theorem dX5_again_161 : decode cX5_again 161 = .ok (.iconst 1, 1) := by decide +kernel
theorem dX5_again_162 : decode cX5_again 162 = .ok (.goto 4, 3) := by decide +kernel
theorem dX5_again_165 : decode cX5_again 165 = .ok (.iconst 0, 1) := by decide +kernel
theorem dX5_again_166 : decode cX5_again 166 = .ok (.istore 4, 2) := by decide +kernel
theorem dX5_again_168 : decode cX5_again 168 = .ok (.iinc 5 1, 3) := by decide +kernel
theorem dX5_again_171 : decode cX5_again 171 = .ok (.goto (-101), 3) := by decide +kernel
theorem dX5_again_174 : decode cX5_again 174 = .ok (.iload 4, 2) := by decide +kernel
theorem dX5_again_176 : decode cX5_again 176 = .ok (.ifCond .eq 5, 3) := by decide +kernel
theorem dX5_again_179 : decode cX5_again 179 = .ok (.iload_n 2, 1) := by decide +kernel
theorem dX5_again_180 : decode cX5_again 180 = .ok (.ireturn, 1) := by decide +kernel
theorem dX5_again_181 : decode cX5_again 181 = .ok (.iinc 2 1, 3) := by decide +kernel
theorem dX5_again_184 : decode cX5_again 184 = .ok (.goto (-166), 3) := by decide +kernel
theorem dX5_again_187 : decode cX5_again 187 = .ok (.bipush (-4), 2) := by decide +kernel
theorem dX5_again_189 : decode cX5_again 189 = .ok (.ireturn, 1) := by decide +kernel
set_option maxRecDepth 20000 in
theorem ggX5_leastAt_X5_copies : GoodIn wsX5_leastAt wsX5_copies := goodIn_r _ [7, 2, 46, 47, 48, 49, 50, 51, 52, 53, 54, 55, 56, 57, 58, 59, 60, 61, 62, 63, 64, 65, 66, 67, 68, 69] (by decide +kernel) (by decide +kernel)
set_option maxRecDepth 20000 in
theorem gX5_leastAt_X5_copies : GoodIn wsX5_leastAt (wsV RX5 176 RX5 yX5_copies wsX5_copies) := goodIn_app (goodIn_of _ (by decide +kernel)) ggX5_leastAt_X5_copies
set_option maxRecDepth 20000 in
theorem ggX5_leastAt_X5_stepsGo : GoodIn wsX5_leastAt wsX5_stepsGo := goodIn_r _ [11, 12, 13, 14, 3, 4, 5, 6, 7, 2, 15, 16, 17, 18, 19, 20, 21, 22, 23, 24, 25, 26, 27, 28, 29, 30, 31, 32, 33, 34, 35, 36, 37, 38, 39, 40, 41, 42, 43, 44, 45, 46, 47, 48, 49, 50, 51, 52, 53, 54, 55, 56, 57, 58, 59, 60, 61, 62, 63, 64, 65, 66, 67, 68, 69] (by decide +kernel) (by decide +kernel)
set_option maxRecDepth 20000 in
theorem gX5_leastAt_X5_stepsGo : GoodIn wsX5_leastAt (wsV RX5 187 RX5 yX5_stepsGo wsX5_stepsGo) := goodIn_app (goodIn_of _ (by decide +kernel)) ggX5_leastAt_X5_stepsGo
theorem dX5_leastAt_0 : decode cX5_leastAt 0 = .ok (.ldc 193, 2) := by decide +kernel
theorem dX5_leastAt_2 : decode cX5_leastAt 2 = .ok (.istore 5, 2) := by decide +kernel
theorem dX5_leastAt_4 : decode cX5_leastAt 4 = .ok (.iconst 0, 1) := by decide +kernel
theorem dX5_leastAt_5 : decode cX5_leastAt 5 = .ok (.istore 6, 2) := by decide +kernel
theorem dX5_leastAt_7 : decode cX5_leastAt 7 = .ok (.aload_n 0, 1) := by decide +kernel
theorem dX5_leastAt_8 : decode cX5_leastAt 8 = .ok (.iconst 0, 1) := by decide +kernel
theorem dX5_leastAt_9 : decode cX5_leastAt 9 = .ok (.sipush 200, 3) := by decide +kernel
theorem dX5_leastAt_12 : decode cX5_leastAt 12 = .ok (.invokevirtual 176, 3) := by decide +kernel
theorem dX5_leastAt_15 : decode cX5_leastAt 15 = .ok (.iconst 0, 1) := by decide +kernel
theorem dX5_leastAt_16 : decode cX5_leastAt 16 = .ok (.istore 7, 2) := by decide +kernel
theorem dX5_leastAt_18 : decode cX5_leastAt 18 = .ok (.iload 7, 2) := by decide +kernel
theorem dX5_leastAt_20 : decode cX5_leastAt 20 = .ok (.iload_n 2, 1) := by decide +kernel
theorem dX5_leastAt_21 : decode cX5_leastAt 21 = .ok (.if_icmp .ge 63, 3) := by decide +kernel
theorem dX5_leastAt_24 : decode cX5_leastAt 24 = .ok (.aload_n 0, 1) := by decide +kernel
theorem dX5_leastAt_25 : decode cX5_leastAt 25 = .ok (.getfield 7, 3) := by decide +kernel
theorem dX5_leastAt_28 : decode cX5_leastAt 28 = .ok (.sipush 200, 3) := by decide +kernel
theorem dX5_leastAt_31 : decode cX5_leastAt 31 = .ok (.iload_n 1, 1) := by decide +kernel
theorem dX5_leastAt_32 : decode cX5_leastAt 32 = .ok (.iadd, 1) := by decide +kernel
theorem dX5_leastAt_33 : decode cX5_leastAt 33 = .ok (.iload 7, 2) := by decide +kernel
theorem dX5_leastAt_35 : decode cX5_leastAt 35 = .ok (.iastore, 1) := by decide +kernel
theorem dX5_leastAt_36 : decode cX5_leastAt 36 = .ok (.aload_n 0, 1) := by decide +kernel
theorem dX5_leastAt_37 : decode cX5_leastAt 37 = .ok (.sipush 200, 3) := by decide +kernel
theorem dX5_leastAt_40 : decode cX5_leastAt 40 = .ok (.iload_n 3, 1) := by decide +kernel
theorem dX5_leastAt_41 : decode cX5_leastAt 41 = .ok (.invokevirtual 187, 3) := by decide +kernel
theorem dX5_leastAt_44 : decode cX5_leastAt 44 = .ok (.istore 8, 2) := by decide +kernel
theorem dX5_leastAt_46 : decode cX5_leastAt 46 = .ok (.iload 8, 2) := by decide +kernel
theorem dX5_leastAt_48 : decode cX5_leastAt 48 = .ok (.iload 5, 2) := by decide +kernel
theorem dX5_leastAt_50 : decode cX5_leastAt 50 = .ok (.if_icmp .ge 8, 3) := by decide +kernel
theorem dX5_leastAt_53 : decode cX5_leastAt 53 = .ok (.iload 7, 2) := by decide +kernel
theorem dX5_leastAt_55 : decode cX5_leastAt 55 = .ok (.goto 5, 3) := by decide +kernel
theorem dX5_leastAt_58 : decode cX5_leastAt 58 = .ok (.iload 6, 2) := by decide +kernel
theorem dX5_leastAt_60 : decode cX5_leastAt 60 = .ok (.istore 6, 2) := by decide +kernel
theorem dX5_leastAt_62 : decode cX5_leastAt 62 = .ok (.iload 8, 2) := by decide +kernel
theorem dX5_leastAt_64 : decode cX5_leastAt 64 = .ok (.iload 5, 2) := by decide +kernel
theorem dX5_leastAt_66 : decode cX5_leastAt 66 = .ok (.if_icmp .ge 8, 3) := by decide +kernel
theorem dX5_leastAt_69 : decode cX5_leastAt 69 = .ok (.iload 8, 2) := by decide +kernel
theorem dX5_leastAt_71 : decode cX5_leastAt 71 = .ok (.goto 5, 3) := by decide +kernel
theorem dX5_leastAt_74 : decode cX5_leastAt 74 = .ok (.iload 5, 2) := by decide +kernel
theorem dX5_leastAt_76 : decode cX5_leastAt 76 = .ok (.istore 5, 2) := by decide +kernel
theorem dX5_leastAt_78 : decode cX5_leastAt 78 = .ok (.iinc 7 1, 3) := by decide +kernel
theorem dX5_leastAt_81 : decode cX5_leastAt 81 = .ok (.goto (-63), 3) := by decide +kernel
theorem dX5_leastAt_84 : decode cX5_leastAt 84 = .ok (.iload 4, 2) := by decide +kernel
theorem dX5_leastAt_86 : decode cX5_leastAt 86 = .ok (.ifCond .ne 8, 3) := by decide +kernel
theorem dX5_leastAt_89 : decode cX5_leastAt 89 = .ok (.iload 6, 2) := by decide +kernel
theorem dX5_leastAt_91 : decode cX5_leastAt 91 = .ok (.goto 5, 3) := by decide +kernel
theorem dX5_leastAt_94 : decode cX5_leastAt 94 = .ok (.iload 5, 2) := by decide +kernel
theorem dX5_leastAt_96 : decode cX5_leastAt 96 = .ok (.ireturn, 1) := by decide +kernel
set_option maxRecDepth 20000 in
theorem ggX5_slack_X5_isArm : GoodIn wsX5_slack wsX5_isArm := goodIn_r _ [5, 6, 7, 8, 4, 9, 61, 62, 63, 64, 65, 66, 67, 68, 69, 70, 71, 72, 73, 74, 75, 76, 77, 78, 79, 80, 81, 82, 83, 84] (by decide +kernel) (by decide +kernel)
set_option maxRecDepth 20000 in
theorem gX5_slack_X5_isArm : GoodIn wsX5_slack (wsV RX5 148 RX5 yX5_isArm wsX5_isArm) := goodIn_app (goodIn_of _ (by decide +kernel)) ggX5_slack_X5_isArm
set_option maxRecDepth 20000 in
theorem ggX5_slack_X5_isLong : GoodIn wsX5_slack wsX5_isLong := goodIn_r _ [12, 13, 7, 8, 4, 9] (by decide +kernel) (by decide +kernel)
set_option maxRecDepth 20000 in
theorem gX5_slack_X5_isLong : GoodIn wsX5_slack (va_wsS RX5 182 yX5_isLong wsX5_isLong) := goodIn_app (goodIn_of _ (by decide +kernel)) ggX5_slack_X5_isLong
set_option maxRecDepth 20000 in
theorem ggX5_slack_X5_in : GoodIn wsX5_slack wsX5_in := goodIn_r _ [9] (by decide +kernel) (by decide +kernel)
set_option maxRecDepth 20000 in
theorem gX5_slack_X5_in : GoodIn wsX5_slack (va_wsS RX5 46 yX5_in wsX5_in) := goodIn_app (goodIn_of _ (by decide +kernel)) ggX5_slack_X5_in
set_option maxRecDepth 20000 in
theorem ggX5_slack_X5_leastAt : GoodIn wsX5_slack wsX5_leastAt := goodIn_r _ [17, 18, 6, 19, 20, 21, 4, 22, 23, 24, 25, 26, 27, 28, 29, 30, 31, 32, 33, 34, 35, 36, 37, 38, 39, 40, 41, 42, 43, 44, 45, 46, 47, 48, 49, 50, 51, 52, 53, 54, 55, 56, 57, 58, 59, 60, 61, 62, 63, 64, 65, 66, 67, 68, 69, 70, 71, 72, 73, 74, 75, 76, 77, 78, 79, 80, 81, 82, 83, 84] (by decide +kernel) (by decide +kernel)
set_option maxRecDepth 20000 in
theorem gX5_slack_X5_leastAt : GoodIn wsX5_slack (wsV RX5 194 RX5 yX5_leastAt wsX5_leastAt) := goodIn_app (goodIn_of _ (by decide +kernel)) ggX5_slack_X5_leastAt
theorem dX5_slack_0 : decode cX5_slack 0 = .ok (.aload_n 0, 1) := by decide +kernel
theorem dX5_slack_1 : decode cX5_slack 1 = .ok (.iload_n 1, 1) := by decide +kernel
theorem dX5_slack_2 : decode cX5_slack 2 = .ok (.invokevirtual 148, 3) := by decide +kernel
theorem dX5_slack_5 : decode cX5_slack 5 = .ok (.ifCond .eq 34, 3) := by decide +kernel
theorem dX5_slack_8 : decode cX5_slack 8 = .ok (.iload_n 2, 1) := by decide +kernel
theorem dX5_slack_9 : decode cX5_slack 9 = .ok (.invokestatic 182, 3) := by decide +kernel
theorem dX5_slack_12 : decode cX5_slack 12 = .ok (.ifCond .eq 27, 3) := by decide +kernel
theorem dX5_slack_15 : decode cX5_slack 15 = .ok (.iload_n 3, 1) := by decide +kernel
theorem dX5_slack_16 : decode cX5_slack 16 = .ok (.i2l, 1) := by decide +kernel
theorem dX5_slack_17 : decode cX5_slack 17 = .ok (.lconst 0, 1) := by decide +kernel
theorem dX5_slack_18 : decode cX5_slack 18 = .ok (.lconst 1, 1) := by decide +kernel
theorem dX5_slack_19 : decode cX5_slack 19 = .ok (.invokestatic 46, 3) := by decide +kernel
theorem dX5_slack_22 : decode cX5_slack 22 = .ok (.ifCond .eq 17, 3) := by decide +kernel
theorem dX5_slack_25 : decode cX5_slack 25 = .ok (.aload_n 0, 1) := by decide +kernel
theorem dX5_slack_26 : decode cX5_slack 26 = .ok (.iconst 4, 1) := by decide +kernel
theorem dX5_slack_27 : decode cX5_slack 27 = .ok (.iload_n 1, 1) := by decide +kernel
theorem dX5_slack_28 : decode cX5_slack 28 = .ok (.iadd, 1) := by decide +kernel
theorem dX5_slack_29 : decode cX5_slack 29 = .ok (.bipush 10, 2) := by decide +kernel
theorem dX5_slack_31 : decode cX5_slack 31 = .ok (.iload_n 2, 1) := by decide +kernel
theorem dX5_slack_32 : decode cX5_slack 32 = .ok (.iload_n 3, 1) := by decide +kernel
theorem dX5_slack_33 : decode cX5_slack 33 = .ok (.invokevirtual 194, 3) := by decide +kernel
theorem dX5_slack_36 : decode cX5_slack 36 = .ok (.goto 4, 3) := by decide +kernel
theorem dX5_slack_39 : decode cX5_slack 39 = .ok (.iconst (-1), 1) := by decide +kernel
theorem dX5_slack_40 : decode cX5_slack 40 = .ok (.ireturn, 1) := by decide +kernel
set_option maxRecDepth 20000 in
theorem ggX5_kind_X5_isArm : GoodIn wsX5_kind wsX5_isArm := goodIn_r _ [5, 6, 7, 8, 4, 9, 61, 62, 63, 64, 65, 66, 67, 68, 69, 70, 71, 72, 73, 74, 75, 76, 77, 78, 79, 80, 81, 82, 83, 84] (by decide +kernel) (by decide +kernel)
set_option maxRecDepth 20000 in
theorem gX5_kind_X5_isArm : GoodIn wsX5_kind (wsV RX5 148 RX5 yX5_isArm wsX5_isArm) := goodIn_app (goodIn_of _ (by decide +kernel)) ggX5_kind_X5_isArm
set_option maxRecDepth 20000 in
theorem ggX5_kind_X5_isLong : GoodIn wsX5_kind wsX5_isLong := goodIn_r _ [12, 13, 7, 8, 4, 9] (by decide +kernel) (by decide +kernel)
set_option maxRecDepth 20000 in
theorem gX5_kind_X5_isLong : GoodIn wsX5_kind (va_wsS RX5 182 yX5_isLong wsX5_isLong) := goodIn_app (goodIn_of _ (by decide +kernel)) ggX5_kind_X5_isLong
set_option maxRecDepth 20000 in
theorem ggX5_kind_X5_in : GoodIn wsX5_kind wsX5_in := goodIn_r _ [9] (by decide +kernel) (by decide +kernel)
set_option maxRecDepth 20000 in
theorem gX5_kind_X5_in : GoodIn wsX5_kind (va_wsS RX5 46 yX5_in wsX5_in) := goodIn_app (goodIn_of _ (by decide +kernel)) ggX5_kind_X5_in
set_option maxRecDepth 20000 in
theorem ggX5_kind_X5_leastAt : GoodIn wsX5_kind wsX5_leastAt := goodIn_r _ [17, 18, 6, 19, 20, 21, 4, 22, 23, 24, 25, 26, 27, 28, 29, 30, 31, 32, 33, 34, 35, 36, 37, 38, 39, 40, 41, 42, 43, 44, 45, 46, 47, 48, 49, 50, 51, 52, 53, 54, 55, 56, 57, 58, 59, 60, 61, 62, 63, 64, 65, 66, 67, 68, 69, 70, 71, 72, 73, 74, 75, 76, 77, 78, 79, 80, 81, 82, 83, 84] (by decide +kernel) (by decide +kernel)
set_option maxRecDepth 20000 in
theorem gX5_kind_X5_leastAt : GoodIn wsX5_kind (wsV RX5 194 RX5 yX5_leastAt wsX5_leastAt) := goodIn_app (goodIn_of _ (by decide +kernel)) ggX5_kind_X5_leastAt
theorem dX5_kind_0 : decode cX5_kind 0 = .ok (.aload_n 0, 1) := by decide +kernel
theorem dX5_kind_1 : decode cX5_kind 1 = .ok (.iload_n 1, 1) := by decide +kernel
theorem dX5_kind_2 : decode cX5_kind 2 = .ok (.invokevirtual 148, 3) := by decide +kernel
theorem dX5_kind_5 : decode cX5_kind 5 = .ok (.ifCond .eq 31, 3) := by decide +kernel
theorem dX5_kind_8 : decode cX5_kind 8 = .ok (.iload_n 2, 1) := by decide +kernel
theorem dX5_kind_9 : decode cX5_kind 9 = .ok (.invokestatic 182, 3) := by decide +kernel
theorem dX5_kind_12 : decode cX5_kind 12 = .ok (.ifCond .eq 24, 3) := by decide +kernel
theorem dX5_kind_15 : decode cX5_kind 15 = .ok (.iload_n 3, 1) := by decide +kernel
theorem dX5_kind_16 : decode cX5_kind 16 = .ok (.i2l, 1) := by decide +kernel
theorem dX5_kind_17 : decode cX5_kind 17 = .ok (.lconst 0, 1) := by decide +kernel
theorem dX5_kind_18 : decode cX5_kind 18 = .ok (.lconst 1, 1) := by decide +kernel
theorem dX5_kind_19 : decode cX5_kind 19 = .ok (.invokestatic 46, 3) := by decide +kernel
theorem dX5_kind_22 : decode cX5_kind 22 = .ok (.ifCond .eq 14, 3) := by decide +kernel
theorem dX5_kind_25 : decode cX5_kind 25 = .ok (.aload_n 0, 1) := by decide +kernel
theorem dX5_kind_26 : decode cX5_kind 26 = .ok (.iload_n 1, 1) := by decide +kernel
theorem dX5_kind_27 : decode cX5_kind 27 = .ok (.iconst 4, 1) := by decide +kernel
theorem dX5_kind_28 : decode cX5_kind 28 = .ok (.iload_n 2, 1) := by decide +kernel
theorem dX5_kind_29 : decode cX5_kind 29 = .ok (.iload_n 3, 1) := by decide +kernel
theorem dX5_kind_30 : decode cX5_kind 30 = .ok (.invokevirtual 194, 3) := by decide +kernel
theorem dX5_kind_33 : decode cX5_kind 33 = .ok (.goto 4, 3) := by decide +kernel
theorem dX5_kind_36 : decode cX5_kind 36 = .ok (.iconst (-1), 1) := by decide +kernel
theorem dX5_kind_37 : decode cX5_kind 37 = .ok (.ireturn, 1) := by decide +kernel
theorem dX5_changesOn_0 : decode cX5_changesOn 0 = .ok (.aload_n 0, 1) := by decide +kernel
theorem dX5_changesOn_1 : decode cX5_changesOn 1 = .ok (.getfield 7, 3) := by decide +kernel
theorem dX5_changesOn_4 : decode cX5_changesOn 4 = .ok (.iload_n 1, 1) := by decide +kernel
theorem dX5_changesOn_5 : decode cX5_changesOn 5 = .ok (.iload 4, 2) := by decide +kernel
theorem dX5_changesOn_7 : decode cX5_changesOn 7 = .ok (.iadd, 1) := by decide +kernel
theorem dX5_changesOn_8 : decode cX5_changesOn 8 = .ok (.iload_n 2, 1) := by decide +kernel
theorem dX5_changesOn_9 : decode cX5_changesOn 9 = .ok (.iadd, 1) := by decide +kernel
theorem dX5_changesOn_10 : decode cX5_changesOn 10 = .ok (.aload_n 0, 1) := by decide +kernel
theorem dX5_changesOn_11 : decode cX5_changesOn 11 = .ok (.getfield 7, 3) := by decide +kernel
theorem dX5_changesOn_14 : decode cX5_changesOn 14 = .ok (.iload 4, 2) := by decide +kernel
theorem dX5_changesOn_16 : decode cX5_changesOn 16 = .ok (.iload_n 3, 1) := by decide +kernel
theorem dX5_changesOn_17 : decode cX5_changesOn 17 = .ok (.iadd, 1) := by decide +kernel
theorem dX5_changesOn_18 : decode cX5_changesOn 18 = .ok (.iaload, 1) := by decide +kernel
theorem dX5_changesOn_19 : decode cX5_changesOn 19 = .ok (.iastore, 1) := by decide +kernel
theorem dX5_changesOn_20 : decode cX5_changesOn 20 = .ok (.aload_n 0, 1) := by decide +kernel
theorem dX5_changesOn_21 : decode cX5_changesOn 21 = .ok (.getfield 7, 3) := by decide +kernel
theorem dX5_changesOn_24 : decode cX5_changesOn 24 = .ok (.iload_n 1, 1) := by decide +kernel
theorem dX5_changesOn_25 : decode cX5_changesOn 25 = .ok (.iload 4, 2) := by decide +kernel
theorem dX5_changesOn_27 : decode cX5_changesOn 27 = .ok (.iadd, 1) := by decide +kernel
theorem dX5_changesOn_28 : decode cX5_changesOn 28 = .ok (.iload_n 3, 1) := by decide +kernel
theorem dX5_changesOn_29 : decode cX5_changesOn 29 = .ok (.iadd, 1) := by decide +kernel
theorem dX5_changesOn_30 : decode cX5_changesOn 30 = .ok (.aload_n 0, 1) := by decide +kernel
theorem dX5_changesOn_31 : decode cX5_changesOn 31 = .ok (.getfield 7, 3) := by decide +kernel
theorem dX5_changesOn_34 : decode cX5_changesOn 34 = .ok (.iload 4, 2) := by decide +kernel
theorem dX5_changesOn_36 : decode cX5_changesOn 36 = .ok (.iload_n 2, 1) := by decide +kernel
theorem dX5_changesOn_37 : decode cX5_changesOn 37 = .ok (.iadd, 1) := by decide +kernel
theorem dX5_changesOn_38 : decode cX5_changesOn 38 = .ok (.iaload, 1) := by decide +kernel
theorem dX5_changesOn_39 : decode cX5_changesOn 39 = .ok (.iastore, 1) := by decide +kernel
theorem dX5_changesOn_40 : decode cX5_changesOn 40 = .ok (.return_, 1) := by decide +kernel
set_option maxRecDepth 20000 in
theorem ggX5_swap_X5_isLong : GoodIn wsX5_swap wsX5_isLong := goodIn_r _ [5, 6, 7, 8, 4, 9] (by decide +kernel) (by decide +kernel)
set_option maxRecDepth 20000 in
theorem gX5_swap_X5_isLong : GoodIn wsX5_swap (va_wsS RX5 182 yX5_isLong wsX5_isLong) := goodIn_app (goodIn_of _ (by decide +kernel)) ggX5_swap_X5_isLong
set_option maxRecDepth 20000 in
theorem ggX5_swap_X5_in : GoodIn wsX5_swap wsX5_in := goodIn_r _ [9] (by decide +kernel) (by decide +kernel)
set_option maxRecDepth 20000 in
theorem gX5_swap_X5_in : GoodIn wsX5_swap (va_wsS RX5 46 yX5_in wsX5_in) := goodIn_app (goodIn_of _ (by decide +kernel)) ggX5_swap_X5_in
set_option maxRecDepth 20000 in
theorem ggX5_swap_X5_stepsGo : GoodIn wsX5_swap wsX5_stepsGo := goodIn_r _ [13, 14, 15, 16, 17, 18, 19, 4, 20, 1, 21, 22, 23, 24, 25, 26, 27, 28, 29, 30, 31, 32, 33, 34, 35, 36, 37, 38, 39, 40, 41, 42, 43, 44, 45, 46, 47, 48, 49, 50, 51, 56, 57, 58, 59, 60, 61, 62, 63, 64, 65, 66, 67, 68, 69, 70, 71, 72, 73, 74, 75, 76, 77, 78, 79] (by decide +kernel) (by decide +kernel)
set_option maxRecDepth 20000 in
theorem gX5_swap_X5_stepsGo : GoodIn wsX5_swap (wsV RX5 187 RX5 yX5_stepsGo wsX5_stepsGo) := goodIn_app (goodIn_of _ (by decide +kernel)) ggX5_swap_X5_stepsGo
set_option maxRecDepth 20000 in
theorem ggX5_swap_X5_copies : GoodIn wsX5_swap wsX5_copies := goodIn_r _ [20, 1, 56, 57, 58, 59, 60, 61, 62, 63, 64, 65, 66, 67, 68, 69, 70, 71, 72, 73, 74, 75, 76, 77, 78, 79] (by decide +kernel) (by decide +kernel)
set_option maxRecDepth 20000 in
theorem gX5_swap_X5_copies : GoodIn wsX5_swap (wsV RX5 176 RX5 yX5_copies wsX5_copies) := goodIn_app (goodIn_of _ (by decide +kernel)) ggX5_swap_X5_copies
set_option maxRecDepth 20000 in
theorem ggX5_swap_X5_changesOn : GoodIn wsX5_swap wsX5_changesOn := goodIn_r _ [55, 1, 56, 57, 58, 59, 60, 61, 62, 63, 64, 65, 66, 67, 68, 69, 70, 71, 72, 73, 74, 75, 76, 77, 78, 79] (by decide +kernel) (by decide +kernel)
set_option maxRecDepth 20000 in
theorem gX5_swap_X5_changesOn : GoodIn wsX5_swap (wsV RX5 198 RX5 yX5_changesOn wsX5_changesOn) := goodIn_app (goodIn_of _ (by decide +kernel)) ggX5_swap_X5_changesOn
theorem dX5_swap_0 : decode cX5_swap 0 = .ok (.iload_n 1, 1) := by decide +kernel
theorem dX5_swap_1 : decode cX5_swap 1 = .ok (.invokestatic 182, 3) := by decide +kernel
theorem dX5_swap_4 : decode cX5_swap 4 = .ok (.ifCond .eq 13, 3) := by decide +kernel
theorem dX5_swap_7 : decode cX5_swap 7 = .ok (.iload_n 2, 1) := by decide +kernel
theorem dX5_swap_8 : decode cX5_swap 8 = .ok (.i2l, 1) := by decide +kernel
theorem dX5_swap_9 : decode cX5_swap 9 = .ok (.lconst 0, 1) := by decide +kernel
theorem dX5_swap_10 : decode cX5_swap 10 = .ok (.lconst 1, 1) := by decide +kernel
theorem dX5_swap_11 : decode cX5_swap 11 = .ok (.invokestatic 46, 3) := by decide +kernel
theorem dX5_swap_14 : decode cX5_swap 14 = .ok (.ifCond .ne 5, 3) := by decide +kernel
theorem dX5_swap_17 : decode cX5_swap 17 = .ok (.iconst (-1), 1) := by decide +kernel
theorem dX5_swap_18 : decode cX5_swap 18 = .ok (.ireturn, 1) := by decide +kernel
theorem dX5_swap_19 : decode cX5_swap 19 = .ok (.aload_n 0, 1) := by decide +kernel
theorem dX5_swap_20 : decode cX5_swap 20 = .ok (.iconst 0, 1) := by decide +kernel
theorem dX5_swap_21 : decode cX5_swap 21 = .ok (.iload_n 1, 1) := by decide +kernel
theorem dX5_swap_22 : decode cX5_swap 22 = .ok (.invokevirtual 187, 3) := by decide +kernel
theorem dX5_swap_25 : decode cX5_swap 25 = .ok (.istore_n 3, 1) := by decide +kernel
theorem dX5_swap_26 : decode cX5_swap 26 = .ok (.bipush (-4), 2) := by decide +kernel
theorem dX5_swap_28 : decode cX5_swap 28 = .ok (.istore 4, 2) := by decide +kernel
theorem dX5_swap_30 : decode cX5_swap 30 = .ok (.iconst 0, 1) := by decide +kernel
theorem dX5_swap_31 : decode cX5_swap 31 = .ok (.istore 5, 2) := by decide +kernel
theorem dX5_swap_33 : decode cX5_swap 33 = .ok (.iload 5, 2) := by decide +kernel
theorem dX5_swap_35 : decode cX5_swap 35 = .ok (.aload_n 0, 1) := by decide +kernel
theorem dX5_swap_36 : decode cX5_swap 36 = .ok (.getfield 7, 3) := by decide +kernel
theorem dX5_swap_39 : decode cX5_swap 39 = .ok (.bipush 20, 2) := by decide +kernel
theorem dX5_swap_41 : decode cX5_swap 41 = .ok (.iaload, 1) := by decide +kernel
theorem dX5_swap_42 : decode cX5_swap 42 = .ok (.if_icmp .ge 122, 3) := by decide +kernel
theorem dX5_swap_45 : decode cX5_swap 45 = .ok (.iload 5, 2) := by decide +kernel
theorem dX5_swap_47 : decode cX5_swap 47 = .ok (.iconst 1, 1) := by decide +kernel
theorem dX5_swap_48 : decode cX5_swap 48 = .ok (.iadd, 1) := by decide +kernel
theorem dX5_swap_49 : decode cX5_swap 49 = .ok (.istore 6, 2) := by decide +kernel
theorem dX5_swap_51 : decode cX5_swap 51 = .ok (.iload 6, 2) := by decide +kernel
theorem dX5_swap_53 : decode cX5_swap 53 = .ok (.aload_n 0, 1) := by decide +kernel
theorem dX5_swap_54 : decode cX5_swap 54 = .ok (.getfield 7, 3) := by decide +kernel
theorem dX5_swap_57 : decode cX5_swap 57 = .ok (.bipush 20, 2) := by decide +kernel
theorem dX5_swap_59 : decode cX5_swap 59 = .ok (.iaload, 1) := by decide +kernel
theorem dX5_swap_60 : decode cX5_swap 60 = .ok (.if_icmp .ge 98, 3) := by decide +kernel
theorem dX5_swap_63 : decode cX5_swap 63 = .ok (.aload_n 0, 1) := by decide +kernel
theorem dX5_swap_64 : decode cX5_swap 64 = .ok (.iconst 0, 1) := by decide +kernel
theorem dX5_swap_65 : decode cX5_swap 65 = .ok (.sipush 200, 3) := by decide +kernel
theorem dX5_swap_68 : decode cX5_swap 68 = .ok (.invokevirtual 176, 3) := by decide +kernel
theorem dX5_swap_71 : decode cX5_swap 71 = .ok (.aload_n 0, 1) := by decide +kernel
theorem dX5_swap_72 : decode cX5_swap 72 = .ok (.sipush 200, 3) := by decide +kernel
theorem dX5_swap_75 : decode cX5_swap 75 = .ok (.iload 5, 2) := by decide +kernel
theorem dX5_swap_77 : decode cX5_swap 77 = .ok (.iload 6, 2) := by decide +kernel
theorem dX5_swap_79 : decode cX5_swap 79 = .ok (.iconst 0, 1) := by decide +kernel
theorem dX5_swap_80 : decode cX5_swap 80 = .ok (.invokevirtual 198, 3) := by decide +kernel
theorem dX5_swap_83 : decode cX5_swap 83 = .ok (.aload_n 0, 1) := by decide +kernel
theorem dX5_swap_84 : decode cX5_swap 84 = .ok (.sipush 200, 3) := by decide +kernel
theorem dX5_swap_87 : decode cX5_swap 87 = .ok (.iload 5, 2) := by decide +kernel
theorem dX5_swap_89 : decode cX5_swap 89 = .ok (.iload 6, 2) := by decide +kernel
theorem dX5_swap_91 : decode cX5_swap 91 = .ok (.iconst 4, 1) := by decide +kernel
theorem dX5_swap_92 : decode cX5_swap 92 = .ok (.invokevirtual 198, 3) := by decide +kernel
theorem dX5_swap_95 : decode cX5_swap 95 = .ok (.aload_n 0, 1) := by decide +kernel
theorem dX5_swap_96 : decode cX5_swap 96 = .ok (.sipush 200, 3) := by decide +kernel
theorem dX5_swap_99 : decode cX5_swap 99 = .ok (.iload 5, 2) := by decide +kernel
theorem dX5_swap_101 : decode cX5_swap 101 = .ok (.iload 6, 2) := by decide +kernel
theorem dX5_swap_103 : decode cX5_swap 103 = .ok (.bipush 12, 2) := by decide +kernel
theorem dX5_swap_105 : decode cX5_swap 105 = .ok (.invokevirtual 198, 3) := by decide +kernel
theorem dX5_swap_108 : decode cX5_swap 108 = .ok (.aload_n 0, 1) := by decide +kernel
theorem dX5_swap_109 : decode cX5_swap 109 = .ok (.sipush 200, 3) := by decide +kernel
theorem dX5_swap_112 : decode cX5_swap 112 = .ok (.iload_n 1, 1) := by decide +kernel
theorem dX5_swap_113 : decode cX5_swap 113 = .ok (.invokevirtual 187, 3) := by decide +kernel
theorem dX5_swap_116 : decode cX5_swap 116 = .ok (.istore 7, 2) := by decide +kernel
theorem dX5_swap_118 : decode cX5_swap 118 = .ok (.iload 7, 2) := by decide +kernel
theorem dX5_swap_120 : decode cX5_swap 120 = .ok (.iload_n 3, 1) := by decide +kernel
theorem dX5_swap_121 : decode cX5_swap 121 = .ok (.if_icmp .ge 14, 3) := by decide +kernel
theorem dX5_swap_124 : decode cX5_swap 124 = .ok (.bipush 10, 2) := by decide +kernel
theorem dX5_swap_126 : decode cX5_swap 126 = .ok (.iload 5, 2) := by decide +kernel
theorem dX5_swap_128 : decode cX5_swap 128 = .ok (.imul, 1) := by decide +kernel
theorem dX5_swap_129 : decode cX5_swap 129 = .ok (.iload 6, 2) := by decide +kernel
theorem dX5_swap_131 : decode cX5_swap 131 = .ok (.iadd, 1) := by decide +kernel
theorem dX5_swap_132 : decode cX5_swap 132 = .ok (.goto 5, 3) := by decide +kernel
theorem dX5_swap_135 : decode cX5_swap 135 = .ok (.iload 4, 2) := by decide +kernel
theorem dX5_swap_137 : decode cX5_swap 137 = .ok (.istore 4, 2) := by decide +kernel
theorem dX5_swap_139 : decode cX5_swap 139 = .ok (.iload 7, 2) := by decide +kernel
theorem dX5_swap_141 : decode cX5_swap 141 = .ok (.iload_n 3, 1) := by decide +kernel
theorem dX5_swap_142 : decode cX5_swap 142 = .ok (.if_icmp .ge 8, 3) := by decide +kernel
theorem dX5_swap_145 : decode cX5_swap 145 = .ok (.iload 7, 2) := by decide +kernel
theorem dX5_swap_147 : decode cX5_swap 147 = .ok (.goto 4, 3) := by decide +kernel
theorem dX5_swap_150 : decode cX5_swap 150 = .ok (.iload_n 3, 1) := by decide +kernel
theorem dX5_swap_151 : decode cX5_swap 151 = .ok (.istore_n 3, 1) := by decide +kernel
theorem dX5_swap_152 : decode cX5_swap 152 = .ok (.iinc 6 1, 3) := by decide +kernel
theorem dX5_swap_155 : decode cX5_swap 155 = .ok (.goto (-104), 3) := by decide +kernel
theorem dX5_swap_158 : decode cX5_swap 158 = .ok (.iinc 5 1, 3) := by decide +kernel
theorem dX5_swap_161 : decode cX5_swap 161 = .ok (.goto (-128), 3) := by decide +kernel
theorem dX5_swap_164 : decode cX5_swap 164 = .ok (.iload 4, 2) := by decide +kernel
theorem dX5_swap_166 : decode cX5_swap 166 = .ok (.bipush (-4), 2) := by decide +kernel
theorem dX5_swap_168 : decode cX5_swap 168 = .ok (.if_icmp .eq 7, 3) := by decide +kernel
theorem dX5_swap_171 : decode cX5_swap 171 = .ok (.iload_n 2, 1) := by decide +kernel
theorem dX5_swap_172 : decode cX5_swap 172 = .ok (.ifCond .ne 8, 3) := by decide +kernel
theorem dX5_swap_175 : decode cX5_swap 175 = .ok (.iload 4, 2) := by decide +kernel
theorem dX5_swap_177 : decode cX5_swap 177 = .ok (.goto 4, 3) := by decide +kernel
theorem dX5_swap_180 : decode cX5_swap 180 = .ok (.iload_n 3, 1) := by decide +kernel
theorem dX5_swap_181 : decode cX5_swap 181 = .ok (.ireturn, 1) := by decide +kernel
set_option maxRecDepth 20000 in
theorem ggX5_miss_X5_isLong : GoodIn wsX5_miss wsX5_isLong := goodIn_r _ [5, 6, 7, 8, 4, 9] (by decide +kernel) (by decide +kernel)
set_option maxRecDepth 20000 in
theorem gX5_miss_X5_isLong : GoodIn wsX5_miss (va_wsS RX5 182 yX5_isLong wsX5_isLong) := goodIn_app (goodIn_of _ (by decide +kernel)) ggX5_miss_X5_isLong
set_option maxRecDepth 20000 in
theorem ggX5_miss_X5_in : GoodIn wsX5_miss wsX5_in := goodIn_r _ [9] (by decide +kernel) (by decide +kernel)
set_option maxRecDepth 20000 in
theorem gX5_miss_X5_in : GoodIn wsX5_miss (va_wsS RX5 46 yX5_in wsX5_in) := goodIn_app (goodIn_of _ (by decide +kernel)) ggX5_miss_X5_in
set_option maxRecDepth 20000 in
theorem ggX5_miss_X5_stepsGo : GoodIn wsX5_miss wsX5_stepsGo := goodIn_r _ [13, 14, 15, 16, 17, 18, 19, 4, 20, 1, 21, 22, 23, 24, 25, 26, 27, 28, 29, 30, 31, 32, 33, 34, 35, 36, 37, 38, 39, 40, 41, 42, 43, 44, 45, 46, 47, 48, 49, 50, 51, 52, 53, 54, 55, 56, 57, 58, 59, 60, 61, 62, 63, 64, 65, 66, 67, 68, 69, 70, 71, 72, 73, 74, 75] (by decide +kernel) (by decide +kernel)
set_option maxRecDepth 20000 in
theorem gX5_miss_X5_stepsGo : GoodIn wsX5_miss (wsV RX5 187 RX5 yX5_stepsGo wsX5_stepsGo) := goodIn_app (goodIn_of _ (by decide +kernel)) ggX5_miss_X5_stepsGo
set_option maxRecDepth 20000 in
theorem ggX5_miss_X5_copies : GoodIn wsX5_miss wsX5_copies := goodIn_r _ [20, 1, 52, 53, 54, 55, 56, 57, 58, 59, 60, 61, 62, 63, 64, 65, 66, 67, 68, 69, 70, 71, 72, 73, 74, 75] (by decide +kernel) (by decide +kernel)
set_option maxRecDepth 20000 in
theorem gX5_miss_X5_copies : GoodIn wsX5_miss (wsV RX5 176 RX5 yX5_copies wsX5_copies) := goodIn_app (goodIn_of _ (by decide +kernel)) ggX5_miss_X5_copies
theorem dX5_miss_0 : decode cX5_miss 0 = .ok (.iload_n 1, 1) := by decide +kernel
theorem dX5_miss_1 : decode cX5_miss 1 = .ok (.invokestatic 182, 3) := by decide +kernel
theorem dX5_miss_4 : decode cX5_miss 4 = .ok (.ifCond .eq 13, 3) := by decide +kernel
theorem dX5_miss_7 : decode cX5_miss 7 = .ok (.iload_n 2, 1) := by decide +kernel
theorem dX5_miss_8 : decode cX5_miss 8 = .ok (.i2l, 1) := by decide +kernel
theorem dX5_miss_9 : decode cX5_miss 9 = .ok (.lconst 0, 1) := by decide +kernel
theorem dX5_miss_10 : decode cX5_miss 10 = .ok (.lconst 1, 1) := by decide +kernel
theorem dX5_miss_11 : decode cX5_miss 11 = .ok (.invokestatic 46, 3) := by decide +kernel
theorem dX5_miss_14 : decode cX5_miss 14 = .ok (.ifCond .ne 5, 3) := by decide +kernel
theorem dX5_miss_17 : decode cX5_miss 17 = .ok (.iconst (-1), 1) := by decide +kernel
theorem dX5_miss_18 : decode cX5_miss 18 = .ok (.ireturn, 1) := by decide +kernel
theorem dX5_miss_19 : decode cX5_miss 19 = .ok (.aload_n 0, 1) := by decide +kernel
theorem dX5_miss_20 : decode cX5_miss 20 = .ok (.iconst 0, 1) := by decide +kernel
theorem dX5_miss_21 : decode cX5_miss 21 = .ok (.iload_n 1, 1) := by decide +kernel
theorem dX5_miss_22 : decode cX5_miss 22 = .ok (.invokevirtual 187, 3) := by decide +kernel
theorem dX5_miss_25 : decode cX5_miss 25 = .ok (.istore_n 3, 1) := by decide +kernel
theorem dX5_miss_26 : decode cX5_miss 26 = .ok (.bipush (-4), 2) := by decide +kernel
theorem dX5_miss_28 : decode cX5_miss 28 = .ok (.istore 4, 2) := by decide +kernel
theorem dX5_miss_30 : decode cX5_miss 30 = .ok (.iconst 0, 1) := by decide +kernel
theorem dX5_miss_31 : decode cX5_miss 31 = .ok (.istore 5, 2) := by decide +kernel
theorem dX5_miss_33 : decode cX5_miss 33 = .ok (.iload 5, 2) := by decide +kernel
theorem dX5_miss_35 : decode cX5_miss 35 = .ok (.aload_n 0, 1) := by decide +kernel
theorem dX5_miss_36 : decode cX5_miss 36 = .ok (.getfield 7, 3) := by decide +kernel
theorem dX5_miss_39 : decode cX5_miss 39 = .ok (.bipush 37, 2) := by decide +kernel
theorem dX5_miss_41 : decode cX5_miss 41 = .ok (.iaload, 1) := by decide +kernel
theorem dX5_miss_42 : decode cX5_miss 42 = .ok (.if_icmp .ge 67, 3) := by decide +kernel
theorem dX5_miss_45 : decode cX5_miss 45 = .ok (.aload_n 0, 1) := by decide +kernel
theorem dX5_miss_46 : decode cX5_miss 46 = .ok (.iconst 0, 1) := by decide +kernel
theorem dX5_miss_47 : decode cX5_miss 47 = .ok (.sipush 200, 3) := by decide +kernel
theorem dX5_miss_50 : decode cX5_miss 50 = .ok (.invokevirtual 176, 3) := by decide +kernel
theorem dX5_miss_53 : decode cX5_miss 53 = .ok (.aload_n 0, 1) := by decide +kernel
theorem dX5_miss_54 : decode cX5_miss 54 = .ok (.getfield 7, 3) := by decide +kernel
theorem dX5_miss_57 : decode cX5_miss 57 = .ok (.sipush 221, 3) := by decide +kernel
theorem dX5_miss_60 : decode cX5_miss 60 = .ok (.iload 5, 2) := by decide +kernel
theorem dX5_miss_62 : decode cX5_miss 62 = .ok (.iadd, 1) := by decide +kernel
theorem dX5_miss_63 : decode cX5_miss 63 = .ok (.iconst 0, 1) := by decide +kernel
theorem dX5_miss_64 : decode cX5_miss 64 = .ok (.iastore, 1) := by decide +kernel
theorem dX5_miss_65 : decode cX5_miss 65 = .ok (.aload_n 0, 1) := by decide +kernel
theorem dX5_miss_66 : decode cX5_miss 66 = .ok (.sipush 200, 3) := by decide +kernel
theorem dX5_miss_69 : decode cX5_miss 69 = .ok (.iload_n 1, 1) := by decide +kernel
theorem dX5_miss_70 : decode cX5_miss 70 = .ok (.invokevirtual 187, 3) := by decide +kernel
theorem dX5_miss_73 : decode cX5_miss 73 = .ok (.istore 6, 2) := by decide +kernel
theorem dX5_miss_75 : decode cX5_miss 75 = .ok (.iload 6, 2) := by decide +kernel
theorem dX5_miss_77 : decode cX5_miss 77 = .ok (.iload_n 3, 1) := by decide +kernel
theorem dX5_miss_78 : decode cX5_miss 78 = .ok (.if_icmp .ge 8, 3) := by decide +kernel
theorem dX5_miss_81 : decode cX5_miss 81 = .ok (.iload 5, 2) := by decide +kernel
theorem dX5_miss_83 : decode cX5_miss 83 = .ok (.goto 5, 3) := by decide +kernel
theorem dX5_miss_86 : decode cX5_miss 86 = .ok (.iload 4, 2) := by decide +kernel
theorem dX5_miss_88 : decode cX5_miss 88 = .ok (.istore 4, 2) := by decide +kernel
theorem dX5_miss_90 : decode cX5_miss 90 = .ok (.iload 6, 2) := by decide +kernel
theorem dX5_miss_92 : decode cX5_miss 92 = .ok (.iload_n 3, 1) := by decide +kernel
theorem dX5_miss_93 : decode cX5_miss 93 = .ok (.if_icmp .ge 8, 3) := by decide +kernel
theorem dX5_miss_96 : decode cX5_miss 96 = .ok (.iload 6, 2) := by decide +kernel
theorem dX5_miss_98 : decode cX5_miss 98 = .ok (.goto 4, 3) := by decide +kernel
theorem dX5_miss_101 : decode cX5_miss 101 = .ok (.iload_n 3, 1) := by decide +kernel
theorem dX5_miss_102 : decode cX5_miss 102 = .ok (.istore_n 3, 1) := by decide +kernel
theorem dX5_miss_103 : decode cX5_miss 103 = .ok (.iinc 5 1, 3) := by decide +kernel
theorem dX5_miss_106 : decode cX5_miss 106 = .ok (.goto (-73), 3) := by decide +kernel
theorem dX5_miss_109 : decode cX5_miss 109 = .ok (.iload 4, 2) := by decide +kernel
theorem dX5_miss_111 : decode cX5_miss 111 = .ok (.bipush (-4), 2) := by decide +kernel
theorem dX5_miss_113 : decode cX5_miss 113 = .ok (.if_icmp .eq 7, 3) := by decide +kernel
theorem dX5_miss_116 : decode cX5_miss 116 = .ok (.iload_n 2, 1) := by decide +kernel
theorem dX5_miss_117 : decode cX5_miss 117 = .ok (.ifCond .ne 8, 3) := by decide +kernel
theorem dX5_miss_120 : decode cX5_miss 120 = .ok (.iload 4, 2) := by decide +kernel
theorem dX5_miss_122 : decode cX5_miss 122 = .ok (.goto 4, 3) := by decide +kernel
theorem dX5_miss_125 : decode cX5_miss 125 = .ok (.iload_n 3, 1) := by decide +kernel
theorem dX5_miss_126 : decode cX5_miss 126 = .ok (.ireturn, 1) := by decide +kernel
set_option maxRecDepth 20000 in
theorem ggX5_lead_X5_isLong : GoodIn wsX5_lead wsX5_isLong := goodIn_r _ [6, 7, 8, 9, 5, 10] (by decide +kernel) (by decide +kernel)
set_option maxRecDepth 20000 in
theorem gX5_lead_X5_isLong : GoodIn wsX5_lead (va_wsS RX5 182 yX5_isLong wsX5_isLong) := goodIn_app (goodIn_of _ (by decide +kernel)) ggX5_lead_X5_isLong
set_option maxRecDepth 20000 in
theorem ggX5_lead_X5_in : GoodIn wsX5_lead wsX5_in := goodIn_r _ [10] (by decide +kernel) (by decide +kernel)
set_option maxRecDepth 20000 in
theorem gX5_lead_X5_in : GoodIn wsX5_lead (va_wsS RX5 46 yX5_in wsX5_in) := goodIn_app (goodIn_of _ (by decide +kernel)) ggX5_lead_X5_in
set_option maxRecDepth 20000 in
theorem ggX5_lead_X5_copies : GoodIn wsX5_lead wsX5_copies := goodIn_r _ [14, 15, 53, 54, 55, 56, 57, 58, 59, 60, 61, 62, 63, 64, 65, 66, 67, 68, 69, 70, 71, 72, 73, 74, 75, 76] (by decide +kernel) (by decide +kernel)
set_option maxRecDepth 20000 in
theorem gX5_lead_X5_copies : GoodIn wsX5_lead (wsV RX5 176 RX5 yX5_copies wsX5_copies) := goodIn_app (goodIn_of _ (by decide +kernel)) ggX5_lead_X5_copies
set_option maxRecDepth 20000 in
theorem ggX5_lead_X5_handOn : GoodIn wsX5_lead wsX5_handOn := goodIn_r _ [19, 15, 20, 21, 22, 5, 23, 24, 25, 26, 27, 28, 29, 30, 31, 32, 33, 34, 35, 36, 37, 38, 39, 40, 53, 54, 55, 56, 57, 58, 59, 60, 61, 62, 63, 64, 65, 66, 67, 68, 69, 70, 71, 72, 73, 74, 75, 76] (by decide +kernel) (by decide +kernel)
set_option maxRecDepth 20000 in
theorem gX5_lead_X5_handOn : GoodIn wsX5_lead (wsV RX5 140 RX5 yX5_handOn wsX5_handOn) := goodIn_app (goodIn_of _ (by decide +kernel)) ggX5_lead_X5_handOn
set_option maxRecDepth 20000 in
theorem ggX5_lead_X5_stepsGo : GoodIn wsX5_lead wsX5_stepsGo := goodIn_r _ [44, 25, 24, 2, 11, 12, 13, 5, 14, 15, 45, 46, 47, 48, 16, 17, 18, 19, 20, 21, 22, 23, 26, 27, 28, 29, 30, 31, 32, 33, 34, 35, 36, 37, 38, 39, 40, 49, 50, 51, 52, 53, 54, 55, 56, 57, 58, 59, 60, 61, 62, 63, 64, 65, 66, 67, 68, 69, 70, 71, 72, 73, 74, 75, 76] (by decide +kernel) (by decide +kernel)
set_option maxRecDepth 20000 in
theorem gX5_lead_X5_stepsGo : GoodIn wsX5_lead (wsV RX5 187 RX5 yX5_stepsGo wsX5_stepsGo) := goodIn_app (goodIn_of _ (by decide +kernel)) ggX5_lead_X5_stepsGo
theorem dX5_lead_0 : decode cX5_lead 0 = .ok (.iload_n 1, 1) := by decide +kernel
theorem dX5_lead_1 : decode cX5_lead 1 = .ok (.invokestatic 182, 3) := by decide +kernel
theorem dX5_lead_4 : decode cX5_lead 4 = .ok (.ifCond .eq 13, 3) := by decide +kernel
theorem dX5_lead_7 : decode cX5_lead 7 = .ok (.iload_n 2, 1) := by decide +kernel
theorem dX5_lead_8 : decode cX5_lead 8 = .ok (.i2l, 1) := by decide +kernel
theorem dX5_lead_9 : decode cX5_lead 9 = .ok (.lconst 0, 1) := by decide +kernel
theorem dX5_lead_10 : decode cX5_lead 10 = .ok (.lconst 1, 1) := by decide +kernel
theorem dX5_lead_11 : decode cX5_lead 11 = .ok (.invokestatic 46, 3) := by decide +kernel
theorem dX5_lead_14 : decode cX5_lead 14 = .ok (.ifCond .ne 5, 3) := by decide +kernel
theorem dX5_lead_17 : decode cX5_lead 17 = .ok (.iconst (-1), 1) := by decide +kernel
theorem dX5_lead_18 : decode cX5_lead 18 = .ok (.ireturn, 1) := by decide +kernel
theorem dX5_lead_19 : decode cX5_lead 19 = .ok (.ldc 193, 2) := by decide +kernel
theorem dX5_lead_21 : decode cX5_lead 21 = .ok (.istore_n 3, 1) := by decide +kernel
theorem dX5_lead_22 : decode cX5_lead 22 = .ok (.iconst 0, 1) := by decide +kernel
theorem dX5_lead_23 : decode cX5_lead 23 = .ok (.istore 4, 2) := by decide +kernel
theorem dX5_lead_25 : decode cX5_lead 25 = .ok (.iconst 0, 1) := by decide +kernel
theorem dX5_lead_26 : decode cX5_lead 26 = .ok (.istore 5, 2) := by decide +kernel
theorem dX5_lead_28 : decode cX5_lead 28 = .ok (.iload 5, 2) := by decide +kernel
theorem dX5_lead_30 : decode cX5_lead 30 = .ok (.bipush 18, 2) := by decide +kernel
theorem dX5_lead_32 : decode cX5_lead 32 = .ok (.if_icmp .gt 72, 3) := by decide +kernel
theorem dX5_lead_35 : decode cX5_lead 35 = .ok (.aload_n 0, 1) := by decide +kernel
theorem dX5_lead_36 : decode cX5_lead 36 = .ok (.iconst 0, 1) := by decide +kernel
theorem dX5_lead_37 : decode cX5_lead 37 = .ok (.sipush 200, 3) := by decide +kernel
theorem dX5_lead_40 : decode cX5_lead 40 = .ok (.invokevirtual 176, 3) := by decide +kernel
theorem dX5_lead_43 : decode cX5_lead 43 = .ok (.aload_n 0, 1) := by decide +kernel
theorem dX5_lead_44 : decode cX5_lead 44 = .ok (.sipush 200, 3) := by decide +kernel
theorem dX5_lead_47 : decode cX5_lead 47 = .ok (.iload 5, 2) := by decide +kernel
theorem dX5_lead_49 : decode cX5_lead 49 = .ok (.bipush 9, 2) := by decide +kernel
theorem dX5_lead_51 : decode cX5_lead 51 = .ok (.isub, 1) := by decide +kernel
theorem dX5_lead_52 : decode cX5_lead 52 = .ok (.invokevirtual 140, 3) := by decide +kernel
theorem dX5_lead_55 : decode cX5_lead 55 = .ok (.aload_n 0, 1) := by decide +kernel
theorem dX5_lead_56 : decode cX5_lead 56 = .ok (.sipush 200, 3) := by decide +kernel
theorem dX5_lead_59 : decode cX5_lead 59 = .ok (.iload_n 1, 1) := by decide +kernel
theorem dX5_lead_60 : decode cX5_lead 60 = .ok (.invokevirtual 187, 3) := by decide +kernel
theorem dX5_lead_63 : decode cX5_lead 63 = .ok (.pop, 1) := by decide +kernel
theorem dX5_lead_64 : decode cX5_lead 64 = .ok (.aload_n 0, 1) := by decide +kernel
theorem dX5_lead_65 : decode cX5_lead 65 = .ok (.getfield 179, 3) := by decide +kernel
theorem dX5_lead_68 : decode cX5_lead 68 = .ok (.iload_n 3, 1) := by decide +kernel
theorem dX5_lead_69 : decode cX5_lead 69 = .ok (.if_icmp .ge 8, 3) := by decide +kernel
theorem dX5_lead_72 : decode cX5_lead 72 = .ok (.iload 5, 2) := by decide +kernel
theorem dX5_lead_74 : decode cX5_lead 74 = .ok (.goto 5, 3) := by decide +kernel
theorem dX5_lead_77 : decode cX5_lead 77 = .ok (.iload 4, 2) := by decide +kernel
theorem dX5_lead_79 : decode cX5_lead 79 = .ok (.istore 4, 2) := by decide +kernel
theorem dX5_lead_81 : decode cX5_lead 81 = .ok (.aload_n 0, 1) := by decide +kernel
theorem dX5_lead_82 : decode cX5_lead 82 = .ok (.getfield 179, 3) := by decide +kernel
theorem dX5_lead_85 : decode cX5_lead 85 = .ok (.iload_n 3, 1) := by decide +kernel
theorem dX5_lead_86 : decode cX5_lead 86 = .ok (.if_icmp .ge 10, 3) := by decide +kernel
theorem dX5_lead_89 : decode cX5_lead 89 = .ok (.aload_n 0, 1) := by decide +kernel
theorem dX5_lead_90 : decode cX5_lead 90 = .ok (.getfield 179, 3) := by decide +kernel
theorem dX5_lead_93 : decode cX5_lead 93 = .ok (.goto 4, 3) := by decide +kernel
theorem dX5_lead_96 : decode cX5_lead 96 = .ok (.iload_n 3, 1) := by decide +kernel
theorem dX5_lead_97 : decode cX5_lead 97 = .ok (.istore_n 3, 1) := by decide +kernel
theorem dX5_lead_98 : decode cX5_lead 98 = .ok (.iinc 5 1, 3) := by decide +kernel
theorem dX5_lead_101 : decode cX5_lead 101 = .ok (.goto (-73), 3) := by decide +kernel
theorem dX5_lead_104 : decode cX5_lead 104 = .ok (.iload_n 2, 1) := by decide +kernel
theorem dX5_lead_105 : decode cX5_lead 105 = .ok (.ifCond .ne 8, 3) := by decide +kernel
theorem dX5_lead_108 : decode cX5_lead 108 = .ok (.iload 4, 2) := by decide +kernel
theorem dX5_lead_110 : decode cX5_lead 110 = .ok (.goto 4, 3) := by decide +kernel
theorem dX5_lead_113 : decode cX5_lead 113 = .ok (.iload_n 3, 1) := by decide +kernel
theorem dX5_lead_114 : decode cX5_lead 114 = .ok (.ireturn, 1) := by decide +kernel
theorem dX5_lowest_0 : decode cX5_lowest 0 = .ok (.lload_n 0, 1) := by decide +kernel
theorem dX5_lowest_1 : decode cX5_lowest 1 = .ok (.lstore 5, 2) := by decide +kernel
theorem dX5_lowest_3 : decode cX5_lowest 3 = .ok (.lload_n 2, 1) := by decide +kernel
theorem dX5_lowest_4 : decode cX5_lowest 4 = .ok (.lstore 7, 2) := by decide +kernel
theorem dX5_lowest_6 : decode cX5_lowest 6 = .ok (.lload 7, 2) := by decide +kernel
theorem dX5_lowest_8 : decode cX5_lowest 8 = .ok (.lconst 0, 1) := by decide +kernel
theorem dX5_lowest_9 : decode cX5_lowest 9 = .ok (.lcmp, 1) := by decide +kernel
theorem dX5_lowest_10 : decode cX5_lowest 10 = .ok (.ifCond .eq 21, 3) := by decide +kernel
theorem dX5_lowest_13 : decode cX5_lowest 13 = .ok (.lload 5, 2) := by decide +kernel
theorem dX5_lowest_15 : decode cX5_lowest 15 = .ok (.lload 7, 2) := by decide +kernel
theorem dX5_lowest_17 : decode cX5_lowest 17 = .ok (.lrem, 1) := by decide +kernel
theorem dX5_lowest_18 : decode cX5_lowest 18 = .ok (.lstore 9, 2) := by decide +kernel
theorem dX5_lowest_20 : decode cX5_lowest 20 = .ok (.lload 7, 2) := by decide +kernel
theorem dX5_lowest_22 : decode cX5_lowest 22 = .ok (.lstore 5, 2) := by decide +kernel
theorem dX5_lowest_24 : decode cX5_lowest 24 = .ok (.lload 9, 2) := by decide +kernel
theorem dX5_lowest_26 : decode cX5_lowest 26 = .ok (.lstore 7, 2) := by decide +kernel
theorem dX5_lowest_28 : decode cX5_lowest 28 = .ok (.goto (-22), 3) := by decide +kernel
theorem dX5_lowest_31 : decode cX5_lowest 31 = .ok (.iload 4, 2) := by decide +kernel
theorem dX5_lowest_33 : decode cX5_lowest 33 = .ok (.ifCond .ne 7, 3) := by decide +kernel
theorem dX5_lowest_36 : decode cX5_lowest 36 = .ok (.lload_n 0, 1) := by decide +kernel
theorem dX5_lowest_37 : decode cX5_lowest 37 = .ok (.goto 4, 3) := by decide +kernel
theorem dX5_lowest_40 : decode cX5_lowest 40 = .ok (.lload_n 2, 1) := by decide +kernel
theorem dX5_lowest_41 : decode cX5_lowest 41 = .ok (.lload 5, 2) := by decide +kernel
theorem dX5_lowest_43 : decode cX5_lowest 43 = .ok (.ldiv, 1) := by decide +kernel
theorem dX5_lowest_44 : decode cX5_lowest 44 = .ok (.lreturn, 1) := by decide +kernel
set_option maxRecDepth 20000 in
theorem ggX5_byMisses_X5_copies : GoodIn wsX5_byMisses wsX5_copies := goodIn_r _ [6, 7, 44, 45, 46, 47, 48, 49, 50, 51, 52, 53, 54, 55, 56, 57, 58, 59, 60, 61, 62, 63, 64, 65, 66, 67] (by decide +kernel) (by decide +kernel)
set_option maxRecDepth 20000 in
theorem gX5_byMisses_X5_copies : GoodIn wsX5_byMisses (wsV RX5 176 RX5 yX5_copies wsX5_copies) := goodIn_app (goodIn_of _ (by decide +kernel)) ggX5_byMisses_X5_copies
set_option maxRecDepth 20000 in
theorem ggX5_byMisses_X5_stepOn : GoodIn wsX5_byMisses wsX5_stepOn := goodIn_r _ [11, 7, 12, 13, 14, 5, 15, 16, 17, 18, 19, 20, 21, 22, 23, 24, 25, 26, 27, 28, 29, 30, 31, 32, 33, 34, 35, 36, 44, 45, 46, 47, 48, 49, 50, 51, 52, 53, 54, 55, 56, 57, 58, 59, 60, 61, 62, 63, 64, 65, 66, 67] (by decide +kernel) (by decide +kernel)
set_option maxRecDepth 20000 in
theorem gX5_byMisses_X5_stepOn : GoodIn wsX5_byMisses (wsV RX5 172 RX5 yX5_stepOn wsX5_stepOn) := goodIn_app (goodIn_of _ (by decide +kernel)) ggX5_byMisses_X5_stepOn
set_option maxRecDepth 20000 in
theorem ggX5_byMisses_X5_errorOn : GoodIn wsX5_byMisses wsX5_errorOn := goodIn_r _ [40, 7, 34, 35, 5, 36, 44, 45, 46, 47, 48, 49, 50, 51, 52, 53, 54, 55, 56, 57, 58, 59, 60, 61, 62, 63, 64, 65, 66, 67] (by decide +kernel) (by decide +kernel)
set_option maxRecDepth 20000 in
theorem gX5_byMisses_X5_errorOn : GoodIn wsX5_byMisses (wsV RX5 145 RX5 yX5_errorOn wsX5_errorOn) := goodIn_app (goodIn_of _ (by decide +kernel)) ggX5_byMisses_X5_errorOn
set_option maxRecDepth 20000 in
theorem ggX5_byMisses_X5_lowest : GoodIn wsX5_byMisses wsX5_lowest := goodIn_r _ [43] (by decide +kernel) (by decide +kernel)
set_option maxRecDepth 20000 in
theorem gX5_byMisses_X5_lowest : GoodIn wsX5_byMisses (va_wsS RX5 204 yX5_lowest wsX5_lowest) := goodIn_app (goodIn_of _ (by decide +kernel)) ggX5_byMisses_X5_lowest
theorem dX5_byMisses_0 : decode cX5_byMisses 0 = .ok (.lconst 0, 1) := by decide +kernel
theorem dX5_byMisses_1 : decode cX5_byMisses 1 = .ok (.lstore 5, 2) := by decide +kernel
theorem dX5_byMisses_3 : decode cX5_byMisses 3 = .ok (.lconst 1, 1) := by decide +kernel
theorem dX5_byMisses_4 : decode cX5_byMisses 4 = .ok (.lstore 7, 2) := by decide +kernel
theorem dX5_byMisses_6 : decode cX5_byMisses 6 = .ok (.iconst 0, 1) := by decide +kernel
theorem dX5_byMisses_7 : decode cX5_byMisses 7 = .ok (.istore 9, 2) := by decide +kernel
theorem dX5_byMisses_9 : decode cX5_byMisses 9 = .ok (.iload 9, 2) := by decide +kernel
theorem dX5_byMisses_11 : decode cX5_byMisses 11 = .ok (.iload_n 3, 1) := by decide +kernel
theorem dX5_byMisses_12 : decode cX5_byMisses 12 = .ok (.if_icmp .ge 17, 3) := by decide +kernel
theorem dX5_byMisses_15 : decode cX5_byMisses 15 = .ok (.lload 7, 2) := by decide +kernel
theorem dX5_byMisses_17 : decode cX5_byMisses 17 = .ok (.ldc2_w 202, 3) := by decide +kernel
theorem dX5_byMisses_20 : decode cX5_byMisses 20 = .ok (.lmul, 1) := by decide +kernel
theorem dX5_byMisses_21 : decode cX5_byMisses 21 = .ok (.lstore 7, 2) := by decide +kernel
theorem dX5_byMisses_23 : decode cX5_byMisses 23 = .ok (.iinc 9 1, 3) := by decide +kernel
theorem dX5_byMisses_26 : decode cX5_byMisses 26 = .ok (.goto (-17), 3) := by decide +kernel
theorem dX5_byMisses_29 : decode cX5_byMisses 29 = .ok (.iconst 0, 1) := by decide +kernel
theorem dX5_byMisses_30 : decode cX5_byMisses 30 = .ok (.istore 9, 2) := by decide +kernel
theorem dX5_byMisses_32 : decode cX5_byMisses 32 = .ok (.iload 9, 2) := by decide +kernel
theorem dX5_byMisses_34 : decode cX5_byMisses 34 = .ok (.iconst 1, 1) := by decide +kernel
theorem dX5_byMisses_35 : decode cX5_byMisses 35 = .ok (.iload_n 3, 1) := by decide +kernel
theorem dX5_byMisses_36 : decode cX5_byMisses 36 = .ok (.ishl, 1) := by decide +kernel
theorem dX5_byMisses_37 : decode cX5_byMisses 37 = .ok (.if_icmp .ge 122, 3) := by decide +kernel
theorem dX5_byMisses_40 : decode cX5_byMisses 40 = .ok (.lconst 1, 1) := by decide +kernel
theorem dX5_byMisses_41 : decode cX5_byMisses 41 = .ok (.lstore 10, 2) := by decide +kernel
theorem dX5_byMisses_43 : decode cX5_byMisses 43 = .ok (.aload_n 0, 1) := by decide +kernel
