theorem dX5_byMisses_44 : decode cX5_byMisses 44 = .ok (.iconst 0, 1) := by decide +kernel
theorem dX5_byMisses_45 : decode cX5_byMisses 45 = .ok (.sipush 160, 3) := by decide +kernel
theorem dX5_byMisses_48 : decode cX5_byMisses 48 = .ok (.invokevirtual 176, 3) := by decide +kernel
theorem dX5_byMisses_51 : decode cX5_byMisses 51 = .ok (.iconst 0, 1) := by decide +kernel
theorem dX5_byMisses_52 : decode cX5_byMisses 52 = .ok (.istore 12, 2) := by decide +kernel
theorem dX5_byMisses_54 : decode cX5_byMisses 54 = .ok (.iload 12, 2) := by decide +kernel
theorem dX5_byMisses_56 : decode cX5_byMisses 56 = .ok (.iload_n 3, 1) := by decide +kernel
theorem dX5_byMisses_57 : decode cX5_byMisses 57 = .ok (.if_icmp .ge 56, 3) := by decide +kernel
theorem dX5_byMisses_60 : decode cX5_byMisses 60 = .ok (.iload 9, 2) := by decide +kernel
theorem dX5_byMisses_62 : decode cX5_byMisses 62 = .ok (.iload 12, 2) := by decide +kernel
theorem dX5_byMisses_64 : decode cX5_byMisses 64 = .ok (.ishr, 1) := by decide +kernel
theorem dX5_byMisses_65 : decode cX5_byMisses 65 = .ok (.iconst 1, 1) := by decide +kernel
theorem dX5_byMisses_66 : decode cX5_byMisses 66 = .ok (.iand, 1) := by decide +kernel
theorem dX5_byMisses_67 : decode cX5_byMisses 67 = .ok (.iconst 1, 1) := by decide +kernel
theorem dX5_byMisses_68 : decode cX5_byMisses 68 = .ok (.if_icmp .ne 7, 3) := by decide +kernel
theorem dX5_byMisses_71 : decode cX5_byMisses 71 = .ok (.iconst 1, 1) := by decide +kernel
theorem dX5_byMisses_72 : decode cX5_byMisses 72 = .ok (.goto 4, 3) := by decide +kernel
theorem dX5_byMisses_75 : decode cX5_byMisses 75 = .ok (.iconst 0, 1) := by decide +kernel
theorem dX5_byMisses_76 : decode cX5_byMisses 76 = .ok (.istore 13, 2) := by decide +kernel
theorem dX5_byMisses_78 : decode cX5_byMisses 78 = .ok (.lload 10, 2) := by decide +kernel
theorem dX5_byMisses_80 : decode cX5_byMisses 80 = .ok (.iload 13, 2) := by decide +kernel
theorem dX5_byMisses_82 : decode cX5_byMisses 82 = .ok (.ifCond .eq 8, 3) := by decide +kernel
theorem dX5_byMisses_85 : decode cX5_byMisses 85 = .ok (.iload_n 1, 1) := by decide +kernel
theorem dX5_byMisses_86 : decode cX5_byMisses 86 = .ok (.i2l, 1) := by decide +kernel
theorem dX5_byMisses_87 : decode cX5_byMisses 87 = .ok (.goto 8, 3) := by decide +kernel
theorem dX5_byMisses_90 : decode cX5_byMisses 90 = .ok (.bipush 10, 2) := by decide +kernel
theorem dX5_byMisses_92 : decode cX5_byMisses 92 = .ok (.iload_n 1, 1) := by decide +kernel
theorem dX5_byMisses_93 : decode cX5_byMisses 93 = .ok (.isub, 1) := by decide +kernel
theorem dX5_byMisses_94 : decode cX5_byMisses 94 = .ok (.i2l, 1) := by decide +kernel
theorem dX5_byMisses_95 : decode cX5_byMisses 95 = .ok (.lmul, 1) := by decide +kernel
theorem dX5_byMisses_96 : decode cX5_byMisses 96 = .ok (.lstore 10, 2) := by decide +kernel
theorem dX5_byMisses_98 : decode cX5_byMisses 98 = .ok (.aload_n 0, 1) := by decide +kernel
theorem dX5_byMisses_99 : decode cX5_byMisses 99 = .ok (.sipush 160, 3) := by decide +kernel
theorem dX5_byMisses_102 : decode cX5_byMisses 102 = .ok (.iload 13, 2) := by decide +kernel
theorem dX5_byMisses_104 : decode cX5_byMisses 104 = .ok (.invokevirtual 172, 3) := by decide +kernel
theorem dX5_byMisses_107 : decode cX5_byMisses 107 = .ok (.iinc 12 1, 3) := by decide +kernel
theorem dX5_byMisses_110 : decode cX5_byMisses 110 = .ok (.goto (-56), 3) := by decide +kernel
theorem dX5_byMisses_113 : decode cX5_byMisses 113 = .ok (.aload_n 0, 1) := by decide +kernel
theorem dX5_byMisses_114 : decode cX5_byMisses 114 = .ok (.sipush 160, 3) := by decide +kernel
theorem dX5_byMisses_117 : decode cX5_byMisses 117 = .ok (.invokevirtual 145, 3) := by decide +kernel
theorem dX5_byMisses_120 : decode cX5_byMisses 120 = .ok (.istore 12, 2) := by decide +kernel
theorem dX5_byMisses_122 : decode cX5_byMisses 122 = .ok (.lload 5, 2) := by decide +kernel
theorem dX5_byMisses_124 : decode cX5_byMisses 124 = .ok (.lload 10, 2) := by decide +kernel
theorem dX5_byMisses_126 : decode cX5_byMisses 126 = .ok (.iload_n 2, 1) := by decide +kernel
theorem dX5_byMisses_127 : decode cX5_byMisses 127 = .ok (.bipush (-4), 2) := by decide +kernel
theorem dX5_byMisses_129 : decode cX5_byMisses 129 = .ok (.if_icmp .ne 8, 3) := by decide +kernel
theorem dX5_byMisses_132 : decode cX5_byMisses 132 = .ok (.iload 12, 2) := by decide +kernel
theorem dX5_byMisses_134 : decode cX5_byMisses 134 = .ok (.goto 14, 3) := by decide +kernel
theorem dX5_byMisses_137 : decode cX5_byMisses 137 = .ok (.iload 12, 2) := by decide +kernel
theorem dX5_byMisses_139 : decode cX5_byMisses 139 = .ok (.iload_n 2, 1) := by decide +kernel
theorem dX5_byMisses_140 : decode cX5_byMisses 140 = .ok (.if_icmp .gt 7, 3) := by decide +kernel
theorem dX5_byMisses_143 : decode cX5_byMisses 143 = .ok (.iconst 1, 1) := by decide +kernel
theorem dX5_byMisses_144 : decode cX5_byMisses 144 = .ok (.goto 4, 3) := by decide +kernel
theorem dX5_byMisses_147 : decode cX5_byMisses 147 = .ok (.iconst 0, 1) := by decide +kernel
theorem dX5_byMisses_148 : decode cX5_byMisses 148 = .ok (.i2l, 1) := by decide +kernel
theorem dX5_byMisses_149 : decode cX5_byMisses 149 = .ok (.lmul, 1) := by decide +kernel
theorem dX5_byMisses_150 : decode cX5_byMisses 150 = .ok (.ladd, 1) := by decide +kernel
theorem dX5_byMisses_151 : decode cX5_byMisses 151 = .ok (.lstore 5, 2) := by decide +kernel
theorem dX5_byMisses_153 : decode cX5_byMisses 153 = .ok (.iinc 9 1, 3) := by decide +kernel
theorem dX5_byMisses_156 : decode cX5_byMisses 156 = .ok (.goto (-124), 3) := by decide +kernel
theorem dX5_byMisses_159 : decode cX5_byMisses 159 = .ok (.lload 5, 2) := by decide +kernel
theorem dX5_byMisses_161 : decode cX5_byMisses 161 = .ok (.lload 7, 2) := by decide +kernel
theorem dX5_byMisses_163 : decode cX5_byMisses 163 = .ok (.iload 4, 2) := by decide +kernel
theorem dX5_byMisses_165 : decode cX5_byMisses 165 = .ok (.invokestatic 204, 3) := by decide +kernel
theorem dX5_byMisses_168 : decode cX5_byMisses 168 = .ok (.lreturn, 1) := by decide +kernel
set_option maxRecDepth 20000 in
theorem ggX5_luck_X5_in : GoodIn wsX5_luck wsX5_in := goodIn_r _ [8] (by decide +kernel) (by decide +kernel)
set_option maxRecDepth 20000 in
theorem gX5_luck_X5_in : GoodIn wsX5_luck (va_wsS RX5 46 yX5_in wsX5_in) := goodIn_app (goodIn_of _ (by decide +kernel)) ggX5_luck_X5_in
set_option maxRecDepth 20000 in
theorem ggX5_luck_X5_byMisses : GoodIn wsX5_luck wsX5_byMisses := goodIn_r _ [12, 1, 13, 14, 15, 7, 16, 17, 18, 19, 20, 21, 22, 23, 24, 25, 26, 27, 28, 29, 30, 31, 32, 33, 34, 35, 36, 37, 38, 39, 40, 41, 42, 43, 44, 45, 46, 47, 48, 49, 50, 51, 52, 53, 54, 55, 56, 57, 58, 59, 60, 61, 62, 63, 64, 65, 66, 67, 68, 69, 70, 71, 72, 73, 74, 75, 76, 77] (by decide +kernel) (by decide +kernel)
set_option maxRecDepth 20000 in
theorem gX5_luck_X5_byMisses : GoodIn wsX5_luck (wsV RX5 212 RX5 yX5_byMisses wsX5_byMisses) := goodIn_app (goodIn_of _ (by decide +kernel)) ggX5_luck_X5_byMisses
theorem dX5_luck_0 : decode cX5_luck 0 = .ok (.iload_n 1, 1) := by decide +kernel
theorem dX5_luck_1 : decode cX5_luck 1 = .ok (.i2l, 1) := by decide +kernel
theorem dX5_luck_2 : decode cX5_luck 2 = .ok (.lconst 0, 1) := by decide +kernel
theorem dX5_luck_3 : decode cX5_luck 3 = .ok (.ldc2_w 202, 3) := by decide +kernel
theorem dX5_luck_6 : decode cX5_luck 6 = .ok (.invokestatic 46, 3) := by decide +kernel
theorem dX5_luck_9 : decode cX5_luck 9 = .ok (.ifCond .eq 50, 3) := by decide +kernel
theorem dX5_luck_12 : decode cX5_luck 12 = .ok (.iload_n 2, 1) := by decide +kernel
theorem dX5_luck_13 : decode cX5_luck 13 = .ok (.i2l, 1) := by decide +kernel
theorem dX5_luck_14 : decode cX5_luck 14 = .ok (.lconst 0, 1) := by decide +kernel
theorem dX5_luck_15 : decode cX5_luck 15 = .ok (.ldc2_w 208, 3) := by decide +kernel
theorem dX5_luck_18 : decode cX5_luck 18 = .ok (.invokestatic 46, 3) := by decide +kernel
theorem dX5_luck_21 : decode cX5_luck 21 = .ok (.ifCond .eq 38, 3) := by decide +kernel
theorem dX5_luck_24 : decode cX5_luck 24 = .ok (.iload_n 3, 1) := by decide +kernel
theorem dX5_luck_25 : decode cX5_luck 25 = .ok (.i2l, 1) := by decide +kernel
theorem dX5_luck_26 : decode cX5_luck 26 = .ok (.lconst 0, 1) := by decide +kernel
theorem dX5_luck_27 : decode cX5_luck 27 = .ok (.ldc2_w 210, 3) := by decide +kernel
theorem dX5_luck_30 : decode cX5_luck 30 = .ok (.invokestatic 46, 3) := by decide +kernel
theorem dX5_luck_33 : decode cX5_luck 33 = .ok (.ifCond .eq 26, 3) := by decide +kernel
theorem dX5_luck_36 : decode cX5_luck 36 = .ok (.iload 4, 2) := by decide +kernel
theorem dX5_luck_38 : decode cX5_luck 38 = .ok (.i2l, 1) := by decide +kernel
theorem dX5_luck_39 : decode cX5_luck 39 = .ok (.lconst 0, 1) := by decide +kernel
theorem dX5_luck_40 : decode cX5_luck 40 = .ok (.lconst 1, 1) := by decide +kernel
theorem dX5_luck_41 : decode cX5_luck 41 = .ok (.invokestatic 46, 3) := by decide +kernel
theorem dX5_luck_44 : decode cX5_luck 44 = .ok (.ifCond .eq 15, 3) := by decide +kernel
theorem dX5_luck_47 : decode cX5_luck 47 = .ok (.aload_n 0, 1) := by decide +kernel
theorem dX5_luck_48 : decode cX5_luck 48 = .ok (.iload_n 1, 1) := by decide +kernel
theorem dX5_luck_49 : decode cX5_luck 49 = .ok (.iload_n 2, 1) := by decide +kernel
theorem dX5_luck_50 : decode cX5_luck 50 = .ok (.iload_n 3, 1) := by decide +kernel
theorem dX5_luck_51 : decode cX5_luck 51 = .ok (.iload 4, 2) := by decide +kernel
theorem dX5_luck_53 : decode cX5_luck 53 = .ok (.invokevirtual 212, 3) := by decide +kernel
theorem dX5_luck_56 : decode cX5_luck 56 = .ok (.goto 6, 3) := by decide +kernel
theorem dX5_luck_59 : decode cX5_luck 59 = .ok (.ldc2_w 216, 3) := by decide +kernel
theorem dX5_luck_62 : decode cX5_luck 62 = .ok (.lreturn, 1) := by decide +kernel
set_option maxRecDepth 20000 in
theorem ggX5_mean_X5_in : GoodIn wsX5_mean wsX5_in := goodIn_r _ [7] (by decide +kernel) (by decide +kernel)
set_option maxRecDepth 20000 in
theorem gX5_mean_X5_in : GoodIn wsX5_mean (va_wsS RX5 46 yX5_in wsX5_in) := goodIn_app (goodIn_of _ (by decide +kernel)) ggX5_mean_X5_in
set_option maxRecDepth 20000 in
theorem ggX5_mean_X5_byMisses : GoodIn wsX5_mean wsX5_byMisses := goodIn_r _ [11, 1, 12, 13, 14, 6, 15, 16, 17, 18, 19, 20, 21, 22, 23, 24, 25, 26, 27, 28, 29, 30, 31, 32, 33, 34, 35, 36, 37, 38, 39, 40, 41, 42, 43, 44, 45, 46, 47, 48, 49, 50, 51, 52, 53, 54, 55, 56, 57, 58, 59, 60, 61, 62, 63, 64, 65, 66, 67, 68, 69, 70, 71, 72, 73, 74, 75, 76] (by decide +kernel) (by decide +kernel)
set_option maxRecDepth 20000 in
theorem gX5_mean_X5_byMisses : GoodIn wsX5_mean (wsV RX5 212 RX5 yX5_byMisses wsX5_byMisses) := goodIn_app (goodIn_of _ (by decide +kernel)) ggX5_mean_X5_byMisses
theorem dX5_mean_0 : decode cX5_mean 0 = .ok (.iload_n 1, 1) := by decide +kernel
theorem dX5_mean_1 : decode cX5_mean 1 = .ok (.i2l, 1) := by decide +kernel
theorem dX5_mean_2 : decode cX5_mean 2 = .ok (.lconst 0, 1) := by decide +kernel
theorem dX5_mean_3 : decode cX5_mean 3 = .ok (.ldc2_w 202, 3) := by decide +kernel
theorem dX5_mean_6 : decode cX5_mean 6 = .ok (.invokestatic 46, 3) := by decide +kernel
theorem dX5_mean_9 : decode cX5_mean 9 = .ok (.ifCond .eq 37, 3) := by decide +kernel
theorem dX5_mean_12 : decode cX5_mean 12 = .ok (.iload_n 2, 1) := by decide +kernel
theorem dX5_mean_13 : decode cX5_mean 13 = .ok (.i2l, 1) := by decide +kernel
theorem dX5_mean_14 : decode cX5_mean 14 = .ok (.lconst 0, 1) := by decide +kernel
theorem dX5_mean_15 : decode cX5_mean 15 = .ok (.ldc2_w 210, 3) := by decide +kernel
theorem dX5_mean_18 : decode cX5_mean 18 = .ok (.invokestatic 46, 3) := by decide +kernel
theorem dX5_mean_21 : decode cX5_mean 21 = .ok (.ifCond .eq 25, 3) := by decide +kernel
theorem dX5_mean_24 : decode cX5_mean 24 = .ok (.iload_n 3, 1) := by decide +kernel
theorem dX5_mean_25 : decode cX5_mean 25 = .ok (.i2l, 1) := by decide +kernel
theorem dX5_mean_26 : decode cX5_mean 26 = .ok (.lconst 0, 1) := by decide +kernel
theorem dX5_mean_27 : decode cX5_mean 27 = .ok (.lconst 1, 1) := by decide +kernel
theorem dX5_mean_28 : decode cX5_mean 28 = .ok (.invokestatic 46, 3) := by decide +kernel
theorem dX5_mean_31 : decode cX5_mean 31 = .ok (.ifCond .eq 15, 3) := by decide +kernel
theorem dX5_mean_34 : decode cX5_mean 34 = .ok (.aload_n 0, 1) := by decide +kernel
theorem dX5_mean_35 : decode cX5_mean 35 = .ok (.iload_n 1, 1) := by decide +kernel
theorem dX5_mean_36 : decode cX5_mean 36 = .ok (.bipush (-4), 2) := by decide +kernel
theorem dX5_mean_38 : decode cX5_mean 38 = .ok (.iload_n 2, 1) := by decide +kernel
theorem dX5_mean_39 : decode cX5_mean 39 = .ok (.iload_n 3, 1) := by decide +kernel
theorem dX5_mean_40 : decode cX5_mean 40 = .ok (.invokevirtual 212, 3) := by decide +kernel
theorem dX5_mean_43 : decode cX5_mean 43 = .ok (.goto 6, 3) := by decide +kernel
theorem dX5_mean_46 : decode cX5_mean 46 = .ok (.ldc2_w 216, 3) := by decide +kernel
theorem dX5_mean_49 : decode cX5_mean 49 = .ok (.lreturn, 1) := by decide +kernel
set_option maxRecDepth 20000 in
theorem ggX5_see_X5_in : GoodIn wsX5_see wsX5_in := goodIn_r _ [8] (by decide +kernel) (by decide +kernel)
set_option maxRecDepth 20000 in
theorem gX5_see_X5_in : GoodIn wsX5_see (va_wsS RX5 46 yX5_in wsX5_in) := goodIn_app (goodIn_of _ (by decide +kernel)) ggX5_see_X5_in
set_option maxRecDepth 20000 in
theorem ggX5_see_X5_isArm : GoodIn wsX5_see wsX5_isArm := goodIn_r _ [12, 13, 5, 6, 7, 8, 19, 20, 21, 22, 23, 24, 25, 26, 27, 28, 29, 30, 31, 32, 33, 34, 35, 36, 37, 38, 39, 40, 41, 42] (by decide +kernel) (by decide +kernel)
set_option maxRecDepth 20000 in
theorem gX5_see_X5_isArm : GoodIn wsX5_see (wsV RX5 148 RX5 yX5_isArm wsX5_isArm) := goodIn_app (goodIn_of _ (by decide +kernel)) ggX5_see_X5_isArm
set_option maxRecDepth 20000 in
theorem ggX5_see_X5_isPlace : GoodIn wsX5_see wsX5_isPlace := goodIn_r _ [16, 17, 18, 5, 6, 7, 8] (by decide +kernel) (by decide +kernel)
set_option maxRecDepth 20000 in
theorem gX5_see_X5_isPlace : GoodIn wsX5_see (va_wsS RX5 190 yX5_isPlace wsX5_isPlace) := goodIn_app (goodIn_of _ (by decide +kernel)) ggX5_see_X5_isPlace
theorem dX5_see_0 : decode cX5_see 0 = .ok (.iload_n 1, 1) := by decide +kernel
theorem dX5_see_1 : decode cX5_see 1 = .ok (.i2l, 1) := by decide +kernel
theorem dX5_see_2 : decode cX5_see 2 = .ok (.lconst 0, 1) := by decide +kernel
theorem dX5_see_3 : decode cX5_see 3 = .ok (.ldc2_w 218, 3) := by decide +kernel
theorem dX5_see_6 : decode cX5_see 6 = .ok (.invokestatic 46, 3) := by decide +kernel
theorem dX5_see_9 : decode cX5_see 9 = .ok (.ifCond .eq 18, 3) := by decide +kernel
theorem dX5_see_12 : decode cX5_see 12 = .ok (.aload_n 0, 1) := by decide +kernel
theorem dX5_see_13 : decode cX5_see 13 = .ok (.iload_n 2, 1) := by decide +kernel
theorem dX5_see_14 : decode cX5_see 14 = .ok (.invokevirtual 148, 3) := by decide +kernel
theorem dX5_see_17 : decode cX5_see 17 = .ok (.ifCond .eq 10, 3) := by decide +kernel
theorem dX5_see_20 : decode cX5_see 20 = .ok (.iload_n 3, 1) := by decide +kernel
theorem dX5_see_21 : decode cX5_see 21 = .ok (.invokestatic 190, 3) := by decide +kernel
theorem dX5_see_24 : decode cX5_see 24 = .ok (.ifCond .ne 5, 3) := by decide +kernel
theorem dX5_see_27 : decode cX5_see 27 = .ok (.iconst (-1), 1) := by decide +kernel
theorem dX5_see_28 : decode cX5_see 28 = .ok (.ireturn, 1) := by decide +kernel
theorem dX5_see_29 : decode cX5_see 29 = .ok (.aload_n 0, 1) := by decide +kernel
theorem dX5_see_30 : decode cX5_see 30 = .ok (.getfield 110, 3) := by decide +kernel
theorem dX5_see_33 : decode cX5_see 33 = .ok (.bipush 6, 2) := by decide +kernel
theorem dX5_see_35 : decode cX5_see 35 = .ok (.if_icmp .ne 6, 3) := by decide +kernel
theorem dX5_see_38 : decode cX5_see 38 = .ok (.bipush (-3), 2) := by decide +kernel
theorem dX5_see_40 : decode cX5_see 40 = .ok (.ireturn, 1) := by decide +kernel
theorem dX5_see_41 : decode cX5_see 41 = .ok (.aload_n 0, 1) := by decide +kernel
theorem dX5_see_42 : decode cX5_see 42 = .ok (.getfield 25, 3) := by decide +kernel
theorem dX5_see_45 : decode cX5_see 45 = .ok (.iconst 3, 1) := by decide +kernel
theorem dX5_see_46 : decode cX5_see 46 = .ok (.aload_n 0, 1) := by decide +kernel
theorem dX5_see_47 : decode cX5_see 47 = .ok (.getfield 110, 3) := by decide +kernel
theorem dX5_see_50 : decode cX5_see 50 = .ok (.imul, 1) := by decide +kernel
theorem dX5_see_51 : decode cX5_see 51 = .ok (.iload_n 1, 1) := by decide +kernel
theorem dX5_see_52 : decode cX5_see 52 = .ok (.iastore, 1) := by decide +kernel
theorem dX5_see_53 : decode cX5_see 53 = .ok (.aload_n 0, 1) := by decide +kernel
theorem dX5_see_54 : decode cX5_see 54 = .ok (.getfield 25, 3) := by decide +kernel
theorem dX5_see_57 : decode cX5_see 57 = .ok (.iconst 3, 1) := by decide +kernel
theorem dX5_see_58 : decode cX5_see 58 = .ok (.aload_n 0, 1) := by decide +kernel
theorem dX5_see_59 : decode cX5_see 59 = .ok (.getfield 110, 3) := by decide +kernel
theorem dX5_see_62 : decode cX5_see 62 = .ok (.imul, 1) := by decide +kernel
theorem dX5_see_63 : decode cX5_see 63 = .ok (.iconst 1, 1) := by decide +kernel
theorem dX5_see_64 : decode cX5_see 64 = .ok (.iadd, 1) := by decide +kernel
theorem dX5_see_65 : decode cX5_see 65 = .ok (.iload_n 2, 1) := by decide +kernel
theorem dX5_see_66 : decode cX5_see 66 = .ok (.iastore, 1) := by decide +kernel
theorem dX5_see_67 : decode cX5_see 67 = .ok (.aload_n 0, 1) := by decide +kernel
theorem dX5_see_68 : decode cX5_see 68 = .ok (.getfield 25, 3) := by decide +kernel
theorem dX5_see_71 : decode cX5_see 71 = .ok (.iconst 3, 1) := by decide +kernel
theorem dX5_see_72 : decode cX5_see 72 = .ok (.aload_n 0, 1) := by decide +kernel
theorem dX5_see_73 : decode cX5_see 73 = .ok (.getfield 110, 3) := by decide +kernel
theorem dX5_see_76 : decode cX5_see 76 = .ok (.imul, 1) := by decide +kernel
theorem dX5_see_77 : decode cX5_see 77 = .ok (.iconst 2, 1) := by decide +kernel
theorem dX5_see_78 : decode cX5_see 78 = .ok (.iadd, 1) := by decide +kernel
theorem dX5_see_79 : decode cX5_see 79 = .ok (.iload_n 3, 1) := by decide +kernel
theorem dX5_see_80 : decode cX5_see 80 = .ok (.ldc 144, 2) := by decide +kernel
theorem dX5_see_82 : decode cX5_see 82 = .ok (.isub, 1) := by decide +kernel
theorem dX5_see_83 : decode cX5_see 83 = .ok (.iastore, 1) := by decide +kernel
theorem dX5_see_84 : decode cX5_see 84 = .ok (.aload_n 0, 1) := by decide +kernel
theorem dX5_see_85 : decode cX5_see 85 = .ok (.dup, 1) := by decide +kernel
theorem dX5_see_86 : decode cX5_see 86 = .ok (.getfield 110, 3) := by decide +kernel
theorem dX5_see_89 : decode cX5_see 89 = .ok (.iconst 1, 1) := by decide +kernel
theorem dX5_see_90 : decode cX5_see 90 = .ok (.iadd, 1) := by decide +kernel
theorem dX5_see_91 : decode cX5_see 91 = .ok (.putfield 110, 3) := by decide +kernel
theorem dX5_see_94 : decode cX5_see 94 = .ok (.aload_n 0, 1) := by decide +kernel
theorem dX5_see_95 : decode cX5_see 95 = .ok (.getfield 110, 3) := by decide +kernel
theorem dX5_see_98 : decode cX5_see 98 = .ok (.ireturn, 1) := by decide +kernel
set_option maxRecDepth 20000 in
theorem ggX5_forget_X5_in : GoodIn wsX5_forget wsX5_in := goodIn_r _ [5] (by decide +kernel) (by decide +kernel)
set_option maxRecDepth 20000 in
theorem gX5_forget_X5_in : GoodIn wsX5_forget (va_wsS RX5 46 yX5_in wsX5_in) := goodIn_app (goodIn_of _ (by decide +kernel)) ggX5_forget_X5_in
theorem dX5_forget_0 : decode cX5_forget 0 = .ok (.iload_n 1, 1) := by decide +kernel
theorem dX5_forget_1 : decode cX5_forget 1 = .ok (.i2l, 1) := by decide +kernel
theorem dX5_forget_2 : decode cX5_forget 2 = .ok (.lconst 0, 1) := by decide +kernel
theorem dX5_forget_3 : decode cX5_forget 3 = .ok (.aload_n 0, 1) := by decide +kernel
theorem dX5_forget_4 : decode cX5_forget 4 = .ok (.getfield 110, 3) := by decide +kernel
theorem dX5_forget_7 : decode cX5_forget 7 = .ok (.i2l, 1) := by decide +kernel
theorem dX5_forget_8 : decode cX5_forget 8 = .ok (.invokestatic 46, 3) := by decide +kernel
theorem dX5_forget_11 : decode cX5_forget 11 = .ok (.ifCond .ne 5, 3) := by decide +kernel
theorem dX5_forget_14 : decode cX5_forget 14 = .ok (.iconst (-1), 1) := by decide +kernel
theorem dX5_forget_15 : decode cX5_forget 15 = .ok (.ireturn, 1) := by decide +kernel
theorem dX5_forget_16 : decode cX5_forget 16 = .ok (.aload_n 0, 1) := by decide +kernel
theorem dX5_forget_17 : decode cX5_forget 17 = .ok (.getfield 110, 3) := by decide +kernel
theorem dX5_forget_20 : decode cX5_forget 20 = .ok (.istore_n 2, 1) := by decide +kernel
theorem dX5_forget_21 : decode cX5_forget 21 = .ok (.aload_n 0, 1) := by decide +kernel
theorem dX5_forget_22 : decode cX5_forget 22 = .ok (.iload_n 1, 1) := by decide +kernel
theorem dX5_forget_23 : decode cX5_forget 23 = .ok (.putfield 110, 3) := by decide +kernel
theorem dX5_forget_26 : decode cX5_forget 26 = .ok (.iload_n 2, 1) := by decide +kernel
theorem dX5_forget_27 : decode cX5_forget 27 = .ok (.ireturn, 1) := by decide +kernel
set_option maxRecDepth 20000 in
theorem ggX5_isAsSeen_X5_copies : GoodIn wsX5_isAsSeen wsX5_copies := goodIn_r _ [9, 2, 39, 40, 41, 42, 43, 44, 45, 46, 47, 48, 49, 50, 51, 52, 53, 54, 55, 56, 57, 58, 59, 60, 61, 62] (by decide +kernel) (by decide +kernel)
set_option maxRecDepth 20000 in
theorem gX5_isAsSeen_X5_copies : GoodIn wsX5_isAsSeen (wsV RX5 176 RX5 yX5_copies wsX5_copies) := goodIn_app (goodIn_of _ (by decide +kernel)) ggX5_isAsSeen_X5_copies
set_option maxRecDepth 20000 in
theorem ggX5_isAsSeen_X5_stepOn : GoodIn wsX5_isAsSeen wsX5_stepOn := goodIn_r _ [13, 2, 14, 15, 16, 8, 17, 18, 19, 20, 21, 22, 23, 24, 25, 26, 27, 28, 29, 30, 31, 32, 33, 34, 35, 36, 37, 38, 39, 40, 41, 42, 43, 44, 45, 46, 47, 48, 49, 50, 51, 52, 53, 54, 55, 56, 57, 58, 59, 60, 61, 62] (by decide +kernel) (by decide +kernel)
set_option maxRecDepth 20000 in
theorem gX5_isAsSeen_X5_stepOn : GoodIn wsX5_isAsSeen (wsV RX5 172 RX5 yX5_stepOn wsX5_stepOn) := goodIn_app (goodIn_of _ (by decide +kernel)) ggX5_isAsSeen_X5_stepOn
theorem dX5_isAsSeen_0 : decode cX5_isAsSeen 0 = .ok (.aload_n 0, 1) := by decide +kernel
theorem dX5_isAsSeen_1 : decode cX5_isAsSeen 1 = .ok (.iload_n 1, 1) := by decide +kernel
theorem dX5_isAsSeen_2 : decode cX5_isAsSeen 2 = .ok (.sipush 160, 3) := by decide +kernel
theorem dX5_isAsSeen_5 : decode cX5_isAsSeen 5 = .ok (.invokevirtual 176, 3) := by decide +kernel
theorem dX5_isAsSeen_8 : decode cX5_isAsSeen 8 = .ok (.iconst 1, 1) := by decide +kernel
theorem dX5_isAsSeen_9 : decode cX5_isAsSeen 9 = .ok (.istore_n 3, 1) := by decide +kernel
theorem dX5_isAsSeen_10 : decode cX5_isAsSeen 10 = .ok (.iconst 0, 1) := by decide +kernel
theorem dX5_isAsSeen_11 : decode cX5_isAsSeen 11 = .ok (.istore 4, 2) := by decide +kernel
theorem dX5_isAsSeen_13 : decode cX5_isAsSeen 13 = .ok (.iload 4, 2) := by decide +kernel
theorem dX5_isAsSeen_15 : decode cX5_isAsSeen 15 = .ok (.bipush 40, 2) := by decide +kernel
theorem dX5_isAsSeen_17 : decode cX5_isAsSeen 17 = .ok (.if_icmp .gt 151, 3) := by decide +kernel
theorem dX5_isAsSeen_20 : decode cX5_isAsSeen 20 = .ok (.aload_n 0, 1) := by decide +kernel
theorem dX5_isAsSeen_21 : decode cX5_isAsSeen 21 = .ok (.getfield 28, 3) := by decide +kernel
theorem dX5_isAsSeen_24 : decode cX5_isAsSeen 24 = .ok (.bipush 41, 2) := by decide +kernel
theorem dX5_isAsSeen_26 : decode cX5_isAsSeen 26 = .ok (.iload_n 2, 1) := by decide +kernel
theorem dX5_isAsSeen_27 : decode cX5_isAsSeen 27 = .ok (.imul, 1) := by decide +kernel
theorem dX5_isAsSeen_28 : decode cX5_isAsSeen 28 = .ok (.iload 4, 2) := by decide +kernel
theorem dX5_isAsSeen_30 : decode cX5_isAsSeen 30 = .ok (.iadd, 1) := by decide +kernel
theorem dX5_isAsSeen_31 : decode cX5_isAsSeen 31 = .ok (.aload_n 0, 1) := by decide +kernel
theorem dX5_isAsSeen_32 : decode cX5_isAsSeen 32 = .ok (.getfield 7, 3) := by decide +kernel
theorem dX5_isAsSeen_35 : decode cX5_isAsSeen 35 = .ok (.sipush 168, 3) := by decide +kernel
theorem dX5_isAsSeen_38 : decode cX5_isAsSeen 38 = .ok (.aload_n 0, 1) := by decide +kernel
theorem dX5_isAsSeen_39 : decode cX5_isAsSeen 39 = .ok (.getfield 7, 3) := by decide +kernel
theorem dX5_isAsSeen_42 : decode cX5_isAsSeen 42 = .ok (.bipush 20, 2) := by decide +kernel
theorem dX5_isAsSeen_44 : decode cX5_isAsSeen 44 = .ok (.iaload, 1) := by decide +kernel
theorem dX5_isAsSeen_45 : decode cX5_isAsSeen 45 = .ok (.iadd, 1) := by decide +kernel
theorem dX5_isAsSeen_46 : decode cX5_isAsSeen 46 = .ok (.iconst 1, 1) := by decide +kernel
theorem dX5_isAsSeen_47 : decode cX5_isAsSeen 47 = .ok (.isub, 1) := by decide +kernel
theorem dX5_isAsSeen_48 : decode cX5_isAsSeen 48 = .ok (.iaload, 1) := by decide +kernel
theorem dX5_isAsSeen_49 : decode cX5_isAsSeen 49 = .ok (.iastore, 1) := by decide +kernel
theorem dX5_isAsSeen_50 : decode cX5_isAsSeen 50 = .ok (.iconst 0, 1) := by decide +kernel
theorem dX5_isAsSeen_51 : decode cX5_isAsSeen 51 = .ok (.istore 5, 2) := by decide +kernel
theorem dX5_isAsSeen_53 : decode cX5_isAsSeen 53 = .ok (.iload 5, 2) := by decide +kernel
theorem dX5_isAsSeen_55 : decode cX5_isAsSeen 55 = .ok (.aload_n 0, 1) := by decide +kernel
theorem dX5_isAsSeen_56 : decode cX5_isAsSeen 56 = .ok (.getfield 110, 3) := by decide +kernel
theorem dX5_isAsSeen_59 : decode cX5_isAsSeen 59 = .ok (.if_icmp .ge 95, 3) := by decide +kernel
theorem dX5_isAsSeen_62 : decode cX5_isAsSeen 62 = .ok (.aload_n 0, 1) := by decide +kernel
theorem dX5_isAsSeen_63 : decode cX5_isAsSeen 63 = .ok (.getfield 25, 3) := by decide +kernel
theorem dX5_isAsSeen_66 : decode cX5_isAsSeen 66 = .ok (.iconst 3, 1) := by decide +kernel
theorem dX5_isAsSeen_67 : decode cX5_isAsSeen 67 = .ok (.iload 5, 2) := by decide +kernel
theorem dX5_isAsSeen_69 : decode cX5_isAsSeen 69 = .ok (.imul, 1) := by decide +kernel
theorem dX5_isAsSeen_70 : decode cX5_isAsSeen 70 = .ok (.iconst 1, 1) := by decide +kernel
theorem dX5_isAsSeen_71 : decode cX5_isAsSeen 71 = .ok (.iadd, 1) := by decide +kernel
theorem dX5_isAsSeen_72 : decode cX5_isAsSeen 72 = .ok (.iaload, 1) := by decide +kernel
theorem dX5_isAsSeen_73 : decode cX5_isAsSeen 73 = .ok (.istore 6, 2) := by decide +kernel
theorem dX5_isAsSeen_75 : decode cX5_isAsSeen 75 = .ok (.iload 6, 2) := by decide +kernel
theorem dX5_isAsSeen_77 : decode cX5_isAsSeen 77 = .ok (.aload_n 0, 1) := by decide +kernel
theorem dX5_isAsSeen_78 : decode cX5_isAsSeen 78 = .ok (.getfield 7, 3) := by decide +kernel
theorem dX5_isAsSeen_81 : decode cX5_isAsSeen 81 = .ok (.bipush 20, 2) := by decide +kernel
theorem dX5_isAsSeen_83 : decode cX5_isAsSeen 83 = .ok (.iaload, 1) := by decide +kernel
theorem dX5_isAsSeen_84 : decode cX5_isAsSeen 84 = .ok (.if_icmp .ge 32, 3) := by decide +kernel
theorem dX5_isAsSeen_87 : decode cX5_isAsSeen 87 = .ok (.aload_n 0, 1) := by decide +kernel
theorem dX5_isAsSeen_88 : decode cX5_isAsSeen 88 = .ok (.getfield 7, 3) := by decide +kernel
theorem dX5_isAsSeen_91 : decode cX5_isAsSeen 91 = .ok (.sipush 168, 3) := by decide +kernel
theorem dX5_isAsSeen_94 : decode cX5_isAsSeen 94 = .ok (.iload 6, 2) := by decide +kernel
theorem dX5_isAsSeen_96 : decode cX5_isAsSeen 96 = .ok (.iadd, 1) := by decide +kernel
theorem dX5_isAsSeen_97 : decode cX5_isAsSeen 97 = .ok (.iaload, 1) := by decide +kernel
theorem dX5_isAsSeen_98 : decode cX5_isAsSeen 98 = .ok (.aload_n 0, 1) := by decide +kernel
theorem dX5_isAsSeen_99 : decode cX5_isAsSeen 99 = .ok (.getfield 25, 3) := by decide +kernel
theorem dX5_isAsSeen_102 : decode cX5_isAsSeen 102 = .ok (.iconst 3, 1) := by decide +kernel
theorem dX5_isAsSeen_103 : decode cX5_isAsSeen 103 = .ok (.iload 5, 2) := by decide +kernel
theorem dX5_isAsSeen_105 : decode cX5_isAsSeen 105 = .ok (.imul, 1) := by decide +kernel
theorem dX5_isAsSeen_106 : decode cX5_isAsSeen 106 = .ok (.iconst 2, 1) := by decide +kernel
theorem dX5_isAsSeen_107 : decode cX5_isAsSeen 107 = .ok (.iadd, 1) := by decide +kernel
theorem dX5_isAsSeen_108 : decode cX5_isAsSeen 108 = .ok (.iaload, 1) := by decide +kernel
theorem dX5_isAsSeen_109 : decode cX5_isAsSeen 109 = .ok (.if_icmp .ne 7, 3) := by decide +kernel
theorem dX5_isAsSeen_112 : decode cX5_isAsSeen 112 = .ok (.iconst 1, 1) := by decide +kernel
theorem dX5_isAsSeen_113 : decode cX5_isAsSeen 113 = .ok (.goto 4, 3) := by decide +kernel
theorem dX5_isAsSeen_116 : decode cX5_isAsSeen 116 = .ok (.iconst 0, 1) := by decide +kernel
theorem dX5_isAsSeen_117 : decode cX5_isAsSeen 117 = .ok (.istore 7, 2) := by decide +kernel
theorem dX5_isAsSeen_119 : decode cX5_isAsSeen 119 = .ok (.iload_n 3, 1) := by decide +kernel
theorem dX5_isAsSeen_120 : decode cX5_isAsSeen 120 = .ok (.ifCond .eq 26, 3) := by decide +kernel
theorem dX5_isAsSeen_123 : decode cX5_isAsSeen 123 = .ok (.aload_n 0, 1) := by decide +kernel
theorem dX5_isAsSeen_124 : decode cX5_isAsSeen 124 = .ok (.getfield 25, 3) := by decide +kernel
theorem dX5_isAsSeen_127 : decode cX5_isAsSeen 127 = .ok (.iconst 3, 1) := by decide +kernel
theorem dX5_isAsSeen_128 : decode cX5_isAsSeen 128 = .ok (.iload 5, 2) := by decide +kernel
theorem dX5_isAsSeen_130 : decode cX5_isAsSeen 130 = .ok (.imul, 1) := by decide +kernel
theorem dX5_isAsSeen_131 : decode cX5_isAsSeen 131 = .ok (.iaload, 1) := by decide +kernel
theorem dX5_isAsSeen_132 : decode cX5_isAsSeen 132 = .ok (.iload 4, 2) := by decide +kernel
theorem dX5_isAsSeen_134 : decode cX5_isAsSeen 134 = .ok (.if_icmp .ne 8, 3) := by decide +kernel
theorem dX5_isAsSeen_137 : decode cX5_isAsSeen 137 = .ok (.iload 7, 2) := by decide +kernel
theorem dX5_isAsSeen_139 : decode cX5_isAsSeen 139 = .ok (.ifCond .eq 7, 3) := by decide +kernel
theorem dX5_isAsSeen_142 : decode cX5_isAsSeen 142 = .ok (.iconst 1, 1) := by decide +kernel
theorem dX5_isAsSeen_143 : decode cX5_isAsSeen 143 = .ok (.goto 4, 3) := by decide +kernel
theorem dX5_isAsSeen_146 : decode cX5_isAsSeen 146 = .ok (.iconst 0, 1) := by decide +kernel
theorem dX5_isAsSeen_147 : decode cX5_isAsSeen 147 = .ok (.istore_n 3, 1) := by decide +kernel
theorem dX5_isAsSeen_148 : decode cX5_isAsSeen 148 = .ok (.iinc 5 1, 3) := by decide +kernel
theorem dX5_isAsSeen_151 : decode cX5_isAsSeen 151 = .ok (.goto (-98), 3) := by decide +kernel
theorem dX5_isAsSeen_154 : decode cX5_isAsSeen 154 = .ok (.aload_n 0, 1) := by decide +kernel
theorem dX5_isAsSeen_155 : decode cX5_isAsSeen 155 = .ok (.sipush 160, 3) := by decide +kernel
theorem dX5_isAsSeen_158 : decode cX5_isAsSeen 158 = .ok (.iconst 0, 1) := by decide +kernel
theorem dX5_isAsSeen_159 : decode cX5_isAsSeen 159 = .ok (.invokevirtual 172, 3) := by decide +kernel
theorem dX5_isAsSeen_162 : decode cX5_isAsSeen 162 = .ok (.iinc 4 1, 3) := by decide +kernel
theorem dX5_isAsSeen_165 : decode cX5_isAsSeen 165 = .ok (.goto (-152), 3) := by decide +kernel
theorem dX5_isAsSeen_168 : decode cX5_isAsSeen 168 = .ok (.iload_n 3, 1) := by decide +kernel
theorem dX5_isAsSeen_169 : decode cX5_isAsSeen 169 = .ok (.ireturn, 1) := by decide +kernel
set_option maxRecDepth 20000 in
theorem ggX5_numbersAt_X5_copies : GoodIn wsX5_numbersAt wsX5_copies := goodIn_r _ [6, 1, 43, 44, 45, 46, 47, 48, 49, 50, 51, 52, 53, 54, 55, 56, 57, 58, 59, 60, 61, 62, 63, 64, 65, 66] (by decide +kernel) (by decide +kernel)
set_option maxRecDepth 20000 in
theorem gX5_numbersAt_X5_copies : GoodIn wsX5_numbersAt (wsV RX5 176 RX5 yX5_copies wsX5_copies) := goodIn_app (goodIn_of _ (by decide +kernel)) ggX5_numbersAt_X5_copies
set_option maxRecDepth 20000 in
theorem ggX5_numbersAt_X5_isAsSeen : GoodIn wsX5_numbersAt wsX5_isAsSeen := goodIn_r _ [10, 11, 1, 12, 13, 2, 3, 4, 5, 6, 14, 15, 16, 17, 18, 19, 20, 21, 22, 23, 24, 25, 26, 27, 28, 29, 30, 31, 32, 33, 34, 35, 36, 37, 38, 39, 40, 41, 42, 43, 44, 45, 46, 47, 48, 49, 50, 51, 52, 53, 54, 55, 56, 57, 58, 59, 60, 61, 62, 63, 64, 65, 66] (by decide +kernel) (by decide +kernel)
set_option maxRecDepth 20000 in
theorem gX5_numbersAt_X5_isAsSeen : GoodIn wsX5_numbersAt (wsV RX5 220 RX5 yX5_isAsSeen wsX5_isAsSeen) := goodIn_app (goodIn_of _ (by decide +kernel)) ggX5_numbersAt_X5_isAsSeen
theorem dX5_numbersAt_0 : decode cX5_numbersAt 0 = .ok (.iconst 0, 1) := by decide +kernel
theorem dX5_numbersAt_1 : decode cX5_numbersAt 1 = .ok (.istore_n 3, 1) := by decide +kernel
theorem dX5_numbersAt_2 : decode cX5_numbersAt 2 = .ok (.aload_n 0, 1) := by decide +kernel
theorem dX5_numbersAt_3 : decode cX5_numbersAt 3 = .ok (.iconst 0, 1) := by decide +kernel
theorem dX5_numbersAt_4 : decode cX5_numbersAt 4 = .ok (.sipush 200, 3) := by decide +kernel
theorem dX5_numbersAt_7 : decode cX5_numbersAt 7 = .ok (.invokevirtual 176, 3) := by decide +kernel
theorem dX5_numbersAt_10 : decode cX5_numbersAt 10 = .ok (.iconst 0, 1) := by decide +kernel
theorem dX5_numbersAt_11 : decode cX5_numbersAt 11 = .ok (.istore 4, 2) := by decide +kernel
theorem dX5_numbersAt_13 : decode cX5_numbersAt 13 = .ok (.iload 4, 2) := by decide +kernel
theorem dX5_numbersAt_15 : decode cX5_numbersAt 15 = .ok (.iload_n 2, 1) := by decide +kernel
theorem dX5_numbersAt_16 : decode cX5_numbersAt 16 = .ok (.if_icmp .ge 44, 3) := by decide +kernel
theorem dX5_numbersAt_19 : decode cX5_numbersAt 19 = .ok (.aload_n 0, 1) := by decide +kernel
theorem dX5_numbersAt_20 : decode cX5_numbersAt 20 = .ok (.getfield 7, 3) := by decide +kernel
theorem dX5_numbersAt_23 : decode cX5_numbersAt 23 = .ok (.sipush 200, 3) := by decide +kernel
theorem dX5_numbersAt_26 : decode cX5_numbersAt 26 = .ok (.iload_n 1, 1) := by decide +kernel
theorem dX5_numbersAt_27 : decode cX5_numbersAt 27 = .ok (.iadd, 1) := by decide +kernel
theorem dX5_numbersAt_28 : decode cX5_numbersAt 28 = .ok (.iload 4, 2) := by decide +kernel
theorem dX5_numbersAt_30 : decode cX5_numbersAt 30 = .ok (.iastore, 1) := by decide +kernel
theorem dX5_numbersAt_31 : decode cX5_numbersAt 31 = .ok (.iload_n 3, 1) := by decide +kernel
theorem dX5_numbersAt_32 : decode cX5_numbersAt 32 = .ok (.aload_n 0, 1) := by decide +kernel
theorem dX5_numbersAt_33 : decode cX5_numbersAt 33 = .ok (.sipush 200, 3) := by decide +kernel
theorem dX5_numbersAt_36 : decode cX5_numbersAt 36 = .ok (.iload 4, 2) := by decide +kernel
theorem dX5_numbersAt_38 : decode cX5_numbersAt 38 = .ok (.invokevirtual 220, 3) := by decide +kernel
theorem dX5_numbersAt_41 : decode cX5_numbersAt 41 = .ok (.ifCond .eq 10, 3) := by decide +kernel
theorem dX5_numbersAt_44 : decode cX5_numbersAt 44 = .ok (.iconst 1, 1) := by decide +kernel
theorem dX5_numbersAt_45 : decode cX5_numbersAt 45 = .ok (.iload 4, 2) := by decide +kernel
theorem dX5_numbersAt_47 : decode cX5_numbersAt 47 = .ok (.ishl, 1) := by decide +kernel
theorem dX5_numbersAt_48 : decode cX5_numbersAt 48 = .ok (.goto 4, 3) := by decide +kernel
theorem dX5_numbersAt_51 : decode cX5_numbersAt 51 = .ok (.iconst 0, 1) := by decide +kernel
theorem dX5_numbersAt_52 : decode cX5_numbersAt 52 = .ok (.ior, 1) := by decide +kernel
theorem dX5_numbersAt_53 : decode cX5_numbersAt 53 = .ok (.istore_n 3, 1) := by decide +kernel
theorem dX5_numbersAt_54 : decode cX5_numbersAt 54 = .ok (.iinc 4 1, 3) := by decide +kernel
theorem dX5_numbersAt_57 : decode cX5_numbersAt 57 = .ok (.goto (-44), 3) := by decide +kernel
theorem dX5_numbersAt_60 : decode cX5_numbersAt 60 = .ok (.iload_n 3, 1) := by decide +kernel
theorem dX5_numbersAt_61 : decode cX5_numbersAt 61 = .ok (.ireturn, 1) := by decide +kernel
set_option maxRecDepth 20000 in
theorem ggX5_kinds_X5_isArm : GoodIn wsX5_kinds wsX5_isArm := goodIn_r _ [5, 6, 7, 8, 4, 9, 54, 55, 56, 57, 58, 59, 60, 61, 62, 63, 64, 65, 66, 67, 68, 69, 70, 71, 72, 73, 74, 75, 76, 77] (by decide +kernel) (by decide +kernel)
set_option maxRecDepth 20000 in
theorem gX5_kinds_X5_isArm : GoodIn wsX5_kinds (wsV RX5 148 RX5 yX5_isArm wsX5_isArm) := goodIn_app (goodIn_of _ (by decide +kernel)) ggX5_kinds_X5_isArm
set_option maxRecDepth 20000 in
theorem ggX5_kinds_X5_numbersAt : GoodIn wsX5_kinds wsX5_numbersAt := goodIn_r _ [13, 6, 14, 15, 16, 4, 17, 18, 19, 20, 21, 22, 23, 24, 25, 26, 27, 28, 29, 30, 31, 32, 33, 34, 35, 36, 37, 38, 39, 40, 41, 42, 43, 44, 45, 46, 47, 48, 49, 50, 51, 52, 53, 54, 55, 56, 57, 58, 59, 60, 61, 62, 63, 64, 65, 66, 67, 68, 69, 70, 71, 72, 73, 74, 75, 76, 77] (by decide +kernel) (by decide +kernel)
set_option maxRecDepth 20000 in
theorem gX5_kinds_X5_numbersAt : GoodIn wsX5_kinds (wsV RX5 224 RX5 yX5_numbersAt wsX5_numbersAt) := goodIn_app (goodIn_of _ (by decide +kernel)) ggX5_kinds_X5_numbersAt
theorem dX5_kinds_0 : decode cX5_kinds 0 = .ok (.aload_n 0, 1) := by decide +kernel
theorem dX5_kinds_1 : decode cX5_kinds 1 = .ok (.iload_n 1, 1) := by decide +kernel
theorem dX5_kinds_2 : decode cX5_kinds 2 = .ok (.invokevirtual 148, 3) := by decide +kernel
theorem dX5_kinds_5 : decode cX5_kinds 5 = .ok (.ifCond .eq 12, 3) := by decide +kernel
theorem dX5_kinds_8 : decode cX5_kinds 8 = .ok (.aload_n 0, 1) := by decide +kernel
theorem dX5_kinds_9 : decode cX5_kinds 9 = .ok (.iload_n 1, 1) := by decide +kernel
theorem dX5_kinds_10 : decode cX5_kinds 10 = .ok (.iconst 4, 1) := by decide +kernel
theorem dX5_kinds_11 : decode cX5_kinds 11 = .ok (.invokevirtual 224, 3) := by decide +kernel
theorem dX5_kinds_14 : decode cX5_kinds 14 = .ok (.goto 4, 3) := by decide +kernel
theorem dX5_kinds_17 : decode cX5_kinds 17 = .ok (.iconst (-1), 1) := by decide +kernel
theorem dX5_kinds_18 : decode cX5_kinds 18 = .ok (.ireturn, 1) := by decide +kernel
set_option maxRecDepth 20000 in
theorem ggX5_slacks_X5_isArm : GoodIn wsX5_slacks wsX5_isArm := goodIn_r _ [5, 6, 7, 8, 4, 9, 54, 55, 56, 57, 58, 59, 60, 61, 62, 63, 64, 65, 66, 67, 68, 69, 70, 71, 72, 73, 74, 75, 76, 77] (by decide +kernel) (by decide +kernel)
set_option maxRecDepth 20000 in
theorem gX5_slacks_X5_isArm : GoodIn wsX5_slacks (wsV RX5 148 RX5 yX5_isArm wsX5_isArm) := goodIn_app (goodIn_of _ (by decide +kernel)) ggX5_slacks_X5_isArm
set_option maxRecDepth 20000 in
theorem ggX5_slacks_X5_numbersAt : GoodIn wsX5_slacks wsX5_numbersAt := goodIn_r _ [13, 6, 14, 15, 16, 4, 17, 18, 19, 20, 21, 22, 23, 24, 25, 26, 27, 28, 29, 30, 31, 32, 33, 34, 35, 36, 37, 38, 39, 40, 41, 42, 43, 44, 45, 46, 47, 48, 49, 50, 51, 52, 53, 54, 55, 56, 57, 58, 59, 60, 61, 62, 63, 64, 65, 66, 67, 68, 69, 70, 71, 72, 73, 74, 75, 76, 77] (by decide +kernel) (by decide +kernel)
set_option maxRecDepth 20000 in
theorem gX5_slacks_X5_numbersAt : GoodIn wsX5_slacks (wsV RX5 224 RX5 yX5_numbersAt wsX5_numbersAt) := goodIn_app (goodIn_of _ (by decide +kernel)) ggX5_slacks_X5_numbersAt
theorem dX5_slacks_0 : decode cX5_slacks 0 = .ok (.aload_n 0, 1) := by decide +kernel
theorem dX5_slacks_1 : decode cX5_slacks 1 = .ok (.iload_n 1, 1) := by decide +kernel
theorem dX5_slacks_2 : decode cX5_slacks 2 = .ok (.invokevirtual 148, 3) := by decide +kernel
theorem dX5_slacks_5 : decode cX5_slacks 5 = .ok (.ifCond .eq 15, 3) := by decide +kernel
theorem dX5_slacks_8 : decode cX5_slacks 8 = .ok (.aload_n 0, 1) := by decide +kernel
theorem dX5_slacks_9 : decode cX5_slacks 9 = .ok (.iconst 4, 1) := by decide +kernel
theorem dX5_slacks_10 : decode cX5_slacks 10 = .ok (.iload_n 1, 1) := by decide +kernel
theorem dX5_slacks_11 : decode cX5_slacks 11 = .ok (.iadd, 1) := by decide +kernel
theorem dX5_slacks_12 : decode cX5_slacks 12 = .ok (.bipush 10, 2) := by decide +kernel
theorem dX5_slacks_14 : decode cX5_slacks 14 = .ok (.invokevirtual 224, 3) := by decide +kernel
theorem dX5_slacks_17 : decode cX5_slacks 17 = .ok (.goto 4, 3) := by decide +kernel
theorem dX5_slacks_20 : decode cX5_slacks 20 = .ok (.iconst (-1), 1) := by decide +kernel
theorem dX5_slacks_21 : decode cX5_slacks 21 = .ok (.ireturn, 1) := by decide +kernel
theorem dX5_worstAt_0 : decode cX5_worstAt 0 = .ok (.iconst 0, 1) := by decide +kernel
theorem dX5_worstAt_1 : decode cX5_worstAt 1 = .ok (.istore_n 3, 1) := by decide +kernel
theorem dX5_worstAt_2 : decode cX5_worstAt 2 = .ok (.iconst 0, 1) := by decide +kernel
theorem dX5_worstAt_3 : decode cX5_worstAt 3 = .ok (.istore 4, 2) := by decide +kernel
theorem dX5_worstAt_5 : decode cX5_worstAt 5 = .ok (.iload 4, 2) := by decide +kernel
theorem dX5_worstAt_7 : decode cX5_worstAt 7 = .ok (.bipush 9, 2) := by decide +kernel
theorem dX5_worstAt_9 : decode cX5_worstAt 9 = .ok (.if_icmp .gt 98, 3) := by decide +kernel
theorem dX5_worstAt_12 : decode cX5_worstAt 12 = .ok (.iconst 0, 1) := by decide +kernel
theorem dX5_worstAt_13 : decode cX5_worstAt 13 = .ok (.istore 5, 2) := by decide +kernel
theorem dX5_worstAt_15 : decode cX5_worstAt 15 = .ok (.iconst 0, 1) := by decide +kernel
theorem dX5_worstAt_16 : decode cX5_worstAt 16 = .ok (.istore 6, 2) := by decide +kernel
theorem dX5_worstAt_18 : decode cX5_worstAt 18 = .ok (.iload 6, 2) := by decide +kernel
theorem dX5_worstAt_20 : decode cX5_worstAt 20 = .ok (.bipush 9, 2) := by decide +kernel
theorem dX5_worstAt_22 : decode cX5_worstAt 22 = .ok (.if_icmp .gt 66, 3) := by decide +kernel
theorem dX5_worstAt_25 : decode cX5_worstAt 25 = .ok (.iload_n 1, 1) := by decide +kernel
theorem dX5_worstAt_26 : decode cX5_worstAt 26 = .ok (.iload 4, 2) := by decide +kernel
theorem dX5_worstAt_28 : decode cX5_worstAt 28 = .ok (.ishr, 1) := by decide +kernel
theorem dX5_worstAt_29 : decode cX5_worstAt 29 = .ok (.iconst 1, 1) := by decide +kernel
theorem dX5_worstAt_30 : decode cX5_worstAt 30 = .ok (.iand, 1) := by decide +kernel
theorem dX5_worstAt_31 : decode cX5_worstAt 31 = .ok (.iconst 1, 1) := by decide +kernel
theorem dX5_worstAt_32 : decode cX5_worstAt 32 = .ok (.if_icmp .ne 56, 3) := by decide +kernel
theorem dX5_worstAt_35 : decode cX5_worstAt 35 = .ok (.iload 5, 2) := by decide +kernel
theorem dX5_worstAt_37 : decode cX5_worstAt 37 = .ok (.iload_n 1, 1) := by decide +kernel
theorem dX5_worstAt_38 : decode cX5_worstAt 38 = .ok (.iload 6, 2) := by decide +kernel
theorem dX5_worstAt_40 : decode cX5_worstAt 40 = .ok (.ishr, 1) := by decide +kernel
theorem dX5_worstAt_41 : decode cX5_worstAt 41 = .ok (.iconst 1, 1) := by decide +kernel
theorem dX5_worstAt_42 : decode cX5_worstAt 42 = .ok (.iand, 1) := by decide +kernel
theorem dX5_worstAt_43 : decode cX5_worstAt 43 = .ok (.iconst 1, 1) := by decide +kernel
theorem dX5_worstAt_44 : decode cX5_worstAt 44 = .ok (.if_icmp .ne 34, 3) := by decide +kernel
theorem dX5_worstAt_47 : decode cX5_worstAt 47 = .ok (.aload_n 0, 1) := by decide +kernel
theorem dX5_worstAt_48 : decode cX5_worstAt 48 = .ok (.getfield 28, 3) := by decide +kernel
theorem dX5_worstAt_51 : decode cX5_worstAt 51 = .ok (.bipush 41, 2) := by decide +kernel
theorem dX5_worstAt_53 : decode cX5_worstAt 53 = .ok (.iload 4, 2) := by decide +kernel
theorem dX5_worstAt_55 : decode cX5_worstAt 55 = .ok (.imul, 1) := by decide +kernel
theorem dX5_worstAt_56 : decode cX5_worstAt 56 = .ok (.iload_n 2, 1) := by decide +kernel
theorem dX5_worstAt_57 : decode cX5_worstAt 57 = .ok (.iadd, 1) := by decide +kernel
theorem dX5_worstAt_58 : decode cX5_worstAt 58 = .ok (.iaload, 1) := by decide +kernel
theorem dX5_worstAt_59 : decode cX5_worstAt 59 = .ok (.aload_n 0, 1) := by decide +kernel
theorem dX5_worstAt_60 : decode cX5_worstAt 60 = .ok (.getfield 28, 3) := by decide +kernel
theorem dX5_worstAt_63 : decode cX5_worstAt 63 = .ok (.bipush 41, 2) := by decide +kernel
theorem dX5_worstAt_65 : decode cX5_worstAt 65 = .ok (.iload 6, 2) := by decide +kernel
theorem dX5_worstAt_67 : decode cX5_worstAt 67 = .ok (.imul, 1) := by decide +kernel
theorem dX5_worstAt_68 : decode cX5_worstAt 68 = .ok (.iload_n 2, 1) := by decide +kernel
theorem dX5_worstAt_69 : decode cX5_worstAt 69 = .ok (.iadd, 1) := by decide +kernel
theorem dX5_worstAt_70 : decode cX5_worstAt 70 = .ok (.iaload, 1) := by decide +kernel
theorem dX5_worstAt_71 : decode cX5_worstAt 71 = .ok (.if_icmp .ne 7, 3) := by decide +kernel
theorem dX5_worstAt_74 : decode cX5_worstAt 74 = .ok (.iconst 1, 1) := by decide +kernel
theorem dX5_worstAt_75 : decode cX5_worstAt 75 = .ok (.goto 4, 3) := by decide +kernel
theorem dX5_worstAt_78 : decode cX5_worstAt 78 = .ok (.iconst 0, 1) := by decide +kernel
theorem dX5_worstAt_79 : decode cX5_worstAt 79 = .ok (.iadd, 1) := by decide +kernel
theorem dX5_worstAt_80 : decode cX5_worstAt 80 = .ok (.istore 5, 2) := by decide +kernel
theorem dX5_worstAt_82 : decode cX5_worstAt 82 = .ok (.iinc 6 1, 3) := by decide +kernel
theorem dX5_worstAt_85 : decode cX5_worstAt 85 = .ok (.goto (-67), 3) := by decide +kernel
theorem dX5_worstAt_88 : decode cX5_worstAt 88 = .ok (.iload 5, 2) := by decide +kernel
theorem dX5_worstAt_90 : decode cX5_worstAt 90 = .ok (.iload_n 3, 1) := by decide +kernel
theorem dX5_worstAt_91 : decode cX5_worstAt 91 = .ok (.if_icmp .le 8, 3) := by decide +kernel
theorem dX5_worstAt_94 : decode cX5_worstAt 94 = .ok (.iload 5, 2) := by decide +kernel
theorem dX5_worstAt_96 : decode cX5_worstAt 96 = .ok (.goto 4, 3) := by decide +kernel
theorem dX5_worstAt_99 : decode cX5_worstAt 99 = .ok (.iload_n 3, 1) := by decide +kernel
theorem dX5_worstAt_100 : decode cX5_worstAt 100 = .ok (.istore_n 3, 1) := by decide +kernel
theorem dX5_worstAt_101 : decode cX5_worstAt 101 = .ok (.iinc 4 1, 3) := by decide +kernel
theorem dX5_worstAt_104 : decode cX5_worstAt 104 = .ok (.goto (-99), 3) := by decide +kernel
theorem dX5_worstAt_107 : decode cX5_worstAt 107 = .ok (.iload_n 3, 1) := by decide +kernel
theorem dX5_worstAt_108 : decode cX5_worstAt 108 = .ok (.ireturn, 1) := by decide +kernel
set_option maxRecDepth 20000 in
theorem ggX5_ask_X5_isArm : GoodIn wsX5_ask wsX5_isArm := goodIn_r _ [5, 6, 7, 8, 4, 9, 58, 59, 60, 61, 62, 63, 64, 65, 66, 67, 68, 69, 70, 71, 72, 73, 74, 75, 76, 77, 78, 79, 80, 81] (by decide +kernel) (by decide +kernel)
set_option maxRecDepth 20000 in
theorem gX5_ask_X5_isArm : GoodIn wsX5_ask (wsV RX5 148 RX5 yX5_isArm wsX5_isArm) := goodIn_app (goodIn_of _ (by decide +kernel)) ggX5_ask_X5_isArm
set_option maxRecDepth 20000 in
theorem ggX5_ask_X5_in : GoodIn wsX5_ask wsX5_in := goodIn_r _ [9] (by decide +kernel) (by decide +kernel)
set_option maxRecDepth 20000 in
theorem gX5_ask_X5_in : GoodIn wsX5_ask (va_wsS RX5 46 yX5_in wsX5_in) := goodIn_app (goodIn_of _ (by decide +kernel)) ggX5_ask_X5_in
set_option maxRecDepth 20000 in
theorem ggX5_ask_X5_numbersAt : GoodIn wsX5_ask wsX5_numbersAt := goodIn_r _ [13, 6, 14, 15, 16, 4, 17, 18, 19, 20, 21, 22, 23, 24, 25, 26, 27, 28, 29, 30, 31, 32, 33, 34, 35, 36, 37, 38, 39, 40, 41, 42, 43, 44, 45, 46, 47, 48, 49, 50, 51, 52, 53, 58, 59, 60, 61, 62, 63, 64, 65, 66, 67, 68, 69, 70, 71, 72, 73, 74, 75, 76, 77, 78, 79, 80, 81] (by decide +kernel) (by decide +kernel)
set_option maxRecDepth 20000 in
theorem gX5_ask_X5_numbersAt : GoodIn wsX5_ask (wsV RX5 224 RX5 yX5_numbersAt wsX5_numbersAt) := goodIn_app (goodIn_of _ (by decide +kernel)) ggX5_ask_X5_numbersAt
set_option maxRecDepth 20000 in
theorem ggX5_ask_X5_worstAt : GoodIn wsX5_ask wsX5_worstAt := goodIn_r _ [57, 22, 58, 59, 60, 61, 62, 63, 64, 65, 66, 67, 68, 69, 70, 71, 72, 73, 74, 75, 76, 77, 78, 79, 80, 81] (by decide +kernel) (by decide +kernel)
set_option maxRecDepth 20000 in
theorem gX5_ask_X5_worstAt : GoodIn wsX5_ask (wsV RX5 227 RX5 yX5_worstAt wsX5_worstAt) := goodIn_app (goodIn_of _ (by decide +kernel)) ggX5_ask_X5_worstAt
theorem dX5_ask_0 : decode cX5_ask 0 = .ok (.aload_n 0, 1) := by decide +kernel
theorem dX5_ask_1 : decode cX5_ask 1 = .ok (.iload_n 1, 1) := by decide +kernel
theorem dX5_ask_2 : decode cX5_ask 2 = .ok (.invokevirtual 148, 3) := by decide +kernel
theorem dX5_ask_5 : decode cX5_ask 5 = .ok (.ifCond .eq 13, 3) := by decide +kernel
theorem dX5_ask_8 : decode cX5_ask 8 = .ok (.iload_n 2, 1) := by decide +kernel
theorem dX5_ask_9 : decode cX5_ask 9 = .ok (.i2l, 1) := by decide +kernel
theorem dX5_ask_10 : decode cX5_ask 10 = .ok (.lconst 0, 1) := by decide +kernel
theorem dX5_ask_11 : decode cX5_ask 11 = .ok (.lconst 1, 1) := by decide +kernel
theorem dX5_ask_12 : decode cX5_ask 12 = .ok (.invokestatic 46, 3) := by decide +kernel
theorem dX5_ask_15 : decode cX5_ask 15 = .ok (.ifCond .ne 5, 3) := by decide +kernel
theorem dX5_ask_18 : decode cX5_ask 18 = .ok (.iconst (-1), 1) := by decide +kernel
theorem dX5_ask_19 : decode cX5_ask 19 = .ok (.ireturn, 1) := by decide +kernel
theorem dX5_ask_20 : decode cX5_ask 20 = .ok (.aload_n 0, 1) := by decide +kernel
theorem dX5_ask_21 : decode cX5_ask 21 = .ok (.iconst 4, 1) := by decide +kernel
theorem dX5_ask_22 : decode cX5_ask 22 = .ok (.iload_n 1, 1) := by decide +kernel
theorem dX5_ask_23 : decode cX5_ask 23 = .ok (.iadd, 1) := by decide +kernel
theorem dX5_ask_24 : decode cX5_ask 24 = .ok (.bipush 10, 2) := by decide +kernel
theorem dX5_ask_26 : decode cX5_ask 26 = .ok (.invokevirtual 224, 3) := by decide +kernel
theorem dX5_ask_29 : decode cX5_ask 29 = .ok (.istore_n 3, 1) := by decide +kernel
theorem dX5_ask_30 : decode cX5_ask 30 = .ok (.iconst 0, 1) := by decide +kernel
theorem dX5_ask_31 : decode cX5_ask 31 = .ok (.istore 4, 2) := by decide +kernel
theorem dX5_ask_33 : decode cX5_ask 33 = .ok (.iconst 0, 1) := by decide +kernel
theorem dX5_ask_34 : decode cX5_ask 34 = .ok (.istore 5, 2) := by decide +kernel
theorem dX5_ask_36 : decode cX5_ask 36 = .ok (.iload 5, 2) := by decide +kernel
theorem dX5_ask_38 : decode cX5_ask 38 = .ok (.bipush 9, 2) := by decide +kernel
theorem dX5_ask_40 : decode cX5_ask 40 = .ok (.if_icmp .gt 20, 3) := by decide +kernel
theorem dX5_ask_43 : decode cX5_ask 43 = .ok (.iload 4, 2) := by decide +kernel
theorem dX5_ask_45 : decode cX5_ask 45 = .ok (.iload_n 3, 1) := by decide +kernel
theorem dX5_ask_46 : decode cX5_ask 46 = .ok (.iload 5, 2) := by decide +kernel
theorem dX5_ask_48 : decode cX5_ask 48 = .ok (.ishr, 1) := by decide +kernel
theorem dX5_ask_49 : decode cX5_ask 49 = .ok (.iconst 1, 1) := by decide +kernel
theorem dX5_ask_50 : decode cX5_ask 50 = .ok (.iand, 1) := by decide +kernel
theorem dX5_ask_51 : decode cX5_ask 51 = .ok (.iadd, 1) := by decide +kernel
theorem dX5_ask_52 : decode cX5_ask 52 = .ok (.istore 4, 2) := by decide +kernel
theorem dX5_ask_54 : decode cX5_ask 54 = .ok (.iinc 5 1, 3) := by decide +kernel
theorem dX5_ask_57 : decode cX5_ask 57 = .ok (.goto (-21), 3) := by decide +kernel
theorem dX5_ask_60 : decode cX5_ask 60 = .ok (.bipush (-4), 2) := by decide +kernel
theorem dX5_ask_62 : decode cX5_ask 62 = .ok (.istore 5, 2) := by decide +kernel
theorem dX5_ask_64 : decode cX5_ask 64 = .ok (.iconst 0, 1) := by decide +kernel
theorem dX5_ask_65 : decode cX5_ask 65 = .ok (.istore 6, 2) := by decide +kernel
theorem dX5_ask_67 : decode cX5_ask 67 = .ok (.iload 6, 2) := by decide +kernel
theorem dX5_ask_69 : decode cX5_ask 69 = .ok (.bipush 40, 2) := by decide +kernel
theorem dX5_ask_71 : decode cX5_ask 71 = .ok (.if_icmp .gt 50, 3) := by decide +kernel
theorem dX5_ask_74 : decode cX5_ask 74 = .ok (.aload_n 0, 1) := by decide +kernel
theorem dX5_ask_75 : decode cX5_ask 75 = .ok (.iload_n 3, 1) := by decide +kernel
theorem dX5_ask_76 : decode cX5_ask 76 = .ok (.iload 6, 2) := by decide +kernel
theorem dX5_ask_78 : decode cX5_ask 78 = .ok (.invokevirtual 227, 3) := by decide +kernel
theorem dX5_ask_81 : decode cX5_ask 81 = .ok (.istore 7, 2) := by decide +kernel
theorem dX5_ask_83 : decode cX5_ask 83 = .ok (.iload 7, 2) := by decide +kernel
theorem dX5_ask_85 : decode cX5_ask 85 = .ok (.iload 4, 2) := by decide +kernel
theorem dX5_ask_87 : decode cX5_ask 87 = .ok (.if_icmp .ge 8, 3) := by decide +kernel
theorem dX5_ask_90 : decode cX5_ask 90 = .ok (.iload 6, 2) := by decide +kernel
theorem dX5_ask_92 : decode cX5_ask 92 = .ok (.goto 5, 3) := by decide +kernel
theorem dX5_ask_95 : decode cX5_ask 95 = .ok (.iload 5, 2) := by decide +kernel
theorem dX5_ask_97 : decode cX5_ask 97 = .ok (.istore 5, 2) := by decide +kernel
theorem dX5_ask_99 : decode cX5_ask 99 = .ok (.iload 7, 2) := by decide +kernel
theorem dX5_ask_101 : decode cX5_ask 101 = .ok (.iload 4, 2) := by decide +kernel
theorem dX5_ask_103 : decode cX5_ask 103 = .ok (.if_icmp .ge 8, 3) := by decide +kernel
theorem dX5_ask_106 : decode cX5_ask 106 = .ok (.iload 7, 2) := by decide +kernel
theorem dX5_ask_108 : decode cX5_ask 108 = .ok (.goto 5, 3) := by decide +kernel
theorem dX5_ask_111 : decode cX5_ask 111 = .ok (.iload 4, 2) := by decide +kernel
theorem dX5_ask_113 : decode cX5_ask 113 = .ok (.istore 4, 2) := by decide +kernel
theorem dX5_ask_115 : decode cX5_ask 115 = .ok (.iinc 6 1, 3) := by decide +kernel
theorem dX5_ask_118 : decode cX5_ask 118 = .ok (.goto (-51), 3) := by decide +kernel
theorem dX5_ask_121 : decode cX5_ask 121 = .ok (.iload 5, 2) := by decide +kernel
theorem dX5_ask_123 : decode cX5_ask 123 = .ok (.bipush (-4), 2) := by decide +kernel
theorem dX5_ask_125 : decode cX5_ask 125 = .ok (.if_icmp .eq 7, 3) := by decide +kernel
theorem dX5_ask_128 : decode cX5_ask 128 = .ok (.iload_n 2, 1) := by decide +kernel
theorem dX5_ask_129 : decode cX5_ask 129 = .ok (.ifCond .ne 8, 3) := by decide +kernel
theorem dX5_ask_132 : decode cX5_ask 132 = .ok (.iload 5, 2) := by decide +kernel
theorem dX5_ask_134 : decode cX5_ask 134 = .ok (.goto 5, 3) := by decide +kernel
theorem dX5_ask_137 : decode cX5_ask 137 = .ok (.iload 4, 2) := by decide +kernel
theorem dX5_ask_139 : decode cX5_ask 139 = .ok (.ireturn, 1) := by decide +kernel
set_option maxRecDepth 20000 in
theorem ggX5_drift_X5_in : GoodIn wsX5_drift wsX5_in := goodIn_r _ [8] (by decide +kernel) (by decide +kernel)
set_option maxRecDepth 20000 in
theorem gX5_drift_X5_in : GoodIn wsX5_drift (va_wsS RX5 46 yX5_in wsX5_in) := goodIn_app (goodIn_of _ (by decide +kernel)) ggX5_drift_X5_in
set_option maxRecDepth 20000 in
theorem ggX5_drift_X5_copies : GoodIn wsX5_drift wsX5_copies := goodIn_r _ [12, 2, 41, 42, 43, 44, 45, 46, 47, 48, 49, 50, 51, 52, 53, 54, 55, 56, 57, 58, 59, 60, 61, 62, 63, 64] (by decide +kernel) (by decide +kernel)
set_option maxRecDepth 20000 in
theorem gX5_drift_X5_copies : GoodIn wsX5_drift (wsV RX5 176 RX5 yX5_copies wsX5_copies) := goodIn_app (goodIn_of _ (by decide +kernel)) ggX5_drift_X5_copies
set_option maxRecDepth 20000 in
theorem ggX5_drift_X5_handOn : GoodIn wsX5_drift wsX5_handOn := goodIn_r _ [16, 2, 17, 18, 19, 7, 20, 21, 3, 22, 23, 24, 25, 26, 27, 28, 29, 30, 31, 32, 33, 34, 35, 36, 41, 42, 43, 44, 45, 46, 47, 48, 49, 50, 51, 52, 53, 54, 55, 56, 57, 58, 59, 60, 61, 62, 63, 64] (by decide +kernel) (by decide +kernel)
set_option maxRecDepth 20000 in
theorem gX5_drift_X5_handOn : GoodIn wsX5_drift (wsV RX5 140 RX5 yX5_handOn wsX5_handOn) := goodIn_app (goodIn_of _ (by decide +kernel)) ggX5_drift_X5_handOn
set_option maxRecDepth 20000 in
theorem ggX5_drift_X5_errorOn : GoodIn wsX5_drift wsX5_errorOn := goodIn_r _ [40, 2, 34, 35, 7, 36, 41, 42, 43, 44, 45, 46, 47, 48, 49, 50, 51, 52, 53, 54, 55, 56, 57, 58, 59, 60, 61, 62, 63, 64] (by decide +kernel) (by decide +kernel)
set_option maxRecDepth 20000 in
theorem gX5_drift_X5_errorOn : GoodIn wsX5_drift (wsV RX5 145 RX5 yX5_errorOn wsX5_errorOn) := goodIn_app (goodIn_of _ (by decide +kernel)) ggX5_drift_X5_errorOn
theorem dX5_drift_0 : decode cX5_drift 0 = .ok (.iload_n 2, 1) := by decide +kernel
theorem dX5_drift_1 : decode cX5_drift 1 = .ok (.i2l, 1) := by decide +kernel
theorem dX5_drift_2 : decode cX5_drift 2 = .ok (.lconst 1, 1) := by decide +kernel
theorem dX5_drift_3 : decode cX5_drift 3 = .ok (.ldc2_w 113, 3) := by decide +kernel
theorem dX5_drift_6 : decode cX5_drift 6 = .ok (.invokestatic 46, 3) := by decide +kernel
theorem dX5_drift_9 : decode cX5_drift 9 = .ok (.ifCond .eq 13, 3) := by decide +kernel
theorem dX5_drift_12 : decode cX5_drift 12 = .ok (.iload_n 3, 1) := by decide +kernel
theorem dX5_drift_13 : decode cX5_drift 13 = .ok (.i2l, 1) := by decide +kernel
theorem dX5_drift_14 : decode cX5_drift 14 = .ok (.lconst 0, 1) := by decide +kernel
theorem dX5_drift_15 : decode cX5_drift 15 = .ok (.lconst 1, 1) := by decide +kernel
theorem dX5_drift_16 : decode cX5_drift 16 = .ok (.invokestatic 46, 3) := by decide +kernel
theorem dX5_drift_19 : decode cX5_drift 19 = .ok (.ifCond .ne 5, 3) := by decide +kernel
theorem dX5_drift_22 : decode cX5_drift 22 = .ok (.iconst (-1), 1) := by decide +kernel
theorem dX5_drift_23 : decode cX5_drift 23 = .ok (.ireturn, 1) := by decide +kernel
theorem dX5_drift_24 : decode cX5_drift 24 = .ok (.aload_n 0, 1) := by decide +kernel
theorem dX5_drift_25 : decode cX5_drift 25 = .ok (.getfield 7, 3) := by decide +kernel
theorem dX5_drift_28 : decode cX5_drift 28 = .ok (.bipush 20, 2) := by decide +kernel
theorem dX5_drift_30 : decode cX5_drift 30 = .ok (.iaload, 1) := by decide +kernel
theorem dX5_drift_31 : decode cX5_drift 31 = .ok (.ifCond .ne 6, 3) := by decide +kernel
theorem dX5_drift_34 : decode cX5_drift 34 = .ok (.bipush (-2), 2) := by decide +kernel
theorem dX5_drift_36 : decode cX5_drift 36 = .ok (.ireturn, 1) := by decide +kernel
theorem dX5_drift_37 : decode cX5_drift 37 = .ok (.aload_n 0, 1) := by decide +kernel
theorem dX5_drift_38 : decode cX5_drift 38 = .ok (.iconst 0, 1) := by decide +kernel
theorem dX5_drift_39 : decode cX5_drift 39 = .ok (.sipush 160, 3) := by decide +kernel
theorem dX5_drift_42 : decode cX5_drift 42 = .ok (.invokevirtual 176, 3) := by decide +kernel
theorem dX5_drift_45 : decode cX5_drift 45 = .ok (.aload_n 0, 1) := by decide +kernel
theorem dX5_drift_46 : decode cX5_drift 46 = .ok (.iconst 0, 1) := by decide +kernel
theorem dX5_drift_47 : decode cX5_drift 47 = .ok (.putfield 134, 3) := by decide +kernel
theorem dX5_drift_50 : decode cX5_drift 50 = .ok (.iload_n 1, 1) := by decide +kernel
theorem dX5_drift_51 : decode cX5_drift 51 = .ok (.istore 4, 2) := by decide +kernel
theorem dX5_drift_53 : decode cX5_drift 53 = .ok (.iconst 0, 1) := by decide +kernel
theorem dX5_drift_54 : decode cX5_drift 54 = .ok (.istore 5, 2) := by decide +kernel
theorem dX5_drift_56 : decode cX5_drift 56 = .ok (.iload 5, 2) := by decide +kernel
theorem dX5_drift_58 : decode cX5_drift 58 = .ok (.iload_n 2, 1) := by decide +kernel
theorem dX5_drift_59 : decode cX5_drift 59 = .ok (.if_icmp .ge 42, 3) := by decide +kernel
theorem dX5_drift_62 : decode cX5_drift 62 = .ok (.iload 4, 2) := by decide +kernel
theorem dX5_drift_64 : decode cX5_drift 64 = .ok (.ldc 230, 2) := by decide +kernel
theorem dX5_drift_66 : decode cX5_drift 66 = .ok (.imul, 1) := by decide +kernel
theorem dX5_drift_67 : decode cX5_drift 67 = .ok (.sipush 12345, 3) := by decide +kernel
theorem dX5_drift_70 : decode cX5_drift 70 = .ok (.iadd, 1) := by decide +kernel
theorem dX5_drift_71 : decode cX5_drift 71 = .ok (.istore 4, 2) := by decide +kernel
theorem dX5_drift_73 : decode cX5_drift 73 = .ok (.aload_n 0, 1) := by decide +kernel
theorem dX5_drift_74 : decode cX5_drift 74 = .ok (.sipush 160, 3) := by decide +kernel
theorem dX5_drift_77 : decode cX5_drift 77 = .ok (.iload 4, 2) := by decide +kernel
theorem dX5_drift_79 : decode cX5_drift 79 = .ok (.bipush 16, 2) := by decide +kernel
theorem dX5_drift_81 : decode cX5_drift 81 = .ok (.ishr, 1) := by decide +kernel
theorem dX5_drift_82 : decode cX5_drift 82 = .ok (.sipush 32767, 3) := by decide +kernel
theorem dX5_drift_85 : decode cX5_drift 85 = .ok (.iand, 1) := by decide +kernel
theorem dX5_drift_86 : decode cX5_drift 86 = .ok (.bipush 19, 2) := by decide +kernel
theorem dX5_drift_88 : decode cX5_drift 88 = .ok (.irem, 1) := by decide +kernel
theorem dX5_drift_89 : decode cX5_drift 89 = .ok (.bipush 9, 2) := by decide +kernel
theorem dX5_drift_91 : decode cX5_drift 91 = .ok (.isub, 1) := by decide +kernel
theorem dX5_drift_92 : decode cX5_drift 92 = .ok (.invokevirtual 140, 3) := by decide +kernel
theorem dX5_drift_95 : decode cX5_drift 95 = .ok (.iinc 5 1, 3) := by decide +kernel
theorem dX5_drift_98 : decode cX5_drift 98 = .ok (.goto (-42), 3) := by decide +kernel
theorem dX5_drift_101 : decode cX5_drift 101 = .ok (.iload_n 3, 1) := by decide +kernel
theorem dX5_drift_102 : decode cX5_drift 102 = .ok (.ifCond .ne 13, 3) := by decide +kernel
theorem dX5_drift_105 : decode cX5_drift 105 = .ok (.aload_n 0, 1) := by decide +kernel
theorem dX5_drift_106 : decode cX5_drift 106 = .ok (.sipush 160, 3) := by decide +kernel
theorem dX5_drift_109 : decode cX5_drift 109 = .ok (.invokevirtual 145, 3) := by decide +kernel
theorem dX5_drift_112 : decode cX5_drift 112 = .ok (.goto 7, 3) := by decide +kernel
theorem dX5_drift_115 : decode cX5_drift 115 = .ok (.aload_n 0, 1) := by decide +kernel
theorem dX5_drift_116 : decode cX5_drift 116 = .ok (.getfield 134, 3) := by decide +kernel
theorem dX5_drift_119 : decode cX5_drift 119 = .ok (.ireturn, 1) := by decide +kernel
set_option maxRecDepth 20000 in
theorem ggX5_keep_X5_in : GoodIn wsX5_keep wsX5_in := goodIn_r _ [5] (by decide +kernel) (by decide +kernel)
set_option maxRecDepth 20000 in
theorem gX5_keep_X5_in : GoodIn wsX5_keep (va_wsS RX5 46 yX5_in wsX5_in) := goodIn_app (goodIn_of _ (by decide +kernel)) ggX5_keep_X5_in
set_option maxRecDepth 20000 in
theorem ggX5_keep_X5_copies : GoodIn wsX5_keep wsX5_copies := goodIn_r _ [9, 10, 11, 12, 13, 14, 15, 16, 17, 18, 19, 20, 21, 22, 23, 24, 25, 26, 27, 28, 29, 30, 31, 32, 33, 34] (by decide +kernel) (by decide +kernel)
set_option maxRecDepth 20000 in
theorem gX5_keep_X5_copies : GoodIn wsX5_keep (wsV RX5 176 RX5 yX5_copies wsX5_copies) := goodIn_app (goodIn_of _ (by decide +kernel)) ggX5_keep_X5_copies
theorem dX5_keep_0 : decode cX5_keep 0 = .ok (.iload_n 1, 1) := by decide +kernel
theorem dX5_keep_1 : decode cX5_keep 1 = .ok (.i2l, 1) := by decide +kernel
theorem dX5_keep_2 : decode cX5_keep 2 = .ok (.lconst 0, 1) := by decide +kernel
theorem dX5_keep_3 : decode cX5_keep 3 = .ok (.lconst 1, 1) := by decide +kernel
theorem dX5_keep_4 : decode cX5_keep 4 = .ok (.invokestatic 46, 3) := by decide +kernel
theorem dX5_keep_7 : decode cX5_keep 7 = .ok (.ifCond .ne 5, 3) := by decide +kernel
theorem dX5_keep_10 : decode cX5_keep 10 = .ok (.iconst (-1), 1) := by decide +kernel
theorem dX5_keep_11 : decode cX5_keep 11 = .ok (.ireturn, 1) := by decide +kernel
theorem dX5_keep_12 : decode cX5_keep 12 = .ok (.aload_n 0, 1) := by decide +kernel
theorem dX5_keep_13 : decode cX5_keep 13 = .ok (.iconst 0, 1) := by decide +kernel
theorem dX5_keep_14 : decode cX5_keep 14 = .ok (.bipush 40, 2) := by decide +kernel
theorem dX5_keep_16 : decode cX5_keep 16 = .ok (.iload_n 1, 1) := by decide +kernel
theorem dX5_keep_17 : decode cX5_keep 17 = .ok (.iconst 1, 1) := by decide +kernel
theorem dX5_keep_18 : decode cX5_keep 18 = .ok (.iadd, 1) := by decide +kernel
theorem dX5_keep_19 : decode cX5_keep 19 = .ok (.imul, 1) := by decide +kernel
theorem dX5_keep_20 : decode cX5_keep 20 = .ok (.invokevirtual 176, 3) := by decide +kernel
theorem dX5_keep_23 : decode cX5_keep 23 = .ok (.aload_n 0, 1) := by decide +kernel
theorem dX5_keep_24 : decode cX5_keep 24 = .ok (.getfield 31, 3) := by decide +kernel
theorem dX5_keep_27 : decode cX5_keep 27 = .ok (.iload_n 1, 1) := by decide +kernel
theorem dX5_keep_28 : decode cX5_keep 28 = .ok (.baload, 1) := by decide +kernel
theorem dX5_keep_29 : decode cX5_keep 29 = .ok (.ifCond .eq 7, 3) := by decide +kernel
theorem dX5_keep_32 : decode cX5_keep 32 = .ok (.iconst 1, 1) := by decide +kernel
theorem dX5_keep_33 : decode cX5_keep 33 = .ok (.goto 4, 3) := by decide +kernel
theorem dX5_keep_36 : decode cX5_keep 36 = .ok (.iconst 0, 1) := by decide +kernel
theorem dX5_keep_37 : decode cX5_keep 37 = .ok (.istore_n 2, 1) := by decide +kernel
theorem dX5_keep_38 : decode cX5_keep 38 = .ok (.aload_n 0, 1) := by decide +kernel
theorem dX5_keep_39 : decode cX5_keep 39 = .ok (.getfield 31, 3) := by decide +kernel
theorem dX5_keep_42 : decode cX5_keep 42 = .ok (.iload_n 1, 1) := by decide +kernel
theorem dX5_keep_43 : decode cX5_keep 43 = .ok (.iconst 1, 1) := by decide +kernel
theorem dX5_keep_44 : decode cX5_keep 44 = .ok (.bastore, 1) := by decide +kernel
theorem dX5_keep_45 : decode cX5_keep 45 = .ok (.iload_n 2, 1) := by decide +kernel
theorem dX5_keep_46 : decode cX5_keep 46 = .ok (.ireturn, 1) := by decide +kernel
set_option maxRecDepth 20000 in
theorem ggX5_back_X5_in : GoodIn wsX5_back wsX5_in := goodIn_r _ [6] (by decide +kernel) (by decide +kernel)
set_option maxRecDepth 20000 in
theorem gX5_back_X5_in : GoodIn wsX5_back (va_wsS RX5 46 yX5_in wsX5_in) := goodIn_app (goodIn_of _ (by decide +kernel)) ggX5_back_X5_in
set_option maxRecDepth 20000 in
theorem ggX5_back_X5_copies : GoodIn wsX5_back wsX5_copies := goodIn_r _ [10, 2, 11, 12, 13, 14, 15, 16, 17, 18, 19, 20, 21, 22, 23, 24, 25, 26, 27, 28, 29, 30, 31, 32, 33, 34] (by decide +kernel) (by decide +kernel)
set_option maxRecDepth 20000 in
theorem gX5_back_X5_copies : GoodIn wsX5_back (wsV RX5 176 RX5 yX5_copies wsX5_copies) := goodIn_app (goodIn_of _ (by decide +kernel)) ggX5_back_X5_copies
theorem dX5_back_0 : decode cX5_back 0 = .ok (.iload_n 1, 1) := by decide +kernel
theorem dX5_back_1 : decode cX5_back 1 = .ok (.i2l, 1) := by decide +kernel
theorem dX5_back_2 : decode cX5_back 2 = .ok (.lconst 0, 1) := by decide +kernel
theorem dX5_back_3 : decode cX5_back 3 = .ok (.lconst 1, 1) := by decide +kernel
theorem dX5_back_4 : decode cX5_back 4 = .ok (.invokestatic 46, 3) := by decide +kernel
theorem dX5_back_7 : decode cX5_back 7 = .ok (.ifCond .ne 5, 3) := by decide +kernel
theorem dX5_back_10 : decode cX5_back 10 = .ok (.iconst (-1), 1) := by decide +kernel
theorem dX5_back_11 : decode cX5_back 11 = .ok (.ireturn, 1) := by decide +kernel
theorem dX5_back_12 : decode cX5_back 12 = .ok (.aload_n 0, 1) := by decide +kernel
theorem dX5_back_13 : decode cX5_back 13 = .ok (.getfield 31, 3) := by decide +kernel
theorem dX5_back_16 : decode cX5_back 16 = .ok (.iload_n 1, 1) := by decide +kernel
theorem dX5_back_17 : decode cX5_back 17 = .ok (.baload, 1) := by decide +kernel
theorem dX5_back_18 : decode cX5_back 18 = .ok (.ifCond .ne 6, 3) := by decide +kernel
theorem dX5_back_21 : decode cX5_back 21 = .ok (.bipush (-2), 2) := by decide +kernel
theorem dX5_back_23 : decode cX5_back 23 = .ok (.ireturn, 1) := by decide +kernel
theorem dX5_back_24 : decode cX5_back 24 = .ok (.aload_n 0, 1) := by decide +kernel
theorem dX5_back_25 : decode cX5_back 25 = .ok (.bipush 40, 2) := by decide +kernel
theorem dX5_back_27 : decode cX5_back 27 = .ok (.iload_n 1, 1) := by decide +kernel
theorem dX5_back_28 : decode cX5_back 28 = .ok (.iconst 1, 1) := by decide +kernel
theorem dX5_back_29 : decode cX5_back 29 = .ok (.iadd, 1) := by decide +kernel
theorem dX5_back_30 : decode cX5_back 30 = .ok (.imul, 1) := by decide +kernel
theorem dX5_back_31 : decode cX5_back 31 = .ok (.iconst 0, 1) := by decide +kernel
theorem dX5_back_32 : decode cX5_back 32 = .ok (.invokevirtual 176, 3) := by decide +kernel
theorem dX5_back_35 : decode cX5_back 35 = .ok (.aload_n 0, 1) := by decide +kernel
theorem dX5_back_36 : decode cX5_back 36 = .ok (.getfield 7, 3) := by decide +kernel
theorem dX5_back_39 : decode cX5_back 39 = .ok (.bipush 39, 2) := by decide +kernel
theorem dX5_back_41 : decode cX5_back 41 = .ok (.iaload, 1) := by decide +kernel
theorem dX5_back_42 : decode cX5_back 42 = .ok (.ireturn, 1) := by decide +kernel
set_option maxRecDepth 20000 in
theorem ggX5_sheet_X5_in : GoodIn wsX5_sheet wsX5_in := goodIn_r _ [9] (by decide +kernel) (by decide +kernel)
set_option maxRecDepth 20000 in
theorem gX5_sheet_X5_in : GoodIn wsX5_sheet (va_wsS RX5 46 yX5_in wsX5_in) := goodIn_app (goodIn_of _ (by decide +kernel)) ggX5_sheet_X5_in
theorem dX5_sheet_0 : decode cX5_sheet 0 = .ok (.iload_n 1, 1) := by decide +kernel
theorem dX5_sheet_1 : decode cX5_sheet 1 = .ok (.i2l, 1) := by decide +kernel
theorem dX5_sheet_2 : decode cX5_sheet 2 = .ok (.lconst 0, 1) := by decide +kernel
theorem dX5_sheet_3 : decode cX5_sheet 3 = .ok (.ldc2_w 157, 3) := by decide +kernel
theorem dX5_sheet_6 : decode cX5_sheet 6 = .ok (.invokestatic 46, 3) := by decide +kernel
theorem dX5_sheet_9 : decode cX5_sheet 9 = .ok (.ifCond .eq 21, 3) := by decide +kernel
theorem dX5_sheet_12 : decode cX5_sheet 12 = .ok (.iload_n 2, 1) := by decide +kernel
theorem dX5_sheet_13 : decode cX5_sheet 13 = .ok (.i2l, 1) := by decide +kernel
theorem dX5_sheet_14 : decode cX5_sheet 14 = .ok (.lconst 0, 1) := by decide +kernel
theorem dX5_sheet_15 : decode cX5_sheet 15 = .ok (.ldc2_w 155, 3) := by decide +kernel
theorem dX5_sheet_18 : decode cX5_sheet 18 = .ok (.invokestatic 46, 3) := by decide +kernel
theorem dX5_sheet_21 : decode cX5_sheet 21 = .ok (.ifCond .eq 9, 3) := by decide +kernel
theorem dX5_sheet_24 : decode cX5_sheet 24 = .ok (.iload_n 3, 1) := by decide +kernel
theorem dX5_sheet_25 : decode cX5_sheet 25 = .ok (.bipush 40, 2) := by decide +kernel
theorem dX5_sheet_27 : decode cX5_sheet 27 = .ok (.if_icmp .le 5, 3) := by decide +kernel
theorem dX5_sheet_30 : decode cX5_sheet 30 = .ok (.iconst (-1), 1) := by decide +kernel
theorem dX5_sheet_31 : decode cX5_sheet 31 = .ok (.ireturn, 1) := by decide +kernel
theorem dX5_sheet_32 : decode cX5_sheet 32 = .ok (.iload_n 3, 1) := by decide +kernel
theorem dX5_sheet_33 : decode cX5_sheet 33 = .ok (.ifCond .ge 6, 3) := by decide +kernel
theorem dX5_sheet_36 : decode cX5_sheet 36 = .ok (.bipush (-14), 2) := by decide +kernel
theorem dX5_sheet_38 : decode cX5_sheet 38 = .ok (.ireturn, 1) := by decide +kernel
theorem dX5_sheet_39 : decode cX5_sheet 39 = .ok (.aload_n 0, 1) := by decide +kernel
theorem dX5_sheet_40 : decode cX5_sheet 40 = .ok (.getfield 35, 3) := by decide +kernel
