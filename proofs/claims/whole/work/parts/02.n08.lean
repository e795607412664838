theorem dX5_armsOn_10 : decode cX5_armsOn 10 = .ok (.iadd, 1) := by decide +kernel
theorem dX5_armsOn_11 : decode cX5_armsOn 11 = .ok (.iaload, 1) := by decide +kernel
theorem dX5_armsOn_12 : decode cX5_armsOn 12 = .ok (.if_icmp .ge 134, 3) := by decide +kernel
theorem dX5_armsOn_15 : decode cX5_armsOn 15 = .ok (.aload_n 0, 1) := by decide +kernel
theorem dX5_armsOn_16 : decode cX5_armsOn 16 = .ok (.iload_n 1, 1) := by decide +kernel
theorem dX5_armsOn_17 : decode cX5_armsOn 17 = .ok (.iload_n 2, 1) := by decide +kernel
theorem dX5_armsOn_18 : decode cX5_armsOn 18 = .ok (.invokevirtual 128, 3) := by decide +kernel
theorem dX5_armsOn_21 : decode cX5_armsOn 21 = .ok (.istore_n 3, 1) := by decide +kernel
theorem dX5_armsOn_22 : decode cX5_armsOn 22 = .ok (.iload_n 3, 1) := by decide +kernel
theorem dX5_armsOn_23 : decode cX5_armsOn 23 = .ok (.ifCond .eq 117, 3) := by decide +kernel
theorem dX5_armsOn_26 : decode cX5_armsOn 26 = .ok (.iload_n 3, 1) := by decide +kernel
theorem dX5_armsOn_27 : decode cX5_armsOn 27 = .ok (.ifCond .le 7, 3) := by decide +kernel
theorem dX5_armsOn_30 : decode cX5_armsOn 30 = .ok (.iconst 1, 1) := by decide +kernel
theorem dX5_armsOn_31 : decode cX5_armsOn 31 = .ok (.goto 4, 3) := by decide +kernel
theorem dX5_armsOn_34 : decode cX5_armsOn 34 = .ok (.iconst (-1), 1) := by decide +kernel
theorem dX5_armsOn_35 : decode cX5_armsOn 35 = .ok (.istore 4, 2) := by decide +kernel
theorem dX5_armsOn_37 : decode cX5_armsOn 37 = .ok (.aload_n 0, 1) := by decide +kernel
theorem dX5_armsOn_38 : decode cX5_armsOn 38 = .ok (.getfield 7, 3) := by decide +kernel
theorem dX5_armsOn_41 : decode cX5_armsOn 41 = .ok (.iload_n 1, 1) := by decide +kernel
theorem dX5_armsOn_42 : decode cX5_armsOn 42 = .ok (.bipush 16, 2) := by decide +kernel
theorem dX5_armsOn_44 : decode cX5_armsOn 44 = .ok (.iadd, 1) := by decide +kernel
theorem dX5_armsOn_45 : decode cX5_armsOn 45 = .ok (.iload_n 2, 1) := by decide +kernel
theorem dX5_armsOn_46 : decode cX5_armsOn 46 = .ok (.iadd, 1) := by decide +kernel
theorem dX5_armsOn_47 : decode cX5_armsOn 47 = .ok (.iaload, 1) := by decide +kernel
theorem dX5_armsOn_48 : decode cX5_armsOn 48 = .ok (.iload 4, 2) := by decide +kernel
theorem dX5_armsOn_50 : decode cX5_armsOn 50 = .ok (.ineg, 1) := by decide +kernel
theorem dX5_armsOn_51 : decode cX5_armsOn 51 = .ok (.if_icmp .ne 48, 3) := by decide +kernel
theorem dX5_armsOn_54 : decode cX5_armsOn 54 = .ok (.aload_n 0, 1) := by decide +kernel
theorem dX5_armsOn_55 : decode cX5_armsOn 55 = .ok (.dup, 1) := by decide +kernel
theorem dX5_armsOn_56 : decode cX5_armsOn 56 = .ok (.getfield 131, 3) := by decide +kernel
theorem dX5_armsOn_59 : decode cX5_armsOn 59 = .ok (.iconst 1, 1) := by decide +kernel
theorem dX5_armsOn_60 : decode cX5_armsOn 60 = .ok (.iadd, 1) := by decide +kernel
theorem dX5_armsOn_61 : decode cX5_armsOn 61 = .ok (.putfield 131, 3) := by decide +kernel
theorem dX5_armsOn_64 : decode cX5_armsOn 64 = .ok (.aload_n 0, 1) := by decide +kernel
theorem dX5_armsOn_65 : decode cX5_armsOn 65 = .ok (.getfield 7, 3) := by decide +kernel
theorem dX5_armsOn_68 : decode cX5_armsOn 68 = .ok (.iload_n 1, 1) := by decide +kernel
theorem dX5_armsOn_69 : decode cX5_armsOn 69 = .ok (.bipush 12, 2) := by decide +kernel
theorem dX5_armsOn_71 : decode cX5_armsOn 71 = .ok (.iadd, 1) := by decide +kernel
theorem dX5_armsOn_72 : decode cX5_armsOn 72 = .ok (.iload_n 2, 1) := by decide +kernel
theorem dX5_armsOn_73 : decode cX5_armsOn 73 = .ok (.iadd, 1) := by decide +kernel
theorem dX5_armsOn_74 : decode cX5_armsOn 74 = .ok (.dup2, 1) := by decide +kernel
theorem dX5_armsOn_75 : decode cX5_armsOn 75 = .ok (.iaload, 1) := by decide +kernel
theorem dX5_armsOn_76 : decode cX5_armsOn 76 = .ok (.aload_n 0, 1) := by decide +kernel
theorem dX5_armsOn_77 : decode cX5_armsOn 77 = .ok (.getfield 7, 3) := by decide +kernel
theorem dX5_armsOn_80 : decode cX5_armsOn 80 = .ok (.iload_n 1, 1) := by decide +kernel
theorem dX5_armsOn_81 : decode cX5_armsOn 81 = .ok (.bipush 12, 2) := by decide +kernel
theorem dX5_armsOn_83 : decode cX5_armsOn 83 = .ok (.iadd, 1) := by decide +kernel
theorem dX5_armsOn_84 : decode cX5_armsOn 84 = .ok (.iload_n 2, 1) := by decide +kernel
theorem dX5_armsOn_85 : decode cX5_armsOn 85 = .ok (.iadd, 1) := by decide +kernel
theorem dX5_armsOn_86 : decode cX5_armsOn 86 = .ok (.iaload, 1) := by decide +kernel
theorem dX5_armsOn_87 : decode cX5_armsOn 87 = .ok (.bipush 9, 2) := by decide +kernel
theorem dX5_armsOn_89 : decode cX5_armsOn 89 = .ok (.if_icmp .ge 7, 3) := by decide +kernel
theorem dX5_armsOn_92 : decode cX5_armsOn 92 = .ok (.iconst 1, 1) := by decide +kernel
theorem dX5_armsOn_93 : decode cX5_armsOn 93 = .ok (.goto 4, 3) := by decide +kernel
theorem dX5_armsOn_96 : decode cX5_armsOn 96 = .ok (.iconst 0, 1) := by decide +kernel
theorem dX5_armsOn_97 : decode cX5_armsOn 97 = .ok (.iadd, 1) := by decide +kernel
theorem dX5_armsOn_98 : decode cX5_armsOn 98 = .ok (.iastore, 1) := by decide +kernel
theorem dX5_armsOn_99 : decode cX5_armsOn 99 = .ok (.aload_n 0, 1) := by decide +kernel
theorem dX5_armsOn_100 : decode cX5_armsOn 100 = .ok (.getfield 7, 3) := by decide +kernel
theorem dX5_armsOn_103 : decode cX5_armsOn 103 = .ok (.iload_n 1, 1) := by decide +kernel
theorem dX5_armsOn_104 : decode cX5_armsOn 104 = .ok (.bipush 16, 2) := by decide +kernel
theorem dX5_armsOn_106 : decode cX5_armsOn 106 = .ok (.iadd, 1) := by decide +kernel
theorem dX5_armsOn_107 : decode cX5_armsOn 107 = .ok (.iload_n 2, 1) := by decide +kernel
theorem dX5_armsOn_108 : decode cX5_armsOn 108 = .ok (.iadd, 1) := by decide +kernel
theorem dX5_armsOn_109 : decode cX5_armsOn 109 = .ok (.iload 4, 2) := by decide +kernel
theorem dX5_armsOn_111 : decode cX5_armsOn 111 = .ok (.iastore, 1) := by decide +kernel
theorem dX5_armsOn_112 : decode cX5_armsOn 112 = .ok (.aload_n 0, 1) := by decide +kernel
theorem dX5_armsOn_113 : decode cX5_armsOn 113 = .ok (.getfield 7, 3) := by decide +kernel
theorem dX5_armsOn_116 : decode cX5_armsOn 116 = .ok (.iload_n 1, 1) := by decide +kernel
theorem dX5_armsOn_117 : decode cX5_armsOn 117 = .ok (.bipush 8, 2) := by decide +kernel
theorem dX5_armsOn_119 : decode cX5_armsOn 119 = .ok (.iadd, 1) := by decide +kernel
theorem dX5_armsOn_120 : decode cX5_armsOn 120 = .ok (.iload_n 2, 1) := by decide +kernel
theorem dX5_armsOn_121 : decode cX5_armsOn 121 = .ok (.iadd, 1) := by decide +kernel
theorem dX5_armsOn_122 : decode cX5_armsOn 122 = .ok (.dup2, 1) := by decide +kernel
theorem dX5_armsOn_123 : decode cX5_armsOn 123 = .ok (.iaload, 1) := by decide +kernel
theorem dX5_armsOn_124 : decode cX5_armsOn 124 = .ok (.iload_n 3, 1) := by decide +kernel
theorem dX5_armsOn_125 : decode cX5_armsOn 125 = .ok (.iadd, 1) := by decide +kernel
theorem dX5_armsOn_126 : decode cX5_armsOn 126 = .ok (.iastore, 1) := by decide +kernel
theorem dX5_armsOn_127 : decode cX5_armsOn 127 = .ok (.aload_n 0, 1) := by decide +kernel
theorem dX5_armsOn_128 : decode cX5_armsOn 128 = .ok (.dup, 1) := by decide +kernel
theorem dX5_armsOn_129 : decode cX5_armsOn 129 = .ok (.getfield 134, 3) := by decide +kernel
theorem dX5_armsOn_132 : decode cX5_armsOn 132 = .ok (.iload_n 3, 1) := by decide +kernel
theorem dX5_armsOn_133 : decode cX5_armsOn 133 = .ok (.invokestatic 125, 3) := by decide +kernel
theorem dX5_armsOn_136 : decode cX5_armsOn 136 = .ok (.iadd, 1) := by decide +kernel
theorem dX5_armsOn_137 : decode cX5_armsOn 137 = .ok (.putfield 134, 3) := by decide +kernel
theorem dX5_armsOn_140 : decode cX5_armsOn 140 = .ok (.iinc 2 1, 3) := by decide +kernel
theorem dX5_armsOn_143 : decode cX5_armsOn 143 = .ok (.goto (-141), 3) := by decide +kernel
theorem dX5_armsOn_146 : decode cX5_armsOn 146 = .ok (.return_, 1) := by decide +kernel
set_option maxRecDepth 20000 in
theorem ggX5_handOn_X5_armsOn : GoodIn wsX5_handOn wsX5_armsOn := goodIn_r _ [6, 1, 7, 8, 9, 10, 11, 5, 12, 13, 14, 15, 16, 17, 18, 19, 20, 21, 22, 23, 24, 25, 26, 27, 28, 29, 30, 31, 32, 33, 34, 35, 36, 37, 38, 39, 40, 41, 42, 43, 44, 45, 46, 47] (by decide +kernel) (by decide +kernel)
set_option maxRecDepth 20000 in
theorem gX5_handOn_X5_armsOn : GoodIn wsX5_handOn (wsV RX5 137 RX5 yX5_armsOn wsX5_armsOn) := goodIn_app (goodIn_of _ (by decide +kernel)) ggX5_handOn_X5_armsOn
theorem dX5_handOn_0 : decode cX5_handOn 0 = .ok (.aload_n 0, 1) := by decide +kernel
theorem dX5_handOn_1 : decode cX5_handOn 1 = .ok (.getfield 7, 3) := by decide +kernel
theorem dX5_handOn_4 : decode cX5_handOn 4 = .ok (.iload_n 1, 1) := by decide +kernel
theorem dX5_handOn_5 : decode cX5_handOn 5 = .ok (.bipush 38, 2) := by decide +kernel
theorem dX5_handOn_7 : decode cX5_handOn 7 = .ok (.iadd, 1) := by decide +kernel
theorem dX5_handOn_8 : decode cX5_handOn 8 = .ok (.dup2, 1) := by decide +kernel
theorem dX5_handOn_9 : decode cX5_handOn 9 = .ok (.iaload, 1) := by decide +kernel
theorem dX5_handOn_10 : decode cX5_handOn 10 = .ok (.iload_n 2, 1) := by decide +kernel
theorem dX5_handOn_11 : decode cX5_handOn 11 = .ok (.iadd, 1) := by decide +kernel
theorem dX5_handOn_12 : decode cX5_handOn 12 = .ok (.iastore, 1) := by decide +kernel
theorem dX5_handOn_13 : decode cX5_handOn 13 = .ok (.aload_n 0, 1) := by decide +kernel
theorem dX5_handOn_14 : decode cX5_handOn 14 = .ok (.iload_n 1, 1) := by decide +kernel
theorem dX5_handOn_15 : decode cX5_handOn 15 = .ok (.invokevirtual 137, 3) := by decide +kernel
theorem dX5_handOn_18 : decode cX5_handOn 18 = .ok (.return_, 1) := by decide +kernel
set_option maxRecDepth 20000 in
theorem ggX5_stepOn_X5_handOn : GoodIn wsX5_stepOn wsX5_handOn := goodIn_r _ [6, 1, 7, 8, 9, 5, 10, 11, 12, 13, 14, 15, 16, 17, 18, 19, 20, 21, 22, 23, 24, 25, 26, 27, 28, 29, 30, 31, 32, 33, 34, 35, 36, 37, 38, 39, 40, 41, 42, 43, 44, 45, 46, 47, 48, 49, 50, 51] (by decide +kernel) (by decide +kernel)
set_option maxRecDepth 20000 in
theorem gX5_stepOn_X5_handOn : GoodIn wsX5_stepOn (wsV RX5 140 RX5 yX5_handOn wsX5_handOn) := goodIn_app (goodIn_of _ (by decide +kernel)) ggX5_stepOn_X5_handOn
theorem dX5_stepOn_0 : decode cX5_stepOn 0 = .ok (.aload_n 0, 1) := by decide +kernel
theorem dX5_stepOn_1 : decode cX5_stepOn 1 = .ok (.getfield 7, 3) := by decide +kernel
theorem dX5_stepOn_4 : decode cX5_stepOn 4 = .ok (.iload_n 1, 1) := by decide +kernel
theorem dX5_stepOn_5 : decode cX5_stepOn 5 = .ok (.bipush 37, 2) := by decide +kernel
theorem dX5_stepOn_7 : decode cX5_stepOn 7 = .ok (.iadd, 1) := by decide +kernel
theorem dX5_stepOn_8 : decode cX5_stepOn 8 = .ok (.iaload, 1) := by decide +kernel
theorem dX5_stepOn_9 : decode cX5_stepOn 9 = .ok (.istore_n 3, 1) := by decide +kernel
theorem dX5_stepOn_10 : decode cX5_stepOn 10 = .ok (.iload_n 3, 1) := by decide +kernel
theorem dX5_stepOn_11 : decode cX5_stepOn 11 = .ok (.ifCond .le 33, 3) := by decide +kernel
theorem dX5_stepOn_14 : decode cX5_stepOn 14 = .ok (.iload_n 2, 1) := by decide +kernel
theorem dX5_stepOn_15 : decode cX5_stepOn 15 = .ok (.ifCond .ne 29, 3) := by decide +kernel
theorem dX5_stepOn_18 : decode cX5_stepOn 18 = .ok (.aload_n 0, 1) := by decide +kernel
theorem dX5_stepOn_19 : decode cX5_stepOn 19 = .ok (.iload_n 1, 1) := by decide +kernel
theorem dX5_stepOn_20 : decode cX5_stepOn 20 = .ok (.aload_n 0, 1) := by decide +kernel
theorem dX5_stepOn_21 : decode cX5_stepOn 21 = .ok (.getfield 7, 3) := by decide +kernel
theorem dX5_stepOn_24 : decode cX5_stepOn 24 = .ok (.iload_n 1, 1) := by decide +kernel
theorem dX5_stepOn_25 : decode cX5_stepOn 25 = .ok (.bipush 21, 2) := by decide +kernel
theorem dX5_stepOn_27 : decode cX5_stepOn 27 = .ok (.iadd, 1) := by decide +kernel
theorem dX5_stepOn_28 : decode cX5_stepOn 28 = .ok (.aload_n 0, 1) := by decide +kernel
theorem dX5_stepOn_29 : decode cX5_stepOn 29 = .ok (.getfield 7, 3) := by decide +kernel
theorem dX5_stepOn_32 : decode cX5_stepOn 32 = .ok (.iload_n 1, 1) := by decide +kernel
theorem dX5_stepOn_33 : decode cX5_stepOn 33 = .ok (.bipush 39, 2) := by decide +kernel
theorem dX5_stepOn_35 : decode cX5_stepOn 35 = .ok (.iadd, 1) := by decide +kernel
theorem dX5_stepOn_36 : decode cX5_stepOn 36 = .ok (.iaload, 1) := by decide +kernel
theorem dX5_stepOn_37 : decode cX5_stepOn 37 = .ok (.iload_n 3, 1) := by decide +kernel
theorem dX5_stepOn_38 : decode cX5_stepOn 38 = .ok (.irem, 1) := by decide +kernel
theorem dX5_stepOn_39 : decode cX5_stepOn 39 = .ok (.iadd, 1) := by decide +kernel
theorem dX5_stepOn_40 : decode cX5_stepOn 40 = .ok (.iaload, 1) := by decide +kernel
theorem dX5_stepOn_41 : decode cX5_stepOn 41 = .ok (.invokevirtual 140, 3) := by decide +kernel
theorem dX5_stepOn_44 : decode cX5_stepOn 44 = .ok (.aload_n 0, 1) := by decide +kernel
theorem dX5_stepOn_45 : decode cX5_stepOn 45 = .ok (.getfield 7, 3) := by decide +kernel
theorem dX5_stepOn_48 : decode cX5_stepOn 48 = .ok (.iload_n 1, 1) := by decide +kernel
theorem dX5_stepOn_49 : decode cX5_stepOn 49 = .ok (.bipush 39, 2) := by decide +kernel
theorem dX5_stepOn_51 : decode cX5_stepOn 51 = .ok (.iadd, 1) := by decide +kernel
theorem dX5_stepOn_52 : decode cX5_stepOn 52 = .ok (.dup2, 1) := by decide +kernel
theorem dX5_stepOn_53 : decode cX5_stepOn 53 = .ok (.iaload, 1) := by decide +kernel
theorem dX5_stepOn_54 : decode cX5_stepOn 54 = .ok (.iconst 1, 1) := by decide +kernel
theorem dX5_stepOn_55 : decode cX5_stepOn 55 = .ok (.iadd, 1) := by decide +kernel
theorem dX5_stepOn_56 : decode cX5_stepOn 56 = .ok (.iastore, 1) := by decide +kernel
theorem dX5_stepOn_57 : decode cX5_stepOn 57 = .ok (.return_, 1) := by decide +kernel
set_option maxRecDepth 20000 in
theorem ggX5_errorOn_X5_amount : GoodIn wsX5_errorOn wsX5_amount := goodIn_r _ [5] (by decide +kernel) (by decide +kernel)
set_option maxRecDepth 20000 in
theorem gX5_errorOn_X5_amount : GoodIn wsX5_errorOn (va_wsS RX5 125 yX5_amount wsX5_amount) := goodIn_app (goodIn_of _ (by decide +kernel)) ggX5_errorOn_X5_amount
theorem dX5_errorOn_0 : decode cX5_errorOn 0 = .ok (.aload_n 0, 1) := by decide +kernel
theorem dX5_errorOn_1 : decode cX5_errorOn 1 = .ok (.getfield 7, 3) := by decide +kernel
theorem dX5_errorOn_4 : decode cX5_errorOn 4 = .ok (.iload_n 1, 1) := by decide +kernel
theorem dX5_errorOn_5 : decode cX5_errorOn 5 = .ok (.bipush 20, 2) := by decide +kernel
theorem dX5_errorOn_7 : decode cX5_errorOn 7 = .ok (.iadd, 1) := by decide +kernel
theorem dX5_errorOn_8 : decode cX5_errorOn 8 = .ok (.iaload, 1) := by decide +kernel
theorem dX5_errorOn_9 : decode cX5_errorOn 9 = .ok (.istore_n 2, 1) := by decide +kernel
theorem dX5_errorOn_10 : decode cX5_errorOn 10 = .ok (.iload_n 2, 1) := by decide +kernel
theorem dX5_errorOn_11 : decode cX5_errorOn 11 = .ok (.ifCond .ne 7, 3) := by decide +kernel
theorem dX5_errorOn_14 : decode cX5_errorOn 14 = .ok (.iconst 0, 1) := by decide +kernel
theorem dX5_errorOn_15 : decode cX5_errorOn 15 = .ok (.goto 29, 3) := by decide +kernel
theorem dX5_errorOn_18 : decode cX5_errorOn 18 = .ok (.aload_n 0, 1) := by decide +kernel
theorem dX5_errorOn_19 : decode cX5_errorOn 19 = .ok (.getfield 7, 3) := by decide +kernel
theorem dX5_errorOn_22 : decode cX5_errorOn 22 = .ok (.iload_n 1, 1) := by decide +kernel
theorem dX5_errorOn_23 : decode cX5_errorOn 23 = .ok (.bipush 8, 2) := by decide +kernel
theorem dX5_errorOn_25 : decode cX5_errorOn 25 = .ok (.iadd, 1) := by decide +kernel
theorem dX5_errorOn_26 : decode cX5_errorOn 26 = .ok (.iload_n 2, 1) := by decide +kernel
theorem dX5_errorOn_27 : decode cX5_errorOn 27 = .ok (.iadd, 1) := by decide +kernel
theorem dX5_errorOn_28 : decode cX5_errorOn 28 = .ok (.iconst 1, 1) := by decide +kernel
theorem dX5_errorOn_29 : decode cX5_errorOn 29 = .ok (.isub, 1) := by decide +kernel
theorem dX5_errorOn_30 : decode cX5_errorOn 30 = .ok (.iaload, 1) := by decide +kernel
theorem dX5_errorOn_31 : decode cX5_errorOn 31 = .ok (.aload_n 0, 1) := by decide +kernel
theorem dX5_errorOn_32 : decode cX5_errorOn 32 = .ok (.getfield 7, 3) := by decide +kernel
theorem dX5_errorOn_35 : decode cX5_errorOn 35 = .ok (.iload_n 1, 1) := by decide +kernel
theorem dX5_errorOn_36 : decode cX5_errorOn 36 = .ok (.bipush 38, 2) := by decide +kernel
theorem dX5_errorOn_38 : decode cX5_errorOn 38 = .ok (.iadd, 1) := by decide +kernel
theorem dX5_errorOn_39 : decode cX5_errorOn 39 = .ok (.iaload, 1) := by decide +kernel
theorem dX5_errorOn_40 : decode cX5_errorOn 40 = .ok (.isub, 1) := by decide +kernel
theorem dX5_errorOn_41 : decode cX5_errorOn 41 = .ok (.invokestatic 125, 3) := by decide +kernel
theorem dX5_errorOn_44 : decode cX5_errorOn 44 = .ok (.ireturn, 1) := by decide +kernel
set_option maxRecDepth 20000 in
theorem ggX5_rule_X5_errorOn : GoodIn wsX5_rule wsX5_errorOn := goodIn_r _ [7, 1, 8, 9, 6, 10, 11, 12, 13, 14, 15, 16, 17, 18, 19, 20, 21, 22, 23, 24, 25, 26, 27, 28, 29, 30, 31, 32, 33, 34] (by decide +kernel) (by decide +kernel)
set_option maxRecDepth 20000 in
theorem gX5_rule_X5_errorOn : GoodIn wsX5_rule (wsV RX5 145 RX5 yX5_errorOn wsX5_errorOn) := goodIn_app (goodIn_of _ (by decide +kernel)) ggX5_rule_X5_errorOn
theorem dX5_rule_0 : decode cX5_rule 0 = .ok (.aload_n 0, 1) := by decide +kernel
theorem dX5_rule_1 : decode cX5_rule 1 = .ok (.getfield 7, 3) := by decide +kernel
theorem dX5_rule_4 : decode cX5_rule 4 = .ok (.bipush 37, 2) := by decide +kernel
theorem dX5_rule_6 : decode cX5_rule 6 = .ok (.iaload, 1) := by decide +kernel
theorem dX5_rule_7 : decode cX5_rule 7 = .ok (.istore_n 2, 1) := by decide +kernel
theorem dX5_rule_8 : decode cX5_rule 8 = .ok (.iload_n 1, 1) := by decide +kernel
theorem dX5_rule_9 : decode cX5_rule 9 = .ok (.tableswitch 104 0 5 #[39, 47, 49, 57, 68, 74], 39) := by decide +kernel
theorem dX5_rule_48 : decode cX5_rule 48 = .ok (.aload_n 0, 1) := by decide +kernel
theorem dX5_rule_49 : decode cX5_rule 49 = .ok (.getfield 7, 3) := by decide +kernel
theorem dX5_rule_52 : decode cX5_rule 52 = .ok (.bipush 20, 2) := by decide +kernel
theorem dX5_rule_54 : decode cX5_rule 54 = .ok (.iaload, 1) := by decide +kernel
theorem dX5_rule_55 : decode cX5_rule 55 = .ok (.ireturn, 1) := by decide +kernel
theorem dX5_rule_56 : decode cX5_rule 56 = .ok (.iload_n 2, 1) := by decide +kernel
theorem dX5_rule_57 : decode cX5_rule 57 = .ok (.ireturn, 1) := by decide +kernel
theorem dX5_rule_58 : decode cX5_rule 58 = .ok (.aload_n 0, 1) := by decide +kernel
theorem dX5_rule_59 : decode cX5_rule 59 = .ok (.getfield 7, 3) := by decide +kernel
theorem dX5_rule_62 : decode cX5_rule 62 = .ok (.bipush 39, 2) := by decide +kernel
theorem dX5_rule_64 : decode cX5_rule 64 = .ok (.iaload, 1) := by decide +kernel
theorem dX5_rule_65 : decode cX5_rule 65 = .ok (.ireturn, 1) := by decide +kernel
theorem dX5_rule_66 : decode cX5_rule 66 = .ok (.ldc 144, 2) := by decide +kernel
theorem dX5_rule_68 : decode cX5_rule 68 = .ok (.aload_n 0, 1) := by decide +kernel
theorem dX5_rule_69 : decode cX5_rule 69 = .ok (.getfield 7, 3) := by decide +kernel
theorem dX5_rule_72 : decode cX5_rule 72 = .ok (.bipush 38, 2) := by decide +kernel
theorem dX5_rule_74 : decode cX5_rule 74 = .ok (.iaload, 1) := by decide +kernel
theorem dX5_rule_75 : decode cX5_rule 75 = .ok (.iadd, 1) := by decide +kernel
theorem dX5_rule_76 : decode cX5_rule 76 = .ok (.ireturn, 1) := by decide +kernel
theorem dX5_rule_77 : decode cX5_rule 77 = .ok (.aload_n 0, 1) := by decide +kernel
theorem dX5_rule_78 : decode cX5_rule 78 = .ok (.iconst 0, 1) := by decide +kernel
theorem dX5_rule_79 : decode cX5_rule 79 = .ok (.invokevirtual 145, 3) := by decide +kernel
theorem dX5_rule_82 : decode cX5_rule 82 = .ok (.ireturn, 1) := by decide +kernel
theorem dX5_rule_83 : decode cX5_rule 83 = .ok (.iload_n 2, 1) := by decide +kernel
theorem dX5_rule_84 : decode cX5_rule 84 = .ok (.ifCond .ne 8, 3) := by decide +kernel
theorem dX5_rule_87 : decode cX5_rule 87 = .ok (.bipush (-4), 2) := by decide +kernel
theorem dX5_rule_89 : decode cX5_rule 89 = .ok (.goto 23, 3) := by decide +kernel
theorem dX5_rule_92 : decode cX5_rule 92 = .ok (.bipush 10, 2) := by decide +kernel
theorem dX5_rule_94 : decode cX5_rule 94 = .ok (.aload_n 0, 1) := by decide +kernel
theorem dX5_rule_95 : decode cX5_rule 95 = .ok (.getfield 7, 3) := by decide +kernel
theorem dX5_rule_98 : decode cX5_rule 98 = .ok (.bipush 21, 2) := by decide +kernel
theorem dX5_rule_100 : decode cX5_rule 100 = .ok (.aload_n 0, 1) := by decide +kernel
theorem dX5_rule_101 : decode cX5_rule 101 = .ok (.getfield 7, 3) := by decide +kernel
theorem dX5_rule_104 : decode cX5_rule 104 = .ok (.bipush 39, 2) := by decide +kernel
theorem dX5_rule_106 : decode cX5_rule 106 = .ok (.iaload, 1) := by decide +kernel
theorem dX5_rule_107 : decode cX5_rule 107 = .ok (.iload_n 2, 1) := by decide +kernel
theorem dX5_rule_108 : decode cX5_rule 108 = .ok (.irem, 1) := by decide +kernel
theorem dX5_rule_109 : decode cX5_rule 109 = .ok (.iadd, 1) := by decide +kernel
theorem dX5_rule_110 : decode cX5_rule 110 = .ok (.iaload, 1) := by decide +kernel
theorem dX5_rule_111 : decode cX5_rule 111 = .ok (.iadd, 1) := by decide +kernel
theorem dX5_rule_112 : decode cX5_rule 112 = .ok (.ireturn, 1) := by decide +kernel
theorem dX5_rule_113 : decode cX5_rule 113 = .ok (.iconst (-1), 1) := by decide +kernel
theorem dX5_rule_114 : decode cX5_rule 114 = .ok (.ireturn, 1) := by decide +kernel
set_option maxRecDepth 20000 in
theorem ggX5_arm_X5_isArm : GoodIn wsX5_arm wsX5_isArm := goodIn_r _ [8, 2, 9, 10, 7, 11, 16, 17, 18, 19, 20, 21, 22, 23, 24, 25, 26, 27, 28, 29, 30, 31, 32, 33, 34, 35, 36, 37, 38, 39] (by decide +kernel) (by decide +kernel)
set_option maxRecDepth 20000 in
theorem gX5_arm_X5_isArm : GoodIn wsX5_arm (wsV RX5 148 RX5 yX5_isArm wsX5_isArm) := goodIn_app (goodIn_of _ (by decide +kernel)) ggX5_arm_X5_isArm
set_option maxRecDepth 20000 in
theorem ggX5_arm_X5_in : GoodIn wsX5_arm wsX5_in := goodIn_r _ [11] (by decide +kernel) (by decide +kernel)
set_option maxRecDepth 20000 in
theorem gX5_arm_X5_in : GoodIn wsX5_arm (va_wsS RX5 46 yX5_in wsX5_in) := goodIn_app (goodIn_of _ (by decide +kernel)) ggX5_arm_X5_in
set_option maxRecDepth 20000 in
theorem ggX5_arm_X5_playOn : GoodIn wsX5_arm wsX5_playOn := goodIn_r _ [15, 2, 16, 17, 18, 19, 20, 21, 22, 23, 24, 25, 26, 27, 28, 29, 30, 31, 32, 33, 34, 35, 36, 37, 38, 39] (by decide +kernel) (by decide +kernel)
set_option maxRecDepth 20000 in
theorem gX5_arm_X5_playOn : GoodIn wsX5_arm (wsV RX5 122 RX5 yX5_playOn wsX5_playOn) := goodIn_app (goodIn_of _ (by decide +kernel)) ggX5_arm_X5_playOn
theorem dX5_arm_0 : decode cX5_arm 0 = .ok (.aload_n 0, 1) := by decide +kernel
theorem dX5_arm_1 : decode cX5_arm 1 = .ok (.iload_n 1, 1) := by decide +kernel
theorem dX5_arm_2 : decode cX5_arm 2 = .ok (.invokevirtual 148, 3) := by decide +kernel
theorem dX5_arm_5 : decode cX5_arm 5 = .ok (.ifCond .eq 15, 3) := by decide +kernel
theorem dX5_arm_8 : decode cX5_arm 8 = .ok (.iload_n 2, 1) := by decide +kernel
theorem dX5_arm_9 : decode cX5_arm 9 = .ok (.i2l, 1) := by decide +kernel
theorem dX5_arm_10 : decode cX5_arm 10 = .ok (.lconst 0, 1) := by decide +kernel
theorem dX5_arm_11 : decode cX5_arm 11 = .ok (.ldc2_w 99, 3) := by decide +kernel
theorem dX5_arm_14 : decode cX5_arm 14 = .ok (.invokestatic 46, 3) := by decide +kernel
theorem dX5_arm_17 : decode cX5_arm 17 = .ok (.ifCond .ne 5, 3) := by decide +kernel
theorem dX5_arm_20 : decode cX5_arm 20 = .ok (.iconst (-1), 1) := by decide +kernel
theorem dX5_arm_21 : decode cX5_arm 21 = .ok (.ireturn, 1) := by decide +kernel
theorem dX5_arm_22 : decode cX5_arm 22 = .ok (.iload_n 2, 1) := by decide +kernel
theorem dX5_arm_23 : decode cX5_arm 23 = .ok (.iconst 5, 1) := by decide +kernel
theorem dX5_arm_24 : decode cX5_arm 24 = .ok (.if_icmp .ge 16, 3) := by decide +kernel
theorem dX5_arm_27 : decode cX5_arm 27 = .ok (.aload_n 0, 1) := by decide +kernel
theorem dX5_arm_28 : decode cX5_arm 28 = .ok (.getfield 7, 3) := by decide +kernel
theorem dX5_arm_31 : decode cX5_arm 31 = .ok (.iconst 4, 1) := by decide +kernel
theorem dX5_arm_32 : decode cX5_arm 32 = .ok (.iload_n 2, 1) := by decide +kernel
theorem dX5_arm_33 : decode cX5_arm 33 = .ok (.imul, 1) := by decide +kernel
theorem dX5_arm_34 : decode cX5_arm 34 = .ok (.iload_n 1, 1) := by decide +kernel
theorem dX5_arm_35 : decode cX5_arm 35 = .ok (.iadd, 1) := by decide +kernel
theorem dX5_arm_36 : decode cX5_arm 36 = .ok (.iaload, 1) := by decide +kernel
theorem dX5_arm_37 : decode cX5_arm 37 = .ok (.goto 9, 3) := by decide +kernel
theorem dX5_arm_40 : decode cX5_arm 40 = .ok (.aload_n 0, 1) := by decide +kernel
theorem dX5_arm_41 : decode cX5_arm 41 = .ok (.iconst 0, 1) := by decide +kernel
theorem dX5_arm_42 : decode cX5_arm 42 = .ok (.iload_n 1, 1) := by decide +kernel
theorem dX5_arm_43 : decode cX5_arm 43 = .ok (.invokevirtual 122, 3) := by decide +kernel
theorem dX5_arm_46 : decode cX5_arm 46 = .ok (.istore_n 3, 1) := by decide +kernel
theorem dX5_arm_47 : decode cX5_arm 47 = .ok (.iload_n 2, 1) := by decide +kernel
theorem dX5_arm_48 : decode cX5_arm 48 = .ok (.iconst 2, 1) := by decide +kernel
theorem dX5_arm_49 : decode cX5_arm 49 = .ok (.if_icmp .ne 10, 3) := by decide +kernel
theorem dX5_arm_52 : decode cX5_arm 52 = .ok (.ldc 144, 2) := by decide +kernel
theorem dX5_arm_54 : decode cX5_arm 54 = .ok (.iload_n 3, 1) := by decide +kernel
theorem dX5_arm_55 : decode cX5_arm 55 = .ok (.iadd, 1) := by decide +kernel
theorem dX5_arm_56 : decode cX5_arm 56 = .ok (.goto 15, 3) := by decide +kernel
theorem dX5_arm_59 : decode cX5_arm 59 = .ok (.iload_n 2, 1) := by decide +kernel
theorem dX5_arm_60 : decode cX5_arm 60 = .ok (.iconst 4, 1) := by decide +kernel
theorem dX5_arm_61 : decode cX5_arm 61 = .ok (.if_icmp .ne 9, 3) := by decide +kernel
theorem dX5_arm_64 : decode cX5_arm 64 = .ok (.iconst 1, 1) := by decide +kernel
theorem dX5_arm_65 : decode cX5_arm 65 = .ok (.iload_n 3, 1) := by decide +kernel
theorem dX5_arm_66 : decode cX5_arm 66 = .ok (.iadd, 1) := by decide +kernel
theorem dX5_arm_67 : decode cX5_arm 67 = .ok (.goto 4, 3) := by decide +kernel
theorem dX5_arm_70 : decode cX5_arm 70 = .ok (.iload_n 3, 1) := by decide +kernel
theorem dX5_arm_71 : decode cX5_arm 71 = .ok (.ireturn, 1) := by decide +kernel
set_option maxRecDepth 20000 in
theorem ggX5_stroke_X5_isStroke : GoodIn wsX5_stroke wsX5_isStroke := goodIn_r _ [6, 1, 7, 8, 5, 9, 10, 11, 12, 13, 14, 15, 16, 17, 18, 19, 20, 21, 22, 23, 24, 25, 26, 27, 28, 29, 30, 31, 32, 33] (by decide +kernel) (by decide +kernel)
set_option maxRecDepth 20000 in
theorem gX5_stroke_X5_isStroke : GoodIn wsX5_stroke (wsV RX5 152 RX5 yX5_isStroke wsX5_isStroke) := goodIn_app (goodIn_of _ (by decide +kernel)) ggX5_stroke_X5_isStroke
theorem dX5_stroke_0 : decode cX5_stroke 0 = .ok (.aload_n 0, 1) := by decide +kernel
theorem dX5_stroke_1 : decode cX5_stroke 1 = .ok (.iload_n 1, 1) := by decide +kernel
theorem dX5_stroke_2 : decode cX5_stroke 2 = .ok (.invokevirtual 152, 3) := by decide +kernel
theorem dX5_stroke_5 : decode cX5_stroke 5 = .ok (.ifCond .eq 18, 3) := by decide +kernel
theorem dX5_stroke_8 : decode cX5_stroke 8 = .ok (.bipush 10, 2) := by decide +kernel
theorem dX5_stroke_10 : decode cX5_stroke 10 = .ok (.aload_n 0, 1) := by decide +kernel
theorem dX5_stroke_11 : decode cX5_stroke 11 = .ok (.getfield 7, 3) := by decide +kernel
theorem dX5_stroke_14 : decode cX5_stroke 14 = .ok (.bipush 21, 2) := by decide +kernel
theorem dX5_stroke_16 : decode cX5_stroke 16 = .ok (.iload_n 1, 1) := by decide +kernel
theorem dX5_stroke_17 : decode cX5_stroke 17 = .ok (.iadd, 1) := by decide +kernel
theorem dX5_stroke_18 : decode cX5_stroke 18 = .ok (.iaload, 1) := by decide +kernel
theorem dX5_stroke_19 : decode cX5_stroke 19 = .ok (.iadd, 1) := by decide +kernel
theorem dX5_stroke_20 : decode cX5_stroke 20 = .ok (.goto 4, 3) := by decide +kernel
theorem dX5_stroke_23 : decode cX5_stroke 23 = .ok (.iconst (-1), 1) := by decide +kernel
theorem dX5_stroke_24 : decode cX5_stroke 24 = .ok (.ireturn, 1) := by decide +kernel
theorem dX5_puts_0 : decode cX5_puts 0 = .ok (.iload_n 1, 1) := by decide +kernel
theorem dX5_puts_1 : decode cX5_puts 1 = .ok (.ifCond .ne 5, 3) := by decide +kernel
theorem dX5_puts_4 : decode cX5_puts 4 = .ok (.iconst (-1), 1) := by decide +kernel
theorem dX5_puts_5 : decode cX5_puts 5 = .ok (.ireturn, 1) := by decide +kernel
theorem dX5_puts_6 : decode cX5_puts 6 = .ok (.aload_n 0, 1) := by decide +kernel
theorem dX5_puts_7 : decode cX5_puts 7 = .ok (.getfield 7, 3) := by decide +kernel
theorem dX5_puts_10 : decode cX5_puts 10 = .ok (.iload_n 2, 1) := by decide +kernel
theorem dX5_puts_11 : decode cX5_puts 11 = .ok (.iaload, 1) := by decide +kernel
theorem dX5_puts_12 : decode cX5_puts 12 = .ok (.iload 4, 2) := by decide +kernel
theorem dX5_puts_14 : decode cX5_puts 14 = .ok (.iadd, 1) := by decide +kernel
theorem dX5_puts_15 : decode cX5_puts 15 = .ok (.istore 5, 2) := by decide +kernel
theorem dX5_puts_17 : decode cX5_puts 17 = .ok (.aload_n 0, 1) := by decide +kernel
theorem dX5_puts_18 : decode cX5_puts 18 = .ok (.getfield 7, 3) := by decide +kernel
theorem dX5_puts_21 : decode cX5_puts 21 = .ok (.iload_n 2, 1) := by decide +kernel
theorem dX5_puts_22 : decode cX5_puts 22 = .ok (.iload_n 3, 1) := by decide +kernel
theorem dX5_puts_23 : decode cX5_puts 23 = .ok (.iload 4, 2) := by decide +kernel
theorem dX5_puts_25 : decode cX5_puts 25 = .ok (.isub, 1) := by decide +kernel
theorem dX5_puts_26 : decode cX5_puts 26 = .ok (.iastore, 1) := by decide +kernel
theorem dX5_puts_27 : decode cX5_puts 27 = .ok (.iload 5, 2) := by decide +kernel
theorem dX5_puts_29 : decode cX5_puts 29 = .ok (.ireturn, 1) := by decide +kernel
set_option maxRecDepth 20000 in
theorem ggX5_alter_X5_isArm : GoodIn wsX5_alter wsX5_isArm := goodIn_r _ [8, 9, 10, 11, 7, 12, 17, 18, 19, 20, 21, 22, 23, 24, 25, 26, 27, 28, 29, 30, 31, 32, 33, 34, 35, 36, 37, 38, 39, 40] (by decide +kernel) (by decide +kernel)
set_option maxRecDepth 20000 in
theorem gX5_alter_X5_isArm : GoodIn wsX5_alter (wsV RX5 148 RX5 yX5_isArm wsX5_isArm) := goodIn_app (goodIn_of _ (by decide +kernel)) ggX5_alter_X5_isArm
set_option maxRecDepth 20000 in
theorem ggX5_alter_X5_in : GoodIn wsX5_alter wsX5_in := goodIn_r _ [12] (by decide +kernel) (by decide +kernel)
set_option maxRecDepth 20000 in
theorem gX5_alter_X5_in : GoodIn wsX5_alter (va_wsS RX5 46 yX5_in wsX5_in) := goodIn_app (goodIn_of _ (by decide +kernel)) ggX5_alter_X5_in
set_option maxRecDepth 20000 in
theorem ggX5_alter_X5_puts : GoodIn wsX5_alter wsX5_puts := goodIn_r _ [16, 9, 17, 18, 19, 20, 21, 22, 23, 24, 25, 26, 27, 28, 29, 30, 31, 32, 33, 34, 35, 36, 37, 38, 39, 40] (by decide +kernel) (by decide +kernel)
set_option maxRecDepth 20000 in
theorem gX5_alter_X5_puts : GoodIn wsX5_alter (wsV RX5 161 RX5 yX5_puts wsX5_puts) := goodIn_app (goodIn_of _ (by decide +kernel)) ggX5_alter_X5_puts
theorem dX5_alter_0 : decode cX5_alter 0 = .ok (.aload_n 0, 1) := by decide +kernel
theorem dX5_alter_1 : decode cX5_alter 1 = .ok (.iload_n 1, 1) := by decide +kernel
theorem dX5_alter_2 : decode cX5_alter 2 = .ok (.invokevirtual 148, 3) := by decide +kernel
theorem dX5_alter_5 : decode cX5_alter 5 = .ok (.ifCond .eq 41, 3) := by decide +kernel
theorem dX5_alter_8 : decode cX5_alter 8 = .ok (.iload_n 2, 1) := by decide +kernel
theorem dX5_alter_9 : decode cX5_alter 9 = .ok (.i2l, 1) := by decide +kernel
theorem dX5_alter_10 : decode cX5_alter 10 = .ok (.lconst 0, 1) := by decide +kernel
theorem dX5_alter_11 : decode cX5_alter 11 = .ok (.ldc2_w 155, 3) := by decide +kernel
theorem dX5_alter_14 : decode cX5_alter 14 = .ok (.invokestatic 46, 3) := by decide +kernel
theorem dX5_alter_17 : decode cX5_alter 17 = .ok (.ifCond .eq 29, 3) := by decide +kernel
theorem dX5_alter_20 : decode cX5_alter 20 = .ok (.iload_n 3, 1) := by decide +kernel
theorem dX5_alter_21 : decode cX5_alter 21 = .ok (.i2l, 1) := by decide +kernel
theorem dX5_alter_22 : decode cX5_alter 22 = .ok (.lconst 0, 1) := by decide +kernel
theorem dX5_alter_23 : decode cX5_alter 23 = .ok (.iload_n 2, 1) := by decide +kernel
theorem dX5_alter_24 : decode cX5_alter 24 = .ok (.ifCond .ne 9, 3) := by decide +kernel
theorem dX5_alter_27 : decode cX5_alter 27 = .ok (.ldc2_w 157, 3) := by decide +kernel
theorem dX5_alter_30 : decode cX5_alter 30 = .ok (.goto 6, 3) := by decide +kernel
theorem dX5_alter_33 : decode cX5_alter 33 = .ok (.ldc2_w 159, 3) := by decide +kernel
theorem dX5_alter_36 : decode cX5_alter 36 = .ok (.invokestatic 46, 3) := by decide +kernel
theorem dX5_alter_39 : decode cX5_alter 39 = .ok (.ifCond .eq 7, 3) := by decide +kernel
theorem dX5_alter_42 : decode cX5_alter 42 = .ok (.iconst 1, 1) := by decide +kernel
theorem dX5_alter_43 : decode cX5_alter 43 = .ok (.goto 4, 3) := by decide +kernel
theorem dX5_alter_46 : decode cX5_alter 46 = .ok (.iconst 0, 1) := by decide +kernel
theorem dX5_alter_47 : decode cX5_alter 47 = .ok (.istore 4, 2) := by decide +kernel
theorem dX5_alter_49 : decode cX5_alter 49 = .ok (.aload_n 0, 1) := by decide +kernel
theorem dX5_alter_50 : decode cX5_alter 50 = .ok (.iload 4, 2) := by decide +kernel
theorem dX5_alter_52 : decode cX5_alter 52 = .ok (.iload_n 2, 1) := by decide +kernel
theorem dX5_alter_53 : decode cX5_alter 53 = .ok (.iconst 2, 1) := by decide +kernel
theorem dX5_alter_54 : decode cX5_alter 54 = .ok (.if_icmp .ne 10, 3) := by decide +kernel
theorem dX5_alter_57 : decode cX5_alter 57 = .ok (.bipush 12, 2) := by decide +kernel
theorem dX5_alter_59 : decode cX5_alter 59 = .ok (.iload_n 1, 1) := by decide +kernel
theorem dX5_alter_60 : decode cX5_alter 60 = .ok (.iadd, 1) := by decide +kernel
theorem dX5_alter_61 : decode cX5_alter 61 = .ok (.goto 8, 3) := by decide +kernel
theorem dX5_alter_64 : decode cX5_alter 64 = .ok (.iconst 4, 1) := by decide +kernel
theorem dX5_alter_65 : decode cX5_alter 65 = .ok (.iload_n 2, 1) := by decide +kernel
theorem dX5_alter_66 : decode cX5_alter 66 = .ok (.imul, 1) := by decide +kernel
theorem dX5_alter_67 : decode cX5_alter 67 = .ok (.iload_n 1, 1) := by decide +kernel
theorem dX5_alter_68 : decode cX5_alter 68 = .ok (.iadd, 1) := by decide +kernel
theorem dX5_alter_69 : decode cX5_alter 69 = .ok (.iload_n 3, 1) := by decide +kernel
theorem dX5_alter_70 : decode cX5_alter 70 = .ok (.iconst 0, 1) := by decide +kernel
theorem dX5_alter_71 : decode cX5_alter 71 = .ok (.invokevirtual 161, 3) := by decide +kernel
theorem dX5_alter_74 : decode cX5_alter 74 = .ok (.ireturn, 1) := by decide +kernel
set_option maxRecDepth 20000 in
theorem ggX5_hang_X5_in : GoodIn wsX5_hang wsX5_in := goodIn_r _ [7] (by decide +kernel) (by decide +kernel)
set_option maxRecDepth 20000 in
theorem gX5_hang_X5_in : GoodIn wsX5_hang (va_wsS RX5 46 yX5_in wsX5_in) := goodIn_app (goodIn_of _ (by decide +kernel)) ggX5_hang_X5_in
set_option maxRecDepth 20000 in
theorem ggX5_hang_X5_leaderOn : GoodIn wsX5_hang wsX5_leaderOn := goodIn_r _ [11, 3, 12, 13, 14, 15, 16, 17, 18, 19, 20, 21, 22, 23, 24, 25, 26, 27, 28, 29, 30, 31, 32, 33, 34, 35] (by decide +kernel) (by decide +kernel)
set_option maxRecDepth 20000 in
theorem gX5_hang_X5_leaderOn : GoodIn wsX5_hang (wsV RX5 119 RX5 yX5_leaderOn wsX5_leaderOn) := goodIn_app (goodIn_of _ (by decide +kernel)) ggX5_hang_X5_leaderOn
theorem dX5_hang_0 : decode cX5_hang 0 = .ok (.iload_n 1, 1) := by decide +kernel
theorem dX5_hang_1 : decode cX5_hang 1 = .ok (.i2l, 1) := by decide +kernel
theorem dX5_hang_2 : decode cX5_hang 2 = .ok (.lconst 0, 1) := by decide +kernel
theorem dX5_hang_3 : decode cX5_hang 3 = .ok (.ldc2_w 157, 3) := by decide +kernel
theorem dX5_hang_6 : decode cX5_hang 6 = .ok (.invokestatic 46, 3) := by decide +kernel
theorem dX5_hang_9 : decode cX5_hang 9 = .ok (.ifCond .eq 15, 3) := by decide +kernel
theorem dX5_hang_12 : decode cX5_hang 12 = .ok (.iload_n 2, 1) := by decide +kernel
theorem dX5_hang_13 : decode cX5_hang 13 = .ok (.i2l, 1) := by decide +kernel
theorem dX5_hang_14 : decode cX5_hang 14 = .ok (.lconst 0, 1) := by decide +kernel
theorem dX5_hang_15 : decode cX5_hang 15 = .ok (.ldc2_w 159, 3) := by decide +kernel
theorem dX5_hang_18 : decode cX5_hang 18 = .ok (.invokestatic 46, 3) := by decide +kernel
theorem dX5_hang_21 : decode cX5_hang 21 = .ok (.ifCond .ne 5, 3) := by decide +kernel
theorem dX5_hang_24 : decode cX5_hang 24 = .ok (.iconst (-1), 1) := by decide +kernel
theorem dX5_hang_25 : decode cX5_hang 25 = .ok (.ireturn, 1) := by decide +kernel
theorem dX5_hang_26 : decode cX5_hang 26 = .ok (.aload_n 0, 1) := by decide +kernel
theorem dX5_hang_27 : decode cX5_hang 27 = .ok (.getfield 7, 3) := by decide +kernel
theorem dX5_hang_30 : decode cX5_hang 30 = .ok (.bipush 20, 2) := by decide +kernel
theorem dX5_hang_32 : decode cX5_hang 32 = .ok (.iaload, 1) := by decide +kernel
theorem dX5_hang_33 : decode cX5_hang 33 = .ok (.istore_n 3, 1) := by decide +kernel
theorem dX5_hang_34 : decode cX5_hang 34 = .ok (.iload_n 3, 1) := by decide +kernel
theorem dX5_hang_35 : decode cX5_hang 35 = .ok (.iconst 4, 1) := by decide +kernel
theorem dX5_hang_36 : decode cX5_hang 36 = .ok (.if_icmp .ne 6, 3) := by decide +kernel
theorem dX5_hang_39 : decode cX5_hang 39 = .ok (.bipush (-3), 2) := by decide +kernel
theorem dX5_hang_41 : decode cX5_hang 41 = .ok (.ireturn, 1) := by decide +kernel
theorem dX5_hang_42 : decode cX5_hang 42 = .ok (.aload_n 0, 1) := by decide +kernel
theorem dX5_hang_43 : decode cX5_hang 43 = .ok (.getfield 7, 3) := by decide +kernel
theorem dX5_hang_46 : decode cX5_hang 46 = .ok (.iload_n 3, 1) := by decide +kernel
theorem dX5_hang_47 : decode cX5_hang 47 = .ok (.iload_n 1, 1) := by decide +kernel
theorem dX5_hang_48 : decode cX5_hang 48 = .ok (.iastore, 1) := by decide +kernel
theorem dX5_hang_49 : decode cX5_hang 49 = .ok (.aload_n 0, 1) := by decide +kernel
theorem dX5_hang_50 : decode cX5_hang 50 = .ok (.getfield 7, 3) := by decide +kernel
theorem dX5_hang_53 : decode cX5_hang 53 = .ok (.iconst 4, 1) := by decide +kernel
theorem dX5_hang_54 : decode cX5_hang 54 = .ok (.iload_n 3, 1) := by decide +kernel
theorem dX5_hang_55 : decode cX5_hang 55 = .ok (.iadd, 1) := by decide +kernel
theorem dX5_hang_56 : decode cX5_hang 56 = .ok (.iload_n 2, 1) := by decide +kernel
theorem dX5_hang_57 : decode cX5_hang 57 = .ok (.iastore, 1) := by decide +kernel
theorem dX5_hang_58 : decode cX5_hang 58 = .ok (.aload_n 0, 1) := by decide +kernel
theorem dX5_hang_59 : decode cX5_hang 59 = .ok (.getfield 7, 3) := by decide +kernel
theorem dX5_hang_62 : decode cX5_hang 62 = .ok (.bipush 8, 2) := by decide +kernel
theorem dX5_hang_64 : decode cX5_hang 64 = .ok (.iload_n 3, 1) := by decide +kernel
theorem dX5_hang_65 : decode cX5_hang 65 = .ok (.iadd, 1) := by decide +kernel
theorem dX5_hang_66 : decode cX5_hang 66 = .ok (.aload_n 0, 1) := by decide +kernel
theorem dX5_hang_67 : decode cX5_hang 67 = .ok (.iconst 0, 1) := by decide +kernel
theorem dX5_hang_68 : decode cX5_hang 68 = .ok (.iload_n 3, 1) := by decide +kernel
theorem dX5_hang_69 : decode cX5_hang 69 = .ok (.invokevirtual 119, 3) := by decide +kernel
theorem dX5_hang_72 : decode cX5_hang 72 = .ok (.iastore, 1) := by decide +kernel
theorem dX5_hang_73 : decode cX5_hang 73 = .ok (.aload_n 0, 1) := by decide +kernel
theorem dX5_hang_74 : decode cX5_hang 74 = .ok (.getfield 7, 3) := by decide +kernel
theorem dX5_hang_77 : decode cX5_hang 77 = .ok (.bipush 12, 2) := by decide +kernel
theorem dX5_hang_79 : decode cX5_hang 79 = .ok (.iload_n 3, 1) := by decide +kernel
theorem dX5_hang_80 : decode cX5_hang 80 = .ok (.iadd, 1) := by decide +kernel
theorem dX5_hang_81 : decode cX5_hang 81 = .ok (.iconst 0, 1) := by decide +kernel
theorem dX5_hang_82 : decode cX5_hang 82 = .ok (.iastore, 1) := by decide +kernel
theorem dX5_hang_83 : decode cX5_hang 83 = .ok (.aload_n 0, 1) := by decide +kernel
theorem dX5_hang_84 : decode cX5_hang 84 = .ok (.getfield 7, 3) := by decide +kernel
theorem dX5_hang_87 : decode cX5_hang 87 = .ok (.bipush 16, 2) := by decide +kernel
theorem dX5_hang_89 : decode cX5_hang 89 = .ok (.iload_n 3, 1) := by decide +kernel
theorem dX5_hang_90 : decode cX5_hang 90 = .ok (.iadd, 1) := by decide +kernel
theorem dX5_hang_91 : decode cX5_hang 91 = .ok (.iconst 0, 1) := by decide +kernel
theorem dX5_hang_92 : decode cX5_hang 92 = .ok (.iastore, 1) := by decide +kernel
theorem dX5_hang_93 : decode cX5_hang 93 = .ok (.aload_n 0, 1) := by decide +kernel
theorem dX5_hang_94 : decode cX5_hang 94 = .ok (.getfield 7, 3) := by decide +kernel
theorem dX5_hang_97 : decode cX5_hang 97 = .ok (.bipush 20, 2) := by decide +kernel
theorem dX5_hang_99 : decode cX5_hang 99 = .ok (.dup2, 1) := by decide +kernel
theorem dX5_hang_100 : decode cX5_hang 100 = .ok (.iaload, 1) := by decide +kernel
theorem dX5_hang_101 : decode cX5_hang 101 = .ok (.iconst 1, 1) := by decide +kernel
theorem dX5_hang_102 : decode cX5_hang 102 = .ok (.iadd, 1) := by decide +kernel
theorem dX5_hang_103 : decode cX5_hang 103 = .ok (.iastore, 1) := by decide +kernel
theorem dX5_hang_104 : decode cX5_hang 104 = .ok (.aload_n 0, 1) := by decide +kernel
theorem dX5_hang_105 : decode cX5_hang 105 = .ok (.getfield 7, 3) := by decide +kernel
theorem dX5_hang_108 : decode cX5_hang 108 = .ok (.bipush 20, 2) := by decide +kernel
theorem dX5_hang_110 : decode cX5_hang 110 = .ok (.iaload, 1) := by decide +kernel
theorem dX5_hang_111 : decode cX5_hang 111 = .ok (.ireturn, 1) := by decide +kernel
set_option maxRecDepth 20000 in
theorem ggX5_cut_X5_in : GoodIn wsX5_cut wsX5_in := goodIn_r _ [5] (by decide +kernel) (by decide +kernel)
set_option maxRecDepth 20000 in
theorem gX5_cut_X5_in : GoodIn wsX5_cut (va_wsS RX5 46 yX5_in wsX5_in) := goodIn_app (goodIn_of _ (by decide +kernel)) ggX5_cut_X5_in
set_option maxRecDepth 20000 in
theorem ggX5_cut_X5_puts : GoodIn wsX5_cut wsX5_puts := goodIn_r _ [9, 1, 10, 11, 12, 13, 14, 15, 16, 17, 18, 19, 20, 21, 22, 23, 24, 25, 26, 27, 28, 29, 30, 31, 32, 33] (by decide +kernel) (by decide +kernel)
set_option maxRecDepth 20000 in
theorem gX5_cut_X5_puts : GoodIn wsX5_cut (wsV RX5 161 RX5 yX5_puts wsX5_puts) := goodIn_app (goodIn_of _ (by decide +kernel)) ggX5_cut_X5_puts
theorem dX5_cut_0 : decode cX5_cut 0 = .ok (.aload_n 0, 1) := by decide +kernel
theorem dX5_cut_1 : decode cX5_cut 1 = .ok (.iload_n 1, 1) := by decide +kernel
theorem dX5_cut_2 : decode cX5_cut 2 = .ok (.i2l, 1) := by decide +kernel
theorem dX5_cut_3 : decode cX5_cut 3 = .ok (.lconst 0, 1) := by decide +kernel
theorem dX5_cut_4 : decode cX5_cut 4 = .ok (.aload_n 0, 1) := by decide +kernel
theorem dX5_cut_5 : decode cX5_cut 5 = .ok (.getfield 7, 3) := by decide +kernel
theorem dX5_cut_8 : decode cX5_cut 8 = .ok (.bipush 20, 2) := by decide +kernel
theorem dX5_cut_10 : decode cX5_cut 10 = .ok (.iaload, 1) := by decide +kernel
theorem dX5_cut_11 : decode cX5_cut 11 = .ok (.i2l, 1) := by decide +kernel
theorem dX5_cut_12 : decode cX5_cut 12 = .ok (.invokestatic 46, 3) := by decide +kernel
theorem dX5_cut_15 : decode cX5_cut 15 = .ok (.bipush 20, 2) := by decide +kernel
theorem dX5_cut_17 : decode cX5_cut 17 = .ok (.iload_n 1, 1) := by decide +kernel
theorem dX5_cut_18 : decode cX5_cut 18 = .ok (.iconst 0, 1) := by decide +kernel
theorem dX5_cut_19 : decode cX5_cut 19 = .ok (.invokevirtual 161, 3) := by decide +kernel
theorem dX5_cut_22 : decode cX5_cut 22 = .ok (.ireturn, 1) := by decide +kernel
set_option maxRecDepth 20000 in
theorem ggX5_set_X5_isStroke : GoodIn wsX5_set wsX5_isStroke := goodIn_r _ [6, 7, 8, 9, 5, 10, 15, 16, 17, 18, 19, 20, 21, 22, 23, 24, 25, 26, 27, 28, 29, 30, 31, 32, 33, 34, 35, 36, 37, 38] (by decide +kernel) (by decide +kernel)
set_option maxRecDepth 20000 in
theorem gX5_set_X5_isStroke : GoodIn wsX5_set (wsV RX5 152 RX5 yX5_isStroke wsX5_isStroke) := goodIn_app (goodIn_of _ (by decide +kernel)) ggX5_set_X5_isStroke
set_option maxRecDepth 20000 in
theorem ggX5_set_X5_in : GoodIn wsX5_set wsX5_in := goodIn_r _ [10] (by decide +kernel) (by decide +kernel)
set_option maxRecDepth 20000 in
theorem gX5_set_X5_in : GoodIn wsX5_set (va_wsS RX5 46 yX5_in wsX5_in) := goodIn_app (goodIn_of _ (by decide +kernel)) ggX5_set_X5_in
set_option maxRecDepth 20000 in
theorem ggX5_set_X5_puts : GoodIn wsX5_set wsX5_puts := goodIn_r _ [14, 7, 15, 16, 17, 18, 19, 20, 21, 22, 23, 24, 25, 26, 27, 28, 29, 30, 31, 32, 33, 34, 35, 36, 37, 38] (by decide +kernel) (by decide +kernel)
set_option maxRecDepth 20000 in
theorem gX5_set_X5_puts : GoodIn wsX5_set (wsV RX5 161 RX5 yX5_puts wsX5_puts) := goodIn_app (goodIn_of _ (by decide +kernel)) ggX5_set_X5_puts
theorem dX5_set_0 : decode cX5_set 0 = .ok (.aload_n 0, 1) := by decide +kernel
theorem dX5_set_1 : decode cX5_set 1 = .ok (.aload_n 0, 1) := by decide +kernel
theorem dX5_set_2 : decode cX5_set 2 = .ok (.iload_n 1, 1) := by decide +kernel
theorem dX5_set_3 : decode cX5_set 3 = .ok (.invokevirtual 152, 3) := by decide +kernel
theorem dX5_set_6 : decode cX5_set 6 = .ok (.ifCond .eq 19, 3) := by decide +kernel
theorem dX5_set_9 : decode cX5_set 9 = .ok (.iload_n 2, 1) := by decide +kernel
theorem dX5_set_10 : decode cX5_set 10 = .ok (.i2l, 1) := by decide +kernel
theorem dX5_set_11 : decode cX5_set 11 = .ok (.lconst 0, 1) := by decide +kernel
theorem dX5_set_12 : decode cX5_set 12 = .ok (.ldc2_w 165, 3) := by decide +kernel
theorem dX5_set_15 : decode cX5_set 15 = .ok (.invokestatic 46, 3) := by decide +kernel
theorem dX5_set_18 : decode cX5_set 18 = .ok (.ifCond .eq 7, 3) := by decide +kernel
theorem dX5_set_21 : decode cX5_set 21 = .ok (.iconst 1, 1) := by decide +kernel
theorem dX5_set_22 : decode cX5_set 22 = .ok (.goto 4, 3) := by decide +kernel
theorem dX5_set_25 : decode cX5_set 25 = .ok (.iconst 0, 1) := by decide +kernel
theorem dX5_set_26 : decode cX5_set 26 = .ok (.bipush 21, 2) := by decide +kernel
theorem dX5_set_28 : decode cX5_set 28 = .ok (.iload_n 1, 1) := by decide +kernel
theorem dX5_set_29 : decode cX5_set 29 = .ok (.iadd, 1) := by decide +kernel
theorem dX5_set_30 : decode cX5_set 30 = .ok (.iload_n 2, 1) := by decide +kernel
theorem dX5_set_31 : decode cX5_set 31 = .ok (.bipush 9, 2) := by decide +kernel
theorem dX5_set_33 : decode cX5_set 33 = .ok (.invokevirtual 161, 3) := by decide +kernel
theorem dX5_set_36 : decode cX5_set 36 = .ok (.ireturn, 1) := by decide +kernel
set_option maxRecDepth 20000 in
theorem ggX5_adds_X5_in : GoodIn wsX5_adds wsX5_in := goodIn_r _ [6] (by decide +kernel) (by decide +kernel)
set_option maxRecDepth 20000 in
theorem gX5_adds_X5_in : GoodIn wsX5_adds (va_wsS RX5 46 yX5_in wsX5_in) := goodIn_app (goodIn_of _ (by decide +kernel)) ggX5_adds_X5_in
theorem dX5_adds_0 : decode cX5_adds 0 = .ok (.iload_n 1, 1) := by decide +kernel
theorem dX5_adds_1 : decode cX5_adds 1 = .ok (.i2l, 1) := by decide +kernel
theorem dX5_adds_2 : decode cX5_adds 2 = .ok (.lconst 0, 1) := by decide +kernel
theorem dX5_adds_3 : decode cX5_adds 3 = .ok (.ldc2_w 165, 3) := by decide +kernel
theorem dX5_adds_6 : decode cX5_adds 6 = .ok (.invokestatic 46, 3) := by decide +kernel
theorem dX5_adds_9 : decode cX5_adds 9 = .ok (.ifCond .ne 5, 3) := by decide +kernel
theorem dX5_adds_12 : decode cX5_adds 12 = .ok (.iconst (-1), 1) := by decide +kernel
theorem dX5_adds_13 : decode cX5_adds 13 = .ok (.ireturn, 1) := by decide +kernel
theorem dX5_adds_14 : decode cX5_adds 14 = .ok (.aload_n 0, 1) := by decide +kernel
theorem dX5_adds_15 : decode cX5_adds 15 = .ok (.getfield 7, 3) := by decide +kernel
theorem dX5_adds_18 : decode cX5_adds 18 = .ok (.bipush 37, 2) := by decide +kernel
theorem dX5_adds_20 : decode cX5_adds 20 = .ok (.iaload, 1) := by decide +kernel
theorem dX5_adds_21 : decode cX5_adds 21 = .ok (.bipush 16, 2) := by decide +kernel
theorem dX5_adds_23 : decode cX5_adds 23 = .ok (.if_icmp .ne 6, 3) := by decide +kernel
theorem dX5_adds_26 : decode cX5_adds 26 = .ok (.bipush (-3), 2) := by decide +kernel
theorem dX5_adds_28 : decode cX5_adds 28 = .ok (.ireturn, 1) := by decide +kernel
theorem dX5_adds_29 : decode cX5_adds 29 = .ok (.aload_n 0, 1) := by decide +kernel
theorem dX5_adds_30 : decode cX5_adds 30 = .ok (.getfield 7, 3) := by decide +kernel
theorem dX5_adds_33 : decode cX5_adds 33 = .ok (.bipush 21, 2) := by decide +kernel
theorem dX5_adds_35 : decode cX5_adds 35 = .ok (.aload_n 0, 1) := by decide +kernel
theorem dX5_adds_36 : decode cX5_adds 36 = .ok (.getfield 7, 3) := by decide +kernel
theorem dX5_adds_39 : decode cX5_adds 39 = .ok (.bipush 37, 2) := by decide +kernel
theorem dX5_adds_41 : decode cX5_adds 41 = .ok (.iaload, 1) := by decide +kernel
theorem dX5_adds_42 : decode cX5_adds 42 = .ok (.iadd, 1) := by decide +kernel
theorem dX5_adds_43 : decode cX5_adds 43 = .ok (.iload_n 1, 1) := by decide +kernel
theorem dX5_adds_44 : decode cX5_adds 44 = .ok (.bipush 9, 2) := by decide +kernel
theorem dX5_adds_46 : decode cX5_adds 46 = .ok (.isub, 1) := by decide +kernel
theorem dX5_adds_47 : decode cX5_adds 47 = .ok (.iastore, 1) := by decide +kernel
theorem dX5_adds_48 : decode cX5_adds 48 = .ok (.aload_n 0, 1) := by decide +kernel
theorem dX5_adds_49 : decode cX5_adds 49 = .ok (.getfield 7, 3) := by decide +kernel
theorem dX5_adds_52 : decode cX5_adds 52 = .ok (.bipush 37, 2) := by decide +kernel
theorem dX5_adds_54 : decode cX5_adds 54 = .ok (.dup2, 1) := by decide +kernel
theorem dX5_adds_55 : decode cX5_adds 55 = .ok (.iaload, 1) := by decide +kernel
theorem dX5_adds_56 : decode cX5_adds 56 = .ok (.iconst 1, 1) := by decide +kernel
theorem dX5_adds_57 : decode cX5_adds 57 = .ok (.iadd, 1) := by decide +kernel
theorem dX5_adds_58 : decode cX5_adds 58 = .ok (.iastore, 1) := by decide +kernel
theorem dX5_adds_59 : decode cX5_adds 59 = .ok (.aload_n 0, 1) := by decide +kernel
theorem dX5_adds_60 : decode cX5_adds 60 = .ok (.getfield 7, 3) := by decide +kernel
theorem dX5_adds_63 : decode cX5_adds 63 = .ok (.bipush 37, 2) := by decide +kernel
theorem dX5_adds_65 : decode cX5_adds 65 = .ok (.iaload, 1) := by decide +kernel
theorem dX5_adds_66 : decode cX5_adds 66 = .ok (.ireturn, 1) := by decide +kernel
set_option maxRecDepth 20000 in
theorem ggX5_add_X5_adds : GoodIn wsX5_add wsX5_adds := goodIn_r _ [5, 6, 7, 8, 9, 4, 10, 11, 12, 13, 14, 15, 16, 17, 18, 19, 20, 21, 22, 23, 24, 25, 26, 27, 28, 29, 30, 31, 32, 33, 34] (by decide +kernel) (by decide +kernel)
set_option maxRecDepth 20000 in
theorem gX5_add_X5_adds : GoodIn wsX5_add (wsV RX5 167 RX5 yX5_adds wsX5_adds) := goodIn_app (goodIn_of _ (by decide +kernel)) ggX5_add_X5_adds
theorem dX5_add_0 : decode cX5_add 0 = .ok (.aload_n 0, 1) := by decide +kernel
theorem dX5_add_1 : decode cX5_add 1 = .ok (.iload_n 1, 1) := by decide +kernel
theorem dX5_add_2 : decode cX5_add 2 = .ok (.invokevirtual 167, 3) := by decide +kernel
theorem dX5_add_5 : decode cX5_add 5 = .ok (.ireturn, 1) := by decide +kernel
set_option maxRecDepth 20000 in
theorem ggX5_drop_X5_in : GoodIn wsX5_drop wsX5_in := goodIn_r _ [5] (by decide +kernel) (by decide +kernel)
set_option maxRecDepth 20000 in
theorem gX5_drop_X5_in : GoodIn wsX5_drop (va_wsS RX5 46 yX5_in wsX5_in) := goodIn_app (goodIn_of _ (by decide +kernel)) ggX5_drop_X5_in
set_option maxRecDepth 20000 in
theorem ggX5_drop_X5_puts : GoodIn wsX5_drop wsX5_puts := goodIn_r _ [9, 1, 10, 11, 12, 13, 14, 15, 16, 17, 18, 19, 20, 21, 22, 23, 24, 25, 26, 27, 28, 29, 30, 31, 32, 33] (by decide +kernel) (by decide +kernel)
set_option maxRecDepth 20000 in
theorem gX5_drop_X5_puts : GoodIn wsX5_drop (wsV RX5 161 RX5 yX5_puts wsX5_puts) := goodIn_app (goodIn_of _ (by decide +kernel)) ggX5_drop_X5_puts
theorem dX5_drop_0 : decode cX5_drop 0 = .ok (.aload_n 0, 1) := by decide +kernel
theorem dX5_drop_1 : decode cX5_drop 1 = .ok (.iload_n 1, 1) := by decide +kernel
theorem dX5_drop_2 : decode cX5_drop 2 = .ok (.i2l, 1) := by decide +kernel
theorem dX5_drop_3 : decode cX5_drop 3 = .ok (.lconst 0, 1) := by decide +kernel
theorem dX5_drop_4 : decode cX5_drop 4 = .ok (.aload_n 0, 1) := by decide +kernel
theorem dX5_drop_5 : decode cX5_drop 5 = .ok (.getfield 7, 3) := by decide +kernel
theorem dX5_drop_8 : decode cX5_drop 8 = .ok (.bipush 37, 2) := by decide +kernel
theorem dX5_drop_10 : decode cX5_drop 10 = .ok (.iaload, 1) := by decide +kernel
theorem dX5_drop_11 : decode cX5_drop 11 = .ok (.i2l, 1) := by decide +kernel
theorem dX5_drop_12 : decode cX5_drop 12 = .ok (.invokestatic 46, 3) := by decide +kernel
theorem dX5_drop_15 : decode cX5_drop 15 = .ok (.bipush 37, 2) := by decide +kernel
theorem dX5_drop_17 : decode cX5_drop 17 = .ok (.iload_n 1, 1) := by decide +kernel
theorem dX5_drop_18 : decode cX5_drop 18 = .ok (.iconst 0, 1) := by decide +kernel
theorem dX5_drop_19 : decode cX5_drop 19 = .ok (.invokevirtual 161, 3) := by decide +kernel
theorem dX5_drop_22 : decode cX5_drop 22 = .ok (.ireturn, 1) := by decide +kernel
set_option maxRecDepth 20000 in
theorem ggX5_pull_X5_in : GoodIn wsX5_pull wsX5_in := goodIn_r _ [5] (by decide +kernel) (by decide +kernel)
set_option maxRecDepth 20000 in
theorem gX5_pull_X5_in : GoodIn wsX5_pull (va_wsS RX5 46 yX5_in wsX5_in) := goodIn_app (goodIn_of _ (by decide +kernel)) ggX5_pull_X5_in
set_option maxRecDepth 20000 in
theorem ggX5_pull_X5_handOn : GoodIn wsX5_pull wsX5_handOn := goodIn_r _ [9, 10, 11, 12, 13, 4, 14, 15, 16, 17, 18, 19, 20, 21, 22, 23, 24, 25, 26, 27, 28, 29, 30, 31, 36, 37, 38, 39, 40, 41, 42, 43, 44, 45, 46, 47, 48, 49, 50, 51, 52, 53, 54, 55, 56, 57, 58, 59] (by decide +kernel) (by decide +kernel)
set_option maxRecDepth 20000 in
theorem gX5_pull_X5_handOn : GoodIn wsX5_pull (wsV RX5 140 RX5 yX5_handOn wsX5_handOn) := goodIn_app (goodIn_of _ (by decide +kernel)) ggX5_pull_X5_handOn
set_option maxRecDepth 20000 in
theorem ggX5_pull_X5_errorOn : GoodIn wsX5_pull wsX5_errorOn := goodIn_r _ [35, 10, 29, 30, 4, 31, 36, 37, 38, 39, 40, 41, 42, 43, 44, 45, 46, 47, 48, 49, 50, 51, 52, 53, 54, 55, 56, 57, 58, 59] (by decide +kernel) (by decide +kernel)
set_option maxRecDepth 20000 in
theorem gX5_pull_X5_errorOn : GoodIn wsX5_pull (wsV RX5 145 RX5 yX5_errorOn wsX5_errorOn) := goodIn_app (goodIn_of _ (by decide +kernel)) ggX5_pull_X5_errorOn
theorem dX5_pull_0 : decode cX5_pull 0 = .ok (.iload_n 1, 1) := by decide +kernel
theorem dX5_pull_1 : decode cX5_pull 1 = .ok (.i2l, 1) := by decide +kernel
theorem dX5_pull_2 : decode cX5_pull 2 = .ok (.lconst 0, 1) := by decide +kernel
theorem dX5_pull_3 : decode cX5_pull 3 = .ok (.ldc2_w 165, 3) := by decide +kernel
theorem dX5_pull_6 : decode cX5_pull 6 = .ok (.invokestatic 46, 3) := by decide +kernel
theorem dX5_pull_9 : decode cX5_pull 9 = .ok (.ifCond .ne 5, 3) := by decide +kernel
theorem dX5_pull_12 : decode cX5_pull 12 = .ok (.iconst (-1), 1) := by decide +kernel
theorem dX5_pull_13 : decode cX5_pull 13 = .ok (.ireturn, 1) := by decide +kernel
theorem dX5_pull_14 : decode cX5_pull 14 = .ok (.aload_n 0, 1) := by decide +kernel
theorem dX5_pull_15 : decode cX5_pull 15 = .ok (.iconst 0, 1) := by decide +kernel
theorem dX5_pull_16 : decode cX5_pull 16 = .ok (.iload_n 1, 1) := by decide +kernel
theorem dX5_pull_17 : decode cX5_pull 17 = .ok (.bipush 9, 2) := by decide +kernel
theorem dX5_pull_19 : decode cX5_pull 19 = .ok (.isub, 1) := by decide +kernel
theorem dX5_pull_20 : decode cX5_pull 20 = .ok (.invokevirtual 140, 3) := by decide +kernel
theorem dX5_pull_23 : decode cX5_pull 23 = .ok (.aload_n 0, 1) := by decide +kernel
theorem dX5_pull_24 : decode cX5_pull 24 = .ok (.iconst 0, 1) := by decide +kernel
theorem dX5_pull_25 : decode cX5_pull 25 = .ok (.invokevirtual 145, 3) := by decide +kernel
theorem dX5_pull_28 : decode cX5_pull 28 = .ok (.ireturn, 1) := by decide +kernel
set_option maxRecDepth 20000 in
theorem ggX5_steps_X5_in : GoodIn wsX5_steps wsX5_in := goodIn_r _ [7] (by decide +kernel) (by decide +kernel)
set_option maxRecDepth 20000 in
theorem gX5_steps_X5_in : GoodIn wsX5_steps (va_wsS RX5 46 yX5_in wsX5_in) := goodIn_app (goodIn_of _ (by decide +kernel)) ggX5_steps_X5_in
set_option maxRecDepth 20000 in
theorem ggX5_steps_X5_stepOn : GoodIn wsX5_steps wsX5_stepOn := goodIn_r _ [11, 2, 12, 13, 14, 6, 15, 16, 17, 18, 19, 20, 3, 21, 22, 23, 24, 25, 26, 27, 28, 29, 30, 31, 32, 33, 34, 35, 36, 37, 38, 39, 40, 41, 42, 43, 44, 45, 46, 47, 48, 49, 50, 51, 52, 53, 54, 55, 56, 57, 58, 59] (by decide +kernel) (by decide +kernel)
set_option maxRecDepth 20000 in
theorem gX5_steps_X5_stepOn : GoodIn wsX5_steps (wsV RX5 172 RX5 yX5_stepOn wsX5_stepOn) := goodIn_app (goodIn_of _ (by decide +kernel)) ggX5_steps_X5_stepOn
theorem dX5_steps_0 : decode cX5_steps 0 = .ok (.iload_n 1, 1) := by decide +kernel
theorem dX5_steps_1 : decode cX5_steps 1 = .ok (.i2l, 1) := by decide +kernel
theorem dX5_steps_2 : decode cX5_steps 2 = .ok (.lconst 0, 1) := by decide +kernel
theorem dX5_steps_3 : decode cX5_steps 3 = .ok (.ldc2_w 170, 3) := by decide +kernel
theorem dX5_steps_6 : decode cX5_steps 6 = .ok (.invokestatic 46, 3) := by decide +kernel
theorem dX5_steps_9 : decode cX5_steps 9 = .ok (.ifCond .ne 5, 3) := by decide +kernel
theorem dX5_steps_12 : decode cX5_steps 12 = .ok (.iconst (-1), 1) := by decide +kernel
theorem dX5_steps_13 : decode cX5_steps 13 = .ok (.ireturn, 1) := by decide +kernel
theorem dX5_steps_14 : decode cX5_steps 14 = .ok (.aload_n 0, 1) := by decide +kernel
theorem dX5_steps_15 : decode cX5_steps 15 = .ok (.getfield 7, 3) := by decide +kernel
theorem dX5_steps_18 : decode cX5_steps 18 = .ok (.bipush 39, 2) := by decide +kernel
theorem dX5_steps_20 : decode cX5_steps 20 = .ok (.iaload, 1) := by decide +kernel
theorem dX5_steps_21 : decode cX5_steps 21 = .ok (.iload_n 1, 1) := by decide +kernel
theorem dX5_steps_22 : decode cX5_steps 22 = .ok (.iadd, 1) := by decide +kernel
theorem dX5_steps_23 : decode cX5_steps 23 = .ok (.sipush 9999, 3) := by decide +kernel
theorem dX5_steps_26 : decode cX5_steps 26 = .ok (.if_icmp .le 6, 3) := by decide +kernel
theorem dX5_steps_29 : decode cX5_steps 29 = .ok (.bipush (-3), 2) := by decide +kernel
theorem dX5_steps_31 : decode cX5_steps 31 = .ok (.ireturn, 1) := by decide +kernel
theorem dX5_steps_32 : decode cX5_steps 32 = .ok (.aload_n 0, 1) := by decide +kernel
theorem dX5_steps_33 : decode cX5_steps 33 = .ok (.iconst 0, 1) := by decide +kernel
theorem dX5_steps_34 : decode cX5_steps 34 = .ok (.putfield 134, 3) := by decide +kernel
theorem dX5_steps_37 : decode cX5_steps 37 = .ok (.iconst 0, 1) := by decide +kernel
theorem dX5_steps_38 : decode cX5_steps 38 = .ok (.istore_n 2, 1) := by decide +kernel
theorem dX5_steps_39 : decode cX5_steps 39 = .ok (.iload_n 2, 1) := by decide +kernel
theorem dX5_steps_40 : decode cX5_steps 40 = .ok (.iload_n 1, 1) := by decide +kernel
theorem dX5_steps_41 : decode cX5_steps 41 = .ok (.if_icmp .ge 15, 3) := by decide +kernel
theorem dX5_steps_44 : decode cX5_steps 44 = .ok (.aload_n 0, 1) := by decide +kernel
theorem dX5_steps_45 : decode cX5_steps 45 = .ok (.iconst 0, 1) := by decide +kernel
theorem dX5_steps_46 : decode cX5_steps 46 = .ok (.iconst 0, 1) := by decide +kernel
theorem dX5_steps_47 : decode cX5_steps 47 = .ok (.invokevirtual 172, 3) := by decide +kernel
theorem dX5_steps_50 : decode cX5_steps 50 = .ok (.iinc 2 1, 3) := by decide +kernel
theorem dX5_steps_53 : decode cX5_steps 53 = .ok (.goto (-14), 3) := by decide +kernel
theorem dX5_steps_56 : decode cX5_steps 56 = .ok (.aload_n 0, 1) := by decide +kernel
theorem dX5_steps_57 : decode cX5_steps 57 = .ok (.getfield 134, 3) := by decide +kernel
theorem dX5_steps_60 : decode cX5_steps 60 = .ok (.ireturn, 1) := by decide +kernel
theorem dX5_copies_0 : decode cX5_copies 0 = .ok (.iconst 0, 1) := by decide +kernel
theorem dX5_copies_1 : decode cX5_copies 1 = .ok (.istore_n 3, 1) := by decide +kernel
theorem dX5_copies_2 : decode cX5_copies 2 = .ok (.iload_n 3, 1) := by decide +kernel
theorem dX5_copies_3 : decode cX5_copies 3 = .ok (.bipush 40, 2) := by decide +kernel
theorem dX5_copies_5 : decode cX5_copies 5 = .ok (.if_icmp .ge 25, 3) := by decide +kernel
theorem dX5_copies_8 : decode cX5_copies 8 = .ok (.aload_n 0, 1) := by decide +kernel
theorem dX5_copies_9 : decode cX5_copies 9 = .ok (.getfield 7, 3) := by decide +kernel
theorem dX5_copies_12 : decode cX5_copies 12 = .ok (.iload_n 2, 1) := by decide +kernel
theorem dX5_copies_13 : decode cX5_copies 13 = .ok (.iload_n 3, 1) := by decide +kernel
theorem dX5_copies_14 : decode cX5_copies 14 = .ok (.iadd, 1) := by decide +kernel
theorem dX5_copies_15 : decode cX5_copies 15 = .ok (.aload_n 0, 1) := by decide +kernel
theorem dX5_copies_16 : decode cX5_copies 16 = .ok (.getfield 7, 3) := by decide +kernel
theorem dX5_copies_19 : decode cX5_copies 19 = .ok (.iload_n 1, 1) := by decide +kernel
theorem dX5_copies_20 : decode cX5_copies 20 = .ok (.iload_n 3, 1) := by decide +kernel
theorem dX5_copies_21 : decode cX5_copies 21 = .ok (.iadd, 1) := by decide +kernel
theorem dX5_copies_22 : decode cX5_copies 22 = .ok (.iaload, 1) := by decide +kernel
theorem dX5_copies_23 : decode cX5_copies 23 = .ok (.iastore, 1) := by decide +kernel
theorem dX5_copies_24 : decode cX5_copies 24 = .ok (.iinc 3 1, 3) := by decide +kernel
theorem dX5_copies_27 : decode cX5_copies 27 = .ok (.goto (-25), 3) := by decide +kernel
theorem dX5_copies_30 : decode cX5_copies 30 = .ok (.return_, 1) := by decide +kernel
set_option maxRecDepth 20000 in
theorem ggX5_stepsGo_X5_copies : GoodIn wsX5_stepsGo wsX5_copies := goodIn_r _ [8, 9, 41, 42, 43, 44, 45, 46, 47, 48, 49, 50, 51, 52, 53, 54, 55, 56, 57, 58, 59, 60, 61, 62, 63, 64] (by decide +kernel) (by decide +kernel)
set_option maxRecDepth 20000 in
theorem gX5_stepsGo_X5_copies : GoodIn wsX5_stepsGo (wsV RX5 176 RX5 yX5_copies wsX5_copies) := goodIn_app (goodIn_of _ (by decide +kernel)) ggX5_stepsGo_X5_copies
set_option maxRecDepth 20000 in
theorem ggX5_stepsGo_X5_stepOn : GoodIn wsX5_stepsGo wsX5_stepOn := goodIn_r _ [13, 9, 14, 15, 16, 7, 17, 18, 19, 20, 21, 2, 1, 22, 23, 24, 25, 26, 27, 28, 29, 30, 31, 32, 33, 34, 35, 36, 41, 42, 43, 44, 45, 46, 47, 48, 49, 50, 51, 52, 53, 54, 55, 56, 57, 58, 59, 60, 61, 62, 63, 64] (by decide +kernel) (by decide +kernel)
set_option maxRecDepth 20000 in
theorem gX5_stepsGo_X5_stepOn : GoodIn wsX5_stepsGo (wsV RX5 172 RX5 yX5_stepOn wsX5_stepOn) := goodIn_app (goodIn_of _ (by decide +kernel)) ggX5_stepsGo_X5_stepOn
set_option maxRecDepth 20000 in
theorem ggX5_stepsGo_X5_errorOn : GoodIn wsX5_stepsGo wsX5_errorOn := goodIn_r _ [40, 9, 34, 35, 7, 36, 41, 42, 43, 44, 45, 46, 47, 48, 49, 50, 51, 52, 53, 54, 55, 56, 57, 58, 59, 60, 61, 62, 63, 64] (by decide +kernel) (by decide +kernel)
set_option maxRecDepth 20000 in
theorem gX5_stepsGo_X5_errorOn : GoodIn wsX5_stepsGo (wsV RX5 145 RX5 yX5_errorOn wsX5_errorOn) := goodIn_app (goodIn_of _ (by decide +kernel)) ggX5_stepsGo_X5_errorOn
theorem dX5_stepsGo_0 : decode cX5_stepsGo 0 = .ok (.aload_n 0, 1) := by decide +kernel
theorem dX5_stepsGo_1 : decode cX5_stepsGo 1 = .ok (.iload_n 1, 1) := by decide +kernel
theorem dX5_stepsGo_2 : decode cX5_stepsGo 2 = .ok (.sipush 160, 3) := by decide +kernel
theorem dX5_stepsGo_5 : decode cX5_stepsGo 5 = .ok (.invokevirtual 176, 3) := by decide +kernel
theorem dX5_stepsGo_8 : decode cX5_stepsGo 8 = .ok (.aload_n 0, 1) := by decide +kernel
theorem dX5_stepsGo_9 : decode cX5_stepsGo 9 = .ok (.iconst 0, 1) := by decide +kernel
theorem dX5_stepsGo_10 : decode cX5_stepsGo 10 = .ok (.putfield 134, 3) := by decide +kernel
theorem dX5_stepsGo_13 : decode cX5_stepsGo 13 = .ok (.aload_n 0, 1) := by decide +kernel
theorem dX5_stepsGo_14 : decode cX5_stepsGo 14 = .ok (.iconst 0, 1) := by decide +kernel
theorem dX5_stepsGo_15 : decode cX5_stepsGo 15 = .ok (.putfield 131, 3) := by decide +kernel
theorem dX5_stepsGo_18 : decode cX5_stepsGo 18 = .ok (.aload_n 0, 1) := by decide +kernel
theorem dX5_stepsGo_19 : decode cX5_stepsGo 19 = .ok (.iconst 0, 1) := by decide +kernel
theorem dX5_stepsGo_20 : decode cX5_stepsGo 20 = .ok (.putfield 179, 3) := by decide +kernel
theorem dX5_stepsGo_23 : decode cX5_stepsGo 23 = .ok (.iconst 0, 1) := by decide +kernel
theorem dX5_stepsGo_24 : decode cX5_stepsGo 24 = .ok (.istore_n 3, 1) := by decide +kernel
theorem dX5_stepsGo_25 : decode cX5_stepsGo 25 = .ok (.iload_n 3, 1) := by decide +kernel
theorem dX5_stepsGo_26 : decode cX5_stepsGo 26 = .ok (.iload_n 2, 1) := by decide +kernel
theorem dX5_stepsGo_27 : decode cX5_stepsGo 27 = .ok (.if_icmp .ge 48, 3) := by decide +kernel
theorem dX5_stepsGo_30 : decode cX5_stepsGo 30 = .ok (.aload_n 0, 1) := by decide +kernel
theorem dX5_stepsGo_31 : decode cX5_stepsGo 31 = .ok (.sipush 160, 3) := by decide +kernel
theorem dX5_stepsGo_34 : decode cX5_stepsGo 34 = .ok (.iconst 0, 1) := by decide +kernel
theorem dX5_stepsGo_35 : decode cX5_stepsGo 35 = .ok (.invokevirtual 172, 3) := by decide +kernel
theorem dX5_stepsGo_38 : decode cX5_stepsGo 38 = .ok (.aload_n 0, 1) := by decide +kernel
theorem dX5_stepsGo_39 : decode cX5_stepsGo 39 = .ok (.sipush 160, 3) := by decide +kernel
theorem dX5_stepsGo_42 : decode cX5_stepsGo 42 = .ok (.invokevirtual 145, 3) := by decide +kernel
theorem dX5_stepsGo_45 : decode cX5_stepsGo 45 = .ok (.istore 4, 2) := by decide +kernel
theorem dX5_stepsGo_47 : decode cX5_stepsGo 47 = .ok (.aload_n 0, 1) := by decide +kernel
theorem dX5_stepsGo_48 : decode cX5_stepsGo 48 = .ok (.iload 4, 2) := by decide +kernel
theorem dX5_stepsGo_50 : decode cX5_stepsGo 50 = .ok (.aload_n 0, 1) := by decide +kernel
theorem dX5_stepsGo_51 : decode cX5_stepsGo 51 = .ok (.getfield 179, 3) := by decide +kernel
theorem dX5_stepsGo_54 : decode cX5_stepsGo 54 = .ok (.if_icmp .le 8, 3) := by decide +kernel
theorem dX5_stepsGo_57 : decode cX5_stepsGo 57 = .ok (.iload 4, 2) := by decide +kernel
theorem dX5_stepsGo_59 : decode cX5_stepsGo 59 = .ok (.goto 7, 3) := by decide +kernel
theorem dX5_stepsGo_62 : decode cX5_stepsGo 62 = .ok (.aload_n 0, 1) := by decide +kernel
theorem dX5_stepsGo_63 : decode cX5_stepsGo 63 = .ok (.getfield 179, 3) := by decide +kernel
theorem dX5_stepsGo_66 : decode cX5_stepsGo 66 = .ok (.putfield 179, 3) := by decide +kernel
theorem dX5_stepsGo_69 : decode cX5_stepsGo 69 = .ok (.iinc 3 1, 3) := by decide +kernel
theorem dX5_stepsGo_72 : decode cX5_stepsGo 72 = .ok (.goto (-47), 3) := by decide +kernel
theorem dX5_stepsGo_75 : decode cX5_stepsGo 75 = .ok (.aload_n 0, 1) := by decide +kernel
theorem dX5_stepsGo_76 : decode cX5_stepsGo 76 = .ok (.sipush 160, 3) := by decide +kernel
theorem dX5_stepsGo_79 : decode cX5_stepsGo 79 = .ok (.invokevirtual 145, 3) := by decide +kernel
theorem dX5_stepsGo_82 : decode cX5_stepsGo 82 = .ok (.ireturn, 1) := by decide +kernel
set_option maxRecDepth 20000 in
theorem ggX5_runs_X5_isLong : GoodIn wsX5_runs wsX5_isLong := goodIn_r _ [10, 11, 12, 13, 9, 14] (by decide +kernel) (by decide +kernel)
set_option maxRecDepth 20000 in
theorem gX5_runs_X5_isLong : GoodIn wsX5_runs (va_wsS RX5 182 yX5_isLong wsX5_isLong) := goodIn_app (goodIn_of _ (by decide +kernel)) ggX5_runs_X5_isLong
set_option maxRecDepth 20000 in
theorem ggX5_runs_X5_in : GoodIn wsX5_runs wsX5_in := goodIn_r _ [14] (by decide +kernel) (by decide +kernel)
set_option maxRecDepth 20000 in
theorem gX5_runs_X5_in : GoodIn wsX5_runs (va_wsS RX5 46 yX5_in wsX5_in) := goodIn_app (goodIn_of _ (by decide +kernel)) ggX5_runs_X5_in
set_option maxRecDepth 20000 in
theorem ggX5_runs_X5_stepsGo : GoodIn wsX5_runs wsX5_stepsGo := goodIn_r _ [18, 2, 6, 5, 19, 20, 21, 9, 22, 4, 23, 24, 25, 26, 27, 28, 29, 30, 31, 32, 33, 34, 35, 36, 37, 38, 39, 40, 41, 42, 43, 44, 45, 46, 47, 48, 49, 50, 51, 52, 53, 54, 55, 56, 57, 58, 59, 60, 61, 62, 63, 64, 65, 66, 67, 68, 69, 70, 71, 72, 73, 74, 75, 76, 77] (by decide +kernel) (by decide +kernel)
set_option maxRecDepth 20000 in
theorem gX5_runs_X5_stepsGo : GoodIn wsX5_runs (wsV RX5 187 RX5 yX5_stepsGo wsX5_stepsGo) := goodIn_app (goodIn_of _ (by decide +kernel)) ggX5_runs_X5_stepsGo
set_option maxRecDepth 20000 in
theorem ggX5_runs_X5_errorOn : GoodIn wsX5_runs wsX5_errorOn := goodIn_r _ [53, 4, 47, 48, 9, 49, 54, 55, 56, 57, 58, 59, 60, 61, 62, 63, 64, 65, 66, 67, 68, 69, 70, 71, 72, 73, 74, 75, 76, 77] (by decide +kernel) (by decide +kernel)
set_option maxRecDepth 20000 in
theorem gX5_runs_X5_errorOn : GoodIn wsX5_runs (wsV RX5 145 RX5 yX5_errorOn wsX5_errorOn) := goodIn_app (goodIn_of _ (by decide +kernel)) ggX5_runs_X5_errorOn
theorem dX5_runs_0 : decode cX5_runs 0 = .ok (.iload_n 1, 1) := by decide +kernel
theorem dX5_runs_1 : decode cX5_runs 1 = .ok (.invokestatic 182, 3) := by decide +kernel
theorem dX5_runs_4 : decode cX5_runs 4 = .ok (.ifCond .eq 15, 3) := by decide +kernel
theorem dX5_runs_7 : decode cX5_runs 7 = .ok (.iload_n 2, 1) := by decide +kernel
