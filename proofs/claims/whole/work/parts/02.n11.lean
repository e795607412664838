theorem dX5_sheet_43 : decode cX5_sheet 43 = .ok (.iload_n 1, 1) := by decide +kernel
theorem dX5_sheet_44 : decode cX5_sheet 44 = .ok (.iload_n 2, 1) := by decide +kernel
theorem dX5_sheet_45 : decode cX5_sheet 45 = .ok (.iastore, 1) := by decide +kernel
theorem dX5_sheet_46 : decode cX5_sheet 46 = .ok (.aload_n 0, 1) := by decide +kernel
theorem dX5_sheet_47 : decode cX5_sheet 47 = .ok (.getfield 38, 3) := by decide +kernel
theorem dX5_sheet_50 : decode cX5_sheet 50 = .ok (.iload_n 1, 1) := by decide +kernel
theorem dX5_sheet_51 : decode cX5_sheet 51 = .ok (.iload_n 3, 1) := by decide +kernel
theorem dX5_sheet_52 : decode cX5_sheet 52 = .ok (.iastore, 1) := by decide +kernel
theorem dX5_sheet_53 : decode cX5_sheet 53 = .ok (.iconst 0, 1) := by decide +kernel
theorem dX5_sheet_54 : decode cX5_sheet 54 = .ok (.istore 4, 2) := by decide +kernel
theorem dX5_sheet_56 : decode cX5_sheet 56 = .ok (.iload 4, 2) := by decide +kernel
theorem dX5_sheet_58 : decode cX5_sheet 58 = .ok (.bipush 40, 2) := by decide +kernel
theorem dX5_sheet_60 : decode cX5_sheet 60 = .ok (.if_icmp .ge 22, 3) := by decide +kernel
theorem dX5_sheet_63 : decode cX5_sheet 63 = .ok (.aload_n 0, 1) := by decide +kernel
theorem dX5_sheet_64 : decode cX5_sheet 64 = .ok (.getfield 41, 3) := by decide +kernel
theorem dX5_sheet_67 : decode cX5_sheet 67 = .ok (.bipush 40, 2) := by decide +kernel
theorem dX5_sheet_69 : decode cX5_sheet 69 = .ok (.iload_n 1, 1) := by decide +kernel
theorem dX5_sheet_70 : decode cX5_sheet 70 = .ok (.imul, 1) := by decide +kernel
theorem dX5_sheet_71 : decode cX5_sheet 71 = .ok (.iload 4, 2) := by decide +kernel
theorem dX5_sheet_73 : decode cX5_sheet 73 = .ok (.iadd, 1) := by decide +kernel
theorem dX5_sheet_74 : decode cX5_sheet 74 = .ok (.iconst 0, 1) := by decide +kernel
theorem dX5_sheet_75 : decode cX5_sheet 75 = .ok (.iastore, 1) := by decide +kernel
theorem dX5_sheet_76 : decode cX5_sheet 76 = .ok (.iinc 4 1, 3) := by decide +kernel
theorem dX5_sheet_79 : decode cX5_sheet 79 = .ok (.goto (-23), 3) := by decide +kernel
theorem dX5_sheet_82 : decode cX5_sheet 82 = .ok (.iconst 1, 1) := by decide +kernel
theorem dX5_sheet_83 : decode cX5_sheet 83 = .ok (.ireturn, 1) := by decide +kernel
set_option maxRecDepth 20000 in
theorem ggX5_lay_X5_in : GoodIn wsX5_lay wsX5_in := goodIn_r _ [8] (by decide +kernel) (by decide +kernel)
set_option maxRecDepth 20000 in
theorem gX5_lay_X5_in : GoodIn wsX5_lay (va_wsS RX5 46 yX5_in wsX5_in) := goodIn_app (goodIn_of _ (by decide +kernel)) ggX5_lay_X5_in
theorem dX5_lay_0 : decode cX5_lay 0 = .ok (.iload_n 1, 1) := by decide +kernel
theorem dX5_lay_1 : decode cX5_lay 1 = .ok (.i2l, 1) := by decide +kernel
theorem dX5_lay_2 : decode cX5_lay 2 = .ok (.lconst 0, 1) := by decide +kernel
theorem dX5_lay_3 : decode cX5_lay 3 = .ok (.ldc2_w 157, 3) := by decide +kernel
theorem dX5_lay_6 : decode cX5_lay 6 = .ok (.invokestatic 46, 3) := by decide +kernel
theorem dX5_lay_9 : decode cX5_lay 9 = .ok (.ifCond .ne 5, 3) := by decide +kernel
theorem dX5_lay_12 : decode cX5_lay 12 = .ok (.iconst (-1), 1) := by decide +kernel
theorem dX5_lay_13 : decode cX5_lay 13 = .ok (.ireturn, 1) := by decide +kernel
theorem dX5_lay_14 : decode cX5_lay 14 = .ok (.aload_n 0, 1) := by decide +kernel
theorem dX5_lay_15 : decode cX5_lay 15 = .ok (.getfield 35, 3) := by decide +kernel
theorem dX5_lay_18 : decode cX5_lay 18 = .ok (.iload_n 1, 1) := by decide +kernel
theorem dX5_lay_19 : decode cX5_lay 19 = .ok (.iaload, 1) := by decide +kernel
theorem dX5_lay_20 : decode cX5_lay 20 = .ok (.bipush (-4), 2) := by decide +kernel
theorem dX5_lay_22 : decode cX5_lay 22 = .ok (.if_icmp .ne 6, 3) := by decide +kernel
theorem dX5_lay_25 : decode cX5_lay 25 = .ok (.bipush (-11), 2) := by decide +kernel
theorem dX5_lay_27 : decode cX5_lay 27 = .ok (.ireturn, 1) := by decide +kernel
theorem dX5_lay_28 : decode cX5_lay 28 = .ok (.iload_n 2, 1) := by decide +kernel
theorem dX5_lay_29 : decode cX5_lay 29 = .ok (.i2l, 1) := by decide +kernel
theorem dX5_lay_30 : decode cX5_lay 30 = .ok (.lconst 0, 1) := by decide +kernel
theorem dX5_lay_31 : decode cX5_lay 31 = .ok (.aload_n 0, 1) := by decide +kernel
theorem dX5_lay_32 : decode cX5_lay 32 = .ok (.getfield 38, 3) := by decide +kernel
theorem dX5_lay_35 : decode cX5_lay 35 = .ok (.iload_n 1, 1) := by decide +kernel
theorem dX5_lay_36 : decode cX5_lay 36 = .ok (.iaload, 1) := by decide +kernel
theorem dX5_lay_37 : decode cX5_lay 37 = .ok (.iconst 1, 1) := by decide +kernel
theorem dX5_lay_38 : decode cX5_lay 38 = .ok (.isub, 1) := by decide +kernel
theorem dX5_lay_39 : decode cX5_lay 39 = .ok (.i2l, 1) := by decide +kernel
theorem dX5_lay_40 : decode cX5_lay 40 = .ok (.invokestatic 46, 3) := by decide +kernel
theorem dX5_lay_43 : decode cX5_lay 43 = .ok (.ifCond .ne 6, 3) := by decide +kernel
theorem dX5_lay_46 : decode cX5_lay 46 = .ok (.bipush (-12), 2) := by decide +kernel
theorem dX5_lay_48 : decode cX5_lay 48 = .ok (.ireturn, 1) := by decide +kernel
theorem dX5_lay_49 : decode cX5_lay 49 = .ok (.aload_n 0, 1) := by decide +kernel
theorem dX5_lay_50 : decode cX5_lay 50 = .ok (.getfield 41, 3) := by decide +kernel
theorem dX5_lay_53 : decode cX5_lay 53 = .ok (.bipush 40, 2) := by decide +kernel
theorem dX5_lay_55 : decode cX5_lay 55 = .ok (.iload_n 1, 1) := by decide +kernel
theorem dX5_lay_56 : decode cX5_lay 56 = .ok (.imul, 1) := by decide +kernel
theorem dX5_lay_57 : decode cX5_lay 57 = .ok (.iload_n 2, 1) := by decide +kernel
theorem dX5_lay_58 : decode cX5_lay 58 = .ok (.iadd, 1) := by decide +kernel
theorem dX5_lay_59 : decode cX5_lay 59 = .ok (.aload_n 0, 1) := by decide +kernel
theorem dX5_lay_60 : decode cX5_lay 60 = .ok (.getfield 35, 3) := by decide +kernel
theorem dX5_lay_63 : decode cX5_lay 63 = .ok (.iload_n 1, 1) := by decide +kernel
theorem dX5_lay_64 : decode cX5_lay 64 = .ok (.iaload, 1) := by decide +kernel
theorem dX5_lay_65 : decode cX5_lay 65 = .ok (.ifCond .ne 13, 3) := by decide +kernel
theorem dX5_lay_68 : decode cX5_lay 68 = .ok (.iload_n 3, 1) := by decide +kernel
theorem dX5_lay_69 : decode cX5_lay 69 = .ok (.bipush 24, 2) := by decide +kernel
theorem dX5_lay_71 : decode cX5_lay 71 = .ok (.ishl, 1) := by decide +kernel
theorem dX5_lay_72 : decode cX5_lay 72 = .ok (.bipush 24, 2) := by decide +kernel
theorem dX5_lay_74 : decode cX5_lay 74 = .ok (.ishr, 1) := by decide +kernel
theorem dX5_lay_75 : decode cX5_lay 75 = .ok (.goto 24, 3) := by decide +kernel
theorem dX5_lay_78 : decode cX5_lay 78 = .ok (.aload_n 0, 1) := by decide +kernel
theorem dX5_lay_79 : decode cX5_lay 79 = .ok (.getfield 35, 3) := by decide +kernel
theorem dX5_lay_82 : decode cX5_lay 82 = .ok (.iload_n 1, 1) := by decide +kernel
theorem dX5_lay_83 : decode cX5_lay 83 = .ok (.iaload, 1) := by decide +kernel
theorem dX5_lay_84 : decode cX5_lay 84 = .ok (.iconst 1, 1) := by decide +kernel
theorem dX5_lay_85 : decode cX5_lay 85 = .ok (.if_icmp .ne 13, 3) := by decide +kernel
theorem dX5_lay_88 : decode cX5_lay 88 = .ok (.iload_n 3, 1) := by decide +kernel
theorem dX5_lay_89 : decode cX5_lay 89 = .ok (.bipush 16, 2) := by decide +kernel
theorem dX5_lay_91 : decode cX5_lay 91 = .ok (.ishl, 1) := by decide +kernel
theorem dX5_lay_92 : decode cX5_lay 92 = .ok (.bipush 16, 2) := by decide +kernel
theorem dX5_lay_94 : decode cX5_lay 94 = .ok (.ishr, 1) := by decide +kernel
theorem dX5_lay_95 : decode cX5_lay 95 = .ok (.goto 4, 3) := by decide +kernel
theorem dX5_lay_98 : decode cX5_lay 98 = .ok (.iload_n 3, 1) := by decide +kernel
theorem dX5_lay_99 : decode cX5_lay 99 = .ok (.iastore, 1) := by decide +kernel
theorem dX5_lay_100 : decode cX5_lay 100 = .ok (.iconst 1, 1) := by decide +kernel
theorem dX5_lay_101 : decode cX5_lay 101 = .ok (.ireturn, 1) := by decide +kernel
set_option maxRecDepth 20000 in
theorem ggX5_read_X5_in : GoodIn wsX5_read wsX5_in := goodIn_r _ [11] (by decide +kernel) (by decide +kernel)
set_option maxRecDepth 20000 in
theorem gX5_read_X5_in : GoodIn wsX5_read (va_wsS RX5 46 yX5_in wsX5_in) := goodIn_app (goodIn_of _ (by decide +kernel)) ggX5_read_X5_in
set_option maxRecDepth 20000 in
theorem ggX5_read_X5_copies : GoodIn wsX5_read wsX5_copies := goodIn_r _ [15, 16, 22, 23, 24, 25, 26, 27, 28, 29, 30, 31, 32, 33, 34, 35, 36, 37, 38, 39, 40, 41, 42, 43, 44, 45] (by decide +kernel) (by decide +kernel)
set_option maxRecDepth 20000 in
theorem gX5_read_X5_copies : GoodIn wsX5_read (wsV RX5 176 RX5 yX5_copies wsX5_copies) := goodIn_app (goodIn_of _ (by decide +kernel)) ggX5_read_X5_copies
set_option maxRecDepth 20000 in
theorem ggX5_read_X5_adds : GoodIn wsX5_read wsX5_adds := goodIn_r _ [20, 21, 16, 8, 9, 10, 11, 22, 23, 24, 25, 26, 27, 28, 29, 30, 31, 32, 33, 34, 35, 36, 37, 38, 39, 40, 41, 42, 43, 44, 45] (by decide +kernel) (by decide +kernel)
set_option maxRecDepth 20000 in
theorem gX5_read_X5_adds : GoodIn wsX5_read (wsV RX5 167 RX5 yX5_adds wsX5_adds) := goodIn_app (goodIn_of _ (by decide +kernel)) ggX5_read_X5_adds
theorem dX5_read_0 : decode cX5_read 0 = .ok (.iload_n 1, 1) := by decide +kernel
theorem dX5_read_1 : decode cX5_read 1 = .ok (.i2l, 1) := by decide +kernel
theorem dX5_read_2 : decode cX5_read 2 = .ok (.lconst 0, 1) := by decide +kernel
theorem dX5_read_3 : decode cX5_read 3 = .ok (.ldc2_w 157, 3) := by decide +kernel
theorem dX5_read_6 : decode cX5_read 6 = .ok (.invokestatic 46, 3) := by decide +kernel
theorem dX5_read_9 : decode cX5_read 9 = .ok (.ifCond .eq 28, 3) := by decide +kernel
theorem dX5_read_12 : decode cX5_read 12 = .ok (.iload_n 2, 1) := by decide +kernel
theorem dX5_read_13 : decode cX5_read 13 = .ok (.i2l, 1) := by decide +kernel
theorem dX5_read_14 : decode cX5_read 14 = .ok (.lconst 0, 1) := by decide +kernel
theorem dX5_read_15 : decode cX5_read 15 = .ok (.ldc2_w 155, 3) := by decide +kernel
theorem dX5_read_18 : decode cX5_read 18 = .ok (.invokestatic 46, 3) := by decide +kernel
theorem dX5_read_21 : decode cX5_read 21 = .ok (.ifCond .eq 16, 3) := by decide +kernel
theorem dX5_read_24 : decode cX5_read 24 = .ok (.iload 4, 2) := by decide +kernel
theorem dX5_read_26 : decode cX5_read 26 = .ok (.i2l, 1) := by decide +kernel
theorem dX5_read_27 : decode cX5_read 27 = .ok (.lconst 0, 1) := by decide +kernel
theorem dX5_read_28 : decode cX5_read 28 = .ok (.ldc2_w 218, 3) := by decide +kernel
theorem dX5_read_31 : decode cX5_read 31 = .ok (.invokestatic 46, 3) := by decide +kernel
theorem dX5_read_34 : decode cX5_read 34 = .ok (.ifCond .ne 5, 3) := by decide +kernel
theorem dX5_read_37 : decode cX5_read 37 = .ok (.iconst (-1), 1) := by decide +kernel
theorem dX5_read_38 : decode cX5_read 38 = .ok (.ireturn, 1) := by decide +kernel
theorem dX5_read_39 : decode cX5_read 39 = .ok (.aload_n 0, 1) := by decide +kernel
theorem dX5_read_40 : decode cX5_read 40 = .ok (.iconst 0, 1) := by decide +kernel
theorem dX5_read_41 : decode cX5_read 41 = .ok (.bipush 120, 2) := by decide +kernel
theorem dX5_read_43 : decode cX5_read 43 = .ok (.invokevirtual 176, 3) := by decide +kernel
theorem dX5_read_46 : decode cX5_read 46 = .ok (.iconst 0, 1) := by decide +kernel
theorem dX5_read_47 : decode cX5_read 47 = .ok (.istore 5, 2) := by decide +kernel
theorem dX5_read_49 : decode cX5_read 49 = .ok (.iconst 0, 1) := by decide +kernel
theorem dX5_read_50 : decode cX5_read 50 = .ok (.istore 6, 2) := by decide +kernel
theorem dX5_read_52 : decode cX5_read 52 = .ok (.iconst 0, 1) := by decide +kernel
theorem dX5_read_53 : decode cX5_read 53 = .ok (.istore 7, 2) := by decide +kernel
theorem dX5_read_55 : decode cX5_read 55 = .ok (.iload 7, 2) := by decide +kernel
theorem dX5_read_57 : decode cX5_read 57 = .ok (.iload 4, 2) := by decide +kernel
theorem dX5_read_59 : decode cX5_read 59 = .ok (.if_icmp .ge 118, 3) := by decide +kernel
theorem dX5_read_62 : decode cX5_read 62 = .ok (.iload 5, 2) := by decide +kernel
theorem dX5_read_64 : decode cX5_read 64 = .ok (.ifCond .ne 113, 3) := by decide +kernel
theorem dX5_read_67 : decode cX5_read 67 = .ok (.aload_n 0, 1) := by decide +kernel
theorem dX5_read_68 : decode cX5_read 68 = .ok (.getfield 35, 3) := by decide +kernel
theorem dX5_read_71 : decode cX5_read 71 = .ok (.iload_n 1, 1) := by decide +kernel
theorem dX5_read_72 : decode cX5_read 72 = .ok (.iaload, 1) := by decide +kernel
theorem dX5_read_73 : decode cX5_read 73 = .ok (.bipush (-4), 2) := by decide +kernel
theorem dX5_read_75 : decode cX5_read 75 = .ok (.if_icmp .ne 7, 3) := by decide +kernel
theorem dX5_read_78 : decode cX5_read 78 = .ok (.iconst 1, 1) := by decide +kernel
theorem dX5_read_79 : decode cX5_read 79 = .ok (.goto 44, 3) := by decide +kernel
theorem dX5_read_82 : decode cX5_read 82 = .ok (.aload_n 0, 1) := by decide +kernel
theorem dX5_read_83 : decode cX5_read 83 = .ok (.getfield 35, 3) := by decide +kernel
theorem dX5_read_86 : decode cX5_read 86 = .ok (.iload_n 1, 1) := by decide +kernel
theorem dX5_read_87 : decode cX5_read 87 = .ok (.iaload, 1) := by decide +kernel
theorem dX5_read_88 : decode cX5_read 88 = .ok (.iload_n 2, 1) := by decide +kernel
theorem dX5_read_89 : decode cX5_read 89 = .ok (.if_icmp .eq 7, 3) := by decide +kernel
theorem dX5_read_92 : decode cX5_read 92 = .ok (.iconst 3, 1) := by decide +kernel
theorem dX5_read_93 : decode cX5_read 93 = .ok (.goto 30, 3) := by decide +kernel
theorem dX5_read_96 : decode cX5_read 96 = .ok (.iload_n 3, 1) := by decide +kernel
theorem dX5_read_97 : decode cX5_read 97 = .ok (.i2l, 1) := by decide +kernel
theorem dX5_read_98 : decode cX5_read 98 = .ok (.iload 7, 2) := by decide +kernel
theorem dX5_read_100 : decode cX5_read 100 = .ok (.i2l, 1) := by decide +kernel
theorem dX5_read_101 : decode cX5_read 101 = .ok (.ladd, 1) := by decide +kernel
theorem dX5_read_102 : decode cX5_read 102 = .ok (.lconst 0, 1) := by decide +kernel
theorem dX5_read_103 : decode cX5_read 103 = .ok (.aload_n 0, 1) := by decide +kernel
theorem dX5_read_104 : decode cX5_read 104 = .ok (.getfield 38, 3) := by decide +kernel
theorem dX5_read_107 : decode cX5_read 107 = .ok (.iload_n 1, 1) := by decide +kernel
theorem dX5_read_108 : decode cX5_read 108 = .ok (.iaload, 1) := by decide +kernel
theorem dX5_read_109 : decode cX5_read 109 = .ok (.iconst 1, 1) := by decide +kernel
theorem dX5_read_110 : decode cX5_read 110 = .ok (.isub, 1) := by decide +kernel
theorem dX5_read_111 : decode cX5_read 111 = .ok (.i2l, 1) := by decide +kernel
theorem dX5_read_112 : decode cX5_read 112 = .ok (.invokestatic 46, 3) := by decide +kernel
theorem dX5_read_115 : decode cX5_read 115 = .ok (.ifCond .ne 7, 3) := by decide +kernel
theorem dX5_read_118 : decode cX5_read 118 = .ok (.iconst 2, 1) := by decide +kernel
theorem dX5_read_119 : decode cX5_read 119 = .ok (.goto 4, 3) := by decide +kernel
theorem dX5_read_122 : decode cX5_read 122 = .ok (.iconst 0, 1) := by decide +kernel
theorem dX5_read_123 : decode cX5_read 123 = .ok (.istore 5, 2) := by decide +kernel
theorem dX5_read_125 : decode cX5_read 125 = .ok (.iload 5, 2) := by decide +kernel
theorem dX5_read_127 : decode cX5_read 127 = .ok (.ifCond .ne 44, 3) := by decide +kernel
theorem dX5_read_130 : decode cX5_read 130 = .ok (.bipush 40, 2) := by decide +kernel
theorem dX5_read_132 : decode cX5_read 132 = .ok (.iload_n 1, 1) := by decide +kernel
theorem dX5_read_133 : decode cX5_read 133 = .ok (.imul, 1) := by decide +kernel
theorem dX5_read_134 : decode cX5_read 134 = .ok (.iload_n 3, 1) := by decide +kernel
theorem dX5_read_135 : decode cX5_read 135 = .ok (.iadd, 1) := by decide +kernel
theorem dX5_read_136 : decode cX5_read 136 = .ok (.iload 7, 2) := by decide +kernel
theorem dX5_read_138 : decode cX5_read 138 = .ok (.iadd, 1) := by decide +kernel
theorem dX5_read_139 : decode cX5_read 139 = .ok (.istore 8, 2) := by decide +kernel
theorem dX5_read_141 : decode cX5_read 141 = .ok (.aload_n 0, 1) := by decide +kernel
theorem dX5_read_142 : decode cX5_read 142 = .ok (.aload_n 0, 1) := by decide +kernel
theorem dX5_read_143 : decode cX5_read 143 = .ok (.getfield 41, 3) := by decide +kernel
theorem dX5_read_146 : decode cX5_read 146 = .ok (.iload 8, 2) := by decide +kernel
theorem dX5_read_148 : decode cX5_read 148 = .ok (.iaload, 1) := by decide +kernel
theorem dX5_read_149 : decode cX5_read 149 = .ok (.invokevirtual 167, 3) := by decide +kernel
theorem dX5_read_152 : decode cX5_read 152 = .ok (.ifCond .ge 16, 3) := by decide +kernel
theorem dX5_read_155 : decode cX5_read 155 = .ok (.aload_n 0, 1) := by decide +kernel
theorem dX5_read_156 : decode cX5_read 156 = .ok (.bipush 120, 2) := by decide +kernel
theorem dX5_read_158 : decode cX5_read 158 = .ok (.iconst 0, 1) := by decide +kernel
theorem dX5_read_159 : decode cX5_read 159 = .ok (.invokevirtual 176, 3) := by decide +kernel
theorem dX5_read_162 : decode cX5_read 162 = .ok (.bipush (-20), 2) := by decide +kernel
theorem dX5_read_164 : decode cX5_read 164 = .ok (.iload 6, 2) := by decide +kernel
theorem dX5_read_166 : decode cX5_read 166 = .ok (.isub, 1) := by decide +kernel
theorem dX5_read_167 : decode cX5_read 167 = .ok (.ireturn, 1) := by decide +kernel
theorem dX5_read_168 : decode cX5_read 168 = .ok (.iinc 6 1, 3) := by decide +kernel
theorem dX5_read_171 : decode cX5_read 171 = .ok (.iinc 7 1, 3) := by decide +kernel
theorem dX5_read_174 : decode cX5_read 174 = .ok (.goto (-119), 3) := by decide +kernel
theorem dX5_read_177 : decode cX5_read 177 = .ok (.aload_n 0, 1) := by decide +kernel
theorem dX5_read_178 : decode cX5_read 178 = .ok (.iload 5, 2) := by decide +kernel
theorem dX5_read_180 : decode cX5_read 180 = .ok (.putfield 231, 3) := by decide +kernel
theorem dX5_read_183 : decode cX5_read 183 = .ok (.iload 6, 2) := by decide +kernel
theorem dX5_read_185 : decode cX5_read 185 = .ok (.ireturn, 1) := by decide +kernel
theorem dX5_torn_0 : decode cX5_torn 0 = .ok (.aload_n 0, 1) := by decide +kernel
theorem dX5_torn_1 : decode cX5_torn 1 = .ok (.getfield 231, 3) := by decide +kernel
theorem dX5_torn_4 : decode cX5_torn 4 = .ok (.ireturn, 1) := by decide +kernel
theorem dX5_count_0 : decode cX5_count 0 = .ok (.iconst 0, 1) := by decide +kernel
theorem dX5_count_1 : decode cX5_count 1 = .ok (.istore_n 2, 1) := by decide +kernel
theorem dX5_count_2 : decode cX5_count 2 = .ok (.iconst 0, 1) := by decide +kernel
theorem dX5_count_3 : decode cX5_count 3 = .ok (.istore_n 3, 1) := by decide +kernel
theorem dX5_count_4 : decode cX5_count 4 = .ok (.iconst 0, 1) := by decide +kernel
theorem dX5_count_5 : decode cX5_count 5 = .ok (.istore 4, 2) := by decide +kernel
theorem dX5_count_7 : decode cX5_count 7 = .ok (.iload 4, 2) := by decide +kernel
theorem dX5_count_9 : decode cX5_count 9 = .ok (.aload_n 0, 1) := by decide +kernel
theorem dX5_count_10 : decode cX5_count 10 = .ok (.getfield 7, 3) := by decide +kernel
theorem dX5_count_13 : decode cX5_count 13 = .ok (.bipush 20, 2) := by decide +kernel
theorem dX5_count_15 : decode cX5_count 15 = .ok (.iaload, 1) := by decide +kernel
theorem dX5_count_16 : decode cX5_count 16 = .ok (.if_icmp .ge 34, 3) := by decide +kernel
theorem dX5_count_19 : decode cX5_count 19 = .ok (.iload_n 2, 1) := by decide +kernel
theorem dX5_count_20 : decode cX5_count 20 = .ok (.aload_n 0, 1) := by decide +kernel
theorem dX5_count_21 : decode cX5_count 21 = .ok (.getfield 7, 3) := by decide +kernel
theorem dX5_count_24 : decode cX5_count 24 = .ok (.iconst 4, 1) := by decide +kernel
theorem dX5_count_25 : decode cX5_count 25 = .ok (.iload 4, 2) := by decide +kernel
theorem dX5_count_27 : decode cX5_count 27 = .ok (.iadd, 1) := by decide +kernel
theorem dX5_count_28 : decode cX5_count 28 = .ok (.iaload, 1) := by decide +kernel
theorem dX5_count_29 : decode cX5_count 29 = .ok (.iadd, 1) := by decide +kernel
theorem dX5_count_30 : decode cX5_count 30 = .ok (.istore_n 2, 1) := by decide +kernel
theorem dX5_count_31 : decode cX5_count 31 = .ok (.iload_n 3, 1) := by decide +kernel
theorem dX5_count_32 : decode cX5_count 32 = .ok (.aload_n 0, 1) := by decide +kernel
theorem dX5_count_33 : decode cX5_count 33 = .ok (.getfield 7, 3) := by decide +kernel
theorem dX5_count_36 : decode cX5_count 36 = .ok (.bipush 12, 2) := by decide +kernel
theorem dX5_count_38 : decode cX5_count 38 = .ok (.iload 4, 2) := by decide +kernel
theorem dX5_count_40 : decode cX5_count 40 = .ok (.iadd, 1) := by decide +kernel
theorem dX5_count_41 : decode cX5_count 41 = .ok (.iaload, 1) := by decide +kernel
theorem dX5_count_42 : decode cX5_count 42 = .ok (.iadd, 1) := by decide +kernel
theorem dX5_count_43 : decode cX5_count 43 = .ok (.istore_n 3, 1) := by decide +kernel
theorem dX5_count_44 : decode cX5_count 44 = .ok (.iinc 4 1, 3) := by decide +kernel
theorem dX5_count_47 : decode cX5_count 47 = .ok (.goto (-40), 3) := by decide +kernel
theorem dX5_count_50 : decode cX5_count 50 = .ok (.iload_n 1, 1) := by decide +kernel
theorem dX5_count_51 : decode cX5_count 51 = .ok (.tableswitch 104 0 5 #[37, 42, 72, 77, 100, 102], 37) := by decide +kernel
theorem dX5_count_88 : decode cX5_count 88 = .ok (.aload_n 0, 1) := by decide +kernel
theorem dX5_count_89 : decode cX5_count 89 = .ok (.getfield 110, 3) := by decide +kernel
theorem dX5_count_92 : decode cX5_count 92 = .ok (.ireturn, 1) := by decide +kernel
theorem dX5_count_93 : decode cX5_count 93 = .ok (.aload_n 0, 1) := by decide +kernel
theorem dX5_count_94 : decode cX5_count 94 = .ok (.getfield 31, 3) := by decide +kernel
theorem dX5_count_97 : decode cX5_count 97 = .ok (.iconst 0, 1) := by decide +kernel
theorem dX5_count_98 : decode cX5_count 98 = .ok (.baload, 1) := by decide +kernel
theorem dX5_count_99 : decode cX5_count 99 = .ok (.ifCond .eq 7, 3) := by decide +kernel
theorem dX5_count_102 : decode cX5_count 102 = .ok (.iconst 1, 1) := by decide +kernel
theorem dX5_count_103 : decode cX5_count 103 = .ok (.goto 4, 3) := by decide +kernel
theorem dX5_count_106 : decode cX5_count 106 = .ok (.iconst 0, 1) := by decide +kernel
theorem dX5_count_107 : decode cX5_count 107 = .ok (.aload_n 0, 1) := by decide +kernel
theorem dX5_count_108 : decode cX5_count 108 = .ok (.getfield 31, 3) := by decide +kernel
theorem dX5_count_111 : decode cX5_count 111 = .ok (.iconst 1, 1) := by decide +kernel
theorem dX5_count_112 : decode cX5_count 112 = .ok (.baload, 1) := by decide +kernel
theorem dX5_count_113 : decode cX5_count 113 = .ok (.ifCond .eq 7, 3) := by decide +kernel
theorem dX5_count_116 : decode cX5_count 116 = .ok (.iconst 1, 1) := by decide +kernel
theorem dX5_count_117 : decode cX5_count 117 = .ok (.goto 4, 3) := by decide +kernel
theorem dX5_count_120 : decode cX5_count 120 = .ok (.iconst 0, 1) := by decide +kernel
theorem dX5_count_121 : decode cX5_count 121 = .ok (.iadd, 1) := by decide +kernel
theorem dX5_count_122 : decode cX5_count 122 = .ok (.ireturn, 1) := by decide +kernel
theorem dX5_count_123 : decode cX5_count 123 = .ok (.aload_n 0, 1) := by decide +kernel
theorem dX5_count_124 : decode cX5_count 124 = .ok (.getfield 50, 3) := by decide +kernel
theorem dX5_count_127 : decode cX5_count 127 = .ok (.ireturn, 1) := by decide +kernel
theorem dX5_count_128 : decode cX5_count 128 = .ok (.aload_n 0, 1) := by decide +kernel
theorem dX5_count_129 : decode cX5_count 129 = .ok (.getfield 35, 3) := by decide +kernel
theorem dX5_count_132 : decode cX5_count 132 = .ok (.iconst 0, 1) := by decide +kernel
theorem dX5_count_133 : decode cX5_count 133 = .ok (.iaload, 1) := by decide +kernel
theorem dX5_count_134 : decode cX5_count 134 = .ok (.bipush (-4), 2) := by decide +kernel
theorem dX5_count_136 : decode cX5_count 136 = .ok (.if_icmp .ne 8, 3) := by decide +kernel
theorem dX5_count_139 : decode cX5_count 139 = .ok (.bipush (-4), 2) := by decide +kernel
theorem dX5_count_141 : decode cX5_count 141 = .ok (.goto 9, 3) := by decide +kernel
theorem dX5_count_144 : decode cX5_count 144 = .ok (.aload_n 0, 1) := by decide +kernel
theorem dX5_count_145 : decode cX5_count 145 = .ok (.getfield 38, 3) := by decide +kernel
theorem dX5_count_148 : decode cX5_count 148 = .ok (.iconst 0, 1) := by decide +kernel
theorem dX5_count_149 : decode cX5_count 149 = .ok (.iaload, 1) := by decide +kernel
theorem dX5_count_150 : decode cX5_count 150 = .ok (.ireturn, 1) := by decide +kernel
theorem dX5_count_151 : decode cX5_count 151 = .ok (.iload_n 2, 1) := by decide +kernel
theorem dX5_count_152 : decode cX5_count 152 = .ok (.ireturn, 1) := by decide +kernel
theorem dX5_count_153 : decode cX5_count 153 = .ok (.iload_n 3, 1) := by decide +kernel
theorem dX5_count_154 : decode cX5_count 154 = .ok (.ireturn, 1) := by decide +kernel
theorem dX5_count_155 : decode cX5_count 155 = .ok (.iconst (-1), 1) := by decide +kernel
theorem dX5_count_156 : decode cX5_count 156 = .ok (.ireturn, 1) := by decide +kernel
theorem dJ6_bitCount_0f7a4_0 : decode cJ6_bitCount_0f7a4 0 = .ok (.iload_n 0, 1) := by decide +kernel
theorem dJ6_bitCount_0f7a4_1 : decode cJ6_bitCount_0f7a4 1 = .ok (.iload_n 0, 1) := by decide +kernel
theorem dJ6_bitCount_0f7a4_2 : decode cJ6_bitCount_0f7a4 2 = .ok (.iconst 1, 1) := by decide +kernel
theorem dJ6_bitCount_0f7a4_3 : decode cJ6_bitCount_0f7a4 3 = .ok (.iushr, 1) := by decide +kernel
theorem dJ6_bitCount_0f7a4_4 : decode cJ6_bitCount_0f7a4 4 = .ok (.ldc_w 265, 3) := by decide +kernel
theorem dJ6_bitCount_0f7a4_7 : decode cJ6_bitCount_0f7a4 7 = .ok (.iand, 1) := by decide +kernel
theorem dJ6_bitCount_0f7a4_8 : decode cJ6_bitCount_0f7a4 8 = .ok (.isub, 1) := by decide +kernel
theorem dJ6_bitCount_0f7a4_9 : decode cJ6_bitCount_0f7a4 9 = .ok (.istore_n 0, 1) := by decide +kernel
theorem dJ6_bitCount_0f7a4_10 : decode cJ6_bitCount_0f7a4 10 = .ok (.iload_n 0, 1) := by decide +kernel
theorem dJ6_bitCount_0f7a4_11 : decode cJ6_bitCount_0f7a4 11 = .ok (.ldc_w 266, 3) := by decide +kernel
theorem dJ6_bitCount_0f7a4_14 : decode cJ6_bitCount_0f7a4 14 = .ok (.iand, 1) := by decide +kernel
theorem dJ6_bitCount_0f7a4_15 : decode cJ6_bitCount_0f7a4 15 = .ok (.iload_n 0, 1) := by decide +kernel
theorem dJ6_bitCount_0f7a4_16 : decode cJ6_bitCount_0f7a4 16 = .ok (.iconst 2, 1) := by decide +kernel
theorem dJ6_bitCount_0f7a4_17 : decode cJ6_bitCount_0f7a4 17 = .ok (.iushr, 1) := by decide +kernel
theorem dJ6_bitCount_0f7a4_18 : decode cJ6_bitCount_0f7a4 18 = .ok (.ldc_w 266, 3) := by decide +kernel
theorem dJ6_bitCount_0f7a4_21 : decode cJ6_bitCount_0f7a4 21 = .ok (.iand, 1) := by decide +kernel
theorem dJ6_bitCount_0f7a4_22 : decode cJ6_bitCount_0f7a4 22 = .ok (.iadd, 1) := by decide +kernel
theorem dJ6_bitCount_0f7a4_23 : decode cJ6_bitCount_0f7a4 23 = .ok (.istore_n 0, 1) := by decide +kernel
theorem dJ6_bitCount_0f7a4_24 : decode cJ6_bitCount_0f7a4 24 = .ok (.iload_n 0, 1) := by decide +kernel
theorem dJ6_bitCount_0f7a4_25 : decode cJ6_bitCount_0f7a4 25 = .ok (.iload_n 0, 1) := by decide +kernel
theorem dJ6_bitCount_0f7a4_26 : decode cJ6_bitCount_0f7a4 26 = .ok (.iconst 4, 1) := by decide +kernel
theorem dJ6_bitCount_0f7a4_27 : decode cJ6_bitCount_0f7a4 27 = .ok (.iushr, 1) := by decide +kernel
theorem dJ6_bitCount_0f7a4_28 : decode cJ6_bitCount_0f7a4 28 = .ok (.iadd, 1) := by decide +kernel
theorem dJ6_bitCount_0f7a4_29 : decode cJ6_bitCount_0f7a4 29 = .ok (.ldc_w 267, 3) := by decide +kernel
theorem dJ6_bitCount_0f7a4_32 : decode cJ6_bitCount_0f7a4 32 = .ok (.iand, 1) := by decide +kernel
theorem dJ6_bitCount_0f7a4_33 : decode cJ6_bitCount_0f7a4 33 = .ok (.istore_n 0, 1) := by decide +kernel
theorem dJ6_bitCount_0f7a4_34 : decode cJ6_bitCount_0f7a4 34 = .ok (.iload_n 0, 1) := by decide +kernel
theorem dJ6_bitCount_0f7a4_35 : decode cJ6_bitCount_0f7a4 35 = .ok (.iload_n 0, 1) := by decide +kernel
theorem dJ6_bitCount_0f7a4_36 : decode cJ6_bitCount_0f7a4 36 = .ok (.bipush 8, 2) := by decide +kernel
theorem dJ6_bitCount_0f7a4_38 : decode cJ6_bitCount_0f7a4 38 = .ok (.iushr, 1) := by decide +kernel
theorem dJ6_bitCount_0f7a4_39 : decode cJ6_bitCount_0f7a4 39 = .ok (.iadd, 1) := by decide +kernel
theorem dJ6_bitCount_0f7a4_40 : decode cJ6_bitCount_0f7a4 40 = .ok (.istore_n 0, 1) := by decide +kernel
theorem dJ6_bitCount_0f7a4_41 : decode cJ6_bitCount_0f7a4 41 = .ok (.iload_n 0, 1) := by decide +kernel
theorem dJ6_bitCount_0f7a4_42 : decode cJ6_bitCount_0f7a4 42 = .ok (.iload_n 0, 1) := by decide +kernel
theorem dJ6_bitCount_0f7a4_43 : decode cJ6_bitCount_0f7a4 43 = .ok (.bipush 16, 2) := by decide +kernel
theorem dJ6_bitCount_0f7a4_45 : decode cJ6_bitCount_0f7a4 45 = .ok (.iushr, 1) := by decide +kernel
theorem dJ6_bitCount_0f7a4_46 : decode cJ6_bitCount_0f7a4 46 = .ok (.iadd, 1) := by decide +kernel
theorem dJ6_bitCount_0f7a4_47 : decode cJ6_bitCount_0f7a4 47 = .ok (.istore_n 0, 1) := by decide +kernel
theorem dJ6_bitCount_0f7a4_48 : decode cJ6_bitCount_0f7a4 48 = .ok (.iload_n 0, 1) := by decide +kernel
theorem dJ6_bitCount_0f7a4_49 : decode cJ6_bitCount_0f7a4 49 = .ok (.bipush 63, 2) := by decide +kernel
theorem dJ6_bitCount_0f7a4_51 : decode cJ6_bitCount_0f7a4 51 = .ok (.iand, 1) := by decide +kernel
theorem dJ6_bitCount_0f7a4_52 : decode cJ6_bitCount_0f7a4 52 = .ok (.ireturn, 1) := by decide +kernel
theorem dJ6_signum_0f7a4_0 : decode cJ6_signum_0f7a4 0 = .ok (.iload_n 0, 1) := by decide +kernel
theorem dJ6_signum_0f7a4_1 : decode cJ6_signum_0f7a4 1 = .ok (.bipush 31, 2) := by decide +kernel
theorem dJ6_signum_0f7a4_3 : decode cJ6_signum_0f7a4 3 = .ok (.ishr, 1) := by decide +kernel
theorem dJ6_signum_0f7a4_4 : decode cJ6_signum_0f7a4 4 = .ok (.iload_n 0, 1) := by decide +kernel
theorem dJ6_signum_0f7a4_5 : decode cJ6_signum_0f7a4 5 = .ok (.ineg, 1) := by decide +kernel
theorem dJ6_signum_0f7a4_6 : decode cJ6_signum_0f7a4 6 = .ok (.bipush 31, 2) := by decide +kernel
theorem dJ6_signum_0f7a4_8 : decode cJ6_signum_0f7a4 8 = .ok (.iushr, 1) := by decide +kernel
theorem dJ6_signum_0f7a4_9 : decode cJ6_signum_0f7a4 9 = .ok (.ior, 1) := by decide +kernel
theorem dJ6_signum_0f7a4_10 : decode cJ6_signum_0f7a4 10 = .ok (.ireturn, 1) := by decide +kernel
theorem dJ9_abs_0f7a4_0 : decode cJ9_abs_0f7a4 0 = .ok (.iload_n 0, 1) := by decide +kernel
theorem dJ9_abs_0f7a4_1 : decode cJ9_abs_0f7a4 1 = .ok (.ifCond .ge 8, 3) := by decide +kernel
theorem dJ9_abs_0f7a4_4 : decode cJ9_abs_0f7a4 4 = .ok (.iload_n 0, 1) := by decide +kernel
theorem dJ9_abs_0f7a4_5 : decode cJ9_abs_0f7a4 5 = .ok (.ineg, 1) := by decide +kernel
theorem dJ9_abs_0f7a4_6 : decode cJ9_abs_0f7a4 6 = .ok (.goto 4, 3) := by decide +kernel
theorem dJ9_abs_0f7a4_9 : decode cJ9_abs_0f7a4 9 = .ok (.iload_n 0, 1) := by decide +kernel
theorem dJ9_abs_0f7a4_10 : decode cJ9_abs_0f7a4 10 = .ok (.ireturn, 1) := by decide +kernel
theorem dJ9_max_7cf53_0 : decode cJ9_max_7cf53 0 = .ok (.iload_n 0, 1) := by decide +kernel
theorem dJ9_max_7cf53_1 : decode cJ9_max_7cf53 1 = .ok (.iload_n 1, 1) := by decide +kernel
theorem dJ9_max_7cf53_2 : decode cJ9_max_7cf53 2 = .ok (.if_icmp .lt 7, 3) := by decide +kernel
theorem dJ9_max_7cf53_5 : decode cJ9_max_7cf53 5 = .ok (.iload_n 0, 1) := by decide +kernel
theorem dJ9_max_7cf53_6 : decode cJ9_max_7cf53 6 = .ok (.goto 4, 3) := by decide +kernel
theorem dJ9_max_7cf53_9 : decode cJ9_max_7cf53 9 = .ok (.iload_n 1, 1) := by decide +kernel
theorem dJ9_max_7cf53_10 : decode cJ9_max_7cf53 10 = .ok (.ireturn, 1) := by decide +kernel
theorem dJ9_min_7cf53_0 : decode cJ9_min_7cf53 0 = .ok (.iload_n 0, 1) := by decide +kernel
theorem dJ9_min_7cf53_1 : decode cJ9_min_7cf53 1 = .ok (.iload_n 1, 1) := by decide +kernel
theorem dJ9_min_7cf53_2 : decode cJ9_min_7cf53 2 = .ok (.if_icmp .gt 7, 3) := by decide +kernel
theorem dJ9_min_7cf53_5 : decode cJ9_min_7cf53 5 = .ok (.iload_n 0, 1) := by decide +kernel
theorem dJ9_min_7cf53_6 : decode cJ9_min_7cf53 6 = .ok (.goto 4, 3) := by decide +kernel
theorem dJ9_min_7cf53_9 : decode cJ9_min_7cf53 9 = .ok (.iload_n 1, 1) := by decide +kernel
theorem dJ9_min_7cf53_10 : decode cJ9_min_7cf53 10 = .ok (.ireturn, 1) := by decide +kernel
set_option maxRecDepth 20000 in
theorem ggJ0_length_8abf5_J0_coder_7d493 : GoodIn wsJ0_length_8abf5 wsJ0_coder_7d493 := goodIn_r _ [6, 7, 8] (by decide +kernel) (by decide +kernel)
set_option maxRecDepth 20000 in
theorem gJ0_length_8abf5_J0_coder_7d493 : GoodIn wsJ0_length_8abf5 (wsV RJ0 335 RJ0 yJ0_coder_7d493 wsJ0_coder_7d493) := goodIn_app (goodIn_of _ (by decide +kernel)) ggJ0_length_8abf5_J0_coder_7d493
theorem dJ0_length_8abf5_0 : decode cJ0_length_8abf5 0 = .ok (.aload_n 0, 1) := by decide +kernel
theorem dJ0_length_8abf5_1 : decode cJ0_length_8abf5 1 = .ok (.getfield 9, 3) := by decide +kernel
theorem dJ0_length_8abf5_4 : decode cJ0_length_8abf5 4 = .ok (.arraylength, 1) := by decide +kernel
theorem dJ0_length_8abf5_5 : decode cJ0_length_8abf5 5 = .ok (.aload_n 0, 1) := by decide +kernel
theorem dJ0_length_8abf5_6 : decode cJ0_length_8abf5 6 = .ok (.invokevirtual 335, 3) := by decide +kernel
theorem dJ0_length_8abf5_9 : decode cJ0_length_8abf5 9 = .ok (.ishr, 1) := by decide +kernel
theorem dJ0_length_8abf5_10 : decode cJ0_length_8abf5 10 = .ok (.ireturn, 1) := by decide +kernel
set_option maxRecDepth 20000 in
theorem ggJ0_charAt_5068e_J0_isLatin1_aae02 : GoodIn wsJ0_charAt_5068e wsJ0_isLatin1_aae02 := goodIn_r _ [6, 7, 8] (by decide +kernel) (by decide +kernel)
set_option maxRecDepth 20000 in
theorem gJ0_charAt_5068e_J0_isLatin1_aae02 : GoodIn wsJ0_charAt_5068e (wsV RJ0 492 RJ0 yJ0_isLatin1_aae02 wsJ0_isLatin1_aae02) := goodIn_app (goodIn_of _ (by decide +kernel)) ggJ0_charAt_5068e_J0_isLatin1_aae02
set_option maxRecDepth 20000 in
theorem ggJ0_charAt_5068e_J1_charAt_3b067 : GoodIn wsJ0_charAt_5068e wsJ1_charAt_3b067 := goodIn_r _ [12, 13, 14, 5, 15, 16, 17, 18, 19, 20] (by decide +kernel) (by decide +kernel)
set_option maxRecDepth 20000 in
theorem gJ0_charAt_5068e_J1_charAt_3b067 : GoodIn wsJ0_charAt_5068e (va_wsS RJ0 495 yJ1_charAt_3b067 wsJ1_charAt_3b067) := goodIn_app (goodIn_of _ (by decide +kernel)) ggJ0_charAt_5068e_J1_charAt_3b067
set_option maxRecDepth 20000 in
theorem ggJ0_charAt_5068e_J2_charAt_3b067 : GoodIn wsJ0_charAt_5068e wsJ2_charAt_3b067 := goodIn_r _ [24, 25, 26, 23, 27, 28, 29, 30, 31, 14, 5, 15, 16, 17, 18, 19, 20, 32, 33, 34, 35, 36, 37] (by decide +kernel) (by decide +kernel)
set_option maxRecDepth 20000 in
theorem gJ0_charAt_5068e_J2_charAt_3b067 : GoodIn wsJ0_charAt_5068e (va_wsS RJ0 498 yJ2_charAt_3b067 wsJ2_charAt_3b067) := goodIn_app (goodIn_of _ (by decide +kernel)) ggJ0_charAt_5068e_J2_charAt_3b067
theorem dJ0_charAt_5068e_0 : decode cJ0_charAt_5068e 0 = .ok (.aload_n 0, 1) := by decide +kernel
theorem dJ0_charAt_5068e_1 : decode cJ0_charAt_5068e 1 = .ok (.invokevirtual 492, 3) := by decide +kernel
theorem dJ0_charAt_5068e_4 : decode cJ0_charAt_5068e 4 = .ok (.ifCond .eq 12, 3) := by decide +kernel
theorem dJ0_charAt_5068e_7 : decode cJ0_charAt_5068e 7 = .ok (.aload_n 0, 1) := by decide +kernel
theorem dJ0_charAt_5068e_8 : decode cJ0_charAt_5068e 8 = .ok (.getfield 9, 3) := by decide +kernel
theorem dJ0_charAt_5068e_11 : decode cJ0_charAt_5068e 11 = .ok (.iload_n 1, 1) := by decide +kernel
theorem dJ0_charAt_5068e_12 : decode cJ0_charAt_5068e 12 = .ok (.invokestatic 495, 3) := by decide +kernel
theorem dJ0_charAt_5068e_15 : decode cJ0_charAt_5068e 15 = .ok (.ireturn, 1) := by decide +kernel
theorem dJ0_charAt_5068e_16 : decode cJ0_charAt_5068e 16 = .ok (.aload_n 0, 1) := by decide +kernel
theorem dJ0_charAt_5068e_17 : decode cJ0_charAt_5068e 17 = .ok (.getfield 9, 3) := by decide +kernel
theorem dJ0_charAt_5068e_20 : decode cJ0_charAt_5068e 20 = .ok (.iload_n 1, 1) := by decide +kernel
theorem dJ0_charAt_5068e_21 : decode cJ0_charAt_5068e 21 = .ok (.invokestatic 498, 3) := by decide +kernel
theorem dJ0_charAt_5068e_24 : decode cJ0_charAt_5068e 24 = .ok (.ireturn, 1) := by decide +kernel
theorem dJ0_coder_7d493_0 : decode cJ0_coder_7d493 0 = .ok (.getstatic 38, 3) := by decide +kernel
theorem dJ0_coder_7d493_3 : decode cJ0_coder_7d493 3 = .ok (.ifCond .eq 10, 3) := by decide +kernel
theorem dJ0_coder_7d493_6 : decode cJ0_coder_7d493 6 = .ok (.aload_n 0, 1) := by decide +kernel
theorem dJ0_coder_7d493_7 : decode cJ0_coder_7d493 7 = .ok (.getfield 15, 3) := by decide +kernel
theorem dJ0_coder_7d493_10 : decode cJ0_coder_7d493 10 = .ok (.goto 4, 3) := by decide +kernel
theorem dJ0_coder_7d493_13 : decode cJ0_coder_7d493 13 = .ok (.iconst 1, 1) := by decide +kernel
theorem dJ0_coder_7d493_14 : decode cJ0_coder_7d493 14 = .ok (.ireturn, 1) := by decide +kernel
theorem dJ0_isLatin1_aae02_0 : decode cJ0_isLatin1_aae02 0 = .ok (.getstatic 38, 3) := by decide +kernel
theorem dJ0_isLatin1_aae02_3 : decode cJ0_isLatin1_aae02 3 = .ok (.ifCond .eq 14, 3) := by decide +kernel
theorem dJ0_isLatin1_aae02_6 : decode cJ0_isLatin1_aae02 6 = .ok (.aload_n 0, 1) := by decide +kernel
theorem dJ0_isLatin1_aae02_7 : decode cJ0_isLatin1_aae02 7 = .ok (.getfield 15, 3) := by decide +kernel
theorem dJ0_isLatin1_aae02_10 : decode cJ0_isLatin1_aae02 10 = .ok (.ifCond .ne 7, 3) := by decide +kernel
theorem dJ0_isLatin1_aae02_13 : decode cJ0_isLatin1_aae02 13 = .ok (.iconst 1, 1) := by decide +kernel
theorem dJ0_isLatin1_aae02_14 : decode cJ0_isLatin1_aae02 14 = .ok (.goto 4, 3) := by decide +kernel
theorem dJ0_isLatin1_aae02_17 : decode cJ0_isLatin1_aae02 17 = .ok (.iconst 0, 1) := by decide +kernel
theorem dJ0_isLatin1_aae02_18 : decode cJ0_isLatin1_aae02 18 = .ok (.ireturn, 1) := by decide +kernel
set_option maxRecDepth 20000 in
theorem ggJ0_checkIndex_df160_J3_checkIndex_8e157 : GoodIn wsJ0_checkIndex_df160 wsJ3_checkIndex_8e157 := goodIn_r _ [5] (by decide +kernel) (by decide +kernel)
set_option maxRecDepth 20000 in
theorem gJ0_checkIndex_df160_J3_checkIndex_8e157 : GoodIn wsJ0_checkIndex_df160 (va_wsS RJ0 1059 yJ3_checkIndex_8e157 wsJ3_checkIndex_8e157) := goodIn_app (goodIn_of _ (by decide +kernel)) ggJ0_checkIndex_df160_J3_checkIndex_8e157
theorem dJ0_checkIndex_df160_0 : decode cJ0_checkIndex_df160 0 = .ok (.iload_n 0, 1) := by decide +kernel
theorem dJ0_checkIndex_df160_1 : decode cJ0_checkIndex_df160 1 = .ok (.iload_n 1, 1) := by decide +kernel
theorem dJ0_checkIndex_df160_2 : decode cJ0_checkIndex_df160 2 = .ok (.getstatic 1053, 3) := by decide +kernel
theorem dJ0_checkIndex_df160_5 : decode cJ0_checkIndex_df160 5 = .ok (.invokestatic 1059, 3) := by decide +kernel
theorem dJ0_checkIndex_df160_8 : decode cJ0_checkIndex_df160 8 = .ok (.pop, 1) := by decide +kernel
theorem dJ0_checkIndex_df160_9 : decode cJ0_checkIndex_df160 9 = .ok (.return_, 1) := by decide +kernel
set_option maxRecDepth 20000 in
theorem ggJ1_charAt_3b067_J0_checkIndex_df160 : GoodIn wsJ1_charAt_3b067 wsJ0_checkIndex_df160 := goodIn_r _ [4, 5, 6, 7, 8, 9] (by decide +kernel) (by decide +kernel)
set_option maxRecDepth 20000 in
theorem gJ1_charAt_3b067_J0_checkIndex_df160 : GoodIn wsJ1_charAt_3b067 (va_wsS RJ1 9 yJ0_checkIndex_df160 wsJ0_checkIndex_df160) := goodIn_app (goodIn_of _ (by decide +kernel)) ggJ1_charAt_3b067_J0_checkIndex_df160
theorem dJ1_charAt_3b067_0 : decode cJ1_charAt_3b067 0 = .ok (.iload_n 1, 1) := by decide +kernel
theorem dJ1_charAt_3b067_1 : decode cJ1_charAt_3b067 1 = .ok (.aload_n 0, 1) := by decide +kernel
theorem dJ1_charAt_3b067_2 : decode cJ1_charAt_3b067 2 = .ok (.arraylength, 1) := by decide +kernel
theorem dJ1_charAt_3b067_3 : decode cJ1_charAt_3b067 3 = .ok (.invokestatic 9, 3) := by decide +kernel
theorem dJ1_charAt_3b067_6 : decode cJ1_charAt_3b067 6 = .ok (.aload_n 0, 1) := by decide +kernel
theorem dJ1_charAt_3b067_7 : decode cJ1_charAt_3b067 7 = .ok (.iload_n 1, 1) := by decide +kernel
theorem dJ1_charAt_3b067_8 : decode cJ1_charAt_3b067 8 = .ok (.baload, 1) := by decide +kernel
theorem dJ1_charAt_3b067_9 : decode cJ1_charAt_3b067 9 = .ok (.sipush 255, 3) := by decide +kernel
theorem dJ1_charAt_3b067_12 : decode cJ1_charAt_3b067 12 = .ok (.iand, 1) := by decide +kernel
theorem dJ1_charAt_3b067_13 : decode cJ1_charAt_3b067 13 = .ok (.i2c, 1) := by decide +kernel
theorem dJ1_charAt_3b067_14 : decode cJ1_charAt_3b067 14 = .ok (.ireturn, 1) := by decide +kernel
set_option maxRecDepth 20000 in
theorem ggJ2_getChar_3b067_J2_length_9d52b : GoodIn wsJ2_getChar_3b067 wsJ2_length_9d52b := goodIn_r _ [7] (by decide +kernel) (by decide +kernel)
set_option maxRecDepth 20000 in
theorem gJ2_getChar_3b067_J2_length_9d52b : GoodIn wsJ2_getChar_3b067 (va_wsS RJ2 48 yJ2_length_9d52b wsJ2_length_9d52b) := goodIn_app (goodIn_of _ (by decide +kernel)) ggJ2_getChar_3b067_J2_length_9d52b
theorem dJ2_getChar_3b067_0 : decode cJ2_getChar_3b067 0 = .ok (.getstatic 44, 3) := by decide +kernel
theorem dJ2_getChar_3b067_3 : decode cJ2_getChar_3b067 3 = .ok (.ifCond .ne 25, 3) := by decide +kernel
theorem dJ2_getChar_3b067_6 : decode cJ2_getChar_3b067 6 = .ok (.iload_n 1, 1) := by decide +kernel
theorem dJ2_getChar_3b067_7 : decode cJ2_getChar_3b067 7 = .ok (.ifCond .lt 11, 3) := by decide +kernel
theorem dJ2_getChar_3b067_10 : decode cJ2_getChar_3b067 10 = .ok (.iload_n 1, 1) := by decide +kernel
theorem dJ2_getChar_3b067_11 : decode cJ2_getChar_3b067 11 = .ok (.aload_n 0, 1) := by decide +kernel
theorem dJ2_getChar_3b067_12 : decode cJ2_getChar_3b067 12 = .ok (.invokestatic 48, 3) := by decide +kernel
theorem dJ2_getChar_3b067_15 : decode cJ2_getChar_3b067 15 = .ok (.if_icmp .lt 13, 3) := by decide +kernel
theorem dJ2_getChar_3b067_18 : decode cJ2_getChar_3b067 18 = .ok (.new 52, 3) := by decide +kernel
theorem dJ2_getChar_3b067_21 : decode cJ2_getChar_3b067 21 = .ok (.dup, 1) := by decide +kernel
theorem dJ2_getChar_3b067_22 : decode cJ2_getChar_3b067 22 = .ok (.ldc 54, 2) := by decide +kernel
theorem dJ2_getChar_3b067_24 : decode cJ2_getChar_3b067 24 = .ok (.invokespecial 56, 3) := by decide +kernel
theorem dJ2_getChar_3b067_27 : decode cJ2_getChar_3b067 27 = .ok (.athrow, 1) := by decide +kernel
theorem dJ2_getChar_3b067_28 : decode cJ2_getChar_3b067 28 = .ok (.iload_n 1, 1) := by decide +kernel
theorem dJ2_getChar_3b067_29 : decode cJ2_getChar_3b067 29 = .ok (.iconst 1, 1) := by decide +kernel
theorem dJ2_getChar_3b067_30 : decode cJ2_getChar_3b067 30 = .ok (.ishl, 1) := by decide +kernel
theorem dJ2_getChar_3b067_31 : decode cJ2_getChar_3b067 31 = .ok (.istore_n 1, 1) := by decide +kernel
theorem dJ2_getChar_3b067_32 : decode cJ2_getChar_3b067 32 = .ok (.aload_n 0, 1) := by decide +kernel
theorem dJ2_getChar_3b067_33 : decode cJ2_getChar_3b067 33 = .ok (.iload_n 1, 1) := by decide +kernel
theorem dJ2_getChar_3b067_34 : decode cJ2_getChar_3b067 34 = .ok (.iinc 1 1, 3) := by decide +kernel
theorem dJ2_getChar_3b067_37 : decode cJ2_getChar_3b067 37 = .ok (.baload, 1) := by decide +kernel
theorem dJ2_getChar_3b067_38 : decode cJ2_getChar_3b067 38 = .ok (.sipush 255, 3) := by decide +kernel
theorem dJ2_getChar_3b067_41 : decode cJ2_getChar_3b067 41 = .ok (.iand, 1) := by decide +kernel
theorem dJ2_getChar_3b067_42 : decode cJ2_getChar_3b067 42 = .ok (.getstatic 59, 3) := by decide +kernel
theorem dJ2_getChar_3b067_45 : decode cJ2_getChar_3b067 45 = .ok (.ishl, 1) := by decide +kernel
theorem dJ2_getChar_3b067_46 : decode cJ2_getChar_3b067 46 = .ok (.aload_n 0, 1) := by decide +kernel
theorem dJ2_getChar_3b067_47 : decode cJ2_getChar_3b067 47 = .ok (.iload_n 1, 1) := by decide +kernel
theorem dJ2_getChar_3b067_48 : decode cJ2_getChar_3b067 48 = .ok (.baload, 1) := by decide +kernel
theorem dJ2_getChar_3b067_49 : decode cJ2_getChar_3b067 49 = .ok (.sipush 255, 3) := by decide +kernel
theorem dJ2_getChar_3b067_52 : decode cJ2_getChar_3b067 52 = .ok (.iand, 1) := by decide +kernel
theorem dJ2_getChar_3b067_53 : decode cJ2_getChar_3b067 53 = .ok (.getstatic 63, 3) := by decide +kernel
theorem dJ2_getChar_3b067_56 : decode cJ2_getChar_3b067 56 = .ok (.ishl, 1) := by decide +kernel
theorem dJ2_getChar_3b067_57 : decode cJ2_getChar_3b067 57 = .ok (.ior, 1) := by decide +kernel
theorem dJ2_getChar_3b067_58 : decode cJ2_getChar_3b067 58 = .ok (.i2c, 1) := by decide +kernel
theorem dJ2_getChar_3b067_59 : decode cJ2_getChar_3b067 59 = .ok (.ireturn, 1) := by decide +kernel
theorem dJ2_length_9d52b_0 : decode cJ2_length_9d52b 0 = .ok (.aload_n 0, 1) := by decide +kernel
theorem dJ2_length_9d52b_1 : decode cJ2_length_9d52b 1 = .ok (.arraylength, 1) := by decide +kernel
theorem dJ2_length_9d52b_2 : decode cJ2_length_9d52b 2 = .ok (.iconst 1, 1) := by decide +kernel
theorem dJ2_length_9d52b_3 : decode cJ2_length_9d52b 3 = .ok (.ishr, 1) := by decide +kernel
theorem dJ2_length_9d52b_4 : decode cJ2_length_9d52b 4 = .ok (.ireturn, 1) := by decide +kernel
set_option maxRecDepth 20000 in
theorem ggJ2_charAt_3b067_J2_checkIndex_2214a : GoodIn wsJ2_charAt_3b067 wsJ2_checkIndex_2214a := goodIn_r _ [4, 5, 6, 3, 7, 8, 9, 10, 11, 12, 13, 14, 15, 16] (by decide +kernel) (by decide +kernel)
set_option maxRecDepth 20000 in
theorem gJ2_charAt_3b067_J2_checkIndex_2214a : GoodIn wsJ2_charAt_3b067 (va_wsS RJ2 67 yJ2_checkIndex_2214a wsJ2_checkIndex_2214a) := goodIn_app (goodIn_of _ (by decide +kernel)) ggJ2_charAt_3b067_J2_checkIndex_2214a
set_option maxRecDepth 20000 in
theorem ggJ2_charAt_3b067_J2_getChar_3b067 : GoodIn wsJ2_charAt_3b067 wsJ2_getChar_3b067 := goodIn_r _ [19, 20, 21, 22, 5, 6, 3, 7] (by decide +kernel) (by decide +kernel)
set_option maxRecDepth 20000 in
theorem gJ2_charAt_3b067_J2_getChar_3b067 : GoodIn wsJ2_charAt_3b067 (va_wsS RJ2 71 yJ2_getChar_3b067 wsJ2_getChar_3b067) := goodIn_app (goodIn_of _ (by decide +kernel)) ggJ2_charAt_3b067_J2_getChar_3b067
theorem dJ2_charAt_3b067_0 : decode cJ2_charAt_3b067 0 = .ok (.iload_n 1, 1) := by decide +kernel
theorem dJ2_charAt_3b067_1 : decode cJ2_charAt_3b067 1 = .ok (.aload_n 0, 1) := by decide +kernel
theorem dJ2_charAt_3b067_2 : decode cJ2_charAt_3b067 2 = .ok (.invokestatic 67, 3) := by decide +kernel
theorem dJ2_charAt_3b067_5 : decode cJ2_charAt_3b067 5 = .ok (.aload_n 0, 1) := by decide +kernel
theorem dJ2_charAt_3b067_6 : decode cJ2_charAt_3b067 6 = .ok (.iload_n 1, 1) := by decide +kernel
theorem dJ2_charAt_3b067_7 : decode cJ2_charAt_3b067 7 = .ok (.invokestatic 71, 3) := by decide +kernel
theorem dJ2_charAt_3b067_10 : decode cJ2_charAt_3b067 10 = .ok (.ireturn, 1) := by decide +kernel
set_option maxRecDepth 20000 in
theorem ggJ2_checkIndex_2214a_J2_length_9d52b : GoodIn wsJ2_checkIndex_2214a wsJ2_length_9d52b := goodIn_r _ [4] (by decide +kernel) (by decide +kernel)
set_option maxRecDepth 20000 in
theorem gJ2_checkIndex_2214a_J2_length_9d52b : GoodIn wsJ2_checkIndex_2214a (va_wsS RJ2 48 yJ2_length_9d52b wsJ2_length_9d52b) := goodIn_app (goodIn_of _ (by decide +kernel)) ggJ2_checkIndex_2214a_J2_length_9d52b
set_option maxRecDepth 20000 in
theorem ggJ2_checkIndex_2214a_J0_checkIndex_df160 : GoodIn wsJ2_checkIndex_2214a wsJ0_checkIndex_df160 := goodIn_r _ [8, 9, 10, 11, 12, 13] (by decide +kernel) (by decide +kernel)
set_option maxRecDepth 20000 in
theorem gJ2_checkIndex_2214a_J0_checkIndex_df160 : GoodIn wsJ2_checkIndex_2214a (va_wsS RJ2 414 yJ0_checkIndex_df160 wsJ0_checkIndex_df160) := goodIn_app (goodIn_of _ (by decide +kernel)) ggJ2_checkIndex_2214a_J0_checkIndex_df160
theorem dJ2_checkIndex_2214a_0 : decode cJ2_checkIndex_2214a 0 = .ok (.iload_n 0, 1) := by decide +kernel
theorem dJ2_checkIndex_2214a_1 : decode cJ2_checkIndex_2214a 1 = .ok (.aload_n 1, 1) := by decide +kernel
theorem dJ2_checkIndex_2214a_2 : decode cJ2_checkIndex_2214a 2 = .ok (.invokestatic 48, 3) := by decide +kernel
theorem dJ2_checkIndex_2214a_5 : decode cJ2_checkIndex_2214a 5 = .ok (.invokestatic 414, 3) := by decide +kernel
theorem dJ2_checkIndex_2214a_8 : decode cJ2_checkIndex_2214a 8 = .ok (.return_, 1) := by decide +kernel
theorem dJ3_checkIndex_8e157_0 : decode cJ3_checkIndex_8e157 0 = .ok (.iload_n 0, 1) := by decide +kernel
theorem dJ3_checkIndex_8e157_1 : decode cJ3_checkIndex_8e157 1 = .ok (.ifCond .lt 8, 3) := by decide +kernel
theorem dJ3_checkIndex_8e157_4 : decode cJ3_checkIndex_8e157 4 = .ok (.iload_n 0, 1) := by decide +kernel
theorem dJ3_checkIndex_8e157_5 : decode cJ3_checkIndex_8e157 5 = .ok (.iload_n 1, 1) := by decide +kernel
theorem dJ3_checkIndex_8e157_6 : decode cJ3_checkIndex_8e157 6 = .ok (.if_icmp .lt 10, 3) := by decide +kernel
theorem dJ3_checkIndex_8e157_9 : decode cJ3_checkIndex_8e157 9 = .ok (.aload_n 2, 1) := by decide +kernel
theorem dJ3_checkIndex_8e157_10 : decode cJ3_checkIndex_8e157 10 = .ok (.iload_n 0, 1) := by decide +kernel
theorem dJ3_checkIndex_8e157_11 : decode cJ3_checkIndex_8e157 11 = .ok (.iload_n 1, 1) := by decide +kernel
theorem dJ3_checkIndex_8e157_12 : decode cJ3_checkIndex_8e157 12 = .ok (.invokestatic 95, 3) := by decide +kernel
theorem dJ3_checkIndex_8e157_15 : decode cJ3_checkIndex_8e157 15 = .ok (.athrow, 1) := by decide +kernel
theorem dJ3_checkIndex_8e157_16 : decode cJ3_checkIndex_8e157 16 = .ok (.iload_n 0, 1) := by decide +kernel
theorem dJ3_checkIndex_8e157_17 : decode cJ3_checkIndex_8e157 17 = .ok (.ireturn, 1) := by decide +kernel
set_option maxRecDepth 20000 in
theorem ggL_law_X4_init : GoodIn wsL_law wsX4_init := goodIn_r _ [8, 9, 10, 11, 12, 13, 14, 15, 16, 17, 18, 19, 20, 21, 22, 23, 24, 25, 26, 27, 28, 29, 30, 31, 32, 33, 34, 35, 36, 37, 38, 39, 40, 41, 42, 43, 44, 45, 46, 47, 48, 49, 50, 51, 52, 53, 54, 55, 56, 57, 58, 59, 60, 61, 62, 63, 64, 65, 66, 67, 68, 69, 70, 71, 72, 73, 74, 75, 76, 77, 927, 928, 929, 930, 931, 932, 933, 934, 935, 936, 937, 938, 894, 895, 896, 897, 898, 899, 900, 901, 902, 939, 940, 941, 942, 943, 944, 945, 946, 947, 948, 949, 950, 951, 952] (by decide +kernel) (by decide +kernel)
set_option maxRecDepth 20000 in
theorem gL_law_X4_init : GoodIn wsL_law (wsX4_init) := ggL_law_X4_init
set_option maxRecDepth 20000 in
theorem ggL_law_X5_init : GoodIn wsL_law wsX5_init := goodIn_r _ [80, 81, 10, 11, 30, 82, 83, 84, 85, 86, 87, 88, 18, 89, 90, 91, 92, 903, 904, 905, 906, 907, 908, 909, 910, 911, 912, 913, 914, 915, 916, 917, 918, 919, 920, 921, 922, 923, 924, 925, 926] (by decide +kernel) (by decide +kernel)
set_option maxRecDepth 20000 in
theorem gL_law_X5_init : GoodIn wsL_law (wsX5_init) := ggL_law_X5_init
set_option maxRecDepth 20000 in
theorem ggL_law_X4_feed : GoodIn wsL_law wsX4_feed := goodIn_r _ [96, 23, 97, 98, 99, 2, 100, 101, 102, 103, 22, 104, 57, 56, 894, 895, 896, 897, 898, 899, 900, 901, 902, 939, 940, 941, 942, 943, 944, 945] (by decide +kernel) (by decide +kernel)
set_option maxRecDepth 20000 in
theorem gL_law_X4_feed : GoodIn wsL_law (wsV RL 13 RX4 yX4_feed wsX4_feed) := goodIn_app (goodIn_of _ (by decide +kernel)) ggL_law_X4_feed
set_option maxRecDepth 20000 in
theorem ggL_law_X5_feed : GoodIn wsL_law wsX5_feed := goodIn_r _ [108, 109, 110, 84, 111, 112, 5, 113, 903, 904, 905, 906, 907, 908, 909, 910, 911, 912, 913, 914, 915, 916, 917, 918, 919, 920, 921, 922, 923, 924, 925, 926] (by decide +kernel) (by decide +kernel)
set_option maxRecDepth 20000 in
theorem gL_law_X5_feed : GoodIn wsL_law (wsV RL 17 RX5 yX5_feed wsX5_feed) := goodIn_app (goodIn_of _ (by decide +kernel)) ggL_law_X5_feed
set_option maxRecDepth 20000 in
theorem ggL_law_X4_end : GoodIn wsL_law wsX4_end := goodIn_r _ [117, 23, 97, 98, 99, 2, 100, 894, 895, 896, 897, 898, 899, 900, 901, 902, 939, 940, 941, 942, 943, 944, 945] (by decide +kernel) (by decide +kernel)
set_option maxRecDepth 20000 in
theorem gL_law_X4_end : GoodIn wsL_law (wsV RL 18 RX4 yX4_end wsX4_end) := goodIn_app (goodIn_of _ (by decide +kernel)) ggL_law_X4_end
set_option maxRecDepth 20000 in
theorem ggL_law_X5_end : GoodIn wsL_law wsX5_end := goodIn_r _ [121, 110, 111, 112, 5, 113, 903, 904, 905, 906, 907, 908, 909, 910, 911, 912, 913, 914, 915, 916, 917, 918, 919, 920, 921, 922, 923, 924, 925, 926] (by decide +kernel) (by decide +kernel)
set_option maxRecDepth 20000 in
theorem gL_law_X5_end : GoodIn wsL_law (wsV RL 21 RX5 yX5_end wsX5_end) := goodIn_app (goodIn_of _ (by decide +kernel)) ggL_law_X5_end
set_option maxRecDepth 20000 in
theorem ggL_law_X4_text : GoodIn wsL_law wsX4_text := goodIn_r _ [125, 23, 16, 126, 127, 15, 27, 128, 19, 129, 130, 131, 22, 132, 58, 62, 60, 57, 133, 134, 135, 14, 136, 45, 46, 47, 48, 137, 138, 139, 140, 49, 50, 141, 142, 143, 144, 56, 61, 99, 2, 100, 145, 146, 147, 148, 149, 150, 151, 152, 153, 154, 155, 156, 157, 158, 159, 160, 161, 162, 59, 163, 164, 165, 166, 167, 168, 169, 170, 171, 172, 173, 174, 175, 176, 177, 178, 179, 180, 181, 182, 183, 184, 185, 186, 187, 188, 189, 190, 191, 192, 193, 194, 195, 196, 197, 198, 199, 200, 201, 202, 203, 204, 205, 206, 207, 208, 209, 210, 211, 212, 213, 214, 215, 216, 217, 218, 219, 220, 221, 222, 223, 224, 225, 226, 227, 39, 40, 41, 42, 43, 228, 229, 230, 231, 232, 233, 234, 235, 44, 236, 237, 238, 239, 894, 895, 896, 897, 898, 899, 900, 901, 902, 939, 940, 941, 942, 943, 944, 945, 946, 947, 948, 949, 927, 928, 929, 930, 931, 932, 933, 934, 935, 936, 937, 938] (by decide +kernel) (by decide +kernel)
set_option maxRecDepth 20000 in
theorem gL_law_X4_text : GoodIn wsL_law (wsV RL 22 RX4 yX4_text wsX4_text) := goodIn_app (goodIn_of _ (by decide +kernel)) ggL_law_X4_text
set_option maxRecDepth 20000 in
theorem ggL_law_X5_text : GoodIn wsL_law wsX5_text := goodIn_r _ [243, 244, 245, 83, 246, 110, 247, 248, 82, 249, 89, 250, 251, 252, 5, 253, 254, 255, 256, 257, 258, 259, 260, 261, 262, 263, 84, 111, 112, 113, 264, 265, 266, 267, 268, 269, 270, 271, 272, 273, 274, 275, 276, 85, 86, 277, 278, 279, 280, 281, 282, 283, 284, 903, 904, 905, 906, 907, 908, 909, 910, 911, 912, 913, 914, 915, 916, 917, 918, 919, 920, 921, 922, 923, 924, 925, 926] (by decide +kernel) (by decide +kernel)
set_option maxRecDepth 20000 in
theorem gL_law_X5_text : GoodIn wsL_law (wsV RL 26 RX5 yX5_text wsX5_text) := goodIn_app (goodIn_of _ (by decide +kernel)) ggL_law_X5_text
set_option maxRecDepth 20000 in
theorem ggL_law_X4_fault : GoodIn wsL_law wsX4_fault := goodIn_r _ [288, 23, 126, 894, 895, 896, 897, 898, 899, 900, 901, 902, 939, 940, 941, 942, 943, 944, 945] (by decide +kernel) (by decide +kernel)
set_option maxRecDepth 20000 in
theorem gL_law_X4_fault : GoodIn wsL_law (wsV RL 27 RX4 yX4_fault wsX4_fault) := goodIn_app (goodIn_of _ (by decide +kernel)) ggL_law_X4_fault
set_option maxRecDepth 20000 in
theorem ggL_law_X5_fault : GoodIn wsL_law wsX5_fault := goodIn_r _ [292, 247, 903, 904, 905, 906, 907, 908, 909, 910, 911, 912, 913, 914, 915, 916, 917, 918, 919, 920, 921, 922, 923, 924, 925, 926] (by decide +kernel) (by decide +kernel)
set_option maxRecDepth 20000 in
theorem gL_law_X5_fault : GoodIn wsL_law (wsV RL 30 RX5 yX5_fault wsX5_fault) := goodIn_app (goodIn_of _ (by decide +kernel)) ggL_law_X5_fault
set_option maxRecDepth 20000 in
theorem ggL_law_X4_rule : GoodIn wsL_law wsX4_rule := goodIn_r _ [296, 15, 297, 298, 299, 300, 301, 302, 303, 304, 305, 14, 306, 47, 307, 308, 309, 310, 228, 229, 230, 231, 45, 41, 311, 312, 313, 314, 46, 48, 894, 895, 896, 897, 898, 899, 900, 901, 902, 927, 928, 929, 930, 931, 932, 933, 934, 935, 936, 937, 938] (by decide +kernel) (by decide +kernel)
set_option maxRecDepth 20000 in
theorem gL_law_X4_rule : GoodIn wsL_law (wsV RL 31 RX4 yX4_rule wsX4_rule) := goodIn_app (goodIn_of _ (by decide +kernel)) ggL_law_X4_rule
set_option maxRecDepth 20000 in
theorem ggL_law_X5_rule : GoodIn wsL_law wsX5_rule := goodIn_r _ [318, 82, 319, 320, 321, 322, 5, 323, 324, 325, 326, 903, 904, 905, 906, 907, 908, 909, 910, 911, 912, 913, 914, 915, 916, 917, 918, 919, 920, 921, 922, 923, 924, 925, 926] (by decide +kernel) (by decide +kernel)
set_option maxRecDepth 20000 in
theorem gL_law_X5_rule : GoodIn wsL_law (wsV RL 34 RX5 yX5_rule wsX5_rule) := goodIn_app (goodIn_of _ (by decide +kernel)) ggL_law_X5_rule
set_option maxRecDepth 20000 in
theorem ggL_law_X4_arm : GoodIn wsL_law wsX4_arm := goodIn_r _ [330, 15, 331, 332, 300, 333, 334, 335, 336, 337, 338, 2, 339, 297, 98, 99, 100, 340, 341, 342, 14, 343, 39, 40, 42, 894, 895, 896, 897, 898, 899, 900, 901, 902, 927, 928, 929, 930, 931, 932, 933, 934, 935, 936, 937, 938] (by decide +kernel) (by decide +kernel)
set_option maxRecDepth 20000 in
theorem gL_law_X4_arm : GoodIn wsL_law (wsV RL 35 RX4 yX4_arm wsX4_arm) := goodIn_app (goodIn_of _ (by decide +kernel)) ggL_law_X4_arm
set_option maxRecDepth 20000 in
theorem ggL_law_X5_arm : GoodIn wsL_law wsX5_arm := goodIn_r _ [347, 272, 82, 319, 348, 349, 350, 5, 351, 111, 112, 113, 352, 353, 354, 355, 903, 904, 905, 906, 907, 908, 909, 910, 911, 912, 913, 914, 915, 916, 917, 918, 919, 920, 921, 922, 923, 924, 925, 926] (by decide +kernel) (by decide +kernel)
set_option maxRecDepth 20000 in
theorem gL_law_X5_arm : GoodIn wsL_law (wsV RL 39 RX5 yX5_arm wsX5_arm) := goodIn_app (goodIn_of _ (by decide +kernel)) ggL_law_X5_arm
set_option maxRecDepth 20000 in
theorem ggL_law_X4_stroke : GoodIn wsL_law wsX4_stroke := goodIn_r _ [359, 15, 302, 360, 361, 362, 2, 363, 298, 98, 99, 100, 894, 895, 896, 897, 898, 899, 900, 901, 902, 927, 928, 929, 930, 931, 932, 933, 934, 935, 936, 937, 938] (by decide +kernel) (by decide +kernel)
set_option maxRecDepth 20000 in
theorem gL_law_X4_stroke : GoodIn wsL_law (wsV RL 40 RX4 yX4_stroke wsX4_stroke) := goodIn_app (goodIn_of _ (by decide +kernel)) ggL_law_X4_stroke
set_option maxRecDepth 20000 in
theorem ggL_law_X5_stroke : GoodIn wsL_law wsX5_stroke := goodIn_r _ [367, 82, 368, 369, 370, 5, 371, 111, 112, 113, 903, 904, 905, 906, 907, 908, 909, 910, 911, 912, 913, 914, 915, 916, 917, 918, 919, 920, 921, 922, 923, 924, 925, 926] (by decide +kernel) (by decide +kernel)
set_option maxRecDepth 20000 in
theorem gL_law_X5_stroke : GoodIn wsL_law (wsV RL 43 RX5 yX5_stroke wsX5_stroke) := goodIn_app (goodIn_of _ (by decide +kernel)) ggL_law_X5_stroke
set_option maxRecDepth 20000 in
theorem ggL_law_X4_alter : GoodIn wsL_law wsX4_alter := goodIn_r _ [375, 15, 336, 337, 338, 2, 339, 297, 98, 99, 100, 376, 377, 378, 379, 380, 381, 14, 382, 39, 40, 42, 383, 384, 385, 386, 894, 895, 896, 897, 898, 899, 900, 901, 902, 927, 928, 929, 930, 931, 932, 933, 934, 935, 936, 937, 938] (by decide +kernel) (by decide +kernel)
set_option maxRecDepth 20000 in
theorem gL_law_X4_alter : GoodIn wsL_law (wsV RL 44 RX4 yX4_alter wsX4_alter) := goodIn_app (goodIn_of _ (by decide +kernel)) ggL_law_X4_alter
set_option maxRecDepth 20000 in
theorem ggL_law_X5_alter : GoodIn wsL_law wsX5_alter := goodIn_r _ [390, 391, 392, 393, 348, 349, 350, 5, 351, 82, 111, 112, 113, 394, 395, 396, 397, 903, 904, 905, 906, 907, 908, 909, 910, 911, 912, 913, 914, 915, 916, 917, 918, 919, 920, 921, 922, 923, 924, 925, 926] (by decide +kernel) (by decide +kernel)
set_option maxRecDepth 20000 in
theorem gL_law_X5_alter : GoodIn wsL_law (wsV RL 48 RX5 yX5_alter wsX5_alter) := goodIn_app (goodIn_of _ (by decide +kernel)) ggL_law_X5_alter
set_option maxRecDepth 20000 in
theorem ggL_law_X4_hang : GoodIn wsL_law wsX4_hang := goodIn_r _ [401, 15, 297, 98, 99, 2, 100, 402, 225, 226, 14, 227, 45, 39, 40, 41, 42, 43, 228, 229, 230, 231, 47, 894, 895, 896, 897, 898, 899, 900, 901, 902, 927, 928, 929, 930, 931, 932, 933, 934, 935, 936, 937, 938] (by decide +kernel) (by decide +kernel)
set_option maxRecDepth 20000 in
theorem gL_law_X4_hang : GoodIn wsL_law (wsV RL 49 RX4 yX4_hang wsX4_hang) := goodIn_app (goodIn_of _ (by decide +kernel)) ggL_law_X4_hang
set_option maxRecDepth 20000 in
theorem ggL_law_X5_hang : GoodIn wsL_law wsX5_hang := goodIn_r _ [406, 392, 393, 82, 111, 112, 5, 113, 407, 408, 409, 410, 903, 904, 905, 906, 907, 908, 909, 910, 911, 912, 913, 914, 915, 916, 917, 918, 919, 920, 921, 922, 923, 924, 925, 926] (by decide +kernel) (by decide +kernel)
set_option maxRecDepth 20000 in
theorem gL_law_X5_hang : GoodIn wsL_law (wsV RL 52 RX5 yX5_hang wsX5_hang) := goodIn_app (goodIn_of _ (by decide +kernel)) ggL_law_X5_hang
set_option maxRecDepth 20000 in
theorem ggL_law_X4_cut : GoodIn wsL_law wsX4_cut := goodIn_r _ [414, 15, 297, 98, 99, 2, 100, 894, 895, 896, 897, 898, 899, 900, 901, 902, 927, 928, 929, 930, 931, 932, 933, 934, 935, 936, 937, 938] (by decide +kernel) (by decide +kernel)
set_option maxRecDepth 20000 in
theorem gL_law_X4_cut : GoodIn wsL_law (wsV RL 53 RX4 yX4_cut wsX4_cut) := goodIn_app (goodIn_of _ (by decide +kernel)) ggL_law_X4_cut
set_option maxRecDepth 20000 in
theorem ggL_law_X5_cut : GoodIn wsL_law wsX5_cut := goodIn_r _ [418, 82, 111, 112, 5, 113, 394, 395, 396, 397, 903, 904, 905, 906, 907, 908, 909, 910, 911, 912, 913, 914, 915, 916, 917, 918, 919, 920, 921, 922, 923, 924, 925, 926] (by decide +kernel) (by decide +kernel)
set_option maxRecDepth 20000 in
theorem gL_law_X5_cut : GoodIn wsL_law (wsV RL 56 RX5 yX5_cut wsX5_cut) := goodIn_app (goodIn_of _ (by decide +kernel)) ggL_law_X5_cut
set_option maxRecDepth 20000 in
theorem ggL_law_X4_set : GoodIn wsL_law wsX4_set := goodIn_r _ [422, 15, 302, 360, 361, 362, 2, 363, 298, 98, 99, 100, 423, 424, 425, 894, 895, 896, 897, 898, 899, 900, 901, 902, 927, 928, 929, 930, 931, 932, 933, 934, 935, 936, 937, 938] (by decide +kernel) (by decide +kernel)
set_option maxRecDepth 20000 in
theorem gL_law_X4_set : GoodIn wsL_law (wsV RL 57 RX4 yX4_set wsX4_set) := goodIn_app (goodIn_of _ (by decide +kernel)) ggL_law_X4_set
set_option maxRecDepth 20000 in
theorem ggL_law_X5_set : GoodIn wsL_law wsX5_set := goodIn_r _ [429, 430, 368, 369, 370, 5, 371, 82, 111, 112, 113, 394, 395, 396, 397, 903, 904, 905, 906, 907, 908, 909, 910, 911, 912, 913, 914, 915, 916, 917, 918, 919, 920, 921, 922, 923, 924, 925, 926] (by decide +kernel) (by decide +kernel)
set_option maxRecDepth 20000 in
theorem gL_law_X5_set : GoodIn wsL_law (wsV RL 60 RX5 yX5_set wsX5_set) := goodIn_app (goodIn_of _ (by decide +kernel)) ggL_law_X5_set
set_option maxRecDepth 20000 in
theorem ggL_law_X4_add : GoodIn wsL_law wsX4_add := goodIn_r _ [434, 15, 298, 423, 424, 2, 425, 98, 99, 100, 435, 233, 234, 14, 235, 46, 44, 894, 895, 896, 897, 898, 899, 900, 901, 902, 927, 928, 929, 930, 931, 932, 933, 934, 935, 936, 937, 938] (by decide +kernel) (by decide +kernel)
set_option maxRecDepth 20000 in
theorem gL_law_X4_add : GoodIn wsL_law (wsV RL 61 RX4 yX4_add wsX4_add) := goodIn_app (goodIn_of _ (by decide +kernel)) ggL_law_X4_add
set_option maxRecDepth 20000 in
theorem ggL_law_X5_add : GoodIn wsL_law wsX5_add := goodIn_r _ [439, 440, 441, 442, 5, 443, 430, 82, 111, 112, 113, 903, 904, 905, 906, 907, 908, 909, 910, 911, 912, 913, 914, 915, 916, 917, 918, 919, 920, 921, 922, 923, 924, 925, 926] (by decide +kernel) (by decide +kernel)
set_option maxRecDepth 20000 in
theorem gL_law_X5_add : GoodIn wsL_law (wsV RL 64 RX5 yX5_add wsX5_add) := goodIn_app (goodIn_of _ (by decide +kernel)) ggL_law_X5_add
set_option maxRecDepth 20000 in
theorem ggL_law_X4_drop : GoodIn wsL_law wsX4_drop := goodIn_r _ [447, 15, 298, 98, 99, 2, 100, 894, 895, 896, 897, 898, 899, 900, 901, 902, 927, 928, 929, 930, 931, 932, 933, 934, 935, 936, 937, 938] (by decide +kernel) (by decide +kernel)
set_option maxRecDepth 20000 in
theorem gL_law_X4_drop : GoodIn wsL_law (wsV RL 65 RX4 yX4_drop wsX4_drop) := goodIn_app (goodIn_of _ (by decide +kernel)) ggL_law_X4_drop
set_option maxRecDepth 20000 in
theorem ggL_law_X5_drop : GoodIn wsL_law wsX5_drop := goodIn_r _ [451, 82, 111, 112, 5, 113, 394, 395, 396, 397, 903, 904, 905, 906, 907, 908, 909, 910, 911, 912, 913, 914, 915, 916, 917, 918, 919, 920, 921, 922, 923, 924, 925, 926] (by decide +kernel) (by decide +kernel)
set_option maxRecDepth 20000 in
theorem gL_law_X5_drop : GoodIn wsL_law (wsV RL 68 RX5 yX5_drop wsX5_drop) := goodIn_app (goodIn_of _ (by decide +kernel)) ggL_law_X5_drop
set_option maxRecDepth 20000 in
theorem ggL_law_X4_pull : GoodIn wsL_law wsX4_pull := goodIn_r _ [455, 15, 423, 424, 2, 425, 98, 99, 100, 456, 457, 458, 14, 459, 47, 45, 41, 39, 460, 341, 342, 343, 40, 42, 461, 462, 463, 464, 465, 466, 307, 308, 309, 310, 467, 468, 469, 470, 471, 472, 473, 474, 43, 50, 475, 476, 477, 49, 303, 304, 305, 306, 228, 229, 230, 231, 894, 895, 896, 897, 898, 899, 900, 901, 902, 927, 928, 929, 930, 931, 932, 933, 934, 935, 936, 937, 938] (by decide +kernel) (by decide +kernel)
set_option maxRecDepth 20000 in
theorem gL_law_X4_pull : GoodIn wsL_law (wsV RL 69 RX4 yX4_pull wsX4_pull) := goodIn_app (goodIn_of _ (by decide +kernel)) ggL_law_X4_pull
set_option maxRecDepth 20000 in
theorem ggL_law_X5_pull : GoodIn wsL_law wsX5_pull := goodIn_r _ [481, 430, 111, 112, 5, 113, 482, 483, 484, 485, 82, 486, 487, 488, 489, 490, 491, 492, 493, 494, 495, 407, 408, 409, 410, 352, 353, 354, 355, 324, 325, 326, 320, 321, 322, 323, 903, 904, 905, 906, 907, 908, 909, 910, 911, 912, 913, 914, 915, 916, 917, 918, 919, 920, 921, 922, 923, 924, 925, 926] (by decide +kernel) (by decide +kernel)
set_option maxRecDepth 20000 in
theorem gL_law_X5_pull : GoodIn wsL_law (wsV RL 72 RX5 yX5_pull wsX5_pull) := goodIn_app (goodIn_of _ (by decide +kernel)) ggL_law_X5_pull
set_option maxRecDepth 20000 in
theorem ggL_law_X4_steps : GoodIn wsL_law wsX4_steps := goodIn_r _ [499, 15, 299, 500, 98, 99, 2, 100, 501, 138, 139, 14, 140, 49, 50, 502, 503, 504, 505, 506, 507, 508, 509, 46, 44, 48, 510, 312, 313, 314, 511, 457, 458, 459, 47, 45, 41, 39, 460, 341, 342, 343, 40, 42, 461, 462, 463, 464, 465, 466, 307, 308, 309, 310, 467, 468, 469, 470, 471, 472, 473, 474, 43, 475, 476, 477, 894, 895, 896, 897, 898, 899, 900, 901, 902, 927, 928, 929, 930, 931, 932, 933, 934, 935, 936, 937, 938] (by decide +kernel) (by decide +kernel)
set_option maxRecDepth 20000 in
theorem gL_law_X4_steps : GoodIn wsL_law (wsV RL 73 RX4 yX4_steps wsX4_steps) := goodIn_app (goodIn_of _ (by decide +kernel)) ggL_law_X4_steps
set_option maxRecDepth 20000 in
theorem ggL_law_X5_steps : GoodIn wsL_law wsX5_steps := goodIn_r _ [515, 516, 82, 491, 111, 112, 5, 113, 517, 518, 519, 520, 482, 483, 484, 485, 486, 487, 488, 489, 490, 492, 493, 494, 495, 407, 408, 409, 410, 352, 353, 354, 355, 324, 325, 326, 903, 904, 905, 906, 907, 908, 909, 910, 911, 912, 913, 914, 915, 916, 917, 918, 919, 920, 921, 922, 923, 924, 925, 926] (by decide +kernel) (by decide +kernel)
set_option maxRecDepth 20000 in
theorem gL_law_X5_steps : GoodIn wsL_law (wsV RL 76 RX5 yX5_steps wsX5_steps) := goodIn_app (goodIn_of _ (by decide +kernel)) ggL_law_X5_steps
set_option maxRecDepth 20000 in
theorem ggL_law_X4_runs : GoodIn wsL_law wsX4_runs := goodIn_r _ [524, 16, 15, 525, 526, 309, 527, 500, 300, 301, 528, 529, 530, 2, 531, 98, 99, 100, 236, 237, 238, 14, 239, 45, 46, 47, 48, 39, 40, 41, 42, 43, 44, 137, 138, 139, 140, 49, 50, 303, 304, 305, 306, 307, 308, 310, 228, 229, 230, 231, 532, 533, 534, 535, 536, 506, 507, 508, 509, 510, 312, 313, 314, 511, 457, 458, 459, 460, 341, 342, 343, 461, 462, 463, 464, 465, 466, 467, 468, 469, 470, 471, 472, 473, 474, 475, 476, 477, 537, 894, 895, 896, 897, 898, 899, 900, 901, 902, 927, 928, 929, 930, 931, 932, 933, 934, 935, 936, 937, 938] (by decide +kernel) (by decide +kernel)
set_option maxRecDepth 20000 in
theorem gL_law_X4_runs : GoodIn wsL_law (wsV RL 77 RX4 yX4_runs wsX4_runs) := goodIn_app (goodIn_of _ (by decide +kernel)) ggL_law_X4_runs
set_option maxRecDepth 20000 in
theorem ggL_law_X5_runs : GoodIn wsL_law wsX5_runs := goodIn_r _ [541, 542, 491, 319, 82, 543, 490, 544, 545, 5, 546, 547, 111, 112, 113, 548, 549, 550, 551, 552, 553, 554, 555, 517, 518, 519, 520, 482, 483, 484, 485, 486, 487, 488, 489, 492, 493, 494, 495, 407, 408, 409, 410, 352, 353, 354, 355, 324, 325, 326, 320, 321, 322, 323, 903, 904, 905, 906, 907, 908, 909, 910, 911, 912, 913, 914, 915, 916, 917, 918, 919, 920, 921, 922, 923, 924, 925, 926] (by decide +kernel) (by decide +kernel)
set_option maxRecDepth 20000 in
theorem gL_law_X5_runs : GoodIn wsL_law (wsV RL 80 RX5 yX5_runs wsX5_runs) := goodIn_app (goodIn_of _ (by decide +kernel)) ggL_law_X5_runs
set_option maxRecDepth 20000 in
theorem ggL_law_X4_ahead : GoodIn wsL_law wsX4_ahead := goodIn_r _ [559, 16, 15, 300, 333, 336, 337, 338, 2, 339, 297, 98, 99, 100, 529, 530, 531, 236, 237, 238, 14, 239, 45, 46, 47, 48, 39, 40, 41, 42, 43, 44, 137, 138, 139, 140, 49, 50, 502, 503, 504, 505, 506, 507, 508, 509, 510, 312, 313, 314, 511, 457, 458, 459, 460, 341, 342, 343, 461, 462, 463, 464, 465, 466, 307, 308, 309, 310, 467, 468, 469, 470, 471, 472, 473, 474, 475, 476, 477, 894, 895, 896, 897, 898, 899, 900, 901, 902, 927, 928, 929, 930, 931, 932, 933, 934, 935, 936, 937, 938] (by decide +kernel) (by decide +kernel)
set_option maxRecDepth 20000 in
theorem gL_law_X4_ahead : GoodIn wsL_law (wsV RL 81 RX4 yX4_ahead wsX4_ahead) := goodIn_app (goodIn_of _ (by decide +kernel)) ggL_law_X4_ahead
set_option maxRecDepth 20000 in
theorem ggL_law_X5_ahead : GoodIn wsL_law wsX5_ahead := goodIn_r _ [563, 319, 82, 348, 349, 350, 5, 351, 111, 112, 113, 544, 545, 546, 547, 548, 549, 550, 551, 491, 490, 543, 552, 553, 554, 555, 517, 518, 519, 520, 482, 483, 484, 485, 486, 487, 488, 489, 492, 493, 494, 495, 407, 408, 409, 410, 352, 353, 354, 355, 324, 325, 326, 320, 321, 322, 323, 903, 904, 905, 906, 907, 908, 909, 910, 911, 912, 913, 914, 915, 916, 917, 918, 919, 920, 921, 922, 923, 924, 925, 926] (by decide +kernel) (by decide +kernel)
set_option maxRecDepth 20000 in
theorem gL_law_X5_ahead : GoodIn wsL_law (wsV RL 84 RX5 yX5_ahead wsX5_ahead) := goodIn_app (goodIn_of _ (by decide +kernel)) ggL_law_X5_ahead
set_option maxRecDepth 20000 in
theorem ggL_law_X4_when : GoodIn wsL_law wsX4_when := goodIn_r _ [567, 300, 15, 333, 16, 336, 337, 338, 2, 339, 297, 98, 99, 100, 568, 569, 570, 571, 572, 573, 468, 469, 470, 236, 237, 238, 14, 239, 45, 46, 47, 48, 39, 40, 41, 42, 43, 44, 137, 138, 139, 140, 49, 50, 574, 507, 508, 509, 510, 312, 313, 314, 511, 457, 458, 459, 460, 341, 342, 343, 461, 462, 463, 464, 465, 466, 307, 308, 309, 310, 467, 471, 472, 473, 474, 475, 476, 477, 894, 895, 896, 897, 898, 899, 900, 901, 902, 927, 928, 929, 930, 931, 932, 933, 934, 935, 936, 937, 938] (by decide +kernel) (by decide +kernel)
set_option maxRecDepth 20000 in
theorem gL_law_X4_when : GoodIn wsL_law (wsV RL 85 RX4 yX4_when wsX4_when) := goodIn_app (goodIn_of _ (by decide +kernel)) ggL_law_X4_when
set_option maxRecDepth 20000 in
theorem ggL_law_X5_when : GoodIn wsL_law wsX5_when := goodIn_r _ [578, 319, 82, 348, 349, 350, 5, 351, 111, 112, 113, 579, 580, 581, 582, 583, 552, 553, 554, 555, 517, 518, 519, 520, 482, 483, 484, 485, 486, 487, 488, 489, 490, 491, 492, 493, 494, 495, 407, 408, 409, 410, 352, 353, 354, 355, 324, 325, 326, 903, 904, 905, 906, 907, 908, 909, 910, 911, 912, 913, 914, 915, 916, 917, 918, 919, 920, 921, 922, 923, 924, 925, 926] (by decide +kernel) (by decide +kernel)
set_option maxRecDepth 20000 in
theorem gL_law_X5_when : GoodIn wsL_law (wsV RL 88 RX5 yX5_when wsX5_when) := goodIn_app (goodIn_of _ (by decide +kernel)) ggL_law_X5_when
set_option maxRecDepth 20000 in
theorem ggL_law_X4_again : GoodIn wsL_law wsX4_again := goodIn_r _ [587, 16, 15, 236, 237, 238, 14, 239, 45, 46, 47, 48, 39, 40, 41, 42, 43, 44, 137, 138, 139, 140, 49, 50, 574, 507, 508, 509, 510, 312, 313, 314, 511, 457, 458, 459, 460, 341, 342, 343, 461, 462, 463, 464, 465, 466, 307, 308, 309, 310, 467, 468, 469, 470, 471, 472, 473, 474, 475, 476, 477, 588, 589, 590, 591, 894, 895, 896, 897, 898, 899, 900, 901, 902, 927, 928, 929, 930, 931, 932, 933, 934, 935, 936, 937, 938] (by decide +kernel) (by decide +kernel)
set_option maxRecDepth 20000 in
theorem gL_law_X4_again : GoodIn wsL_law (wsV RL 89 RX4 yX4_again wsX4_again) := goodIn_app (goodIn_of _ (by decide +kernel)) ggL_law_X4_again
set_option maxRecDepth 20000 in
theorem ggL_law_X5_again : GoodIn wsL_law wsX5_again := goodIn_r _ [595, 82, 552, 553, 554, 5, 555, 517, 518, 519, 520, 482, 483, 484, 485, 486, 487, 488, 489, 490, 491, 492, 493, 494, 495, 407, 408, 409, 410, 352, 353, 354, 355, 324, 325, 326, 903, 904, 905, 906, 907, 908, 909, 910, 911, 912, 913, 914, 915, 916, 917, 918, 919, 920, 921, 922, 923, 924, 925, 926] (by decide +kernel) (by decide +kernel)
set_option maxRecDepth 20000 in
theorem gL_law_X5_again : GoodIn wsL_law (wsV RL 92 RX5 yX5_again wsX5_again) := goodIn_app (goodIn_of _ (by decide +kernel)) ggL_law_X5_again
set_option maxRecDepth 20000 in
theorem ggL_law_X4_slack : GoodIn wsL_law wsX4_slack := goodIn_r _ [599, 600, 601, 602, 2, 603, 604, 16, 15, 336, 337, 338, 339, 297, 98, 99, 100, 529, 530, 531, 605, 606, 607, 376, 377, 378, 236, 237, 238, 14, 239, 45, 46, 47, 48, 39, 40, 41, 42, 43, 44, 137, 138, 139, 140, 49, 50, 383, 384, 385, 386, 502, 503, 504, 505, 506, 507, 508, 509, 510, 312, 313, 314, 511, 457, 458, 459, 460, 341, 342, 343, 461, 462, 463, 464, 465, 466, 307, 308, 309, 310, 467, 468, 469, 470, 471, 472, 473, 474, 475, 476, 477, 303, 304, 305, 306, 228, 229, 230, 231, 894, 895, 896, 897, 898, 899, 900, 901, 902, 927, 928, 929, 930, 931, 932, 933, 934, 935, 936, 937, 938] (by decide +kernel) (by decide +kernel)
set_option maxRecDepth 20000 in
theorem gL_law_X4_slack : GoodIn wsL_law (wsV RL 93 RX4 yX4_slack wsX4_slack) := goodIn_app (goodIn_of _ (by decide +kernel)) ggL_law_X4_slack
set_option maxRecDepth 20000 in
theorem ggL_law_X5_slack : GoodIn wsL_law wsX5_slack := goodIn_r _ [611, 348, 349, 350, 5, 351, 82, 111, 112, 113, 544, 545, 546, 547, 612, 613, 614, 615, 616, 552, 553, 554, 555, 548, 549, 550, 551, 491, 490, 543, 517, 518, 519, 520, 482, 483, 484, 485, 486, 487, 488, 489, 492, 493, 494, 495, 407, 408, 409, 410, 352, 353, 354, 355, 324, 325, 326, 320, 321, 322, 323, 903, 904, 905, 906, 907, 908, 909, 910, 911, 912, 913, 914, 915, 916, 917, 918, 919, 920, 921, 922, 923, 924, 925, 926] (by decide +kernel) (by decide +kernel)
set_option maxRecDepth 20000 in
theorem gL_law_X5_slack : GoodIn wsL_law (wsV RL 96 RX5 yX5_slack wsX5_slack) := goodIn_app (goodIn_of _ (by decide +kernel)) ggL_law_X5_slack
set_option maxRecDepth 20000 in
theorem ggL_law_X4_kind : GoodIn wsL_law wsX4_kind := goodIn_r _ [620, 600, 601, 602, 2, 603, 604, 16, 15, 336, 337, 338, 339, 297, 98, 99, 100, 529, 530, 531, 605, 606, 607, 376, 377, 378, 236, 237, 238, 14, 239, 45, 46, 47, 48, 39, 40, 41, 42, 43, 44, 137, 138, 139, 140, 49, 50, 383, 384, 385, 386, 502, 503, 504, 505, 506, 507, 508, 509, 510, 312, 313, 314, 511, 457, 458, 459, 460, 341, 342, 343, 461, 462, 463, 464, 465, 466, 307, 308, 309, 310, 467, 468, 469, 470, 471, 472, 473, 474, 475, 476, 477, 303, 304, 305, 306, 228, 229, 230, 231, 894, 895, 896, 897, 898, 899, 900, 901, 902, 927, 928, 929, 930, 931, 932, 933, 934, 935, 936, 937, 938] (by decide +kernel) (by decide +kernel)
set_option maxRecDepth 20000 in
theorem gL_law_X4_kind : GoodIn wsL_law (wsV RL 97 RX4 yX4_kind wsX4_kind) := goodIn_app (goodIn_of _ (by decide +kernel)) ggL_law_X4_kind
set_option maxRecDepth 20000 in
theorem ggL_law_X5_kind : GoodIn wsL_law wsX5_kind := goodIn_r _ [624, 348, 349, 350, 5, 351, 82, 111, 112, 113, 544, 545, 546, 547, 612, 613, 614, 615, 616, 552, 553, 554, 555, 548, 549, 550, 551, 491, 490, 543, 517, 518, 519, 520, 482, 483, 484, 485, 486, 487, 488, 489, 492, 493, 494, 495, 407, 408, 409, 410, 352, 353, 354, 355, 324, 325, 326, 320, 321, 322, 323, 903, 904, 905, 906, 907, 908, 909, 910, 911, 912, 913, 914, 915, 916, 917, 918, 919, 920, 921, 922, 923, 924, 925, 926] (by decide +kernel) (by decide +kernel)
set_option maxRecDepth 20000 in
theorem gL_law_X5_kind : GoodIn wsL_law (wsV RL 100 RX5 yX5_kind wsX5_kind) := goodIn_app (goodIn_of _ (by decide +kernel)) ggL_law_X5_kind
set_option maxRecDepth 20000 in
theorem ggL_law_X4_swap : GoodIn wsL_law wsX4_swap := goodIn_r _ [628, 16, 15, 297, 529, 530, 2, 531, 98, 99, 100, 605, 606, 607, 236, 237, 238, 14, 239, 45, 46, 47, 48, 39, 40, 41, 42, 43, 44, 137, 138, 139, 140, 49, 50, 502, 503, 504, 505, 506, 507, 508, 509, 510, 312, 313, 314, 511, 457, 458, 459, 460, 341, 342, 343, 461, 462, 463, 464, 465, 466, 307, 308, 309, 310, 467, 468, 469, 470, 471, 472, 473, 474, 475, 476, 477, 303, 304, 305, 306, 228, 229, 230, 231, 629, 630, 631, 632, 633, 380, 381, 382, 634, 384, 385, 386, 894, 895, 896, 897, 898, 899, 900, 901, 902, 927, 928, 929, 930, 931, 932, 933, 934, 935, 936, 937, 938] (by decide +kernel) (by decide +kernel)
set_option maxRecDepth 20000 in
theorem gL_law_X4_swap : GoodIn wsL_law (wsV RL 101 RX4 yX4_swap wsX4_swap) := goodIn_app (goodIn_of _ (by decide +kernel)) ggL_law_X4_swap
set_option maxRecDepth 20000 in
theorem ggL_law_X5_swap : GoodIn wsL_law wsX5_swap := goodIn_r _ [638, 82, 544, 545, 5, 546, 547, 111, 112, 113, 548, 549, 550, 551, 491, 490, 543, 552, 553, 554, 555, 517, 518, 519, 520, 482, 483, 484, 485, 486, 487, 488, 489, 492, 493, 494, 495, 407, 408, 409, 410, 352, 353, 354, 355, 324, 325, 326, 320, 321, 322, 323, 639, 640, 641, 642, 903, 904, 905, 906, 907, 908, 909, 910, 911, 912, 913, 914, 915, 916, 917, 918, 919, 920, 921, 922, 923, 924, 925, 926] (by decide +kernel) (by decide +kernel)
set_option maxRecDepth 20000 in
theorem gL_law_X5_swap : GoodIn wsL_law (wsV RL 104 RX5 yX5_swap wsX5_swap) := goodIn_app (goodIn_of _ (by decide +kernel)) ggL_law_X5_swap
set_option maxRecDepth 20000 in
theorem ggL_law_X4_miss : GoodIn wsL_law wsX4_miss := goodIn_r _ [646, 16, 15, 298, 302, 529, 530, 2, 531, 98, 99, 100, 605, 606, 607, 236, 237, 238, 14, 239, 45, 46, 47, 48, 39, 40, 41, 42, 43, 44, 137, 138, 139, 140, 49, 50, 502, 503, 504, 505, 506, 507, 508, 509, 510, 312, 313, 314, 511, 457, 458, 459, 460, 341, 342, 343, 461, 462, 463, 464, 465, 466, 307, 308, 309, 310, 467, 468, 469, 470, 471, 472, 473, 474, 475, 476, 477, 303, 304, 305, 306, 228, 229, 230, 231, 894, 895, 896, 897, 898, 899, 900, 901, 902, 927, 928, 929, 930, 931, 932, 933, 934, 935, 936, 937, 938] (by decide +kernel) (by decide +kernel)
set_option maxRecDepth 20000 in
theorem gL_law_X4_miss : GoodIn wsL_law (wsV RL 105 RX4 yX4_miss wsX4_miss) := goodIn_app (goodIn_of _ (by decide +kernel)) ggL_law_X4_miss
set_option maxRecDepth 20000 in
theorem ggL_law_X5_miss : GoodIn wsL_law wsX5_miss := goodIn_r _ [650, 82, 544, 545, 5, 546, 547, 111, 112, 113, 548, 549, 550, 551, 491, 490, 543, 552, 553, 554, 555, 517, 518, 519, 520, 482, 483, 484, 485, 486, 487, 488, 489, 492, 493, 494, 495, 407, 408, 409, 410, 352, 353, 354, 355, 324, 325, 326, 320, 321, 322, 323, 903, 904, 905, 906, 907, 908, 909, 910, 911, 912, 913, 914, 915, 916, 917, 918, 919, 920, 921, 922, 923, 924, 925, 926] (by decide +kernel) (by decide +kernel)
set_option maxRecDepth 20000 in
theorem gL_law_X5_miss : GoodIn wsL_law (wsV RL 108 RX5 yX5_miss wsX5_miss) := goodIn_app (goodIn_of _ (by decide +kernel)) ggL_law_X5_miss
set_option maxRecDepth 20000 in
theorem ggL_law_X4_lead : GoodIn wsL_law wsX4_lead := goodIn_r _ [654, 604, 16, 15, 529, 530, 2, 531, 98, 99, 100, 605, 606, 607, 236, 237, 238, 14, 239, 45, 46, 47, 48, 39, 40, 41, 42, 43, 44, 137, 138, 139, 140, 49, 50, 456, 457, 458, 459, 460, 341, 342, 343, 461, 462, 463, 464, 465, 466, 307, 308, 309, 310, 467, 468, 469, 470, 471, 472, 473, 474, 475, 476, 477, 532, 533, 534, 535, 536, 526, 527, 506, 507, 508, 509, 510, 312, 313, 314, 511, 537, 304, 305, 306, 228, 229, 230, 231, 894, 895, 896, 897, 898, 899, 900, 901, 902, 927, 928, 929, 930, 931, 932, 933, 934, 935, 936, 937, 938] (by decide +kernel) (by decide +kernel)
set_option maxRecDepth 20000 in
theorem gL_law_X4_lead : GoodIn wsL_law (wsV RL 109 RX4 yX4_lead wsX4_lead) := goodIn_app (goodIn_of _ (by decide +kernel)) ggL_law_X4_lead
set_option maxRecDepth 20000 in
theorem ggL_law_X5_lead : GoodIn wsL_law wsX5_lead := goodIn_r _ [658, 616, 543, 544, 545, 5, 546, 547, 111, 112, 113, 552, 553, 554, 555, 82, 482, 483, 484, 485, 486, 487, 488, 489, 490, 491, 492, 493, 494, 495, 407, 408, 409, 410, 352, 353, 354, 355, 324, 325, 326, 548, 549, 550, 551, 517, 518, 519, 520, 320, 321, 322, 323, 903, 904, 905, 906, 907, 908, 909, 910, 911, 912, 913, 914, 915, 916, 917, 918, 919, 920, 921, 922, 923, 924, 925, 926] (by decide +kernel) (by decide +kernel)
set_option maxRecDepth 20000 in
theorem gL_law_X5_lead : GoodIn wsL_law (wsV RL 112 RX5 yX5_lead wsX5_lead) := goodIn_app (goodIn_of _ (by decide +kernel)) ggL_law_X5_lead
set_option maxRecDepth 20000 in
theorem ggL_law_X4_luck : GoodIn wsL_law wsX4_luck := goodIn_r _ [662, 663, 664, 665, 2, 666, 98, 99, 100, 605, 606, 607, 667, 668, 669, 670, 671, 469, 672, 673, 674, 675, 676, 677, 678, 679, 680, 681, 682, 16, 15, 299, 236, 237, 238, 14, 239, 45, 46, 47, 48, 39, 40, 41, 42, 43, 44, 137, 138, 139, 140, 49, 50, 574, 507, 508, 509, 510, 312, 313, 314, 511, 457, 458, 459, 460, 341, 342, 343, 461, 462, 463, 464, 465, 466, 307, 308, 309, 310, 467, 468, 470, 471, 472, 473, 474, 475, 476, 477, 303, 304, 305, 306, 228, 229, 230, 231, 683, 684, 685, 686, 687, 688, 894, 895, 896, 897, 898, 899, 900, 901, 902, 927, 928, 929, 930, 931, 932, 933, 934, 935, 936, 937, 938] (by decide +kernel) (by decide +kernel)
set_option maxRecDepth 20000 in
theorem gL_law_X4_luck : GoodIn wsL_law (wsV RL 113 RX4 yX4_luck wsX4_luck) := goodIn_app (goodIn_of _ (by decide +kernel)) ggL_law_X4_luck
set_option maxRecDepth 20000 in
theorem ggL_law_X5_luck : GoodIn wsL_law wsX5_luck := goodIn_r _ [692, 693, 694, 695, 696, 111, 112, 5, 113, 697, 698, 699, 700, 552, 553, 554, 555, 82, 517, 518, 519, 520, 482, 483, 484, 485, 486, 487, 488, 489, 490, 491, 492, 493, 494, 495, 407, 408, 409, 410, 352, 353, 354, 355, 324, 325, 326, 320, 321, 322, 323, 701, 702, 703, 903, 904, 905, 906, 907, 908, 909, 910, 911, 912, 913, 914, 915, 916, 917, 918, 919, 920, 921, 922, 923, 924, 925, 926] (by decide +kernel) (by decide +kernel)
set_option maxRecDepth 20000 in
theorem gL_law_X5_luck : GoodIn wsL_law (wsV RL 117 RX5 yX5_luck wsX5_luck) := goodIn_app (goodIn_of _ (by decide +kernel)) ggL_law_X5_luck
set_option maxRecDepth 20000 in
theorem ggL_law_X4_mean : GoodIn wsL_law wsX4_mean := goodIn_r _ [707, 663, 664, 665, 2, 666, 98, 99, 100, 605, 606, 607, 667, 668, 669, 670, 671, 469, 672, 673, 674, 675, 676, 677, 678, 679, 680, 681, 682, 16, 15, 299, 236, 237, 238, 14, 239, 45, 46, 47, 48, 39, 40, 41, 42, 43, 44, 137, 138, 139, 140, 49, 50, 574, 507, 508, 509, 510, 312, 313, 314, 511, 457, 458, 459, 460, 341, 342, 343, 461, 462, 463, 464, 465, 466, 307, 308, 309, 310, 467, 468, 470, 471, 472, 473, 474, 475, 476, 477, 303, 304, 305, 306, 228, 229, 230, 231, 683, 684, 685, 686, 687, 688, 894, 895, 896, 897, 898, 899, 900, 901, 902, 927, 928, 929, 930, 931, 932, 933, 934, 935, 936, 937, 938] (by decide +kernel) (by decide +kernel)
set_option maxRecDepth 20000 in
theorem gL_law_X4_mean : GoodIn wsL_law (wsV RL 118 RX4 yX4_mean wsX4_mean) := goodIn_app (goodIn_of _ (by decide +kernel)) ggL_law_X4_mean
set_option maxRecDepth 20000 in
theorem ggL_law_X5_mean : GoodIn wsL_law wsX5_mean := goodIn_r _ [711, 693, 695, 696, 111, 112, 5, 113, 697, 698, 699, 700, 552, 553, 554, 555, 82, 517, 518, 519, 520, 482, 483, 484, 485, 486, 487, 488, 489, 490, 491, 492, 493, 494, 495, 407, 408, 409, 410, 352, 353, 354, 355, 324, 325, 326, 320, 321, 322, 323, 701, 702, 703, 903, 904, 905, 906, 907, 908, 909, 910, 911, 912, 913, 914, 915, 916, 917, 918, 919, 920, 921, 922, 923, 924, 925, 926] (by decide +kernel) (by decide +kernel)
set_option maxRecDepth 20000 in
theorem gL_law_X5_mean : GoodIn wsL_law (wsV RL 122 RX5 yX5_mean wsX5_mean) := goodIn_app (goodIn_of _ (by decide +kernel)) ggL_law_X5_mean
set_option maxRecDepth 20000 in
theorem ggL_law_X4_see : GoodIn wsL_law wsX4_see := goodIn_r _ [715, 27, 300, 128, 98, 99, 2, 100, 336, 337, 338, 339, 15, 297, 568, 569, 570, 571, 572, 716, 717, 718, 26, 719, 70, 67, 68, 69, 894, 895, 896, 897, 898, 899, 900, 901, 902, 946, 947, 948, 949, 927, 928, 929, 930, 931, 932, 933, 934, 935, 936, 937, 938] (by decide +kernel) (by decide +kernel)
set_option maxRecDepth 20000 in
theorem gL_law_X4_see : GoodIn wsL_law (wsV RL 123 RX4 yX4_see wsX4_see) := goodIn_app (goodIn_of _ (by decide +kernel)) ggL_law_X4_see
set_option maxRecDepth 20000 in
theorem ggL_law_X5_see : GoodIn wsL_law wsX5_see := goodIn_r _ [723, 724, 249, 87, 319, 111, 112, 5, 113, 348, 349, 350, 351, 82, 579, 580, 581, 582, 583, 903, 904, 905, 906, 907, 908, 909, 910, 911, 912, 913, 914, 915, 916, 917, 918, 919, 920, 921, 922, 923, 924, 925, 926] (by decide +kernel) (by decide +kernel)
set_option maxRecDepth 20000 in
theorem gL_law_X5_see : GoodIn wsL_law (wsV RL 126 RX5 yX5_see wsX5_see) := goodIn_app (goodIn_of _ (by decide +kernel)) ggL_law_X5_see
set_option maxRecDepth 20000 in
theorem ggL_law_X4_forget : GoodIn wsL_law wsX4_forget := goodIn_r _ [728, 27, 128, 98, 99, 2, 100, 894, 895, 896, 897, 898, 899, 900, 901, 902, 946, 947, 948, 949] (by decide +kernel) (by decide +kernel)
set_option maxRecDepth 20000 in
theorem gL_law_X4_forget : GoodIn wsL_law (wsV RL 127 RX4 yX4_forget wsX4_forget) := goodIn_app (goodIn_of _ (by decide +kernel)) ggL_law_X4_forget
set_option maxRecDepth 20000 in
theorem ggL_law_X5_forget : GoodIn wsL_law wsX5_forget := goodIn_r _ [732, 249, 111, 112, 5, 113, 903, 904, 905, 906, 907, 908, 909, 910, 911, 912, 913, 914, 915, 916, 917, 918, 919, 920, 921, 922, 923, 924, 925, 926] (by decide +kernel) (by decide +kernel)
set_option maxRecDepth 20000 in
theorem gL_law_X5_forget : GoodIn wsL_law (wsV RL 130 RX5 yX5_forget wsX5_forget) := goodIn_app (goodIn_of _ (by decide +kernel)) ggL_law_X5_forget
set_option maxRecDepth 20000 in
theorem ggL_law_X4_kinds : GoodIn wsL_law wsX4_kinds := goodIn_r _ [736, 336, 337, 338, 2, 339, 15, 297, 98, 99, 100, 737, 738, 739, 740, 16, 27, 376, 377, 378, 236, 237, 238, 14, 239, 45, 46, 47, 48, 39, 40, 41, 42, 43, 44, 137, 138, 139, 140, 49, 50, 383, 384, 385, 386, 741, 742, 743, 26, 744, 745, 746, 747, 748, 70, 67, 749, 526, 309, 527, 750, 507, 508, 509, 510, 312, 313, 314, 511, 457, 458, 459, 460, 341, 342, 343, 461, 462, 463, 464, 465, 466, 307, 308, 310, 467, 468, 469, 470, 471, 472, 473, 474, 475, 476, 477, 751, 752, 753, 754, 68, 755, 756, 69, 894, 895, 896, 897, 898, 899, 900, 901, 902, 927, 928, 929, 930, 931, 932, 933, 934, 935, 936, 937, 938, 946, 947, 948, 949] (by decide +kernel) (by decide +kernel)
set_option maxRecDepth 20000 in
theorem gL_law_X4_kinds : GoodIn wsL_law (wsV RL 131 RX4 yX4_kinds wsX4_kinds) := goodIn_app (goodIn_of _ (by decide +kernel)) ggL_law_X4_kinds
set_option maxRecDepth 20000 in
theorem ggL_law_X5_kinds : GoodIn wsL_law wsX5_kinds := goodIn_r _ [760, 348, 349, 350, 5, 351, 82, 111, 112, 113, 761, 762, 763, 764, 552, 553, 554, 555, 765, 766, 767, 768, 88, 249, 87, 517, 518, 519, 520, 482, 483, 484, 485, 486, 487, 488, 489, 490, 491, 492, 493, 494, 495, 407, 408, 409, 410, 352, 353, 354, 355, 324, 325, 326, 903, 904, 905, 906, 907, 908, 909, 910, 911, 912, 913, 914, 915, 916, 917, 918, 919, 920, 921, 922, 923, 924, 925, 926] (by decide +kernel) (by decide +kernel)
set_option maxRecDepth 20000 in
theorem gL_law_X5_kinds : GoodIn wsL_law (wsV RL 134 RX5 yX5_kinds wsX5_kinds) := goodIn_app (goodIn_of _ (by decide +kernel)) ggL_law_X5_kinds
set_option maxRecDepth 20000 in
theorem ggL_law_X4_slacks : GoodIn wsL_law wsX4_slacks := goodIn_r _ [772, 336, 337, 338, 2, 339, 15, 297, 98, 99, 100, 737, 738, 739, 740, 16, 27, 376, 377, 378, 236, 237, 238, 14, 239, 45, 46, 47, 48, 39, 40, 41, 42, 43, 44, 137, 138, 139, 140, 49, 50, 383, 384, 385, 386, 741, 742, 743, 26, 744, 745, 746, 747, 748, 70, 67, 749, 526, 309, 527, 750, 507, 508, 509, 510, 312, 313, 314, 511, 457, 458, 459, 460, 341, 342, 343, 461, 462, 463, 464, 465, 466, 307, 308, 310, 467, 468, 469, 470, 471, 472, 473, 474, 475, 476, 477, 751, 752, 753, 754, 68, 755, 756, 69, 894, 895, 896, 897, 898, 899, 900, 901, 902, 927, 928, 929, 930, 931, 932, 933, 934, 935, 936, 937, 938, 946, 947, 948, 949] (by decide +kernel) (by decide +kernel)
set_option maxRecDepth 20000 in
theorem gL_law_X4_slacks : GoodIn wsL_law (wsV RL 135 RX4 yX4_slacks wsX4_slacks) := goodIn_app (goodIn_of _ (by decide +kernel)) ggL_law_X4_slacks
set_option maxRecDepth 20000 in
theorem ggL_law_X5_slacks : GoodIn wsL_law wsX5_slacks := goodIn_r _ [776, 348, 349, 350, 5, 351, 82, 111, 112, 113, 761, 762, 763, 764, 552, 553, 554, 555, 765, 766, 767, 768, 88, 249, 87, 517, 518, 519, 520, 482, 483, 484, 485, 486, 487, 488, 489, 490, 491, 492, 493, 494, 495, 407, 408, 409, 410, 352, 353, 354, 355, 324, 325, 326, 903, 904, 905, 906, 907, 908, 909, 910, 911, 912, 913, 914, 915, 916, 917, 918, 919, 920, 921, 922, 923, 924, 925, 926] (by decide +kernel) (by decide +kernel)
set_option maxRecDepth 20000 in
theorem gL_law_X5_slacks : GoodIn wsL_law (wsV RL 138 RX5 yX5_slacks wsX5_slacks) := goodIn_app (goodIn_of _ (by decide +kernel)) ggL_law_X5_slacks
set_option maxRecDepth 20000 in
theorem ggL_law_X4_ask : GoodIn wsL_law wsX4_ask := goodIn_r _ [780, 336, 337, 338, 2, 339, 15, 297, 98, 99, 100, 605, 606, 607, 737, 738, 739, 740, 16, 27, 376, 377, 378, 236, 237, 238, 14, 239, 45, 46, 47, 48, 39, 40, 41, 42, 43, 44, 137, 138, 139, 140, 49, 50, 383, 384, 385, 386, 741, 742, 743, 26, 744, 745, 746, 747, 748, 70, 67, 749, 526, 309, 527, 750, 507, 508, 509, 510, 312, 313, 314, 511, 457, 458, 459, 460, 341, 342, 343, 461, 462, 463, 464, 465, 466, 307, 308, 310, 467, 468, 469, 470, 471, 472, 473, 474, 475, 476, 477, 751, 752, 753, 754, 68, 755, 756, 69, 781, 782, 783, 784, 31, 785, 786, 787, 788, 229, 230, 231, 574, 670, 671, 672, 673, 674, 675, 789, 790, 791, 792, 525, 894, 895, 896, 897, 898, 899, 900, 901, 902, 927, 928, 929, 930, 931, 932, 933, 934, 935, 936, 937, 938, 946, 947, 948, 949] (by decide +kernel) (by decide +kernel)
set_option maxRecDepth 20000 in
theorem gL_law_X4_ask : GoodIn wsL_law (wsV RL 139 RX4 yX4_ask wsX4_ask) := goodIn_app (goodIn_of _ (by decide +kernel)) ggL_law_X4_ask
set_option maxRecDepth 20000 in
theorem ggL_law_X5_ask : GoodIn wsL_law wsX5_ask := goodIn_r _ [796, 348, 349, 350, 5, 351, 82, 111, 112, 113, 761, 762, 763, 764, 552, 553, 554, 555, 765, 766, 767, 768, 88, 249, 87, 517, 518, 519, 520, 482, 483, 484, 485, 486, 487, 488, 489, 490, 491, 492, 493, 494, 495, 407, 408, 409, 410, 352, 353, 354, 355, 324, 325, 326, 797, 798, 799, 800, 903, 904, 905, 906, 907, 908, 909, 910, 911, 912, 913, 914, 915, 916, 917, 918, 919, 920, 921, 922, 923, 924, 925, 926] (by decide +kernel) (by decide +kernel)
set_option maxRecDepth 20000 in
theorem gL_law_X5_ask : GoodIn wsL_law (wsV RL 142 RX5 yX5_ask wsX5_ask) := goodIn_app (goodIn_of _ (by decide +kernel)) ggL_law_X5_ask
set_option maxRecDepth 20000 in
theorem ggL_law_X4_drift : GoodIn wsL_law wsX4_drift := goodIn_r _ [804, 15, 297, 16, 805, 500, 98, 99, 2, 100, 605, 606, 607, 236, 237, 238, 14, 239, 45, 46, 47, 48, 39, 40, 41, 42, 43, 44, 137, 138, 139, 140, 49, 50, 456, 457, 458, 459, 460, 341, 342, 343, 461, 462, 463, 464, 465, 466, 307, 308, 309, 310, 467, 468, 469, 470, 471, 472, 473, 474, 475, 476, 477, 303, 304, 305, 306, 228, 229, 230, 231, 894, 895, 896, 897, 898, 899, 900, 901, 902, 927, 928, 929, 930, 931, 932, 933, 934, 935, 936, 937, 938] (by decide +kernel) (by decide +kernel)
set_option maxRecDepth 20000 in
theorem gL_law_X4_drift : GoodIn wsL_law (wsV RL 143 RX4 yX4_drift wsX4_drift) := goodIn_app (goodIn_of _ (by decide +kernel)) ggL_law_X4_drift
set_option maxRecDepth 20000 in
theorem ggL_law_X5_drift : GoodIn wsL_law wsX5_drift := goodIn_r _ [809, 547, 82, 491, 810, 111, 112, 5, 113, 552, 553, 554, 555, 482, 483, 484, 485, 486, 487, 488, 489, 490, 492, 493, 494, 495, 407, 408, 409, 410, 352, 353, 354, 355, 324, 325, 326, 320, 321, 322, 323, 903, 904, 905, 906, 907, 908, 909, 910, 911, 912, 913, 914, 915, 916, 917, 918, 919, 920, 921, 922, 923, 924, 925, 926] (by decide +kernel) (by decide +kernel)
set_option maxRecDepth 20000 in
theorem gL_law_X5_drift : GoodIn wsL_law (wsV RL 146 RX5 yX5_drift wsX5_drift) := goodIn_app (goodIn_of _ (by decide +kernel)) ggL_law_X5_drift
set_option maxRecDepth 20000 in
theorem ggL_law_X4_keep : GoodIn wsL_law wsX4_keep := goodIn_r _ [814, 19, 17, 15, 98, 99, 2, 100, 236, 237, 238, 14, 239, 45, 46, 47, 48, 39, 40, 41, 42, 43, 44, 137, 138, 139, 140, 49, 50, 894, 895, 896, 897, 898, 899, 900, 901, 902, 927, 928, 929, 930, 931, 932, 933, 934, 935, 936, 937, 938] (by decide +kernel) (by decide +kernel)
set_option maxRecDepth 20000 in
theorem gL_law_X4_keep : GoodIn wsL_law (wsV RL 147 RX4 yX4_keep wsX4_keep) := goodIn_app (goodIn_of _ (by decide +kernel)) ggL_law_X4_keep
set_option maxRecDepth 20000 in
theorem ggL_law_X5_keep : GoodIn wsL_law wsX5_keep := goodIn_r _ [818, 89, 111, 112, 5, 113, 552, 553, 554, 555, 82, 903, 904, 905, 906, 907, 908, 909, 910, 911, 912, 913, 914, 915, 916, 917, 918, 919, 920, 921, 922, 923, 924, 925, 926] (by decide +kernel) (by decide +kernel)
set_option maxRecDepth 20000 in
theorem gL_law_X5_keep : GoodIn wsL_law (wsV RL 150 RX5 yX5_keep wsX5_keep) := goodIn_app (goodIn_of _ (by decide +kernel)) ggL_law_X5_keep
set_option maxRecDepth 20000 in
theorem ggL_law_X4_back : GoodIn wsL_law wsX4_back := goodIn_r _ [822, 19, 15, 17, 299, 98, 99, 2, 100, 236, 237, 238, 14, 239, 45, 46, 47, 48, 39, 40, 41, 42, 43, 44, 137, 138, 139, 140, 49, 50, 894, 895, 896, 897, 898, 899, 900, 901, 902, 927, 928, 929, 930, 931, 932, 933, 934, 935, 936, 937, 938] (by decide +kernel) (by decide +kernel)
set_option maxRecDepth 20000 in
theorem gL_law_X4_back : GoodIn wsL_law (wsV RL 151 RX4 yX4_back wsX4_back) := goodIn_app (goodIn_of _ (by decide +kernel)) ggL_law_X4_back
set_option maxRecDepth 20000 in
theorem ggL_law_X5_back : GoodIn wsL_law wsX5_back := goodIn_r _ [826, 89, 82, 111, 112, 5, 113, 552, 553, 554, 555, 903, 904, 905, 906, 907, 908, 909, 910, 911, 912, 913, 914, 915, 916, 917, 918, 919, 920, 921, 922, 923, 924, 925, 926] (by decide +kernel) (by decide +kernel)
set_option maxRecDepth 20000 in
theorem gL_law_X5_back : GoodIn wsL_law (wsV RL 154 RX5 yX5_back wsX5_back) := goodIn_app (goodIn_of _ (by decide +kernel)) ggL_law_X5_back
set_option maxRecDepth 20000 in
theorem ggL_law_X4_sheet : GoodIn wsL_law wsX4_sheet := goodIn_r _ [830, 29, 831, 832, 2, 833, 98, 99, 100, 834, 835, 836, 34, 837, 76, 77, 75, 894, 895, 896, 897, 898, 899, 900, 901, 902, 950, 951, 952] (by decide +kernel) (by decide +kernel)
set_option maxRecDepth 20000 in
theorem gL_law_X4_sheet : GoodIn wsL_law (wsV RL 155 RX4 yX4_sheet wsX4_sheet) := goodIn_app (goodIn_of _ (by decide +kernel)) ggL_law_X4_sheet
set_option maxRecDepth 20000 in
theorem ggL_law_X5_sheet : GoodIn wsL_law wsX5_sheet := goodIn_r _ [841, 392, 391, 90, 91, 92, 111, 112, 5, 113, 903, 904, 905, 906, 907, 908, 909, 910, 911, 912, 913, 914, 915, 916, 917, 918, 919, 920, 921, 922, 923, 924, 925, 926] (by decide +kernel) (by decide +kernel)
set_option maxRecDepth 20000 in
theorem gL_law_X5_sheet : GoodIn wsL_law (wsV RL 158 RX5 yX5_sheet wsX5_sheet) := goodIn_app (goodIn_of _ (by decide +kernel)) ggL_law_X5_sheet
set_option maxRecDepth 20000 in
theorem ggL_law_X4_lay : GoodIn wsL_law wsX4_lay := goodIn_r _ [845, 29, 831, 832, 2, 833, 98, 99, 100, 846, 847, 848, 34, 849, 77, 850, 851, 852, 853, 76, 75, 894, 895, 896, 897, 898, 899, 900, 901, 902, 950, 951, 952] (by decide +kernel) (by decide +kernel)
set_option maxRecDepth 20000 in
theorem gL_law_X4_lay : GoodIn wsL_law (wsV RL 159 RX4 yX4_lay wsX4_lay) := goodIn_app (goodIn_of _ (by decide +kernel)) ggL_law_X4_lay
set_option maxRecDepth 20000 in
theorem ggL_law_X5_lay : GoodIn wsL_law wsX5_lay := goodIn_r _ [857, 392, 90, 91, 92, 111, 112, 5, 113, 903, 904, 905, 906, 907, 908, 909, 910, 911, 912, 913, 914, 915, 916, 917, 918, 919, 920, 921, 922, 923, 924, 925, 926] (by decide +kernel) (by decide +kernel)
set_option maxRecDepth 20000 in
theorem gL_law_X5_lay : GoodIn wsL_law (wsV RL 162 RX5 yX5_lay wsX5_lay) := goodIn_app (goodIn_of _ (by decide +kernel)) ggL_law_X5_lay
set_option maxRecDepth 20000 in
theorem ggL_law_X4_read : GoodIn wsL_law wsX4_read := goodIn_r _ [861, 29, 15, 298, 862, 32, 831, 832, 2, 833, 98, 99, 100, 863, 864, 865, 34, 866, 77, 76, 867, 847, 848, 849, 423, 424, 425, 435, 233, 234, 14, 235, 46, 44, 894, 895, 896, 897, 898, 899, 900, 901, 902, 927, 928, 929, 930, 931, 932, 933, 934, 935, 936, 937, 938, 950, 951, 952] (by decide +kernel) (by decide +kernel)
set_option maxRecDepth 20000 in
theorem gL_law_X4_read : GoodIn wsL_law (wsV RL 163 RX4 yX4_read wsX4_read) := goodIn_app (goodIn_of _ (by decide +kernel)) ggL_law_X4_read
set_option maxRecDepth 20000 in
theorem ggL_law_X5_read : GoodIn wsL_law wsX5_read := goodIn_r _ [871, 392, 391, 724, 90, 91, 92, 872, 111, 112, 5, 113, 552, 553, 554, 555, 82, 440, 441, 442, 443, 430, 903, 904, 905, 906, 907, 908, 909, 910, 911, 912, 913, 914, 915, 916, 917, 918, 919, 920, 921, 922, 923, 924, 925, 926] (by decide +kernel) (by decide +kernel)
set_option maxRecDepth 20000 in
theorem gL_law_X5_read : GoodIn wsL_law (wsV RL 167 RX5 yX5_read wsX5_read) := goodIn_app (goodIn_of _ (by decide +kernel)) ggL_law_X5_read
set_option maxRecDepth 20000 in
theorem ggL_law_X4_torn : GoodIn wsL_law wsX4_torn := goodIn_r _ [876, 32, 894, 895, 896, 897, 898, 899, 900, 901, 902] (by decide +kernel) (by decide +kernel)
set_option maxRecDepth 20000 in
theorem gL_law_X4_torn : GoodIn wsL_law (wsV RL 168 RX4 yX4_torn wsX4_torn) := goodIn_app (goodIn_of _ (by decide +kernel)) ggL_law_X4_torn
set_option maxRecDepth 20000 in
theorem ggL_law_X5_torn : GoodIn wsL_law wsX5_torn := goodIn_r _ [880, 872, 903, 904, 905, 906, 907, 908, 909, 910, 911, 912, 913, 914, 915, 916, 917, 918, 919, 920, 921, 922, 923, 924, 925, 926] (by decide +kernel) (by decide +kernel)
set_option maxRecDepth 20000 in
theorem gL_law_X5_torn : GoodIn wsL_law (wsV RL 171 RX5 yX5_torn wsX5_torn) := goodIn_app (goodIn_of _ (by decide +kernel)) ggL_law_X5_torn
set_option maxRecDepth 20000 in
theorem ggL_law_X4_count : GoodIn wsL_law wsX4_count := goodIn_r _ [884, 27, 128, 19, 23, 97, 29, 885, 15, 886, 887, 888, 14, 889, 45, 633, 380, 381, 382, 39, 40, 42, 894, 895, 896, 897, 898, 899, 900, 901, 902, 946, 947, 948, 949, 939, 940, 941, 942, 943, 944, 945, 950, 951, 952, 927, 928, 929, 930, 931, 932, 933, 934, 935, 936, 937, 938] (by decide +kernel) (by decide +kernel)
set_option maxRecDepth 20000 in
theorem gL_law_X4_count : GoodIn wsL_law (wsV RL 172 RX4 yX4_count wsX4_count) := goodIn_app (goodIn_of _ (by decide +kernel)) ggL_law_X4_count
set_option maxRecDepth 20000 in
theorem ggL_law_X5_count : GoodIn wsL_law wsX5_count := goodIn_r _ [893, 82, 249, 89, 110, 90, 91, 903, 904, 905, 906, 907, 908, 909, 910, 911, 912, 913, 914, 915, 916, 917, 918, 919, 920, 921, 922, 923, 924, 925, 926] (by decide +kernel) (by decide +kernel)
set_option maxRecDepth 20000 in
theorem gL_law_X5_count : GoodIn wsL_law (wsV RL 175 RX5 yX5_count wsX5_count) := goodIn_app (goodIn_of _ (by decide +kernel)) ggL_law_X5_count
theorem dL_law_0 : decode cL_law 0 = .ok (.new 7, 3) := by decide +kernel
theorem dL_law_3 : decode cL_law 3 = .ok (.dup, 1) := by decide +kernel
theorem dL_law_4 : decode cL_law 4 = .ok (.invokespecial 9, 3) := by decide +kernel
theorem dL_law_7 : decode cL_law 7 = .ok (.astore_n 1, 1) := by decide +kernel
theorem dL_law_8 : decode cL_law 8 = .ok (.new 10, 3) := by decide +kernel
theorem dL_law_11 : decode cL_law 11 = .ok (.dup, 1) := by decide +kernel
theorem dL_law_12 : decode cL_law 12 = .ok (.invokespecial 12, 3) := by decide +kernel
theorem dL_law_15 : decode cL_law 15 = .ok (.astore_n 2, 1) := by decide +kernel
theorem dL_law_16 : decode cL_law 16 = .ok (.iconst 0, 1) := by decide +kernel
theorem dL_law_17 : decode cL_law 17 = .ok (.istore_n 3, 1) := by decide +kernel
theorem dL_law_18 : decode cL_law 18 = .ok (.iload_n 3, 1) := by decide +kernel
theorem dL_law_19 : decode cL_law 19 = .ok (.aload_n 0, 1) := by decide +kernel
theorem dL_law_20 : decode cL_law 20 = .ok (.arraylength, 1) := by decide +kernel
theorem dL_law_21 : decode cL_law 21 = .ok (.iconst 5, 1) := by decide +kernel
theorem dL_law_22 : decode cL_law 22 = .ok (.isub, 1) := by decide +kernel
theorem dL_law_23 : decode cL_law 23 = .ok (.if_icmp .gt 1366, 3) := by decide +kernel
theorem dL_law_26 : decode cL_law 26 = .ok (.aload_n 0, 1) := by decide +kernel
theorem dL_law_27 : decode cL_law 27 = .ok (.iload_n 3, 1) := by decide +kernel
theorem dL_law_28 : decode cL_law 28 = .ok (.iaload, 1) := by decide +kernel
theorem dL_law_29 : decode cL_law 29 = .ok (.bipush 63, 2) := by decide +kernel
theorem dL_law_31 : decode cL_law 31 = .ok (.iand, 1) := by decide +kernel
theorem dL_law_32 : decode cL_law 32 = .ok (.tableswitch 1351 0 38 #[172, 195, 218, 231, 244, 267, 300, 323, 366, 399, 422, 455, 478, 501, 524, 547, 580, 613, 646, 659, 702, 745, 778, 811, 844, 898, 942, 985, 1008, 1031, 1054, 1087, 1130, 1153, 1176, 1219, 1262, 1315, 1328], 172) := by decide +kernel
theorem dL_law_204 : decode cL_law 204 = .ok (.aload_n 1, 1) := by decide +kernel
theorem dL_law_205 : decode cL_law 205 = .ok (.aload_n 0, 1) := by decide +kernel
theorem dL_law_206 : decode cL_law 206 = .ok (.iload_n 3, 1) := by decide +kernel
theorem dL_law_207 : decode cL_law 207 = .ok (.iconst 1, 1) := by decide +kernel
theorem dL_law_208 : decode cL_law 208 = .ok (.iadd, 1) := by decide +kernel
theorem dL_law_209 : decode cL_law 209 = .ok (.iaload, 1) := by decide +kernel
theorem dL_law_210 : decode cL_law 210 = .ok (.invokevirtual 13, 3) := by decide +kernel
theorem dL_law_213 : decode cL_law 213 = .ok (.aload_n 2, 1) := by decide +kernel
theorem dL_law_214 : decode cL_law 214 = .ok (.aload_n 0, 1) := by decide +kernel
theorem dL_law_215 : decode cL_law 215 = .ok (.iload_n 3, 1) := by decide +kernel
theorem dL_law_216 : decode cL_law 216 = .ok (.iconst 1, 1) := by decide +kernel
theorem dL_law_217 : decode cL_law 217 = .ok (.iadd, 1) := by decide +kernel
theorem dL_law_218 : decode cL_law 218 = .ok (.iaload, 1) := by decide +kernel
theorem dL_law_219 : decode cL_law 219 = .ok (.invokevirtual 17, 3) := by decide +kernel
theorem dL_law_222 : decode cL_law 222 = .ok (.if_icmp .eq 1161, 3) := by decide +kernel
theorem dL_law_225 : decode cL_law 225 = .ok (.iconst 0, 1) := by decide +kernel
theorem dL_law_226 : decode cL_law 226 = .ok (.ireturn, 1) := by decide +kernel
theorem dL_law_227 : decode cL_law 227 = .ok (.aload_n 1, 1) := by decide +kernel
theorem dL_law_228 : decode cL_law 228 = .ok (.aload_n 0, 1) := by decide +kernel
theorem dL_law_229 : decode cL_law 229 = .ok (.iload_n 3, 1) := by decide +kernel
theorem dL_law_230 : decode cL_law 230 = .ok (.iconst 1, 1) := by decide +kernel
theorem dL_law_231 : decode cL_law 231 = .ok (.iadd, 1) := by decide +kernel
theorem dL_law_232 : decode cL_law 232 = .ok (.iaload, 1) := by decide +kernel
theorem dL_law_233 : decode cL_law 233 = .ok (.invokevirtual 18, 3) := by decide +kernel
theorem dL_law_236 : decode cL_law 236 = .ok (.aload_n 2, 1) := by decide +kernel
theorem dL_law_237 : decode cL_law 237 = .ok (.aload_n 0, 1) := by decide +kernel
