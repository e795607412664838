theorem dX5_feed_44 : decode cX5_feed 44 = .ok (.putfield 50, 3) := by decide +kernel
theorem dX5_feed_47 : decode cX5_feed 47 = .ok (.aload_n 0, 1) := by decide +kernel
theorem dX5_feed_48 : decode cX5_feed 48 = .ok (.getfield 50, 3) := by decide +kernel
theorem dX5_feed_51 : decode cX5_feed 51 = .ok (.ireturn, 1) := by decide +kernel
set_option maxRecDepth 20000 in
theorem ggX5_end_X5_in : GoodIn wsX5_end wsX5_in := goodIn_r _ [5] (by decide +kernel) (by decide +kernel)
set_option maxRecDepth 20000 in
theorem gX5_end_X5_in : GoodIn wsX5_end (va_wsS RX5 46 yX5_in wsX5_in) := goodIn_app (goodIn_of _ (by decide +kernel)) ggX5_end_X5_in
theorem dX5_end_0 : decode cX5_end 0 = .ok (.iload_n 1, 1) := by decide +kernel
theorem dX5_end_1 : decode cX5_end 1 = .ok (.i2l, 1) := by decide +kernel
theorem dX5_end_2 : decode cX5_end 2 = .ok (.lconst 0, 1) := by decide +kernel
theorem dX5_end_3 : decode cX5_end 3 = .ok (.aload_n 0, 1) := by decide +kernel
theorem dX5_end_4 : decode cX5_end 4 = .ok (.getfield 50, 3) := by decide +kernel
theorem dX5_end_7 : decode cX5_end 7 = .ok (.i2l, 1) := by decide +kernel
theorem dX5_end_8 : decode cX5_end 8 = .ok (.invokestatic 46, 3) := by decide +kernel
theorem dX5_end_11 : decode cX5_end 11 = .ok (.ifCond .ne 5, 3) := by decide +kernel
theorem dX5_end_14 : decode cX5_end 14 = .ok (.iconst (-1), 1) := by decide +kernel
theorem dX5_end_15 : decode cX5_end 15 = .ok (.ireturn, 1) := by decide +kernel
theorem dX5_end_16 : decode cX5_end 16 = .ok (.aload_n 0, 1) := by decide +kernel
theorem dX5_end_17 : decode cX5_end 17 = .ok (.getfield 50, 3) := by decide +kernel
theorem dX5_end_20 : decode cX5_end 20 = .ok (.istore_n 2, 1) := by decide +kernel
theorem dX5_end_21 : decode cX5_end 21 = .ok (.aload_n 0, 1) := by decide +kernel
theorem dX5_end_22 : decode cX5_end 22 = .ok (.iload_n 1, 1) := by decide +kernel
theorem dX5_end_23 : decode cX5_end 23 = .ok (.putfield 50, 3) := by decide +kernel
theorem dX5_end_26 : decode cX5_end 26 = .ok (.iload_n 2, 1) := by decide +kernel
theorem dX5_end_27 : decode cX5_end 27 = .ok (.ireturn, 1) := by decide +kernel
theorem dX5_byteAt_0 : decode cX5_byteAt 0 = .ok (.iload_n 1, 1) := by decide +kernel
theorem dX5_byteAt_1 : decode cX5_byteAt 1 = .ok (.aload_n 0, 1) := by decide +kernel
theorem dX5_byteAt_2 : decode cX5_byteAt 2 = .ok (.getfield 50, 3) := by decide +kernel
theorem dX5_byteAt_5 : decode cX5_byteAt 5 = .ok (.if_icmp .ge 12, 3) := by decide +kernel
theorem dX5_byteAt_8 : decode cX5_byteAt 8 = .ok (.aload_n 0, 1) := by decide +kernel
theorem dX5_byteAt_9 : decode cX5_byteAt 9 = .ok (.getfield 16, 3) := by decide +kernel
theorem dX5_byteAt_12 : decode cX5_byteAt 12 = .ok (.iload_n 1, 1) := by decide +kernel
theorem dX5_byteAt_13 : decode cX5_byteAt 13 = .ok (.iaload, 1) := by decide +kernel
theorem dX5_byteAt_14 : decode cX5_byteAt 14 = .ok (.goto 5, 3) := by decide +kernel
theorem dX5_byteAt_17 : decode cX5_byteAt 17 = .ok (.bipush (-4), 2) := by decide +kernel
theorem dX5_byteAt_19 : decode cX5_byteAt 19 = .ok (.ireturn, 1) := by decide +kernel
theorem dX5_fails_0 : decode cX5_fails 0 = .ok (.aload_n 0, 1) := by decide +kernel
theorem dX5_fails_1 : decode cX5_fails 1 = .ok (.getfield 54, 3) := by decide +kernel
theorem dX5_fails_4 : decode cX5_fails 4 = .ok (.ifCond .ne 16, 3) := by decide +kernel
theorem dX5_fails_7 : decode cX5_fails 7 = .ok (.aload_n 0, 1) := by decide +kernel
theorem dX5_fails_8 : decode cX5_fails 8 = .ok (.iload_n 1, 1) := by decide +kernel
theorem dX5_fails_9 : decode cX5_fails 9 = .ok (.putfield 54, 3) := by decide +kernel
theorem dX5_fails_12 : decode cX5_fails 12 = .ok (.aload_n 0, 1) := by decide +kernel
theorem dX5_fails_13 : decode cX5_fails 13 = .ok (.aload_n 0, 1) := by decide +kernel
theorem dX5_fails_14 : decode cX5_fails 14 = .ok (.getfield 57, 3) := by decide +kernel
theorem dX5_fails_17 : decode cX5_fails 17 = .ok (.putfield 60, 3) := by decide +kernel
theorem dX5_fails_20 : decode cX5_fails 20 = .ok (.return_, 1) := by decide +kernel
set_option maxRecDepth 20000 in
theorem ggX5_nameHere_X5_byteAt : GoodIn wsX5_nameHere wsX5_byteAt := goodIn_r _ [10, 11, 12, 13, 14, 15, 16, 17, 18, 19, 20, 21, 22, 23, 24, 25, 26, 27, 28, 29, 30, 31, 32, 33, 34, 35, 36] (by decide +kernel) (by decide +kernel)
set_option maxRecDepth 20000 in
theorem gX5_nameHere_X5_byteAt : GoodIn wsX5_nameHere (wsV RX5 69 RX5 yX5_byteAt wsX5_byteAt) := goodIn_app (goodIn_of _ (by decide +kernel)) ggX5_nameHere_X5_byteAt
theorem dX5_nameHere_0 : decode cX5_nameHere 0 = .ok (.iconst 0, 1) := by decide +kernel
theorem dX5_nameHere_1 : decode cX5_nameHere 1 = .ok (.istore_n 1, 1) := by decide +kernel
theorem dX5_nameHere_2 : decode cX5_nameHere 2 = .ok (.iload_n 1, 1) := by decide +kernel
theorem dX5_nameHere_3 : decode cX5_nameHere 3 = .ok (.bipush 6, 2) := by decide +kernel
theorem dX5_nameHere_5 : decode cX5_nameHere 5 = .ok (.if_icmp .ge 113, 3) := by decide +kernel
theorem dX5_nameHere_8 : decode cX5_nameHere 8 = .ok (.aload_n 0, 1) := by decide +kernel
theorem dX5_nameHere_9 : decode cX5_nameHere 9 = .ok (.getfield 63, 3) := by decide +kernel
theorem dX5_nameHere_12 : decode cX5_nameHere 12 = .ok (.iconst 1, 1) := by decide +kernel
theorem dX5_nameHere_13 : decode cX5_nameHere 13 = .ok (.if_icmp .ne 105, 3) := by decide +kernel
theorem dX5_nameHere_16 : decode cX5_nameHere 16 = .ok (.aload_n 0, 1) := by decide +kernel
theorem dX5_nameHere_17 : decode cX5_nameHere 17 = .ok (.getfield 66, 3) := by decide +kernel
theorem dX5_nameHere_20 : decode cX5_nameHere 20 = .ok (.aload_n 0, 1) := by decide +kernel
theorem dX5_nameHere_21 : decode cX5_nameHere 21 = .ok (.getfield 57, 3) := by decide +kernel
theorem dX5_nameHere_24 : decode cX5_nameHere 24 = .ok (.isub, 1) := by decide +kernel
theorem dX5_nameHere_25 : decode cX5_nameHere 25 = .ok (.aload_n 0, 1) := by decide +kernel
theorem dX5_nameHere_26 : decode cX5_nameHere 26 = .ok (.getfield 19, 3) := by decide +kernel
theorem dX5_nameHere_29 : decode cX5_nameHere 29 = .ok (.iload_n 1, 1) := by decide +kernel
theorem dX5_nameHere_30 : decode cX5_nameHere 30 = .ok (.iconst 1, 1) := by decide +kernel
theorem dX5_nameHere_31 : decode cX5_nameHere 31 = .ok (.iadd, 1) := by decide +kernel
theorem dX5_nameHere_32 : decode cX5_nameHere 32 = .ok (.iaload, 1) := by decide +kernel
theorem dX5_nameHere_33 : decode cX5_nameHere 33 = .ok (.aload_n 0, 1) := by decide +kernel
theorem dX5_nameHere_34 : decode cX5_nameHere 34 = .ok (.getfield 19, 3) := by decide +kernel
theorem dX5_nameHere_37 : decode cX5_nameHere 37 = .ok (.iload_n 1, 1) := by decide +kernel
theorem dX5_nameHere_38 : decode cX5_nameHere 38 = .ok (.iaload, 1) := by decide +kernel
theorem dX5_nameHere_39 : decode cX5_nameHere 39 = .ok (.isub, 1) := by decide +kernel
theorem dX5_nameHere_40 : decode cX5_nameHere 40 = .ok (.if_icmp .ne 7, 3) := by decide +kernel
theorem dX5_nameHere_43 : decode cX5_nameHere 43 = .ok (.iconst 1, 1) := by decide +kernel
theorem dX5_nameHere_44 : decode cX5_nameHere 44 = .ok (.goto 4, 3) := by decide +kernel
theorem dX5_nameHere_47 : decode cX5_nameHere 47 = .ok (.iconst 0, 1) := by decide +kernel
theorem dX5_nameHere_48 : decode cX5_nameHere 48 = .ok (.istore_n 2, 1) := by decide +kernel
theorem dX5_nameHere_49 : decode cX5_nameHere 49 = .ok (.iconst 0, 1) := by decide +kernel
theorem dX5_nameHere_50 : decode cX5_nameHere 50 = .ok (.istore_n 3, 1) := by decide +kernel
theorem dX5_nameHere_51 : decode cX5_nameHere 51 = .ok (.iload_n 2, 1) := by decide +kernel
theorem dX5_nameHere_52 : decode cX5_nameHere 52 = .ok (.ifCond .eq 54, 3) := by decide +kernel
theorem dX5_nameHere_55 : decode cX5_nameHere 55 = .ok (.iload_n 3, 1) := by decide +kernel
theorem dX5_nameHere_56 : decode cX5_nameHere 56 = .ok (.aload_n 0, 1) := by decide +kernel
theorem dX5_nameHere_57 : decode cX5_nameHere 57 = .ok (.getfield 66, 3) := by decide +kernel
theorem dX5_nameHere_60 : decode cX5_nameHere 60 = .ok (.aload_n 0, 1) := by decide +kernel
theorem dX5_nameHere_61 : decode cX5_nameHere 61 = .ok (.getfield 57, 3) := by decide +kernel
theorem dX5_nameHere_64 : decode cX5_nameHere 64 = .ok (.isub, 1) := by decide +kernel
theorem dX5_nameHere_65 : decode cX5_nameHere 65 = .ok (.if_icmp .ge 41, 3) := by decide +kernel
theorem dX5_nameHere_68 : decode cX5_nameHere 68 = .ok (.aload_n 0, 1) := by decide +kernel
theorem dX5_nameHere_69 : decode cX5_nameHere 69 = .ok (.aload_n 0, 1) := by decide +kernel
theorem dX5_nameHere_70 : decode cX5_nameHere 70 = .ok (.getfield 57, 3) := by decide +kernel
theorem dX5_nameHere_73 : decode cX5_nameHere 73 = .ok (.iload_n 3, 1) := by decide +kernel
theorem dX5_nameHere_74 : decode cX5_nameHere 74 = .ok (.iadd, 1) := by decide +kernel
theorem dX5_nameHere_75 : decode cX5_nameHere 75 = .ok (.invokevirtual 69, 3) := by decide +kernel
theorem dX5_nameHere_78 : decode cX5_nameHere 78 = .ok (.aload_n 0, 1) := by decide +kernel
theorem dX5_nameHere_79 : decode cX5_nameHere 79 = .ok (.getfield 22, 3) := by decide +kernel
theorem dX5_nameHere_82 : decode cX5_nameHere 82 = .ok (.aload_n 0, 1) := by decide +kernel
theorem dX5_nameHere_83 : decode cX5_nameHere 83 = .ok (.getfield 19, 3) := by decide +kernel
theorem dX5_nameHere_86 : decode cX5_nameHere 86 = .ok (.iload_n 1, 1) := by decide +kernel
theorem dX5_nameHere_87 : decode cX5_nameHere 87 = .ok (.iaload, 1) := by decide +kernel
theorem dX5_nameHere_88 : decode cX5_nameHere 88 = .ok (.iload_n 3, 1) := by decide +kernel
theorem dX5_nameHere_89 : decode cX5_nameHere 89 = .ok (.iadd, 1) := by decide +kernel
theorem dX5_nameHere_90 : decode cX5_nameHere 90 = .ok (.iaload, 1) := by decide +kernel
theorem dX5_nameHere_91 : decode cX5_nameHere 91 = .ok (.if_icmp .ne 7, 3) := by decide +kernel
theorem dX5_nameHere_94 : decode cX5_nameHere 94 = .ok (.iconst 1, 1) := by decide +kernel
theorem dX5_nameHere_95 : decode cX5_nameHere 95 = .ok (.goto 4, 3) := by decide +kernel
theorem dX5_nameHere_98 : decode cX5_nameHere 98 = .ok (.iconst 0, 1) := by decide +kernel
theorem dX5_nameHere_99 : decode cX5_nameHere 99 = .ok (.istore_n 2, 1) := by decide +kernel
theorem dX5_nameHere_100 : decode cX5_nameHere 100 = .ok (.iinc 3 1, 3) := by decide +kernel
theorem dX5_nameHere_103 : decode cX5_nameHere 103 = .ok (.goto (-52), 3) := by decide +kernel
theorem dX5_nameHere_106 : decode cX5_nameHere 106 = .ok (.iload_n 2, 1) := by decide +kernel
theorem dX5_nameHere_107 : decode cX5_nameHere 107 = .ok (.ifCond .eq 5, 3) := by decide +kernel
theorem dX5_nameHere_110 : decode cX5_nameHere 110 = .ok (.iload_n 1, 1) := by decide +kernel
theorem dX5_nameHere_111 : decode cX5_nameHere 111 = .ok (.ireturn, 1) := by decide +kernel
theorem dX5_nameHere_112 : decode cX5_nameHere 112 = .ok (.iinc 1 1, 3) := by decide +kernel
theorem dX5_nameHere_115 : decode cX5_nameHere 115 = .ok (.goto (-113), 3) := by decide +kernel
theorem dX5_nameHere_118 : decode cX5_nameHere 118 = .ok (.bipush (-4), 2) := by decide +kernel
theorem dX5_nameHere_120 : decode cX5_nameHere 120 = .ok (.ireturn, 1) := by decide +kernel
set_option maxRecDepth 20000 in
theorem ggX5_readsOn_X5_byteAt : GoodIn wsX5_readsOn wsX5_byteAt := goodIn_r _ [14, 15, 16, 25, 26, 27, 28, 29, 30, 31, 32, 33, 34, 35, 36, 37, 38, 39, 40, 41, 42, 43, 44, 45, 46, 47, 48] (by decide +kernel) (by decide +kernel)
set_option maxRecDepth 20000 in
theorem gX5_readsOn_X5_byteAt : GoodIn wsX5_readsOn (wsV RX5 69 RX5 yX5_byteAt wsX5_byteAt) := goodIn_app (goodIn_of _ (by decide +kernel)) ggX5_readsOn_X5_byteAt
set_option maxRecDepth 20000 in
theorem ggX5_readsOn_X5_in : GoodIn wsX5_readsOn wsX5_in := goodIn_r _ [19] (by decide +kernel) (by decide +kernel)
set_option maxRecDepth 20000 in
theorem gX5_readsOn_X5_in : GoodIn wsX5_readsOn (va_wsS RX5 46 yX5_in wsX5_in) := goodIn_app (goodIn_of _ (by decide +kernel)) ggX5_readsOn_X5_in
set_option maxRecDepth 20000 in
theorem ggX5_readsOn_X5_fails : GoodIn wsX5_readsOn wsX5_fails := goodIn_r _ [23, 1, 3, 24, 25, 26, 27, 28, 29, 30, 31, 32, 33, 34, 35, 36, 37, 38, 39, 40, 41, 42, 43, 44, 45, 46, 47, 48] (by decide +kernel) (by decide +kernel)
set_option maxRecDepth 20000 in
theorem gX5_readsOn_X5_fails : GoodIn wsX5_readsOn (wsV RX5 84 RX5 yX5_fails wsX5_fails) := goodIn_app (goodIn_of _ (by decide +kernel)) ggX5_readsOn_X5_fails
theorem dX5_readsOn_0 : decode cX5_readsOn 0 = .ok (.aload_n 0, 1) := by decide +kernel
theorem dX5_readsOn_1 : decode cX5_readsOn 1 = .ok (.getfield 54, 3) := by decide +kernel
theorem dX5_readsOn_4 : decode cX5_readsOn 4 = .ok (.ifCond .le 4, 3) := by decide +kernel
theorem dX5_readsOn_7 : decode cX5_readsOn 7 = .ok (.return_, 1) := by decide +kernel
theorem dX5_readsOn_8 : decode cX5_readsOn 8 = .ok (.aload_n 0, 1) := by decide +kernel
theorem dX5_readsOn_9 : decode cX5_readsOn 9 = .ok (.aload_n 0, 1) := by decide +kernel
theorem dX5_readsOn_10 : decode cX5_readsOn 10 = .ok (.getfield 66, 3) := by decide +kernel
theorem dX5_readsOn_13 : decode cX5_readsOn 13 = .ok (.invokevirtual 69, 3) := by decide +kernel
theorem dX5_readsOn_16 : decode cX5_readsOn 16 = .ok (.bipush 32, 2) := by decide +kernel
theorem dX5_readsOn_18 : decode cX5_readsOn 18 = .ok (.if_icmp .ne 16, 3) := by decide +kernel
theorem dX5_readsOn_21 : decode cX5_readsOn 21 = .ok (.aload_n 0, 1) := by decide +kernel
theorem dX5_readsOn_22 : decode cX5_readsOn 22 = .ok (.dup, 1) := by decide +kernel
theorem dX5_readsOn_23 : decode cX5_readsOn 23 = .ok (.getfield 66, 3) := by decide +kernel
theorem dX5_readsOn_26 : decode cX5_readsOn 26 = .ok (.iconst 1, 1) := by decide +kernel
theorem dX5_readsOn_27 : decode cX5_readsOn 27 = .ok (.iadd, 1) := by decide +kernel
theorem dX5_readsOn_28 : decode cX5_readsOn 28 = .ok (.putfield 66, 3) := by decide +kernel
theorem dX5_readsOn_31 : decode cX5_readsOn 31 = .ok (.goto (-23), 3) := by decide +kernel
theorem dX5_readsOn_34 : decode cX5_readsOn 34 = .ok (.aload_n 0, 1) := by decide +kernel
theorem dX5_readsOn_35 : decode cX5_readsOn 35 = .ok (.aload_n 0, 1) := by decide +kernel
theorem dX5_readsOn_36 : decode cX5_readsOn 36 = .ok (.getfield 66, 3) := by decide +kernel
theorem dX5_readsOn_39 : decode cX5_readsOn 39 = .ok (.putfield 57, 3) := by decide +kernel
theorem dX5_readsOn_42 : decode cX5_readsOn 42 = .ok (.aload_n 0, 1) := by decide +kernel
theorem dX5_readsOn_43 : decode cX5_readsOn 43 = .ok (.aload_n 0, 1) := by decide +kernel
theorem dX5_readsOn_44 : decode cX5_readsOn 44 = .ok (.getfield 66, 3) := by decide +kernel
theorem dX5_readsOn_47 : decode cX5_readsOn 47 = .ok (.invokevirtual 69, 3) := by decide +kernel
theorem dX5_readsOn_50 : decode cX5_readsOn 50 = .ok (.istore_n 1, 1) := by decide +kernel
theorem dX5_readsOn_51 : decode cX5_readsOn 51 = .ok (.aload_n 0, 1) := by decide +kernel
theorem dX5_readsOn_52 : decode cX5_readsOn 52 = .ok (.iconst 0, 1) := by decide +kernel
theorem dX5_readsOn_53 : decode cX5_readsOn 53 = .ok (.putfield 73, 3) := by decide +kernel
theorem dX5_readsOn_56 : decode cX5_readsOn 56 = .ok (.iload_n 1, 1) := by decide +kernel
theorem dX5_readsOn_57 : decode cX5_readsOn 57 = .ok (.bipush (-4), 2) := by decide +kernel
theorem dX5_readsOn_59 : decode cX5_readsOn 59 = .ok (.if_icmp .ne 11, 3) := by decide +kernel
theorem dX5_readsOn_62 : decode cX5_readsOn 62 = .ok (.aload_n 0, 1) := by decide +kernel
theorem dX5_readsOn_63 : decode cX5_readsOn 63 = .ok (.iconst 0, 1) := by decide +kernel
theorem dX5_readsOn_64 : decode cX5_readsOn 64 = .ok (.putfield 63, 3) := by decide +kernel
theorem dX5_readsOn_67 : decode cX5_readsOn 67 = .ok (.goto 202, 3) := by decide +kernel
theorem dX5_readsOn_70 : decode cX5_readsOn 70 = .ok (.iload_n 1, 1) := by decide +kernel
theorem dX5_readsOn_71 : decode cX5_readsOn 71 = .ok (.i2l, 1) := by decide +kernel
theorem dX5_readsOn_72 : decode cX5_readsOn 72 = .ok (.ldc2_w 76, 3) := by decide +kernel
theorem dX5_readsOn_75 : decode cX5_readsOn 75 = .ok (.ldc2_w 78, 3) := by decide +kernel
theorem dX5_readsOn_78 : decode cX5_readsOn 78 = .ok (.invokestatic 46, 3) := by decide +kernel
theorem dX5_readsOn_81 : decode cX5_readsOn 81 = .ok (.ifCond .eq 45, 3) := by decide +kernel
theorem dX5_readsOn_84 : decode cX5_readsOn 84 = .ok (.aload_n 0, 1) := by decide +kernel
theorem dX5_readsOn_85 : decode cX5_readsOn 85 = .ok (.aload_n 0, 1) := by decide +kernel
theorem dX5_readsOn_86 : decode cX5_readsOn 86 = .ok (.getfield 66, 3) := by decide +kernel
theorem dX5_readsOn_89 : decode cX5_readsOn 89 = .ok (.invokevirtual 69, 3) := by decide +kernel
theorem dX5_readsOn_92 : decode cX5_readsOn 92 = .ok (.i2l, 1) := by decide +kernel
theorem dX5_readsOn_93 : decode cX5_readsOn 93 = .ok (.ldc2_w 76, 3) := by decide +kernel
theorem dX5_readsOn_96 : decode cX5_readsOn 96 = .ok (.ldc2_w 78, 3) := by decide +kernel
theorem dX5_readsOn_99 : decode cX5_readsOn 99 = .ok (.invokestatic 46, 3) := by decide +kernel
theorem dX5_readsOn_102 : decode cX5_readsOn 102 = .ok (.ifCond .eq 16, 3) := by decide +kernel
theorem dX5_readsOn_105 : decode cX5_readsOn 105 = .ok (.aload_n 0, 1) := by decide +kernel
theorem dX5_readsOn_106 : decode cX5_readsOn 106 = .ok (.dup, 1) := by decide +kernel
theorem dX5_readsOn_107 : decode cX5_readsOn 107 = .ok (.getfield 66, 3) := by decide +kernel
theorem dX5_readsOn_110 : decode cX5_readsOn 110 = .ok (.iconst 1, 1) := by decide +kernel
theorem dX5_readsOn_111 : decode cX5_readsOn 111 = .ok (.iadd, 1) := by decide +kernel
theorem dX5_readsOn_112 : decode cX5_readsOn 112 = .ok (.putfield 66, 3) := by decide +kernel
theorem dX5_readsOn_115 : decode cX5_readsOn 115 = .ok (.goto (-31), 3) := by decide +kernel
theorem dX5_readsOn_118 : decode cX5_readsOn 118 = .ok (.aload_n 0, 1) := by decide +kernel
theorem dX5_readsOn_119 : decode cX5_readsOn 119 = .ok (.iconst 1, 1) := by decide +kernel
theorem dX5_readsOn_120 : decode cX5_readsOn 120 = .ok (.putfield 63, 3) := by decide +kernel
theorem dX5_readsOn_123 : decode cX5_readsOn 123 = .ok (.goto 146, 3) := by decide +kernel
theorem dX5_readsOn_126 : decode cX5_readsOn 126 = .ok (.iload_n 1, 1) := by decide +kernel
theorem dX5_readsOn_127 : decode cX5_readsOn 127 = .ok (.i2l, 1) := by decide +kernel
theorem dX5_readsOn_128 : decode cX5_readsOn 128 = .ok (.ldc2_w 80, 3) := by decide +kernel
theorem dX5_readsOn_131 : decode cX5_readsOn 131 = .ok (.ldc2_w 82, 3) := by decide +kernel
theorem dX5_readsOn_134 : decode cX5_readsOn 134 = .ok (.invokestatic 46, 3) := by decide +kernel
theorem dX5_readsOn_137 : decode cX5_readsOn 137 = .ok (.ifCond .eq 106, 3) := by decide +kernel
theorem dX5_readsOn_140 : decode cX5_readsOn 140 = .ok (.aload_n 0, 1) := by decide +kernel
theorem dX5_readsOn_141 : decode cX5_readsOn 141 = .ok (.aload_n 0, 1) := by decide +kernel
theorem dX5_readsOn_142 : decode cX5_readsOn 142 = .ok (.getfield 66, 3) := by decide +kernel
theorem dX5_readsOn_145 : decode cX5_readsOn 145 = .ok (.invokevirtual 69, 3) := by decide +kernel
theorem dX5_readsOn_148 : decode cX5_readsOn 148 = .ok (.i2l, 1) := by decide +kernel
theorem dX5_readsOn_149 : decode cX5_readsOn 149 = .ok (.ldc2_w 80, 3) := by decide +kernel
theorem dX5_readsOn_152 : decode cX5_readsOn 152 = .ok (.ldc2_w 82, 3) := by decide +kernel
theorem dX5_readsOn_155 : decode cX5_readsOn 155 = .ok (.invokestatic 46, 3) := by decide +kernel
theorem dX5_readsOn_158 : decode cX5_readsOn 158 = .ok (.ifCond .eq 59, 3) := by decide +kernel
theorem dX5_readsOn_161 : decode cX5_readsOn 161 = .ok (.aload_n 0, 1) := by decide +kernel
theorem dX5_readsOn_162 : decode cX5_readsOn 162 = .ok (.aload_n 0, 1) := by decide +kernel
theorem dX5_readsOn_163 : decode cX5_readsOn 163 = .ok (.getfield 66, 3) := by decide +kernel
theorem dX5_readsOn_166 : decode cX5_readsOn 166 = .ok (.aload_n 0, 1) := by decide +kernel
theorem dX5_readsOn_167 : decode cX5_readsOn 167 = .ok (.getfield 57, 3) := by decide +kernel
theorem dX5_readsOn_170 : decode cX5_readsOn 170 = .ok (.isub, 1) := by decide +kernel
theorem dX5_readsOn_171 : decode cX5_readsOn 171 = .ok (.iconst 2, 1) := by decide +kernel
theorem dX5_readsOn_172 : decode cX5_readsOn 172 = .ok (.if_icmp .ge 25, 3) := by decide +kernel
theorem dX5_readsOn_175 : decode cX5_readsOn 175 = .ok (.bipush 10, 2) := by decide +kernel
theorem dX5_readsOn_177 : decode cX5_readsOn 177 = .ok (.aload_n 0, 1) := by decide +kernel
theorem dX5_readsOn_178 : decode cX5_readsOn 178 = .ok (.getfield 73, 3) := by decide +kernel
theorem dX5_readsOn_181 : decode cX5_readsOn 181 = .ok (.imul, 1) := by decide +kernel
theorem dX5_readsOn_182 : decode cX5_readsOn 182 = .ok (.aload_n 0, 1) := by decide +kernel
theorem dX5_readsOn_183 : decode cX5_readsOn 183 = .ok (.aload_n 0, 1) := by decide +kernel
theorem dX5_readsOn_184 : decode cX5_readsOn 184 = .ok (.getfield 66, 3) := by decide +kernel
theorem dX5_readsOn_187 : decode cX5_readsOn 187 = .ok (.invokevirtual 69, 3) := by decide +kernel
theorem dX5_readsOn_190 : decode cX5_readsOn 190 = .ok (.iadd, 1) := by decide +kernel
theorem dX5_readsOn_191 : decode cX5_readsOn 191 = .ok (.bipush 48, 2) := by decide +kernel
theorem dX5_readsOn_193 : decode cX5_readsOn 193 = .ok (.isub, 1) := by decide +kernel
theorem dX5_readsOn_194 : decode cX5_readsOn 194 = .ok (.goto 7, 3) := by decide +kernel
theorem dX5_readsOn_197 : decode cX5_readsOn 197 = .ok (.aload_n 0, 1) := by decide +kernel
theorem dX5_readsOn_198 : decode cX5_readsOn 198 = .ok (.getfield 73, 3) := by decide +kernel
theorem dX5_readsOn_201 : decode cX5_readsOn 201 = .ok (.putfield 73, 3) := by decide +kernel
theorem dX5_readsOn_204 : decode cX5_readsOn 204 = .ok (.aload_n 0, 1) := by decide +kernel
theorem dX5_readsOn_205 : decode cX5_readsOn 205 = .ok (.dup, 1) := by decide +kernel
theorem dX5_readsOn_206 : decode cX5_readsOn 206 = .ok (.getfield 66, 3) := by decide +kernel
theorem dX5_readsOn_209 : decode cX5_readsOn 209 = .ok (.iconst 1, 1) := by decide +kernel
theorem dX5_readsOn_210 : decode cX5_readsOn 210 = .ok (.iadd, 1) := by decide +kernel
theorem dX5_readsOn_211 : decode cX5_readsOn 211 = .ok (.putfield 66, 3) := by decide +kernel
theorem dX5_readsOn_214 : decode cX5_readsOn 214 = .ok (.goto (-74), 3) := by decide +kernel
theorem dX5_readsOn_217 : decode cX5_readsOn 217 = .ok (.aload_n 0, 1) := by decide +kernel
theorem dX5_readsOn_218 : decode cX5_readsOn 218 = .ok (.iconst 2, 1) := by decide +kernel
theorem dX5_readsOn_219 : decode cX5_readsOn 219 = .ok (.putfield 63, 3) := by decide +kernel
theorem dX5_readsOn_222 : decode cX5_readsOn 222 = .ok (.aload_n 0, 1) := by decide +kernel
theorem dX5_readsOn_223 : decode cX5_readsOn 223 = .ok (.getfield 66, 3) := by decide +kernel
theorem dX5_readsOn_226 : decode cX5_readsOn 226 = .ok (.aload_n 0, 1) := by decide +kernel
theorem dX5_readsOn_227 : decode cX5_readsOn 227 = .ok (.getfield 57, 3) := by decide +kernel
theorem dX5_readsOn_230 : decode cX5_readsOn 230 = .ok (.isub, 1) := by decide +kernel
theorem dX5_readsOn_231 : decode cX5_readsOn 231 = .ok (.iconst 2, 1) := by decide +kernel
theorem dX5_readsOn_232 : decode cX5_readsOn 232 = .ok (.if_icmp .le 37, 3) := by decide +kernel
theorem dX5_readsOn_235 : decode cX5_readsOn 235 = .ok (.aload_n 0, 1) := by decide +kernel
theorem dX5_readsOn_236 : decode cX5_readsOn 236 = .ok (.iconst 1, 1) := by decide +kernel
theorem dX5_readsOn_237 : decode cX5_readsOn 237 = .ok (.invokevirtual 84, 3) := by decide +kernel
theorem dX5_readsOn_240 : decode cX5_readsOn 240 = .ok (.goto 29, 3) := by decide +kernel
theorem dX5_readsOn_243 : decode cX5_readsOn 243 = .ok (.aload_n 0, 1) := by decide +kernel
theorem dX5_readsOn_244 : decode cX5_readsOn 244 = .ok (.iconst 3, 1) := by decide +kernel
theorem dX5_readsOn_245 : decode cX5_readsOn 245 = .ok (.putfield 63, 3) := by decide +kernel
theorem dX5_readsOn_248 : decode cX5_readsOn 248 = .ok (.aload_n 0, 1) := by decide +kernel
theorem dX5_readsOn_249 : decode cX5_readsOn 249 = .ok (.dup, 1) := by decide +kernel
theorem dX5_readsOn_250 : decode cX5_readsOn 250 = .ok (.getfield 66, 3) := by decide +kernel
theorem dX5_readsOn_253 : decode cX5_readsOn 253 = .ok (.iconst 1, 1) := by decide +kernel
theorem dX5_readsOn_254 : decode cX5_readsOn 254 = .ok (.iadd, 1) := by decide +kernel
theorem dX5_readsOn_255 : decode cX5_readsOn 255 = .ok (.putfield 66, 3) := by decide +kernel
theorem dX5_readsOn_258 : decode cX5_readsOn 258 = .ok (.iload_n 1, 1) := by decide +kernel
theorem dX5_readsOn_259 : decode cX5_readsOn 259 = .ok (.bipush 59, 2) := by decide +kernel
theorem dX5_readsOn_261 : decode cX5_readsOn 261 = .ok (.if_icmp .eq 8, 3) := by decide +kernel
theorem dX5_readsOn_264 : decode cX5_readsOn 264 = .ok (.aload_n 0, 1) := by decide +kernel
theorem dX5_readsOn_265 : decode cX5_readsOn 265 = .ok (.iconst 1, 1) := by decide +kernel
theorem dX5_readsOn_266 : decode cX5_readsOn 266 = .ok (.invokevirtual 84, 3) := by decide +kernel
theorem dX5_readsOn_269 : decode cX5_readsOn 269 = .ok (.return_, 1) := by decide +kernel
set_option maxRecDepth 20000 in
theorem ggX5_number_X5_fails : GoodIn wsX5_number wsX5_fails := goodIn_r _ [8, 1, 9, 10, 29, 30, 31, 32, 33, 34, 35, 36, 37, 38, 39, 40, 41, 42, 43, 44, 45, 46, 47, 48, 49, 50, 51, 52] (by decide +kernel) (by decide +kernel)
set_option maxRecDepth 20000 in
theorem gX5_number_X5_fails : GoodIn wsX5_number (wsV RX5 84 RX5 yX5_fails wsX5_fails) := goodIn_app (goodIn_of _ (by decide +kernel)) ggX5_number_X5_fails
set_option maxRecDepth 20000 in
theorem ggX5_number_X5_in : GoodIn wsX5_number wsX5_in := goodIn_r _ [13] (by decide +kernel) (by decide +kernel)
set_option maxRecDepth 20000 in
theorem gX5_number_X5_in : GoodIn wsX5_number (va_wsS RX5 46 yX5_in wsX5_in) := goodIn_app (goodIn_of _ (by decide +kernel)) ggX5_number_X5_in
set_option maxRecDepth 20000 in
theorem ggX5_number_X5_readsOn : GoodIn wsX5_number wsX5_readsOn := goodIn_r _ [17, 1, 18, 9, 3, 2, 19, 20, 21, 22, 23, 24, 25, 7, 26, 27, 28, 11, 12, 13, 4, 5, 6, 8, 10, 29, 30, 31, 32, 33, 34, 35, 36, 37, 38, 39, 40, 41, 42, 43, 44, 45, 46, 47, 48, 49, 50, 51, 52] (by decide +kernel) (by decide +kernel)
set_option maxRecDepth 20000 in
theorem gX5_number_X5_readsOn : GoodIn wsX5_number (wsV RX5 88 RX5 yX5_readsOn wsX5_readsOn) := goodIn_app (goodIn_of _ (by decide +kernel)) ggX5_number_X5_readsOn
theorem dX5_number_0 : decode cX5_number 0 = .ok (.aload_n 0, 1) := by decide +kernel
theorem dX5_number_1 : decode cX5_number 1 = .ok (.getfield 54, 3) := by decide +kernel
theorem dX5_number_4 : decode cX5_number 4 = .ok (.ifCond .ne 16, 3) := by decide +kernel
theorem dX5_number_7 : decode cX5_number 7 = .ok (.aload_n 0, 1) := by decide +kernel
theorem dX5_number_8 : decode cX5_number 8 = .ok (.getfield 63, 3) := by decide +kernel
theorem dX5_number_11 : decode cX5_number 11 = .ok (.iconst 2, 1) := by decide +kernel
theorem dX5_number_12 : decode cX5_number 12 = .ok (.if_icmp .eq 8, 3) := by decide +kernel
theorem dX5_number_15 : decode cX5_number 15 = .ok (.aload_n 0, 1) := by decide +kernel
theorem dX5_number_16 : decode cX5_number 16 = .ok (.iconst 2, 1) := by decide +kernel
theorem dX5_number_17 : decode cX5_number 17 = .ok (.invokevirtual 84, 3) := by decide +kernel
theorem dX5_number_20 : decode cX5_number 20 = .ok (.aload_n 0, 1) := by decide +kernel
theorem dX5_number_21 : decode cX5_number 21 = .ok (.getfield 54, 3) := by decide +kernel
theorem dX5_number_24 : decode cX5_number 24 = .ok (.ifCond .ne 23, 3) := by decide +kernel
theorem dX5_number_27 : decode cX5_number 27 = .ok (.aload_n 0, 1) := by decide +kernel
theorem dX5_number_28 : decode cX5_number 28 = .ok (.getfield 73, 3) := by decide +kernel
theorem dX5_number_31 : decode cX5_number 31 = .ok (.i2l, 1) := by decide +kernel
theorem dX5_number_32 : decode cX5_number 32 = .ok (.iload_n 1, 1) := by decide +kernel
theorem dX5_number_33 : decode cX5_number 33 = .ok (.i2l, 1) := by decide +kernel
theorem dX5_number_34 : decode cX5_number 34 = .ok (.iload_n 2, 1) := by decide +kernel
theorem dX5_number_35 : decode cX5_number 35 = .ok (.i2l, 1) := by decide +kernel
theorem dX5_number_36 : decode cX5_number 36 = .ok (.invokestatic 46, 3) := by decide +kernel
theorem dX5_number_39 : decode cX5_number 39 = .ok (.ifCond .ne 8, 3) := by decide +kernel
theorem dX5_number_42 : decode cX5_number 42 = .ok (.aload_n 0, 1) := by decide +kernel
theorem dX5_number_43 : decode cX5_number 43 = .ok (.iconst 3, 1) := by decide +kernel
theorem dX5_number_44 : decode cX5_number 44 = .ok (.invokevirtual 84, 3) := by decide +kernel
theorem dX5_number_47 : decode cX5_number 47 = .ok (.aload_n 0, 1) := by decide +kernel
theorem dX5_number_48 : decode cX5_number 48 = .ok (.getfield 54, 3) := by decide +kernel
theorem dX5_number_51 : decode cX5_number 51 = .ok (.ifCond .ne 10, 3) := by decide +kernel
theorem dX5_number_54 : decode cX5_number 54 = .ok (.aload_n 0, 1) := by decide +kernel
theorem dX5_number_55 : decode cX5_number 55 = .ok (.getfield 73, 3) := by decide +kernel
theorem dX5_number_58 : decode cX5_number 58 = .ok (.goto 4, 3) := by decide +kernel
theorem dX5_number_61 : decode cX5_number 61 = .ok (.iload_n 1, 1) := by decide +kernel
theorem dX5_number_62 : decode cX5_number 62 = .ok (.istore_n 3, 1) := by decide +kernel
theorem dX5_number_63 : decode cX5_number 63 = .ok (.aload_n 0, 1) := by decide +kernel
theorem dX5_number_64 : decode cX5_number 64 = .ok (.invokevirtual 88, 3) := by decide +kernel
theorem dX5_number_67 : decode cX5_number 67 = .ok (.iload_n 3, 1) := by decide +kernel
theorem dX5_number_68 : decode cX5_number 68 = .ok (.ireturn, 1) := by decide +kernel
set_option maxRecDepth 20000 in
theorem ggX5_readMore_X5_number : GoodIn wsX5_readMore wsX5_number := goodIn_r _ [6, 7, 8, 9, 10, 11, 12, 5, 13, 14, 15, 16, 17, 18, 19, 20, 21, 22, 23, 24, 25, 26, 27, 28, 29, 30, 31, 32, 33, 34, 35, 36, 37, 38, 39, 40, 41, 42, 43, 44, 45, 46, 47, 48, 49, 50, 51, 52, 53, 54, 55, 56, 57] (by decide +kernel) (by decide +kernel)
set_option maxRecDepth 20000 in
theorem gX5_readMore_X5_number : GoodIn wsX5_readMore (wsV RX5 91 RX5 yX5_number wsX5_number) := goodIn_app (goodIn_of _ (by decide +kernel)) ggX5_readMore_X5_number
theorem dX5_readMore_0 : decode cX5_readMore 0 = .ok (.iload_n 1, 1) := by decide +kernel
theorem dX5_readMore_1 : decode cX5_readMore 1 = .ok (.iconst 3, 1) := by decide +kernel
theorem dX5_readMore_2 : decode cX5_readMore 2 = .ok (.if_icmp .gt 49, 3) := by decide +kernel
theorem dX5_readMore_5 : decode cX5_readMore 5 = .ok (.aload_n 0, 1) := by decide +kernel
theorem dX5_readMore_6 : decode cX5_readMore 6 = .ok (.getfield 13, 3) := by decide +kernel
theorem dX5_readMore_9 : decode cX5_readMore 9 = .ok (.aload_n 0, 1) := by decide +kernel
theorem dX5_readMore_10 : decode cX5_readMore 10 = .ok (.getfield 13, 3) := by decide +kernel
theorem dX5_readMore_13 : decode cX5_readMore 13 = .ok (.bipush 20, 2) := by decide +kernel
theorem dX5_readMore_15 : decode cX5_readMore 15 = .ok (.iaload, 1) := by decide +kernel
theorem dX5_readMore_16 : decode cX5_readMore 16 = .ok (.iload_n 1, 1) := by decide +kernel
theorem dX5_readMore_17 : decode cX5_readMore 17 = .ok (.iastore, 1) := by decide +kernel
theorem dX5_readMore_18 : decode cX5_readMore 18 = .ok (.aload_n 0, 1) := by decide +kernel
theorem dX5_readMore_19 : decode cX5_readMore 19 = .ok (.getfield 13, 3) := by decide +kernel
theorem dX5_readMore_22 : decode cX5_readMore 22 = .ok (.iconst 4, 1) := by decide +kernel
theorem dX5_readMore_23 : decode cX5_readMore 23 = .ok (.aload_n 0, 1) := by decide +kernel
theorem dX5_readMore_24 : decode cX5_readMore 24 = .ok (.getfield 13, 3) := by decide +kernel
theorem dX5_readMore_27 : decode cX5_readMore 27 = .ok (.bipush 20, 2) := by decide +kernel
theorem dX5_readMore_29 : decode cX5_readMore 29 = .ok (.iaload, 1) := by decide +kernel
theorem dX5_readMore_30 : decode cX5_readMore 30 = .ok (.iadd, 1) := by decide +kernel
theorem dX5_readMore_31 : decode cX5_readMore 31 = .ok (.aload_n 0, 1) := by decide +kernel
theorem dX5_readMore_32 : decode cX5_readMore 32 = .ok (.iconst 0, 1) := by decide +kernel
theorem dX5_readMore_33 : decode cX5_readMore 33 = .ok (.bipush 9, 2) := by decide +kernel
theorem dX5_readMore_35 : decode cX5_readMore 35 = .ok (.invokevirtual 91, 3) := by decide +kernel
theorem dX5_readMore_38 : decode cX5_readMore 38 = .ok (.iastore, 1) := by decide +kernel
theorem dX5_readMore_39 : decode cX5_readMore 39 = .ok (.aload_n 0, 1) := by decide +kernel
theorem dX5_readMore_40 : decode cX5_readMore 40 = .ok (.getfield 13, 3) := by decide +kernel
theorem dX5_readMore_43 : decode cX5_readMore 43 = .ok (.bipush 20, 2) := by decide +kernel
theorem dX5_readMore_45 : decode cX5_readMore 45 = .ok (.dup2, 1) := by decide +kernel
theorem dX5_readMore_46 : decode cX5_readMore 46 = .ok (.iaload, 1) := by decide +kernel
theorem dX5_readMore_47 : decode cX5_readMore 47 = .ok (.iconst 1, 1) := by decide +kernel
theorem dX5_readMore_48 : decode cX5_readMore 48 = .ok (.iadd, 1) := by decide +kernel
theorem dX5_readMore_49 : decode cX5_readMore 49 = .ok (.iastore, 1) := by decide +kernel
theorem dX5_readMore_50 : decode cX5_readMore 50 = .ok (.return_, 1) := by decide +kernel
theorem dX5_readMore_51 : decode cX5_readMore 51 = .ok (.aload_n 0, 1) := by decide +kernel
theorem dX5_readMore_52 : decode cX5_readMore 52 = .ok (.iconst 0, 1) := by decide +kernel
theorem dX5_readMore_53 : decode cX5_readMore 53 = .ok (.bipush 9, 2) := by decide +kernel
theorem dX5_readMore_55 : decode cX5_readMore 55 = .ok (.invokevirtual 91, 3) := by decide +kernel
theorem dX5_readMore_58 : decode cX5_readMore 58 = .ok (.istore_n 2, 1) := by decide +kernel
theorem dX5_readMore_59 : decode cX5_readMore 59 = .ok (.aload_n 0, 1) := by decide +kernel
theorem dX5_readMore_60 : decode cX5_readMore 60 = .ok (.getfield 13, 3) := by decide +kernel
theorem dX5_readMore_63 : decode cX5_readMore 63 = .ok (.bipush 21, 2) := by decide +kernel
theorem dX5_readMore_65 : decode cX5_readMore 65 = .ok (.aload_n 0, 1) := by decide +kernel
theorem dX5_readMore_66 : decode cX5_readMore 66 = .ok (.getfield 13, 3) := by decide +kernel
theorem dX5_readMore_69 : decode cX5_readMore 69 = .ok (.bipush 37, 2) := by decide +kernel
theorem dX5_readMore_71 : decode cX5_readMore 71 = .ok (.iaload, 1) := by decide +kernel
theorem dX5_readMore_72 : decode cX5_readMore 72 = .ok (.iadd, 1) := by decide +kernel
theorem dX5_readMore_73 : decode cX5_readMore 73 = .ok (.iload_n 1, 1) := by decide +kernel
theorem dX5_readMore_74 : decode cX5_readMore 74 = .ok (.iconst 4, 1) := by decide +kernel
theorem dX5_readMore_75 : decode cX5_readMore 75 = .ok (.if_icmp .ne 7, 3) := by decide +kernel
theorem dX5_readMore_78 : decode cX5_readMore 78 = .ok (.iload_n 2, 1) := by decide +kernel
theorem dX5_readMore_79 : decode cX5_readMore 79 = .ok (.goto 5, 3) := by decide +kernel
theorem dX5_readMore_82 : decode cX5_readMore 82 = .ok (.iload_n 2, 1) := by decide +kernel
theorem dX5_readMore_83 : decode cX5_readMore 83 = .ok (.ineg, 1) := by decide +kernel
theorem dX5_readMore_84 : decode cX5_readMore 84 = .ok (.iastore, 1) := by decide +kernel
theorem dX5_readMore_85 : decode cX5_readMore 85 = .ok (.aload_n 0, 1) := by decide +kernel
theorem dX5_readMore_86 : decode cX5_readMore 86 = .ok (.getfield 13, 3) := by decide +kernel
theorem dX5_readMore_89 : decode cX5_readMore 89 = .ok (.bipush 37, 2) := by decide +kernel
theorem dX5_readMore_91 : decode cX5_readMore 91 = .ok (.dup2, 1) := by decide +kernel
theorem dX5_readMore_92 : decode cX5_readMore 92 = .ok (.iaload, 1) := by decide +kernel
theorem dX5_readMore_93 : decode cX5_readMore 93 = .ok (.iconst 1, 1) := by decide +kernel
theorem dX5_readMore_94 : decode cX5_readMore 94 = .ok (.iadd, 1) := by decide +kernel
theorem dX5_readMore_95 : decode cX5_readMore 95 = .ok (.iastore, 1) := by decide +kernel
theorem dX5_readMore_96 : decode cX5_readMore 96 = .ok (.return_, 1) := by decide +kernel
set_option maxRecDepth 20000 in
theorem ggX5_readLine_X5_nameHere : GoodIn wsX5_readLine wsX5_nameHere := goodIn_r _ [9, 4, 10, 11, 12, 13, 14, 15, 16, 8, 17, 18, 19, 45, 46, 47, 48, 49, 50, 51, 52, 53, 54, 55, 56, 57, 58, 59, 60, 61, 62, 63, 64, 65, 66, 67, 68] (by decide +kernel) (by decide +kernel)
set_option maxRecDepth 20000 in
theorem gX5_readLine_X5_nameHere : GoodIn wsX5_readLine (wsV RX5 95 RX5 yX5_nameHere wsX5_nameHere) := goodIn_app (goodIn_of _ (by decide +kernel)) ggX5_readLine_X5_nameHere
set_option maxRecDepth 20000 in
theorem ggX5_readLine_X5_in : GoodIn wsX5_readLine wsX5_in := goodIn_r _ [22] (by decide +kernel) (by decide +kernel)
set_option maxRecDepth 20000 in
theorem gX5_readLine_X5_in : GoodIn wsX5_readLine (va_wsS RX5 46 yX5_in wsX5_in) := goodIn_app (goodIn_of _ (by decide +kernel)) ggX5_readLine_X5_in
set_option maxRecDepth 20000 in
theorem ggX5_readLine_X5_fails : GoodIn wsX5_readLine wsX5_fails := goodIn_r _ [26, 3, 11, 27, 45, 46, 47, 48, 49, 50, 51, 52, 53, 54, 55, 56, 57, 58, 59, 60, 61, 62, 63, 64, 65, 66, 67, 68] (by decide +kernel) (by decide +kernel)
set_option maxRecDepth 20000 in
theorem gX5_readLine_X5_fails : GoodIn wsX5_readLine (wsV RX5 84 RX5 yX5_fails wsX5_fails) := goodIn_app (goodIn_of _ (by decide +kernel)) ggX5_readLine_X5_fails
set_option maxRecDepth 20000 in
theorem ggX5_readLine_X5_readsOn : GoodIn wsX5_readLine wsX5_readsOn := goodIn_r _ [31, 3, 10, 11, 32, 4, 33, 34, 35, 36, 14, 15, 16, 8, 17, 18, 19, 20, 21, 22, 23, 24, 25, 26, 27, 45, 46, 47, 48, 49, 50, 51, 52, 53, 54, 55, 56, 57, 58, 59, 60, 61, 62, 63, 64, 65, 66, 67, 68] (by decide +kernel) (by decide +kernel)
set_option maxRecDepth 20000 in
theorem gX5_readLine_X5_readsOn : GoodIn wsX5_readLine (wsV RX5 88 RX5 yX5_readsOn wsX5_readsOn) := goodIn_app (goodIn_of _ (by decide +kernel)) ggX5_readLine_X5_readsOn
set_option maxRecDepth 20000 in
theorem ggX5_readLine_X5_readMore : GoodIn wsX5_readLine wsX5_readMore := goodIn_r _ [40, 2, 41, 42, 43, 8, 44, 3, 4, 32, 23, 24, 25, 26, 11, 27, 20, 21, 22, 28, 29, 30, 31, 10, 33, 34, 35, 36, 14, 15, 16, 17, 18, 19, 45, 46, 47, 48, 49, 50, 51, 52, 53, 54, 55, 56, 57, 58, 59, 60, 61, 62, 63, 64, 65, 66, 67, 68] (by decide +kernel) (by decide +kernel)
set_option maxRecDepth 20000 in
theorem gX5_readLine_X5_readMore : GoodIn wsX5_readLine (wsV RX5 101 RX5 yX5_readMore wsX5_readMore) := goodIn_app (goodIn_of _ (by decide +kernel)) ggX5_readLine_X5_readMore
theorem dX5_readLine_0 : decode cX5_readLine 0 = .ok (.aload_n 0, 1) := by decide +kernel
theorem dX5_readLine_1 : decode cX5_readLine 1 = .ok (.invokevirtual 95, 3) := by decide +kernel
theorem dX5_readLine_4 : decode cX5_readLine 4 = .ok (.istore_n 1, 1) := by decide +kernel
theorem dX5_readLine_5 : decode cX5_readLine 5 = .ok (.iload_n 1, 1) := by decide +kernel
theorem dX5_readLine_6 : decode cX5_readLine 6 = .ok (.i2l, 1) := by decide +kernel
theorem dX5_readLine_7 : decode cX5_readLine 7 = .ok (.lconst 0, 1) := by decide +kernel
theorem dX5_readLine_8 : decode cX5_readLine 8 = .ok (.ldc2_w 99, 3) := by decide +kernel
theorem dX5_readLine_11 : decode cX5_readLine 11 = .ok (.invokestatic 46, 3) := by decide +kernel
theorem dX5_readLine_14 : decode cX5_readLine 14 = .ok (.ifCond .ne 9, 3) := by decide +kernel
theorem dX5_readLine_17 : decode cX5_readLine 17 = .ok (.aload_n 0, 1) := by decide +kernel
theorem dX5_readLine_18 : decode cX5_readLine 18 = .ok (.iconst 2, 1) := by decide +kernel
theorem dX5_readLine_19 : decode cX5_readLine 19 = .ok (.invokevirtual 84, 3) := by decide +kernel
theorem dX5_readLine_22 : decode cX5_readLine 22 = .ok (.return_, 1) := by decide +kernel
theorem dX5_readLine_23 : decode cX5_readLine 23 = .ok (.iload_n 1, 1) := by decide +kernel
theorem dX5_readLine_24 : decode cX5_readLine 24 = .ok (.iconst 3, 1) := by decide +kernel
theorem dX5_readLine_25 : decode cX5_readLine 25 = .ok (.if_icmp .gt 14, 3) := by decide +kernel
theorem dX5_readLine_28 : decode cX5_readLine 28 = .ok (.aload_n 0, 1) := by decide +kernel
theorem dX5_readLine_29 : decode cX5_readLine 29 = .ok (.getfield 13, 3) := by decide +kernel
theorem dX5_readLine_32 : decode cX5_readLine 32 = .ok (.bipush 20, 2) := by decide +kernel
theorem dX5_readLine_34 : decode cX5_readLine 34 = .ok (.iaload, 1) := by decide +kernel
theorem dX5_readLine_35 : decode cX5_readLine 35 = .ok (.iconst 4, 1) := by decide +kernel
theorem dX5_readLine_36 : decode cX5_readLine 36 = .ok (.if_icmp .eq 20, 3) := by decide +kernel
theorem dX5_readLine_39 : decode cX5_readLine 39 = .ok (.iload_n 1, 1) := by decide +kernel
theorem dX5_readLine_40 : decode cX5_readLine 40 = .ok (.iconst 3, 1) := by decide +kernel
theorem dX5_readLine_41 : decode cX5_readLine 41 = .ok (.if_icmp .le 20, 3) := by decide +kernel
theorem dX5_readLine_44 : decode cX5_readLine 44 = .ok (.aload_n 0, 1) := by decide +kernel
theorem dX5_readLine_45 : decode cX5_readLine 45 = .ok (.getfield 13, 3) := by decide +kernel
theorem dX5_readLine_48 : decode cX5_readLine 48 = .ok (.bipush 37, 2) := by decide +kernel
theorem dX5_readLine_50 : decode cX5_readLine 50 = .ok (.iaload, 1) := by decide +kernel
theorem dX5_readLine_51 : decode cX5_readLine 51 = .ok (.bipush 16, 2) := by decide +kernel
theorem dX5_readLine_53 : decode cX5_readLine 53 = .ok (.if_icmp .ne 8, 3) := by decide +kernel
theorem dX5_readLine_56 : decode cX5_readLine 56 = .ok (.aload_n 0, 1) := by decide +kernel
theorem dX5_readLine_57 : decode cX5_readLine 57 = .ok (.iconst 5, 1) := by decide +kernel
theorem dX5_readLine_58 : decode cX5_readLine 58 = .ok (.invokevirtual 84, 3) := by decide +kernel
theorem dX5_readLine_61 : decode cX5_readLine 61 = .ok (.aload_n 0, 1) := by decide +kernel
theorem dX5_readLine_62 : decode cX5_readLine 62 = .ok (.invokevirtual 88, 3) := by decide +kernel
theorem dX5_readLine_65 : decode cX5_readLine 65 = .ok (.aload_n 0, 1) := by decide +kernel
theorem dX5_readLine_66 : decode cX5_readLine 66 = .ok (.getfield 54, 3) := by decide +kernel
theorem dX5_readLine_69 : decode cX5_readLine 69 = .ok (.ifCond .le 4, 3) := by decide +kernel
theorem dX5_readLine_72 : decode cX5_readLine 72 = .ok (.return_, 1) := by decide +kernel
theorem dX5_readLine_73 : decode cX5_readLine 73 = .ok (.aload_n 0, 1) := by decide +kernel
theorem dX5_readLine_74 : decode cX5_readLine 74 = .ok (.iload_n 1, 1) := by decide +kernel
theorem dX5_readLine_75 : decode cX5_readLine 75 = .ok (.invokevirtual 101, 3) := by decide +kernel
theorem dX5_readLine_78 : decode cX5_readLine 78 = .ok (.aload_n 0, 1) := by decide +kernel
theorem dX5_readLine_79 : decode cX5_readLine 79 = .ok (.getfield 54, 3) := by decide +kernel
theorem dX5_readLine_82 : decode cX5_readLine 82 = .ok (.ifCond .ne 16, 3) := by decide +kernel
theorem dX5_readLine_85 : decode cX5_readLine 85 = .ok (.aload_n 0, 1) := by decide +kernel
theorem dX5_readLine_86 : decode cX5_readLine 86 = .ok (.getfield 63, 3) := by decide +kernel
theorem dX5_readLine_89 : decode cX5_readLine 89 = .ok (.iconst 3, 1) := by decide +kernel
theorem dX5_readLine_90 : decode cX5_readLine 90 = .ok (.if_icmp .eq 8, 3) := by decide +kernel
theorem dX5_readLine_93 : decode cX5_readLine 93 = .ok (.aload_n 0, 1) := by decide +kernel
theorem dX5_readLine_94 : decode cX5_readLine 94 = .ok (.iconst 2, 1) := by decide +kernel
theorem dX5_readLine_95 : decode cX5_readLine 95 = .ok (.invokevirtual 84, 3) := by decide +kernel
theorem dX5_readLine_98 : decode cX5_readLine 98 = .ok (.aload_n 0, 1) := by decide +kernel
theorem dX5_readLine_99 : decode cX5_readLine 99 = .ok (.invokevirtual 88, 3) := by decide +kernel
theorem dX5_readLine_102 : decode cX5_readLine 102 = .ok (.return_, 1) := by decide +kernel
set_option maxRecDepth 20000 in
theorem ggX5_text_X5_readsOn : GoodIn wsX5_text wsX5_readsOn := goodIn_r _ [15, 1, 2, 16, 17, 4, 18, 19, 20, 21, 22, 23, 24, 14, 25, 5, 26, 27, 28, 29, 30, 31, 32, 33, 7, 53, 54, 55, 56, 57, 58, 59, 60, 61, 62, 63, 64, 65, 66, 67, 68, 69, 70, 71, 72, 73, 74, 75, 76] (by decide +kernel) (by decide +kernel)
set_option maxRecDepth 20000 in
theorem gX5_text_X5_readsOn : GoodIn wsX5_text (wsV RX5 88 RX5 yX5_readsOn wsX5_readsOn) := goodIn_app (goodIn_of _ (by decide +kernel)) ggX5_text_X5_readsOn
set_option maxRecDepth 20000 in
theorem ggX5_text_X5_readLine : GoodIn wsX5_text wsX5_readLine := goodIn_r _ [37, 38, 3, 1, 4, 39, 40, 41, 14, 42, 2, 16, 43, 44, 22, 23, 24, 25, 5, 26, 27, 28, 29, 30, 31, 32, 33, 7, 11, 12, 13, 15, 17, 18, 19, 20, 21, 45, 46, 47, 48, 49, 50, 51, 52, 53, 54, 55, 56, 57, 58, 59, 60, 61, 62, 63, 64, 65, 66, 67, 68, 69, 70, 71, 72, 73, 74, 75, 76] (by decide +kernel) (by decide +kernel)
set_option maxRecDepth 20000 in
theorem gX5_text_X5_readLine : GoodIn wsX5_text (wsV RX5 104 RX5 yX5_readLine wsX5_readLine) := goodIn_app (goodIn_of _ (by decide +kernel)) ggX5_text_X5_readLine
theorem dX5_text_0 : decode cX5_text 0 = .ok (.aload_n 0, 1) := by decide +kernel
theorem dX5_text_1 : decode cX5_text 1 = .ok (.iconst 0, 1) := by decide +kernel
theorem dX5_text_2 : decode cX5_text 2 = .ok (.putfield 54, 3) := by decide +kernel
theorem dX5_text_5 : decode cX5_text 5 = .ok (.aload_n 0, 1) := by decide +kernel
theorem dX5_text_6 : decode cX5_text 6 = .ok (.iconst 0, 1) := by decide +kernel
theorem dX5_text_7 : decode cX5_text 7 = .ok (.putfield 66, 3) := by decide +kernel
theorem dX5_text_10 : decode cX5_text 10 = .ok (.iconst 0, 1) := by decide +kernel
theorem dX5_text_11 : decode cX5_text 11 = .ok (.istore_n 1, 1) := by decide +kernel
theorem dX5_text_12 : decode cX5_text 12 = .ok (.iconst 0, 1) := by decide +kernel
theorem dX5_text_13 : decode cX5_text 13 = .ok (.istore_n 2, 1) := by decide +kernel
theorem dX5_text_14 : decode cX5_text 14 = .ok (.iload_n 2, 1) := by decide +kernel
theorem dX5_text_15 : decode cX5_text 15 = .ok (.bipush 40, 2) := by decide +kernel
theorem dX5_text_17 : decode cX5_text 17 = .ok (.if_icmp .ge 16, 3) := by decide +kernel
theorem dX5_text_20 : decode cX5_text 20 = .ok (.aload_n 0, 1) := by decide +kernel
theorem dX5_text_21 : decode cX5_text 21 = .ok (.getfield 13, 3) := by decide +kernel
theorem dX5_text_24 : decode cX5_text 24 = .ok (.iload_n 2, 1) := by decide +kernel
theorem dX5_text_25 : decode cX5_text 25 = .ok (.iconst 0, 1) := by decide +kernel
theorem dX5_text_26 : decode cX5_text 26 = .ok (.iastore, 1) := by decide +kernel
theorem dX5_text_27 : decode cX5_text 27 = .ok (.iinc 2 1, 3) := by decide +kernel
theorem dX5_text_30 : decode cX5_text 30 = .ok (.goto (-16), 3) := by decide +kernel
theorem dX5_text_33 : decode cX5_text 33 = .ok (.aload_n 0, 1) := by decide +kernel
theorem dX5_text_34 : decode cX5_text 34 = .ok (.invokevirtual 88, 3) := by decide +kernel
theorem dX5_text_37 : decode cX5_text 37 = .ok (.aload_n 0, 1) := by decide +kernel
theorem dX5_text_38 : decode cX5_text 38 = .ok (.getfield 54, 3) := by decide +kernel
theorem dX5_text_41 : decode cX5_text 41 = .ok (.ifCond .ne 20, 3) := by decide +kernel
theorem dX5_text_44 : decode cX5_text 44 = .ok (.aload_n 0, 1) := by decide +kernel
theorem dX5_text_45 : decode cX5_text 45 = .ok (.getfield 63, 3) := by decide +kernel
theorem dX5_text_48 : decode cX5_text 48 = .ok (.ifCond .eq 13, 3) := by decide +kernel
theorem dX5_text_51 : decode cX5_text 51 = .ok (.aload_n 0, 1) := by decide +kernel
theorem dX5_text_52 : decode cX5_text 52 = .ok (.invokevirtual 104, 3) := by decide +kernel
theorem dX5_text_55 : decode cX5_text 55 = .ok (.iinc 1 1, 3) := by decide +kernel
theorem dX5_text_58 : decode cX5_text 58 = .ok (.goto (-21), 3) := by decide +kernel
theorem dX5_text_61 : decode cX5_text 61 = .ok (.aload_n 0, 1) := by decide +kernel
theorem dX5_text_62 : decode cX5_text 62 = .ok (.iconst 0, 1) := by decide +kernel
theorem dX5_text_63 : decode cX5_text 63 = .ok (.putfield 50, 3) := by decide +kernel
theorem dX5_text_66 : decode cX5_text 66 = .ok (.aload_n 0, 1) := by decide +kernel
theorem dX5_text_67 : decode cX5_text 67 = .ok (.aload_n 0, 1) := by decide +kernel
theorem dX5_text_68 : decode cX5_text 68 = .ok (.getfield 54, 3) := by decide +kernel
theorem dX5_text_71 : decode cX5_text 71 = .ok (.putfield 107, 3) := by decide +kernel
theorem dX5_text_74 : decode cX5_text 74 = .ok (.aload_n 0, 1) := by decide +kernel
theorem dX5_text_75 : decode cX5_text 75 = .ok (.getfield 54, 3) := by decide +kernel
theorem dX5_text_78 : decode cX5_text 78 = .ok (.ifCond .le 11, 3) := by decide +kernel
theorem dX5_text_81 : decode cX5_text 81 = .ok (.bipush (-10), 2) := by decide +kernel
theorem dX5_text_83 : decode cX5_text 83 = .ok (.aload_n 0, 1) := by decide +kernel
theorem dX5_text_84 : decode cX5_text 84 = .ok (.getfield 60, 3) := by decide +kernel
theorem dX5_text_87 : decode cX5_text 87 = .ok (.isub, 1) := by decide +kernel
theorem dX5_text_88 : decode cX5_text 88 = .ok (.ireturn, 1) := by decide +kernel
theorem dX5_text_89 : decode cX5_text 89 = .ok (.iconst 0, 1) := by decide +kernel
theorem dX5_text_90 : decode cX5_text 90 = .ok (.istore_n 2, 1) := by decide +kernel
theorem dX5_text_91 : decode cX5_text 91 = .ok (.iload_n 2, 1) := by decide +kernel
theorem dX5_text_92 : decode cX5_text 92 = .ok (.bipush 40, 2) := by decide +kernel
theorem dX5_text_94 : decode cX5_text 94 = .ok (.if_icmp .ge 21, 3) := by decide +kernel
theorem dX5_text_97 : decode cX5_text 97 = .ok (.aload_n 0, 1) := by decide +kernel
theorem dX5_text_98 : decode cX5_text 98 = .ok (.getfield 7, 3) := by decide +kernel
theorem dX5_text_101 : decode cX5_text 101 = .ok (.iload_n 2, 1) := by decide +kernel
theorem dX5_text_102 : decode cX5_text 102 = .ok (.aload_n 0, 1) := by decide +kernel
theorem dX5_text_103 : decode cX5_text 103 = .ok (.getfield 13, 3) := by decide +kernel
theorem dX5_text_106 : decode cX5_text 106 = .ok (.iload_n 2, 1) := by decide +kernel
theorem dX5_text_107 : decode cX5_text 107 = .ok (.iaload, 1) := by decide +kernel
theorem dX5_text_108 : decode cX5_text 108 = .ok (.iastore, 1) := by decide +kernel
theorem dX5_text_109 : decode cX5_text 109 = .ok (.iinc 2 1, 3) := by decide +kernel
theorem dX5_text_112 : decode cX5_text 112 = .ok (.goto (-21), 3) := by decide +kernel
theorem dX5_text_115 : decode cX5_text 115 = .ok (.aload_n 0, 1) := by decide +kernel
theorem dX5_text_116 : decode cX5_text 116 = .ok (.iconst 0, 1) := by decide +kernel
theorem dX5_text_117 : decode cX5_text 117 = .ok (.putfield 110, 3) := by decide +kernel
theorem dX5_text_120 : decode cX5_text 120 = .ok (.aload_n 0, 1) := by decide +kernel
theorem dX5_text_121 : decode cX5_text 121 = .ok (.getfield 31, 3) := by decide +kernel
theorem dX5_text_124 : decode cX5_text 124 = .ok (.iconst 0, 1) := by decide +kernel
theorem dX5_text_125 : decode cX5_text 125 = .ok (.iconst 0, 1) := by decide +kernel
theorem dX5_text_126 : decode cX5_text 126 = .ok (.bastore, 1) := by decide +kernel
theorem dX5_text_127 : decode cX5_text 127 = .ok (.aload_n 0, 1) := by decide +kernel
theorem dX5_text_128 : decode cX5_text 128 = .ok (.getfield 31, 3) := by decide +kernel
theorem dX5_text_131 : decode cX5_text 131 = .ok (.iconst 1, 1) := by decide +kernel
theorem dX5_text_132 : decode cX5_text 132 = .ok (.iconst 0, 1) := by decide +kernel
theorem dX5_text_133 : decode cX5_text 133 = .ok (.bastore, 1) := by decide +kernel
theorem dX5_text_134 : decode cX5_text 134 = .ok (.iload_n 1, 1) := by decide +kernel
theorem dX5_text_135 : decode cX5_text 135 = .ok (.ireturn, 1) := by decide +kernel
theorem dX5_fault_0 : decode cX5_fault 0 = .ok (.aload_n 0, 1) := by decide +kernel
theorem dX5_fault_1 : decode cX5_fault 1 = .ok (.getfield 107, 3) := by decide +kernel
theorem dX5_fault_4 : decode cX5_fault 4 = .ok (.ireturn, 1) := by decide +kernel
set_option maxRecDepth 20000 in
theorem ggX5_isArm_X5_in : GoodIn wsX5_isArm wsX5_in := goodIn_r _ [5] (by decide +kernel) (by decide +kernel)
set_option maxRecDepth 20000 in
theorem gX5_isArm_X5_in : GoodIn wsX5_isArm (va_wsS RX5 46 yX5_in wsX5_in) := goodIn_app (goodIn_of _ (by decide +kernel)) ggX5_isArm_X5_in
theorem dX5_isArm_0 : decode cX5_isArm 0 = .ok (.iload_n 1, 1) := by decide +kernel
theorem dX5_isArm_1 : decode cX5_isArm 1 = .ok (.i2l, 1) := by decide +kernel
theorem dX5_isArm_2 : decode cX5_isArm 2 = .ok (.lconst 0, 1) := by decide +kernel
theorem dX5_isArm_3 : decode cX5_isArm 3 = .ok (.aload_n 0, 1) := by decide +kernel
theorem dX5_isArm_4 : decode cX5_isArm 4 = .ok (.getfield 7, 3) := by decide +kernel
theorem dX5_isArm_7 : decode cX5_isArm 7 = .ok (.bipush 20, 2) := by decide +kernel
theorem dX5_isArm_9 : decode cX5_isArm 9 = .ok (.iaload, 1) := by decide +kernel
theorem dX5_isArm_10 : decode cX5_isArm 10 = .ok (.iconst 1, 1) := by decide +kernel
theorem dX5_isArm_11 : decode cX5_isArm 11 = .ok (.isub, 1) := by decide +kernel
theorem dX5_isArm_12 : decode cX5_isArm 12 = .ok (.i2l, 1) := by decide +kernel
theorem dX5_isArm_13 : decode cX5_isArm 13 = .ok (.invokestatic 46, 3) := by decide +kernel
theorem dX5_isArm_16 : decode cX5_isArm 16 = .ok (.ireturn, 1) := by decide +kernel
set_option maxRecDepth 20000 in
theorem ggX5_isStroke_X5_in : GoodIn wsX5_isStroke wsX5_in := goodIn_r _ [5] (by decide +kernel) (by decide +kernel)
set_option maxRecDepth 20000 in
theorem gX5_isStroke_X5_in : GoodIn wsX5_isStroke (va_wsS RX5 46 yX5_in wsX5_in) := goodIn_app (goodIn_of _ (by decide +kernel)) ggX5_isStroke_X5_in
theorem dX5_isStroke_0 : decode cX5_isStroke 0 = .ok (.iload_n 1, 1) := by decide +kernel
theorem dX5_isStroke_1 : decode cX5_isStroke 1 = .ok (.i2l, 1) := by decide +kernel
theorem dX5_isStroke_2 : decode cX5_isStroke 2 = .ok (.lconst 0, 1) := by decide +kernel
theorem dX5_isStroke_3 : decode cX5_isStroke 3 = .ok (.aload_n 0, 1) := by decide +kernel
theorem dX5_isStroke_4 : decode cX5_isStroke 4 = .ok (.getfield 7, 3) := by decide +kernel
theorem dX5_isStroke_7 : decode cX5_isStroke 7 = .ok (.bipush 37, 2) := by decide +kernel
theorem dX5_isStroke_9 : decode cX5_isStroke 9 = .ok (.iaload, 1) := by decide +kernel
theorem dX5_isStroke_10 : decode cX5_isStroke 10 = .ok (.iconst 1, 1) := by decide +kernel
theorem dX5_isStroke_11 : decode cX5_isStroke 11 = .ok (.isub, 1) := by decide +kernel
theorem dX5_isStroke_12 : decode cX5_isStroke 12 = .ok (.i2l, 1) := by decide +kernel
theorem dX5_isStroke_13 : decode cX5_isStroke 13 = .ok (.invokestatic 46, 3) := by decide +kernel
theorem dX5_isStroke_16 : decode cX5_isStroke 16 = .ok (.ireturn, 1) := by decide +kernel
set_option maxRecDepth 20000 in
theorem ggX5_isLong_X5_in : GoodIn wsX5_isLong wsX5_in := goodIn_r _ [5] (by decide +kernel) (by decide +kernel)
set_option maxRecDepth 20000 in
theorem gX5_isLong_X5_in : GoodIn wsX5_isLong (va_wsS RX5 46 yX5_in wsX5_in) := goodIn_app (goodIn_of _ (by decide +kernel)) ggX5_isLong_X5_in
theorem dX5_isLong_0 : decode cX5_isLong 0 = .ok (.iload_n 0, 1) := by decide +kernel
theorem dX5_isLong_1 : decode cX5_isLong 1 = .ok (.i2l, 1) := by decide +kernel
theorem dX5_isLong_2 : decode cX5_isLong 2 = .ok (.lconst 0, 1) := by decide +kernel
theorem dX5_isLong_3 : decode cX5_isLong 3 = .ok (.ldc2_w 113, 3) := by decide +kernel
theorem dX5_isLong_6 : decode cX5_isLong 6 = .ok (.invokestatic 46, 3) := by decide +kernel
theorem dX5_isLong_9 : decode cX5_isLong 9 = .ok (.ireturn, 1) := by decide +kernel
set_option maxRecDepth 20000 in
theorem ggX5_isPlace_X5_in : GoodIn wsX5_isPlace wsX5_in := goodIn_r _ [6] (by decide +kernel) (by decide +kernel)
set_option maxRecDepth 20000 in
theorem gX5_isPlace_X5_in : GoodIn wsX5_isPlace (va_wsS RX5 46 yX5_in wsX5_in) := goodIn_app (goodIn_of _ (by decide +kernel)) ggX5_isPlace_X5_in
theorem dX5_isPlace_0 : decode cX5_isPlace 0 = .ok (.iload_n 0, 1) := by decide +kernel
theorem dX5_isPlace_1 : decode cX5_isPlace 1 = .ok (.i2l, 1) := by decide +kernel
theorem dX5_isPlace_2 : decode cX5_isPlace 2 = .ok (.ldc2_w 115, 3) := by decide +kernel
theorem dX5_isPlace_5 : decode cX5_isPlace 5 = .ok (.ldc2_w 117, 3) := by decide +kernel
theorem dX5_isPlace_8 : decode cX5_isPlace 8 = .ok (.invokestatic 46, 3) := by decide +kernel
theorem dX5_isPlace_11 : decode cX5_isPlace 11 = .ok (.ireturn, 1) := by decide +kernel
theorem dX5_playOn_0 : decode cX5_playOn 0 = .ok (.aload_n 0, 1) := by decide +kernel
theorem dX5_playOn_1 : decode cX5_playOn 1 = .ok (.getfield 7, 3) := by decide +kernel
theorem dX5_playOn_4 : decode cX5_playOn 4 = .ok (.iload_n 1, 1) := by decide +kernel
theorem dX5_playOn_5 : decode cX5_playOn 5 = .ok (.iconst 4, 1) := by decide +kernel
theorem dX5_playOn_6 : decode cX5_playOn 6 = .ok (.iadd, 1) := by decide +kernel
theorem dX5_playOn_7 : decode cX5_playOn 7 = .ok (.iload_n 2, 1) := by decide +kernel
theorem dX5_playOn_8 : decode cX5_playOn 8 = .ok (.iadd, 1) := by decide +kernel
theorem dX5_playOn_9 : decode cX5_playOn 9 = .ok (.iaload, 1) := by decide +kernel
theorem dX5_playOn_10 : decode cX5_playOn 10 = .ok (.aload_n 0, 1) := by decide +kernel
theorem dX5_playOn_11 : decode cX5_playOn 11 = .ok (.getfield 7, 3) := by decide +kernel
theorem dX5_playOn_14 : decode cX5_playOn 14 = .ok (.iload_n 1, 1) := by decide +kernel
theorem dX5_playOn_15 : decode cX5_playOn 15 = .ok (.iload_n 2, 1) := by decide +kernel
theorem dX5_playOn_16 : decode cX5_playOn 16 = .ok (.iadd, 1) := by decide +kernel
theorem dX5_playOn_17 : decode cX5_playOn 17 = .ok (.iaload, 1) := by decide +kernel
theorem dX5_playOn_18 : decode cX5_playOn 18 = .ok (.iconst 3, 1) := by decide +kernel
theorem dX5_playOn_19 : decode cX5_playOn 19 = .ok (.if_icmp .ne 17, 3) := by decide +kernel
theorem dX5_playOn_22 : decode cX5_playOn 22 = .ok (.aload_n 0, 1) := by decide +kernel
theorem dX5_playOn_23 : decode cX5_playOn 23 = .ok (.getfield 7, 3) := by decide +kernel
theorem dX5_playOn_26 : decode cX5_playOn 26 = .ok (.iload_n 1, 1) := by decide +kernel
theorem dX5_playOn_27 : decode cX5_playOn 27 = .ok (.bipush 12, 2) := by decide +kernel
theorem dX5_playOn_29 : decode cX5_playOn 29 = .ok (.iadd, 1) := by decide +kernel
theorem dX5_playOn_30 : decode cX5_playOn 30 = .ok (.iload_n 2, 1) := by decide +kernel
theorem dX5_playOn_31 : decode cX5_playOn 31 = .ok (.iadd, 1) := by decide +kernel
theorem dX5_playOn_32 : decode cX5_playOn 32 = .ok (.iaload, 1) := by decide +kernel
theorem dX5_playOn_33 : decode cX5_playOn 33 = .ok (.goto 4, 3) := by decide +kernel
theorem dX5_playOn_36 : decode cX5_playOn 36 = .ok (.iconst 0, 1) := by decide +kernel
theorem dX5_playOn_37 : decode cX5_playOn 37 = .ok (.iadd, 1) := by decide +kernel
theorem dX5_playOn_38 : decode cX5_playOn 38 = .ok (.ireturn, 1) := by decide +kernel
theorem dX5_leaderOn_0 : decode cX5_leaderOn 0 = .ok (.iload_n 2, 1) := by decide +kernel
theorem dX5_leaderOn_1 : decode cX5_leaderOn 1 = .ok (.ifCond .ne 15, 3) := by decide +kernel
theorem dX5_leaderOn_4 : decode cX5_leaderOn 4 = .ok (.aload_n 0, 1) := by decide +kernel
theorem dX5_leaderOn_5 : decode cX5_leaderOn 5 = .ok (.getfield 7, 3) := by decide +kernel
theorem dX5_leaderOn_8 : decode cX5_leaderOn 8 = .ok (.iload_n 1, 1) := by decide +kernel
theorem dX5_leaderOn_9 : decode cX5_leaderOn 9 = .ok (.bipush 38, 2) := by decide +kernel
theorem dX5_leaderOn_11 : decode cX5_leaderOn 11 = .ok (.iadd, 1) := by decide +kernel
theorem dX5_leaderOn_12 : decode cX5_leaderOn 12 = .ok (.iaload, 1) := by decide +kernel
theorem dX5_leaderOn_13 : decode cX5_leaderOn 13 = .ok (.goto 16, 3) := by decide +kernel
theorem dX5_leaderOn_16 : decode cX5_leaderOn 16 = .ok (.aload_n 0, 1) := by decide +kernel
theorem dX5_leaderOn_17 : decode cX5_leaderOn 17 = .ok (.getfield 7, 3) := by decide +kernel
theorem dX5_leaderOn_20 : decode cX5_leaderOn 20 = .ok (.iload_n 1, 1) := by decide +kernel
theorem dX5_leaderOn_21 : decode cX5_leaderOn 21 = .ok (.bipush 8, 2) := by decide +kernel
theorem dX5_leaderOn_23 : decode cX5_leaderOn 23 = .ok (.iadd, 1) := by decide +kernel
theorem dX5_leaderOn_24 : decode cX5_leaderOn 24 = .ok (.iload_n 2, 1) := by decide +kernel
theorem dX5_leaderOn_25 : decode cX5_leaderOn 25 = .ok (.iadd, 1) := by decide +kernel
theorem dX5_leaderOn_26 : decode cX5_leaderOn 26 = .ok (.iconst 1, 1) := by decide +kernel
theorem dX5_leaderOn_27 : decode cX5_leaderOn 27 = .ok (.isub, 1) := by decide +kernel
theorem dX5_leaderOn_28 : decode cX5_leaderOn 28 = .ok (.iaload, 1) := by decide +kernel
theorem dX5_leaderOn_29 : decode cX5_leaderOn 29 = .ok (.ireturn, 1) := by decide +kernel
set_option maxRecDepth 20000 in
theorem ggX5_movesOn_X5_leaderOn : GoodIn wsX5_movesOn wsX5_leaderOn := goodIn_r _ [6, 1, 14, 15, 16, 17, 18, 19, 20, 21, 22, 23, 24, 25, 26, 27, 28, 29, 30, 31, 32, 33, 34, 35, 36, 37] (by decide +kernel) (by decide +kernel)
set_option maxRecDepth 20000 in
theorem gX5_movesOn_X5_leaderOn : GoodIn wsX5_movesOn (wsV RX5 119 RX5 yX5_leaderOn wsX5_leaderOn) := goodIn_app (goodIn_of _ (by decide +kernel)) ggX5_movesOn_X5_leaderOn
set_option maxRecDepth 20000 in
theorem ggX5_movesOn_X5_playOn : GoodIn wsX5_movesOn wsX5_playOn := goodIn_r _ [10, 1, 14, 15, 16, 17, 18, 19, 20, 21, 22, 23, 24, 25, 26, 27, 28, 29, 30, 31, 32, 33, 34, 35, 36, 37] (by decide +kernel) (by decide +kernel)
set_option maxRecDepth 20000 in
theorem gX5_movesOn_X5_playOn : GoodIn wsX5_movesOn (wsV RX5 122 RX5 yX5_playOn wsX5_playOn) := goodIn_app (goodIn_of _ (by decide +kernel)) ggX5_movesOn_X5_playOn
set_option maxRecDepth 20000 in
theorem ggX5_movesOn_X5_amount : GoodIn wsX5_movesOn wsX5_amount := goodIn_r _ [13] (by decide +kernel) (by decide +kernel)
set_option maxRecDepth 20000 in
theorem gX5_movesOn_X5_amount : GoodIn wsX5_movesOn (va_wsS RX5 125 yX5_amount wsX5_amount) := goodIn_app (goodIn_of _ (by decide +kernel)) ggX5_movesOn_X5_amount
theorem dX5_movesOn_0 : decode cX5_movesOn 0 = .ok (.aload_n 0, 1) := by decide +kernel
theorem dX5_movesOn_1 : decode cX5_movesOn 1 = .ok (.iload_n 1, 1) := by decide +kernel
theorem dX5_movesOn_2 : decode cX5_movesOn 2 = .ok (.iload_n 2, 1) := by decide +kernel
theorem dX5_movesOn_3 : decode cX5_movesOn 3 = .ok (.invokevirtual 119, 3) := by decide +kernel
theorem dX5_movesOn_6 : decode cX5_movesOn 6 = .ok (.aload_n 0, 1) := by decide +kernel
theorem dX5_movesOn_7 : decode cX5_movesOn 7 = .ok (.getfield 7, 3) := by decide +kernel
theorem dX5_movesOn_10 : decode cX5_movesOn 10 = .ok (.iload_n 1, 1) := by decide +kernel
theorem dX5_movesOn_11 : decode cX5_movesOn 11 = .ok (.bipush 8, 2) := by decide +kernel
theorem dX5_movesOn_13 : decode cX5_movesOn 13 = .ok (.iadd, 1) := by decide +kernel
theorem dX5_movesOn_14 : decode cX5_movesOn 14 = .ok (.iload_n 2, 1) := by decide +kernel
theorem dX5_movesOn_15 : decode cX5_movesOn 15 = .ok (.iadd, 1) := by decide +kernel
theorem dX5_movesOn_16 : decode cX5_movesOn 16 = .ok (.iaload, 1) := by decide +kernel
theorem dX5_movesOn_17 : decode cX5_movesOn 17 = .ok (.isub, 1) := by decide +kernel
theorem dX5_movesOn_18 : decode cX5_movesOn 18 = .ok (.istore_n 3, 1) := by decide +kernel
theorem dX5_movesOn_19 : decode cX5_movesOn 19 = .ok (.aload_n 0, 1) := by decide +kernel
theorem dX5_movesOn_20 : decode cX5_movesOn 20 = .ok (.iload_n 1, 1) := by decide +kernel
theorem dX5_movesOn_21 : decode cX5_movesOn 21 = .ok (.iload_n 2, 1) := by decide +kernel
theorem dX5_movesOn_22 : decode cX5_movesOn 22 = .ok (.invokevirtual 122, 3) := by decide +kernel
theorem dX5_movesOn_25 : decode cX5_movesOn 25 = .ok (.istore 4, 2) := by decide +kernel
theorem dX5_movesOn_27 : decode cX5_movesOn 27 = .ok (.iload_n 3, 1) := by decide +kernel
theorem dX5_movesOn_28 : decode cX5_movesOn 28 = .ok (.iload 4, 2) := by decide +kernel
theorem dX5_movesOn_30 : decode cX5_movesOn 30 = .ok (.if_icmp .le 10, 3) := by decide +kernel
theorem dX5_movesOn_33 : decode cX5_movesOn 33 = .ok (.iload_n 3, 1) := by decide +kernel
theorem dX5_movesOn_34 : decode cX5_movesOn 34 = .ok (.iload 4, 2) := by decide +kernel
theorem dX5_movesOn_36 : decode cX5_movesOn 36 = .ok (.isub, 1) := by decide +kernel
theorem dX5_movesOn_37 : decode cX5_movesOn 37 = .ok (.goto 18, 3) := by decide +kernel
theorem dX5_movesOn_40 : decode cX5_movesOn 40 = .ok (.iload_n 3, 1) := by decide +kernel
theorem dX5_movesOn_41 : decode cX5_movesOn 41 = .ok (.iload 4, 2) := by decide +kernel
theorem dX5_movesOn_43 : decode cX5_movesOn 43 = .ok (.ineg, 1) := by decide +kernel
theorem dX5_movesOn_44 : decode cX5_movesOn 44 = .ok (.if_icmp .ge 10, 3) := by decide +kernel
theorem dX5_movesOn_47 : decode cX5_movesOn 47 = .ok (.iload_n 3, 1) := by decide +kernel
theorem dX5_movesOn_48 : decode cX5_movesOn 48 = .ok (.iload 4, 2) := by decide +kernel
theorem dX5_movesOn_50 : decode cX5_movesOn 50 = .ok (.iadd, 1) := by decide +kernel
theorem dX5_movesOn_51 : decode cX5_movesOn 51 = .ok (.goto 4, 3) := by decide +kernel
theorem dX5_movesOn_54 : decode cX5_movesOn 54 = .ok (.iconst 0, 1) := by decide +kernel
theorem dX5_movesOn_55 : decode cX5_movesOn 55 = .ok (.istore 5, 2) := by decide +kernel
theorem dX5_movesOn_57 : decode cX5_movesOn 57 = .ok (.aload_n 0, 1) := by decide +kernel
theorem dX5_movesOn_58 : decode cX5_movesOn 58 = .ok (.getfield 7, 3) := by decide +kernel
theorem dX5_movesOn_61 : decode cX5_movesOn 61 = .ok (.iload_n 1, 1) := by decide +kernel
theorem dX5_movesOn_62 : decode cX5_movesOn 62 = .ok (.iload_n 2, 1) := by decide +kernel
theorem dX5_movesOn_63 : decode cX5_movesOn 63 = .ok (.iadd, 1) := by decide +kernel
theorem dX5_movesOn_64 : decode cX5_movesOn 64 = .ok (.iaload, 1) := by decide +kernel
theorem dX5_movesOn_65 : decode cX5_movesOn 65 = .ok (.istore 6, 2) := by decide +kernel
theorem dX5_movesOn_67 : decode cX5_movesOn 67 = .ok (.iload 6, 2) := by decide +kernel
theorem dX5_movesOn_69 : decode cX5_movesOn 69 = .ok (.iconst 1, 1) := by decide +kernel
theorem dX5_movesOn_70 : decode cX5_movesOn 70 = .ok (.if_icmp .ne 29, 3) := by decide +kernel
theorem dX5_movesOn_73 : decode cX5_movesOn 73 = .ok (.iload 5, 2) := by decide +kernel
theorem dX5_movesOn_75 : decode cX5_movesOn 75 = .ok (.ifCond .le 10, 3) := by decide +kernel
theorem dX5_movesOn_78 : decode cX5_movesOn 78 = .ok (.iload 5, 2) := by decide +kernel
theorem dX5_movesOn_80 : decode cX5_movesOn 80 = .ok (.iconst 1, 1) := by decide +kernel
theorem dX5_movesOn_81 : decode cX5_movesOn 81 = .ok (.isub, 1) := by decide +kernel
theorem dX5_movesOn_82 : decode cX5_movesOn 82 = .ok (.goto 16, 3) := by decide +kernel
theorem dX5_movesOn_85 : decode cX5_movesOn 85 = .ok (.iload 5, 2) := by decide +kernel
theorem dX5_movesOn_87 : decode cX5_movesOn 87 = .ok (.ifCond .ge 10, 3) := by decide +kernel
theorem dX5_movesOn_90 : decode cX5_movesOn 90 = .ok (.iload 5, 2) := by decide +kernel
theorem dX5_movesOn_92 : decode cX5_movesOn 92 = .ok (.iconst 1, 1) := by decide +kernel
theorem dX5_movesOn_93 : decode cX5_movesOn 93 = .ok (.iadd, 1) := by decide +kernel
theorem dX5_movesOn_94 : decode cX5_movesOn 94 = .ok (.goto 4, 3) := by decide +kernel
theorem dX5_movesOn_97 : decode cX5_movesOn 97 = .ok (.iconst 0, 1) := by decide +kernel
theorem dX5_movesOn_98 : decode cX5_movesOn 98 = .ok (.ireturn, 1) := by decide +kernel
theorem dX5_movesOn_99 : decode cX5_movesOn 99 = .ok (.iload 6, 2) := by decide +kernel
theorem dX5_movesOn_101 : decode cX5_movesOn 101 = .ok (.iconst 1, 1) := by decide +kernel
theorem dX5_movesOn_102 : decode cX5_movesOn 102 = .ok (.if_icmp .le 16, 3) := by decide +kernel
theorem dX5_movesOn_105 : decode cX5_movesOn 105 = .ok (.iload 5, 2) := by decide +kernel
theorem dX5_movesOn_107 : decode cX5_movesOn 107 = .ok (.invokestatic 125, 3) := by decide +kernel
theorem dX5_movesOn_110 : decode cX5_movesOn 110 = .ok (.iconst 1, 1) := by decide +kernel
theorem dX5_movesOn_111 : decode cX5_movesOn 111 = .ok (.if_icmp .ne 7, 3) := by decide +kernel
theorem dX5_movesOn_114 : decode cX5_movesOn 114 = .ok (.iconst 0, 1) := by decide +kernel
theorem dX5_movesOn_115 : decode cX5_movesOn 115 = .ok (.goto 5, 3) := by decide +kernel
theorem dX5_movesOn_118 : decode cX5_movesOn 118 = .ok (.iload 5, 2) := by decide +kernel
theorem dX5_movesOn_120 : decode cX5_movesOn 120 = .ok (.ireturn, 1) := by decide +kernel
set_option maxRecDepth 20000 in
theorem ggX5_armsOn_X5_movesOn : GoodIn wsX5_armsOn wsX5_movesOn := goodIn_r _ [8, 1, 9, 10, 11, 7, 12, 13, 14, 15, 16, 17, 18, 19, 20, 21, 22, 23, 24, 25, 26, 27, 28, 29, 30, 31, 32, 33, 34, 35, 36, 37, 38, 39, 40, 41, 42, 43] (by decide +kernel) (by decide +kernel)
set_option maxRecDepth 20000 in
theorem gX5_armsOn_X5_movesOn : GoodIn wsX5_armsOn (wsV RX5 128 RX5 yX5_movesOn wsX5_movesOn) := goodIn_app (goodIn_of _ (by decide +kernel)) ggX5_armsOn_X5_movesOn
set_option maxRecDepth 20000 in
theorem ggX5_armsOn_X5_amount : GoodIn wsX5_armsOn wsX5_amount := goodIn_r _ [19] (by decide +kernel) (by decide +kernel)
set_option maxRecDepth 20000 in
theorem gX5_armsOn_X5_amount : GoodIn wsX5_armsOn (va_wsS RX5 125 yX5_amount wsX5_amount) := goodIn_app (goodIn_of _ (by decide +kernel)) ggX5_armsOn_X5_amount
theorem dX5_armsOn_0 : decode cX5_armsOn 0 = .ok (.iconst 0, 1) := by decide +kernel
theorem dX5_armsOn_1 : decode cX5_armsOn 1 = .ok (.istore_n 2, 1) := by decide +kernel
theorem dX5_armsOn_2 : decode cX5_armsOn 2 = .ok (.iload_n 2, 1) := by decide +kernel
theorem dX5_armsOn_3 : decode cX5_armsOn 3 = .ok (.aload_n 0, 1) := by decide +kernel
theorem dX5_armsOn_4 : decode cX5_armsOn 4 = .ok (.getfield 7, 3) := by decide +kernel
theorem dX5_armsOn_7 : decode cX5_armsOn 7 = .ok (.iload_n 1, 1) := by decide +kernel
theorem dX5_armsOn_8 : decode cX5_armsOn 8 = .ok (.bipush 20, 2) := by decide +kernel
