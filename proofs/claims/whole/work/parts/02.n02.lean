theorem dX0_init_0 : decode cX0_init 0 = .ok (.aload_n 0, 1) := by decide +kernel
theorem dX0_init_1 : decode cX0_init 1 = .ok (.invokespecial 3, 3) := by decide +kernel
theorem dX0_init_4 : decode cX0_init 4 = .ok (.aload_n 0, 1) := by decide +kernel
theorem dX0_init_5 : decode cX0_init 5 = .ok (.iconst 4, 1) := by decide +kernel
theorem dX0_init_6 : decode cX0_init 6 = .ok (.newarray .int, 2) := by decide +kernel
theorem dX0_init_8 : decode cX0_init 8 = .ok (.putfield 9, 3) := by decide +kernel
theorem dX0_init_11 : decode cX0_init 11 = .ok (.aload_n 0, 1) := by decide +kernel
theorem dX0_init_12 : decode cX0_init 12 = .ok (.iconst 4, 1) := by decide +kernel
theorem dX0_init_13 : decode cX0_init 13 = .ok (.newarray .int, 2) := by decide +kernel
theorem dX0_init_15 : decode cX0_init 15 = .ok (.putfield 15, 3) := by decide +kernel
theorem dX0_init_18 : decode cX0_init 18 = .ok (.aload_n 0, 1) := by decide +kernel
theorem dX0_init_19 : decode cX0_init 19 = .ok (.iconst 4, 1) := by decide +kernel
theorem dX0_init_20 : decode cX0_init 20 = .ok (.newarray .int, 2) := by decide +kernel
theorem dX0_init_22 : decode cX0_init 22 = .ok (.putfield 18, 3) := by decide +kernel
theorem dX0_init_25 : decode cX0_init 25 = .ok (.aload_n 0, 1) := by decide +kernel
theorem dX0_init_26 : decode cX0_init 26 = .ok (.iconst 4, 1) := by decide +kernel
theorem dX0_init_27 : decode cX0_init 27 = .ok (.newarray .int, 2) := by decide +kernel
theorem dX0_init_29 : decode cX0_init 29 = .ok (.putfield 21, 3) := by decide +kernel
theorem dX0_init_32 : decode cX0_init 32 = .ok (.aload_n 0, 1) := by decide +kernel
theorem dX0_init_33 : decode cX0_init 33 = .ok (.iconst 4, 1) := by decide +kernel
theorem dX0_init_34 : decode cX0_init 34 = .ok (.newarray .int, 2) := by decide +kernel
theorem dX0_init_36 : decode cX0_init 36 = .ok (.putfield 24, 3) := by decide +kernel
theorem dX0_init_39 : decode cX0_init 39 = .ok (.aload_n 0, 1) := by decide +kernel
theorem dX0_init_40 : decode cX0_init 40 = .ok (.bipush 16, 2) := by decide +kernel
theorem dX0_init_42 : decode cX0_init 42 = .ok (.newarray .int, 2) := by decide +kernel
theorem dX0_init_44 : decode cX0_init 44 = .ok (.putfield 27, 3) := by decide +kernel
theorem dX0_init_47 : decode cX0_init 47 = .ok (.aload_n 0, 1) := by decide +kernel
theorem dX0_init_48 : decode cX0_init 48 = .ok (.iconst 0, 1) := by decide +kernel
theorem dX0_init_49 : decode cX0_init 49 = .ok (.putfield 30, 3) := by decide +kernel
theorem dX0_init_52 : decode cX0_init 52 = .ok (.aload_n 0, 1) := by decide +kernel
theorem dX0_init_53 : decode cX0_init 53 = .ok (.iconst 0, 1) := by decide +kernel
theorem dX0_init_54 : decode cX0_init 54 = .ok (.putfield 34, 3) := by decide +kernel
theorem dX0_init_57 : decode cX0_init 57 = .ok (.aload_n 0, 1) := by decide +kernel
theorem dX0_init_58 : decode cX0_init 58 = .ok (.iconst 0, 1) := by decide +kernel
theorem dX0_init_59 : decode cX0_init 59 = .ok (.putfield 37, 3) := by decide +kernel
theorem dX0_init_62 : decode cX0_init 62 = .ok (.aload_n 0, 1) := by decide +kernel
theorem dX0_init_63 : decode cX0_init 63 = .ok (.iconst 0, 1) := by decide +kernel
theorem dX0_init_64 : decode cX0_init 64 = .ok (.putfield 40, 3) := by decide +kernel
theorem dX0_init_67 : decode cX0_init 67 = .ok (.aload_n 0, 1) := by decide +kernel
theorem dX0_init_68 : decode cX0_init 68 = .ok (.iconst 0, 1) := by decide +kernel
theorem dX0_init_69 : decode cX0_init 69 = .ok (.putfield 43, 3) := by decide +kernel
theorem dX0_init_72 : decode cX0_init 72 = .ok (.aload_n 0, 1) := by decide +kernel
theorem dX0_init_73 : decode cX0_init 73 = .ok (.iconst 0, 1) := by decide +kernel
theorem dX0_init_74 : decode cX0_init 74 = .ok (.putfield 46, 3) := by decide +kernel
theorem dX0_init_77 : decode cX0_init 77 = .ok (.return_, 1) := by decide +kernel
set_option maxRecDepth 20000 in
theorem ggX0_empty_X0_clearTallies : GoodIn wsX0_empty wsX0_clearTallies := goodIn_r _ [9, 10, 11, 12, 13, 14, 15, 16, 17, 18, 19, 20, 21, 22, 23] (by decide +kernel) (by decide +kernel)
set_option maxRecDepth 20000 in
theorem gX0_empty_X0_clearTallies : GoodIn wsX0_empty (wsV RX0 49 RX0 yX0_clearTallies wsX0_clearTallies) := goodIn_app (goodIn_of _ (by decide +kernel)) ggX0_empty_X0_clearTallies
theorem dX0_empty_0 : decode cX0_empty 0 = .ok (.aload_n 0, 1) := by decide +kernel
theorem dX0_empty_1 : decode cX0_empty 1 = .ok (.iconst 0, 1) := by decide +kernel
theorem dX0_empty_2 : decode cX0_empty 2 = .ok (.putfield 30, 3) := by decide +kernel
theorem dX0_empty_5 : decode cX0_empty 5 = .ok (.aload_n 0, 1) := by decide +kernel
theorem dX0_empty_6 : decode cX0_empty 6 = .ok (.iconst 0, 1) := by decide +kernel
theorem dX0_empty_7 : decode cX0_empty 7 = .ok (.putfield 34, 3) := by decide +kernel
theorem dX0_empty_10 : decode cX0_empty 10 = .ok (.aload_n 0, 1) := by decide +kernel
theorem dX0_empty_11 : decode cX0_empty 11 = .ok (.iconst 0, 1) := by decide +kernel
theorem dX0_empty_12 : decode cX0_empty 12 = .ok (.putfield 37, 3) := by decide +kernel
theorem dX0_empty_15 : decode cX0_empty 15 = .ok (.aload_n 0, 1) := by decide +kernel
theorem dX0_empty_16 : decode cX0_empty 16 = .ok (.iconst 0, 1) := by decide +kernel
theorem dX0_empty_17 : decode cX0_empty 17 = .ok (.putfield 40, 3) := by decide +kernel
theorem dX0_empty_20 : decode cX0_empty 20 = .ok (.aload_n 0, 1) := by decide +kernel
theorem dX0_empty_21 : decode cX0_empty 21 = .ok (.invokevirtual 49, 3) := by decide +kernel
theorem dX0_empty_24 : decode cX0_empty 24 = .ok (.return_, 1) := by decide +kernel
theorem dX0_clearTallies_0 : decode cX0_clearTallies 0 = .ok (.aload_n 0, 1) := by decide +kernel
theorem dX0_clearTallies_1 : decode cX0_clearTallies 1 = .ok (.iconst 0, 1) := by decide +kernel
theorem dX0_clearTallies_2 : decode cX0_clearTallies 2 = .ok (.putfield 43, 3) := by decide +kernel
theorem dX0_clearTallies_5 : decode cX0_clearTallies 5 = .ok (.aload_n 0, 1) := by decide +kernel
theorem dX0_clearTallies_6 : decode cX0_clearTallies 6 = .ok (.iconst 0, 1) := by decide +kernel
theorem dX0_clearTallies_7 : decode cX0_clearTallies 7 = .ok (.putfield 46, 3) := by decide +kernel
theorem dX0_clearTallies_10 : decode cX0_clearTallies 10 = .ok (.return_, 1) := by decide +kernel
set_option maxRecDepth 20000 in
theorem ggX0_copyFrom_X0_clearTallies : GoodIn wsX0_copyFrom wsX0_clearTallies := goodIn_r _ [15, 16, 17, 18, 19, 20, 21, 22, 23, 24, 25, 26, 27, 28, 29] (by decide +kernel) (by decide +kernel)
set_option maxRecDepth 20000 in
theorem gX0_copyFrom_X0_clearTallies : GoodIn wsX0_copyFrom (wsV RX0 49 RX0 yX0_clearTallies wsX0_clearTallies) := goodIn_app (goodIn_of _ (by decide +kernel)) ggX0_copyFrom_X0_clearTallies
theorem dX0_copyFrom_0 : decode cX0_copyFrom 0 = .ok (.aload_n 0, 1) := by decide +kernel
theorem dX0_copyFrom_1 : decode cX0_copyFrom 1 = .ok (.aload_n 1, 1) := by decide +kernel
theorem dX0_copyFrom_2 : decode cX0_copyFrom 2 = .ok (.getfield 30, 3) := by decide +kernel
theorem dX0_copyFrom_5 : decode cX0_copyFrom 5 = .ok (.putfield 30, 3) := by decide +kernel
theorem dX0_copyFrom_8 : decode cX0_copyFrom 8 = .ok (.aload_n 0, 1) := by decide +kernel
theorem dX0_copyFrom_9 : decode cX0_copyFrom 9 = .ok (.aload_n 1, 1) := by decide +kernel
theorem dX0_copyFrom_10 : decode cX0_copyFrom 10 = .ok (.getfield 34, 3) := by decide +kernel
theorem dX0_copyFrom_13 : decode cX0_copyFrom 13 = .ok (.putfield 34, 3) := by decide +kernel
theorem dX0_copyFrom_16 : decode cX0_copyFrom 16 = .ok (.aload_n 0, 1) := by decide +kernel
theorem dX0_copyFrom_17 : decode cX0_copyFrom 17 = .ok (.aload_n 1, 1) := by decide +kernel
theorem dX0_copyFrom_18 : decode cX0_copyFrom 18 = .ok (.getfield 37, 3) := by decide +kernel
theorem dX0_copyFrom_21 : decode cX0_copyFrom 21 = .ok (.putfield 37, 3) := by decide +kernel
theorem dX0_copyFrom_24 : decode cX0_copyFrom 24 = .ok (.aload_n 0, 1) := by decide +kernel
theorem dX0_copyFrom_25 : decode cX0_copyFrom 25 = .ok (.aload_n 1, 1) := by decide +kernel
theorem dX0_copyFrom_26 : decode cX0_copyFrom 26 = .ok (.getfield 40, 3) := by decide +kernel
theorem dX0_copyFrom_29 : decode cX0_copyFrom 29 = .ok (.putfield 40, 3) := by decide +kernel
theorem dX0_copyFrom_32 : decode cX0_copyFrom 32 = .ok (.iconst 0, 1) := by decide +kernel
theorem dX0_copyFrom_33 : decode cX0_copyFrom 33 = .ok (.istore_n 2, 1) := by decide +kernel
theorem dX0_copyFrom_34 : decode cX0_copyFrom 34 = .ok (.iload_n 2, 1) := by decide +kernel
theorem dX0_copyFrom_35 : decode cX0_copyFrom 35 = .ok (.aload_n 0, 1) := by decide +kernel
theorem dX0_copyFrom_36 : decode cX0_copyFrom 36 = .ok (.getfield 30, 3) := by decide +kernel
theorem dX0_copyFrom_39 : decode cX0_copyFrom 39 = .ok (.if_icmp .ge 69, 3) := by decide +kernel
theorem dX0_copyFrom_42 : decode cX0_copyFrom 42 = .ok (.aload_n 0, 1) := by decide +kernel
theorem dX0_copyFrom_43 : decode cX0_copyFrom 43 = .ok (.getfield 9, 3) := by decide +kernel
theorem dX0_copyFrom_46 : decode cX0_copyFrom 46 = .ok (.iload_n 2, 1) := by decide +kernel
theorem dX0_copyFrom_47 : decode cX0_copyFrom 47 = .ok (.aload_n 1, 1) := by decide +kernel
theorem dX0_copyFrom_48 : decode cX0_copyFrom 48 = .ok (.getfield 9, 3) := by decide +kernel
theorem dX0_copyFrom_51 : decode cX0_copyFrom 51 = .ok (.iload_n 2, 1) := by decide +kernel
theorem dX0_copyFrom_52 : decode cX0_copyFrom 52 = .ok (.iaload, 1) := by decide +kernel
theorem dX0_copyFrom_53 : decode cX0_copyFrom 53 = .ok (.iastore, 1) := by decide +kernel
theorem dX0_copyFrom_54 : decode cX0_copyFrom 54 = .ok (.aload_n 0, 1) := by decide +kernel
theorem dX0_copyFrom_55 : decode cX0_copyFrom 55 = .ok (.getfield 15, 3) := by decide +kernel
theorem dX0_copyFrom_58 : decode cX0_copyFrom 58 = .ok (.iload_n 2, 1) := by decide +kernel
theorem dX0_copyFrom_59 : decode cX0_copyFrom 59 = .ok (.aload_n 1, 1) := by decide +kernel
theorem dX0_copyFrom_60 : decode cX0_copyFrom 60 = .ok (.getfield 15, 3) := by decide +kernel
theorem dX0_copyFrom_63 : decode cX0_copyFrom 63 = .ok (.iload_n 2, 1) := by decide +kernel
theorem dX0_copyFrom_64 : decode cX0_copyFrom 64 = .ok (.iaload, 1) := by decide +kernel
theorem dX0_copyFrom_65 : decode cX0_copyFrom 65 = .ok (.iastore, 1) := by decide +kernel
theorem dX0_copyFrom_66 : decode cX0_copyFrom 66 = .ok (.aload_n 0, 1) := by decide +kernel
theorem dX0_copyFrom_67 : decode cX0_copyFrom 67 = .ok (.getfield 18, 3) := by decide +kernel
theorem dX0_copyFrom_70 : decode cX0_copyFrom 70 = .ok (.iload_n 2, 1) := by decide +kernel
theorem dX0_copyFrom_71 : decode cX0_copyFrom 71 = .ok (.aload_n 1, 1) := by decide +kernel
theorem dX0_copyFrom_72 : decode cX0_copyFrom 72 = .ok (.getfield 18, 3) := by decide +kernel
theorem dX0_copyFrom_75 : decode cX0_copyFrom 75 = .ok (.iload_n 2, 1) := by decide +kernel
theorem dX0_copyFrom_76 : decode cX0_copyFrom 76 = .ok (.iaload, 1) := by decide +kernel
theorem dX0_copyFrom_77 : decode cX0_copyFrom 77 = .ok (.iastore, 1) := by decide +kernel
theorem dX0_copyFrom_78 : decode cX0_copyFrom 78 = .ok (.aload_n 0, 1) := by decide +kernel
theorem dX0_copyFrom_79 : decode cX0_copyFrom 79 = .ok (.getfield 21, 3) := by decide +kernel
theorem dX0_copyFrom_82 : decode cX0_copyFrom 82 = .ok (.iload_n 2, 1) := by decide +kernel
theorem dX0_copyFrom_83 : decode cX0_copyFrom 83 = .ok (.aload_n 1, 1) := by decide +kernel
theorem dX0_copyFrom_84 : decode cX0_copyFrom 84 = .ok (.getfield 21, 3) := by decide +kernel
theorem dX0_copyFrom_87 : decode cX0_copyFrom 87 = .ok (.iload_n 2, 1) := by decide +kernel
theorem dX0_copyFrom_88 : decode cX0_copyFrom 88 = .ok (.iaload, 1) := by decide +kernel
theorem dX0_copyFrom_89 : decode cX0_copyFrom 89 = .ok (.iastore, 1) := by decide +kernel
theorem dX0_copyFrom_90 : decode cX0_copyFrom 90 = .ok (.aload_n 0, 1) := by decide +kernel
theorem dX0_copyFrom_91 : decode cX0_copyFrom 91 = .ok (.getfield 24, 3) := by decide +kernel
theorem dX0_copyFrom_94 : decode cX0_copyFrom 94 = .ok (.iload_n 2, 1) := by decide +kernel
theorem dX0_copyFrom_95 : decode cX0_copyFrom 95 = .ok (.aload_n 1, 1) := by decide +kernel
theorem dX0_copyFrom_96 : decode cX0_copyFrom 96 = .ok (.getfield 24, 3) := by decide +kernel
theorem dX0_copyFrom_99 : decode cX0_copyFrom 99 = .ok (.iload_n 2, 1) := by decide +kernel
theorem dX0_copyFrom_100 : decode cX0_copyFrom 100 = .ok (.iaload, 1) := by decide +kernel
theorem dX0_copyFrom_101 : decode cX0_copyFrom 101 = .ok (.iastore, 1) := by decide +kernel
theorem dX0_copyFrom_102 : decode cX0_copyFrom 102 = .ok (.iinc 2 1, 3) := by decide +kernel
theorem dX0_copyFrom_105 : decode cX0_copyFrom 105 = .ok (.goto (-71), 3) := by decide +kernel
theorem dX0_copyFrom_108 : decode cX0_copyFrom 108 = .ok (.iconst 0, 1) := by decide +kernel
theorem dX0_copyFrom_109 : decode cX0_copyFrom 109 = .ok (.istore_n 2, 1) := by decide +kernel
theorem dX0_copyFrom_110 : decode cX0_copyFrom 110 = .ok (.iload_n 2, 1) := by decide +kernel
theorem dX0_copyFrom_111 : decode cX0_copyFrom 111 = .ok (.aload_n 0, 1) := by decide +kernel
theorem dX0_copyFrom_112 : decode cX0_copyFrom 112 = .ok (.getfield 34, 3) := by decide +kernel
theorem dX0_copyFrom_115 : decode cX0_copyFrom 115 = .ok (.if_icmp .ge 21, 3) := by decide +kernel
theorem dX0_copyFrom_118 : decode cX0_copyFrom 118 = .ok (.aload_n 0, 1) := by decide +kernel
theorem dX0_copyFrom_119 : decode cX0_copyFrom 119 = .ok (.getfield 27, 3) := by decide +kernel
theorem dX0_copyFrom_122 : decode cX0_copyFrom 122 = .ok (.iload_n 2, 1) := by decide +kernel
theorem dX0_copyFrom_123 : decode cX0_copyFrom 123 = .ok (.aload_n 1, 1) := by decide +kernel
theorem dX0_copyFrom_124 : decode cX0_copyFrom 124 = .ok (.getfield 27, 3) := by decide +kernel
theorem dX0_copyFrom_127 : decode cX0_copyFrom 127 = .ok (.iload_n 2, 1) := by decide +kernel
theorem dX0_copyFrom_128 : decode cX0_copyFrom 128 = .ok (.iaload, 1) := by decide +kernel
theorem dX0_copyFrom_129 : decode cX0_copyFrom 129 = .ok (.iastore, 1) := by decide +kernel
theorem dX0_copyFrom_130 : decode cX0_copyFrom 130 = .ok (.iinc 2 1, 3) := by decide +kernel
theorem dX0_copyFrom_133 : decode cX0_copyFrom 133 = .ok (.goto (-23), 3) := by decide +kernel
theorem dX0_copyFrom_136 : decode cX0_copyFrom 136 = .ok (.aload_n 0, 1) := by decide +kernel
theorem dX0_copyFrom_137 : decode cX0_copyFrom 137 = .ok (.invokevirtual 49, 3) := by decide +kernel
theorem dX0_copyFrom_140 : decode cX0_copyFrom 140 = .ok (.return_, 1) := by decide +kernel
set_option maxRecDepth 20000 in
theorem ggX0_appendArm_X0_lastPlace : GoodIn wsX0_appendArm wsX0_lastPlace := goodIn_r _ [11, 1, 12, 4, 13, 14, 15, 16, 17, 18, 19, 20, 21, 22, 23, 24] (by decide +kernel) (by decide +kernel)
set_option maxRecDepth 20000 in
theorem gX0_appendArm_X0_lastPlace : GoodIn wsX0_appendArm (wsV RX0 52 RX0 yX0_lastPlace wsX0_lastPlace) := goodIn_app (goodIn_of _ (by decide +kernel)) ggX0_appendArm_X0_lastPlace
theorem dX0_appendArm_0 : decode cX0_appendArm 0 = .ok (.aload_n 0, 1) := by decide +kernel
theorem dX0_appendArm_1 : decode cX0_appendArm 1 = .ok (.getfield 30, 3) := by decide +kernel
theorem dX0_appendArm_4 : decode cX0_appendArm 4 = .ok (.iconst 4, 1) := by decide +kernel
theorem dX0_appendArm_5 : decode cX0_appendArm 5 = .ok (.if_icmp .lt 5, 3) := by decide +kernel
theorem dX0_appendArm_8 : decode cX0_appendArm 8 = .ok (.iconst 0, 1) := by decide +kernel
theorem dX0_appendArm_9 : decode cX0_appendArm 9 = .ok (.ireturn, 1) := by decide +kernel
theorem dX0_appendArm_10 : decode cX0_appendArm 10 = .ok (.aload_n 0, 1) := by decide +kernel
theorem dX0_appendArm_11 : decode cX0_appendArm 11 = .ok (.invokevirtual 52, 3) := by decide +kernel
theorem dX0_appendArm_14 : decode cX0_appendArm 14 = .ok (.istore_n 3, 1) := by decide +kernel
theorem dX0_appendArm_15 : decode cX0_appendArm 15 = .ok (.aload_n 0, 1) := by decide +kernel
theorem dX0_appendArm_16 : decode cX0_appendArm 16 = .ok (.getfield 9, 3) := by decide +kernel
theorem dX0_appendArm_19 : decode cX0_appendArm 19 = .ok (.aload_n 0, 1) := by decide +kernel
theorem dX0_appendArm_20 : decode cX0_appendArm 20 = .ok (.getfield 30, 3) := by decide +kernel
theorem dX0_appendArm_23 : decode cX0_appendArm 23 = .ok (.iload_n 1, 1) := by decide +kernel
theorem dX0_appendArm_24 : decode cX0_appendArm 24 = .ok (.iastore, 1) := by decide +kernel
theorem dX0_appendArm_25 : decode cX0_appendArm 25 = .ok (.aload_n 0, 1) := by decide +kernel
theorem dX0_appendArm_26 : decode cX0_appendArm 26 = .ok (.getfield 15, 3) := by decide +kernel
theorem dX0_appendArm_29 : decode cX0_appendArm 29 = .ok (.aload_n 0, 1) := by decide +kernel
theorem dX0_appendArm_30 : decode cX0_appendArm 30 = .ok (.getfield 30, 3) := by decide +kernel
theorem dX0_appendArm_33 : decode cX0_appendArm 33 = .ok (.iload_n 2, 1) := by decide +kernel
theorem dX0_appendArm_34 : decode cX0_appendArm 34 = .ok (.iastore, 1) := by decide +kernel
theorem dX0_appendArm_35 : decode cX0_appendArm 35 = .ok (.aload_n 0, 1) := by decide +kernel
theorem dX0_appendArm_36 : decode cX0_appendArm 36 = .ok (.getfield 18, 3) := by decide +kernel
theorem dX0_appendArm_39 : decode cX0_appendArm 39 = .ok (.aload_n 0, 1) := by decide +kernel
theorem dX0_appendArm_40 : decode cX0_appendArm 40 = .ok (.getfield 30, 3) := by decide +kernel
theorem dX0_appendArm_43 : decode cX0_appendArm 43 = .ok (.iload_n 3, 1) := by decide +kernel
theorem dX0_appendArm_44 : decode cX0_appendArm 44 = .ok (.iastore, 1) := by decide +kernel
theorem dX0_appendArm_45 : decode cX0_appendArm 45 = .ok (.aload_n 0, 1) := by decide +kernel
theorem dX0_appendArm_46 : decode cX0_appendArm 46 = .ok (.getfield 21, 3) := by decide +kernel
theorem dX0_appendArm_49 : decode cX0_appendArm 49 = .ok (.aload_n 0, 1) := by decide +kernel
theorem dX0_appendArm_50 : decode cX0_appendArm 50 = .ok (.getfield 30, 3) := by decide +kernel
theorem dX0_appendArm_53 : decode cX0_appendArm 53 = .ok (.iconst 0, 1) := by decide +kernel
theorem dX0_appendArm_54 : decode cX0_appendArm 54 = .ok (.iastore, 1) := by decide +kernel
theorem dX0_appendArm_55 : decode cX0_appendArm 55 = .ok (.aload_n 0, 1) := by decide +kernel
theorem dX0_appendArm_56 : decode cX0_appendArm 56 = .ok (.getfield 24, 3) := by decide +kernel
theorem dX0_appendArm_59 : decode cX0_appendArm 59 = .ok (.aload_n 0, 1) := by decide +kernel
theorem dX0_appendArm_60 : decode cX0_appendArm 60 = .ok (.getfield 30, 3) := by decide +kernel
theorem dX0_appendArm_63 : decode cX0_appendArm 63 = .ok (.iconst 0, 1) := by decide +kernel
theorem dX0_appendArm_64 : decode cX0_appendArm 64 = .ok (.iastore, 1) := by decide +kernel
theorem dX0_appendArm_65 : decode cX0_appendArm 65 = .ok (.aload_n 0, 1) := by decide +kernel
theorem dX0_appendArm_66 : decode cX0_appendArm 66 = .ok (.dup, 1) := by decide +kernel
theorem dX0_appendArm_67 : decode cX0_appendArm 67 = .ok (.getfield 30, 3) := by decide +kernel
theorem dX0_appendArm_70 : decode cX0_appendArm 70 = .ok (.iconst 1, 1) := by decide +kernel
theorem dX0_appendArm_71 : decode cX0_appendArm 71 = .ok (.iadd, 1) := by decide +kernel
theorem dX0_appendArm_72 : decode cX0_appendArm 72 = .ok (.putfield 30, 3) := by decide +kernel
theorem dX0_appendArm_75 : decode cX0_appendArm 75 = .ok (.iconst 1, 1) := by decide +kernel
theorem dX0_appendArm_76 : decode cX0_appendArm 76 = .ok (.ireturn, 1) := by decide +kernel
theorem dX0_appendStroke_0 : decode cX0_appendStroke 0 = .ok (.aload_n 0, 1) := by decide +kernel
theorem dX0_appendStroke_1 : decode cX0_appendStroke 1 = .ok (.getfield 34, 3) := by decide +kernel
theorem dX0_appendStroke_4 : decode cX0_appendStroke 4 = .ok (.bipush 16, 2) := by decide +kernel
theorem dX0_appendStroke_6 : decode cX0_appendStroke 6 = .ok (.if_icmp .lt 5, 3) := by decide +kernel
theorem dX0_appendStroke_9 : decode cX0_appendStroke 9 = .ok (.iconst 0, 1) := by decide +kernel
theorem dX0_appendStroke_10 : decode cX0_appendStroke 10 = .ok (.ireturn, 1) := by decide +kernel
theorem dX0_appendStroke_11 : decode cX0_appendStroke 11 = .ok (.aload_n 0, 1) := by decide +kernel
theorem dX0_appendStroke_12 : decode cX0_appendStroke 12 = .ok (.getfield 27, 3) := by decide +kernel
theorem dX0_appendStroke_15 : decode cX0_appendStroke 15 = .ok (.aload_n 0, 1) := by decide +kernel
theorem dX0_appendStroke_16 : decode cX0_appendStroke 16 = .ok (.getfield 34, 3) := by decide +kernel
theorem dX0_appendStroke_19 : decode cX0_appendStroke 19 = .ok (.iload_n 1, 1) := by decide +kernel
theorem dX0_appendStroke_20 : decode cX0_appendStroke 20 = .ok (.iastore, 1) := by decide +kernel
theorem dX0_appendStroke_21 : decode cX0_appendStroke 21 = .ok (.aload_n 0, 1) := by decide +kernel
theorem dX0_appendStroke_22 : decode cX0_appendStroke 22 = .ok (.dup, 1) := by decide +kernel
theorem dX0_appendStroke_23 : decode cX0_appendStroke 23 = .ok (.getfield 34, 3) := by decide +kernel
theorem dX0_appendStroke_26 : decode cX0_appendStroke 26 = .ok (.iconst 1, 1) := by decide +kernel
theorem dX0_appendStroke_27 : decode cX0_appendStroke 27 = .ok (.iadd, 1) := by decide +kernel
theorem dX0_appendStroke_28 : decode cX0_appendStroke 28 = .ok (.putfield 34, 3) := by decide +kernel
theorem dX0_appendStroke_31 : decode cX0_appendStroke 31 = .ok (.iconst 1, 1) := by decide +kernel
theorem dX0_appendStroke_32 : decode cX0_appendStroke 32 = .ok (.ireturn, 1) := by decide +kernel
theorem dX0_settingOf_0 : decode cX0_settingOf 0 = .ok (.iload_n 2, 1) := by decide +kernel
theorem dX0_settingOf_1 : decode cX0_settingOf 1 = .ok (.ifCond .ne 10, 3) := by decide +kernel
theorem dX0_settingOf_4 : decode cX0_settingOf 4 = .ok (.aload_n 0, 1) := by decide +kernel
theorem dX0_settingOf_5 : decode cX0_settingOf 5 = .ok (.getfield 9, 3) := by decide +kernel
theorem dX0_settingOf_8 : decode cX0_settingOf 8 = .ok (.iload_n 1, 1) := by decide +kernel
theorem dX0_settingOf_9 : decode cX0_settingOf 9 = .ok (.iaload, 1) := by decide +kernel
theorem dX0_settingOf_10 : decode cX0_settingOf 10 = .ok (.ireturn, 1) := by decide +kernel
theorem dX0_settingOf_11 : decode cX0_settingOf 11 = .ok (.iload_n 2, 1) := by decide +kernel
theorem dX0_settingOf_12 : decode cX0_settingOf 12 = .ok (.iconst 1, 1) := by decide +kernel
theorem dX0_settingOf_13 : decode cX0_settingOf 13 = .ok (.if_icmp .ne 12, 3) := by decide +kernel
theorem dX0_settingOf_16 : decode cX0_settingOf 16 = .ok (.aload_n 0, 1) := by decide +kernel
theorem dX0_settingOf_17 : decode cX0_settingOf 17 = .ok (.getfield 15, 3) := by decide +kernel
theorem dX0_settingOf_20 : decode cX0_settingOf 20 = .ok (.iload_n 1, 1) := by decide +kernel
theorem dX0_settingOf_21 : decode cX0_settingOf 21 = .ok (.iaload, 1) := by decide +kernel
theorem dX0_settingOf_22 : decode cX0_settingOf 22 = .ok (.goto 9, 3) := by decide +kernel
theorem dX0_settingOf_25 : decode cX0_settingOf 25 = .ok (.aload_n 0, 1) := by decide +kernel
theorem dX0_settingOf_26 : decode cX0_settingOf 26 = .ok (.getfield 21, 3) := by decide +kernel
theorem dX0_settingOf_29 : decode cX0_settingOf 29 = .ok (.iload_n 1, 1) := by decide +kernel
theorem dX0_settingOf_30 : decode cX0_settingOf 30 = .ok (.iaload, 1) := by decide +kernel
theorem dX0_settingOf_31 : decode cX0_settingOf 31 = .ok (.ireturn, 1) := by decide +kernel
theorem dX0_changeSetting_0 : decode cX0_changeSetting 0 = .ok (.iload_n 2, 1) := by decide +kernel
theorem dX0_changeSetting_1 : decode cX0_changeSetting 1 = .ok (.ifCond .ne 13, 3) := by decide +kernel
theorem dX0_changeSetting_4 : decode cX0_changeSetting 4 = .ok (.aload_n 0, 1) := by decide +kernel
theorem dX0_changeSetting_5 : decode cX0_changeSetting 5 = .ok (.getfield 9, 3) := by decide +kernel
theorem dX0_changeSetting_8 : decode cX0_changeSetting 8 = .ok (.iload_n 1, 1) := by decide +kernel
theorem dX0_changeSetting_9 : decode cX0_changeSetting 9 = .ok (.iload_n 3, 1) := by decide +kernel
theorem dX0_changeSetting_10 : decode cX0_changeSetting 10 = .ok (.iastore, 1) := by decide +kernel
theorem dX0_changeSetting_11 : decode cX0_changeSetting 11 = .ok (.goto 25, 3) := by decide +kernel
theorem dX0_changeSetting_14 : decode cX0_changeSetting 14 = .ok (.iload_n 2, 1) := by decide +kernel
theorem dX0_changeSetting_15 : decode cX0_changeSetting 15 = .ok (.iconst 1, 1) := by decide +kernel
theorem dX0_changeSetting_16 : decode cX0_changeSetting 16 = .ok (.if_icmp .ne 13, 3) := by decide +kernel
theorem dX0_changeSetting_19 : decode cX0_changeSetting 19 = .ok (.aload_n 0, 1) := by decide +kernel
theorem dX0_changeSetting_20 : decode cX0_changeSetting 20 = .ok (.getfield 15, 3) := by decide +kernel
theorem dX0_changeSetting_23 : decode cX0_changeSetting 23 = .ok (.iload_n 1, 1) := by decide +kernel
theorem dX0_changeSetting_24 : decode cX0_changeSetting 24 = .ok (.iload_n 3, 1) := by decide +kernel
theorem dX0_changeSetting_25 : decode cX0_changeSetting 25 = .ok (.iastore, 1) := by decide +kernel
theorem dX0_changeSetting_26 : decode cX0_changeSetting 26 = .ok (.goto 10, 3) := by decide +kernel
theorem dX0_changeSetting_29 : decode cX0_changeSetting 29 = .ok (.aload_n 0, 1) := by decide +kernel
theorem dX0_changeSetting_30 : decode cX0_changeSetting 30 = .ok (.getfield 21, 3) := by decide +kernel
theorem dX0_changeSetting_33 : decode cX0_changeSetting 33 = .ok (.iload_n 1, 1) := by decide +kernel
theorem dX0_changeSetting_34 : decode cX0_changeSetting 34 = .ok (.iload_n 3, 1) := by decide +kernel
theorem dX0_changeSetting_35 : decode cX0_changeSetting 35 = .ok (.iastore, 1) := by decide +kernel
theorem dX0_changeSetting_36 : decode cX0_changeSetting 36 = .ok (.return_, 1) := by decide +kernel
set_option maxRecDepth 20000 in
theorem ggX0_exchange_X0_settingOf : GoodIn wsX0_exchange wsX0_settingOf := goodIn_r _ [5, 6, 7, 8, 13, 14, 15, 16, 17, 18, 19, 20, 21, 22, 23, 24] (by decide +kernel) (by decide +kernel)
set_option maxRecDepth 20000 in
theorem gX0_exchange_X0_settingOf : GoodIn wsX0_exchange (wsV RX0 56 RX0 yX0_settingOf wsX0_settingOf) := goodIn_app (goodIn_of _ (by decide +kernel)) ggX0_exchange_X0_settingOf
set_option maxRecDepth 20000 in
theorem ggX0_exchange_X0_changeSetting : GoodIn wsX0_exchange wsX0_changeSetting := goodIn_r _ [12, 6, 7, 8, 13, 14, 15, 16, 17, 18, 19, 20, 21, 22, 23, 24] (by decide +kernel) (by decide +kernel)
set_option maxRecDepth 20000 in
theorem gX0_exchange_X0_changeSetting : GoodIn wsX0_exchange (wsV RX0 60 RX0 yX0_changeSetting wsX0_changeSetting) := goodIn_app (goodIn_of _ (by decide +kernel)) ggX0_exchange_X0_changeSetting
theorem dX0_exchange_0 : decode cX0_exchange 0 = .ok (.iconst 0, 1) := by decide +kernel
theorem dX0_exchange_1 : decode cX0_exchange 1 = .ok (.istore_n 3, 1) := by decide +kernel
theorem dX0_exchange_2 : decode cX0_exchange 2 = .ok (.iload_n 3, 1) := by decide +kernel
theorem dX0_exchange_3 : decode cX0_exchange 3 = .ok (.iconst 2, 1) := by decide +kernel
theorem dX0_exchange_4 : decode cX0_exchange 4 = .ok (.if_icmp .gt 37, 3) := by decide +kernel
theorem dX0_exchange_7 : decode cX0_exchange 7 = .ok (.aload_n 0, 1) := by decide +kernel
theorem dX0_exchange_8 : decode cX0_exchange 8 = .ok (.iload_n 1, 1) := by decide +kernel
theorem dX0_exchange_9 : decode cX0_exchange 9 = .ok (.iload_n 3, 1) := by decide +kernel
theorem dX0_exchange_10 : decode cX0_exchange 10 = .ok (.invokevirtual 56, 3) := by decide +kernel
theorem dX0_exchange_13 : decode cX0_exchange 13 = .ok (.istore 4, 2) := by decide +kernel
theorem dX0_exchange_15 : decode cX0_exchange 15 = .ok (.aload_n 0, 1) := by decide +kernel
theorem dX0_exchange_16 : decode cX0_exchange 16 = .ok (.iload_n 1, 1) := by decide +kernel
theorem dX0_exchange_17 : decode cX0_exchange 17 = .ok (.iload_n 3, 1) := by decide +kernel
theorem dX0_exchange_18 : decode cX0_exchange 18 = .ok (.aload_n 0, 1) := by decide +kernel
theorem dX0_exchange_19 : decode cX0_exchange 19 = .ok (.iload_n 2, 1) := by decide +kernel
theorem dX0_exchange_20 : decode cX0_exchange 20 = .ok (.iload_n 3, 1) := by decide +kernel
theorem dX0_exchange_21 : decode cX0_exchange 21 = .ok (.invokevirtual 56, 3) := by decide +kernel
theorem dX0_exchange_24 : decode cX0_exchange 24 = .ok (.invokevirtual 60, 3) := by decide +kernel
theorem dX0_exchange_27 : decode cX0_exchange 27 = .ok (.aload_n 0, 1) := by decide +kernel
theorem dX0_exchange_28 : decode cX0_exchange 28 = .ok (.iload_n 2, 1) := by decide +kernel
theorem dX0_exchange_29 : decode cX0_exchange 29 = .ok (.iload_n 3, 1) := by decide +kernel
theorem dX0_exchange_30 : decode cX0_exchange 30 = .ok (.iload 4, 2) := by decide +kernel
theorem dX0_exchange_32 : decode cX0_exchange 32 = .ok (.invokevirtual 60, 3) := by decide +kernel
theorem dX0_exchange_35 : decode cX0_exchange 35 = .ok (.iinc 3 1, 3) := by decide +kernel
theorem dX0_exchange_38 : decode cX0_exchange 38 = .ok (.goto (-36), 3) := by decide +kernel
theorem dX0_exchange_41 : decode cX0_exchange 41 = .ok (.return_, 1) := by decide +kernel
set_option maxRecDepth 20000 in
theorem ggX0_sumOf_X0_settingOf : GoodIn wsX0_sumOf wsX0_settingOf := goodIn_r _ [6, 7, 8, 9, 10, 11, 12, 13, 14, 15, 16, 17, 18, 19, 20, 21] (by decide +kernel) (by decide +kernel)
set_option maxRecDepth 20000 in
theorem gX0_sumOf_X0_settingOf : GoodIn wsX0_sumOf (wsV RX0 56 RX0 yX0_settingOf wsX0_settingOf) := goodIn_app (goodIn_of _ (by decide +kernel)) ggX0_sumOf_X0_settingOf
theorem dX0_sumOf_0 : decode cX0_sumOf 0 = .ok (.iconst 0, 1) := by decide +kernel
theorem dX0_sumOf_1 : decode cX0_sumOf 1 = .ok (.istore_n 2, 1) := by decide +kernel
theorem dX0_sumOf_2 : decode cX0_sumOf 2 = .ok (.iconst 0, 1) := by decide +kernel
theorem dX0_sumOf_3 : decode cX0_sumOf 3 = .ok (.istore_n 3, 1) := by decide +kernel
theorem dX0_sumOf_4 : decode cX0_sumOf 4 = .ok (.iload_n 3, 1) := by decide +kernel
theorem dX0_sumOf_5 : decode cX0_sumOf 5 = .ok (.aload_n 0, 1) := by decide +kernel
theorem dX0_sumOf_6 : decode cX0_sumOf 6 = .ok (.getfield 30, 3) := by decide +kernel
theorem dX0_sumOf_9 : decode cX0_sumOf 9 = .ok (.if_icmp .ge 18, 3) := by decide +kernel
theorem dX0_sumOf_12 : decode cX0_sumOf 12 = .ok (.iload_n 2, 1) := by decide +kernel
theorem dX0_sumOf_13 : decode cX0_sumOf 13 = .ok (.aload_n 0, 1) := by decide +kernel
theorem dX0_sumOf_14 : decode cX0_sumOf 14 = .ok (.iload_n 3, 1) := by decide +kernel
theorem dX0_sumOf_15 : decode cX0_sumOf 15 = .ok (.iload_n 1, 1) := by decide +kernel
theorem dX0_sumOf_16 : decode cX0_sumOf 16 = .ok (.invokevirtual 56, 3) := by decide +kernel
theorem dX0_sumOf_19 : decode cX0_sumOf 19 = .ok (.iadd, 1) := by decide +kernel
theorem dX0_sumOf_20 : decode cX0_sumOf 20 = .ok (.istore_n 2, 1) := by decide +kernel
theorem dX0_sumOf_21 : decode cX0_sumOf 21 = .ok (.iinc 3 1, 3) := by decide +kernel
theorem dX0_sumOf_24 : decode cX0_sumOf 24 = .ok (.goto (-20), 3) := by decide +kernel
theorem dX0_sumOf_27 : decode cX0_sumOf 27 = .ok (.iload_n 2, 1) := by decide +kernel
theorem dX0_sumOf_28 : decode cX0_sumOf 28 = .ok (.ireturn, 1) := by decide +kernel
theorem dX0_playOf_0 : decode cX0_playOf 0 = .ok (.aload_n 0, 1) := by decide +kernel
theorem dX0_playOf_1 : decode cX0_playOf 1 = .ok (.getfield 9, 3) := by decide +kernel
theorem dX0_playOf_4 : decode cX0_playOf 4 = .ok (.iload_n 1, 1) := by decide +kernel
theorem dX0_playOf_5 : decode cX0_playOf 5 = .ok (.iaload, 1) := by decide +kernel
theorem dX0_playOf_6 : decode cX0_playOf 6 = .ok (.iconst 3, 1) := by decide +kernel
theorem dX0_playOf_7 : decode cX0_playOf 7 = .ok (.if_icmp .ne 19, 3) := by decide +kernel
theorem dX0_playOf_10 : decode cX0_playOf 10 = .ok (.aload_n 0, 1) := by decide +kernel
theorem dX0_playOf_11 : decode cX0_playOf 11 = .ok (.getfield 15, 3) := by decide +kernel
theorem dX0_playOf_14 : decode cX0_playOf 14 = .ok (.iload_n 1, 1) := by decide +kernel
theorem dX0_playOf_15 : decode cX0_playOf 15 = .ok (.iaload, 1) := by decide +kernel
theorem dX0_playOf_16 : decode cX0_playOf 16 = .ok (.aload_n 0, 1) := by decide +kernel
theorem dX0_playOf_17 : decode cX0_playOf 17 = .ok (.getfield 21, 3) := by decide +kernel
theorem dX0_playOf_20 : decode cX0_playOf 20 = .ok (.iload_n 1, 1) := by decide +kernel
theorem dX0_playOf_21 : decode cX0_playOf 21 = .ok (.iaload, 1) := by decide +kernel
theorem dX0_playOf_22 : decode cX0_playOf 22 = .ok (.iadd, 1) := by decide +kernel
theorem dX0_playOf_23 : decode cX0_playOf 23 = .ok (.goto 9, 3) := by decide +kernel
theorem dX0_playOf_26 : decode cX0_playOf 26 = .ok (.aload_n 0, 1) := by decide +kernel
theorem dX0_playOf_27 : decode cX0_playOf 27 = .ok (.getfield 15, 3) := by decide +kernel
theorem dX0_playOf_30 : decode cX0_playOf 30 = .ok (.iload_n 1, 1) := by decide +kernel
theorem dX0_playOf_31 : decode cX0_playOf 31 = .ok (.iaload, 1) := by decide +kernel
theorem dX0_playOf_32 : decode cX0_playOf 32 = .ok (.ireturn, 1) := by decide +kernel
theorem dX0_lastPlace_0 : decode cX0_lastPlace 0 = .ok (.aload_n 0, 1) := by decide +kernel
theorem dX0_lastPlace_1 : decode cX0_lastPlace 1 = .ok (.getfield 30, 3) := by decide +kernel
theorem dX0_lastPlace_4 : decode cX0_lastPlace 4 = .ok (.ifCond .ne 10, 3) := by decide +kernel
theorem dX0_lastPlace_7 : decode cX0_lastPlace 7 = .ok (.aload_n 0, 1) := by decide +kernel
theorem dX0_lastPlace_8 : decode cX0_lastPlace 8 = .ok (.getfield 37, 3) := by decide +kernel
theorem dX0_lastPlace_11 : decode cX0_lastPlace 11 = .ok (.goto 14, 3) := by decide +kernel
theorem dX0_lastPlace_14 : decode cX0_lastPlace 14 = .ok (.aload_n 0, 1) := by decide +kernel
theorem dX0_lastPlace_15 : decode cX0_lastPlace 15 = .ok (.getfield 18, 3) := by decide +kernel
theorem dX0_lastPlace_18 : decode cX0_lastPlace 18 = .ok (.aload_n 0, 1) := by decide +kernel
theorem dX0_lastPlace_19 : decode cX0_lastPlace 19 = .ok (.getfield 30, 3) := by decide +kernel
theorem dX0_lastPlace_22 : decode cX0_lastPlace 22 = .ok (.iconst 1, 1) := by decide +kernel
theorem dX0_lastPlace_23 : decode cX0_lastPlace 23 = .ok (.isub, 1) := by decide +kernel
theorem dX0_lastPlace_24 : decode cX0_lastPlace 24 = .ok (.iaload, 1) := by decide +kernel
theorem dX0_lastPlace_25 : decode cX0_lastPlace 25 = .ok (.ireturn, 1) := by decide +kernel
set_option maxRecDepth 20000 in
theorem ggX0_error_X0_lastPlace : GoodIn wsX0_error wsX0_lastPlace := goodIn_r _ [10, 11, 1, 12, 13, 14, 15, 16, 17, 18, 19, 20, 21, 22, 23, 24] (by decide +kernel) (by decide +kernel)
set_option maxRecDepth 20000 in
theorem gX0_error_X0_lastPlace : GoodIn wsX0_error (wsV RX0 52 RX0 yX0_lastPlace wsX0_lastPlace) := goodIn_app (goodIn_of _ (by decide +kernel)) ggX0_error_X0_lastPlace
theorem dX0_error_0 : decode cX0_error 0 = .ok (.aload_n 0, 1) := by decide +kernel
theorem dX0_error_1 : decode cX0_error 1 = .ok (.getfield 37, 3) := by decide +kernel
theorem dX0_error_4 : decode cX0_error 4 = .ok (.aload_n 0, 1) := by decide +kernel
theorem dX0_error_5 : decode cX0_error 5 = .ok (.invokevirtual 52, 3) := by decide +kernel
theorem dX0_error_8 : decode cX0_error 8 = .ok (.isub, 1) := by decide +kernel
theorem dX0_error_9 : decode cX0_error 9 = .ok (.invokestatic 64, 3) := by decide +kernel
theorem dX0_error_12 : decode cX0_error 12 = .ok (.ireturn, 1) := by decide +kernel
theorem dX0_strokeInTurn_0 : decode cX0_strokeInTurn 0 = .ok (.aload_n 0, 1) := by decide +kernel
theorem dX0_strokeInTurn_1 : decode cX0_strokeInTurn 1 = .ok (.getfield 34, 3) := by decide +kernel
theorem dX0_strokeInTurn_4 : decode cX0_strokeInTurn 4 = .ok (.ifCond .ne 7, 3) := by decide +kernel
theorem dX0_strokeInTurn_7 : decode cX0_strokeInTurn 7 = .ok (.iconst 0, 1) := by decide +kernel
theorem dX0_strokeInTurn_8 : decode cX0_strokeInTurn 8 = .ok (.goto 12, 3) := by decide +kernel
theorem dX0_strokeInTurn_11 : decode cX0_strokeInTurn 11 = .ok (.aload_n 0, 1) := by decide +kernel
theorem dX0_strokeInTurn_12 : decode cX0_strokeInTurn 12 = .ok (.getfield 40, 3) := by decide +kernel
theorem dX0_strokeInTurn_15 : decode cX0_strokeInTurn 15 = .ok (.aload_n 0, 1) := by decide +kernel
theorem dX0_strokeInTurn_16 : decode cX0_strokeInTurn 16 = .ok (.getfield 34, 3) := by decide +kernel
theorem dX0_strokeInTurn_19 : decode cX0_strokeInTurn 19 = .ok (.irem, 1) := by decide +kernel
theorem dX0_strokeInTurn_20 : decode cX0_strokeInTurn 20 = .ok (.ireturn, 1) := by decide +kernel
set_option maxRecDepth 20000 in
theorem ggX0_takeStep_X0_strokeInTurn : GoodIn wsX0_takeStep wsX0_strokeInTurn := goodIn_r _ [8, 1, 3, 47, 48, 49, 50, 51, 52, 53, 54, 55, 56, 57, 58] (by decide +kernel) (by decide +kernel)
set_option maxRecDepth 20000 in
theorem gX0_takeStep_X0_strokeInTurn : GoodIn wsX0_takeStep (wsV RX0 70 RX0 yX0_strokeInTurn wsX0_strokeInTurn) := goodIn_app (goodIn_of _ (by decide +kernel)) ggX0_takeStep_X0_strokeInTurn
set_option maxRecDepth 20000 in
theorem ggX0_takeStep_X0_moveHand : GoodIn wsX0_takeStep wsX0_moveHand := goodIn_r _ [12, 13, 14, 15, 16, 17, 18, 19, 7, 20, 21, 22, 23, 24, 25, 26, 27, 28, 29, 30, 31, 32, 33, 34, 35, 36, 37, 38, 39, 40, 41, 42, 43, 44, 45, 46, 47, 48, 49, 50, 51, 52, 53, 54, 55, 56, 57, 58] (by decide +kernel) (by decide +kernel)
set_option maxRecDepth 20000 in
theorem gX0_takeStep_X0_moveHand : GoodIn wsX0_takeStep (wsV RX0 73 RX0 yX0_moveHand wsX0_moveHand) := goodIn_app (goodIn_of _ (by decide +kernel)) ggX0_takeStep_X0_moveHand
theorem dX0_takeStep_0 : decode cX0_takeStep 0 = .ok (.aload_n 0, 1) := by decide +kernel
theorem dX0_takeStep_1 : decode cX0_takeStep 1 = .ok (.getfield 34, 3) := by decide +kernel
theorem dX0_takeStep_4 : decode cX0_takeStep 4 = .ok (.ifCond .eq 16, 3) := by decide +kernel
theorem dX0_takeStep_7 : decode cX0_takeStep 7 = .ok (.aload_n 0, 1) := by decide +kernel
theorem dX0_takeStep_8 : decode cX0_takeStep 8 = .ok (.aload_n 0, 1) := by decide +kernel
theorem dX0_takeStep_9 : decode cX0_takeStep 9 = .ok (.getfield 27, 3) := by decide +kernel
theorem dX0_takeStep_12 : decode cX0_takeStep 12 = .ok (.aload_n 0, 1) := by decide +kernel
theorem dX0_takeStep_13 : decode cX0_takeStep 13 = .ok (.invokevirtual 70, 3) := by decide +kernel
theorem dX0_takeStep_16 : decode cX0_takeStep 16 = .ok (.iaload, 1) := by decide +kernel
theorem dX0_takeStep_17 : decode cX0_takeStep 17 = .ok (.invokevirtual 73, 3) := by decide +kernel
theorem dX0_takeStep_20 : decode cX0_takeStep 20 = .ok (.aload_n 0, 1) := by decide +kernel
theorem dX0_takeStep_21 : decode cX0_takeStep 21 = .ok (.dup, 1) := by decide +kernel
theorem dX0_takeStep_22 : decode cX0_takeStep 22 = .ok (.getfield 40, 3) := by decide +kernel
theorem dX0_takeStep_25 : decode cX0_takeStep 25 = .ok (.iconst 1, 1) := by decide +kernel
theorem dX0_takeStep_26 : decode cX0_takeStep 26 = .ok (.iadd, 1) := by decide +kernel
theorem dX0_takeStep_27 : decode cX0_takeStep 27 = .ok (.putfield 40, 3) := by decide +kernel
theorem dX0_takeStep_30 : decode cX0_takeStep 30 = .ok (.return_, 1) := by decide +kernel
set_option maxRecDepth 20000 in
theorem ggX0_takeSteps_X0_takeStep : GoodIn wsX0_takeSteps wsX0_takeStep := goodIn_r _ [5, 6, 7, 8, 9, 10, 11, 4, 12, 13, 14, 15, 16, 17, 18, 19, 20, 21, 22, 23, 24, 25, 26, 27, 28, 29, 30, 31, 32, 33, 34, 35, 36, 37, 38, 39, 40, 41, 42, 43, 44, 45, 46, 47, 48, 49, 50, 51, 52, 53, 54, 55, 56, 57, 58, 59, 60, 61, 62] (by decide +kernel) (by decide +kernel)
set_option maxRecDepth 20000 in
theorem gX0_takeSteps_X0_takeStep : GoodIn wsX0_takeSteps (wsV RX0 77 RX0 yX0_takeStep wsX0_takeStep) := goodIn_app (goodIn_of _ (by decide +kernel)) ggX0_takeSteps_X0_takeStep
theorem dX0_takeSteps_0 : decode cX0_takeSteps 0 = .ok (.iconst 0, 1) := by decide +kernel
theorem dX0_takeSteps_1 : decode cX0_takeSteps 1 = .ok (.istore_n 2, 1) := by decide +kernel
theorem dX0_takeSteps_2 : decode cX0_takeSteps 2 = .ok (.iload_n 2, 1) := by decide +kernel
theorem dX0_takeSteps_3 : decode cX0_takeSteps 3 = .ok (.iload_n 1, 1) := by decide +kernel
theorem dX0_takeSteps_4 : decode cX0_takeSteps 4 = .ok (.if_icmp .ge 13, 3) := by decide +kernel
theorem dX0_takeSteps_7 : decode cX0_takeSteps 7 = .ok (.aload_n 0, 1) := by decide +kernel
theorem dX0_takeSteps_8 : decode cX0_takeSteps 8 = .ok (.invokevirtual 77, 3) := by decide +kernel
theorem dX0_takeSteps_11 : decode cX0_takeSteps 11 = .ok (.iinc 2 1, 3) := by decide +kernel
theorem dX0_takeSteps_14 : decode cX0_takeSteps 14 = .ok (.goto (-12), 3) := by decide +kernel
theorem dX0_takeSteps_17 : decode cX0_takeSteps 17 = .ok (.return_, 1) := by decide +kernel
set_option maxRecDepth 20000 in
theorem ggX0_greatestError_X0_takeStep : GoodIn wsX0_greatestError wsX0_takeStep := goodIn_r _ [9, 10, 11, 12, 13, 14, 15, 8, 16, 17, 18, 19, 20, 21, 22, 23, 24, 25, 26, 27, 28, 29, 30, 31, 32, 33, 34, 35, 36, 37, 38, 3, 39, 40, 41, 42, 43, 44, 45, 46, 47, 48, 49, 50, 51, 52, 53, 62, 63, 64, 65, 66, 67, 68, 69, 70, 71, 72, 73] (by decide +kernel) (by decide +kernel)
set_option maxRecDepth 20000 in
theorem gX0_greatestError_X0_takeStep : GoodIn wsX0_greatestError (wsV RX0 77 RX0 yX0_takeStep wsX0_takeStep) := goodIn_app (goodIn_of _ (by decide +kernel)) ggX0_greatestError_X0_takeStep
set_option maxRecDepth 20000 in
theorem ggX0_greatestError_X0_error : GoodIn wsX0_greatestError wsX0_error := goodIn_r _ [57, 21, 37, 38, 3, 39, 58, 59, 60, 8, 61, 22, 23, 62, 63, 64, 65, 66, 67, 68, 69, 70, 71, 72, 73] (by decide +kernel) (by decide +kernel)
set_option maxRecDepth 20000 in
theorem gX0_greatestError_X0_error : GoodIn wsX0_greatestError (wsV RX0 80 RX0 yX0_error wsX0_error) := goodIn_app (goodIn_of _ (by decide +kernel)) ggX0_greatestError_X0_error
theorem dX0_greatestError_0 : decode cX0_greatestError 0 = .ok (.iconst 0, 1) := by decide +kernel
theorem dX0_greatestError_1 : decode cX0_greatestError 1 = .ok (.istore_n 2, 1) := by decide +kernel
theorem dX0_greatestError_2 : decode cX0_greatestError 2 = .ok (.iconst 0, 1) := by decide +kernel
theorem dX0_greatestError_3 : decode cX0_greatestError 3 = .ok (.istore_n 3, 1) := by decide +kernel
theorem dX0_greatestError_4 : decode cX0_greatestError 4 = .ok (.iload_n 3, 1) := by decide +kernel
theorem dX0_greatestError_5 : decode cX0_greatestError 5 = .ok (.iload_n 1, 1) := by decide +kernel
theorem dX0_greatestError_6 : decode cX0_greatestError 6 = .ok (.if_icmp .ge 22, 3) := by decide +kernel
theorem dX0_greatestError_9 : decode cX0_greatestError 9 = .ok (.aload_n 0, 1) := by decide +kernel
theorem dX0_greatestError_10 : decode cX0_greatestError 10 = .ok (.invokevirtual 77, 3) := by decide +kernel
theorem dX0_greatestError_13 : decode cX0_greatestError 13 = .ok (.iload_n 2, 1) := by decide +kernel
theorem dX0_greatestError_14 : decode cX0_greatestError 14 = .ok (.aload_n 0, 1) := by decide +kernel
theorem dX0_greatestError_15 : decode cX0_greatestError 15 = .ok (.invokevirtual 80, 3) := by decide +kernel
theorem dX0_greatestError_18 : decode cX0_greatestError 18 = .ok (.invokestatic 83, 3) := by decide +kernel
theorem dX0_greatestError_21 : decode cX0_greatestError 21 = .ok (.istore_n 2, 1) := by decide +kernel
theorem dX0_greatestError_22 : decode cX0_greatestError 22 = .ok (.iinc 3 1, 3) := by decide +kernel
theorem dX0_greatestError_25 : decode cX0_greatestError 25 = .ok (.goto (-21), 3) := by decide +kernel
theorem dX0_greatestError_28 : decode cX0_greatestError 28 = .ok (.iload_n 2, 1) := by decide +kernel
theorem dX0_greatestError_29 : decode cX0_greatestError 29 = .ok (.ireturn, 1) := by decide +kernel
set_option maxRecDepth 20000 in
theorem ggX0_moveHand_X0_playOf : GoodIn wsX0_moveHand wsX0_playOf := goodIn_r _ [9, 4, 10, 11, 36, 37, 38, 39, 40, 41, 42, 43, 44, 45, 46, 47] (by decide +kernel) (by decide +kernel)
set_option maxRecDepth 20000 in
theorem gX0_moveHand_X0_playOf : GoodIn wsX0_moveHand (wsV RX0 86 RX0 yX0_playOf wsX0_playOf) := goodIn_app (goodIn_of _ (by decide +kernel)) ggX0_moveHand_X0_playOf
set_option maxRecDepth 20000 in
theorem ggX0_moveHand_X0_beyond : GoodIn wsX0_moveHand wsX0_beyond := goodIn_r _ [14] (by decide +kernel) (by decide +kernel)
set_option maxRecDepth 20000 in
theorem gX0_moveHand_X0_beyond : GoodIn wsX0_moveHand (va_wsS RX0 89 yX0_beyond wsX0_beyond) := goodIn_app (goodIn_of _ (by decide +kernel)) ggX0_moveHand_X0_beyond
set_option maxRecDepth 20000 in
theorem ggX0_moveHand_X0_answerTo : GoodIn wsX0_moveHand wsX0_answerTo := goodIn_r _ [17, 18, 19, 20, 21, 22, 23, 24, 25] (by decide +kernel) (by decide +kernel)
set_option maxRecDepth 20000 in
theorem gX0_moveHand_X0_answerTo : GoodIn wsX0_moveHand (va_wsS RX0 92 yX0_answerTo wsX0_answerTo) := goodIn_app (goodIn_of _ (by decide +kernel)) ggX0_moveHand_X0_answerTo
set_option maxRecDepth 20000 in
theorem ggX0_moveHand_X0_moveArm : GoodIn wsX0_moveHand wsX0_moveArm := goodIn_r _ [29, 30, 31, 11, 32, 33, 20, 34, 3, 35, 18, 19, 21, 22, 23, 24, 25, 36, 37, 38, 39, 40, 41, 42, 43, 44, 45, 46, 47] (by decide +kernel) (by decide +kernel)
set_option maxRecDepth 20000 in
theorem gX0_moveHand_X0_moveArm : GoodIn wsX0_moveHand (wsV RX0 95 RX0 yX0_moveArm wsX0_moveArm) := goodIn_app (goodIn_of _ (by decide +kernel)) ggX0_moveHand_X0_moveArm
theorem dX0_moveHand_0 : decode cX0_moveHand 0 = .ok (.aload_n 0, 1) := by decide +kernel
theorem dX0_moveHand_1 : decode cX0_moveHand 1 = .ok (.dup, 1) := by decide +kernel
theorem dX0_moveHand_2 : decode cX0_moveHand 2 = .ok (.getfield 37, 3) := by decide +kernel
theorem dX0_moveHand_5 : decode cX0_moveHand 5 = .ok (.iload_n 1, 1) := by decide +kernel
theorem dX0_moveHand_6 : decode cX0_moveHand 6 = .ok (.iadd, 1) := by decide +kernel
theorem dX0_moveHand_7 : decode cX0_moveHand 7 = .ok (.putfield 37, 3) := by decide +kernel
theorem dX0_moveHand_10 : decode cX0_moveHand 10 = .ok (.aload_n 0, 1) := by decide +kernel
theorem dX0_moveHand_11 : decode cX0_moveHand 11 = .ok (.getfield 37, 3) := by decide +kernel
theorem dX0_moveHand_14 : decode cX0_moveHand 14 = .ok (.istore_n 2, 1) := by decide +kernel
theorem dX0_moveHand_15 : decode cX0_moveHand 15 = .ok (.iconst 0, 1) := by decide +kernel
theorem dX0_moveHand_16 : decode cX0_moveHand 16 = .ok (.istore_n 3, 1) := by decide +kernel
theorem dX0_moveHand_17 : decode cX0_moveHand 17 = .ok (.iload_n 3, 1) := by decide +kernel
theorem dX0_moveHand_18 : decode cX0_moveHand 18 = .ok (.aload_n 0, 1) := by decide +kernel
theorem dX0_moveHand_19 : decode cX0_moveHand 19 = .ok (.getfield 30, 3) := by decide +kernel
theorem dX0_moveHand_22 : decode cX0_moveHand 22 = .ok (.if_icmp .ge 46, 3) := by decide +kernel
theorem dX0_moveHand_25 : decode cX0_moveHand 25 = .ok (.aload_n 0, 1) := by decide +kernel
theorem dX0_moveHand_26 : decode cX0_moveHand 26 = .ok (.iload_n 3, 1) := by decide +kernel
theorem dX0_moveHand_27 : decode cX0_moveHand 27 = .ok (.aload_n 0, 1) := by decide +kernel
theorem dX0_moveHand_28 : decode cX0_moveHand 28 = .ok (.iload_n 3, 1) := by decide +kernel
theorem dX0_moveHand_29 : decode cX0_moveHand 29 = .ok (.invokevirtual 86, 3) := by decide +kernel
theorem dX0_moveHand_32 : decode cX0_moveHand 32 = .ok (.iload_n 2, 1) := by decide +kernel
theorem dX0_moveHand_33 : decode cX0_moveHand 33 = .ok (.aload_n 0, 1) := by decide +kernel
theorem dX0_moveHand_34 : decode cX0_moveHand 34 = .ok (.getfield 18, 3) := by decide +kernel
theorem dX0_moveHand_37 : decode cX0_moveHand 37 = .ok (.iload_n 3, 1) := by decide +kernel
theorem dX0_moveHand_38 : decode cX0_moveHand 38 = .ok (.iaload, 1) := by decide +kernel
theorem dX0_moveHand_39 : decode cX0_moveHand 39 = .ok (.isub, 1) := by decide +kernel
theorem dX0_moveHand_40 : decode cX0_moveHand 40 = .ok (.invokestatic 89, 3) := by decide +kernel
theorem dX0_moveHand_43 : decode cX0_moveHand 43 = .ok (.aload_n 0, 1) := by decide +kernel
theorem dX0_moveHand_44 : decode cX0_moveHand 44 = .ok (.getfield 9, 3) := by decide +kernel
theorem dX0_moveHand_47 : decode cX0_moveHand 47 = .ok (.iload_n 3, 1) := by decide +kernel
theorem dX0_moveHand_48 : decode cX0_moveHand 48 = .ok (.iaload, 1) := by decide +kernel
theorem dX0_moveHand_49 : decode cX0_moveHand 49 = .ok (.invokestatic 92, 3) := by decide +kernel
theorem dX0_moveHand_52 : decode cX0_moveHand 52 = .ok (.invokevirtual 95, 3) := by decide +kernel
theorem dX0_moveHand_55 : decode cX0_moveHand 55 = .ok (.aload_n 0, 1) := by decide +kernel
theorem dX0_moveHand_56 : decode cX0_moveHand 56 = .ok (.getfield 18, 3) := by decide +kernel
theorem dX0_moveHand_59 : decode cX0_moveHand 59 = .ok (.iload_n 3, 1) := by decide +kernel
theorem dX0_moveHand_60 : decode cX0_moveHand 60 = .ok (.iaload, 1) := by decide +kernel
theorem dX0_moveHand_61 : decode cX0_moveHand 61 = .ok (.istore_n 2, 1) := by decide +kernel
theorem dX0_moveHand_62 : decode cX0_moveHand 62 = .ok (.iinc 3 1, 3) := by decide +kernel
theorem dX0_moveHand_65 : decode cX0_moveHand 65 = .ok (.goto (-48), 3) := by decide +kernel
theorem dX0_moveHand_68 : decode cX0_moveHand 68 = .ok (.return_, 1) := by decide +kernel
theorem dX0_beyond_0 : decode cX0_beyond 0 = .ok (.iload_n 1, 1) := by decide +kernel
theorem dX0_beyond_1 : decode cX0_beyond 1 = .ok (.iload_n 0, 1) := by decide +kernel
theorem dX0_beyond_2 : decode cX0_beyond 2 = .ok (.if_icmp .le 7, 3) := by decide +kernel
theorem dX0_beyond_5 : decode cX0_beyond 5 = .ok (.iload_n 1, 1) := by decide +kernel
theorem dX0_beyond_6 : decode cX0_beyond 6 = .ok (.iload_n 0, 1) := by decide +kernel
theorem dX0_beyond_7 : decode cX0_beyond 7 = .ok (.isub, 1) := by decide +kernel
theorem dX0_beyond_8 : decode cX0_beyond 8 = .ok (.ireturn, 1) := by decide +kernel
theorem dX0_beyond_9 : decode cX0_beyond 9 = .ok (.iload_n 1, 1) := by decide +kernel
theorem dX0_beyond_10 : decode cX0_beyond 10 = .ok (.iload_n 0, 1) := by decide +kernel
theorem dX0_beyond_11 : decode cX0_beyond 11 = .ok (.ineg, 1) := by decide +kernel
theorem dX0_beyond_12 : decode cX0_beyond 12 = .ok (.if_icmp .ge 9, 3) := by decide +kernel
theorem dX0_beyond_15 : decode cX0_beyond 15 = .ok (.iload_n 1, 1) := by decide +kernel
theorem dX0_beyond_16 : decode cX0_beyond 16 = .ok (.iload_n 0, 1) := by decide +kernel
theorem dX0_beyond_17 : decode cX0_beyond 17 = .ok (.iadd, 1) := by decide +kernel
theorem dX0_beyond_18 : decode cX0_beyond 18 = .ok (.goto 4, 3) := by decide +kernel
theorem dX0_beyond_21 : decode cX0_beyond 21 = .ok (.iconst 0, 1) := by decide +kernel
theorem dX0_beyond_22 : decode cX0_beyond 22 = .ok (.ireturn, 1) := by decide +kernel
set_option maxRecDepth 20000 in
theorem ggX0_answerTo_J6_signum_0f7a4 : GoodIn wsX0_answerTo wsJ6_signum_0f7a4 := goodIn_r _ [8] (by decide +kernel) (by decide +kernel)
set_option maxRecDepth 20000 in
theorem gX0_answerTo_J6_signum_0f7a4 : GoodIn wsX0_answerTo (va_wsS RX0 99 yJ6_signum_0f7a4 wsJ6_signum_0f7a4) := goodIn_app (goodIn_of _ (by decide +kernel)) ggX0_answerTo_J6_signum_0f7a4
theorem dX0_answerTo_0 : decode cX0_answerTo 0 = .ok (.iload_n 1, 1) := by decide +kernel
theorem dX0_answerTo_1 : decode cX0_answerTo 1 = .ok (.iconst 1, 1) := by decide +kernel
theorem dX0_answerTo_2 : decode cX0_answerTo 2 = .ok (.if_icmp .ne 10, 3) := by decide +kernel
theorem dX0_answerTo_5 : decode cX0_answerTo 5 = .ok (.iload_n 0, 1) := by decide +kernel
theorem dX0_answerTo_6 : decode cX0_answerTo 6 = .ok (.iload_n 0, 1) := by decide +kernel
theorem dX0_answerTo_7 : decode cX0_answerTo 7 = .ok (.invokestatic 99, 3) := by decide +kernel
theorem dX0_answerTo_10 : decode cX0_answerTo 10 = .ok (.isub, 1) := by decide +kernel
theorem dX0_answerTo_11 : decode cX0_answerTo 11 = .ok (.ireturn, 1) := by decide +kernel
theorem dX0_answerTo_12 : decode cX0_answerTo 12 = .ok (.iload_n 1, 1) := by decide +kernel
theorem dX0_answerTo_13 : decode cX0_answerTo 13 = .ok (.iconst 2, 1) := by decide +kernel
theorem dX0_answerTo_14 : decode cX0_answerTo 14 = .ok (.if_icmp .eq 8, 3) := by decide +kernel
theorem dX0_answerTo_17 : decode cX0_answerTo 17 = .ok (.iload_n 1, 1) := by decide +kernel
theorem dX0_answerTo_18 : decode cX0_answerTo 18 = .ok (.iconst 3, 1) := by decide +kernel
theorem dX0_answerTo_19 : decode cX0_answerTo 19 = .ok (.if_icmp .ne 7, 3) := by decide +kernel
theorem dX0_answerTo_22 : decode cX0_answerTo 22 = .ok (.iconst 1, 1) := by decide +kernel
theorem dX0_answerTo_23 : decode cX0_answerTo 23 = .ok (.goto 4, 3) := by decide +kernel
theorem dX0_answerTo_26 : decode cX0_answerTo 26 = .ok (.iconst 0, 1) := by decide +kernel
theorem dX0_answerTo_27 : decode cX0_answerTo 27 = .ok (.istore_n 2, 1) := by decide +kernel
theorem dX0_answerTo_28 : decode cX0_answerTo 28 = .ok (.iload_n 2, 1) := by decide +kernel
theorem dX0_answerTo_29 : decode cX0_answerTo 29 = .ok (.ifCond .eq 15, 3) := by decide +kernel
theorem dX0_answerTo_32 : decode cX0_answerTo 32 = .ok (.iload_n 0, 1) := by decide +kernel
theorem dX0_answerTo_33 : decode cX0_answerTo 33 = .ok (.invokestatic 64, 3) := by decide +kernel
theorem dX0_answerTo_36 : decode cX0_answerTo 36 = .ok (.iconst 1, 1) := by decide +kernel
theorem dX0_answerTo_37 : decode cX0_answerTo 37 = .ok (.if_icmp .ne 7, 3) := by decide +kernel
theorem dX0_answerTo_40 : decode cX0_answerTo 40 = .ok (.iconst 0, 1) := by decide +kernel
theorem dX0_answerTo_41 : decode cX0_answerTo 41 = .ok (.goto 4, 3) := by decide +kernel
theorem dX0_answerTo_44 : decode cX0_answerTo 44 = .ok (.iload_n 0, 1) := by decide +kernel
theorem dX0_answerTo_45 : decode cX0_answerTo 45 = .ok (.ireturn, 1) := by decide +kernel
set_option maxRecDepth 20000 in
theorem ggX0_moveArm_J6_signum_0f7a4 : GoodIn wsX0_moveArm wsJ6_signum_0f7a4 := goodIn_r _ [16] (by decide +kernel) (by decide +kernel)
set_option maxRecDepth 20000 in
theorem gX0_moveArm_J6_signum_0f7a4 : GoodIn wsX0_moveArm (va_wsS RX0 99 yJ6_signum_0f7a4 wsJ6_signum_0f7a4) := goodIn_app (goodIn_of _ (by decide +kernel)) ggX0_moveArm_J6_signum_0f7a4
theorem dX0_moveArm_0 : decode cX0_moveArm 0 = .ok (.iload_n 2, 1) := by decide +kernel
theorem dX0_moveArm_1 : decode cX0_moveArm 1 = .ok (.ifCond .ne 4, 3) := by decide +kernel
theorem dX0_moveArm_4 : decode cX0_moveArm 4 = .ok (.return_, 1) := by decide +kernel
theorem dX0_moveArm_5 : decode cX0_moveArm 5 = .ok (.iload_n 2, 1) := by decide +kernel
theorem dX0_moveArm_6 : decode cX0_moveArm 6 = .ok (.invokestatic 99, 3) := by decide +kernel
theorem dX0_moveArm_9 : decode cX0_moveArm 9 = .ok (.istore_n 3, 1) := by decide +kernel
theorem dX0_moveArm_10 : decode cX0_moveArm 10 = .ok (.aload_n 0, 1) := by decide +kernel
theorem dX0_moveArm_11 : decode cX0_moveArm 11 = .ok (.getfield 24, 3) := by decide +kernel
theorem dX0_moveArm_14 : decode cX0_moveArm 14 = .ok (.iload_n 1, 1) := by decide +kernel
theorem dX0_moveArm_15 : decode cX0_moveArm 15 = .ok (.iaload, 1) := by decide +kernel
theorem dX0_moveArm_16 : decode cX0_moveArm 16 = .ok (.iload_n 3, 1) := by decide +kernel
theorem dX0_moveArm_17 : decode cX0_moveArm 17 = .ok (.ineg, 1) := by decide +kernel
theorem dX0_moveArm_18 : decode cX0_moveArm 18 = .ok (.if_icmp .ne 32, 3) := by decide +kernel
theorem dX0_moveArm_21 : decode cX0_moveArm 21 = .ok (.aload_n 0, 1) := by decide +kernel
theorem dX0_moveArm_22 : decode cX0_moveArm 22 = .ok (.dup, 1) := by decide +kernel
theorem dX0_moveArm_23 : decode cX0_moveArm 23 = .ok (.getfield 46, 3) := by decide +kernel
theorem dX0_moveArm_26 : decode cX0_moveArm 26 = .ok (.iconst 1, 1) := by decide +kernel
theorem dX0_moveArm_27 : decode cX0_moveArm 27 = .ok (.iadd, 1) := by decide +kernel
theorem dX0_moveArm_28 : decode cX0_moveArm 28 = .ok (.putfield 46, 3) := by decide +kernel
theorem dX0_moveArm_31 : decode cX0_moveArm 31 = .ok (.aload_n 0, 1) := by decide +kernel
theorem dX0_moveArm_32 : decode cX0_moveArm 32 = .ok (.getfield 21, 3) := by decide +kernel
theorem dX0_moveArm_35 : decode cX0_moveArm 35 = .ok (.iload_n 1, 1) := by decide +kernel
theorem dX0_moveArm_36 : decode cX0_moveArm 36 = .ok (.aload_n 0, 1) := by decide +kernel
theorem dX0_moveArm_37 : decode cX0_moveArm 37 = .ok (.getfield 21, 3) := by decide +kernel
theorem dX0_moveArm_40 : decode cX0_moveArm 40 = .ok (.iload_n 1, 1) := by decide +kernel
theorem dX0_moveArm_41 : decode cX0_moveArm 41 = .ok (.iaload, 1) := by decide +kernel
theorem dX0_moveArm_42 : decode cX0_moveArm 42 = .ok (.iconst 1, 1) := by decide +kernel
theorem dX0_moveArm_43 : decode cX0_moveArm 43 = .ok (.iadd, 1) := by decide +kernel
theorem dX0_moveArm_44 : decode cX0_moveArm 44 = .ok (.bipush 9, 2) := by decide +kernel
theorem dX0_moveArm_46 : decode cX0_moveArm 46 = .ok (.invokestatic 104, 3) := by decide +kernel
theorem dX0_moveArm_49 : decode cX0_moveArm 49 = .ok (.iastore, 1) := by decide +kernel
theorem dX0_moveArm_50 : decode cX0_moveArm 50 = .ok (.aload_n 0, 1) := by decide +kernel
theorem dX0_moveArm_51 : decode cX0_moveArm 51 = .ok (.getfield 24, 3) := by decide +kernel
theorem dX0_moveArm_54 : decode cX0_moveArm 54 = .ok (.iload_n 1, 1) := by decide +kernel
theorem dX0_moveArm_55 : decode cX0_moveArm 55 = .ok (.iload_n 3, 1) := by decide +kernel
theorem dX0_moveArm_56 : decode cX0_moveArm 56 = .ok (.iastore, 1) := by decide +kernel
theorem dX0_moveArm_57 : decode cX0_moveArm 57 = .ok (.aload_n 0, 1) := by decide +kernel
theorem dX0_moveArm_58 : decode cX0_moveArm 58 = .ok (.getfield 18, 3) := by decide +kernel
theorem dX0_moveArm_61 : decode cX0_moveArm 61 = .ok (.iload_n 1, 1) := by decide +kernel
theorem dX0_moveArm_62 : decode cX0_moveArm 62 = .ok (.dup2, 1) := by decide +kernel
theorem dX0_moveArm_63 : decode cX0_moveArm 63 = .ok (.iaload, 1) := by decide +kernel
theorem dX0_moveArm_64 : decode cX0_moveArm 64 = .ok (.iload_n 2, 1) := by decide +kernel
theorem dX0_moveArm_65 : decode cX0_moveArm 65 = .ok (.iadd, 1) := by decide +kernel
theorem dX0_moveArm_66 : decode cX0_moveArm 66 = .ok (.iastore, 1) := by decide +kernel
theorem dX0_moveArm_67 : decode cX0_moveArm 67 = .ok (.aload_n 0, 1) := by decide +kernel
theorem dX0_moveArm_68 : decode cX0_moveArm 68 = .ok (.dup, 1) := by decide +kernel
theorem dX0_moveArm_69 : decode cX0_moveArm 69 = .ok (.getfield 43, 3) := by decide +kernel
theorem dX0_moveArm_72 : decode cX0_moveArm 72 = .ok (.iload_n 2, 1) := by decide +kernel
theorem dX0_moveArm_73 : decode cX0_moveArm 73 = .ok (.invokestatic 64, 3) := by decide +kernel
theorem dX0_moveArm_76 : decode cX0_moveArm 76 = .ok (.iadd, 1) := by decide +kernel
theorem dX0_moveArm_77 : decode cX0_moveArm 77 = .ok (.putfield 43, 3) := by decide +kernel
theorem dX0_moveArm_80 : decode cX0_moveArm 80 = .ok (.return_, 1) := by decide +kernel
set_option maxRecDepth 20000 in
theorem ggX0_standsAs_X0_strokeInTurn : GoodIn wsX0_standsAs wsX0_strokeInTurn := goodIn_r _ [10, 11, 12, 13, 14, 15, 16, 17, 18, 19, 20, 21, 22, 23, 24] (by decide +kernel) (by decide +kernel)
set_option maxRecDepth 20000 in
theorem gX0_standsAs_X0_strokeInTurn : GoodIn wsX0_standsAs (wsV RX0 70 RX0 yX0_strokeInTurn wsX0_strokeInTurn) := goodIn_app (goodIn_of _ (by decide +kernel)) ggX0_standsAs_X0_strokeInTurn
theorem dX0_standsAs_0 : decode cX0_standsAs 0 = .ok (.aload_n 0, 1) := by decide +kernel
theorem dX0_standsAs_1 : decode cX0_standsAs 1 = .ok (.getfield 30, 3) := by decide +kernel
theorem dX0_standsAs_4 : decode cX0_standsAs 4 = .ok (.aload_n 1, 1) := by decide +kernel
theorem dX0_standsAs_5 : decode cX0_standsAs 5 = .ok (.getfield 30, 3) := by decide +kernel
theorem dX0_standsAs_8 : decode cX0_standsAs 8 = .ok (.if_icmp .ne 14, 3) := by decide +kernel
theorem dX0_standsAs_11 : decode cX0_standsAs 11 = .ok (.aload_n 0, 1) := by decide +kernel
theorem dX0_standsAs_12 : decode cX0_standsAs 12 = .ok (.invokevirtual 70, 3) := by decide +kernel
theorem dX0_standsAs_15 : decode cX0_standsAs 15 = .ok (.aload_n 1, 1) := by decide +kernel
theorem dX0_standsAs_16 : decode cX0_standsAs 16 = .ok (.invokevirtual 70, 3) := by decide +kernel
theorem dX0_standsAs_19 : decode cX0_standsAs 19 = .ok (.if_icmp .eq 5, 3) := by decide +kernel
theorem dX0_standsAs_22 : decode cX0_standsAs 22 = .ok (.iconst 0, 1) := by decide +kernel
theorem dX0_standsAs_23 : decode cX0_standsAs 23 = .ok (.ireturn, 1) := by decide +kernel
theorem dX0_standsAs_24 : decode cX0_standsAs 24 = .ok (.iconst 0, 1) := by decide +kernel
theorem dX0_standsAs_25 : decode cX0_standsAs 25 = .ok (.istore_n 2, 1) := by decide +kernel
theorem dX0_standsAs_26 : decode cX0_standsAs 26 = .ok (.iload_n 2, 1) := by decide +kernel
theorem dX0_standsAs_27 : decode cX0_standsAs 27 = .ok (.aload_n 0, 1) := by decide +kernel
theorem dX0_standsAs_28 : decode cX0_standsAs 28 = .ok (.getfield 30, 3) := by decide +kernel
theorem dX0_standsAs_31 : decode cX0_standsAs 31 = .ok (.if_icmp .ge 66, 3) := by decide +kernel
theorem dX0_standsAs_34 : decode cX0_standsAs 34 = .ok (.aload_n 0, 1) := by decide +kernel
theorem dX0_standsAs_35 : decode cX0_standsAs 35 = .ok (.getfield 18, 3) := by decide +kernel
theorem dX0_standsAs_38 : decode cX0_standsAs 38 = .ok (.iload_n 2, 1) := by decide +kernel
theorem dX0_standsAs_39 : decode cX0_standsAs 39 = .ok (.iaload, 1) := by decide +kernel
theorem dX0_standsAs_40 : decode cX0_standsAs 40 = .ok (.aload_n 0, 1) := by decide +kernel
theorem dX0_standsAs_41 : decode cX0_standsAs 41 = .ok (.getfield 37, 3) := by decide +kernel
theorem dX0_standsAs_44 : decode cX0_standsAs 44 = .ok (.isub, 1) := by decide +kernel
theorem dX0_standsAs_45 : decode cX0_standsAs 45 = .ok (.aload_n 1, 1) := by decide +kernel
theorem dX0_standsAs_46 : decode cX0_standsAs 46 = .ok (.getfield 18, 3) := by decide +kernel
theorem dX0_standsAs_49 : decode cX0_standsAs 49 = .ok (.iload_n 2, 1) := by decide +kernel
theorem dX0_standsAs_50 : decode cX0_standsAs 50 = .ok (.iaload, 1) := by decide +kernel
theorem dX0_standsAs_51 : decode cX0_standsAs 51 = .ok (.aload_n 1, 1) := by decide +kernel
theorem dX0_standsAs_52 : decode cX0_standsAs 52 = .ok (.getfield 37, 3) := by decide +kernel
theorem dX0_standsAs_55 : decode cX0_standsAs 55 = .ok (.isub, 1) := by decide +kernel
theorem dX0_standsAs_56 : decode cX0_standsAs 56 = .ok (.if_icmp .ne 33, 3) := by decide +kernel
theorem dX0_standsAs_59 : decode cX0_standsAs 59 = .ok (.aload_n 0, 1) := by decide +kernel
theorem dX0_standsAs_60 : decode cX0_standsAs 60 = .ok (.getfield 24, 3) := by decide +kernel
theorem dX0_standsAs_63 : decode cX0_standsAs 63 = .ok (.iload_n 2, 1) := by decide +kernel
theorem dX0_standsAs_64 : decode cX0_standsAs 64 = .ok (.iaload, 1) := by decide +kernel
theorem dX0_standsAs_65 : decode cX0_standsAs 65 = .ok (.aload_n 1, 1) := by decide +kernel
theorem dX0_standsAs_66 : decode cX0_standsAs 66 = .ok (.getfield 24, 3) := by decide +kernel
theorem dX0_standsAs_69 : decode cX0_standsAs 69 = .ok (.iload_n 2, 1) := by decide +kernel
theorem dX0_standsAs_70 : decode cX0_standsAs 70 = .ok (.iaload, 1) := by decide +kernel
theorem dX0_standsAs_71 : decode cX0_standsAs 71 = .ok (.if_icmp .ne 18, 3) := by decide +kernel
theorem dX0_standsAs_74 : decode cX0_standsAs 74 = .ok (.aload_n 0, 1) := by decide +kernel
theorem dX0_standsAs_75 : decode cX0_standsAs 75 = .ok (.getfield 21, 3) := by decide +kernel
theorem dX0_standsAs_78 : decode cX0_standsAs 78 = .ok (.iload_n 2, 1) := by decide +kernel
theorem dX0_standsAs_79 : decode cX0_standsAs 79 = .ok (.iaload, 1) := by decide +kernel
theorem dX0_standsAs_80 : decode cX0_standsAs 80 = .ok (.aload_n 1, 1) := by decide +kernel
theorem dX0_standsAs_81 : decode cX0_standsAs 81 = .ok (.getfield 21, 3) := by decide +kernel
theorem dX0_standsAs_84 : decode cX0_standsAs 84 = .ok (.iload_n 2, 1) := by decide +kernel
theorem dX0_standsAs_85 : decode cX0_standsAs 85 = .ok (.iaload, 1) := by decide +kernel
theorem dX0_standsAs_86 : decode cX0_standsAs 86 = .ok (.if_icmp .eq 5, 3) := by decide +kernel
theorem dX0_standsAs_89 : decode cX0_standsAs 89 = .ok (.iconst 0, 1) := by decide +kernel
theorem dX0_standsAs_90 : decode cX0_standsAs 90 = .ok (.ireturn, 1) := by decide +kernel
theorem dX0_standsAs_91 : decode cX0_standsAs 91 = .ok (.iinc 2 1, 3) := by decide +kernel
theorem dX0_standsAs_94 : decode cX0_standsAs 94 = .ok (.goto (-68), 3) := by decide +kernel
theorem dX0_standsAs_97 : decode cX0_standsAs 97 = .ok (.iconst 1, 1) := by decide +kernel
theorem dX0_standsAs_98 : decode cX0_standsAs 98 = .ok (.ireturn, 1) := by decide +kernel
theorem dX1_init_0 : decode cX1_init 0 = .ok (.aload_n 0, 1) := by decide +kernel
theorem dX1_init_1 : decode cX1_init 1 = .ok (.invokespecial 3, 3) := by decide +kernel
theorem dX1_init_4 : decode cX1_init 4 = .ok (.aload_n 0, 1) := by decide +kernel
theorem dX1_init_5 : decode cX1_init 5 = .ok (.bipush 40, 2) := by decide +kernel
theorem dX1_init_7 : decode cX1_init 7 = .ok (.newarray .int, 2) := by decide +kernel
theorem dX1_init_9 : decode cX1_init 9 = .ok (.putfield 9, 3) := by decide +kernel
theorem dX1_init_12 : decode cX1_init 12 = .ok (.aload_n 0, 1) := by decide +kernel
theorem dX1_init_13 : decode cX1_init 13 = .ok (.iconst 0, 1) := by decide +kernel
theorem dX1_init_14 : decode cX1_init 14 = .ok (.putfield 15, 3) := by decide +kernel
theorem dX1_init_17 : decode cX1_init 17 = .ok (.aload_n 0, 1) := by decide +kernel
theorem dX1_init_18 : decode cX1_init 18 = .ok (.iconst (-1), 1) := by decide +kernel
theorem dX1_init_19 : decode cX1_init 19 = .ok (.putfield 19, 3) := by decide +kernel
theorem dX1_init_22 : decode cX1_init 22 = .ok (.return_, 1) := by decide +kernel
theorem dX1_renew_0 : decode cX1_renew 0 = .ok (.aload_n 0, 1) := by decide +kernel
theorem dX1_renew_1 : decode cX1_renew 1 = .ok (.iload_n 1, 1) := by decide +kernel
theorem dX1_renew_2 : decode cX1_renew 2 = .ok (.putfield 15, 3) := by decide +kernel
theorem dX1_renew_5 : decode cX1_renew 5 = .ok (.aload_n 0, 1) := by decide +kernel
theorem dX1_renew_6 : decode cX1_renew 6 = .ok (.iload_n 2, 1) := by decide +kernel
theorem dX1_renew_7 : decode cX1_renew 7 = .ok (.putfield 19, 3) := by decide +kernel
theorem dX1_renew_10 : decode cX1_renew 10 = .ok (.iconst 0, 1) := by decide +kernel
theorem dX1_renew_11 : decode cX1_renew 11 = .ok (.istore_n 3, 1) := by decide +kernel
theorem dX1_renew_12 : decode cX1_renew 12 = .ok (.iload_n 3, 1) := by decide +kernel
theorem dX1_renew_13 : decode cX1_renew 13 = .ok (.iload_n 2, 1) := by decide +kernel
theorem dX1_renew_14 : decode cX1_renew 14 = .ok (.if_icmp .ge 16, 3) := by decide +kernel
theorem dX1_renew_17 : decode cX1_renew 17 = .ok (.aload_n 0, 1) := by decide +kernel
theorem dX1_renew_18 : decode cX1_renew 18 = .ok (.getfield 9, 3) := by decide +kernel
theorem dX1_renew_21 : decode cX1_renew 21 = .ok (.iload_n 3, 1) := by decide +kernel
theorem dX1_renew_22 : decode cX1_renew 22 = .ok (.iconst 0, 1) := by decide +kernel
theorem dX1_renew_23 : decode cX1_renew 23 = .ok (.iastore, 1) := by decide +kernel
theorem dX1_renew_24 : decode cX1_renew 24 = .ok (.iinc 3 1, 3) := by decide +kernel
theorem dX1_renew_27 : decode cX1_renew 27 = .ok (.goto (-15), 3) := by decide +kernel
theorem dX1_renew_30 : decode cX1_renew 30 = .ok (.return_, 1) := by decide +kernel
set_option maxRecDepth 20000 in
theorem ggX1_faultAt_X4_within : GoodIn wsX1_faultAt wsX4_within := goodIn_r _ [4] (by decide +kernel) (by decide +kernel)
set_option maxRecDepth 20000 in
theorem gX1_faultAt_X4_within_n22 : GoodIn wsX1_faultAt (wsX4_within) := ggX1_faultAt_X4_within
theorem dX1_faultAt_0 : decode cX1_faultAt 0 = .ok (.aload_n 0, 1) := by decide +kernel
theorem dX1_faultAt_1 : decode cX1_faultAt 1 = .ok (.getfield 19, 3) := by decide +kernel
theorem dX1_faultAt_4 : decode cX1_faultAt 4 = .ok (.iconst (-1), 1) := by decide +kernel
theorem dX1_faultAt_5 : decode cX1_faultAt 5 = .ok (.if_icmp .ne 5, 3) := by decide +kernel
theorem dX1_faultAt_8 : decode cX1_faultAt 8 = .ok (.iconst 1, 1) := by decide +kernel
theorem dX1_faultAt_9 : decode cX1_faultAt 9 = .ok (.ireturn, 1) := by decide +kernel
theorem dX1_faultAt_10 : decode cX1_faultAt 10 = .ok (.iload_n 1, 1) := by decide +kernel
theorem dX1_faultAt_11 : decode cX1_faultAt 11 = .ok (.iconst 0, 1) := by decide +kernel
theorem dX1_faultAt_12 : decode cX1_faultAt 12 = .ok (.aload_n 0, 1) := by decide +kernel
theorem dX1_faultAt_13 : decode cX1_faultAt 13 = .ok (.getfield 19, 3) := by decide +kernel
theorem dX1_faultAt_16 : decode cX1_faultAt 16 = .ok (.iconst 1, 1) := by decide +kernel
theorem dX1_faultAt_17 : decode cX1_faultAt 17 = .ok (.isub, 1) := by decide +kernel
theorem dX1_faultAt_18 : decode cX1_faultAt 18 = .ok (.invokestatic 22, 3) := by decide +kernel
theorem dX1_faultAt_21 : decode cX1_faultAt 21 = .ok (.ifCond .eq 7, 3) := by decide +kernel
theorem dX1_faultAt_24 : decode cX1_faultAt 24 = .ok (.iconst 0, 1) := by decide +kernel
theorem dX1_faultAt_25 : decode cX1_faultAt 25 = .ok (.goto 4, 3) := by decide +kernel
theorem dX1_faultAt_28 : decode cX1_faultAt 28 = .ok (.iconst 2, 1) := by decide +kernel
theorem dX1_faultAt_29 : decode cX1_faultAt 29 = .ok (.ireturn, 1) := by decide +kernel
set_option maxRecDepth 20000 in
theorem ggX1_faultTakenAs_X1_faultAt : GoodIn wsX1_faultTakenAs wsX1_faultAt := goodIn_r _ [7, 1, 8, 9, 10, 11, 12, 13] (by decide +kernel) (by decide +kernel)
set_option maxRecDepth 20000 in
theorem gX1_faultTakenAs_X1_faultAt : GoodIn wsX1_faultTakenAs (wsV RX1 26 RX1 yX1_faultAt wsX1_faultAt) := goodIn_app (goodIn_of _ (by decide +kernel)) ggX1_faultTakenAs_X1_faultAt
theorem dX1_faultTakenAs_0 : decode cX1_faultTakenAs 0 = .ok (.aload_n 0, 1) := by decide +kernel
theorem dX1_faultTakenAs_1 : decode cX1_faultTakenAs 1 = .ok (.getfield 19, 3) := by decide +kernel
theorem dX1_faultTakenAs_4 : decode cX1_faultTakenAs 4 = .ok (.iconst (-1), 1) := by decide +kernel
theorem dX1_faultTakenAs_5 : decode cX1_faultTakenAs 5 = .ok (.if_icmp .eq 15, 3) := by decide +kernel
theorem dX1_faultTakenAs_8 : decode cX1_faultTakenAs 8 = .ok (.aload_n 0, 1) := by decide +kernel
theorem dX1_faultTakenAs_9 : decode cX1_faultTakenAs 9 = .ok (.getfield 15, 3) := by decide +kernel
theorem dX1_faultTakenAs_12 : decode cX1_faultTakenAs 12 = .ok (.iload_n 1, 1) := by decide +kernel
theorem dX1_faultTakenAs_13 : decode cX1_faultTakenAs 13 = .ok (.if_icmp .eq 7, 3) := by decide +kernel
theorem dX1_faultTakenAs_16 : decode cX1_faultTakenAs 16 = .ok (.iconst 3, 1) := by decide +kernel
theorem dX1_faultTakenAs_17 : decode cX1_faultTakenAs 17 = .ok (.goto 8, 3) := by decide +kernel
