theorem dX4_end_33 : decode cX4_end 33 = .ok (.iload_n 2, 1) := by decide +kernel
theorem dX4_end_34 : decode cX4_end 34 = .ok (.ireturn, 1) := by decide +kernel
set_option maxRecDepth 20000 in
theorem ggX4_text_X3_tell : GoodIn wsX4_text wsX3_tell := goodIn_r _ [13, 14, 15, 16, 17, 18, 19, 20, 21, 22, 23, 24, 25, 26, 27, 28, 29, 30, 31, 32, 33, 34, 35, 12, 36, 37, 38, 39, 40, 41, 42, 43, 44, 45, 46, 47, 48, 49, 50, 51, 52, 53, 54, 55, 56, 57, 58, 59, 60, 61, 62, 63, 64, 65, 66, 67, 68, 69, 70, 71, 72, 73, 74, 75, 76, 77, 78, 79, 80, 81, 82, 83, 84, 85, 86, 87, 88, 89, 90, 91, 92, 93, 94, 95, 96, 97, 98, 99, 100, 101, 102, 103, 104, 105, 106, 107, 108, 109, 110, 111, 112, 113, 114, 115, 116, 117, 118, 119, 120, 121, 122, 123, 124, 125, 126, 127, 128, 129, 130, 131, 132, 133, 134, 135, 136, 137, 138, 139, 153, 154, 155, 156, 157, 158, 159, 164, 165, 166, 167, 168, 169, 170, 171, 172, 173, 174, 175] (by decide +kernel) (by decide +kernel)
set_option maxRecDepth 20000 in
theorem gX4_text_X3_tell : GoodIn wsX4_text (wsV RX4 67 RX3 yX3_tell wsX3_tell) := goodIn_app (goodIn_of _ (by decide +kernel)) ggX4_text_X3_tell
set_option maxRecDepth 20000 in
theorem ggX4_text_X0_copyFrom : GoodIn wsX4_text wsX0_copyFrom := goodIn_r _ [143, 23, 24, 25, 26, 126, 127, 128, 129, 130, 139, 27, 28, 29, 21, 30, 31, 32, 164, 165, 166, 167, 168, 169, 170, 171, 172, 173, 174, 175] (by decide +kernel) (by decide +kernel)
set_option maxRecDepth 20000 in
theorem gX4_text_X0_copyFrom : GoodIn wsX4_text (wsV RX4 77 RX0 yX0_copyFrom wsX0_copyFrom) := goodIn_app (goodIn_of _ (by decide +kernel)) ggX4_text_X0_copyFrom
theorem dX4_text_0 : decode cX4_text 0 = .ok (.aload_n 0, 1) := by decide +kernel
theorem dX4_text_1 : decode cX4_text 1 = .ok (.getfield 30, 3) := by decide +kernel
theorem dX4_text_4 : decode cX4_text 4 = .ok (.aload_n 0, 1) := by decide +kernel
theorem dX4_text_5 : decode cX4_text 5 = .ok (.getfield 16, 3) := by decide +kernel
theorem dX4_text_8 : decode cX4_text 8 = .ok (.invokevirtual 67, 3) := by decide +kernel
theorem dX4_text_11 : decode cX4_text 11 = .ok (.istore_n 1, 1) := by decide +kernel
theorem dX4_text_12 : decode cX4_text 12 = .ok (.aload_n 0, 1) := by decide +kernel
theorem dX4_text_13 : decode cX4_text 13 = .ok (.getfield 30, 3) := by decide +kernel
theorem dX4_text_16 : decode cX4_text 16 = .ok (.getfield 71, 3) := by decide +kernel
theorem dX4_text_19 : decode cX4_text 19 = .ok (.ifCond .eq 14, 3) := by decide +kernel
theorem dX4_text_22 : decode cX4_text 22 = .ok (.bipush (-10), 2) := by decide +kernel
theorem dX4_text_24 : decode cX4_text 24 = .ok (.aload_n 0, 1) := by decide +kernel
theorem dX4_text_25 : decode cX4_text 25 = .ok (.getfield 30, 3) := by decide +kernel
theorem dX4_text_28 : decode cX4_text 28 = .ok (.getfield 74, 3) := by decide +kernel
theorem dX4_text_31 : decode cX4_text 31 = .ok (.isub, 1) := by decide +kernel
theorem dX4_text_32 : decode cX4_text 32 = .ok (.ireturn, 1) := by decide +kernel
theorem dX4_text_33 : decode cX4_text 33 = .ok (.aload_n 0, 1) := by decide +kernel
theorem dX4_text_34 : decode cX4_text 34 = .ok (.getfield 10, 3) := by decide +kernel
theorem dX4_text_37 : decode cX4_text 37 = .ok (.aload_n 0, 1) := by decide +kernel
theorem dX4_text_38 : decode cX4_text 38 = .ok (.getfield 16, 3) := by decide +kernel
theorem dX4_text_41 : decode cX4_text 41 = .ok (.invokevirtual 77, 3) := by decide +kernel
theorem dX4_text_44 : decode cX4_text 44 = .ok (.aload_n 0, 1) := by decide +kernel
theorem dX4_text_45 : decode cX4_text 45 = .ok (.getfield 37, 3) := by decide +kernel
theorem dX4_text_48 : decode cX4_text 48 = .ok (.iconst 0, 1) := by decide +kernel
theorem dX4_text_49 : decode cX4_text 49 = .ok (.putfield 81, 3) := by decide +kernel
theorem dX4_text_52 : decode cX4_text 52 = .ok (.iconst 0, 1) := by decide +kernel
theorem dX4_text_53 : decode cX4_text 53 = .ok (.istore_n 2, 1) := by decide +kernel
theorem dX4_text_54 : decode cX4_text 54 = .ok (.iload_n 2, 1) := by decide +kernel
theorem dX4_text_55 : decode cX4_text 55 = .ok (.iconst 2, 1) := by decide +kernel
theorem dX4_text_56 : decode cX4_text 56 = .ok (.if_icmp .ge 16, 3) := by decide +kernel
theorem dX4_text_59 : decode cX4_text 59 = .ok (.aload_n 0, 1) := by decide +kernel
theorem dX4_text_60 : decode cX4_text 60 = .ok (.getfield 23, 3) := by decide +kernel
theorem dX4_text_63 : decode cX4_text 63 = .ok (.iload_n 2, 1) := by decide +kernel
theorem dX4_text_64 : decode cX4_text 64 = .ok (.iconst 0, 1) := by decide +kernel
theorem dX4_text_65 : decode cX4_text 65 = .ok (.bastore, 1) := by decide +kernel
theorem dX4_text_66 : decode cX4_text 66 = .ok (.iinc 2 1, 3) := by decide +kernel
theorem dX4_text_69 : decode cX4_text 69 = .ok (.goto (-15), 3) := by decide +kernel
theorem dX4_text_72 : decode cX4_text 72 = .ok (.iload_n 1, 1) := by decide +kernel
theorem dX4_text_73 : decode cX4_text 73 = .ok (.ireturn, 1) := by decide +kernel
theorem dX4_fault_0 : decode cX4_fault 0 = .ok (.aload_n 0, 1) := by decide +kernel
theorem dX4_fault_1 : decode cX4_fault 1 = .ok (.getfield 30, 3) := by decide +kernel
theorem dX4_fault_4 : decode cX4_fault 4 = .ok (.getfield 71, 3) := by decide +kernel
theorem dX4_fault_7 : decode cX4_fault 7 = .ok (.ireturn, 1) := by decide +kernel
set_option maxRecDepth 20000 in
theorem ggX4_rule_X0_error : GoodIn wsX4_rule wsX0_error := goodIn_r _ [12, 13, 14, 15, 16, 17, 18, 19, 20, 11, 21, 22, 23, 39, 40, 41, 42, 43, 44, 45, 46, 47, 48, 49, 50] (by decide +kernel) (by decide +kernel)
set_option maxRecDepth 20000 in
theorem gX4_rule_X0_error : GoodIn wsX4_rule (wsV RX4 97 RX0 yX0_error wsX0_error) := goodIn_app (goodIn_of _ (by decide +kernel)) ggX4_rule_X0_error
set_option maxRecDepth 20000 in
theorem ggX4_rule_X0_strokeInTurn : GoodIn wsX4_rule wsX0_strokeInTurn := goodIn_r _ [27, 28, 29, 39, 40, 41, 42, 43, 44, 45, 46, 47, 48, 49, 50] (by decide +kernel) (by decide +kernel)
set_option maxRecDepth 20000 in
theorem gX4_rule_X0_strokeInTurn : GoodIn wsX4_rule (wsV RX4 104 RX0 yX0_strokeInTurn wsX0_strokeInTurn) := goodIn_app (goodIn_of _ (by decide +kernel)) ggX4_rule_X0_strokeInTurn
theorem dX4_rule_0 : decode cX4_rule 0 = .ok (.iload_n 1, 1) := by decide +kernel
theorem dX4_rule_1 : decode cX4_rule 1 = .ok (.tableswitch 116 0 5 #[39, 47, 55, 63, 74, 82], 39) := by decide +kernel
theorem dX4_rule_40 : decode cX4_rule 40 = .ok (.aload_n 0, 1) := by decide +kernel
theorem dX4_rule_41 : decode cX4_rule 41 = .ok (.getfield 10, 3) := by decide +kernel
theorem dX4_rule_44 : decode cX4_rule 44 = .ok (.getfield 84, 3) := by decide +kernel
theorem dX4_rule_47 : decode cX4_rule 47 = .ok (.ireturn, 1) := by decide +kernel
theorem dX4_rule_48 : decode cX4_rule 48 = .ok (.aload_n 0, 1) := by decide +kernel
theorem dX4_rule_49 : decode cX4_rule 49 = .ok (.getfield 10, 3) := by decide +kernel
theorem dX4_rule_52 : decode cX4_rule 52 = .ok (.getfield 87, 3) := by decide +kernel
theorem dX4_rule_55 : decode cX4_rule 55 = .ok (.ireturn, 1) := by decide +kernel
theorem dX4_rule_56 : decode cX4_rule 56 = .ok (.aload_n 0, 1) := by decide +kernel
theorem dX4_rule_57 : decode cX4_rule 57 = .ok (.getfield 10, 3) := by decide +kernel
theorem dX4_rule_60 : decode cX4_rule 60 = .ok (.getfield 90, 3) := by decide +kernel
theorem dX4_rule_63 : decode cX4_rule 63 = .ok (.ireturn, 1) := by decide +kernel
theorem dX4_rule_64 : decode cX4_rule 64 = .ok (.ldc 93, 2) := by decide +kernel
theorem dX4_rule_66 : decode cX4_rule 66 = .ok (.aload_n 0, 1) := by decide +kernel
theorem dX4_rule_67 : decode cX4_rule 67 = .ok (.getfield 10, 3) := by decide +kernel
theorem dX4_rule_70 : decode cX4_rule 70 = .ok (.getfield 94, 3) := by decide +kernel
theorem dX4_rule_73 : decode cX4_rule 73 = .ok (.iadd, 1) := by decide +kernel
theorem dX4_rule_74 : decode cX4_rule 74 = .ok (.ireturn, 1) := by decide +kernel
theorem dX4_rule_75 : decode cX4_rule 75 = .ok (.aload_n 0, 1) := by decide +kernel
theorem dX4_rule_76 : decode cX4_rule 76 = .ok (.getfield 10, 3) := by decide +kernel
theorem dX4_rule_79 : decode cX4_rule 79 = .ok (.invokevirtual 97, 3) := by decide +kernel
theorem dX4_rule_82 : decode cX4_rule 82 = .ok (.ireturn, 1) := by decide +kernel
theorem dX4_rule_83 : decode cX4_rule 83 = .ok (.aload_n 0, 1) := by decide +kernel
theorem dX4_rule_84 : decode cX4_rule 84 = .ok (.getfield 10, 3) := by decide +kernel
theorem dX4_rule_87 : decode cX4_rule 87 = .ok (.getfield 87, 3) := by decide +kernel
theorem dX4_rule_90 : decode cX4_rule 90 = .ok (.ifCond .ne 8, 3) := by decide +kernel
theorem dX4_rule_93 : decode cX4_rule 93 = .ok (.bipush (-4), 2) := by decide +kernel
theorem dX4_rule_95 : decode cX4_rule 95 = .ok (.goto 21, 3) := by decide +kernel
theorem dX4_rule_98 : decode cX4_rule 98 = .ok (.bipush 10, 2) := by decide +kernel
theorem dX4_rule_100 : decode cX4_rule 100 = .ok (.aload_n 0, 1) := by decide +kernel
theorem dX4_rule_101 : decode cX4_rule 101 = .ok (.getfield 10, 3) := by decide +kernel
theorem dX4_rule_104 : decode cX4_rule 104 = .ok (.getfield 101, 3) := by decide +kernel
theorem dX4_rule_107 : decode cX4_rule 107 = .ok (.aload_n 0, 1) := by decide +kernel
theorem dX4_rule_108 : decode cX4_rule 108 = .ok (.getfield 10, 3) := by decide +kernel
theorem dX4_rule_111 : decode cX4_rule 111 = .ok (.invokevirtual 104, 3) := by decide +kernel
theorem dX4_rule_114 : decode cX4_rule 114 = .ok (.iaload, 1) := by decide +kernel
theorem dX4_rule_115 : decode cX4_rule 115 = .ok (.iadd, 1) := by decide +kernel
theorem dX4_rule_116 : decode cX4_rule 116 = .ok (.ireturn, 1) := by decide +kernel
theorem dX4_rule_117 : decode cX4_rule 117 = .ok (.iconst (-1), 1) := by decide +kernel
theorem dX4_rule_118 : decode cX4_rule 118 = .ok (.ireturn, 1) := by decide +kernel
set_option maxRecDepth 20000 in
theorem ggX4_arm_X4_isArm : GoodIn wsX4_arm wsX4_isArm := goodIn_r _ [12, 1, 13, 14, 15, 11, 16, 25, 26, 27, 28, 29, 30, 31, 32, 33, 34, 35, 36, 37, 38, 39, 40, 41, 42, 43, 44, 45] (by decide +kernel) (by decide +kernel)
set_option maxRecDepth 20000 in
theorem gX4_arm_X4_isArm : GoodIn wsX4_arm (wsV RX4 107 RX4 yX4_isArm wsX4_isArm) := goodIn_app (goodIn_of _ (by decide +kernel)) ggX4_arm_X4_isArm
set_option maxRecDepth 20000 in
theorem ggX4_arm_X0_playOf : GoodIn wsX4_arm wsX0_playOf := goodIn_r _ [21, 22, 23, 24, 34, 35, 36, 37, 38, 39, 40, 41, 42, 43, 44, 45] (by decide +kernel) (by decide +kernel)
set_option maxRecDepth 20000 in
theorem gX4_arm_X0_playOf : GoodIn wsX4_arm (wsV RX4 125 RX0 yX0_playOf wsX0_playOf) := goodIn_app (goodIn_of _ (by decide +kernel)) ggX4_arm_X0_playOf
theorem dX4_arm_0 : decode cX4_arm 0 = .ok (.aload_n 0, 1) := by decide +kernel
theorem dX4_arm_1 : decode cX4_arm 1 = .ok (.iload_n 1, 1) := by decide +kernel
theorem dX4_arm_2 : decode cX4_arm 2 = .ok (.invokevirtual 107, 3) := by decide +kernel
theorem dX4_arm_5 : decode cX4_arm 5 = .ok (.ifCond .ne 5, 3) := by decide +kernel
theorem dX4_arm_8 : decode cX4_arm 8 = .ok (.iconst (-1), 1) := by decide +kernel
theorem dX4_arm_9 : decode cX4_arm 9 = .ok (.ireturn, 1) := by decide +kernel
theorem dX4_arm_10 : decode cX4_arm 10 = .ok (.iload_n 2, 1) := by decide +kernel
theorem dX4_arm_11 : decode cX4_arm 11 = .ok (.tableswitch 101 0 5 #[37, 47, 57, 70, 80, 92], 37) := by decide +kernel
theorem dX4_arm_48 : decode cX4_arm 48 = .ok (.aload_n 0, 1) := by decide +kernel
theorem dX4_arm_49 : decode cX4_arm 49 = .ok (.getfield 10, 3) := by decide +kernel
theorem dX4_arm_52 : decode cX4_arm 52 = .ok (.getfield 110, 3) := by decide +kernel
theorem dX4_arm_55 : decode cX4_arm 55 = .ok (.iload_n 1, 1) := by decide +kernel
theorem dX4_arm_56 : decode cX4_arm 56 = .ok (.iaload, 1) := by decide +kernel
theorem dX4_arm_57 : decode cX4_arm 57 = .ok (.ireturn, 1) := by decide +kernel
theorem dX4_arm_58 : decode cX4_arm 58 = .ok (.aload_n 0, 1) := by decide +kernel
theorem dX4_arm_59 : decode cX4_arm 59 = .ok (.getfield 10, 3) := by decide +kernel
theorem dX4_arm_62 : decode cX4_arm 62 = .ok (.getfield 113, 3) := by decide +kernel
theorem dX4_arm_65 : decode cX4_arm 65 = .ok (.iload_n 1, 1) := by decide +kernel
theorem dX4_arm_66 : decode cX4_arm 66 = .ok (.iaload, 1) := by decide +kernel
theorem dX4_arm_67 : decode cX4_arm 67 = .ok (.ireturn, 1) := by decide +kernel
theorem dX4_arm_68 : decode cX4_arm 68 = .ok (.ldc 93, 2) := by decide +kernel
theorem dX4_arm_70 : decode cX4_arm 70 = .ok (.aload_n 0, 1) := by decide +kernel
theorem dX4_arm_71 : decode cX4_arm 71 = .ok (.getfield 10, 3) := by decide +kernel
theorem dX4_arm_74 : decode cX4_arm 74 = .ok (.getfield 116, 3) := by decide +kernel
theorem dX4_arm_77 : decode cX4_arm 77 = .ok (.iload_n 1, 1) := by decide +kernel
theorem dX4_arm_78 : decode cX4_arm 78 = .ok (.iaload, 1) := by decide +kernel
theorem dX4_arm_79 : decode cX4_arm 79 = .ok (.iadd, 1) := by decide +kernel
theorem dX4_arm_80 : decode cX4_arm 80 = .ok (.ireturn, 1) := by decide +kernel
theorem dX4_arm_81 : decode cX4_arm 81 = .ok (.aload_n 0, 1) := by decide +kernel
theorem dX4_arm_82 : decode cX4_arm 82 = .ok (.getfield 10, 3) := by decide +kernel
theorem dX4_arm_85 : decode cX4_arm 85 = .ok (.getfield 119, 3) := by decide +kernel
theorem dX4_arm_88 : decode cX4_arm 88 = .ok (.iload_n 1, 1) := by decide +kernel
theorem dX4_arm_89 : decode cX4_arm 89 = .ok (.iaload, 1) := by decide +kernel
theorem dX4_arm_90 : decode cX4_arm 90 = .ok (.ireturn, 1) := by decide +kernel
theorem dX4_arm_91 : decode cX4_arm 91 = .ok (.iconst 1, 1) := by decide +kernel
theorem dX4_arm_92 : decode cX4_arm 92 = .ok (.aload_n 0, 1) := by decide +kernel
theorem dX4_arm_93 : decode cX4_arm 93 = .ok (.getfield 10, 3) := by decide +kernel
theorem dX4_arm_96 : decode cX4_arm 96 = .ok (.getfield 122, 3) := by decide +kernel
theorem dX4_arm_99 : decode cX4_arm 99 = .ok (.iload_n 1, 1) := by decide +kernel
theorem dX4_arm_100 : decode cX4_arm 100 = .ok (.iaload, 1) := by decide +kernel
theorem dX4_arm_101 : decode cX4_arm 101 = .ok (.iadd, 1) := by decide +kernel
theorem dX4_arm_102 : decode cX4_arm 102 = .ok (.ireturn, 1) := by decide +kernel
theorem dX4_arm_103 : decode cX4_arm 103 = .ok (.aload_n 0, 1) := by decide +kernel
theorem dX4_arm_104 : decode cX4_arm 104 = .ok (.getfield 10, 3) := by decide +kernel
theorem dX4_arm_107 : decode cX4_arm 107 = .ok (.iload_n 1, 1) := by decide +kernel
theorem dX4_arm_108 : decode cX4_arm 108 = .ok (.invokevirtual 125, 3) := by decide +kernel
theorem dX4_arm_111 : decode cX4_arm 111 = .ok (.ireturn, 1) := by decide +kernel
theorem dX4_arm_112 : decode cX4_arm 112 = .ok (.iconst (-1), 1) := by decide +kernel
theorem dX4_arm_113 : decode cX4_arm 113 = .ok (.ireturn, 1) := by decide +kernel
set_option maxRecDepth 20000 in
theorem ggX4_stroke_X4_isStroke : GoodIn wsX4_stroke wsX4_isStroke := goodIn_r _ [7, 1, 8, 9, 10, 6, 11, 12, 13, 14, 15, 16, 17, 18, 19, 20, 21, 22, 23, 24, 25, 26, 27, 28, 29, 30, 31, 32] (by decide +kernel) (by decide +kernel)
set_option maxRecDepth 20000 in
theorem gX4_stroke_X4_isStroke : GoodIn wsX4_stroke (wsV RX4 129 RX4 yX4_isStroke wsX4_isStroke) := goodIn_app (goodIn_of _ (by decide +kernel)) ggX4_stroke_X4_isStroke
theorem dX4_stroke_0 : decode cX4_stroke 0 = .ok (.aload_n 0, 1) := by decide +kernel
theorem dX4_stroke_1 : decode cX4_stroke 1 = .ok (.iload_n 1, 1) := by decide +kernel
theorem dX4_stroke_2 : decode cX4_stroke 2 = .ok (.invokevirtual 129, 3) := by decide +kernel
theorem dX4_stroke_5 : decode cX4_stroke 5 = .ok (.ifCond .eq 18, 3) := by decide +kernel
theorem dX4_stroke_8 : decode cX4_stroke 8 = .ok (.bipush 10, 2) := by decide +kernel
theorem dX4_stroke_10 : decode cX4_stroke 10 = .ok (.aload_n 0, 1) := by decide +kernel
theorem dX4_stroke_11 : decode cX4_stroke 11 = .ok (.getfield 10, 3) := by decide +kernel
theorem dX4_stroke_14 : decode cX4_stroke 14 = .ok (.getfield 101, 3) := by decide +kernel
theorem dX4_stroke_17 : decode cX4_stroke 17 = .ok (.iload_n 1, 1) := by decide +kernel
theorem dX4_stroke_18 : decode cX4_stroke 18 = .ok (.iaload, 1) := by decide +kernel
theorem dX4_stroke_19 : decode cX4_stroke 19 = .ok (.iadd, 1) := by decide +kernel
theorem dX4_stroke_20 : decode cX4_stroke 20 = .ok (.goto 4, 3) := by decide +kernel
theorem dX4_stroke_23 : decode cX4_stroke 23 = .ok (.iconst (-1), 1) := by decide +kernel
theorem dX4_stroke_24 : decode cX4_stroke 24 = .ok (.ireturn, 1) := by decide +kernel
set_option maxRecDepth 20000 in
theorem ggX4_alter_X4_isArm : GoodIn wsX4_alter wsX4_isArm := goodIn_r _ [6, 1, 7, 8, 9, 5, 10, 26, 27, 28, 29, 30, 31, 32, 33, 34, 35, 36, 37, 38, 39, 40, 41, 42, 43, 44, 45, 46] (by decide +kernel) (by decide +kernel)
set_option maxRecDepth 20000 in
theorem gX4_alter_X4_isArm : GoodIn wsX4_alter (wsV RX4 107 RX4 yX4_isArm wsX4_isArm) := goodIn_app (goodIn_of _ (by decide +kernel)) ggX4_alter_X4_isArm
set_option maxRecDepth 20000 in
theorem ggX4_alter_X4_within : GoodIn wsX4_alter wsX4_within := goodIn_r _ [10] (by decide +kernel) (by decide +kernel)
set_option maxRecDepth 20000 in
theorem gX4_alter_X4_within : GoodIn wsX4_alter (va_wsS RX4 56 yX4_within wsX4_within) := goodIn_app (goodIn_of _ (by decide +kernel)) ggX4_alter_X4_within
set_option maxRecDepth 20000 in
theorem ggX4_alter_X4_mostOf : GoodIn wsX4_alter wsX4_mostOf := goodIn_r _ [13] (by decide +kernel) (by decide +kernel)
set_option maxRecDepth 20000 in
theorem gX4_alter_X4_mostOf : GoodIn wsX4_alter (va_wsS RX4 132 yX4_mostOf wsX4_mostOf) := goodIn_app (goodIn_of _ (by decide +kernel)) ggX4_alter_X4_mostOf
set_option maxRecDepth 20000 in
theorem ggX4_alter_X0_settingOf : GoodIn wsX4_alter wsX0_settingOf := goodIn_r _ [18, 19, 20, 21, 35, 36, 37, 38, 39, 40, 41, 42, 43, 44, 45, 46] (by decide +kernel) (by decide +kernel)
set_option maxRecDepth 20000 in
theorem gX4_alter_X0_settingOf : GoodIn wsX4_alter (wsV RX4 135 RX0 yX0_settingOf wsX0_settingOf) := goodIn_app (goodIn_of _ (by decide +kernel)) ggX4_alter_X0_settingOf
set_option maxRecDepth 20000 in
theorem ggX4_alter_X0_changeSetting : GoodIn wsX4_alter wsX0_changeSetting := goodIn_r _ [25, 19, 20, 21, 35, 36, 37, 38, 39, 40, 41, 42, 43, 44, 45, 46] (by decide +kernel) (by decide +kernel)
set_option maxRecDepth 20000 in
theorem gX4_alter_X0_changeSetting : GoodIn wsX4_alter (wsV RX4 139 RX0 yX0_changeSetting wsX0_changeSetting) := goodIn_app (goodIn_of _ (by decide +kernel)) ggX4_alter_X0_changeSetting
theorem dX4_alter_0 : decode cX4_alter 0 = .ok (.aload_n 0, 1) := by decide +kernel
theorem dX4_alter_1 : decode cX4_alter 1 = .ok (.iload_n 1, 1) := by decide +kernel
theorem dX4_alter_2 : decode cX4_alter 2 = .ok (.invokevirtual 107, 3) := by decide +kernel
theorem dX4_alter_5 : decode cX4_alter 5 = .ok (.ifCond .eq 24, 3) := by decide +kernel
theorem dX4_alter_8 : decode cX4_alter 8 = .ok (.iload_n 2, 1) := by decide +kernel
theorem dX4_alter_9 : decode cX4_alter 9 = .ok (.iconst 0, 1) := by decide +kernel
theorem dX4_alter_10 : decode cX4_alter 10 = .ok (.iconst 2, 1) := by decide +kernel
theorem dX4_alter_11 : decode cX4_alter 11 = .ok (.invokestatic 56, 3) := by decide +kernel
theorem dX4_alter_14 : decode cX4_alter 14 = .ok (.ifCond .eq 15, 3) := by decide +kernel
theorem dX4_alter_17 : decode cX4_alter 17 = .ok (.iload_n 3, 1) := by decide +kernel
theorem dX4_alter_18 : decode cX4_alter 18 = .ok (.iconst 0, 1) := by decide +kernel
theorem dX4_alter_19 : decode cX4_alter 19 = .ok (.iload_n 2, 1) := by decide +kernel
theorem dX4_alter_20 : decode cX4_alter 20 = .ok (.invokestatic 132, 3) := by decide +kernel
theorem dX4_alter_23 : decode cX4_alter 23 = .ok (.invokestatic 56, 3) := by decide +kernel
theorem dX4_alter_26 : decode cX4_alter 26 = .ok (.ifCond .ne 5, 3) := by decide +kernel
theorem dX4_alter_29 : decode cX4_alter 29 = .ok (.iconst (-1), 1) := by decide +kernel
theorem dX4_alter_30 : decode cX4_alter 30 = .ok (.ireturn, 1) := by decide +kernel
theorem dX4_alter_31 : decode cX4_alter 31 = .ok (.aload_n 0, 1) := by decide +kernel
theorem dX4_alter_32 : decode cX4_alter 32 = .ok (.getfield 10, 3) := by decide +kernel
theorem dX4_alter_35 : decode cX4_alter 35 = .ok (.iload_n 1, 1) := by decide +kernel
theorem dX4_alter_36 : decode cX4_alter 36 = .ok (.iload_n 2, 1) := by decide +kernel
theorem dX4_alter_37 : decode cX4_alter 37 = .ok (.invokevirtual 135, 3) := by decide +kernel
theorem dX4_alter_40 : decode cX4_alter 40 = .ok (.istore 4, 2) := by decide +kernel
theorem dX4_alter_42 : decode cX4_alter 42 = .ok (.aload_n 0, 1) := by decide +kernel
theorem dX4_alter_43 : decode cX4_alter 43 = .ok (.getfield 10, 3) := by decide +kernel
theorem dX4_alter_46 : decode cX4_alter 46 = .ok (.iload_n 1, 1) := by decide +kernel
theorem dX4_alter_47 : decode cX4_alter 47 = .ok (.iload_n 2, 1) := by decide +kernel
theorem dX4_alter_48 : decode cX4_alter 48 = .ok (.iload_n 3, 1) := by decide +kernel
theorem dX4_alter_49 : decode cX4_alter 49 = .ok (.invokevirtual 139, 3) := by decide +kernel
theorem dX4_alter_52 : decode cX4_alter 52 = .ok (.iload 4, 2) := by decide +kernel
theorem dX4_alter_54 : decode cX4_alter 54 = .ok (.ireturn, 1) := by decide +kernel
set_option maxRecDepth 20000 in
theorem ggX4_hang_X4_within : GoodIn wsX4_hang wsX4_within := goodIn_r _ [6] (by decide +kernel) (by decide +kernel)
set_option maxRecDepth 20000 in
theorem gX4_hang_X4_within : GoodIn wsX4_hang (va_wsS RX4 56 yX4_within wsX4_within) := goodIn_app (goodIn_of _ (by decide +kernel)) ggX4_hang_X4_within
set_option maxRecDepth 20000 in
theorem ggX4_hang_X0_appendArm : GoodIn wsX4_hang wsX0_appendArm := goodIn_r _ [11, 12, 13, 14, 15, 16, 17, 18, 19, 20, 10, 21, 22, 32, 33, 34, 35, 36, 37, 38, 39, 40, 41, 42, 43] (by decide +kernel) (by decide +kernel)
set_option maxRecDepth 20000 in
theorem gX4_hang_X0_appendArm : GoodIn wsX4_hang (wsV RX4 143 RX0 yX0_appendArm wsX0_appendArm) := goodIn_app (goodIn_of _ (by decide +kernel)) ggX4_hang_X0_appendArm
theorem dX4_hang_0 : decode cX4_hang 0 = .ok (.iload_n 1, 1) := by decide +kernel
theorem dX4_hang_1 : decode cX4_hang 1 = .ok (.iconst 0, 1) := by decide +kernel
theorem dX4_hang_2 : decode cX4_hang 2 = .ok (.iconst 3, 1) := by decide +kernel
theorem dX4_hang_3 : decode cX4_hang 3 = .ok (.invokestatic 56, 3) := by decide +kernel
theorem dX4_hang_6 : decode cX4_hang 6 = .ok (.ifCond .eq 13, 3) := by decide +kernel
theorem dX4_hang_9 : decode cX4_hang 9 = .ok (.iload_n 2, 1) := by decide +kernel
theorem dX4_hang_10 : decode cX4_hang 10 = .ok (.iconst 0, 1) := by decide +kernel
theorem dX4_hang_11 : decode cX4_hang 11 = .ok (.bipush 9, 2) := by decide +kernel
theorem dX4_hang_13 : decode cX4_hang 13 = .ok (.invokestatic 56, 3) := by decide +kernel
theorem dX4_hang_16 : decode cX4_hang 16 = .ok (.ifCond .ne 5, 3) := by decide +kernel
theorem dX4_hang_19 : decode cX4_hang 19 = .ok (.iconst (-1), 1) := by decide +kernel
theorem dX4_hang_20 : decode cX4_hang 20 = .ok (.ireturn, 1) := by decide +kernel
theorem dX4_hang_21 : decode cX4_hang 21 = .ok (.aload_n 0, 1) := by decide +kernel
theorem dX4_hang_22 : decode cX4_hang 22 = .ok (.getfield 10, 3) := by decide +kernel
theorem dX4_hang_25 : decode cX4_hang 25 = .ok (.iload_n 1, 1) := by decide +kernel
theorem dX4_hang_26 : decode cX4_hang 26 = .ok (.iload_n 2, 1) := by decide +kernel
theorem dX4_hang_27 : decode cX4_hang 27 = .ok (.invokevirtual 143, 3) := by decide +kernel
theorem dX4_hang_30 : decode cX4_hang 30 = .ok (.ifCond .eq 13, 3) := by decide +kernel
theorem dX4_hang_33 : decode cX4_hang 33 = .ok (.aload_n 0, 1) := by decide +kernel
theorem dX4_hang_34 : decode cX4_hang 34 = .ok (.getfield 10, 3) := by decide +kernel
theorem dX4_hang_37 : decode cX4_hang 37 = .ok (.getfield 84, 3) := by decide +kernel
theorem dX4_hang_40 : decode cX4_hang 40 = .ok (.goto 5, 3) := by decide +kernel
theorem dX4_hang_43 : decode cX4_hang 43 = .ok (.bipush (-3), 2) := by decide +kernel
theorem dX4_hang_45 : decode cX4_hang 45 = .ok (.ireturn, 1) := by decide +kernel
set_option maxRecDepth 20000 in
theorem ggX4_cut_X4_within : GoodIn wsX4_cut wsX4_within := goodIn_r _ [6] (by decide +kernel) (by decide +kernel)
set_option maxRecDepth 20000 in
theorem gX4_cut_X4_within : GoodIn wsX4_cut (va_wsS RX4 56 yX4_within wsX4_within) := goodIn_app (goodIn_of _ (by decide +kernel)) ggX4_cut_X4_within
theorem dX4_cut_0 : decode cX4_cut 0 = .ok (.iload_n 1, 1) := by decide +kernel
theorem dX4_cut_1 : decode cX4_cut 1 = .ok (.iconst 0, 1) := by decide +kernel
theorem dX4_cut_2 : decode cX4_cut 2 = .ok (.aload_n 0, 1) := by decide +kernel
theorem dX4_cut_3 : decode cX4_cut 3 = .ok (.getfield 10, 3) := by decide +kernel
theorem dX4_cut_6 : decode cX4_cut 6 = .ok (.getfield 84, 3) := by decide +kernel
theorem dX4_cut_9 : decode cX4_cut 9 = .ok (.invokestatic 56, 3) := by decide +kernel
theorem dX4_cut_12 : decode cX4_cut 12 = .ok (.ifCond .ne 5, 3) := by decide +kernel
theorem dX4_cut_15 : decode cX4_cut 15 = .ok (.iconst (-1), 1) := by decide +kernel
theorem dX4_cut_16 : decode cX4_cut 16 = .ok (.ireturn, 1) := by decide +kernel
theorem dX4_cut_17 : decode cX4_cut 17 = .ok (.aload_n 0, 1) := by decide +kernel
theorem dX4_cut_18 : decode cX4_cut 18 = .ok (.getfield 10, 3) := by decide +kernel
theorem dX4_cut_21 : decode cX4_cut 21 = .ok (.getfield 84, 3) := by decide +kernel
theorem dX4_cut_24 : decode cX4_cut 24 = .ok (.istore_n 2, 1) := by decide +kernel
theorem dX4_cut_25 : decode cX4_cut 25 = .ok (.aload_n 0, 1) := by decide +kernel
theorem dX4_cut_26 : decode cX4_cut 26 = .ok (.getfield 10, 3) := by decide +kernel
theorem dX4_cut_29 : decode cX4_cut 29 = .ok (.iload_n 1, 1) := by decide +kernel
theorem dX4_cut_30 : decode cX4_cut 30 = .ok (.putfield 84, 3) := by decide +kernel
theorem dX4_cut_33 : decode cX4_cut 33 = .ok (.iload_n 2, 1) := by decide +kernel
theorem dX4_cut_34 : decode cX4_cut 34 = .ok (.ireturn, 1) := by decide +kernel
set_option maxRecDepth 20000 in
theorem ggX4_set_X4_isStroke : GoodIn wsX4_set wsX4_isStroke := goodIn_r _ [7, 1, 8, 9, 10, 6, 11, 15, 16, 17, 18, 19, 20, 21, 22, 23, 24, 25, 26, 27, 28, 29, 30, 31, 32, 33, 34, 35] (by decide +kernel) (by decide +kernel)
set_option maxRecDepth 20000 in
theorem gX4_set_X4_isStroke : GoodIn wsX4_set (wsV RX4 129 RX4 yX4_isStroke wsX4_isStroke) := goodIn_app (goodIn_of _ (by decide +kernel)) ggX4_set_X4_isStroke
set_option maxRecDepth 20000 in
theorem ggX4_set_X4_isShiftedStroke : GoodIn wsX4_set wsX4_isShiftedStroke := goodIn_r _ [14, 9, 10, 6, 11] (by decide +kernel) (by decide +kernel)
set_option maxRecDepth 20000 in
theorem gX4_set_X4_isShiftedStroke : GoodIn wsX4_set (va_wsS RX4 147 yX4_isShiftedStroke wsX4_isShiftedStroke) := goodIn_app (goodIn_of _ (by decide +kernel)) ggX4_set_X4_isShiftedStroke
theorem dX4_set_0 : decode cX4_set 0 = .ok (.aload_n 0, 1) := by decide +kernel
theorem dX4_set_1 : decode cX4_set 1 = .ok (.iload_n 1, 1) := by decide +kernel
theorem dX4_set_2 : decode cX4_set 2 = .ok (.invokevirtual 129, 3) := by decide +kernel
theorem dX4_set_5 : decode cX4_set 5 = .ok (.ifCond .eq 10, 3) := by decide +kernel
theorem dX4_set_8 : decode cX4_set 8 = .ok (.iload_n 2, 1) := by decide +kernel
theorem dX4_set_9 : decode cX4_set 9 = .ok (.invokestatic 147, 3) := by decide +kernel
theorem dX4_set_12 : decode cX4_set 12 = .ok (.ifCond .ne 5, 3) := by decide +kernel
theorem dX4_set_15 : decode cX4_set 15 = .ok (.iconst (-1), 1) := by decide +kernel
theorem dX4_set_16 : decode cX4_set 16 = .ok (.ireturn, 1) := by decide +kernel
theorem dX4_set_17 : decode cX4_set 17 = .ok (.aload_n 0, 1) := by decide +kernel
theorem dX4_set_18 : decode cX4_set 18 = .ok (.getfield 10, 3) := by decide +kernel
theorem dX4_set_21 : decode cX4_set 21 = .ok (.getfield 101, 3) := by decide +kernel
theorem dX4_set_24 : decode cX4_set 24 = .ok (.iload_n 1, 1) := by decide +kernel
theorem dX4_set_25 : decode cX4_set 25 = .ok (.iaload, 1) := by decide +kernel
theorem dX4_set_26 : decode cX4_set 26 = .ok (.bipush 9, 2) := by decide +kernel
theorem dX4_set_28 : decode cX4_set 28 = .ok (.iadd, 1) := by decide +kernel
theorem dX4_set_29 : decode cX4_set 29 = .ok (.istore_n 3, 1) := by decide +kernel
theorem dX4_set_30 : decode cX4_set 30 = .ok (.aload_n 0, 1) := by decide +kernel
theorem dX4_set_31 : decode cX4_set 31 = .ok (.getfield 10, 3) := by decide +kernel
theorem dX4_set_34 : decode cX4_set 34 = .ok (.getfield 101, 3) := by decide +kernel
theorem dX4_set_37 : decode cX4_set 37 = .ok (.iload_n 1, 1) := by decide +kernel
theorem dX4_set_38 : decode cX4_set 38 = .ok (.iload_n 2, 1) := by decide +kernel
theorem dX4_set_39 : decode cX4_set 39 = .ok (.bipush 9, 2) := by decide +kernel
theorem dX4_set_41 : decode cX4_set 41 = .ok (.isub, 1) := by decide +kernel
theorem dX4_set_42 : decode cX4_set 42 = .ok (.iastore, 1) := by decide +kernel
theorem dX4_set_43 : decode cX4_set 43 = .ok (.iload_n 3, 1) := by decide +kernel
theorem dX4_set_44 : decode cX4_set 44 = .ok (.ireturn, 1) := by decide +kernel
set_option maxRecDepth 20000 in
theorem ggX4_add_X4_isShiftedStroke : GoodIn wsX4_add wsX4_isShiftedStroke := goodIn_r _ [6, 7, 8, 5, 9] (by decide +kernel) (by decide +kernel)
set_option maxRecDepth 20000 in
theorem gX4_add_X4_isShiftedStroke : GoodIn wsX4_add (va_wsS RX4 147 yX4_isShiftedStroke wsX4_isShiftedStroke) := goodIn_app (goodIn_of _ (by decide +kernel)) ggX4_add_X4_isShiftedStroke
set_option maxRecDepth 20000 in
theorem ggX4_add_X0_appendStroke : GoodIn wsX4_add wsX0_appendStroke := goodIn_r _ [14, 15, 16, 26, 27, 28, 29, 30, 31, 32, 33, 34, 35, 36, 37] (by decide +kernel) (by decide +kernel)
set_option maxRecDepth 20000 in
theorem gX4_add_X0_appendStroke : GoodIn wsX4_add (wsV RX4 150 RX0 yX0_appendStroke wsX0_appendStroke) := goodIn_app (goodIn_of _ (by decide +kernel)) ggX4_add_X0_appendStroke
theorem dX4_add_0 : decode cX4_add 0 = .ok (.iload_n 1, 1) := by decide +kernel
theorem dX4_add_1 : decode cX4_add 1 = .ok (.invokestatic 147, 3) := by decide +kernel
theorem dX4_add_4 : decode cX4_add 4 = .ok (.ifCond .ne 5, 3) := by decide +kernel
theorem dX4_add_7 : decode cX4_add 7 = .ok (.iconst (-1), 1) := by decide +kernel
theorem dX4_add_8 : decode cX4_add 8 = .ok (.ireturn, 1) := by decide +kernel
theorem dX4_add_9 : decode cX4_add 9 = .ok (.aload_n 0, 1) := by decide +kernel
theorem dX4_add_10 : decode cX4_add 10 = .ok (.getfield 10, 3) := by decide +kernel
theorem dX4_add_13 : decode cX4_add 13 = .ok (.iload_n 1, 1) := by decide +kernel
theorem dX4_add_14 : decode cX4_add 14 = .ok (.bipush 9, 2) := by decide +kernel
theorem dX4_add_16 : decode cX4_add 16 = .ok (.isub, 1) := by decide +kernel
theorem dX4_add_17 : decode cX4_add 17 = .ok (.invokevirtual 150, 3) := by decide +kernel
theorem dX4_add_20 : decode cX4_add 20 = .ok (.ifCond .eq 13, 3) := by decide +kernel
theorem dX4_add_23 : decode cX4_add 23 = .ok (.aload_n 0, 1) := by decide +kernel
theorem dX4_add_24 : decode cX4_add 24 = .ok (.getfield 10, 3) := by decide +kernel
theorem dX4_add_27 : decode cX4_add 27 = .ok (.getfield 87, 3) := by decide +kernel
theorem dX4_add_30 : decode cX4_add 30 = .ok (.goto 5, 3) := by decide +kernel
theorem dX4_add_33 : decode cX4_add 33 = .ok (.bipush (-3), 2) := by decide +kernel
theorem dX4_add_35 : decode cX4_add 35 = .ok (.ireturn, 1) := by decide +kernel
set_option maxRecDepth 20000 in
theorem ggX4_drop_X4_within : GoodIn wsX4_drop wsX4_within := goodIn_r _ [6] (by decide +kernel) (by decide +kernel)
set_option maxRecDepth 20000 in
theorem gX4_drop_X4_within : GoodIn wsX4_drop (va_wsS RX4 56 yX4_within wsX4_within) := goodIn_app (goodIn_of _ (by decide +kernel)) ggX4_drop_X4_within
theorem dX4_drop_0 : decode cX4_drop 0 = .ok (.iload_n 1, 1) := by decide +kernel
theorem dX4_drop_1 : decode cX4_drop 1 = .ok (.iconst 0, 1) := by decide +kernel
theorem dX4_drop_2 : decode cX4_drop 2 = .ok (.aload_n 0, 1) := by decide +kernel
theorem dX4_drop_3 : decode cX4_drop 3 = .ok (.getfield 10, 3) := by decide +kernel
theorem dX4_drop_6 : decode cX4_drop 6 = .ok (.getfield 87, 3) := by decide +kernel
theorem dX4_drop_9 : decode cX4_drop 9 = .ok (.invokestatic 56, 3) := by decide +kernel
theorem dX4_drop_12 : decode cX4_drop 12 = .ok (.ifCond .ne 5, 3) := by decide +kernel
theorem dX4_drop_15 : decode cX4_drop 15 = .ok (.iconst (-1), 1) := by decide +kernel
theorem dX4_drop_16 : decode cX4_drop 16 = .ok (.ireturn, 1) := by decide +kernel
theorem dX4_drop_17 : decode cX4_drop 17 = .ok (.aload_n 0, 1) := by decide +kernel
theorem dX4_drop_18 : decode cX4_drop 18 = .ok (.getfield 10, 3) := by decide +kernel
theorem dX4_drop_21 : decode cX4_drop 21 = .ok (.getfield 87, 3) := by decide +kernel
theorem dX4_drop_24 : decode cX4_drop 24 = .ok (.istore_n 2, 1) := by decide +kernel
theorem dX4_drop_25 : decode cX4_drop 25 = .ok (.aload_n 0, 1) := by decide +kernel
theorem dX4_drop_26 : decode cX4_drop 26 = .ok (.getfield 10, 3) := by decide +kernel
theorem dX4_drop_29 : decode cX4_drop 29 = .ok (.iload_n 1, 1) := by decide +kernel
theorem dX4_drop_30 : decode cX4_drop 30 = .ok (.putfield 87, 3) := by decide +kernel
theorem dX4_drop_33 : decode cX4_drop 33 = .ok (.iload_n 2, 1) := by decide +kernel
theorem dX4_drop_34 : decode cX4_drop 34 = .ok (.ireturn, 1) := by decide +kernel
set_option maxRecDepth 20000 in
theorem ggX4_pull_X4_isShiftedStroke : GoodIn wsX4_pull wsX4_isShiftedStroke := goodIn_r _ [5, 6, 7, 4, 8] (by decide +kernel) (by decide +kernel)
set_option maxRecDepth 20000 in
theorem gX4_pull_X4_isShiftedStroke : GoodIn wsX4_pull (va_wsS RX4 147 yX4_isShiftedStroke wsX4_isShiftedStroke) := goodIn_app (goodIn_of _ (by decide +kernel)) ggX4_pull_X4_isShiftedStroke
set_option maxRecDepth 20000 in
theorem ggX4_pull_X0_moveHand : GoodIn wsX4_pull wsX0_moveHand := goodIn_r _ [13, 14, 15, 16, 17, 18, 19, 20, 12, 21, 22, 23, 24, 25, 26, 27, 28, 29, 30, 31, 32, 33, 34, 35, 36, 37, 38, 39, 40, 41, 42, 43, 44, 45, 46, 47, 65, 66, 67, 68, 69, 70, 71, 72, 73, 74, 75, 76] (by decide +kernel) (by decide +kernel)
set_option maxRecDepth 20000 in
theorem gX4_pull_X0_moveHand : GoodIn wsX4_pull (wsV RX4 153 RX0 yX0_moveHand wsX0_moveHand) := goodIn_app (goodIn_of _ (by decide +kernel)) ggX4_pull_X0_moveHand
set_option maxRecDepth 20000 in
theorem ggX4_pull_X0_error : GoodIn wsX4_pull wsX0_error := goodIn_r _ [51, 14, 30, 31, 32, 33, 52, 53, 54, 12, 55, 15, 16, 65, 66, 67, 68, 69, 70, 71, 72, 73, 74, 75, 76] (by decide +kernel) (by decide +kernel)
set_option maxRecDepth 20000 in
theorem gX4_pull_X0_error : GoodIn wsX4_pull (wsV RX4 97 RX0 yX0_error wsX0_error) := goodIn_app (goodIn_of _ (by decide +kernel)) ggX4_pull_X0_error
theorem dX4_pull_0 : decode cX4_pull 0 = .ok (.iload_n 1, 1) := by decide +kernel
theorem dX4_pull_1 : decode cX4_pull 1 = .ok (.invokestatic 147, 3) := by decide +kernel
theorem dX4_pull_4 : decode cX4_pull 4 = .ok (.ifCond .ne 5, 3) := by decide +kernel
theorem dX4_pull_7 : decode cX4_pull 7 = .ok (.iconst (-1), 1) := by decide +kernel
theorem dX4_pull_8 : decode cX4_pull 8 = .ok (.ireturn, 1) := by decide +kernel
theorem dX4_pull_9 : decode cX4_pull 9 = .ok (.aload_n 0, 1) := by decide +kernel
theorem dX4_pull_10 : decode cX4_pull 10 = .ok (.getfield 10, 3) := by decide +kernel
theorem dX4_pull_13 : decode cX4_pull 13 = .ok (.iload_n 1, 1) := by decide +kernel
theorem dX4_pull_14 : decode cX4_pull 14 = .ok (.bipush 9, 2) := by decide +kernel
theorem dX4_pull_16 : decode cX4_pull 16 = .ok (.isub, 1) := by decide +kernel
theorem dX4_pull_17 : decode cX4_pull 17 = .ok (.invokevirtual 153, 3) := by decide +kernel
theorem dX4_pull_20 : decode cX4_pull 20 = .ok (.aload_n 0, 1) := by decide +kernel
theorem dX4_pull_21 : decode cX4_pull 21 = .ok (.getfield 10, 3) := by decide +kernel
theorem dX4_pull_24 : decode cX4_pull 24 = .ok (.invokevirtual 97, 3) := by decide +kernel
theorem dX4_pull_27 : decode cX4_pull 27 = .ok (.ireturn, 1) := by decide +kernel
set_option maxRecDepth 20000 in
theorem ggX4_steps_X4_within : GoodIn wsX4_steps wsX4_within := goodIn_r _ [7] (by decide +kernel) (by decide +kernel)
set_option maxRecDepth 20000 in
theorem gX4_steps_X4_within : GoodIn wsX4_steps (va_wsS RX4 56 yX4_within wsX4_within) := goodIn_app (goodIn_of _ (by decide +kernel)) ggX4_steps_X4_within
set_option maxRecDepth 20000 in
theorem ggX4_steps_X0_clearTallies : GoodIn wsX4_steps wsX0_clearTallies := goodIn_r _ [12, 13, 14, 75, 76, 77, 78, 79, 80, 81, 82, 83, 84, 85, 86] (by decide +kernel) (by decide +kernel)
set_option maxRecDepth 20000 in
theorem gX4_steps_X0_clearTallies : GoodIn wsX4_steps (wsV RX4 157 RX0 yX0_clearTallies wsX0_clearTallies) := goodIn_app (goodIn_of _ (by decide +kernel)) ggX4_steps_X0_clearTallies
set_option maxRecDepth 20000 in
theorem ggX4_steps_X0_takeSteps : GoodIn wsX4_steps wsX0_takeSteps := goodIn_r _ [18, 19, 20, 21, 11, 22, 23, 24, 25, 26, 27, 28, 29, 30, 31, 32, 33, 34, 35, 36, 37, 38, 39, 40, 41, 42, 43, 44, 45, 46, 47, 48, 49, 50, 51, 52, 53, 54, 55, 56, 57, 58, 59, 60, 61, 62, 14, 63, 64, 65, 13, 75, 76, 77, 78, 79, 80, 81, 82, 83, 84, 85, 86] (by decide +kernel) (by decide +kernel)
set_option maxRecDepth 20000 in
theorem gX4_steps_X0_takeSteps : GoodIn wsX4_steps (wsV RX4 160 RX0 yX0_takeSteps wsX0_takeSteps) := goodIn_app (goodIn_of _ (by decide +kernel)) ggX4_steps_X0_takeSteps
theorem dX4_steps_0 : decode cX4_steps 0 = .ok (.iload_n 1, 1) := by decide +kernel
theorem dX4_steps_1 : decode cX4_steps 1 = .ok (.iconst 0, 1) := by decide +kernel
theorem dX4_steps_2 : decode cX4_steps 2 = .ok (.bipush 100, 2) := by decide +kernel
theorem dX4_steps_4 : decode cX4_steps 4 = .ok (.invokestatic 56, 3) := by decide +kernel
theorem dX4_steps_7 : decode cX4_steps 7 = .ok (.ifCond .ne 5, 3) := by decide +kernel
theorem dX4_steps_10 : decode cX4_steps 10 = .ok (.iconst (-1), 1) := by decide +kernel
theorem dX4_steps_11 : decode cX4_steps 11 = .ok (.ireturn, 1) := by decide +kernel
theorem dX4_steps_12 : decode cX4_steps 12 = .ok (.aload_n 0, 1) := by decide +kernel
theorem dX4_steps_13 : decode cX4_steps 13 = .ok (.getfield 10, 3) := by decide +kernel
theorem dX4_steps_16 : decode cX4_steps 16 = .ok (.getfield 90, 3) := by decide +kernel
theorem dX4_steps_19 : decode cX4_steps 19 = .ok (.iload_n 1, 1) := by decide +kernel
theorem dX4_steps_20 : decode cX4_steps 20 = .ok (.iadd, 1) := by decide +kernel
theorem dX4_steps_21 : decode cX4_steps 21 = .ok (.sipush 10000, 3) := by decide +kernel
theorem dX4_steps_24 : decode cX4_steps 24 = .ok (.if_icmp .lt 6, 3) := by decide +kernel
theorem dX4_steps_27 : decode cX4_steps 27 = .ok (.bipush (-3), 2) := by decide +kernel
theorem dX4_steps_29 : decode cX4_steps 29 = .ok (.ireturn, 1) := by decide +kernel
theorem dX4_steps_30 : decode cX4_steps 30 = .ok (.aload_n 0, 1) := by decide +kernel
theorem dX4_steps_31 : decode cX4_steps 31 = .ok (.getfield 10, 3) := by decide +kernel
theorem dX4_steps_34 : decode cX4_steps 34 = .ok (.invokevirtual 157, 3) := by decide +kernel
theorem dX4_steps_37 : decode cX4_steps 37 = .ok (.aload_n 0, 1) := by decide +kernel
theorem dX4_steps_38 : decode cX4_steps 38 = .ok (.getfield 10, 3) := by decide +kernel
theorem dX4_steps_41 : decode cX4_steps 41 = .ok (.iload_n 1, 1) := by decide +kernel
theorem dX4_steps_42 : decode cX4_steps 42 = .ok (.invokevirtual 160, 3) := by decide +kernel
theorem dX4_steps_45 : decode cX4_steps 45 = .ok (.aload_n 0, 1) := by decide +kernel
theorem dX4_steps_46 : decode cX4_steps 46 = .ok (.getfield 10, 3) := by decide +kernel
theorem dX4_steps_49 : decode cX4_steps 49 = .ok (.getfield 163, 3) := by decide +kernel
theorem dX4_steps_52 : decode cX4_steps 52 = .ok (.ireturn, 1) := by decide +kernel
set_option maxRecDepth 20000 in
theorem ggX4_runs_X4_isAhead : GoodIn wsX4_runs wsX4_isAhead := goodIn_r _ [14, 15, 16, 13, 17] (by decide +kernel) (by decide +kernel)
set_option maxRecDepth 20000 in
theorem gX4_runs_X4_isAhead : GoodIn wsX4_runs (va_wsS RX4 166 yX4_isAhead wsX4_isAhead) := goodIn_app (goodIn_of _ (by decide +kernel)) ggX4_runs_X4_isAhead
set_option maxRecDepth 20000 in
theorem ggX4_runs_X4_within : GoodIn wsX4_runs wsX4_within := goodIn_r _ [17] (by decide +kernel) (by decide +kernel)
set_option maxRecDepth 20000 in
theorem gX4_runs_X4_within : GoodIn wsX4_runs (va_wsS RX4 56 yX4_within wsX4_within) := goodIn_app (goodIn_of _ (by decide +kernel)) ggX4_runs_X4_within
set_option maxRecDepth 20000 in
theorem ggX4_runs_X0_copyFrom : GoodIn wsX4_runs wsX0_copyFrom := goodIn_r _ [22, 23, 24, 25, 26, 27, 28, 29, 30, 31, 32, 33, 34, 35, 21, 36, 37, 38, 98, 99, 100, 101, 102, 103, 104, 105, 106, 107, 108, 109] (by decide +kernel) (by decide +kernel)
set_option maxRecDepth 20000 in
theorem gX4_runs_X0_copyFrom : GoodIn wsX4_runs (wsV RX4 77 RX0 yX0_copyFrom wsX0_copyFrom) := goodIn_app (goodIn_of _ (by decide +kernel)) ggX4_runs_X0_copyFrom
set_option maxRecDepth 20000 in
theorem ggX4_runs_X0_error : GoodIn wsX4_runs wsX0_error := goodIn_r _ [42, 25, 43, 44, 5, 45, 46, 47, 48, 21, 49, 23, 29, 98, 99, 100, 101, 102, 103, 104, 105, 106, 107, 108, 109] (by decide +kernel) (by decide +kernel)
set_option maxRecDepth 20000 in
theorem gX4_runs_X0_error : GoodIn wsX4_runs (wsV RX4 97 RX0 yX0_error wsX0_error) := goodIn_app (goodIn_of _ (by decide +kernel)) ggX4_runs_X0_error
set_option maxRecDepth 20000 in
theorem ggX4_runs_X0_greatestError : GoodIn wsX4_runs wsX0_greatestError := goodIn_r _ [53, 54, 4, 5, 6, 55, 56, 57, 21, 58, 24, 32, 26, 59, 60, 61, 62, 63, 64, 65, 66, 25, 23, 29, 27, 67, 68, 69, 70, 28, 30, 71, 72, 73, 74, 75, 76, 43, 44, 45, 77, 78, 79, 80, 81, 82, 83, 84, 31, 38, 85, 86, 87, 37, 88, 40, 41, 42, 46, 47, 48, 49, 98, 99, 100, 101, 102, 103, 104, 105, 106, 107, 108, 109] (by decide +kernel) (by decide +kernel)
set_option maxRecDepth 20000 in
theorem gX4_runs_X0_greatestError : GoodIn wsX4_runs (wsV RX4 169 RX0 yX0_greatestError wsX0_greatestError) := goodIn_app (goodIn_of _ (by decide +kernel)) ggX4_runs_X0_greatestError
theorem dX4_runs_0 : decode cX4_runs 0 = .ok (.iload_n 1, 1) := by decide +kernel
theorem dX4_runs_1 : decode cX4_runs 1 = .ok (.invokestatic 166, 3) := by decide +kernel
theorem dX4_runs_4 : decode cX4_runs 4 = .ok (.ifCond .eq 12, 3) := by decide +kernel
theorem dX4_runs_7 : decode cX4_runs 7 = .ok (.iload_n 2, 1) := by decide +kernel
theorem dX4_runs_8 : decode cX4_runs 8 = .ok (.iconst 0, 1) := by decide +kernel
theorem dX4_runs_9 : decode cX4_runs 9 = .ok (.iconst 4, 1) := by decide +kernel
theorem dX4_runs_10 : decode cX4_runs 10 = .ok (.invokestatic 56, 3) := by decide +kernel
theorem dX4_runs_13 : decode cX4_runs 13 = .ok (.ifCond .ne 5, 3) := by decide +kernel
theorem dX4_runs_16 : decode cX4_runs 16 = .ok (.iconst (-1), 1) := by decide +kernel
theorem dX4_runs_17 : decode cX4_runs 17 = .ok (.ireturn, 1) := by decide +kernel
theorem dX4_runs_18 : decode cX4_runs 18 = .ok (.aload_n 0, 1) := by decide +kernel
theorem dX4_runs_19 : decode cX4_runs 19 = .ok (.getfield 16, 3) := by decide +kernel
theorem dX4_runs_22 : decode cX4_runs 22 = .ok (.aload_n 0, 1) := by decide +kernel
theorem dX4_runs_23 : decode cX4_runs 23 = .ok (.getfield 10, 3) := by decide +kernel
theorem dX4_runs_26 : decode cX4_runs 26 = .ok (.invokevirtual 77, 3) := by decide +kernel
theorem dX4_runs_29 : decode cX4_runs 29 = .ok (.aload_n 0, 1) := by decide +kernel
theorem dX4_runs_30 : decode cX4_runs 30 = .ok (.getfield 16, 3) := by decide +kernel
theorem dX4_runs_33 : decode cX4_runs 33 = .ok (.invokevirtual 97, 3) := by decide +kernel
theorem dX4_runs_36 : decode cX4_runs 36 = .ok (.aload_n 0, 1) := by decide +kernel
theorem dX4_runs_37 : decode cX4_runs 37 = .ok (.getfield 16, 3) := by decide +kernel
theorem dX4_runs_40 : decode cX4_runs 40 = .ok (.iload_n 1, 1) := by decide +kernel
theorem dX4_runs_41 : decode cX4_runs 41 = .ok (.invokevirtual 169, 3) := by decide +kernel
theorem dX4_runs_44 : decode cX4_runs 44 = .ok (.invokestatic 172, 3) := by decide +kernel
theorem dX4_runs_47 : decode cX4_runs 47 = .ok (.istore_n 3, 1) := by decide +kernel
theorem dX4_runs_48 : decode cX4_runs 48 = .ok (.iload_n 2, 1) := by decide +kernel
theorem dX4_runs_49 : decode cX4_runs 49 = .ok (.tableswitch 60 0 3 #[31, 39, 50, 58], 31) := by decide +kernel
theorem dX4_runs_80 : decode cX4_runs 80 = .ok (.aload_n 0, 1) := by decide +kernel
theorem dX4_runs_81 : decode cX4_runs 81 = .ok (.getfield 16, 3) := by decide +kernel
theorem dX4_runs_84 : decode cX4_runs 84 = .ok (.getfield 163, 3) := by decide +kernel
theorem dX4_runs_87 : decode cX4_runs 87 = .ok (.ireturn, 1) := by decide +kernel
theorem dX4_runs_88 : decode cX4_runs 88 = .ok (.ldc 93, 2) := by decide +kernel
theorem dX4_runs_90 : decode cX4_runs 90 = .ok (.aload_n 0, 1) := by decide +kernel
theorem dX4_runs_91 : decode cX4_runs 91 = .ok (.getfield 16, 3) := by decide +kernel
theorem dX4_runs_94 : decode cX4_runs 94 = .ok (.getfield 94, 3) := by decide +kernel
theorem dX4_runs_97 : decode cX4_runs 97 = .ok (.iadd, 1) := by decide +kernel
theorem dX4_runs_98 : decode cX4_runs 98 = .ok (.ireturn, 1) := by decide +kernel
theorem dX4_runs_99 : decode cX4_runs 99 = .ok (.aload_n 0, 1) := by decide +kernel
theorem dX4_runs_100 : decode cX4_runs 100 = .ok (.getfield 16, 3) := by decide +kernel
theorem dX4_runs_103 : decode cX4_runs 103 = .ok (.invokevirtual 97, 3) := by decide +kernel
theorem dX4_runs_106 : decode cX4_runs 106 = .ok (.ireturn, 1) := by decide +kernel
theorem dX4_runs_107 : decode cX4_runs 107 = .ok (.iload_n 3, 1) := by decide +kernel
theorem dX4_runs_108 : decode cX4_runs 108 = .ok (.ireturn, 1) := by decide +kernel
theorem dX4_runs_109 : decode cX4_runs 109 = .ok (.aload_n 0, 1) := by decide +kernel
theorem dX4_runs_110 : decode cX4_runs 110 = .ok (.getfield 16, 3) := by decide +kernel
theorem dX4_runs_113 : decode cX4_runs 113 = .ok (.getfield 177, 3) := by decide +kernel
theorem dX4_runs_116 : decode cX4_runs 116 = .ok (.ireturn, 1) := by decide +kernel
set_option maxRecDepth 20000 in
theorem ggX4_ahead_X4_isArm : GoodIn wsX4_ahead wsX4_isArm := goodIn_r _ [9, 2, 10, 11, 12, 8, 13, 79, 80, 81, 82, 83, 84, 85, 86, 87, 88, 89, 90, 91, 92, 93, 94, 95, 96, 97, 98, 99] (by decide +kernel) (by decide +kernel)
set_option maxRecDepth 20000 in
theorem gX4_ahead_X4_isArm : GoodIn wsX4_ahead (wsV RX4 107 RX4 yX4_isArm wsX4_isArm) := goodIn_app (goodIn_of _ (by decide +kernel)) ggX4_ahead_X4_isArm
set_option maxRecDepth 20000 in
theorem ggX4_ahead_X4_isAhead : GoodIn wsX4_ahead wsX4_isAhead := goodIn_r _ [16, 11, 12, 8, 13] (by decide +kernel) (by decide +kernel)
set_option maxRecDepth 20000 in
theorem gX4_ahead_X4_isAhead : GoodIn wsX4_ahead (va_wsS RX4 166 yX4_isAhead wsX4_isAhead) := goodIn_app (goodIn_of _ (by decide +kernel)) ggX4_ahead_X4_isAhead
set_option maxRecDepth 20000 in
theorem ggX4_ahead_X0_copyFrom : GoodIn wsX4_ahead wsX0_copyFrom := goodIn_r _ [21, 22, 23, 24, 25, 26, 27, 28, 29, 30, 31, 32, 33, 34, 20, 35, 36, 37, 88, 89, 90, 91, 92, 93, 94, 95, 96, 97, 98, 99] (by decide +kernel) (by decide +kernel)
set_option maxRecDepth 20000 in
theorem gX4_ahead_X0_copyFrom : GoodIn wsX4_ahead (wsV RX4 77 RX0 yX0_copyFrom wsX0_copyFrom) := goodIn_app (goodIn_of _ (by decide +kernel)) ggX4_ahead_X0_copyFrom
set_option maxRecDepth 20000 in
theorem ggX4_ahead_X0_takeSteps : GoodIn wsX4_ahead wsX0_takeSteps := goodIn_r _ [41, 42, 43, 44, 20, 45, 23, 31, 25, 46, 47, 48, 49, 50, 51, 52, 53, 24, 22, 28, 26, 54, 55, 56, 57, 27, 29, 58, 59, 60, 61, 62, 63, 64, 65, 66, 67, 68, 69, 70, 71, 72, 73, 74, 75, 30, 37, 76, 77, 78, 36, 88, 89, 90, 91, 92, 93, 94, 95, 96, 97, 98, 99] (by decide +kernel) (by decide +kernel)
set_option maxRecDepth 20000 in
theorem gX4_ahead_X0_takeSteps : GoodIn wsX4_ahead (wsV RX4 160 RX0 yX0_takeSteps wsX0_takeSteps) := goodIn_app (goodIn_of _ (by decide +kernel)) ggX4_ahead_X0_takeSteps
theorem dX4_ahead_0 : decode cX4_ahead 0 = .ok (.aload_n 0, 1) := by decide +kernel
theorem dX4_ahead_1 : decode cX4_ahead 1 = .ok (.iload_n 1, 1) := by decide +kernel
theorem dX4_ahead_2 : decode cX4_ahead 2 = .ok (.invokevirtual 107, 3) := by decide +kernel
theorem dX4_ahead_5 : decode cX4_ahead 5 = .ok (.ifCond .eq 10, 3) := by decide +kernel
theorem dX4_ahead_8 : decode cX4_ahead 8 = .ok (.iload_n 2, 1) := by decide +kernel
theorem dX4_ahead_9 : decode cX4_ahead 9 = .ok (.invokestatic 166, 3) := by decide +kernel
theorem dX4_ahead_12 : decode cX4_ahead 12 = .ok (.ifCond .ne 5, 3) := by decide +kernel
theorem dX4_ahead_15 : decode cX4_ahead 15 = .ok (.iconst (-1), 1) := by decide +kernel
theorem dX4_ahead_16 : decode cX4_ahead 16 = .ok (.ireturn, 1) := by decide +kernel
theorem dX4_ahead_17 : decode cX4_ahead 17 = .ok (.aload_n 0, 1) := by decide +kernel
theorem dX4_ahead_18 : decode cX4_ahead 18 = .ok (.getfield 16, 3) := by decide +kernel
theorem dX4_ahead_21 : decode cX4_ahead 21 = .ok (.aload_n 0, 1) := by decide +kernel
theorem dX4_ahead_22 : decode cX4_ahead 22 = .ok (.getfield 10, 3) := by decide +kernel
theorem dX4_ahead_25 : decode cX4_ahead 25 = .ok (.invokevirtual 77, 3) := by decide +kernel
theorem dX4_ahead_28 : decode cX4_ahead 28 = .ok (.aload_n 0, 1) := by decide +kernel
theorem dX4_ahead_29 : decode cX4_ahead 29 = .ok (.getfield 16, 3) := by decide +kernel
theorem dX4_ahead_32 : decode cX4_ahead 32 = .ok (.iload_n 2, 1) := by decide +kernel
theorem dX4_ahead_33 : decode cX4_ahead 33 = .ok (.invokevirtual 160, 3) := by decide +kernel
theorem dX4_ahead_36 : decode cX4_ahead 36 = .ok (.ldc 93, 2) := by decide +kernel
theorem dX4_ahead_38 : decode cX4_ahead 38 = .ok (.aload_n 0, 1) := by decide +kernel
theorem dX4_ahead_39 : decode cX4_ahead 39 = .ok (.getfield 16, 3) := by decide +kernel
theorem dX4_ahead_42 : decode cX4_ahead 42 = .ok (.getfield 116, 3) := by decide +kernel
theorem dX4_ahead_45 : decode cX4_ahead 45 = .ok (.iload_n 1, 1) := by decide +kernel
theorem dX4_ahead_46 : decode cX4_ahead 46 = .ok (.iaload, 1) := by decide +kernel
theorem dX4_ahead_47 : decode cX4_ahead 47 = .ok (.iadd, 1) := by decide +kernel
theorem dX4_ahead_48 : decode cX4_ahead 48 = .ok (.ireturn, 1) := by decide +kernel
set_option maxRecDepth 20000 in
theorem ggX4_when_X4_isArm : GoodIn wsX4_when wsX4_isArm := goodIn_r _ [9, 2, 10, 11, 12, 8, 13, 78, 79, 80, 81, 82, 83, 84, 85, 86, 87, 88, 89, 90, 91, 92, 93, 94, 95, 96, 97, 98] (by decide +kernel) (by decide +kernel)
set_option maxRecDepth 20000 in
theorem gX4_when_X4_isArm : GoodIn wsX4_when (wsV RX4 107 RX4 yX4_isArm wsX4_isArm) := goodIn_app (goodIn_of _ (by decide +kernel)) ggX4_when_X4_isArm
set_option maxRecDepth 20000 in
theorem ggX4_when_X4_isShiftedPlace : GoodIn wsX4_when wsX4_isShiftedPlace := goodIn_r _ [16, 17, 18, 11, 12, 8, 13] (by decide +kernel) (by decide +kernel)
set_option maxRecDepth 20000 in
theorem gX4_when_X4_isShiftedPlace : GoodIn wsX4_when (va_wsS RX4 180 yX4_isShiftedPlace wsX4_isShiftedPlace) := goodIn_app (goodIn_of _ (by decide +kernel)) ggX4_when_X4_isShiftedPlace
set_option maxRecDepth 20000 in
theorem ggX4_when_J6_signum_0f7a4 : GoodIn wsX4_when wsJ6_signum_0f7a4 := goodIn_r _ [22] (by decide +kernel) (by decide +kernel)
set_option maxRecDepth 20000 in
theorem gX4_when_J6_signum_0f7a4 : GoodIn wsX4_when (va_wsS RX4 183 yJ6_signum_0f7a4 wsJ6_signum_0f7a4) := goodIn_app (goodIn_of _ (by decide +kernel)) ggX4_when_J6_signum_0f7a4
set_option maxRecDepth 20000 in
theorem ggX4_when_X0_copyFrom : GoodIn wsX4_when wsX0_copyFrom := goodIn_r _ [27, 28, 29, 30, 31, 32, 33, 34, 35, 36, 37, 38, 39, 40, 26, 41, 42, 43, 87, 88, 89, 90, 91, 92, 93, 94, 95, 96, 97, 98] (by decide +kernel) (by decide +kernel)
set_option maxRecDepth 20000 in
theorem gX4_when_X0_copyFrom : GoodIn wsX4_when (wsV RX4 77 RX0 yX0_copyFrom wsX0_copyFrom) := goodIn_app (goodIn_of _ (by decide +kernel)) ggX4_when_X0_copyFrom
set_option maxRecDepth 20000 in
theorem ggX4_when_X0_takeStep : GoodIn wsX4_when wsX0_takeStep := goodIn_r _ [47, 29, 37, 31, 48, 49, 50, 26, 51, 52, 53, 54, 55, 30, 28, 34, 32, 56, 57, 58, 59, 33, 35, 60, 61, 62, 63, 64, 65, 66, 67, 68, 69, 70, 20, 21, 22, 71, 72, 73, 74, 36, 43, 75, 76, 77, 42, 87, 88, 89, 90, 91, 92, 93, 94, 95, 96, 97, 98] (by decide +kernel) (by decide +kernel)
set_option maxRecDepth 20000 in
theorem gX4_when_X0_takeStep : GoodIn wsX4_when (wsV RX4 188 RX0 yX0_takeStep wsX0_takeStep) := goodIn_app (goodIn_of _ (by decide +kernel)) ggX4_when_X0_takeStep
theorem dX4_when_0 : decode cX4_when 0 = .ok (.aload_n 0, 1) := by decide +kernel
theorem dX4_when_1 : decode cX4_when 1 = .ok (.iload_n 1, 1) := by decide +kernel
theorem dX4_when_2 : decode cX4_when 2 = .ok (.invokevirtual 107, 3) := by decide +kernel
theorem dX4_when_5 : decode cX4_when 5 = .ok (.ifCond .eq 10, 3) := by decide +kernel
theorem dX4_when_8 : decode cX4_when 8 = .ok (.iload_n 2, 1) := by decide +kernel
theorem dX4_when_9 : decode cX4_when 9 = .ok (.invokestatic 180, 3) := by decide +kernel
theorem dX4_when_12 : decode cX4_when 12 = .ok (.ifCond .ne 5, 3) := by decide +kernel
theorem dX4_when_15 : decode cX4_when 15 = .ok (.iconst (-1), 1) := by decide +kernel
theorem dX4_when_16 : decode cX4_when 16 = .ok (.ireturn, 1) := by decide +kernel
theorem dX4_when_17 : decode cX4_when 17 = .ok (.iload_n 2, 1) := by decide +kernel
theorem dX4_when_18 : decode cX4_when 18 = .ok (.ldc 93, 2) := by decide +kernel
theorem dX4_when_20 : decode cX4_when 20 = .ok (.isub, 1) := by decide +kernel
theorem dX4_when_21 : decode cX4_when 21 = .ok (.istore_n 3, 1) := by decide +kernel
theorem dX4_when_22 : decode cX4_when 22 = .ok (.iload_n 3, 1) := by decide +kernel
theorem dX4_when_23 : decode cX4_when 23 = .ok (.aload_n 0, 1) := by decide +kernel
theorem dX4_when_24 : decode cX4_when 24 = .ok (.getfield 10, 3) := by decide +kernel
theorem dX4_when_27 : decode cX4_when 27 = .ok (.getfield 116, 3) := by decide +kernel
theorem dX4_when_30 : decode cX4_when 30 = .ok (.iload_n 1, 1) := by decide +kernel
theorem dX4_when_31 : decode cX4_when 31 = .ok (.iaload, 1) := by decide +kernel
theorem dX4_when_32 : decode cX4_when 32 = .ok (.isub, 1) := by decide +kernel
theorem dX4_when_33 : decode cX4_when 33 = .ok (.invokestatic 183, 3) := by decide +kernel
theorem dX4_when_36 : decode cX4_when 36 = .ok (.istore 4, 2) := by decide +kernel
theorem dX4_when_38 : decode cX4_when 38 = .ok (.iload 4, 2) := by decide +kernel
theorem dX4_when_40 : decode cX4_when 40 = .ok (.ifCond .ne 5, 3) := by decide +kernel
theorem dX4_when_43 : decode cX4_when 43 = .ok (.iconst 0, 1) := by decide +kernel
theorem dX4_when_44 : decode cX4_when 44 = .ok (.ireturn, 1) := by decide +kernel
theorem dX4_when_45 : decode cX4_when 45 = .ok (.aload_n 0, 1) := by decide +kernel
theorem dX4_when_46 : decode cX4_when 46 = .ok (.getfield 16, 3) := by decide +kernel
theorem dX4_when_49 : decode cX4_when 49 = .ok (.aload_n 0, 1) := by decide +kernel
theorem dX4_when_50 : decode cX4_when 50 = .ok (.getfield 10, 3) := by decide +kernel
theorem dX4_when_53 : decode cX4_when 53 = .ok (.invokevirtual 77, 3) := by decide +kernel
theorem dX4_when_56 : decode cX4_when 56 = .ok (.iconst 1, 1) := by decide +kernel
theorem dX4_when_57 : decode cX4_when 57 = .ok (.istore 5, 2) := by decide +kernel
theorem dX4_when_59 : decode cX4_when 59 = .ok (.iload 5, 2) := by decide +kernel
theorem dX4_when_61 : decode cX4_when 61 = .ok (.sipush 200, 3) := by decide +kernel
theorem dX4_when_64 : decode cX4_when 64 = .ok (.if_icmp .gt 38, 3) := by decide +kernel
theorem dX4_when_67 : decode cX4_when 67 = .ok (.aload_n 0, 1) := by decide +kernel
theorem dX4_when_68 : decode cX4_when 68 = .ok (.getfield 16, 3) := by decide +kernel
theorem dX4_when_71 : decode cX4_when 71 = .ok (.invokevirtual 188, 3) := by decide +kernel
theorem dX4_when_74 : decode cX4_when 74 = .ok (.iload_n 3, 1) := by decide +kernel
theorem dX4_when_75 : decode cX4_when 75 = .ok (.aload_n 0, 1) := by decide +kernel
theorem dX4_when_76 : decode cX4_when 76 = .ok (.getfield 16, 3) := by decide +kernel
theorem dX4_when_79 : decode cX4_when 79 = .ok (.getfield 116, 3) := by decide +kernel
theorem dX4_when_82 : decode cX4_when 82 = .ok (.iload_n 1, 1) := by decide +kernel
theorem dX4_when_83 : decode cX4_when 83 = .ok (.iaload, 1) := by decide +kernel
theorem dX4_when_84 : decode cX4_when 84 = .ok (.isub, 1) := by decide +kernel
theorem dX4_when_85 : decode cX4_when 85 = .ok (.invokestatic 183, 3) := by decide +kernel
theorem dX4_when_88 : decode cX4_when 88 = .ok (.iload 4, 2) := by decide +kernel
theorem dX4_when_90 : decode cX4_when 90 = .ok (.if_icmp .eq 6, 3) := by decide +kernel
theorem dX4_when_93 : decode cX4_when 93 = .ok (.iload 5, 2) := by decide +kernel
theorem dX4_when_95 : decode cX4_when 95 = .ok (.ireturn, 1) := by decide +kernel
theorem dX4_when_96 : decode cX4_when 96 = .ok (.iinc 5 1, 3) := by decide +kernel
theorem dX4_when_99 : decode cX4_when 99 = .ok (.goto (-40), 3) := by decide +kernel
theorem dX4_when_102 : decode cX4_when 102 = .ok (.bipush (-4), 2) := by decide +kernel
theorem dX4_when_104 : decode cX4_when 104 = .ok (.ireturn, 1) := by decide +kernel
set_option maxRecDepth 20000 in
theorem ggX4_again_X0_copyFrom : GoodIn wsX4_again wsX0_copyFrom := goodIn_r _ [7, 8, 9, 10, 11, 12, 13, 14, 15, 16, 17, 18, 19, 20, 6, 21, 22, 23, 74, 75, 76, 77, 78, 79, 80, 81, 82, 83, 84, 85] (by decide +kernel) (by decide +kernel)
set_option maxRecDepth 20000 in
theorem gX4_again_X0_copyFrom : GoodIn wsX4_again (wsV RX4 77 RX0 yX0_copyFrom wsX0_copyFrom) := goodIn_app (goodIn_of _ (by decide +kernel)) ggX4_again_X0_copyFrom
set_option maxRecDepth 20000 in
theorem ggX4_again_X0_takeStep : GoodIn wsX4_again wsX0_takeStep := goodIn_r _ [27, 9, 17, 11, 28, 29, 30, 6, 31, 32, 33, 34, 35, 10, 8, 14, 12, 36, 37, 38, 39, 13, 15, 40, 41, 42, 43, 44, 45, 46, 47, 48, 49, 50, 51, 52, 53, 54, 55, 56, 57, 16, 23, 58, 59, 60, 22, 74, 75, 76, 77, 78, 79, 80, 81, 82, 83, 84, 85] (by decide +kernel) (by decide +kernel)
set_option maxRecDepth 20000 in
theorem gX4_again_X0_takeStep : GoodIn wsX4_again (wsV RX4 188 RX0 yX0_takeStep wsX0_takeStep) := goodIn_app (goodIn_of _ (by decide +kernel)) ggX4_again_X0_takeStep
set_option maxRecDepth 20000 in
theorem ggX4_again_X0_standsAs : GoodIn wsX4_again wsX0_standsAs := goodIn_r _ [64, 8, 14, 10, 16, 15, 28, 29, 30, 6, 31, 9, 11, 74, 75, 76, 77, 78, 79, 80, 81, 82, 83, 84, 85] (by decide +kernel) (by decide +kernel)
set_option maxRecDepth 20000 in
theorem gX4_again_X0_standsAs : GoodIn wsX4_again (wsV RX4 191 RX0 yX0_standsAs wsX0_standsAs) := goodIn_app (goodIn_of _ (by decide +kernel)) ggX4_again_X0_standsAs
theorem dX4_again_0 : decode cX4_again 0 = .ok (.aload_n 0, 1) := by decide +kernel
theorem dX4_again_1 : decode cX4_again 1 = .ok (.getfield 16, 3) := by decide +kernel
theorem dX4_again_4 : decode cX4_again 4 = .ok (.aload_n 0, 1) := by decide +kernel
theorem dX4_again_5 : decode cX4_again 5 = .ok (.getfield 10, 3) := by decide +kernel
theorem dX4_again_8 : decode cX4_again 8 = .ok (.invokevirtual 77, 3) := by decide +kernel
theorem dX4_again_11 : decode cX4_again 11 = .ok (.iconst 1, 1) := by decide +kernel
theorem dX4_again_12 : decode cX4_again 12 = .ok (.istore_n 1, 1) := by decide +kernel
theorem dX4_again_13 : decode cX4_again 13 = .ok (.iload_n 1, 1) := by decide +kernel
theorem dX4_again_14 : decode cX4_again 14 = .ok (.sipush 200, 3) := by decide +kernel
theorem dX4_again_17 : decode cX4_again 17 = .ok (.if_icmp .gt 32, 3) := by decide +kernel
theorem dX4_again_20 : decode cX4_again 20 = .ok (.aload_n 0, 1) := by decide +kernel
theorem dX4_again_21 : decode cX4_again 21 = .ok (.getfield 16, 3) := by decide +kernel
theorem dX4_again_24 : decode cX4_again 24 = .ok (.invokevirtual 188, 3) := by decide +kernel
theorem dX4_again_27 : decode cX4_again 27 = .ok (.aload_n 0, 1) := by decide +kernel
theorem dX4_again_28 : decode cX4_again 28 = .ok (.getfield 16, 3) := by decide +kernel
theorem dX4_again_31 : decode cX4_again 31 = .ok (.aload_n 0, 1) := by decide +kernel
theorem dX4_again_32 : decode cX4_again 32 = .ok (.getfield 10, 3) := by decide +kernel
theorem dX4_again_35 : decode cX4_again 35 = .ok (.invokevirtual 191, 3) := by decide +kernel
theorem dX4_again_38 : decode cX4_again 38 = .ok (.ifCond .eq 5, 3) := by decide +kernel
theorem dX4_again_41 : decode cX4_again 41 = .ok (.iload_n 1, 1) := by decide +kernel
theorem dX4_again_42 : decode cX4_again 42 = .ok (.ireturn, 1) := by decide +kernel
theorem dX4_again_43 : decode cX4_again 43 = .ok (.iinc 1 1, 3) := by decide +kernel
theorem dX4_again_46 : decode cX4_again 46 = .ok (.goto (-33), 3) := by decide +kernel
theorem dX4_again_49 : decode cX4_again 49 = .ok (.bipush (-4), 2) := by decide +kernel
theorem dX4_again_51 : decode cX4_again 51 = .ok (.ireturn, 1) := by decide +kernel
set_option maxRecDepth 20000 in
theorem ggX4_slack_X4_bestSetting : GoodIn wsX4_slack wsX4_bestSetting := goodIn_r _ [5, 6, 7, 8, 9, 10, 11, 4, 12, 13, 14, 15, 16, 17, 18, 19, 20, 21, 22, 23, 24, 25, 26, 27, 28, 29, 30, 31, 32, 33, 34, 35, 36, 37, 38, 39, 40, 41, 42, 43, 44, 45, 46, 47, 48, 49, 50, 51, 52, 53, 54, 55, 56, 57, 58, 59, 60, 61, 62, 63, 64, 65, 66, 67, 68, 69, 70, 71, 72, 73, 74, 75, 76, 77, 78, 79, 80, 81, 82, 83, 84, 85, 86, 87, 88, 89, 90, 91, 92, 93, 94, 95, 96, 97, 98, 99, 100, 101, 102, 103, 104, 105, 106, 107, 108, 109, 110, 111, 112, 113, 114, 115, 116, 117, 118, 119, 120] (by decide +kernel) (by decide +kernel)
set_option maxRecDepth 20000 in
theorem gX4_slack_X4_bestSetting : GoodIn wsX4_slack (wsV RX4 195 RX4 yX4_bestSetting wsX4_bestSetting) := goodIn_app (goodIn_of _ (by decide +kernel)) ggX4_slack_X4_bestSetting
theorem dX4_slack_0 : decode cX4_slack 0 = .ok (.aload_n 0, 1) := by decide +kernel
theorem dX4_slack_1 : decode cX4_slack 1 = .ok (.iload_n 1, 1) := by decide +kernel
theorem dX4_slack_2 : decode cX4_slack 2 = .ok (.iconst 1, 1) := by decide +kernel
theorem dX4_slack_3 : decode cX4_slack 3 = .ok (.iload_n 2, 1) := by decide +kernel
theorem dX4_slack_4 : decode cX4_slack 4 = .ok (.iload_n 3, 1) := by decide +kernel
theorem dX4_slack_5 : decode cX4_slack 5 = .ok (.invokevirtual 195, 3) := by decide +kernel
theorem dX4_slack_8 : decode cX4_slack 8 = .ok (.ireturn, 1) := by decide +kernel
set_option maxRecDepth 20000 in
theorem ggX4_kind_X4_bestSetting : GoodIn wsX4_kind wsX4_bestSetting := goodIn_r _ [5, 6, 7, 8, 9, 10, 11, 4, 12, 13, 14, 15, 16, 17, 18, 19, 20, 21, 22, 23, 24, 25, 26, 27, 28, 29, 30, 31, 32, 33, 34, 35, 36, 37, 38, 39, 40, 41, 42, 43, 44, 45, 46, 47, 48, 49, 50, 51, 52, 53, 54, 55, 56, 57, 58, 59, 60, 61, 62, 63, 64, 65, 66, 67, 68, 69, 70, 71, 72, 73, 74, 75, 76, 77, 78, 79, 80, 81, 82, 83, 84, 85, 86, 87, 88, 89, 90, 91, 92, 93, 94, 95, 96, 97, 98, 99, 100, 101, 102, 103, 104, 105, 106, 107, 108, 109, 110, 111, 112, 113, 114, 115, 116, 117, 118, 119, 120] (by decide +kernel) (by decide +kernel)
set_option maxRecDepth 20000 in
theorem gX4_kind_X4_bestSetting : GoodIn wsX4_kind (wsV RX4 195 RX4 yX4_bestSetting wsX4_bestSetting) := goodIn_app (goodIn_of _ (by decide +kernel)) ggX4_kind_X4_bestSetting
theorem dX4_kind_0 : decode cX4_kind 0 = .ok (.aload_n 0, 1) := by decide +kernel
theorem dX4_kind_1 : decode cX4_kind 1 = .ok (.iload_n 1, 1) := by decide +kernel
theorem dX4_kind_2 : decode cX4_kind 2 = .ok (.iconst 0, 1) := by decide +kernel
theorem dX4_kind_3 : decode cX4_kind 3 = .ok (.iload_n 2, 1) := by decide +kernel
theorem dX4_kind_4 : decode cX4_kind 4 = .ok (.iload_n 3, 1) := by decide +kernel
theorem dX4_kind_5 : decode cX4_kind 5 = .ok (.invokevirtual 195, 3) := by decide +kernel
theorem dX4_kind_8 : decode cX4_kind 8 = .ok (.ireturn, 1) := by decide +kernel
set_option maxRecDepth 20000 in
theorem ggX4_swap_X4_isAhead : GoodIn wsX4_swap wsX4_isAhead := goodIn_r _ [7, 8, 9, 6, 10] (by decide +kernel) (by decide +kernel)
set_option maxRecDepth 20000 in
theorem gX4_swap_X4_isAhead : GoodIn wsX4_swap (va_wsS RX4 166 yX4_isAhead wsX4_isAhead) := goodIn_app (goodIn_of _ (by decide +kernel)) ggX4_swap_X4_isAhead
set_option maxRecDepth 20000 in
theorem ggX4_swap_X4_isFirstOrSecond : GoodIn wsX4_swap wsX4_isFirstOrSecond := goodIn_r _ [13, 8, 9, 6, 10] (by decide +kernel) (by decide +kernel)
set_option maxRecDepth 20000 in
theorem gX4_swap_X4_isFirstOrSecond : GoodIn wsX4_swap (va_wsS RX4 199 yX4_isFirstOrSecond wsX4_isFirstOrSecond) := goodIn_app (goodIn_of _ (by decide +kernel)) ggX4_swap_X4_isFirstOrSecond
set_option maxRecDepth 20000 in
theorem ggX4_swap_X0_copyFrom : GoodIn wsX4_swap wsX0_copyFrom := goodIn_r _ [18, 19, 20, 21, 22, 23, 24, 25, 26, 27, 28, 29, 30, 31, 17, 32, 33, 34, 105, 106, 107, 108, 109, 110, 111, 112, 113, 114, 115, 116] (by decide +kernel) (by decide +kernel)
set_option maxRecDepth 20000 in
theorem gX4_swap_X0_copyFrom : GoodIn wsX4_swap (wsV RX4 77 RX0 yX0_copyFrom wsX0_copyFrom) := goodIn_app (goodIn_of _ (by decide +kernel)) ggX4_swap_X0_copyFrom
set_option maxRecDepth 20000 in
theorem ggX4_swap_X0_takeSteps : GoodIn wsX4_swap wsX0_takeSteps := goodIn_r _ [38, 39, 40, 41, 17, 42, 20, 28, 22, 43, 44, 45, 46, 47, 48, 49, 50, 21, 19, 25, 23, 51, 52, 53, 54, 24, 26, 55, 56, 57, 58, 59, 60, 61, 62, 63, 64, 65, 66, 67, 68, 69, 70, 71, 72, 27, 34, 73, 74, 75, 33, 105, 106, 107, 108, 109, 110, 111, 112, 113, 114, 115, 116] (by decide +kernel) (by decide +kernel)
set_option maxRecDepth 20000 in
theorem gX4_swap_X0_takeSteps : GoodIn wsX4_swap (wsV RX4 160 RX0 yX0_takeSteps wsX0_takeSteps) := goodIn_app (goodIn_of _ (by decide +kernel)) ggX4_swap_X0_takeSteps
set_option maxRecDepth 20000 in
theorem ggX4_swap_X0_error : GoodIn wsX4_swap wsX0_error := goodIn_r _ [79, 21, 61, 62, 63, 64, 80, 81, 82, 17, 83, 19, 25, 105, 106, 107, 108, 109, 110, 111, 112, 113, 114, 115, 116] (by decide +kernel) (by decide +kernel)
set_option maxRecDepth 20000 in
theorem gX4_swap_X0_error : GoodIn wsX4_swap (wsV RX4 97 RX0 yX0_error wsX0_error) := goodIn_app (goodIn_of _ (by decide +kernel)) ggX4_swap_X0_error
set_option maxRecDepth 20000 in
theorem ggX4_swap_X0_exchange : GoodIn wsX4_swap wsX0_exchange := goodIn_r _ [87, 88, 89, 90, 17, 91, 23, 24, 26, 92, 93, 94, 95, 105, 106, 107, 108, 109, 110, 111, 112, 113, 114, 115, 116] (by decide +kernel) (by decide +kernel)
set_option maxRecDepth 20000 in
theorem gX4_swap_X0_exchange : GoodIn wsX4_swap (wsV RX4 202 RX0 yX0_exchange wsX0_exchange) := goodIn_app (goodIn_of _ (by decide +kernel)) ggX4_swap_X0_exchange
theorem dX4_swap_0 : decode cX4_swap 0 = .ok (.iload_n 1, 1) := by decide +kernel
theorem dX4_swap_1 : decode cX4_swap 1 = .ok (.invokestatic 166, 3) := by decide +kernel
theorem dX4_swap_4 : decode cX4_swap 4 = .ok (.ifCond .eq 10, 3) := by decide +kernel
theorem dX4_swap_7 : decode cX4_swap 7 = .ok (.iload_n 2, 1) := by decide +kernel
theorem dX4_swap_8 : decode cX4_swap 8 = .ok (.invokestatic 199, 3) := by decide +kernel
theorem dX4_swap_11 : decode cX4_swap 11 = .ok (.ifCond .ne 5, 3) := by decide +kernel
theorem dX4_swap_14 : decode cX4_swap 14 = .ok (.iconst (-1), 1) := by decide +kernel
theorem dX4_swap_15 : decode cX4_swap 15 = .ok (.ireturn, 1) := by decide +kernel
theorem dX4_swap_16 : decode cX4_swap 16 = .ok (.aload_n 0, 1) := by decide +kernel
theorem dX4_swap_17 : decode cX4_swap 17 = .ok (.getfield 16, 3) := by decide +kernel
theorem dX4_swap_20 : decode cX4_swap 20 = .ok (.aload_n 0, 1) := by decide +kernel
theorem dX4_swap_21 : decode cX4_swap 21 = .ok (.getfield 10, 3) := by decide +kernel
theorem dX4_swap_24 : decode cX4_swap 24 = .ok (.invokevirtual 77, 3) := by decide +kernel
theorem dX4_swap_27 : decode cX4_swap 27 = .ok (.aload_n 0, 1) := by decide +kernel
theorem dX4_swap_28 : decode cX4_swap 28 = .ok (.getfield 16, 3) := by decide +kernel
theorem dX4_swap_31 : decode cX4_swap 31 = .ok (.iload_n 1, 1) := by decide +kernel
theorem dX4_swap_32 : decode cX4_swap 32 = .ok (.invokevirtual 160, 3) := by decide +kernel
theorem dX4_swap_35 : decode cX4_swap 35 = .ok (.aload_n 0, 1) := by decide +kernel
theorem dX4_swap_36 : decode cX4_swap 36 = .ok (.getfield 16, 3) := by decide +kernel
theorem dX4_swap_39 : decode cX4_swap 39 = .ok (.invokevirtual 97, 3) := by decide +kernel
theorem dX4_swap_42 : decode cX4_swap 42 = .ok (.istore_n 3, 1) := by decide +kernel
theorem dX4_swap_43 : decode cX4_swap 43 = .ok (.bipush (-4), 2) := by decide +kernel
theorem dX4_swap_45 : decode cX4_swap 45 = .ok (.istore 4, 2) := by decide +kernel
theorem dX4_swap_47 : decode cX4_swap 47 = .ok (.iconst 0, 1) := by decide +kernel
theorem dX4_swap_48 : decode cX4_swap 48 = .ok (.istore 5, 2) := by decide +kernel
theorem dX4_swap_50 : decode cX4_swap 50 = .ok (.iload 5, 2) := by decide +kernel
theorem dX4_swap_52 : decode cX4_swap 52 = .ok (.aload_n 0, 1) := by decide +kernel
theorem dX4_swap_53 : decode cX4_swap 53 = .ok (.getfield 10, 3) := by decide +kernel
theorem dX4_swap_56 : decode cX4_swap 56 = .ok (.getfield 84, 3) := by decide +kernel
theorem dX4_swap_59 : decode cX4_swap 59 = .ok (.if_icmp .ge 91, 3) := by decide +kernel
theorem dX4_swap_62 : decode cX4_swap 62 = .ok (.iload 5, 2) := by decide +kernel
theorem dX4_swap_64 : decode cX4_swap 64 = .ok (.iconst 1, 1) := by decide +kernel
theorem dX4_swap_65 : decode cX4_swap 65 = .ok (.iadd, 1) := by decide +kernel
theorem dX4_swap_66 : decode cX4_swap 66 = .ok (.istore 6, 2) := by decide +kernel
theorem dX4_swap_68 : decode cX4_swap 68 = .ok (.iload 6, 2) := by decide +kernel
theorem dX4_swap_70 : decode cX4_swap 70 = .ok (.aload_n 0, 1) := by decide +kernel
theorem dX4_swap_71 : decode cX4_swap 71 = .ok (.getfield 10, 3) := by decide +kernel
theorem dX4_swap_74 : decode cX4_swap 74 = .ok (.getfield 84, 3) := by decide +kernel
theorem dX4_swap_77 : decode cX4_swap 77 = .ok (.if_icmp .ge 67, 3) := by decide +kernel
theorem dX4_swap_80 : decode cX4_swap 80 = .ok (.aload_n 0, 1) := by decide +kernel
theorem dX4_swap_81 : decode cX4_swap 81 = .ok (.getfield 16, 3) := by decide +kernel
theorem dX4_swap_84 : decode cX4_swap 84 = .ok (.aload_n 0, 1) := by decide +kernel
theorem dX4_swap_85 : decode cX4_swap 85 = .ok (.getfield 10, 3) := by decide +kernel
theorem dX4_swap_88 : decode cX4_swap 88 = .ok (.invokevirtual 77, 3) := by decide +kernel
theorem dX4_swap_91 : decode cX4_swap 91 = .ok (.aload_n 0, 1) := by decide +kernel
theorem dX4_swap_92 : decode cX4_swap 92 = .ok (.getfield 16, 3) := by decide +kernel
theorem dX4_swap_95 : decode cX4_swap 95 = .ok (.iload 5, 2) := by decide +kernel
theorem dX4_swap_97 : decode cX4_swap 97 = .ok (.iload 6, 2) := by decide +kernel
theorem dX4_swap_99 : decode cX4_swap 99 = .ok (.invokevirtual 202, 3) := by decide +kernel
theorem dX4_swap_102 : decode cX4_swap 102 = .ok (.aload_n 0, 1) := by decide +kernel
theorem dX4_swap_103 : decode cX4_swap 103 = .ok (.getfield 16, 3) := by decide +kernel
theorem dX4_swap_106 : decode cX4_swap 106 = .ok (.iload_n 1, 1) := by decide +kernel
theorem dX4_swap_107 : decode cX4_swap 107 = .ok (.invokevirtual 160, 3) := by decide +kernel
theorem dX4_swap_110 : decode cX4_swap 110 = .ok (.aload_n 0, 1) := by decide +kernel
theorem dX4_swap_111 : decode cX4_swap 111 = .ok (.getfield 16, 3) := by decide +kernel
theorem dX4_swap_114 : decode cX4_swap 114 = .ok (.invokevirtual 97, 3) := by decide +kernel
theorem dX4_swap_117 : decode cX4_swap 117 = .ok (.istore 7, 2) := by decide +kernel
theorem dX4_swap_119 : decode cX4_swap 119 = .ok (.iload 7, 2) := by decide +kernel
theorem dX4_swap_121 : decode cX4_swap 121 = .ok (.iload_n 3, 1) := by decide +kernel
theorem dX4_swap_122 : decode cX4_swap 122 = .ok (.if_icmp .ge 16, 3) := by decide +kernel
theorem dX4_swap_125 : decode cX4_swap 125 = .ok (.iload 7, 2) := by decide +kernel
theorem dX4_swap_127 : decode cX4_swap 127 = .ok (.istore_n 3, 1) := by decide +kernel
theorem dX4_swap_128 : decode cX4_swap 128 = .ok (.bipush 10, 2) := by decide +kernel
theorem dX4_swap_130 : decode cX4_swap 130 = .ok (.iload 5, 2) := by decide +kernel
theorem dX4_swap_132 : decode cX4_swap 132 = .ok (.imul, 1) := by decide +kernel
theorem dX4_swap_133 : decode cX4_swap 133 = .ok (.iload 6, 2) := by decide +kernel
theorem dX4_swap_135 : decode cX4_swap 135 = .ok (.iadd, 1) := by decide +kernel
theorem dX4_swap_136 : decode cX4_swap 136 = .ok (.istore 4, 2) := by decide +kernel
theorem dX4_swap_138 : decode cX4_swap 138 = .ok (.iinc 6 1, 3) := by decide +kernel
theorem dX4_swap_141 : decode cX4_swap 141 = .ok (.goto (-73), 3) := by decide +kernel
theorem dX4_swap_144 : decode cX4_swap 144 = .ok (.iinc 5 1, 3) := by decide +kernel
theorem dX4_swap_147 : decode cX4_swap 147 = .ok (.goto (-97), 3) := by decide +kernel
theorem dX4_swap_150 : decode cX4_swap 150 = .ok (.iload_n 2, 1) := by decide +kernel
theorem dX4_swap_151 : decode cX4_swap 151 = .ok (.ifCond .eq 10, 3) := by decide +kernel
theorem dX4_swap_154 : decode cX4_swap 154 = .ok (.iload 4, 2) := by decide +kernel
theorem dX4_swap_156 : decode cX4_swap 156 = .ok (.bipush (-4), 2) := by decide +kernel
theorem dX4_swap_158 : decode cX4_swap 158 = .ok (.if_icmp .ne 8, 3) := by decide +kernel
theorem dX4_swap_161 : decode cX4_swap 161 = .ok (.iload 4, 2) := by decide +kernel
theorem dX4_swap_163 : decode cX4_swap 163 = .ok (.goto 4, 3) := by decide +kernel
theorem dX4_swap_166 : decode cX4_swap 166 = .ok (.iload_n 3, 1) := by decide +kernel
theorem dX4_swap_167 : decode cX4_swap 167 = .ok (.ireturn, 1) := by decide +kernel
set_option maxRecDepth 20000 in
theorem ggX4_miss_X4_isAhead : GoodIn wsX4_miss wsX4_isAhead := goodIn_r _ [8, 9, 10, 7, 11] (by decide +kernel) (by decide +kernel)
set_option maxRecDepth 20000 in
theorem gX4_miss_X4_isAhead : GoodIn wsX4_miss (va_wsS RX4 166 yX4_isAhead wsX4_isAhead) := goodIn_app (goodIn_of _ (by decide +kernel)) ggX4_miss_X4_isAhead
set_option maxRecDepth 20000 in
theorem ggX4_miss_X4_isFirstOrSecond : GoodIn wsX4_miss wsX4_isFirstOrSecond := goodIn_r _ [14, 9, 10, 7, 11] (by decide +kernel) (by decide +kernel)
set_option maxRecDepth 20000 in
theorem gX4_miss_X4_isFirstOrSecond : GoodIn wsX4_miss (va_wsS RX4 199 yX4_isFirstOrSecond wsX4_isFirstOrSecond) := goodIn_app (goodIn_of _ (by decide +kernel)) ggX4_miss_X4_isFirstOrSecond
set_option maxRecDepth 20000 in
theorem ggX4_miss_X0_copyFrom : GoodIn wsX4_miss wsX0_copyFrom := goodIn_r _ [19, 20, 21, 22, 23, 24, 25, 26, 27, 28, 29, 30, 31, 32, 18, 33, 34, 35, 94, 95, 96, 97, 98, 99, 100, 101, 102, 103, 104, 105] (by decide +kernel) (by decide +kernel)
set_option maxRecDepth 20000 in
theorem gX4_miss_X0_copyFrom : GoodIn wsX4_miss (wsV RX4 77 RX0 yX0_copyFrom wsX0_copyFrom) := goodIn_app (goodIn_of _ (by decide +kernel)) ggX4_miss_X0_copyFrom
set_option maxRecDepth 20000 in
theorem ggX4_miss_X0_takeSteps : GoodIn wsX4_miss wsX0_takeSteps := goodIn_r _ [39, 40, 41, 42, 18, 43, 21, 29, 23, 44, 45, 46, 47, 48, 49, 50, 51, 22, 20, 26, 24, 52, 53, 54, 55, 25, 27, 56, 57, 58, 59, 60, 61, 62, 63, 64, 65, 66, 67, 68, 69, 70, 71, 72, 73, 28, 35, 74, 75, 76, 34, 94, 95, 96, 97, 98, 99, 100, 101, 102, 103, 104, 105] (by decide +kernel) (by decide +kernel)
set_option maxRecDepth 20000 in
theorem gX4_miss_X0_takeSteps : GoodIn wsX4_miss (wsV RX4 160 RX0 yX0_takeSteps wsX0_takeSteps) := goodIn_app (goodIn_of _ (by decide +kernel)) ggX4_miss_X0_takeSteps
set_option maxRecDepth 20000 in
theorem ggX4_miss_X0_error : GoodIn wsX4_miss wsX0_error := goodIn_r _ [80, 22, 62, 63, 64, 65, 81, 82, 83, 18, 84, 20, 26, 94, 95, 96, 97, 98, 99, 100, 101, 102, 103, 104, 105] (by decide +kernel) (by decide +kernel)
set_option maxRecDepth 20000 in
theorem gX4_miss_X0_error : GoodIn wsX4_miss (wsV RX4 97 RX0 yX0_error wsX0_error) := goodIn_app (goodIn_of _ (by decide +kernel)) ggX4_miss_X0_error
theorem dX4_miss_0 : decode cX4_miss 0 = .ok (.iload_n 1, 1) := by decide +kernel
theorem dX4_miss_1 : decode cX4_miss 1 = .ok (.invokestatic 166, 3) := by decide +kernel
theorem dX4_miss_4 : decode cX4_miss 4 = .ok (.ifCond .eq 10, 3) := by decide +kernel
theorem dX4_miss_7 : decode cX4_miss 7 = .ok (.iload_n 2, 1) := by decide +kernel
theorem dX4_miss_8 : decode cX4_miss 8 = .ok (.invokestatic 199, 3) := by decide +kernel
theorem dX4_miss_11 : decode cX4_miss 11 = .ok (.ifCond .ne 5, 3) := by decide +kernel
theorem dX4_miss_14 : decode cX4_miss 14 = .ok (.iconst (-1), 1) := by decide +kernel
theorem dX4_miss_15 : decode cX4_miss 15 = .ok (.ireturn, 1) := by decide +kernel
theorem dX4_miss_16 : decode cX4_miss 16 = .ok (.aload_n 0, 1) := by decide +kernel
theorem dX4_miss_17 : decode cX4_miss 17 = .ok (.getfield 16, 3) := by decide +kernel
theorem dX4_miss_20 : decode cX4_miss 20 = .ok (.aload_n 0, 1) := by decide +kernel
