theorem dX1_faultTakenAs_20 : decode cX1_faultTakenAs 20 = .ok (.aload_n 0, 1) := by decide +kernel
theorem dX1_faultTakenAs_21 : decode cX1_faultTakenAs 21 = .ok (.iload_n 2, 1) := by decide +kernel
theorem dX1_faultTakenAs_22 : decode cX1_faultTakenAs 22 = .ok (.invokevirtual 26, 3) := by decide +kernel
theorem dX1_faultTakenAs_25 : decode cX1_faultTakenAs 25 = .ok (.ireturn, 1) := by decide +kernel
theorem dX1_put_0 : decode cX1_put 0 = .ok (.aload_n 0, 1) := by decide +kernel
theorem dX1_put_1 : decode cX1_put 1 = .ok (.getfield 15, 3) := by decide +kernel
theorem dX1_put_4 : decode cX1_put 4 = .ok (.ifCond .ne 14, 3) := by decide +kernel
theorem dX1_put_7 : decode cX1_put 7 = .ok (.aload_n 0, 1) := by decide +kernel
theorem dX1_put_8 : decode cX1_put 8 = .ok (.getfield 9, 3) := by decide +kernel
theorem dX1_put_11 : decode cX1_put 11 = .ok (.iload_n 1, 1) := by decide +kernel
theorem dX1_put_12 : decode cX1_put 12 = .ok (.iload_n 2, 1) := by decide +kernel
theorem dX1_put_13 : decode cX1_put 13 = .ok (.i2b, 1) := by decide +kernel
theorem dX1_put_14 : decode cX1_put 14 = .ok (.iastore, 1) := by decide +kernel
theorem dX1_put_15 : decode cX1_put 15 = .ok (.goto 29, 3) := by decide +kernel
theorem dX1_put_18 : decode cX1_put 18 = .ok (.aload_n 0, 1) := by decide +kernel
theorem dX1_put_19 : decode cX1_put 19 = .ok (.getfield 15, 3) := by decide +kernel
theorem dX1_put_22 : decode cX1_put 22 = .ok (.iconst 1, 1) := by decide +kernel
theorem dX1_put_23 : decode cX1_put 23 = .ok (.if_icmp .ne 14, 3) := by decide +kernel
theorem dX1_put_26 : decode cX1_put 26 = .ok (.aload_n 0, 1) := by decide +kernel
theorem dX1_put_27 : decode cX1_put 27 = .ok (.getfield 9, 3) := by decide +kernel
theorem dX1_put_30 : decode cX1_put 30 = .ok (.iload_n 1, 1) := by decide +kernel
theorem dX1_put_31 : decode cX1_put 31 = .ok (.iload_n 2, 1) := by decide +kernel
theorem dX1_put_32 : decode cX1_put 32 = .ok (.i2s, 1) := by decide +kernel
theorem dX1_put_33 : decode cX1_put 33 = .ok (.iastore, 1) := by decide +kernel
theorem dX1_put_34 : decode cX1_put 34 = .ok (.goto 10, 3) := by decide +kernel
theorem dX1_put_37 : decode cX1_put 37 = .ok (.aload_n 0, 1) := by decide +kernel
theorem dX1_put_38 : decode cX1_put 38 = .ok (.getfield 9, 3) := by decide +kernel
theorem dX1_put_41 : decode cX1_put 41 = .ok (.iload_n 1, 1) := by decide +kernel
theorem dX1_put_42 : decode cX1_put 42 = .ok (.iload_n 2, 1) := by decide +kernel
theorem dX1_put_43 : decode cX1_put 43 = .ok (.iastore, 1) := by decide +kernel
theorem dX1_put_44 : decode cX1_put 44 = .ok (.return_, 1) := by decide +kernel
theorem dX2_init_0 : decode cX2_init 0 = .ok (.aload_n 0, 1) := by decide +kernel
theorem dX2_init_1 : decode cX2_init 1 = .ok (.invokespecial 3, 3) := by decide +kernel
theorem dX2_init_4 : decode cX2_init 4 = .ok (.aload_n 0, 1) := by decide +kernel
theorem dX2_init_5 : decode cX2_init 5 = .ok (.bipush 6, 2) := by decide +kernel
theorem dX2_init_7 : decode cX2_init 7 = .ok (.newarray .int, 2) := by decide +kernel
theorem dX2_init_9 : decode cX2_init 9 = .ok (.putfield 9, 3) := by decide +kernel
theorem dX2_init_12 : decode cX2_init 12 = .ok (.aload_n 0, 1) := by decide +kernel
theorem dX2_init_13 : decode cX2_init 13 = .ok (.bipush 6, 2) := by decide +kernel
theorem dX2_init_15 : decode cX2_init 15 = .ok (.newarray .int, 2) := by decide +kernel
theorem dX2_init_17 : decode cX2_init 17 = .ok (.putfield 15, 3) := by decide +kernel
theorem dX2_init_20 : decode cX2_init 20 = .ok (.aload_n 0, 1) := by decide +kernel
theorem dX2_init_21 : decode cX2_init 21 = .ok (.bipush 6, 2) := by decide +kernel
theorem dX2_init_23 : decode cX2_init 23 = .ok (.newarray .int, 2) := by decide +kernel
theorem dX2_init_25 : decode cX2_init 25 = .ok (.putfield 18, 3) := by decide +kernel
theorem dX2_init_28 : decode cX2_init 28 = .ok (.aload_n 0, 1) := by decide +kernel
theorem dX2_init_29 : decode cX2_init 29 = .ok (.iconst 0, 1) := by decide +kernel
theorem dX2_init_30 : decode cX2_init 30 = .ok (.putfield 21, 3) := by decide +kernel
theorem dX2_init_33 : decode cX2_init 33 = .ok (.return_, 1) := by decide +kernel
theorem dX2_append_0 : decode cX2_append 0 = .ok (.aload_n 0, 1) := by decide +kernel
theorem dX2_append_1 : decode cX2_append 1 = .ok (.getfield 21, 3) := by decide +kernel
theorem dX2_append_4 : decode cX2_append 4 = .ok (.bipush 6, 2) := by decide +kernel
theorem dX2_append_6 : decode cX2_append 6 = .ok (.if_icmp .lt 5, 3) := by decide +kernel
theorem dX2_append_9 : decode cX2_append 9 = .ok (.iconst 0, 1) := by decide +kernel
theorem dX2_append_10 : decode cX2_append 10 = .ok (.ireturn, 1) := by decide +kernel
theorem dX2_append_11 : decode cX2_append 11 = .ok (.aload_n 0, 1) := by decide +kernel
theorem dX2_append_12 : decode cX2_append 12 = .ok (.getfield 9, 3) := by decide +kernel
theorem dX2_append_15 : decode cX2_append 15 = .ok (.aload_n 0, 1) := by decide +kernel
theorem dX2_append_16 : decode cX2_append 16 = .ok (.getfield 21, 3) := by decide +kernel
theorem dX2_append_19 : decode cX2_append 19 = .ok (.iload_n 1, 1) := by decide +kernel
theorem dX2_append_20 : decode cX2_append 20 = .ok (.iastore, 1) := by decide +kernel
theorem dX2_append_21 : decode cX2_append 21 = .ok (.aload_n 0, 1) := by decide +kernel
theorem dX2_append_22 : decode cX2_append 22 = .ok (.getfield 15, 3) := by decide +kernel
theorem dX2_append_25 : decode cX2_append 25 = .ok (.aload_n 0, 1) := by decide +kernel
theorem dX2_append_26 : decode cX2_append 26 = .ok (.getfield 21, 3) := by decide +kernel
theorem dX2_append_29 : decode cX2_append 29 = .ok (.iload_n 2, 1) := by decide +kernel
theorem dX2_append_30 : decode cX2_append 30 = .ok (.iastore, 1) := by decide +kernel
theorem dX2_append_31 : decode cX2_append 31 = .ok (.aload_n 0, 1) := by decide +kernel
theorem dX2_append_32 : decode cX2_append 32 = .ok (.getfield 18, 3) := by decide +kernel
theorem dX2_append_35 : decode cX2_append 35 = .ok (.aload_n 0, 1) := by decide +kernel
theorem dX2_append_36 : decode cX2_append 36 = .ok (.getfield 21, 3) := by decide +kernel
theorem dX2_append_39 : decode cX2_append 39 = .ok (.iload_n 3, 1) := by decide +kernel
theorem dX2_append_40 : decode cX2_append 40 = .ok (.iastore, 1) := by decide +kernel
theorem dX2_append_41 : decode cX2_append 41 = .ok (.aload_n 0, 1) := by decide +kernel
theorem dX2_append_42 : decode cX2_append 42 = .ok (.dup, 1) := by decide +kernel
theorem dX2_append_43 : decode cX2_append 43 = .ok (.getfield 21, 3) := by decide +kernel
theorem dX2_append_46 : decode cX2_append 46 = .ok (.iconst 1, 1) := by decide +kernel
theorem dX2_append_47 : decode cX2_append 47 = .ok (.iadd, 1) := by decide +kernel
theorem dX2_append_48 : decode cX2_append 48 = .ok (.putfield 21, 3) := by decide +kernel
theorem dX2_append_51 : decode cX2_append 51 = .ok (.iconst 1, 1) := by decide +kernel
theorem dX2_append_52 : decode cX2_append 52 = .ok (.ireturn, 1) := by decide +kernel
set_option maxRecDepth 20000 in
theorem ggX2_agreeWith_X2_lastStep : GoodIn wsX2_agreeWith wsX2_lastStep := goodIn_r _ [5, 6, 7, 8, 9, 10, 11, 69, 70, 71, 72] (by decide +kernel) (by decide +kernel)
set_option maxRecDepth 20000 in
theorem gX2_agreeWith_X2_lastStep : GoodIn wsX2_agreeWith (wsV RX2 25 RX2 yX2_lastStep wsX2_lastStep) := goodIn_app (goodIn_of _ (by decide +kernel)) ggX2_agreeWith_X2_lastStep
set_option maxRecDepth 20000 in
theorem ggX2_agreeWith_X0_takeStep : GoodIn wsX2_agreeWith wsX0_takeStep := goodIn_r _ [16, 17, 18, 19, 20, 21, 22, 15, 23, 24, 25, 26, 27, 28, 29, 30, 31, 32, 33, 34, 35, 36, 37, 38, 39, 40, 41, 42, 43, 44, 45, 10, 46, 47, 48, 49, 50, 51, 52, 53, 54, 55, 56, 57, 58, 59, 60, 73, 74, 75, 76, 77, 78, 79, 80, 81, 82, 83, 84] (by decide +kernel) (by decide +kernel)
set_option maxRecDepth 20000 in
theorem gX2_agreeWith_X0_takeStep : GoodIn wsX2_agreeWith (wsV RX2 29 RX0 yX0_takeStep wsX0_takeStep) := goodIn_app (goodIn_of _ (by decide +kernel)) ggX2_agreeWith_X0_takeStep
set_option maxRecDepth 20000 in
theorem ggX2_agreeWith_X2_agreeBehind : GoodIn wsX2_agreeWith wsX2_agreeBehind := goodIn_r _ [64, 6, 7, 65, 66, 67, 68, 69, 70, 71, 72, 73, 74, 75, 76, 77, 78, 79, 80, 81, 82, 83, 84] (by decide +kernel) (by decide +kernel)
set_option maxRecDepth 20000 in
theorem gX2_agreeWith_X2_agreeBehind : GoodIn wsX2_agreeWith (wsV RX2 34 RX2 yX2_agreeBehind wsX2_agreeBehind) := goodIn_app (goodIn_of _ (by decide +kernel)) ggX2_agreeWith_X2_agreeBehind
theorem dX2_agreeWith_0 : decode cX2_agreeWith 0 = .ok (.aload_n 0, 1) := by decide +kernel
theorem dX2_agreeWith_1 : decode cX2_agreeWith 1 = .ok (.invokevirtual 25, 3) := by decide +kernel
theorem dX2_agreeWith_4 : decode cX2_agreeWith 4 = .ok (.istore_n 2, 1) := by decide +kernel
theorem dX2_agreeWith_5 : decode cX2_agreeWith 5 = .ok (.iconst 0, 1) := by decide +kernel
theorem dX2_agreeWith_6 : decode cX2_agreeWith 6 = .ok (.istore_n 3, 1) := by decide +kernel
theorem dX2_agreeWith_7 : decode cX2_agreeWith 7 = .ok (.iload_n 3, 1) := by decide +kernel
theorem dX2_agreeWith_8 : decode cX2_agreeWith 8 = .ok (.iload_n 2, 1) := by decide +kernel
theorem dX2_agreeWith_9 : decode cX2_agreeWith 9 = .ok (.if_icmp .gt 28, 3) := by decide +kernel
theorem dX2_agreeWith_12 : decode cX2_agreeWith 12 = .ok (.iload_n 3, 1) := by decide +kernel
theorem dX2_agreeWith_13 : decode cX2_agreeWith 13 = .ok (.ifCond .le 7, 3) := by decide +kernel
theorem dX2_agreeWith_16 : decode cX2_agreeWith 16 = .ok (.aload_n 1, 1) := by decide +kernel
theorem dX2_agreeWith_17 : decode cX2_agreeWith 17 = .ok (.invokevirtual 29, 3) := by decide +kernel
theorem dX2_agreeWith_20 : decode cX2_agreeWith 20 = .ok (.aload_n 0, 1) := by decide +kernel
theorem dX2_agreeWith_21 : decode cX2_agreeWith 21 = .ok (.iload_n 3, 1) := by decide +kernel
theorem dX2_agreeWith_22 : decode cX2_agreeWith 22 = .ok (.aload_n 1, 1) := by decide +kernel
theorem dX2_agreeWith_23 : decode cX2_agreeWith 23 = .ok (.invokevirtual 34, 3) := by decide +kernel
theorem dX2_agreeWith_26 : decode cX2_agreeWith 26 = .ok (.ifCond .ne 5, 3) := by decide +kernel
theorem dX2_agreeWith_29 : decode cX2_agreeWith 29 = .ok (.iconst 0, 1) := by decide +kernel
theorem dX2_agreeWith_30 : decode cX2_agreeWith 30 = .ok (.ireturn, 1) := by decide +kernel
theorem dX2_agreeWith_31 : decode cX2_agreeWith 31 = .ok (.iinc 3 1, 3) := by decide +kernel
theorem dX2_agreeWith_34 : decode cX2_agreeWith 34 = .ok (.goto (-27), 3) := by decide +kernel
theorem dX2_agreeWith_37 : decode cX2_agreeWith 37 = .ok (.iconst 1, 1) := by decide +kernel
theorem dX2_agreeWith_38 : decode cX2_agreeWith 38 = .ok (.ireturn, 1) := by decide +kernel
theorem dX2_lastStep_0 : decode cX2_lastStep 0 = .ok (.iconst 0, 1) := by decide +kernel
theorem dX2_lastStep_1 : decode cX2_lastStep 1 = .ok (.istore_n 1, 1) := by decide +kernel
theorem dX2_lastStep_2 : decode cX2_lastStep 2 = .ok (.iconst 0, 1) := by decide +kernel
theorem dX2_lastStep_3 : decode cX2_lastStep 3 = .ok (.istore_n 2, 1) := by decide +kernel
theorem dX2_lastStep_4 : decode cX2_lastStep 4 = .ok (.iload_n 2, 1) := by decide +kernel
theorem dX2_lastStep_5 : decode cX2_lastStep 5 = .ok (.aload_n 0, 1) := by decide +kernel
theorem dX2_lastStep_6 : decode cX2_lastStep 6 = .ok (.getfield 21, 3) := by decide +kernel
theorem dX2_lastStep_9 : decode cX2_lastStep 9 = .ok (.if_icmp .ge 20, 3) := by decide +kernel
theorem dX2_lastStep_12 : decode cX2_lastStep 12 = .ok (.iload_n 1, 1) := by decide +kernel
theorem dX2_lastStep_13 : decode cX2_lastStep 13 = .ok (.aload_n 0, 1) := by decide +kernel
theorem dX2_lastStep_14 : decode cX2_lastStep 14 = .ok (.getfield 9, 3) := by decide +kernel
theorem dX2_lastStep_17 : decode cX2_lastStep 17 = .ok (.iload_n 2, 1) := by decide +kernel
theorem dX2_lastStep_18 : decode cX2_lastStep 18 = .ok (.iaload, 1) := by decide +kernel
theorem dX2_lastStep_19 : decode cX2_lastStep 19 = .ok (.invokestatic 38, 3) := by decide +kernel
theorem dX2_lastStep_22 : decode cX2_lastStep 22 = .ok (.istore_n 1, 1) := by decide +kernel
theorem dX2_lastStep_23 : decode cX2_lastStep 23 = .ok (.iinc 2 1, 3) := by decide +kernel
theorem dX2_lastStep_26 : decode cX2_lastStep 26 = .ok (.goto (-22), 3) := by decide +kernel
theorem dX2_lastStep_29 : decode cX2_lastStep 29 = .ok (.iload_n 1, 1) := by decide +kernel
theorem dX2_lastStep_30 : decode cX2_lastStep 30 = .ok (.ireturn, 1) := by decide +kernel
theorem dX2_agreeBehind_0 : decode cX2_agreeBehind 0 = .ok (.iconst 0, 1) := by decide +kernel
theorem dX2_agreeBehind_1 : decode cX2_agreeBehind 1 = .ok (.istore_n 3, 1) := by decide +kernel
theorem dX2_agreeBehind_2 : decode cX2_agreeBehind 2 = .ok (.iload_n 3, 1) := by decide +kernel
theorem dX2_agreeBehind_3 : decode cX2_agreeBehind 3 = .ok (.aload_n 0, 1) := by decide +kernel
theorem dX2_agreeBehind_4 : decode cX2_agreeBehind 4 = .ok (.getfield 21, 3) := by decide +kernel
theorem dX2_agreeBehind_7 : decode cX2_agreeBehind 7 = .ok (.if_icmp .ge 57, 3) := by decide +kernel
theorem dX2_agreeBehind_10 : decode cX2_agreeBehind 10 = .ok (.aload_n 0, 1) := by decide +kernel
theorem dX2_agreeBehind_11 : decode cX2_agreeBehind 11 = .ok (.getfield 9, 3) := by decide +kernel
theorem dX2_agreeBehind_14 : decode cX2_agreeBehind 14 = .ok (.iload_n 3, 1) := by decide +kernel
theorem dX2_agreeBehind_15 : decode cX2_agreeBehind 15 = .ok (.iaload, 1) := by decide +kernel
theorem dX2_agreeBehind_16 : decode cX2_agreeBehind 16 = .ok (.iload_n 1, 1) := by decide +kernel
theorem dX2_agreeBehind_17 : decode cX2_agreeBehind 17 = .ok (.if_icmp .eq 6, 3) := by decide +kernel
theorem dX2_agreeBehind_20 : decode cX2_agreeBehind 20 = .ok (.goto 38, 3) := by decide +kernel
theorem dX2_agreeBehind_23 : decode cX2_agreeBehind 23 = .ok (.aload_n 0, 1) := by decide +kernel
theorem dX2_agreeBehind_24 : decode cX2_agreeBehind 24 = .ok (.getfield 15, 3) := by decide +kernel
theorem dX2_agreeBehind_27 : decode cX2_agreeBehind 27 = .ok (.iload_n 3, 1) := by decide +kernel
theorem dX2_agreeBehind_28 : decode cX2_agreeBehind 28 = .ok (.iaload, 1) := by decide +kernel
theorem dX2_agreeBehind_29 : decode cX2_agreeBehind 29 = .ok (.istore 4, 2) := by decide +kernel
theorem dX2_agreeBehind_31 : decode cX2_agreeBehind 31 = .ok (.iload 4, 2) := by decide +kernel
theorem dX2_agreeBehind_33 : decode cX2_agreeBehind 33 = .ok (.aload_n 2, 1) := by decide +kernel
theorem dX2_agreeBehind_34 : decode cX2_agreeBehind 34 = .ok (.getfield 44, 3) := by decide +kernel
theorem dX2_agreeBehind_37 : decode cX2_agreeBehind 37 = .ok (.if_icmp .ge 19, 3) := by decide +kernel
theorem dX2_agreeBehind_40 : decode cX2_agreeBehind 40 = .ok (.aload_n 2, 1) := by decide +kernel
theorem dX2_agreeBehind_41 : decode cX2_agreeBehind 41 = .ok (.getfield 47, 3) := by decide +kernel
theorem dX2_agreeBehind_44 : decode cX2_agreeBehind 44 = .ok (.iload 4, 2) := by decide +kernel
theorem dX2_agreeBehind_46 : decode cX2_agreeBehind 46 = .ok (.iaload, 1) := by decide +kernel
theorem dX2_agreeBehind_47 : decode cX2_agreeBehind 47 = .ok (.aload_n 0, 1) := by decide +kernel
theorem dX2_agreeBehind_48 : decode cX2_agreeBehind 48 = .ok (.getfield 18, 3) := by decide +kernel
theorem dX2_agreeBehind_51 : decode cX2_agreeBehind 51 = .ok (.iload_n 3, 1) := by decide +kernel
theorem dX2_agreeBehind_52 : decode cX2_agreeBehind 52 = .ok (.iaload, 1) := by decide +kernel
theorem dX2_agreeBehind_53 : decode cX2_agreeBehind 53 = .ok (.if_icmp .eq 5, 3) := by decide +kernel
theorem dX2_agreeBehind_56 : decode cX2_agreeBehind 56 = .ok (.iconst 0, 1) := by decide +kernel
theorem dX2_agreeBehind_57 : decode cX2_agreeBehind 57 = .ok (.ireturn, 1) := by decide +kernel
theorem dX2_agreeBehind_58 : decode cX2_agreeBehind 58 = .ok (.iinc 3 1, 3) := by decide +kernel
theorem dX2_agreeBehind_61 : decode cX2_agreeBehind 61 = .ok (.goto (-59), 3) := by decide +kernel
theorem dX2_agreeBehind_64 : decode cX2_agreeBehind 64 = .ok (.iconst 1, 1) := by decide +kernel
theorem dX2_agreeBehind_65 : decode cX2_agreeBehind 65 = .ok (.ireturn, 1) := by decide +kernel
theorem dX3_init_0 : decode cX3_init 0 = .ok (.aload_n 0, 1) := by decide +kernel
theorem dX3_init_1 : decode cX3_init 1 = .ok (.invokespecial 3, 3) := by decide +kernel
theorem dX3_init_4 : decode cX3_init 4 = .ok (.aload_n 0, 1) := by decide +kernel
theorem dX3_init_5 : decode cX3_init 5 = .ok (.sipush 160, 3) := by decide +kernel
theorem dX3_init_8 : decode cX3_init 8 = .ok (.newarray .byte, 2) := by decide +kernel
theorem dX3_init_10 : decode cX3_init 10 = .ok (.putfield 9, 3) := by decide +kernel
theorem dX3_init_13 : decode cX3_init 13 = .ok (.aload_n 0, 1) := by decide +kernel
theorem dX3_init_14 : decode cX3_init 14 = .ok (.iconst 0, 1) := by decide +kernel
theorem dX3_init_15 : decode cX3_init 15 = .ok (.putfield 15, 3) := by decide +kernel
theorem dX3_init_18 : decode cX3_init 18 = .ok (.aload_n 0, 1) := by decide +kernel
theorem dX3_init_19 : decode cX3_init 19 = .ok (.iconst 0, 1) := by decide +kernel
theorem dX3_init_20 : decode cX3_init 20 = .ok (.putfield 19, 3) := by decide +kernel
theorem dX3_init_23 : decode cX3_init 23 = .ok (.aload_n 0, 1) := by decide +kernel
theorem dX3_init_24 : decode cX3_init 24 = .ok (.iconst 0, 1) := by decide +kernel
theorem dX3_init_25 : decode cX3_init 25 = .ok (.putfield 22, 3) := by decide +kernel
theorem dX3_init_28 : decode cX3_init 28 = .ok (.aload_n 0, 1) := by decide +kernel
theorem dX3_init_29 : decode cX3_init 29 = .ok (.iconst 0, 1) := by decide +kernel
theorem dX3_init_30 : decode cX3_init 30 = .ok (.putfield 25, 3) := by decide +kernel
theorem dX3_init_33 : decode cX3_init 33 = .ok (.aload_n 0, 1) := by decide +kernel
theorem dX3_init_34 : decode cX3_init 34 = .ok (.iconst 0, 1) := by decide +kernel
theorem dX3_init_35 : decode cX3_init 35 = .ok (.putfield 28, 3) := by decide +kernel
theorem dX3_init_38 : decode cX3_init 38 = .ok (.aload_n 0, 1) := by decide +kernel
theorem dX3_init_39 : decode cX3_init 39 = .ok (.iconst 0, 1) := by decide +kernel
theorem dX3_init_40 : decode cX3_init 40 = .ok (.putfield 31, 3) := by decide +kernel
theorem dX3_init_43 : decode cX3_init 43 = .ok (.return_, 1) := by decide +kernel
theorem dX3_append_0 : decode cX3_append 0 = .ok (.aload_n 0, 1) := by decide +kernel
theorem dX3_append_1 : decode cX3_append 1 = .ok (.getfield 15, 3) := by decide +kernel
theorem dX3_append_4 : decode cX3_append 4 = .ok (.sipush 160, 3) := by decide +kernel
theorem dX3_append_7 : decode cX3_append 7 = .ok (.if_icmp .lt 5, 3) := by decide +kernel
theorem dX3_append_10 : decode cX3_append 10 = .ok (.iconst 0, 1) := by decide +kernel
theorem dX3_append_11 : decode cX3_append 11 = .ok (.ireturn, 1) := by decide +kernel
theorem dX3_append_12 : decode cX3_append 12 = .ok (.aload_n 0, 1) := by decide +kernel
theorem dX3_append_13 : decode cX3_append 13 = .ok (.getfield 9, 3) := by decide +kernel
theorem dX3_append_16 : decode cX3_append 16 = .ok (.aload_n 0, 1) := by decide +kernel
theorem dX3_append_17 : decode cX3_append 17 = .ok (.getfield 15, 3) := by decide +kernel
theorem dX3_append_20 : decode cX3_append 20 = .ok (.iload_n 1, 1) := by decide +kernel
theorem dX3_append_21 : decode cX3_append 21 = .ok (.i2b, 1) := by decide +kernel
theorem dX3_append_22 : decode cX3_append 22 = .ok (.bastore, 1) := by decide +kernel
theorem dX3_append_23 : decode cX3_append 23 = .ok (.aload_n 0, 1) := by decide +kernel
theorem dX3_append_24 : decode cX3_append 24 = .ok (.dup, 1) := by decide +kernel
theorem dX3_append_25 : decode cX3_append 25 = .ok (.getfield 15, 3) := by decide +kernel
theorem dX3_append_28 : decode cX3_append 28 = .ok (.iconst 1, 1) := by decide +kernel
theorem dX3_append_29 : decode cX3_append 29 = .ok (.iadd, 1) := by decide +kernel
theorem dX3_append_30 : decode cX3_append 30 = .ok (.putfield 15, 3) := by decide +kernel
theorem dX3_append_33 : decode cX3_append 33 = .ok (.iconst 1, 1) := by decide +kernel
theorem dX3_append_34 : decode cX3_append 34 = .ok (.ireturn, 1) := by decide +kernel
set_option maxRecDepth 20000 in
theorem ggX3_tell_X0_empty : GoodIn wsX3_tell wsX0_empty := goodIn_r _ [9, 10, 11, 12, 13, 14, 15, 16, 8, 17, 18, 19, 135, 136, 137, 138, 139, 140, 141, 142, 143, 144, 145, 146] (by decide +kernel) (by decide +kernel)
set_option maxRecDepth 20000 in
theorem gX3_tell_X0_empty : GoodIn wsX3_tell (wsV RX3 34 RX0 yX0_empty wsX0_empty) := goodIn_app (goodIn_of _ (by decide +kernel)) ggX3_tell_X0_empty
set_option maxRecDepth 20000 in
theorem ggX3_tell_X3_takeToken : GoodIn wsX3_tell wsX3_takeToken := goodIn_r _ [24, 2, 4, 25, 26, 3, 27, 28, 29, 30, 31, 32, 23, 33, 128, 129, 130, 131, 132, 133, 134] (by decide +kernel) (by decide +kernel)
set_option maxRecDepth 20000 in
theorem gX3_tell_X3_takeToken : GoodIn wsX3_tell (wsV RX3 39 RX3 yX3_takeToken wsX3_takeToken) := goodIn_app (goodIn_of _ (by decide +kernel)) ggX3_tell_X3_takeToken
set_option maxRecDepth 20000 in
theorem ggX3_tell_X3_takeLine : GoodIn wsX3_tell wsX3_takeLine := goodIn_r _ [37, 38, 39, 40, 41, 42, 23, 43, 3, 44, 45, 46, 47, 1, 26, 48, 49, 50, 51, 52, 53, 54, 55, 56, 2, 25, 57, 58, 59, 60, 61, 62, 63, 64, 65, 66, 67, 68, 69, 70, 71, 72, 73, 74, 75, 76, 77, 78, 79, 80, 81, 82, 83, 84, 85, 86, 87, 88, 89, 90, 91, 92, 93, 94, 95, 96, 97, 98, 99, 100, 101, 102, 103, 104, 105, 20, 21, 22, 24, 4, 27, 28, 29, 30, 31, 32, 33, 106, 107, 108, 109, 110, 111, 112, 8, 113, 10, 114, 115, 116, 117, 118, 119, 120, 121, 122, 12, 123, 124, 125, 126, 11, 127, 135, 136, 137, 138, 139, 140, 141, 142, 143, 144, 145, 146, 128, 129, 130, 131, 132, 133, 134] (by decide +kernel) (by decide +kernel)
set_option maxRecDepth 20000 in
theorem gX3_tell_X3_takeLine : GoodIn wsX3_tell (wsV RX3 42 RX3 yX3_takeLine wsX3_takeLine) := goodIn_app (goodIn_of _ (by decide +kernel)) ggX3_tell_X3_takeLine
theorem dX3_tell_0 : decode cX3_tell 0 = .ok (.aload_n 1, 1) := by decide +kernel
theorem dX3_tell_1 : decode cX3_tell 1 = .ok (.invokevirtual 34, 3) := by decide +kernel
theorem dX3_tell_4 : decode cX3_tell 4 = .ok (.aload_n 0, 1) := by decide +kernel
theorem dX3_tell_5 : decode cX3_tell 5 = .ok (.iconst 0, 1) := by decide +kernel
theorem dX3_tell_6 : decode cX3_tell 6 = .ok (.putfield 19, 3) := by decide +kernel
theorem dX3_tell_9 : decode cX3_tell 9 = .ok (.aload_n 0, 1) := by decide +kernel
theorem dX3_tell_10 : decode cX3_tell 10 = .ok (.iconst 0, 1) := by decide +kernel
theorem dX3_tell_11 : decode cX3_tell 11 = .ok (.putfield 31, 3) := by decide +kernel
theorem dX3_tell_14 : decode cX3_tell 14 = .ok (.iconst 0, 1) := by decide +kernel
theorem dX3_tell_15 : decode cX3_tell 15 = .ok (.istore_n 2, 1) := by decide +kernel
theorem dX3_tell_16 : decode cX3_tell 16 = .ok (.aload_n 0, 1) := by decide +kernel
theorem dX3_tell_17 : decode cX3_tell 17 = .ok (.invokevirtual 39, 3) := by decide +kernel
theorem dX3_tell_20 : decode cX3_tell 20 = .ok (.aload_n 0, 1) := by decide +kernel
theorem dX3_tell_21 : decode cX3_tell 21 = .ok (.getfield 25, 3) := by decide +kernel
theorem dX3_tell_24 : decode cX3_tell 24 = .ok (.ifCond .eq 28, 3) := by decide +kernel
theorem dX3_tell_27 : decode cX3_tell 27 = .ok (.iload_n 2, 1) := by decide +kernel
theorem dX3_tell_28 : decode cX3_tell 28 = .ok (.sipush 160, 3) := by decide +kernel
theorem dX3_tell_31 : decode cX3_tell 31 = .ok (.if_icmp .ge 21, 3) := by decide +kernel
theorem dX3_tell_34 : decode cX3_tell 34 = .ok (.aload_n 0, 1) := by decide +kernel
theorem dX3_tell_35 : decode cX3_tell 35 = .ok (.aload_n 1, 1) := by decide +kernel
theorem dX3_tell_36 : decode cX3_tell 36 = .ok (.invokevirtual 42, 3) := by decide +kernel
theorem dX3_tell_39 : decode cX3_tell 39 = .ok (.ifCond .eq 13, 3) := by decide +kernel
theorem dX3_tell_42 : decode cX3_tell 42 = .ok (.iinc 2 1, 3) := by decide +kernel
theorem dX3_tell_45 : decode cX3_tell 45 = .ok (.aload_n 0, 1) := by decide +kernel
theorem dX3_tell_46 : decode cX3_tell 46 = .ok (.invokevirtual 39, 3) := by decide +kernel
theorem dX3_tell_49 : decode cX3_tell 49 = .ok (.goto (-29), 3) := by decide +kernel
theorem dX3_tell_52 : decode cX3_tell 52 = .ok (.aload_n 0, 1) := by decide +kernel
theorem dX3_tell_53 : decode cX3_tell 53 = .ok (.iconst 0, 1) := by decide +kernel
theorem dX3_tell_54 : decode cX3_tell 54 = .ok (.putfield 15, 3) := by decide +kernel
theorem dX3_tell_57 : decode cX3_tell 57 = .ok (.iload_n 2, 1) := by decide +kernel
theorem dX3_tell_58 : decode cX3_tell 58 = .ok (.ireturn, 1) := by decide +kernel
set_option maxRecDepth 20000 in
theorem ggX3_takeLine_X3_stands : GoodIn wsX3_takeLine wsX3_stands := goodIn_r _ [7, 8, 9, 10, 11, 6, 12, 13, 14, 15, 125, 126, 127, 128, 129, 130, 131] (by decide +kernel) (by decide +kernel)
set_option maxRecDepth 20000 in
theorem gX3_takeLine_X3_stands : GoodIn wsX3_takeLine (wsV RX3 46 RX3 yX3_stands wsX3_stands) := goodIn_app (goodIn_of _ (by decide +kernel)) ggX3_takeLine_X3_stands
set_option maxRecDepth 20000 in
theorem ggX3_takeLine_X3_openingOfLine : GoodIn wsX3_takeLine wsX3_openingOfLine := goodIn_r _ [19, 20, 21, 22, 6, 23, 24, 14, 25, 26, 27, 28, 29, 30, 31, 32, 33, 34, 35, 36, 37, 38, 39, 40, 41, 42, 43, 44, 45, 46, 47, 48, 49, 50, 51, 52, 53, 54, 55, 56, 57, 58, 59, 60, 61, 62, 63, 64, 65, 66, 67, 68, 69, 70, 71, 72, 73, 74, 125, 126, 127, 128, 129, 130, 131] (by decide +kernel) (by decide +kernel)
set_option maxRecDepth 20000 in
theorem gX3_takeLine_X3_openingOfLine : GoodIn wsX3_takeLine (wsV RX3 50 RX3 yX3_openingOfLine wsX3_openingOfLine) := goodIn_app (goodIn_of _ (by decide +kernel)) ggX3_takeLine_X3_openingOfLine
set_option maxRecDepth 20000 in
theorem ggX3_takeLine_X3_refuse : GoodIn wsX3_takeLine wsX3_refuse := goodIn_r _ [12, 13, 14, 15, 125, 126, 127, 128, 129, 130, 131] (by decide +kernel) (by decide +kernel)
set_option maxRecDepth 20000 in
theorem gX3_takeLine_X3_refuse : GoodIn wsX3_takeLine (wsV RX3 54 RX3 yX3_refuse wsX3_refuse) := goodIn_app (goodIn_of _ (by decide +kernel)) ggX3_takeLine_X3_refuse
set_option maxRecDepth 20000 in
theorem ggX3_takeLine_X3_takeToken : GoodIn wsX3_takeLine wsX3_takeToken := goodIn_r _ [78, 24, 79, 25, 14, 8, 80, 81, 82, 83, 84, 85, 6, 86, 125, 126, 127, 128, 129, 130, 131] (by decide +kernel) (by decide +kernel)
set_option maxRecDepth 20000 in
theorem gX3_takeLine_X3_takeToken : GoodIn wsX3_takeLine (wsV RX3 39 RX3 yX3_takeToken wsX3_takeToken) := goodIn_app (goodIn_of _ (by decide +kernel)) ggX3_takeLine_X3_takeToken
set_option maxRecDepth 20000 in
theorem ggX3_takeLine_X3_numberOfToken : GoodIn wsX3_takeLine wsX3_numberOfToken := goodIn_r _ [90, 14, 24, 25, 125, 126, 127, 128, 129, 130, 131] (by decide +kernel) (by decide +kernel)
set_option maxRecDepth 20000 in
theorem gX3_takeLine_X3_numberOfToken : GoodIn wsX3_takeLine (wsV RX3 63 RX3 yX3_numberOfToken wsX3_numberOfToken) := goodIn_app (goodIn_of _ (by decide +kernel)) ggX3_takeLine_X3_numberOfToken
set_option maxRecDepth 20000 in
theorem ggX3_takeLine_X0_appendArm : GoodIn wsX3_takeLine wsX0_appendArm := goodIn_r _ [95, 96, 97, 98, 99, 100, 101, 102, 103, 104, 94, 105, 106, 113, 114, 115, 116, 117, 118, 119, 120, 121, 122, 123, 124] (by decide +kernel) (by decide +kernel)
set_option maxRecDepth 20000 in
theorem gX3_takeLine_X0_appendArm : GoodIn wsX3_takeLine (wsV RX3 66 RX0 yX0_appendArm wsX0_appendArm) := goodIn_app (goodIn_of _ (by decide +kernel)) ggX3_takeLine_X0_appendArm
set_option maxRecDepth 20000 in
theorem ggX3_takeLine_X0_appendStroke : GoodIn wsX3_takeLine wsX0_appendStroke := goodIn_r _ [110, 111, 112, 113, 114, 115, 116, 117, 118, 119, 120, 121, 122, 123, 124] (by decide +kernel) (by decide +kernel)
set_option maxRecDepth 20000 in
theorem gX3_takeLine_X0_appendStroke : GoodIn wsX3_takeLine (wsV RX3 70 RX0 yX0_appendStroke wsX0_appendStroke) := goodIn_app (goodIn_of _ (by decide +kernel)) ggX3_takeLine_X0_appendStroke
theorem dX3_takeLine_0 : decode cX3_takeLine 0 = .ok (.aload_n 0, 1) := by decide +kernel
theorem dX3_takeLine_1 : decode cX3_takeLine 1 = .ok (.iconst 2, 1) := by decide +kernel
theorem dX3_takeLine_2 : decode cX3_takeLine 2 = .ok (.invokevirtual 46, 3) := by decide +kernel
theorem dX3_takeLine_5 : decode cX3_takeLine 5 = .ok (.ifCond .ne 5, 3) := by decide +kernel
theorem dX3_takeLine_8 : decode cX3_takeLine 8 = .ok (.iconst 0, 1) := by decide +kernel
theorem dX3_takeLine_9 : decode cX3_takeLine 9 = .ok (.ireturn, 1) := by decide +kernel
theorem dX3_takeLine_10 : decode cX3_takeLine 10 = .ok (.aload_n 0, 1) := by decide +kernel
theorem dX3_takeLine_11 : decode cX3_takeLine 11 = .ok (.invokevirtual 50, 3) := by decide +kernel
theorem dX3_takeLine_14 : decode cX3_takeLine 14 = .ok (.istore_n 2, 1) := by decide +kernel
theorem dX3_takeLine_15 : decode cX3_takeLine 15 = .ok (.iload_n 2, 1) := by decide +kernel
theorem dX3_takeLine_16 : decode cX3_takeLine 16 = .ok (.ifCond .ge 9, 3) := by decide +kernel
theorem dX3_takeLine_19 : decode cX3_takeLine 19 = .ok (.aload_n 0, 1) := by decide +kernel
theorem dX3_takeLine_20 : decode cX3_takeLine 20 = .ok (.iconst 2, 1) := by decide +kernel
theorem dX3_takeLine_21 : decode cX3_takeLine 21 = .ok (.invokevirtual 54, 3) := by decide +kernel
theorem dX3_takeLine_24 : decode cX3_takeLine 24 = .ok (.ireturn, 1) := by decide +kernel
theorem dX3_takeLine_25 : decode cX3_takeLine 25 = .ok (.iload_n 2, 1) := by decide +kernel
theorem dX3_takeLine_26 : decode cX3_takeLine 26 = .ok (.iconst 4, 1) := by decide +kernel
theorem dX3_takeLine_27 : decode cX3_takeLine 27 = .ok (.if_icmp .lt 15, 3) := by decide +kernel
theorem dX3_takeLine_30 : decode cX3_takeLine 30 = .ok (.aload_n 1, 1) := by decide +kernel
theorem dX3_takeLine_31 : decode cX3_takeLine 31 = .ok (.getfield 57, 3) := by decide +kernel
theorem dX3_takeLine_34 : decode cX3_takeLine 34 = .ok (.bipush 16, 2) := by decide +kernel
theorem dX3_takeLine_36 : decode cX3_takeLine 36 = .ok (.if_icmp .lt 20, 3) := by decide +kernel
theorem dX3_takeLine_39 : decode cX3_takeLine 39 = .ok (.goto 11, 3) := by decide +kernel
theorem dX3_takeLine_42 : decode cX3_takeLine 42 = .ok (.aload_n 1, 1) := by decide +kernel
theorem dX3_takeLine_43 : decode cX3_takeLine 43 = .ok (.getfield 60, 3) := by decide +kernel
theorem dX3_takeLine_46 : decode cX3_takeLine 46 = .ok (.iconst 4, 1) := by decide +kernel
theorem dX3_takeLine_47 : decode cX3_takeLine 47 = .ok (.if_icmp .lt 9, 3) := by decide +kernel
theorem dX3_takeLine_50 : decode cX3_takeLine 50 = .ok (.aload_n 0, 1) := by decide +kernel
theorem dX3_takeLine_51 : decode cX3_takeLine 51 = .ok (.iconst 5, 1) := by decide +kernel
theorem dX3_takeLine_52 : decode cX3_takeLine 52 = .ok (.invokevirtual 54, 3) := by decide +kernel
theorem dX3_takeLine_55 : decode cX3_takeLine 55 = .ok (.ireturn, 1) := by decide +kernel
theorem dX3_takeLine_56 : decode cX3_takeLine 56 = .ok (.aload_n 0, 1) := by decide +kernel
theorem dX3_takeLine_57 : decode cX3_takeLine 57 = .ok (.invokevirtual 39, 3) := by decide +kernel
theorem dX3_takeLine_60 : decode cX3_takeLine 60 = .ok (.aload_n 0, 1) := by decide +kernel
theorem dX3_takeLine_61 : decode cX3_takeLine 61 = .ok (.iconst 3, 1) := by decide +kernel
theorem dX3_takeLine_62 : decode cX3_takeLine 62 = .ok (.invokevirtual 46, 3) := by decide +kernel
theorem dX3_takeLine_65 : decode cX3_takeLine 65 = .ok (.ifCond .ne 5, 3) := by decide +kernel
theorem dX3_takeLine_68 : decode cX3_takeLine 68 = .ok (.iconst 0, 1) := by decide +kernel
theorem dX3_takeLine_69 : decode cX3_takeLine 69 = .ok (.ireturn, 1) := by decide +kernel
theorem dX3_takeLine_70 : decode cX3_takeLine 70 = .ok (.aload_n 0, 1) := by decide +kernel
theorem dX3_takeLine_71 : decode cX3_takeLine 71 = .ok (.invokevirtual 63, 3) := by decide +kernel
theorem dX3_takeLine_74 : decode cX3_takeLine 74 = .ok (.istore_n 3, 1) := by decide +kernel
theorem dX3_takeLine_75 : decode cX3_takeLine 75 = .ok (.iload_n 3, 1) := by decide +kernel
theorem dX3_takeLine_76 : decode cX3_takeLine 76 = .ok (.iload_n 2, 1) := by decide +kernel
theorem dX3_takeLine_77 : decode cX3_takeLine 77 = .ok (.iconst 4, 1) := by decide +kernel
theorem dX3_takeLine_78 : decode cX3_takeLine 78 = .ok (.if_icmp .lt 8, 3) := by decide +kernel
theorem dX3_takeLine_81 : decode cX3_takeLine 81 = .ok (.bipush 9, 2) := by decide +kernel
theorem dX3_takeLine_83 : decode cX3_takeLine 83 = .ok (.goto 5, 3) := by decide +kernel
theorem dX3_takeLine_86 : decode cX3_takeLine 86 = .ok (.bipush 9, 2) := by decide +kernel
theorem dX3_takeLine_88 : decode cX3_takeLine 88 = .ok (.if_icmp .le 9, 3) := by decide +kernel
theorem dX3_takeLine_91 : decode cX3_takeLine 91 = .ok (.aload_n 0, 1) := by decide +kernel
theorem dX3_takeLine_92 : decode cX3_takeLine 92 = .ok (.iconst 3, 1) := by decide +kernel
theorem dX3_takeLine_93 : decode cX3_takeLine 93 = .ok (.invokevirtual 54, 3) := by decide +kernel
theorem dX3_takeLine_96 : decode cX3_takeLine 96 = .ok (.ireturn, 1) := by decide +kernel
theorem dX3_takeLine_97 : decode cX3_takeLine 97 = .ok (.aload_n 0, 1) := by decide +kernel
theorem dX3_takeLine_98 : decode cX3_takeLine 98 = .ok (.invokevirtual 39, 3) := by decide +kernel
theorem dX3_takeLine_101 : decode cX3_takeLine 101 = .ok (.aload_n 0, 1) := by decide +kernel
theorem dX3_takeLine_102 : decode cX3_takeLine 102 = .ok (.iconst 4, 1) := by decide +kernel
theorem dX3_takeLine_103 : decode cX3_takeLine 103 = .ok (.invokevirtual 46, 3) := by decide +kernel
theorem dX3_takeLine_106 : decode cX3_takeLine 106 = .ok (.ifCond .ne 5, 3) := by decide +kernel
theorem dX3_takeLine_109 : decode cX3_takeLine 109 = .ok (.iconst 0, 1) := by decide +kernel
theorem dX3_takeLine_110 : decode cX3_takeLine 110 = .ok (.ireturn, 1) := by decide +kernel
theorem dX3_takeLine_111 : decode cX3_takeLine 111 = .ok (.iload_n 2, 1) := by decide +kernel
theorem dX3_takeLine_112 : decode cX3_takeLine 112 = .ok (.iconst 4, 1) := by decide +kernel
theorem dX3_takeLine_113 : decode cX3_takeLine 113 = .ok (.if_icmp .ge 12, 3) := by decide +kernel
theorem dX3_takeLine_116 : decode cX3_takeLine 116 = .ok (.aload_n 1, 1) := by decide +kernel
theorem dX3_takeLine_117 : decode cX3_takeLine 117 = .ok (.iload_n 2, 1) := by decide +kernel
theorem dX3_takeLine_118 : decode cX3_takeLine 118 = .ok (.iload_n 3, 1) := by decide +kernel
theorem dX3_takeLine_119 : decode cX3_takeLine 119 = .ok (.invokevirtual 66, 3) := by decide +kernel
theorem dX3_takeLine_122 : decode cX3_takeLine 122 = .ok (.goto 18, 3) := by decide +kernel
theorem dX3_takeLine_125 : decode cX3_takeLine 125 = .ok (.aload_n 1, 1) := by decide +kernel
theorem dX3_takeLine_126 : decode cX3_takeLine 126 = .ok (.iload_n 2, 1) := by decide +kernel
theorem dX3_takeLine_127 : decode cX3_takeLine 127 = .ok (.iconst 5, 1) := by decide +kernel
theorem dX3_takeLine_128 : decode cX3_takeLine 128 = .ok (.if_icmp .ne 8, 3) := by decide +kernel
theorem dX3_takeLine_131 : decode cX3_takeLine 131 = .ok (.iload_n 3, 1) := by decide +kernel
theorem dX3_takeLine_132 : decode cX3_takeLine 132 = .ok (.ineg, 1) := by decide +kernel
theorem dX3_takeLine_133 : decode cX3_takeLine 133 = .ok (.goto 4, 3) := by decide +kernel
theorem dX3_takeLine_136 : decode cX3_takeLine 136 = .ok (.iload_n 3, 1) := by decide +kernel
theorem dX3_takeLine_137 : decode cX3_takeLine 137 = .ok (.invokevirtual 70, 3) := by decide +kernel
theorem dX3_takeLine_140 : decode cX3_takeLine 140 = .ok (.ireturn, 1) := by decide +kernel
set_option maxRecDepth 20000 in
theorem ggX3_stands_X3_refuse : GoodIn wsX3_stands wsX3_refuse := goodIn_r _ [6, 7, 8, 9, 10, 11, 12, 13, 14, 15, 16] (by decide +kernel) (by decide +kernel)
set_option maxRecDepth 20000 in
theorem gX3_stands_X3_refuse : GoodIn wsX3_stands (wsV RX3 54 RX3 yX3_refuse wsX3_refuse) := goodIn_app (goodIn_of _ (by decide +kernel)) ggX3_stands_X3_refuse
theorem dX3_stands_0 : decode cX3_stands 0 = .ok (.aload_n 0, 1) := by decide +kernel
theorem dX3_stands_1 : decode cX3_stands 1 = .ok (.getfield 25, 3) := by decide +kernel
theorem dX3_stands_4 : decode cX3_stands 4 = .ok (.iload_n 1, 1) := by decide +kernel
theorem dX3_stands_5 : decode cX3_stands 5 = .ok (.if_icmp .ne 5, 3) := by decide +kernel
theorem dX3_stands_8 : decode cX3_stands 8 = .ok (.iconst 1, 1) := by decide +kernel
theorem dX3_stands_9 : decode cX3_stands 9 = .ok (.ireturn, 1) := by decide +kernel
theorem dX3_stands_10 : decode cX3_stands 10 = .ok (.aload_n 0, 1) := by decide +kernel
theorem dX3_stands_11 : decode cX3_stands 11 = .ok (.aload_n 0, 1) := by decide +kernel
theorem dX3_stands_12 : decode cX3_stands 12 = .ok (.getfield 25, 3) := by decide +kernel
theorem dX3_stands_15 : decode cX3_stands 15 = .ok (.iconst 1, 1) := by decide +kernel
theorem dX3_stands_16 : decode cX3_stands 16 = .ok (.if_icmp .ne 7, 3) := by decide +kernel
theorem dX3_stands_19 : decode cX3_stands 19 = .ok (.iconst 1, 1) := by decide +kernel
theorem dX3_stands_20 : decode cX3_stands 20 = .ok (.goto 4, 3) := by decide +kernel
theorem dX3_stands_23 : decode cX3_stands 23 = .ok (.iconst 2, 1) := by decide +kernel
theorem dX3_stands_24 : decode cX3_stands 24 = .ok (.invokevirtual 54, 3) := by decide +kernel
theorem dX3_stands_27 : decode cX3_stands 27 = .ok (.ireturn, 1) := by decide +kernel
theorem dX3_refuse_0 : decode cX3_refuse 0 = .ok (.aload_n 0, 1) := by decide +kernel
theorem dX3_refuse_1 : decode cX3_refuse 1 = .ok (.iload_n 1, 1) := by decide +kernel
theorem dX3_refuse_2 : decode cX3_refuse 2 = .ok (.putfield 19, 3) := by decide +kernel
theorem dX3_refuse_5 : decode cX3_refuse 5 = .ok (.aload_n 0, 1) := by decide +kernel
theorem dX3_refuse_6 : decode cX3_refuse 6 = .ok (.aload_n 0, 1) := by decide +kernel
theorem dX3_refuse_7 : decode cX3_refuse 7 = .ok (.getfield 28, 3) := by decide +kernel
theorem dX3_refuse_10 : decode cX3_refuse 10 = .ok (.putfield 22, 3) := by decide +kernel
theorem dX3_refuse_13 : decode cX3_refuse 13 = .ok (.iconst 0, 1) := by decide +kernel
theorem dX3_refuse_14 : decode cX3_refuse 14 = .ok (.ireturn, 1) := by decide +kernel
set_option maxRecDepth 20000 in
theorem ggX3_openingOfLine_X3_tokenIs : GoodIn wsX3_openingOfLine wsX3_tokenIs := goodIn_r _ [5, 6, 7, 8, 9, 10, 11, 12, 13, 14, 15, 16, 17, 18, 19, 20, 21, 22, 23, 24, 25, 26, 27, 28, 29, 30, 31, 32, 33, 34, 35, 36, 37, 38, 39, 40, 41, 42, 43, 44, 45, 46, 47, 48, 49, 50, 51, 52, 53, 54, 55, 56, 57, 58, 59, 60, 61, 62, 63, 64] (by decide +kernel) (by decide +kernel)
set_option maxRecDepth 20000 in
theorem gX3_openingOfLine_X3_tokenIs : GoodIn wsX3_openingOfLine (wsV RX3 75 RX3 yX3_tokenIs wsX3_tokenIs) := goodIn_app (goodIn_of _ (by decide +kernel)) ggX3_openingOfLine_X3_tokenIs
theorem dX3_openingOfLine_0 : decode cX3_openingOfLine 0 = .ok (.aload_n 0, 1) := by decide +kernel
theorem dX3_openingOfLine_1 : decode cX3_openingOfLine 1 = .ok (.ldc 73, 2) := by decide +kernel
theorem dX3_openingOfLine_3 : decode cX3_openingOfLine 3 = .ok (.invokevirtual 75, 3) := by decide +kernel
theorem dX3_openingOfLine_6 : decode cX3_openingOfLine 6 = .ok (.ifCond .eq 5, 3) := by decide +kernel
theorem dX3_openingOfLine_9 : decode cX3_openingOfLine 9 = .ok (.iconst 0, 1) := by decide +kernel
theorem dX3_openingOfLine_10 : decode cX3_openingOfLine 10 = .ok (.ireturn, 1) := by decide +kernel
theorem dX3_openingOfLine_11 : decode cX3_openingOfLine 11 = .ok (.aload_n 0, 1) := by decide +kernel
theorem dX3_openingOfLine_12 : decode cX3_openingOfLine 12 = .ok (.ldc 79, 2) := by decide +kernel
theorem dX3_openingOfLine_14 : decode cX3_openingOfLine 14 = .ok (.invokevirtual 75, 3) := by decide +kernel
theorem dX3_openingOfLine_17 : decode cX3_openingOfLine 17 = .ok (.ifCond .eq 5, 3) := by decide +kernel
theorem dX3_openingOfLine_20 : decode cX3_openingOfLine 20 = .ok (.iconst 1, 1) := by decide +kernel
theorem dX3_openingOfLine_21 : decode cX3_openingOfLine 21 = .ok (.ireturn, 1) := by decide +kernel
theorem dX3_openingOfLine_22 : decode cX3_openingOfLine 22 = .ok (.aload_n 0, 1) := by decide +kernel
theorem dX3_openingOfLine_23 : decode cX3_openingOfLine 23 = .ok (.ldc 81, 2) := by decide +kernel
theorem dX3_openingOfLine_25 : decode cX3_openingOfLine 25 = .ok (.invokevirtual 75, 3) := by decide +kernel
theorem dX3_openingOfLine_28 : decode cX3_openingOfLine 28 = .ok (.ifCond .eq 5, 3) := by decide +kernel
theorem dX3_openingOfLine_31 : decode cX3_openingOfLine 31 = .ok (.iconst 2, 1) := by decide +kernel
theorem dX3_openingOfLine_32 : decode cX3_openingOfLine 32 = .ok (.ireturn, 1) := by decide +kernel
theorem dX3_openingOfLine_33 : decode cX3_openingOfLine 33 = .ok (.aload_n 0, 1) := by decide +kernel
theorem dX3_openingOfLine_34 : decode cX3_openingOfLine 34 = .ok (.ldc 83, 2) := by decide +kernel
theorem dX3_openingOfLine_36 : decode cX3_openingOfLine 36 = .ok (.invokevirtual 75, 3) := by decide +kernel
theorem dX3_openingOfLine_39 : decode cX3_openingOfLine 39 = .ok (.ifCond .eq 5, 3) := by decide +kernel
theorem dX3_openingOfLine_42 : decode cX3_openingOfLine 42 = .ok (.iconst 3, 1) := by decide +kernel
theorem dX3_openingOfLine_43 : decode cX3_openingOfLine 43 = .ok (.ireturn, 1) := by decide +kernel
theorem dX3_openingOfLine_44 : decode cX3_openingOfLine 44 = .ok (.aload_n 0, 1) := by decide +kernel
theorem dX3_openingOfLine_45 : decode cX3_openingOfLine 45 = .ok (.ldc 85, 2) := by decide +kernel
theorem dX3_openingOfLine_47 : decode cX3_openingOfLine 47 = .ok (.invokevirtual 75, 3) := by decide +kernel
theorem dX3_openingOfLine_50 : decode cX3_openingOfLine 50 = .ok (.ifCond .eq 5, 3) := by decide +kernel
theorem dX3_openingOfLine_53 : decode cX3_openingOfLine 53 = .ok (.iconst 4, 1) := by decide +kernel
theorem dX3_openingOfLine_54 : decode cX3_openingOfLine 54 = .ok (.ireturn, 1) := by decide +kernel
theorem dX3_openingOfLine_55 : decode cX3_openingOfLine 55 = .ok (.aload_n 0, 1) := by decide +kernel
theorem dX3_openingOfLine_56 : decode cX3_openingOfLine 56 = .ok (.ldc 87, 2) := by decide +kernel
theorem dX3_openingOfLine_58 : decode cX3_openingOfLine 58 = .ok (.invokevirtual 75, 3) := by decide +kernel
theorem dX3_openingOfLine_61 : decode cX3_openingOfLine 61 = .ok (.ifCond .eq 7, 3) := by decide +kernel
theorem dX3_openingOfLine_64 : decode cX3_openingOfLine 64 = .ok (.iconst 5, 1) := by decide +kernel
theorem dX3_openingOfLine_65 : decode cX3_openingOfLine 65 = .ok (.goto 4, 3) := by decide +kernel
theorem dX3_openingOfLine_68 : decode cX3_openingOfLine 68 = .ok (.iconst (-1), 1) := by decide +kernel
theorem dX3_openingOfLine_69 : decode cX3_openingOfLine 69 = .ok (.ireturn, 1) := by decide +kernel
set_option maxRecDepth 20000 in
theorem ggX3_tokenIs_J0_length_8abf5 : GoodIn wsX3_tokenIs wsJ0_length_8abf5 := goodIn_r _ [8, 9, 10, 11, 12, 7, 13, 14, 15] (by decide +kernel) (by decide +kernel)
set_option maxRecDepth 20000 in
theorem gX3_tokenIs_J0_length_8abf5 : GoodIn wsX3_tokenIs (wsV RX3 89 RJ0 yJ0_length_8abf5 wsJ0_length_8abf5) := goodIn_app (goodIn_of _ (by decide +kernel)) ggX3_tokenIs_J0_length_8abf5
set_option maxRecDepth 20000 in
theorem ggX3_tokenIs_J0_charAt_5068e : GoodIn wsX3_tokenIs wsJ0_charAt_5068e := goodIn_r _ [19, 9, 20, 21, 22, 7, 23, 14, 15, 24, 25, 26, 27, 28, 29, 30, 31, 32, 33, 34, 35, 36, 37, 38, 39, 40, 41, 42, 43, 44, 45, 46, 47, 48, 49, 50, 51, 52] (by decide +kernel) (by decide +kernel)
set_option maxRecDepth 20000 in
theorem gX3_tokenIs_J0_charAt_5068e : GoodIn wsX3_tokenIs (wsV RX3 93 RJ0 yJ0_charAt_5068e wsJ0_charAt_5068e) := goodIn_app (goodIn_of _ (by decide +kernel)) ggX3_tokenIs_J0_charAt_5068e
theorem dX3_tokenIs_0 : decode cX3_tokenIs 0 = .ok (.aload_n 0, 1) := by decide +kernel
theorem dX3_tokenIs_1 : decode cX3_tokenIs 1 = .ok (.getfield 31, 3) := by decide +kernel
theorem dX3_tokenIs_4 : decode cX3_tokenIs 4 = .ok (.aload_n 0, 1) := by decide +kernel
theorem dX3_tokenIs_5 : decode cX3_tokenIs 5 = .ok (.getfield 28, 3) := by decide +kernel
theorem dX3_tokenIs_8 : decode cX3_tokenIs 8 = .ok (.isub, 1) := by decide +kernel
theorem dX3_tokenIs_9 : decode cX3_tokenIs 9 = .ok (.aload_n 1, 1) := by decide +kernel
theorem dX3_tokenIs_10 : decode cX3_tokenIs 10 = .ok (.invokevirtual 89, 3) := by decide +kernel
theorem dX3_tokenIs_13 : decode cX3_tokenIs 13 = .ok (.if_icmp .eq 5, 3) := by decide +kernel
theorem dX3_tokenIs_16 : decode cX3_tokenIs 16 = .ok (.iconst 0, 1) := by decide +kernel
theorem dX3_tokenIs_17 : decode cX3_tokenIs 17 = .ok (.ireturn, 1) := by decide +kernel
theorem dX3_tokenIs_18 : decode cX3_tokenIs 18 = .ok (.iconst 0, 1) := by decide +kernel
theorem dX3_tokenIs_19 : decode cX3_tokenIs 19 = .ok (.istore_n 2, 1) := by decide +kernel
theorem dX3_tokenIs_20 : decode cX3_tokenIs 20 = .ok (.iload_n 2, 1) := by decide +kernel
theorem dX3_tokenIs_21 : decode cX3_tokenIs 21 = .ok (.aload_n 1, 1) := by decide +kernel
theorem dX3_tokenIs_22 : decode cX3_tokenIs 22 = .ok (.invokevirtual 89, 3) := by decide +kernel
theorem dX3_tokenIs_25 : decode cX3_tokenIs 25 = .ok (.if_icmp .ge 30, 3) := by decide +kernel
theorem dX3_tokenIs_28 : decode cX3_tokenIs 28 = .ok (.aload_n 0, 1) := by decide +kernel
theorem dX3_tokenIs_29 : decode cX3_tokenIs 29 = .ok (.getfield 9, 3) := by decide +kernel
theorem dX3_tokenIs_32 : decode cX3_tokenIs 32 = .ok (.aload_n 0, 1) := by decide +kernel
theorem dX3_tokenIs_33 : decode cX3_tokenIs 33 = .ok (.getfield 28, 3) := by decide +kernel
theorem dX3_tokenIs_36 : decode cX3_tokenIs 36 = .ok (.iload_n 2, 1) := by decide +kernel
theorem dX3_tokenIs_37 : decode cX3_tokenIs 37 = .ok (.iadd, 1) := by decide +kernel
theorem dX3_tokenIs_38 : decode cX3_tokenIs 38 = .ok (.baload, 1) := by decide +kernel
theorem dX3_tokenIs_39 : decode cX3_tokenIs 39 = .ok (.aload_n 1, 1) := by decide +kernel
theorem dX3_tokenIs_40 : decode cX3_tokenIs 40 = .ok (.iload_n 2, 1) := by decide +kernel
theorem dX3_tokenIs_41 : decode cX3_tokenIs 41 = .ok (.invokevirtual 93, 3) := by decide +kernel
theorem dX3_tokenIs_44 : decode cX3_tokenIs 44 = .ok (.if_icmp .eq 5, 3) := by decide +kernel
theorem dX3_tokenIs_47 : decode cX3_tokenIs 47 = .ok (.iconst 0, 1) := by decide +kernel
theorem dX3_tokenIs_48 : decode cX3_tokenIs 48 = .ok (.ireturn, 1) := by decide +kernel
theorem dX3_tokenIs_49 : decode cX3_tokenIs 49 = .ok (.iinc 2 1, 3) := by decide +kernel
theorem dX3_tokenIs_52 : decode cX3_tokenIs 52 = .ok (.goto (-32), 3) := by decide +kernel
theorem dX3_tokenIs_55 : decode cX3_tokenIs 55 = .ok (.iconst 1, 1) := by decide +kernel
theorem dX3_tokenIs_56 : decode cX3_tokenIs 56 = .ok (.ireturn, 1) := by decide +kernel
theorem dX3_numberOfToken_0 : decode cX3_numberOfToken 0 = .ok (.iconst 0, 1) := by decide +kernel
theorem dX3_numberOfToken_1 : decode cX3_numberOfToken 1 = .ok (.istore_n 1, 1) := by decide +kernel
theorem dX3_numberOfToken_2 : decode cX3_numberOfToken 2 = .ok (.aload_n 0, 1) := by decide +kernel
theorem dX3_numberOfToken_3 : decode cX3_numberOfToken 3 = .ok (.getfield 28, 3) := by decide +kernel
theorem dX3_numberOfToken_6 : decode cX3_numberOfToken 6 = .ok (.istore_n 2, 1) := by decide +kernel
theorem dX3_numberOfToken_7 : decode cX3_numberOfToken 7 = .ok (.iload_n 2, 1) := by decide +kernel
theorem dX3_numberOfToken_8 : decode cX3_numberOfToken 8 = .ok (.aload_n 0, 1) := by decide +kernel
theorem dX3_numberOfToken_9 : decode cX3_numberOfToken 9 = .ok (.getfield 31, 3) := by decide +kernel
theorem dX3_numberOfToken_12 : decode cX3_numberOfToken 12 = .ok (.if_icmp .ge 24, 3) := by decide +kernel
theorem dX3_numberOfToken_15 : decode cX3_numberOfToken 15 = .ok (.iload_n 1, 1) := by decide +kernel
theorem dX3_numberOfToken_16 : decode cX3_numberOfToken 16 = .ok (.bipush 10, 2) := by decide +kernel
theorem dX3_numberOfToken_18 : decode cX3_numberOfToken 18 = .ok (.imul, 1) := by decide +kernel
theorem dX3_numberOfToken_19 : decode cX3_numberOfToken 19 = .ok (.aload_n 0, 1) := by decide +kernel
theorem dX3_numberOfToken_20 : decode cX3_numberOfToken 20 = .ok (.getfield 9, 3) := by decide +kernel
theorem dX3_numberOfToken_23 : decode cX3_numberOfToken 23 = .ok (.iload_n 2, 1) := by decide +kernel
theorem dX3_numberOfToken_24 : decode cX3_numberOfToken 24 = .ok (.baload, 1) := by decide +kernel
theorem dX3_numberOfToken_25 : decode cX3_numberOfToken 25 = .ok (.iadd, 1) := by decide +kernel
theorem dX3_numberOfToken_26 : decode cX3_numberOfToken 26 = .ok (.bipush 48, 2) := by decide +kernel
theorem dX3_numberOfToken_28 : decode cX3_numberOfToken 28 = .ok (.isub, 1) := by decide +kernel
theorem dX3_numberOfToken_29 : decode cX3_numberOfToken 29 = .ok (.istore_n 1, 1) := by decide +kernel
theorem dX3_numberOfToken_30 : decode cX3_numberOfToken 30 = .ok (.iinc 2 1, 3) := by decide +kernel
theorem dX3_numberOfToken_33 : decode cX3_numberOfToken 33 = .ok (.goto (-26), 3) := by decide +kernel
theorem dX3_numberOfToken_36 : decode cX3_numberOfToken 36 = .ok (.iload_n 1, 1) := by decide +kernel
theorem dX3_numberOfToken_37 : decode cX3_numberOfToken 37 = .ok (.ireturn, 1) := by decide +kernel
set_option maxRecDepth 20000 in
theorem ggX3_takeToken_X4_within : GoodIn wsX3_takeToken wsX4_within := goodIn_r _ [8] (by decide +kernel) (by decide +kernel)
set_option maxRecDepth 20000 in
theorem gX3_takeToken_X4_within_n97 : GoodIn wsX3_takeToken (wsX4_within) := ggX3_takeToken_X4_within
set_option maxRecDepth 20000 in
theorem ggX3_takeToken_X3_endOfRun : GoodIn wsX3_takeToken wsX3_endOfRun := goodIn_r _ [13, 2, 3, 6, 7, 8, 14, 15, 16, 17, 18, 19, 20] (by decide +kernel) (by decide +kernel)
set_option maxRecDepth 20000 in
theorem gX3_takeToken_X3_endOfRun : GoodIn wsX3_takeToken (wsV RX3 101 RX3 yX3_endOfRun wsX3_endOfRun) := goodIn_app (goodIn_of _ (by decide +kernel)) ggX3_takeToken_X3_endOfRun
theorem dX3_takeToken_0 : decode cX3_takeToken 0 = .ok (.aload_n 0, 1) := by decide +kernel
theorem dX3_takeToken_1 : decode cX3_takeToken 1 = .ok (.getfield 31, 3) := by decide +kernel
theorem dX3_takeToken_4 : decode cX3_takeToken 4 = .ok (.istore_n 1, 1) := by decide +kernel
theorem dX3_takeToken_5 : decode cX3_takeToken 5 = .ok (.iload_n 1, 1) := by decide +kernel
theorem dX3_takeToken_6 : decode cX3_takeToken 6 = .ok (.aload_n 0, 1) := by decide +kernel
theorem dX3_takeToken_7 : decode cX3_takeToken 7 = .ok (.getfield 15, 3) := by decide +kernel
theorem dX3_takeToken_10 : decode cX3_takeToken 10 = .ok (.if_icmp .ge 20, 3) := by decide +kernel
theorem dX3_takeToken_13 : decode cX3_takeToken 13 = .ok (.aload_n 0, 1) := by decide +kernel
theorem dX3_takeToken_14 : decode cX3_takeToken 14 = .ok (.getfield 9, 3) := by decide +kernel
theorem dX3_takeToken_17 : decode cX3_takeToken 17 = .ok (.iload_n 1, 1) := by decide +kernel
theorem dX3_takeToken_18 : decode cX3_takeToken 18 = .ok (.baload, 1) := by decide +kernel
theorem dX3_takeToken_19 : decode cX3_takeToken 19 = .ok (.bipush 32, 2) := by decide +kernel
theorem dX3_takeToken_21 : decode cX3_takeToken 21 = .ok (.if_icmp .ne 9, 3) := by decide +kernel
theorem dX3_takeToken_24 : decode cX3_takeToken 24 = .ok (.iinc 1 1, 3) := by decide +kernel
theorem dX3_takeToken_27 : decode cX3_takeToken 27 = .ok (.goto (-22), 3) := by decide +kernel
theorem dX3_takeToken_30 : decode cX3_takeToken 30 = .ok (.aload_n 0, 1) := by decide +kernel
theorem dX3_takeToken_31 : decode cX3_takeToken 31 = .ok (.iload_n 1, 1) := by decide +kernel
theorem dX3_takeToken_32 : decode cX3_takeToken 32 = .ok (.putfield 28, 3) := by decide +kernel
theorem dX3_takeToken_35 : decode cX3_takeToken 35 = .ok (.iload_n 1, 1) := by decide +kernel
theorem dX3_takeToken_36 : decode cX3_takeToken 36 = .ok (.aload_n 0, 1) := by decide +kernel
theorem dX3_takeToken_37 : decode cX3_takeToken 37 = .ok (.getfield 15, 3) := by decide +kernel
theorem dX3_takeToken_40 : decode cX3_takeToken 40 = .ok (.if_icmp .lt 16, 3) := by decide +kernel
theorem dX3_takeToken_43 : decode cX3_takeToken 43 = .ok (.aload_n 0, 1) := by decide +kernel
theorem dX3_takeToken_44 : decode cX3_takeToken 44 = .ok (.iload_n 1, 1) := by decide +kernel
theorem dX3_takeToken_45 : decode cX3_takeToken 45 = .ok (.putfield 31, 3) := by decide +kernel
theorem dX3_takeToken_48 : decode cX3_takeToken 48 = .ok (.aload_n 0, 1) := by decide +kernel
theorem dX3_takeToken_49 : decode cX3_takeToken 49 = .ok (.iconst 0, 1) := by decide +kernel
theorem dX3_takeToken_50 : decode cX3_takeToken 50 = .ok (.putfield 25, 3) := by decide +kernel
theorem dX3_takeToken_53 : decode cX3_takeToken 53 = .ok (.goto 104, 3) := by decide +kernel
theorem dX3_takeToken_56 : decode cX3_takeToken 56 = .ok (.aload_n 0, 1) := by decide +kernel
theorem dX3_takeToken_57 : decode cX3_takeToken 57 = .ok (.getfield 9, 3) := by decide +kernel
theorem dX3_takeToken_60 : decode cX3_takeToken 60 = .ok (.iload_n 1, 1) := by decide +kernel
theorem dX3_takeToken_61 : decode cX3_takeToken 61 = .ok (.baload, 1) := by decide +kernel
theorem dX3_takeToken_62 : decode cX3_takeToken 62 = .ok (.bipush 59, 2) := by decide +kernel
theorem dX3_takeToken_64 : decode cX3_takeToken 64 = .ok (.if_icmp .ne 18, 3) := by decide +kernel
theorem dX3_takeToken_67 : decode cX3_takeToken 67 = .ok (.aload_n 0, 1) := by decide +kernel
theorem dX3_takeToken_68 : decode cX3_takeToken 68 = .ok (.iload_n 1, 1) := by decide +kernel
theorem dX3_takeToken_69 : decode cX3_takeToken 69 = .ok (.iconst 1, 1) := by decide +kernel
theorem dX3_takeToken_70 : decode cX3_takeToken 70 = .ok (.iadd, 1) := by decide +kernel
theorem dX3_takeToken_71 : decode cX3_takeToken 71 = .ok (.putfield 31, 3) := by decide +kernel
theorem dX3_takeToken_74 : decode cX3_takeToken 74 = .ok (.aload_n 0, 1) := by decide +kernel
theorem dX3_takeToken_75 : decode cX3_takeToken 75 = .ok (.iconst 4, 1) := by decide +kernel
theorem dX3_takeToken_76 : decode cX3_takeToken 76 = .ok (.putfield 25, 3) := by decide +kernel
theorem dX3_takeToken_79 : decode cX3_takeToken 79 = .ok (.goto 78, 3) := by decide +kernel
theorem dX3_takeToken_82 : decode cX3_takeToken 82 = .ok (.aload_n 0, 1) := by decide +kernel
theorem dX3_takeToken_83 : decode cX3_takeToken 83 = .ok (.getfield 9, 3) := by decide +kernel
theorem dX3_takeToken_86 : decode cX3_takeToken 86 = .ok (.iload_n 1, 1) := by decide +kernel
theorem dX3_takeToken_87 : decode cX3_takeToken 87 = .ok (.baload, 1) := by decide +kernel
theorem dX3_takeToken_88 : decode cX3_takeToken 88 = .ok (.bipush 97, 2) := by decide +kernel
theorem dX3_takeToken_90 : decode cX3_takeToken 90 = .ok (.bipush 122, 2) := by decide +kernel
theorem dX3_takeToken_92 : decode cX3_takeToken 92 = .ok (.invokestatic 97, 3) := by decide +kernel
theorem dX3_takeToken_95 : decode cX3_takeToken 95 = .ok (.ifCond .eq 24, 3) := by decide +kernel
theorem dX3_takeToken_98 : decode cX3_takeToken 98 = .ok (.aload_n 0, 1) := by decide +kernel
theorem dX3_takeToken_99 : decode cX3_takeToken 99 = .ok (.aload_n 0, 1) := by decide +kernel
theorem dX3_takeToken_100 : decode cX3_takeToken 100 = .ok (.iload_n 1, 1) := by decide +kernel
theorem dX3_takeToken_101 : decode cX3_takeToken 101 = .ok (.bipush 97, 2) := by decide +kernel
theorem dX3_takeToken_103 : decode cX3_takeToken 103 = .ok (.bipush 122, 2) := by decide +kernel
theorem dX3_takeToken_105 : decode cX3_takeToken 105 = .ok (.invokevirtual 101, 3) := by decide +kernel
theorem dX3_takeToken_108 : decode cX3_takeToken 108 = .ok (.putfield 31, 3) := by decide +kernel
theorem dX3_takeToken_111 : decode cX3_takeToken 111 = .ok (.aload_n 0, 1) := by decide +kernel
theorem dX3_takeToken_112 : decode cX3_takeToken 112 = .ok (.iconst 2, 1) := by decide +kernel
theorem dX3_takeToken_113 : decode cX3_takeToken 113 = .ok (.putfield 25, 3) := by decide +kernel
theorem dX3_takeToken_116 : decode cX3_takeToken 116 = .ok (.goto 41, 3) := by decide +kernel
theorem dX3_takeToken_119 : decode cX3_takeToken 119 = .ok (.aload_n 0, 1) := by decide +kernel
theorem dX3_takeToken_120 : decode cX3_takeToken 120 = .ok (.aload_n 0, 1) := by decide +kernel
theorem dX3_takeToken_121 : decode cX3_takeToken 121 = .ok (.iload_n 1, 1) := by decide +kernel
theorem dX3_takeToken_122 : decode cX3_takeToken 122 = .ok (.bipush 48, 2) := by decide +kernel
theorem dX3_takeToken_124 : decode cX3_takeToken 124 = .ok (.bipush 57, 2) := by decide +kernel
theorem dX3_takeToken_126 : decode cX3_takeToken 126 = .ok (.invokevirtual 101, 3) := by decide +kernel
theorem dX3_takeToken_129 : decode cX3_takeToken 129 = .ok (.putfield 31, 3) := by decide +kernel
theorem dX3_takeToken_132 : decode cX3_takeToken 132 = .ok (.aload_n 0, 1) := by decide +kernel
theorem dX3_takeToken_133 : decode cX3_takeToken 133 = .ok (.getfield 31, 3) := by decide +kernel
theorem dX3_takeToken_136 : decode cX3_takeToken 136 = .ok (.iload_n 1, 1) := by decide +kernel
theorem dX3_takeToken_137 : decode cX3_takeToken 137 = .ok (.isub, 1) := by decide +kernel
theorem dX3_takeToken_138 : decode cX3_takeToken 138 = .ok (.istore_n 2, 1) := by decide +kernel
theorem dX3_takeToken_139 : decode cX3_takeToken 139 = .ok (.aload_n 0, 1) := by decide +kernel
theorem dX3_takeToken_140 : decode cX3_takeToken 140 = .ok (.iload_n 2, 1) := by decide +kernel
theorem dX3_takeToken_141 : decode cX3_takeToken 141 = .ok (.iconst 1, 1) := by decide +kernel
theorem dX3_takeToken_142 : decode cX3_takeToken 142 = .ok (.iconst 2, 1) := by decide +kernel
theorem dX3_takeToken_143 : decode cX3_takeToken 143 = .ok (.invokestatic 97, 3) := by decide +kernel
theorem dX3_takeToken_146 : decode cX3_takeToken 146 = .ok (.ifCond .eq 7, 3) := by decide +kernel
theorem dX3_takeToken_149 : decode cX3_takeToken 149 = .ok (.iconst 3, 1) := by decide +kernel
theorem dX3_takeToken_150 : decode cX3_takeToken 150 = .ok (.goto 4, 3) := by decide +kernel
theorem dX3_takeToken_153 : decode cX3_takeToken 153 = .ok (.iconst 1, 1) := by decide +kernel
theorem dX3_takeToken_154 : decode cX3_takeToken 154 = .ok (.putfield 25, 3) := by decide +kernel
theorem dX3_takeToken_157 : decode cX3_takeToken 157 = .ok (.return_, 1) := by decide +kernel
set_option maxRecDepth 20000 in
theorem ggX3_endOfRun_X4_within : GoodIn wsX3_endOfRun wsX4_within := goodIn_r _ [5] (by decide +kernel) (by decide +kernel)
set_option maxRecDepth 20000 in
theorem gX3_endOfRun_X4_within_n97 : GoodIn wsX3_endOfRun (wsX4_within) := ggX3_endOfRun_X4_within
theorem dX3_endOfRun_0 : decode cX3_endOfRun 0 = .ok (.iload_n 1, 1) := by decide +kernel
theorem dX3_endOfRun_1 : decode cX3_endOfRun 1 = .ok (.istore 4, 2) := by decide +kernel
theorem dX3_endOfRun_3 : decode cX3_endOfRun 3 = .ok (.iload 4, 2) := by decide +kernel
theorem dX3_endOfRun_5 : decode cX3_endOfRun 5 = .ok (.aload_n 0, 1) := by decide +kernel
theorem dX3_endOfRun_6 : decode cX3_endOfRun 6 = .ok (.getfield 15, 3) := by decide +kernel
theorem dX3_endOfRun_9 : decode cX3_endOfRun 9 = .ok (.if_icmp .ge 24, 3) := by decide +kernel
theorem dX3_endOfRun_12 : decode cX3_endOfRun 12 = .ok (.aload_n 0, 1) := by decide +kernel
theorem dX3_endOfRun_13 : decode cX3_endOfRun 13 = .ok (.getfield 9, 3) := by decide +kernel
theorem dX3_endOfRun_16 : decode cX3_endOfRun 16 = .ok (.iload 4, 2) := by decide +kernel
theorem dX3_endOfRun_18 : decode cX3_endOfRun 18 = .ok (.baload, 1) := by decide +kernel
theorem dX3_endOfRun_19 : decode cX3_endOfRun 19 = .ok (.iload_n 2, 1) := by decide +kernel
theorem dX3_endOfRun_20 : decode cX3_endOfRun 20 = .ok (.iload_n 3, 1) := by decide +kernel
theorem dX3_endOfRun_21 : decode cX3_endOfRun 21 = .ok (.invokestatic 97, 3) := by decide +kernel
theorem dX3_endOfRun_24 : decode cX3_endOfRun 24 = .ok (.ifCond .eq 9, 3) := by decide +kernel
theorem dX3_endOfRun_27 : decode cX3_endOfRun 27 = .ok (.iinc 4 1, 3) := by decide +kernel
theorem dX3_endOfRun_30 : decode cX3_endOfRun 30 = .ok (.goto (-27), 3) := by decide +kernel
theorem dX3_endOfRun_33 : decode cX3_endOfRun 33 = .ok (.iload 4, 2) := by decide +kernel
theorem dX3_endOfRun_35 : decode cX3_endOfRun 35 = .ok (.ireturn, 1) := by decide +kernel
set_option maxRecDepth 20000 in
theorem ggX4_init_X0_init : GoodIn wsX4_init wsX0_init := goodIn_r _ [29, 30, 2, 3, 22, 31, 32, 33, 34, 35, 36, 37, 38, 39, 40, 41, 42, 70, 71, 72, 73, 74, 75, 76, 77, 78, 79, 80, 81] (by decide +kernel) (by decide +kernel)
set_option maxRecDepth 20000 in
theorem gX4_init_X0_init : GoodIn wsX4_init (wsX0_init) := ggX4_init_X0_init
set_option maxRecDepth 20000 in
theorem ggX4_init_X3_init : GoodIn wsX4_init wsX3_init := goodIn_r _ [45, 46, 2, 3, 47, 48, 49, 50, 51, 52, 53, 54, 91, 92, 93, 94, 95, 96, 97] (by decide +kernel) (by decide +kernel)
set_option maxRecDepth 20000 in
theorem gX4_init_X3_init : GoodIn wsX4_init (wsX3_init) := ggX4_init_X3_init
set_option maxRecDepth 20000 in
theorem ggX4_init_X2_init : GoodIn wsX4_init wsX2_init := goodIn_r _ [57, 58, 2, 3, 22, 59, 60, 61, 62, 98, 99, 100, 101] (by decide +kernel) (by decide +kernel)
set_option maxRecDepth 20000 in
theorem gX4_init_X2_init : GoodIn wsX4_init (wsX2_init) := ggX4_init_X2_init
set_option maxRecDepth 20000 in
theorem ggX4_init_X1_init : GoodIn wsX4_init wsX1_init := goodIn_r _ [65, 66, 2, 3, 22, 67, 68, 69, 102, 103, 104] (by decide +kernel) (by decide +kernel)
set_option maxRecDepth 20000 in
theorem gX4_init_X1_init : GoodIn wsX4_init (wsX1_init) := ggX4_init_X1_init
theorem dX4_init_0 : decode cX4_init 0 = .ok (.aload_n 0, 1) := by decide +kernel
theorem dX4_init_1 : decode cX4_init 1 = .ok (.invokespecial 1, 3) := by decide +kernel
theorem dX4_init_4 : decode cX4_init 4 = .ok (.aload_n 0, 1) := by decide +kernel
theorem dX4_init_5 : decode cX4_init 5 = .ok (.new 7, 3) := by decide +kernel
theorem dX4_init_8 : decode cX4_init 8 = .ok (.dup, 1) := by decide +kernel
theorem dX4_init_9 : decode cX4_init 9 = .ok (.invokespecial 9, 3) := by decide +kernel
theorem dX4_init_12 : decode cX4_init 12 = .ok (.putfield 10, 3) := by decide +kernel
theorem dX4_init_15 : decode cX4_init 15 = .ok (.aload_n 0, 1) := by decide +kernel
theorem dX4_init_16 : decode cX4_init 16 = .ok (.new 7, 3) := by decide +kernel
theorem dX4_init_19 : decode cX4_init 19 = .ok (.dup, 1) := by decide +kernel
theorem dX4_init_20 : decode cX4_init 20 = .ok (.invokespecial 9, 3) := by decide +kernel
theorem dX4_init_23 : decode cX4_init 23 = .ok (.putfield 16, 3) := by decide +kernel
theorem dX4_init_26 : decode cX4_init 26 = .ok (.aload_n 0, 1) := by decide +kernel
theorem dX4_init_27 : decode cX4_init 27 = .ok (.iconst 2, 1) := by decide +kernel
theorem dX4_init_28 : decode cX4_init 28 = .ok (.anewarray 7, 3) := by decide +kernel
theorem dX4_init_31 : decode cX4_init 31 = .ok (.putfield 19, 3) := by decide +kernel
theorem dX4_init_34 : decode cX4_init 34 = .ok (.aload_n 0, 1) := by decide +kernel
theorem dX4_init_35 : decode cX4_init 35 = .ok (.iconst 2, 1) := by decide +kernel
theorem dX4_init_36 : decode cX4_init 36 = .ok (.newarray .boolean, 2) := by decide +kernel
theorem dX4_init_38 : decode cX4_init 38 = .ok (.putfield 23, 3) := by decide +kernel
theorem dX4_init_41 : decode cX4_init 41 = .ok (.aload_n 0, 1) := by decide +kernel
theorem dX4_init_42 : decode cX4_init 42 = .ok (.new 27, 3) := by decide +kernel
theorem dX4_init_45 : decode cX4_init 45 = .ok (.dup, 1) := by decide +kernel
theorem dX4_init_46 : decode cX4_init 46 = .ok (.invokespecial 29, 3) := by decide +kernel
theorem dX4_init_49 : decode cX4_init 49 = .ok (.putfield 30, 3) := by decide +kernel
theorem dX4_init_52 : decode cX4_init 52 = .ok (.aload_n 0, 1) := by decide +kernel
theorem dX4_init_53 : decode cX4_init 53 = .ok (.new 34, 3) := by decide +kernel
theorem dX4_init_56 : decode cX4_init 56 = .ok (.dup, 1) := by decide +kernel
theorem dX4_init_57 : decode cX4_init 57 = .ok (.invokespecial 36, 3) := by decide +kernel
theorem dX4_init_60 : decode cX4_init 60 = .ok (.putfield 37, 3) := by decide +kernel
theorem dX4_init_63 : decode cX4_init 63 = .ok (.aload_n 0, 1) := by decide +kernel
theorem dX4_init_64 : decode cX4_init 64 = .ok (.iconst 4, 1) := by decide +kernel
theorem dX4_init_65 : decode cX4_init 65 = .ok (.anewarray 41, 3) := by decide +kernel
theorem dX4_init_68 : decode cX4_init 68 = .ok (.putfield 43, 3) := by decide +kernel
theorem dX4_init_71 : decode cX4_init 71 = .ok (.aload_n 0, 1) := by decide +kernel
theorem dX4_init_72 : decode cX4_init 72 = .ok (.sipush 410, 3) := by decide +kernel
theorem dX4_init_75 : decode cX4_init 75 = .ok (.newarray .int, 2) := by decide +kernel
theorem dX4_init_77 : decode cX4_init 77 = .ok (.putfield 47, 3) := by decide +kernel
theorem dX4_init_80 : decode cX4_init 80 = .ok (.aload_n 0, 1) := by decide +kernel
theorem dX4_init_81 : decode cX4_init 81 = .ok (.iconst 0, 1) := by decide +kernel
theorem dX4_init_82 : decode cX4_init 82 = .ok (.putfield 51, 3) := by decide +kernel
theorem dX4_init_85 : decode cX4_init 85 = .ok (.iconst 0, 1) := by decide +kernel
theorem dX4_init_86 : decode cX4_init 86 = .ok (.istore_n 1, 1) := by decide +kernel
theorem dX4_init_87 : decode cX4_init 87 = .ok (.iload_n 1, 1) := by decide +kernel
theorem dX4_init_88 : decode cX4_init 88 = .ok (.iconst 2, 1) := by decide +kernel
theorem dX4_init_89 : decode cX4_init 89 = .ok (.if_icmp .ge 22, 3) := by decide +kernel
theorem dX4_init_92 : decode cX4_init 92 = .ok (.aload_n 0, 1) := by decide +kernel
theorem dX4_init_93 : decode cX4_init 93 = .ok (.getfield 19, 3) := by decide +kernel
theorem dX4_init_96 : decode cX4_init 96 = .ok (.iload_n 1, 1) := by decide +kernel
theorem dX4_init_97 : decode cX4_init 97 = .ok (.new 7, 3) := by decide +kernel
theorem dX4_init_100 : decode cX4_init 100 = .ok (.dup, 1) := by decide +kernel
theorem dX4_init_101 : decode cX4_init 101 = .ok (.invokespecial 9, 3) := by decide +kernel
theorem dX4_init_104 : decode cX4_init 104 = .ok (.aastore, 1) := by decide +kernel
theorem dX4_init_105 : decode cX4_init 105 = .ok (.iinc 1 1, 3) := by decide +kernel
theorem dX4_init_108 : decode cX4_init 108 = .ok (.goto (-21), 3) := by decide +kernel
theorem dX4_init_111 : decode cX4_init 111 = .ok (.iconst 0, 1) := by decide +kernel
theorem dX4_init_112 : decode cX4_init 112 = .ok (.istore_n 1, 1) := by decide +kernel
theorem dX4_init_113 : decode cX4_init 113 = .ok (.iload_n 1, 1) := by decide +kernel
theorem dX4_init_114 : decode cX4_init 114 = .ok (.iconst 4, 1) := by decide +kernel
theorem dX4_init_115 : decode cX4_init 115 = .ok (.if_icmp .ge 22, 3) := by decide +kernel
theorem dX4_init_118 : decode cX4_init 118 = .ok (.aload_n 0, 1) := by decide +kernel
theorem dX4_init_119 : decode cX4_init 119 = .ok (.getfield 43, 3) := by decide +kernel
theorem dX4_init_122 : decode cX4_init 122 = .ok (.iload_n 1, 1) := by decide +kernel
theorem dX4_init_123 : decode cX4_init 123 = .ok (.new 41, 3) := by decide +kernel
theorem dX4_init_126 : decode cX4_init 126 = .ok (.dup, 1) := by decide +kernel
theorem dX4_init_127 : decode cX4_init 127 = .ok (.invokespecial 55, 3) := by decide +kernel
theorem dX4_init_130 : decode cX4_init 130 = .ok (.aastore, 1) := by decide +kernel
theorem dX4_init_131 : decode cX4_init 131 = .ok (.iinc 1 1, 3) := by decide +kernel
theorem dX4_init_134 : decode cX4_init 134 = .ok (.goto (-21), 3) := by decide +kernel
theorem dX4_init_137 : decode cX4_init 137 = .ok (.return_, 1) := by decide +kernel
set_option maxRecDepth 20000 in
theorem ggX4_feed_X4_within : GoodIn wsX4_feed wsX4_within := goodIn_r _ [6] (by decide +kernel) (by decide +kernel)
set_option maxRecDepth 20000 in
theorem gX4_feed_X4_within : GoodIn wsX4_feed (va_wsS RX4 56 yX4_within wsX4_within) := goodIn_app (goodIn_of _ (by decide +kernel)) ggX4_feed_X4_within
set_option maxRecDepth 20000 in
theorem ggX4_feed_X3_append : GoodIn wsX4_feed wsX3_append := goodIn_r _ [11, 12, 13, 23, 24, 25, 26, 27, 28, 29] (by decide +kernel) (by decide +kernel)
set_option maxRecDepth 20000 in
theorem gX4_feed_X3_append : GoodIn wsX4_feed (wsV RX4 60 RX3 yX3_append wsX3_append) := goodIn_app (goodIn_of _ (by decide +kernel)) ggX4_feed_X3_append
theorem dX4_feed_0 : decode cX4_feed 0 = .ok (.iload_n 1, 1) := by decide +kernel
theorem dX4_feed_1 : decode cX4_feed 1 = .ok (.iconst 0, 1) := by decide +kernel
theorem dX4_feed_2 : decode cX4_feed 2 = .ok (.bipush 127, 2) := by decide +kernel
theorem dX4_feed_4 : decode cX4_feed 4 = .ok (.invokestatic 56, 3) := by decide +kernel
theorem dX4_feed_7 : decode cX4_feed 7 = .ok (.ifCond .ne 5, 3) := by decide +kernel
theorem dX4_feed_10 : decode cX4_feed 10 = .ok (.iconst (-1), 1) := by decide +kernel
theorem dX4_feed_11 : decode cX4_feed 11 = .ok (.ireturn, 1) := by decide +kernel
theorem dX4_feed_12 : decode cX4_feed 12 = .ok (.aload_n 0, 1) := by decide +kernel
theorem dX4_feed_13 : decode cX4_feed 13 = .ok (.getfield 30, 3) := by decide +kernel
theorem dX4_feed_16 : decode cX4_feed 16 = .ok (.iload_n 1, 1) := by decide +kernel
theorem dX4_feed_17 : decode cX4_feed 17 = .ok (.invokevirtual 60, 3) := by decide +kernel
theorem dX4_feed_20 : decode cX4_feed 20 = .ok (.ifCond .eq 13, 3) := by decide +kernel
theorem dX4_feed_23 : decode cX4_feed 23 = .ok (.aload_n 0, 1) := by decide +kernel
theorem dX4_feed_24 : decode cX4_feed 24 = .ok (.getfield 30, 3) := by decide +kernel
theorem dX4_feed_27 : decode cX4_feed 27 = .ok (.getfield 64, 3) := by decide +kernel
theorem dX4_feed_30 : decode cX4_feed 30 = .ok (.goto 5, 3) := by decide +kernel
theorem dX4_feed_33 : decode cX4_feed 33 = .ok (.bipush (-3), 2) := by decide +kernel
theorem dX4_feed_35 : decode cX4_feed 35 = .ok (.ireturn, 1) := by decide +kernel
set_option maxRecDepth 20000 in
theorem ggX4_end_X4_within : GoodIn wsX4_end wsX4_within := goodIn_r _ [6] (by decide +kernel) (by decide +kernel)
set_option maxRecDepth 20000 in
theorem gX4_end_X4_within : GoodIn wsX4_end (va_wsS RX4 56 yX4_within wsX4_within) := goodIn_app (goodIn_of _ (by decide +kernel)) ggX4_end_X4_within
theorem dX4_end_0 : decode cX4_end 0 = .ok (.iload_n 1, 1) := by decide +kernel
theorem dX4_end_1 : decode cX4_end 1 = .ok (.iconst 0, 1) := by decide +kernel
theorem dX4_end_2 : decode cX4_end 2 = .ok (.aload_n 0, 1) := by decide +kernel
theorem dX4_end_3 : decode cX4_end 3 = .ok (.getfield 30, 3) := by decide +kernel
theorem dX4_end_6 : decode cX4_end 6 = .ok (.getfield 64, 3) := by decide +kernel
theorem dX4_end_9 : decode cX4_end 9 = .ok (.invokestatic 56, 3) := by decide +kernel
theorem dX4_end_12 : decode cX4_end 12 = .ok (.ifCond .ne 5, 3) := by decide +kernel
theorem dX4_end_15 : decode cX4_end 15 = .ok (.iconst (-1), 1) := by decide +kernel
theorem dX4_end_16 : decode cX4_end 16 = .ok (.ireturn, 1) := by decide +kernel
theorem dX4_end_17 : decode cX4_end 17 = .ok (.aload_n 0, 1) := by decide +kernel
theorem dX4_end_18 : decode cX4_end 18 = .ok (.getfield 30, 3) := by decide +kernel
theorem dX4_end_21 : decode cX4_end 21 = .ok (.getfield 64, 3) := by decide +kernel
theorem dX4_end_24 : decode cX4_end 24 = .ok (.istore_n 2, 1) := by decide +kernel
theorem dX4_end_25 : decode cX4_end 25 = .ok (.aload_n 0, 1) := by decide +kernel
theorem dX4_end_26 : decode cX4_end 26 = .ok (.getfield 30, 3) := by decide +kernel
theorem dX4_end_29 : decode cX4_end 29 = .ok (.iload_n 1, 1) := by decide +kernel
theorem dX4_end_30 : decode cX4_end 30 = .ok (.putfield 64, 3) := by decide +kernel
