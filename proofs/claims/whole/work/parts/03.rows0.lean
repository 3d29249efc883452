theorem dX0_init_0 : decode cX0_init 0 = .ok (.aload_n 0, 1) := by decide +kernel
theorem dX0_init_1 : decode cX0_init 1 = .ok (.invokespecial 3, 3) := by decide +kernel
theorem dX0_init_4 : decode cX0_init 4 = .ok (.return_, 1) := by decide +kernel
set_option maxRecDepth 20000 in
theorem ggX0_shuts_X10_isThere : GoodIn wsX0_shuts wsX10_isThere := goodIn_r _ [5, 6, 37, 38, 39, 40, 41] (by decide +kernel) (by decide +kernel)
set_option maxRecDepth 20000 in
theorem gX0_shuts_X10_isThere : GoodIn wsX0_shuts (wsV RX0 9 RX10 yX10_isThere wsX10_isThere) := goodIn_app (goodIn_of _ (by decide +kernel)) ggX0_shuts_X10_isThere
set_option maxRecDepth 20000 in
theorem ggX0_shuts_X2_pick : GoodIn wsX0_shuts wsX2_pick := goodIn_r _ [12, 13, 37, 38, 39, 40, 41] (by decide +kernel) (by decide +kernel)
set_option maxRecDepth 20000 in
theorem gX0_shuts_X2_pick_u15X2 : GoodIn wsX0_shuts (va_wsU RX0 15 RX2 "ShutWays$Council" ⟨"ShutWays$Council", "pick", "(LShutWays$Way;LShutWays$Roads;)I"⟩ yX2_pick wsX2_pick) := goodIn_app (goodIn_of _ (by decide +kernel)) ggX0_shuts_X2_pick
set_option maxRecDepth 20000 in
theorem ggX0_shuts_X3_pick : GoodIn wsX0_shuts wsX3_pick := goodIn_r _ [17, 18, 19, 37, 38, 39, 40, 41] (by decide +kernel) (by decide +kernel)
set_option maxRecDepth 20000 in
theorem gX0_shuts_X3_pick_u15X3 : GoodIn wsX0_shuts (va_wsU RX0 15 RX3 "ShutWays$Council" ⟨"ShutWays$Council", "pick", "(LShutWays$Way;LShutWays$Roads;)I"⟩ yX3_pick wsX3_pick) := goodIn_app (goodIn_of _ (by decide +kernel)) ggX0_shuts_X3_pick
set_option maxRecDepth 20000 in
theorem ggX0_shuts_X4_pick : GoodIn wsX0_shuts wsX4_pick := goodIn_r _ [23, 24, 25, 26, 27, 28, 29, 37, 38, 39, 40, 41] (by decide +kernel) (by decide +kernel)
set_option maxRecDepth 20000 in
theorem gX0_shuts_X4_pick_u15X4 : GoodIn wsX0_shuts (va_wsU RX0 15 RX4 "ShutWays$Council" ⟨"ShutWays$Council", "pick", "(LShutWays$Way;LShutWays$Roads;)I"⟩ yX4_pick wsX4_pick) := goodIn_app (goodIn_of _ (by decide +kernel)) ggX0_shuts_X4_pick
set_option maxRecDepth 20000 in
theorem ggX0_shuts_X5_pick : GoodIn wsX0_shuts wsX5_pick := goodIn_r _ [33, 34, 35, 36, 37, 38, 39, 40, 41, 42, 43, 44, 45, 46] (by decide +kernel) (by decide +kernel)
set_option maxRecDepth 20000 in
theorem gX0_shuts_X5_pick_u15X5 : GoodIn wsX0_shuts (va_wsU RX0 15 RX5 "ShutWays$Council" ⟨"ShutWays$Council", "pick", "(LShutWays$Way;LShutWays$Roads;)I"⟩ yX5_pick wsX5_pick) := goodIn_app (goodIn_of _ (by decide +kernel)) ggX0_shuts_X5_pick
theorem dX0_shuts_0 : decode cX0_shuts 0 = .ok (.aload_n 1, 1) := by decide +kernel
theorem dX0_shuts_1 : decode cX0_shuts 1 = .ok (.invokevirtual 9, 3) := by decide +kernel
theorem dX0_shuts_4 : decode cX0_shuts 4 = .ok (.ifCond .eq 12, 3) := by decide +kernel
theorem dX0_shuts_7 : decode cX0_shuts 7 = .ok (.aload_n 0, 1) := by decide +kernel
theorem dX0_shuts_8 : decode cX0_shuts 8 = .ok (.aload_n 1, 1) := by decide +kernel
theorem dX0_shuts_9 : decode cX0_shuts 9 = .ok (.aload_n 2, 1) := by decide +kernel
theorem dX0_shuts_10 : decode cX0_shuts 10 = .ok (.invokevirtual 15, 3) := by decide +kernel
theorem dX0_shuts_13 : decode cX0_shuts 13 = .ok (.goto 4, 3) := by decide +kernel
theorem dX0_shuts_16 : decode cX0_shuts 16 = .ok (.iconst (-1), 1) := by decide +kernel
theorem dX0_shuts_17 : decode cX0_shuts 17 = .ok (.ireturn, 1) := by decide +kernel
theorem dX0_isOf_0 : decode cX0_isOf 0 = .ok (.iload_n 1, 1) := by decide +kernel
theorem dX0_isOf_1 : decode cX0_isOf 1 = .ok (.tableswitch 57 0 4 #[35, 37, 42, 47, 52], 35) := by decide +kernel
theorem dX0_isOf_36 : decode cX0_isOf 36 = .ok (.iconst 1, 1) := by decide +kernel
theorem dX0_isOf_37 : decode cX0_isOf 37 = .ok (.ireturn, 1) := by decide +kernel
theorem dX0_isOf_38 : decode cX0_isOf 38 = .ok (.aload_n 0, 1) := by decide +kernel
theorem dX0_isOf_39 : decode cX0_isOf 39 = .ok (.instanceof 21, 3) := by decide +kernel
theorem dX0_isOf_42 : decode cX0_isOf 42 = .ok (.ireturn, 1) := by decide +kernel
theorem dX0_isOf_43 : decode cX0_isOf 43 = .ok (.aload_n 0, 1) := by decide +kernel
theorem dX0_isOf_44 : decode cX0_isOf 44 = .ok (.instanceof 23, 3) := by decide +kernel
theorem dX0_isOf_47 : decode cX0_isOf 47 = .ok (.ireturn, 1) := by decide +kernel
theorem dX0_isOf_48 : decode cX0_isOf 48 = .ok (.aload_n 0, 1) := by decide +kernel
theorem dX0_isOf_49 : decode cX0_isOf 49 = .ok (.instanceof 25, 3) := by decide +kernel
theorem dX0_isOf_52 : decode cX0_isOf 52 = .ok (.ireturn, 1) := by decide +kernel
theorem dX0_isOf_53 : decode cX0_isOf 53 = .ok (.aload_n 0, 1) := by decide +kernel
theorem dX0_isOf_54 : decode cX0_isOf 54 = .ok (.instanceof 27, 3) := by decide +kernel
theorem dX0_isOf_57 : decode cX0_isOf 57 = .ok (.ireturn, 1) := by decide +kernel
theorem dX0_isOf_58 : decode cX0_isOf 58 = .ok (.iconst 0, 1) := by decide +kernel
theorem dX0_isOf_59 : decode cX0_isOf 59 = .ok (.ireturn, 1) := by decide +kernel
theorem dX1_init_0 : decode cX1_init 0 = .ok (.aload_n 0, 1) := by decide +kernel
theorem dX1_init_1 : decode cX1_init 1 = .ok (.invokespecial 3, 3) := by decide +kernel
theorem dX1_init_4 : decode cX1_init 4 = .ok (.aload_n 0, 1) := by decide +kernel
theorem dX1_init_5 : decode cX1_init 5 = .ok (.iconst 0, 1) := by decide +kernel
theorem dX1_init_6 : decode cX1_init 6 = .ok (.putfield 9, 3) := by decide +kernel
theorem dX1_init_9 : decode cX1_init 9 = .ok (.aload_n 0, 1) := by decide +kernel
theorem dX1_init_10 : decode cX1_init 10 = .ok (.bipush 16, 2) := by decide +kernel
theorem dX1_init_12 : decode cX1_init 12 = .ok (.newarray .int, 2) := by decide +kernel
theorem dX1_init_14 : decode cX1_init 14 = .ok (.putfield 15, 3) := by decide +kernel
theorem dX1_init_17 : decode cX1_init 17 = .ok (.return_, 1) := by decide +kernel
set_option maxRecDepth 20000 in
theorem ggX1_start_J7_fill_53178 : GoodIn wsX1_start wsJ7_fill_53178 := goodIn_r _ [6] (by decide +kernel) (by decide +kernel)
set_option maxRecDepth 20000 in
theorem gX1_start_J7_fill_53178 : GoodIn wsX1_start (va_wsS RX1 19 yJ7_fill_53178 wsJ7_fill_53178) := goodIn_app (goodIn_of _ (by decide +kernel)) ggX1_start_J7_fill_53178
theorem dX1_start_0 : decode cX1_start 0 = .ok (.aload_n 0, 1) := by decide +kernel
theorem dX1_start_1 : decode cX1_start 1 = .ok (.iconst 0, 1) := by decide +kernel
theorem dX1_start_2 : decode cX1_start 2 = .ok (.putfield 9, 3) := by decide +kernel
theorem dX1_start_5 : decode cX1_start 5 = .ok (.aload_n 0, 1) := by decide +kernel
theorem dX1_start_6 : decode cX1_start 6 = .ok (.getfield 15, 3) := by decide +kernel
theorem dX1_start_9 : decode cX1_start 9 = .ok (.iconst 0, 1) := by decide +kernel
theorem dX1_start_10 : decode cX1_start 10 = .ok (.invokestatic 19, 3) := by decide +kernel
theorem dX1_start_13 : decode cX1_start 13 = .ok (.return_, 1) := by decide +kernel
theorem dX1_copyFrom_0 : decode cX1_copyFrom 0 = .ok (.aload_n 0, 1) := by decide +kernel
theorem dX1_copyFrom_1 : decode cX1_copyFrom 1 = .ok (.aload_n 1, 1) := by decide +kernel
theorem dX1_copyFrom_2 : decode cX1_copyFrom 2 = .ok (.getfield 9, 3) := by decide +kernel
theorem dX1_copyFrom_5 : decode cX1_copyFrom 5 = .ok (.putfield 9, 3) := by decide +kernel
theorem dX1_copyFrom_8 : decode cX1_copyFrom 8 = .ok (.aload_n 1, 1) := by decide +kernel
theorem dX1_copyFrom_9 : decode cX1_copyFrom 9 = .ok (.getfield 15, 3) := by decide +kernel
theorem dX1_copyFrom_12 : decode cX1_copyFrom 12 = .ok (.iconst 0, 1) := by decide +kernel
theorem dX1_copyFrom_13 : decode cX1_copyFrom 13 = .ok (.aload_n 0, 1) := by decide +kernel
theorem dX1_copyFrom_14 : decode cX1_copyFrom 14 = .ok (.getfield 15, 3) := by decide +kernel
theorem dX1_copyFrom_17 : decode cX1_copyFrom 17 = .ok (.iconst 0, 1) := by decide +kernel
theorem dX1_copyFrom_18 : decode cX1_copyFrom 18 = .ok (.aload_n 0, 1) := by decide +kernel
theorem dX1_copyFrom_19 : decode cX1_copyFrom 19 = .ok (.getfield 15, 3) := by decide +kernel
theorem dX1_copyFrom_22 : decode cX1_copyFrom 22 = .ok (.arraylength, 1) := by decide +kernel
theorem dX1_copyFrom_23 : decode cX1_copyFrom 23 = .ok (.invokestatic 25, 3) := by decide +kernel
theorem dX1_copyFrom_26 : decode cX1_copyFrom 26 = .ok (.return_, 1) := by decide +kernel
theorem dX1_next_0 : decode cX1_next 0 = .ok (.iconst 0, 1) := by decide +kernel
theorem dX1_next_1 : decode cX1_next 1 = .ok (.istore_n 3, 1) := by decide +kernel
theorem dX1_next_2 : decode cX1_next 2 = .ok (.iload_n 3, 1) := by decide +kernel
theorem dX1_next_3 : decode cX1_next 3 = .ok (.aload_n 0, 1) := by decide +kernel
theorem dX1_next_4 : decode cX1_next 4 = .ok (.getfield 15, 3) := by decide +kernel
theorem dX1_next_7 : decode cX1_next 7 = .ok (.arraylength, 1) := by decide +kernel
theorem dX1_next_8 : decode cX1_next 8 = .ok (.if_icmp .ge 28, 3) := by decide +kernel
theorem dX1_next_11 : decode cX1_next 11 = .ok (.aload_n 0, 1) := by decide +kernel
theorem dX1_next_12 : decode cX1_next 12 = .ok (.getfield 15, 3) := by decide +kernel
theorem dX1_next_15 : decode cX1_next 15 = .ok (.iload_n 3, 1) := by decide +kernel
theorem dX1_next_16 : decode cX1_next 16 = .ok (.iaload, 1) := by decide +kernel
theorem dX1_next_17 : decode cX1_next 17 = .ok (.ifCond .le 13, 3) := by decide +kernel
theorem dX1_next_20 : decode cX1_next 20 = .ok (.aload_n 0, 1) := by decide +kernel
theorem dX1_next_21 : decode cX1_next 21 = .ok (.getfield 15, 3) := by decide +kernel
theorem dX1_next_24 : decode cX1_next 24 = .ok (.iload_n 3, 1) := by decide +kernel
theorem dX1_next_25 : decode cX1_next 25 = .ok (.dup2, 1) := by decide +kernel
theorem dX1_next_26 : decode cX1_next 26 = .ok (.iaload, 1) := by decide +kernel
theorem dX1_next_27 : decode cX1_next 27 = .ok (.iconst 1, 1) := by decide +kernel
theorem dX1_next_28 : decode cX1_next 28 = .ok (.isub, 1) := by decide +kernel
theorem dX1_next_29 : decode cX1_next 29 = .ok (.iastore, 1) := by decide +kernel
theorem dX1_next_30 : decode cX1_next 30 = .ok (.iinc 3 1, 3) := by decide +kernel
theorem dX1_next_33 : decode cX1_next 33 = .ok (.goto (-31), 3) := by decide +kernel
theorem dX1_next_36 : decode cX1_next 36 = .ok (.iload_n 1, 1) := by decide +kernel
theorem dX1_next_37 : decode cX1_next 37 = .ok (.ifCond .lt 19, 3) := by decide +kernel
theorem dX1_next_40 : decode cX1_next 40 = .ok (.iload_n 1, 1) := by decide +kernel
theorem dX1_next_41 : decode cX1_next 41 = .ok (.aload_n 0, 1) := by decide +kernel
theorem dX1_next_42 : decode cX1_next 42 = .ok (.getfield 15, 3) := by decide +kernel
theorem dX1_next_45 : decode cX1_next 45 = .ok (.arraylength, 1) := by decide +kernel
theorem dX1_next_46 : decode cX1_next 46 = .ok (.if_icmp .ge 10, 3) := by decide +kernel
theorem dX1_next_49 : decode cX1_next 49 = .ok (.aload_n 0, 1) := by decide +kernel
theorem dX1_next_50 : decode cX1_next 50 = .ok (.getfield 15, 3) := by decide +kernel
theorem dX1_next_53 : decode cX1_next 53 = .ok (.iload_n 1, 1) := by decide +kernel
theorem dX1_next_54 : decode cX1_next 54 = .ok (.iload_n 2, 1) := by decide +kernel
theorem dX1_next_55 : decode cX1_next 55 = .ok (.iastore, 1) := by decide +kernel
theorem dX1_next_56 : decode cX1_next 56 = .ok (.aload_n 0, 1) := by decide +kernel
theorem dX1_next_57 : decode cX1_next 57 = .ok (.dup, 1) := by decide +kernel
theorem dX1_next_58 : decode cX1_next 58 = .ok (.getfield 9, 3) := by decide +kernel
theorem dX1_next_61 : decode cX1_next 61 = .ok (.iconst 1, 1) := by decide +kernel
theorem dX1_next_62 : decode cX1_next 62 = .ok (.iadd, 1) := by decide +kernel
theorem dX1_next_63 : decode cX1_next 63 = .ok (.putfield 9, 3) := by decide +kernel
theorem dX1_next_66 : decode cX1_next 66 = .ok (.return_, 1) := by decide +kernel
theorem dX1_shutSet_0 : decode cX1_shutSet 0 = .ok (.iconst 0, 1) := by decide +kernel
theorem dX1_shutSet_1 : decode cX1_shutSet 1 = .ok (.istore_n 1, 1) := by decide +kernel
theorem dX1_shutSet_2 : decode cX1_shutSet 2 = .ok (.iconst 0, 1) := by decide +kernel
theorem dX1_shutSet_3 : decode cX1_shutSet 3 = .ok (.istore_n 2, 1) := by decide +kernel
theorem dX1_shutSet_4 : decode cX1_shutSet 4 = .ok (.iload_n 2, 1) := by decide +kernel
theorem dX1_shutSet_5 : decode cX1_shutSet 5 = .ok (.aload_n 0, 1) := by decide +kernel
theorem dX1_shutSet_6 : decode cX1_shutSet 6 = .ok (.getfield 15, 3) := by decide +kernel
theorem dX1_shutSet_9 : decode cX1_shutSet 9 = .ok (.arraylength, 1) := by decide +kernel
theorem dX1_shutSet_10 : decode cX1_shutSet 10 = .ok (.if_icmp .ge 24, 3) := by decide +kernel
theorem dX1_shutSet_13 : decode cX1_shutSet 13 = .ok (.aload_n 0, 1) := by decide +kernel
theorem dX1_shutSet_14 : decode cX1_shutSet 14 = .ok (.getfield 15, 3) := by decide +kernel
theorem dX1_shutSet_17 : decode cX1_shutSet 17 = .ok (.iload_n 2, 1) := by decide +kernel
theorem dX1_shutSet_18 : decode cX1_shutSet 18 = .ok (.iaload, 1) := by decide +kernel
theorem dX1_shutSet_19 : decode cX1_shutSet 19 = .ok (.ifCond .le 9, 3) := by decide +kernel
theorem dX1_shutSet_22 : decode cX1_shutSet 22 = .ok (.iload_n 1, 1) := by decide +kernel
theorem dX1_shutSet_23 : decode cX1_shutSet 23 = .ok (.iconst 1, 1) := by decide +kernel
theorem dX1_shutSet_24 : decode cX1_shutSet 24 = .ok (.iload_n 2, 1) := by decide +kernel
theorem dX1_shutSet_25 : decode cX1_shutSet 25 = .ok (.ishl, 1) := by decide +kernel
theorem dX1_shutSet_26 : decode cX1_shutSet 26 = .ok (.ior, 1) := by decide +kernel
theorem dX1_shutSet_27 : decode cX1_shutSet 27 = .ok (.istore_n 1, 1) := by decide +kernel
theorem dX1_shutSet_28 : decode cX1_shutSet 28 = .ok (.iinc 2 1, 3) := by decide +kernel
theorem dX1_shutSet_31 : decode cX1_shutSet 31 = .ok (.goto (-27), 3) := by decide +kernel
theorem dX1_shutSet_34 : decode cX1_shutSet 34 = .ok (.iload_n 1, 1) := by decide +kernel
theorem dX1_shutSet_35 : decode cX1_shutSet 35 = .ok (.ireturn, 1) := by decide +kernel
set_option maxRecDepth 20000 in
theorem ggX2_init_X0_init : GoodIn wsX2_init wsX0_init := goodIn_r _ [3, 4, 5, 6] (by decide +kernel) (by decide +kernel)
set_option maxRecDepth 20000 in
theorem gX2_init_X0_init_n1 : GoodIn wsX2_init (wsX0_init) := ggX2_init_X0_init
theorem dX2_init_0 : decode cX2_init 0 = .ok (.aload_n 0, 1) := by decide +kernel
theorem dX2_init_1 : decode cX2_init 1 = .ok (.invokespecial 1, 3) := by decide +kernel
theorem dX2_init_4 : decode cX2_init 4 = .ok (.return_, 1) := by decide +kernel
theorem dX2_pick_0 : decode cX2_pick 0 = .ok (.aload_n 1, 1) := by decide +kernel
theorem dX2_pick_1 : decode cX2_pick 1 = .ok (.getfield 7, 3) := by decide +kernel
theorem dX2_pick_4 : decode cX2_pick 4 = .ok (.iconst 0, 1) := by decide +kernel
theorem dX2_pick_5 : decode cX2_pick 5 = .ok (.iaload, 1) := by decide +kernel
theorem dX2_pick_6 : decode cX2_pick 6 = .ok (.ireturn, 1) := by decide +kernel
set_option maxRecDepth 20000 in
theorem ggX3_init_X2_init : GoodIn wsX3_init wsX2_init := goodIn_r _ [3, 4, 5, 6, 7, 8, 9] (by decide +kernel) (by decide +kernel)
set_option maxRecDepth 20000 in
theorem gX3_init_X2_init_n1 : GoodIn wsX3_init (wsX2_init) := ggX3_init_X2_init
theorem dX3_init_0 : decode cX3_init 0 = .ok (.aload_n 0, 1) := by decide +kernel
theorem dX3_init_1 : decode cX3_init 1 = .ok (.invokespecial 1, 3) := by decide +kernel
theorem dX3_init_4 : decode cX3_init 4 = .ok (.return_, 1) := by decide +kernel
theorem dX3_pick_0 : decode cX3_pick 0 = .ok (.aload_n 1, 1) := by decide +kernel
theorem dX3_pick_1 : decode cX3_pick 1 = .ok (.getfield 7, 3) := by decide +kernel
theorem dX3_pick_4 : decode cX3_pick 4 = .ok (.aload_n 1, 1) := by decide +kernel
theorem dX3_pick_5 : decode cX3_pick 5 = .ok (.getfield 13, 3) := by decide +kernel
theorem dX3_pick_8 : decode cX3_pick 8 = .ok (.iconst 1, 1) := by decide +kernel
theorem dX3_pick_9 : decode cX3_pick 9 = .ok (.isub, 1) := by decide +kernel
theorem dX3_pick_10 : decode cX3_pick 10 = .ok (.iaload, 1) := by decide +kernel
theorem dX3_pick_11 : decode cX3_pick 11 = .ok (.ireturn, 1) := by decide +kernel
set_option maxRecDepth 20000 in
theorem ggX4_init_X5_init : GoodIn wsX4_init wsX5_init := goodIn_r _ [3, 4, 5, 6, 7, 8, 9] (by decide +kernel) (by decide +kernel)
set_option maxRecDepth 20000 in
theorem gX4_init_X5_init_n1 : GoodIn wsX4_init (wsX5_init) := ggX4_init_X5_init
theorem dX4_init_0 : decode cX4_init 0 = .ok (.aload_n 0, 1) := by decide +kernel
theorem dX4_init_1 : decode cX4_init 1 = .ok (.invokespecial 1, 3) := by decide +kernel
theorem dX4_init_4 : decode cX4_init 4 = .ok (.return_, 1) := by decide +kernel
theorem dX4_pick_0 : decode cX4_pick 0 = .ok (.aload_n 1, 1) := by decide +kernel
theorem dX4_pick_1 : decode cX4_pick 1 = .ok (.getfield 7, 3) := by decide +kernel
theorem dX4_pick_4 : decode cX4_pick 4 = .ok (.iconst 0, 1) := by decide +kernel
theorem dX4_pick_5 : decode cX4_pick 5 = .ok (.iaload, 1) := by decide +kernel
theorem dX4_pick_6 : decode cX4_pick 6 = .ok (.istore_n 3, 1) := by decide +kernel
theorem dX4_pick_7 : decode cX4_pick 7 = .ok (.iconst 1, 1) := by decide +kernel
theorem dX4_pick_8 : decode cX4_pick 8 = .ok (.istore 4, 2) := by decide +kernel
theorem dX4_pick_10 : decode cX4_pick 10 = .ok (.iload 4, 2) := by decide +kernel
theorem dX4_pick_12 : decode cX4_pick 12 = .ok (.aload_n 1, 1) := by decide +kernel
theorem dX4_pick_13 : decode cX4_pick 13 = .ok (.getfield 13, 3) := by decide +kernel
theorem dX4_pick_16 : decode cX4_pick 16 = .ok (.if_icmp .ge 21, 3) := by decide +kernel
theorem dX4_pick_19 : decode cX4_pick 19 = .ok (.iload_n 3, 1) := by decide +kernel
theorem dX4_pick_20 : decode cX4_pick 20 = .ok (.aload_n 1, 1) := by decide +kernel
theorem dX4_pick_21 : decode cX4_pick 21 = .ok (.getfield 7, 3) := by decide +kernel
theorem dX4_pick_24 : decode cX4_pick 24 = .ok (.iload 4, 2) := by decide +kernel
theorem dX4_pick_26 : decode cX4_pick 26 = .ok (.iaload, 1) := by decide +kernel
theorem dX4_pick_27 : decode cX4_pick 27 = .ok (.invokestatic 17, 3) := by decide +kernel
theorem dX4_pick_30 : decode cX4_pick 30 = .ok (.istore_n 3, 1) := by decide +kernel
theorem dX4_pick_31 : decode cX4_pick 31 = .ok (.iinc 4 1, 3) := by decide +kernel
theorem dX4_pick_34 : decode cX4_pick 34 = .ok (.goto (-24), 3) := by decide +kernel
theorem dX4_pick_37 : decode cX4_pick 37 = .ok (.iload_n 3, 1) := by decide +kernel
theorem dX4_pick_38 : decode cX4_pick 38 = .ok (.ireturn, 1) := by decide +kernel
set_option maxRecDepth 20000 in
theorem ggX5_init_X0_init : GoodIn wsX5_init wsX0_init := goodIn_r _ [3, 4, 5, 6] (by decide +kernel) (by decide +kernel)
set_option maxRecDepth 20000 in
theorem gX5_init_X0_init_n1 : GoodIn wsX5_init (wsX0_init) := ggX5_init_X0_init
theorem dX5_init_0 : decode cX5_init 0 = .ok (.aload_n 0, 1) := by decide +kernel
theorem dX5_init_1 : decode cX5_init 1 = .ok (.invokespecial 1, 3) := by decide +kernel
theorem dX5_init_4 : decode cX5_init 4 = .ok (.return_, 1) := by decide +kernel
theorem dX5_pick_0 : decode cX5_pick 0 = .ok (.aload_n 1, 1) := by decide +kernel
theorem dX5_pick_1 : decode cX5_pick 1 = .ok (.getfield 7, 3) := by decide +kernel
theorem dX5_pick_4 : decode cX5_pick 4 = .ok (.iconst 0, 1) := by decide +kernel
theorem dX5_pick_5 : decode cX5_pick 5 = .ok (.iaload, 1) := by decide +kernel
theorem dX5_pick_6 : decode cX5_pick 6 = .ok (.istore_n 3, 1) := by decide +kernel
theorem dX5_pick_7 : decode cX5_pick 7 = .ok (.iconst 1, 1) := by decide +kernel
theorem dX5_pick_8 : decode cX5_pick 8 = .ok (.istore 4, 2) := by decide +kernel
theorem dX5_pick_10 : decode cX5_pick 10 = .ok (.iload 4, 2) := by decide +kernel
theorem dX5_pick_12 : decode cX5_pick 12 = .ok (.aload_n 1, 1) := by decide +kernel
theorem dX5_pick_13 : decode cX5_pick 13 = .ok (.getfield 13, 3) := by decide +kernel
theorem dX5_pick_16 : decode cX5_pick 16 = .ok (.if_icmp .ge 53, 3) := by decide +kernel
theorem dX5_pick_19 : decode cX5_pick 19 = .ok (.aload_n 1, 1) := by decide +kernel
theorem dX5_pick_20 : decode cX5_pick 20 = .ok (.getfield 7, 3) := by decide +kernel
theorem dX5_pick_23 : decode cX5_pick 23 = .ok (.iload 4, 2) := by decide +kernel
theorem dX5_pick_25 : decode cX5_pick 25 = .ok (.iaload, 1) := by decide +kernel
theorem dX5_pick_26 : decode cX5_pick 26 = .ok (.istore 5, 2) := by decide +kernel
theorem dX5_pick_28 : decode cX5_pick 28 = .ok (.aload_n 2, 1) := by decide +kernel
theorem dX5_pick_29 : decode cX5_pick 29 = .ok (.getfield 17, 3) := by decide +kernel
theorem dX5_pick_32 : decode cX5_pick 32 = .ok (.iload 5, 2) := by decide +kernel
theorem dX5_pick_34 : decode cX5_pick 34 = .ok (.iaload, 1) := by decide +kernel
theorem dX5_pick_35 : decode cX5_pick 35 = .ok (.aload_n 2, 1) := by decide +kernel
theorem dX5_pick_36 : decode cX5_pick 36 = .ok (.getfield 17, 3) := by decide +kernel
theorem dX5_pick_39 : decode cX5_pick 39 = .ok (.iload_n 3, 1) := by decide +kernel
theorem dX5_pick_40 : decode cX5_pick 40 = .ok (.iaload, 1) := by decide +kernel
theorem dX5_pick_41 : decode cX5_pick 41 = .ok (.isub, 1) := by decide +kernel
theorem dX5_pick_42 : decode cX5_pick 42 = .ok (.istore 6, 2) := by decide +kernel
theorem dX5_pick_44 : decode cX5_pick 44 = .ok (.iload 6, 2) := by decide +kernel
theorem dX5_pick_46 : decode cX5_pick 46 = .ok (.ifCond .gt 14, 3) := by decide +kernel
theorem dX5_pick_49 : decode cX5_pick 49 = .ok (.iload 6, 2) := by decide +kernel
theorem dX5_pick_51 : decode cX5_pick 51 = .ok (.ifCond .ne 12, 3) := by decide +kernel
theorem dX5_pick_54 : decode cX5_pick 54 = .ok (.iload 5, 2) := by decide +kernel
theorem dX5_pick_56 : decode cX5_pick 56 = .ok (.iload_n 3, 1) := by decide +kernel
theorem dX5_pick_57 : decode cX5_pick 57 = .ok (.if_icmp .ge 6, 3) := by decide +kernel
theorem dX5_pick_60 : decode cX5_pick 60 = .ok (.iload 5, 2) := by decide +kernel
theorem dX5_pick_62 : decode cX5_pick 62 = .ok (.istore_n 3, 1) := by decide +kernel
theorem dX5_pick_63 : decode cX5_pick 63 = .ok (.iinc 4 1, 3) := by decide +kernel
theorem dX5_pick_66 : decode cX5_pick 66 = .ok (.goto (-56), 3) := by decide +kernel
theorem dX5_pick_69 : decode cX5_pick 69 = .ok (.iload_n 3, 1) := by decide +kernel
theorem dX5_pick_70 : decode cX5_pick 70 = .ok (.ireturn, 1) := by decide +kernel
set_option maxRecDepth 20000 in
theorem ggX6_init_X7_init : GoodIn wsX6_init wsX7_init := goodIn_r _ [11, 12, 2, 3, 13, 14, 15, 16, 17, 18, 32, 33, 34, 35, 36] (by decide +kernel) (by decide +kernel)
set_option maxRecDepth 20000 in
theorem gX6_init_X7_init : GoodIn wsX6_init (wsX7_init) := ggX6_init_X7_init
set_option maxRecDepth 20000 in
theorem ggX6_init_X6_begin : GoodIn wsX6_init wsX6_begin := goodIn_r _ [23, 24, 7, 25, 8, 26, 27, 28, 29, 30, 31, 37, 38, 39, 40, 41, 42, 43, 44, 45, 46, 47, 32, 33, 34, 35, 36] (by decide +kernel) (by decide +kernel)
set_option maxRecDepth 20000 in
theorem gX6_init_X6_begin : GoodIn wsX6_init (wsV RX6 23 RX6 yX6_begin wsX6_begin) := goodIn_app (goodIn_of _ (by decide +kernel)) ggX6_init_X6_begin
theorem dX6_init_0 : decode cX6_init 0 = .ok (.aload_n 0, 1) := by decide +kernel
theorem dX6_init_1 : decode cX6_init 1 = .ok (.invokespecial 3, 3) := by decide +kernel
theorem dX6_init_4 : decode cX6_init 4 = .ok (.aload_n 0, 1) := by decide +kernel
theorem dX6_init_5 : decode cX6_init 5 = .ok (.new 9, 3) := by decide +kernel
theorem dX6_init_8 : decode cX6_init 8 = .ok (.dup, 1) := by decide +kernel
theorem dX6_init_9 : decode cX6_init 9 = .ok (.bipush 16, 2) := by decide +kernel
theorem dX6_init_11 : decode cX6_init 11 = .ok (.invokespecial 11, 3) := by decide +kernel
theorem dX6_init_14 : decode cX6_init 14 = .ok (.putfield 14, 3) := by decide +kernel
theorem dX6_init_17 : decode cX6_init 17 = .ok (.aload_n 0, 1) := by decide +kernel
theorem dX6_init_18 : decode cX6_init 18 = .ok (.new 9, 3) := by decide +kernel
theorem dX6_init_21 : decode cX6_init 21 = .ok (.dup, 1) := by decide +kernel
theorem dX6_init_22 : decode cX6_init 22 = .ok (.iconst 4, 1) := by decide +kernel
theorem dX6_init_23 : decode cX6_init 23 = .ok (.invokespecial 11, 3) := by decide +kernel
theorem dX6_init_26 : decode cX6_init 26 = .ok (.putfield 20, 3) := by decide +kernel
theorem dX6_init_29 : decode cX6_init 29 = .ok (.aload_n 0, 1) := by decide +kernel
theorem dX6_init_30 : decode cX6_init 30 = .ok (.iconst 4, 1) := by decide +kernel
theorem dX6_init_31 : decode cX6_init 31 = .ok (.invokevirtual 23, 3) := by decide +kernel
theorem dX6_init_34 : decode cX6_init 34 = .ok (.return_, 1) := by decide +kernel
theorem dX6_begin_0 : decode cX6_begin 0 = .ok (.aload_n 0, 1) := by decide +kernel
theorem dX6_begin_1 : decode cX6_begin 1 = .ok (.iload_n 1, 1) := by decide +kernel
theorem dX6_begin_2 : decode cX6_begin 2 = .ok (.putfield 26, 3) := by decide +kernel
theorem dX6_begin_5 : decode cX6_begin 5 = .ok (.aload_n 0, 1) := by decide +kernel
theorem dX6_begin_6 : decode cX6_begin 6 = .ok (.getfield 14, 3) := by decide +kernel
theorem dX6_begin_9 : decode cX6_begin 9 = .ok (.iconst 0, 1) := by decide +kernel
theorem dX6_begin_10 : decode cX6_begin 10 = .ok (.putfield 30, 3) := by decide +kernel
theorem dX6_begin_13 : decode cX6_begin 13 = .ok (.aload_n 0, 1) := by decide +kernel
theorem dX6_begin_14 : decode cX6_begin 14 = .ok (.getfield 20, 3) := by decide +kernel
theorem dX6_begin_17 : decode cX6_begin 17 = .ok (.iconst 0, 1) := by decide +kernel
theorem dX6_begin_18 : decode cX6_begin 18 = .ok (.putfield 30, 3) := by decide +kernel
theorem dX6_begin_21 : decode cX6_begin 21 = .ok (.aload_n 0, 1) := by decide +kernel
theorem dX6_begin_22 : decode cX6_begin 22 = .ok (.iconst 0, 1) := by decide +kernel
theorem dX6_begin_23 : decode cX6_begin 23 = .ok (.putfield 33, 3) := by decide +kernel
theorem dX6_begin_26 : decode cX6_begin 26 = .ok (.aload_n 0, 1) := by decide +kernel
theorem dX6_begin_27 : decode cX6_begin 27 = .ok (.iconst 1, 1) := by decide +kernel
theorem dX6_begin_28 : decode cX6_begin 28 = .ok (.putfield 36, 3) := by decide +kernel
theorem dX6_begin_31 : decode cX6_begin 31 = .ok (.aload_n 0, 1) := by decide +kernel
theorem dX6_begin_32 : decode cX6_begin 32 = .ok (.iconst 0, 1) := by decide +kernel
theorem dX6_begin_33 : decode cX6_begin 33 = .ok (.putfield 39, 3) := by decide +kernel
theorem dX6_begin_36 : decode cX6_begin 36 = .ok (.aload_n 0, 1) := by decide +kernel
theorem dX6_begin_37 : decode cX6_begin 37 = .ok (.iconst 0, 1) := by decide +kernel
theorem dX6_begin_38 : decode cX6_begin 38 = .ok (.putfield 43, 3) := by decide +kernel
theorem dX6_begin_41 : decode cX6_begin 41 = .ok (.aload_n 0, 1) := by decide +kernel
theorem dX6_begin_42 : decode cX6_begin 42 = .ok (.iconst 2, 1) := by decide +kernel
theorem dX6_begin_43 : decode cX6_begin 43 = .ok (.putfield 46, 3) := by decide +kernel
theorem dX6_begin_46 : decode cX6_begin 46 = .ok (.aload_n 0, 1) := by decide +kernel
theorem dX6_begin_47 : decode cX6_begin 47 = .ok (.bipush 10, 2) := by decide +kernel
theorem dX6_begin_49 : decode cX6_begin 49 = .ok (.putfield 49, 3) := by decide +kernel
theorem dX6_begin_52 : decode cX6_begin 52 = .ok (.return_, 1) := by decide +kernel
set_option maxRecDepth 20000 in
theorem ggX6_copyFrom_X7_copyFrom : GoodIn wsX6_copyFrom wsX7_copyFrom := goodIn_r _ [16, 17, 18, 19, 20, 21, 22, 23, 24, 15, 25, 37, 38, 39, 40, 41] (by decide +kernel) (by decide +kernel)
set_option maxRecDepth 20000 in
theorem gX6_copyFrom_X7_copyFrom : GoodIn wsX6_copyFrom (wsV RX6 52 RX7 yX7_copyFrom wsX7_copyFrom) := goodIn_app (goodIn_of _ (by decide +kernel)) ggX6_copyFrom_X7_copyFrom
theorem dX6_copyFrom_0 : decode cX6_copyFrom 0 = .ok (.aload_n 0, 1) := by decide +kernel
theorem dX6_copyFrom_1 : decode cX6_copyFrom 1 = .ok (.aload_n 1, 1) := by decide +kernel
theorem dX6_copyFrom_2 : decode cX6_copyFrom 2 = .ok (.getfield 26, 3) := by decide +kernel
theorem dX6_copyFrom_5 : decode cX6_copyFrom 5 = .ok (.putfield 26, 3) := by decide +kernel
theorem dX6_copyFrom_8 : decode cX6_copyFrom 8 = .ok (.aload_n 0, 1) := by decide +kernel
theorem dX6_copyFrom_9 : decode cX6_copyFrom 9 = .ok (.getfield 14, 3) := by decide +kernel
theorem dX6_copyFrom_12 : decode cX6_copyFrom 12 = .ok (.aload_n 1, 1) := by decide +kernel
theorem dX6_copyFrom_13 : decode cX6_copyFrom 13 = .ok (.getfield 14, 3) := by decide +kernel
theorem dX6_copyFrom_16 : decode cX6_copyFrom 16 = .ok (.invokevirtual 52, 3) := by decide +kernel
theorem dX6_copyFrom_19 : decode cX6_copyFrom 19 = .ok (.aload_n 0, 1) := by decide +kernel
theorem dX6_copyFrom_20 : decode cX6_copyFrom 20 = .ok (.getfield 20, 3) := by decide +kernel
theorem dX6_copyFrom_23 : decode cX6_copyFrom 23 = .ok (.aload_n 1, 1) := by decide +kernel
theorem dX6_copyFrom_24 : decode cX6_copyFrom 24 = .ok (.getfield 20, 3) := by decide +kernel
theorem dX6_copyFrom_27 : decode cX6_copyFrom 27 = .ok (.invokevirtual 52, 3) := by decide +kernel
theorem dX6_copyFrom_30 : decode cX6_copyFrom 30 = .ok (.aload_n 0, 1) := by decide +kernel
theorem dX6_copyFrom_31 : decode cX6_copyFrom 31 = .ok (.aload_n 1, 1) := by decide +kernel
theorem dX6_copyFrom_32 : decode cX6_copyFrom 32 = .ok (.getfield 33, 3) := by decide +kernel
theorem dX6_copyFrom_35 : decode cX6_copyFrom 35 = .ok (.putfield 33, 3) := by decide +kernel
theorem dX6_copyFrom_38 : decode cX6_copyFrom 38 = .ok (.aload_n 0, 1) := by decide +kernel
theorem dX6_copyFrom_39 : decode cX6_copyFrom 39 = .ok (.aload_n 1, 1) := by decide +kernel
theorem dX6_copyFrom_40 : decode cX6_copyFrom 40 = .ok (.getfield 36, 3) := by decide +kernel
theorem dX6_copyFrom_43 : decode cX6_copyFrom 43 = .ok (.putfield 36, 3) := by decide +kernel
theorem dX6_copyFrom_46 : decode cX6_copyFrom 46 = .ok (.aload_n 0, 1) := by decide +kernel
theorem dX6_copyFrom_47 : decode cX6_copyFrom 47 = .ok (.aload_n 1, 1) := by decide +kernel
theorem dX6_copyFrom_48 : decode cX6_copyFrom 48 = .ok (.getfield 39, 3) := by decide +kernel
theorem dX6_copyFrom_51 : decode cX6_copyFrom 51 = .ok (.putfield 39, 3) := by decide +kernel
theorem dX6_copyFrom_54 : decode cX6_copyFrom 54 = .ok (.aload_n 0, 1) := by decide +kernel
theorem dX6_copyFrom_55 : decode cX6_copyFrom 55 = .ok (.aload_n 1, 1) := by decide +kernel
theorem dX6_copyFrom_56 : decode cX6_copyFrom 56 = .ok (.getfield 56, 3) := by decide +kernel
theorem dX6_copyFrom_59 : decode cX6_copyFrom 59 = .ok (.putfield 56, 3) := by decide +kernel
theorem dX6_copyFrom_62 : decode cX6_copyFrom 62 = .ok (.aload_n 0, 1) := by decide +kernel
theorem dX6_copyFrom_63 : decode cX6_copyFrom 63 = .ok (.aload_n 1, 1) := by decide +kernel
theorem dX6_copyFrom_64 : decode cX6_copyFrom 64 = .ok (.getfield 59, 3) := by decide +kernel
theorem dX6_copyFrom_67 : decode cX6_copyFrom 67 = .ok (.putfield 59, 3) := by decide +kernel
theorem dX6_copyFrom_70 : decode cX6_copyFrom 70 = .ok (.aload_n 0, 1) := by decide +kernel
theorem dX6_copyFrom_71 : decode cX6_copyFrom 71 = .ok (.aload_n 1, 1) := by decide +kernel
theorem dX6_copyFrom_72 : decode cX6_copyFrom 72 = .ok (.getfield 43, 3) := by decide +kernel
theorem dX6_copyFrom_75 : decode cX6_copyFrom 75 = .ok (.putfield 43, 3) := by decide +kernel
theorem dX6_copyFrom_78 : decode cX6_copyFrom 78 = .ok (.aload_n 0, 1) := by decide +kernel
theorem dX6_copyFrom_79 : decode cX6_copyFrom 79 = .ok (.aload_n 1, 1) := by decide +kernel
theorem dX6_copyFrom_80 : decode cX6_copyFrom 80 = .ok (.getfield 46, 3) := by decide +kernel
theorem dX6_copyFrom_83 : decode cX6_copyFrom 83 = .ok (.putfield 46, 3) := by decide +kernel
theorem dX6_copyFrom_86 : decode cX6_copyFrom 86 = .ok (.aload_n 0, 1) := by decide +kernel
theorem dX6_copyFrom_87 : decode cX6_copyFrom 87 = .ok (.aload_n 1, 1) := by decide +kernel
theorem dX6_copyFrom_88 : decode cX6_copyFrom 88 = .ok (.getfield 49, 3) := by decide +kernel
theorem dX6_copyFrom_91 : decode cX6_copyFrom 91 = .ok (.putfield 49, 3) := by decide +kernel
theorem dX6_copyFrom_94 : decode cX6_copyFrom 94 = .ok (.return_, 1) := by decide +kernel
theorem dX6_turnOf_0 : decode cX6_turnOf 0 = .ok (.aload_n 0, 1) := by decide +kernel
theorem dX6_turnOf_1 : decode cX6_turnOf 1 = .ok (.getfield 39, 3) := by decide +kernel
theorem dX6_turnOf_4 : decode cX6_turnOf 4 = .ok (.ifCond .eq 9, 3) := by decide +kernel
theorem dX6_turnOf_7 : decode cX6_turnOf 7 = .ok (.iload_n 1, 1) := by decide +kernel
theorem dX6_turnOf_8 : decode cX6_turnOf 8 = .ok (.iconst 1, 1) := by decide +kernel
theorem dX6_turnOf_9 : decode cX6_turnOf 9 = .ok (.iand, 1) := by decide +kernel
theorem dX6_turnOf_10 : decode cX6_turnOf 10 = .ok (.goto 4, 3) := by decide +kernel
theorem dX6_turnOf_13 : decode cX6_turnOf 13 = .ok (.iconst 0, 1) := by decide +kernel
theorem dX6_turnOf_14 : decode cX6_turnOf 14 = .ok (.ireturn, 1) := by decide +kernel
set_option maxRecDepth 20000 in
theorem ggX6_marketOf_X6_turnOf : GoodIn wsX6_marketOf wsX6_turnOf := goodIn_r _ [7, 8, 9, 10, 11, 12, 13, 14, 15, 16, 17, 18, 19] (by decide +kernel) (by decide +kernel)
set_option maxRecDepth 20000 in
theorem gX6_marketOf_X6_turnOf : GoodIn wsX6_marketOf (wsV RX6 62 RX6 yX6_turnOf wsX6_turnOf) := goodIn_app (goodIn_of _ (by decide +kernel)) ggX6_marketOf_X6_turnOf
theorem dX6_marketOf_0 : decode cX6_marketOf 0 = .ok (.aload_n 0, 1) := by decide +kernel
theorem dX6_marketOf_1 : decode cX6_marketOf 1 = .ok (.iload_n 1, 1) := by decide +kernel
theorem dX6_marketOf_2 : decode cX6_marketOf 2 = .ok (.invokevirtual 62, 3) := by decide +kernel
theorem dX6_marketOf_5 : decode cX6_marketOf 5 = .ok (.ifCond .ne 10, 3) := by decide +kernel
theorem dX6_marketOf_8 : decode cX6_marketOf 8 = .ok (.aload_n 0, 1) := by decide +kernel
theorem dX6_marketOf_9 : decode cX6_marketOf 9 = .ok (.getfield 33, 3) := by decide +kernel
theorem dX6_marketOf_12 : decode cX6_marketOf 12 = .ok (.goto 7, 3) := by decide +kernel
theorem dX6_marketOf_15 : decode cX6_marketOf 15 = .ok (.aload_n 0, 1) := by decide +kernel
theorem dX6_marketOf_16 : decode cX6_marketOf 16 = .ok (.getfield 56, 3) := by decide +kernel
theorem dX6_marketOf_19 : decode cX6_marketOf 19 = .ok (.ireturn, 1) := by decide +kernel
set_option maxRecDepth 20000 in
theorem ggX6_quayOf_X6_turnOf : GoodIn wsX6_quayOf wsX6_turnOf := goodIn_r _ [7, 8, 9, 10, 11, 12, 13, 14, 15, 16, 17, 18, 19] (by decide +kernel) (by decide +kernel)
set_option maxRecDepth 20000 in
theorem gX6_quayOf_X6_turnOf : GoodIn wsX6_quayOf (wsV RX6 62 RX6 yX6_turnOf wsX6_turnOf) := goodIn_app (goodIn_of _ (by decide +kernel)) ggX6_quayOf_X6_turnOf
theorem dX6_quayOf_0 : decode cX6_quayOf 0 = .ok (.aload_n 0, 1) := by decide +kernel
theorem dX6_quayOf_1 : decode cX6_quayOf 1 = .ok (.iload_n 1, 1) := by decide +kernel
theorem dX6_quayOf_2 : decode cX6_quayOf 2 = .ok (.invokevirtual 62, 3) := by decide +kernel
theorem dX6_quayOf_5 : decode cX6_quayOf 5 = .ok (.ifCond .ne 10, 3) := by decide +kernel
theorem dX6_quayOf_8 : decode cX6_quayOf 8 = .ok (.aload_n 0, 1) := by decide +kernel
theorem dX6_quayOf_9 : decode cX6_quayOf 9 = .ok (.getfield 36, 3) := by decide +kernel
theorem dX6_quayOf_12 : decode cX6_quayOf 12 = .ok (.goto 7, 3) := by decide +kernel
theorem dX6_quayOf_15 : decode cX6_quayOf 15 = .ok (.aload_n 0, 1) := by decide +kernel
theorem dX6_quayOf_16 : decode cX6_quayOf 16 = .ok (.getfield 59, 3) := by decide +kernel
theorem dX6_quayOf_19 : decode cX6_quayOf 19 = .ok (.ireturn, 1) := by decide +kernel
set_option maxRecDepth 20000 in
theorem ggX6_buildLanes_X7_add : GoodIn wsX6_buildLanes wsX7_add := goodIn_r _ [11, 12, 13, 14, 15, 16, 28, 29, 30, 31, 32] (by decide +kernel) (by decide +kernel)
set_option maxRecDepth 20000 in
theorem gX6_buildLanes_X7_add : GoodIn wsX6_buildLanes (wsV RX6 76 RX7 yX7_add wsX7_add) := goodIn_app (goodIn_of _ (by decide +kernel)) ggX6_buildLanes_X7_add
theorem dX6_buildLanes_0 : decode cX6_buildLanes 0 = .ok (.iconst 0, 1) := by decide +kernel
theorem dX6_buildLanes_1 : decode cX6_buildLanes 1 = .ok (.istore_n 2, 1) := by decide +kernel
theorem dX6_buildLanes_2 : decode cX6_buildLanes 2 = .ok (.iload_n 2, 1) := by decide +kernel
theorem dX6_buildLanes_3 : decode cX6_buildLanes 3 = .ok (.aload_n 0, 1) := by decide +kernel
theorem dX6_buildLanes_4 : decode cX6_buildLanes 4 = .ok (.getfield 20, 3) := by decide +kernel
theorem dX6_buildLanes_7 : decode cX6_buildLanes 7 = .ok (.getfield 30, 3) := by decide +kernel
theorem dX6_buildLanes_10 : decode cX6_buildLanes 10 = .ok (.if_icmp .ge 52, 3) := by decide +kernel
theorem dX6_buildLanes_13 : decode cX6_buildLanes 13 = .ok (.iload_n 1, 1) := by decide +kernel
theorem dX6_buildLanes_14 : decode cX6_buildLanes 14 = .ok (.iconst 1, 1) := by decide +kernel
theorem dX6_buildLanes_15 : decode cX6_buildLanes 15 = .ok (.iload_n 2, 1) := by decide +kernel
theorem dX6_buildLanes_16 : decode cX6_buildLanes 16 = .ok (.ishl, 1) := by decide +kernel
theorem dX6_buildLanes_17 : decode cX6_buildLanes 17 = .ok (.iand, 1) := by decide +kernel
theorem dX6_buildLanes_18 : decode cX6_buildLanes 18 = .ok (.ifCond .eq 38, 3) := by decide +kernel
theorem dX6_buildLanes_21 : decode cX6_buildLanes 21 = .ok (.aload_n 0, 1) := by decide +kernel
theorem dX6_buildLanes_22 : decode cX6_buildLanes 22 = .ok (.getfield 14, 3) := by decide +kernel
theorem dX6_buildLanes_25 : decode cX6_buildLanes 25 = .ok (.aload_n 0, 1) := by decide +kernel
theorem dX6_buildLanes_26 : decode cX6_buildLanes 26 = .ok (.getfield 20, 3) := by decide +kernel
theorem dX6_buildLanes_29 : decode cX6_buildLanes 29 = .ok (.getfield 66, 3) := by decide +kernel
theorem dX6_buildLanes_32 : decode cX6_buildLanes 32 = .ok (.iload_n 2, 1) := by decide +kernel
theorem dX6_buildLanes_33 : decode cX6_buildLanes 33 = .ok (.iaload, 1) := by decide +kernel
theorem dX6_buildLanes_34 : decode cX6_buildLanes 34 = .ok (.aload_n 0, 1) := by decide +kernel
theorem dX6_buildLanes_35 : decode cX6_buildLanes 35 = .ok (.getfield 20, 3) := by decide +kernel
theorem dX6_buildLanes_38 : decode cX6_buildLanes 38 = .ok (.getfield 70, 3) := by decide +kernel
theorem dX6_buildLanes_41 : decode cX6_buildLanes 41 = .ok (.iload_n 2, 1) := by decide +kernel
theorem dX6_buildLanes_42 : decode cX6_buildLanes 42 = .ok (.iaload, 1) := by decide +kernel
theorem dX6_buildLanes_43 : decode cX6_buildLanes 43 = .ok (.aload_n 0, 1) := by decide +kernel
theorem dX6_buildLanes_44 : decode cX6_buildLanes 44 = .ok (.getfield 20, 3) := by decide +kernel
theorem dX6_buildLanes_47 : decode cX6_buildLanes 47 = .ok (.getfield 73, 3) := by decide +kernel
theorem dX6_buildLanes_50 : decode cX6_buildLanes 50 = .ok (.iload_n 2, 1) := by decide +kernel
theorem dX6_buildLanes_51 : decode cX6_buildLanes 51 = .ok (.iaload, 1) := by decide +kernel
theorem dX6_buildLanes_52 : decode cX6_buildLanes 52 = .ok (.iconst 1, 1) := by decide +kernel
theorem dX6_buildLanes_53 : decode cX6_buildLanes 53 = .ok (.invokevirtual 76, 3) := by decide +kernel
theorem dX6_buildLanes_56 : decode cX6_buildLanes 56 = .ok (.iinc 2 1, 3) := by decide +kernel
theorem dX6_buildLanes_59 : decode cX6_buildLanes 59 = .ok (.goto (-57), 3) := by decide +kernel
theorem dX6_buildLanes_62 : decode cX6_buildLanes 62 = .ok (.return_, 1) := by decide +kernel
theorem dX7_init_0 : decode cX7_init 0 = .ok (.aload_n 0, 1) := by decide +kernel
theorem dX7_init_1 : decode cX7_init 1 = .ok (.invokespecial 3, 3) := by decide +kernel
theorem dX7_init_4 : decode cX7_init 4 = .ok (.aload_n 0, 1) := by decide +kernel
theorem dX7_init_5 : decode cX7_init 5 = .ok (.iconst 0, 1) := by decide +kernel
theorem dX7_init_6 : decode cX7_init 6 = .ok (.putfield 9, 3) := by decide +kernel
theorem dX7_init_9 : decode cX7_init 9 = .ok (.aload_n 0, 1) := by decide +kernel
theorem dX7_init_10 : decode cX7_init 10 = .ok (.iload_n 1, 1) := by decide +kernel
theorem dX7_init_11 : decode cX7_init 11 = .ok (.newarray .int, 2) := by decide +kernel
theorem dX7_init_13 : decode cX7_init 13 = .ok (.putfield 15, 3) := by decide +kernel
theorem dX7_init_16 : decode cX7_init 16 = .ok (.aload_n 0, 1) := by decide +kernel
theorem dX7_init_17 : decode cX7_init 17 = .ok (.iload_n 1, 1) := by decide +kernel
theorem dX7_init_18 : decode cX7_init 18 = .ok (.newarray .int, 2) := by decide +kernel
theorem dX7_init_20 : decode cX7_init 20 = .ok (.putfield 19, 3) := by decide +kernel
theorem dX7_init_23 : decode cX7_init 23 = .ok (.aload_n 0, 1) := by decide +kernel
theorem dX7_init_24 : decode cX7_init 24 = .ok (.iload_n 1, 1) := by decide +kernel
theorem dX7_init_25 : decode cX7_init 25 = .ok (.newarray .int, 2) := by decide +kernel
theorem dX7_init_27 : decode cX7_init 27 = .ok (.putfield 22, 3) := by decide +kernel
theorem dX7_init_30 : decode cX7_init 30 = .ok (.aload_n 0, 1) := by decide +kernel
theorem dX7_init_31 : decode cX7_init 31 = .ok (.iload_n 1, 1) := by decide +kernel
theorem dX7_init_32 : decode cX7_init 32 = .ok (.newarray .int, 2) := by decide +kernel
theorem dX7_init_34 : decode cX7_init 34 = .ok (.putfield 25, 3) := by decide +kernel
theorem dX7_init_37 : decode cX7_init 37 = .ok (.return_, 1) := by decide +kernel
theorem dX7_has_0 : decode cX7_has 0 = .ok (.iload_n 1, 1) := by decide +kernel
theorem dX7_has_1 : decode cX7_has 1 = .ok (.ifCond .lt 15, 3) := by decide +kernel
theorem dX7_has_4 : decode cX7_has 4 = .ok (.iload_n 1, 1) := by decide +kernel
theorem dX7_has_5 : decode cX7_has 5 = .ok (.aload_n 0, 1) := by decide +kernel
theorem dX7_has_6 : decode cX7_has 6 = .ok (.getfield 9, 3) := by decide +kernel
theorem dX7_has_9 : decode cX7_has 9 = .ok (.if_icmp .ge 7, 3) := by decide +kernel
theorem dX7_has_12 : decode cX7_has 12 = .ok (.iconst 1, 1) := by decide +kernel
theorem dX7_has_13 : decode cX7_has 13 = .ok (.goto 4, 3) := by decide +kernel
theorem dX7_has_16 : decode cX7_has 16 = .ok (.iconst 0, 1) := by decide +kernel
theorem dX7_has_17 : decode cX7_has 17 = .ok (.ireturn, 1) := by decide +kernel
theorem dX7_add_0 : decode cX7_add 0 = .ok (.aload_n 0, 1) := by decide +kernel
theorem dX7_add_1 : decode cX7_add 1 = .ok (.getfield 9, 3) := by decide +kernel
theorem dX7_add_4 : decode cX7_add 4 = .ok (.aload_n 0, 1) := by decide +kernel
theorem dX7_add_5 : decode cX7_add 5 = .ok (.getfield 15, 3) := by decide +kernel
theorem dX7_add_8 : decode cX7_add 8 = .ok (.arraylength, 1) := by decide +kernel
theorem dX7_add_9 : decode cX7_add 9 = .ok (.if_icmp .lt 4, 3) := by decide +kernel
theorem dX7_add_12 : decode cX7_add 12 = .ok (.return_, 1) := by decide +kernel
theorem dX7_add_13 : decode cX7_add 13 = .ok (.aload_n 0, 1) := by decide +kernel
theorem dX7_add_14 : decode cX7_add 14 = .ok (.getfield 15, 3) := by decide +kernel
theorem dX7_add_17 : decode cX7_add 17 = .ok (.aload_n 0, 1) := by decide +kernel
theorem dX7_add_18 : decode cX7_add 18 = .ok (.getfield 9, 3) := by decide +kernel
theorem dX7_add_21 : decode cX7_add 21 = .ok (.iload_n 1, 1) := by decide +kernel
theorem dX7_add_22 : decode cX7_add 22 = .ok (.iastore, 1) := by decide +kernel
theorem dX7_add_23 : decode cX7_add 23 = .ok (.aload_n 0, 1) := by decide +kernel
theorem dX7_add_24 : decode cX7_add 24 = .ok (.getfield 19, 3) := by decide +kernel
theorem dX7_add_27 : decode cX7_add 27 = .ok (.aload_n 0, 1) := by decide +kernel
theorem dX7_add_28 : decode cX7_add 28 = .ok (.getfield 9, 3) := by decide +kernel
theorem dX7_add_31 : decode cX7_add 31 = .ok (.iload_n 2, 1) := by decide +kernel
theorem dX7_add_32 : decode cX7_add 32 = .ok (.iastore, 1) := by decide +kernel
theorem dX7_add_33 : decode cX7_add 33 = .ok (.aload_n 0, 1) := by decide +kernel
theorem dX7_add_34 : decode cX7_add 34 = .ok (.getfield 22, 3) := by decide +kernel
theorem dX7_add_37 : decode cX7_add 37 = .ok (.aload_n 0, 1) := by decide +kernel
theorem dX7_add_38 : decode cX7_add 38 = .ok (.getfield 9, 3) := by decide +kernel
theorem dX7_add_41 : decode cX7_add 41 = .ok (.iload_n 3, 1) := by decide +kernel
theorem dX7_add_42 : decode cX7_add 42 = .ok (.iastore, 1) := by decide +kernel
theorem dX7_add_43 : decode cX7_add 43 = .ok (.aload_n 0, 1) := by decide +kernel
theorem dX7_add_44 : decode cX7_add 44 = .ok (.getfield 25, 3) := by decide +kernel
theorem dX7_add_47 : decode cX7_add 47 = .ok (.aload_n 0, 1) := by decide +kernel
theorem dX7_add_48 : decode cX7_add 48 = .ok (.getfield 9, 3) := by decide +kernel
theorem dX7_add_51 : decode cX7_add 51 = .ok (.iload 4, 2) := by decide +kernel
theorem dX7_add_53 : decode cX7_add 53 = .ok (.iastore, 1) := by decide +kernel
theorem dX7_add_54 : decode cX7_add 54 = .ok (.aload_n 0, 1) := by decide +kernel
theorem dX7_add_55 : decode cX7_add 55 = .ok (.dup, 1) := by decide +kernel
theorem dX7_add_56 : decode cX7_add 56 = .ok (.getfield 9, 3) := by decide +kernel
theorem dX7_add_59 : decode cX7_add 59 = .ok (.iconst 1, 1) := by decide +kernel
theorem dX7_add_60 : decode cX7_add 60 = .ok (.iadd, 1) := by decide +kernel
theorem dX7_add_61 : decode cX7_add 61 = .ok (.putfield 9, 3) := by decide +kernel
theorem dX7_add_64 : decode cX7_add 64 = .ok (.return_, 1) := by decide +kernel
set_option maxRecDepth 20000 in
theorem ggX7_copyFrom_X7_add : GoodIn wsX7_copyFrom wsX7_add := goodIn_r _ [10, 1, 2, 3, 4, 5, 11, 12, 13, 14, 15] (by decide +kernel) (by decide +kernel)
set_option maxRecDepth 20000 in
theorem gX7_copyFrom_X7_add : GoodIn wsX7_copyFrom (wsV RX7 28 RX7 yX7_add wsX7_add) := goodIn_app (goodIn_of _ (by decide +kernel)) ggX7_copyFrom_X7_add
theorem dX7_copyFrom_0 : decode cX7_copyFrom 0 = .ok (.aload_n 0, 1) := by decide +kernel
theorem dX7_copyFrom_1 : decode cX7_copyFrom 1 = .ok (.iconst 0, 1) := by decide +kernel
theorem dX7_copyFrom_2 : decode cX7_copyFrom 2 = .ok (.putfield 9, 3) := by decide +kernel
theorem dX7_copyFrom_5 : decode cX7_copyFrom 5 = .ok (.iconst 0, 1) := by decide +kernel
theorem dX7_copyFrom_6 : decode cX7_copyFrom 6 = .ok (.istore_n 2, 1) := by decide +kernel
theorem dX7_copyFrom_7 : decode cX7_copyFrom 7 = .ok (.iload_n 2, 1) := by decide +kernel
theorem dX7_copyFrom_8 : decode cX7_copyFrom 8 = .ok (.aload_n 1, 1) := by decide +kernel
theorem dX7_copyFrom_9 : decode cX7_copyFrom 9 = .ok (.getfield 9, 3) := by decide +kernel
theorem dX7_copyFrom_12 : decode cX7_copyFrom 12 = .ok (.if_icmp .ge 37, 3) := by decide +kernel
theorem dX7_copyFrom_15 : decode cX7_copyFrom 15 = .ok (.aload_n 0, 1) := by decide +kernel
theorem dX7_copyFrom_16 : decode cX7_copyFrom 16 = .ok (.aload_n 1, 1) := by decide +kernel
theorem dX7_copyFrom_17 : decode cX7_copyFrom 17 = .ok (.getfield 15, 3) := by decide +kernel
theorem dX7_copyFrom_20 : decode cX7_copyFrom 20 = .ok (.iload_n 2, 1) := by decide +kernel
theorem dX7_copyFrom_21 : decode cX7_copyFrom 21 = .ok (.iaload, 1) := by decide +kernel
theorem dX7_copyFrom_22 : decode cX7_copyFrom 22 = .ok (.aload_n 1, 1) := by decide +kernel
theorem dX7_copyFrom_23 : decode cX7_copyFrom 23 = .ok (.getfield 19, 3) := by decide +kernel
theorem dX7_copyFrom_26 : decode cX7_copyFrom 26 = .ok (.iload_n 2, 1) := by decide +kernel
theorem dX7_copyFrom_27 : decode cX7_copyFrom 27 = .ok (.iaload, 1) := by decide +kernel
theorem dX7_copyFrom_28 : decode cX7_copyFrom 28 = .ok (.aload_n 1, 1) := by decide +kernel
theorem dX7_copyFrom_29 : decode cX7_copyFrom 29 = .ok (.getfield 22, 3) := by decide +kernel
theorem dX7_copyFrom_32 : decode cX7_copyFrom 32 = .ok (.iload_n 2, 1) := by decide +kernel
theorem dX7_copyFrom_33 : decode cX7_copyFrom 33 = .ok (.iaload, 1) := by decide +kernel
theorem dX7_copyFrom_34 : decode cX7_copyFrom 34 = .ok (.aload_n 1, 1) := by decide +kernel
theorem dX7_copyFrom_35 : decode cX7_copyFrom 35 = .ok (.getfield 25, 3) := by decide +kernel
theorem dX7_copyFrom_38 : decode cX7_copyFrom 38 = .ok (.iload_n 2, 1) := by decide +kernel
theorem dX7_copyFrom_39 : decode cX7_copyFrom 39 = .ok (.iaload, 1) := by decide +kernel
theorem dX7_copyFrom_40 : decode cX7_copyFrom 40 = .ok (.invokevirtual 28, 3) := by decide +kernel
theorem dX7_copyFrom_43 : decode cX7_copyFrom 43 = .ok (.iinc 2 1, 3) := by decide +kernel
theorem dX7_copyFrom_46 : decode cX7_copyFrom 46 = .ok (.goto (-39), 3) := by decide +kernel
theorem dX7_copyFrom_49 : decode cX7_copyFrom 49 = .ok (.return_, 1) := by decide +kernel
theorem dX7_tell_0 : decode cX7_tell 0 = .ok (.iload_n 2, 1) := by decide +kernel
theorem dX7_tell_1 : decode cX7_tell 1 = .ok (.tableswitch 59 0 3 #[31, 38, 45, 52], 31) := by decide +kernel
theorem dX7_tell_32 : decode cX7_tell 32 = .ok (.aload_n 0, 1) := by decide +kernel
theorem dX7_tell_33 : decode cX7_tell 33 = .ok (.getfield 15, 3) := by decide +kernel
theorem dX7_tell_36 : decode cX7_tell 36 = .ok (.iload_n 1, 1) := by decide +kernel
theorem dX7_tell_37 : decode cX7_tell 37 = .ok (.iaload, 1) := by decide +kernel
theorem dX7_tell_38 : decode cX7_tell 38 = .ok (.ireturn, 1) := by decide +kernel
theorem dX7_tell_39 : decode cX7_tell 39 = .ok (.aload_n 0, 1) := by decide +kernel
theorem dX7_tell_40 : decode cX7_tell 40 = .ok (.getfield 19, 3) := by decide +kernel
theorem dX7_tell_43 : decode cX7_tell 43 = .ok (.iload_n 1, 1) := by decide +kernel
theorem dX7_tell_44 : decode cX7_tell 44 = .ok (.iaload, 1) := by decide +kernel
theorem dX7_tell_45 : decode cX7_tell 45 = .ok (.ireturn, 1) := by decide +kernel
theorem dX7_tell_46 : decode cX7_tell 46 = .ok (.aload_n 0, 1) := by decide +kernel
theorem dX7_tell_47 : decode cX7_tell 47 = .ok (.getfield 22, 3) := by decide +kernel
theorem dX7_tell_50 : decode cX7_tell 50 = .ok (.iload_n 1, 1) := by decide +kernel
theorem dX7_tell_51 : decode cX7_tell 51 = .ok (.iaload, 1) := by decide +kernel
theorem dX7_tell_52 : decode cX7_tell 52 = .ok (.ireturn, 1) := by decide +kernel
theorem dX7_tell_53 : decode cX7_tell 53 = .ok (.aload_n 0, 1) := by decide +kernel
theorem dX7_tell_54 : decode cX7_tell 54 = .ok (.getfield 25, 3) := by decide +kernel
theorem dX7_tell_57 : decode cX7_tell 57 = .ok (.iload_n 1, 1) := by decide +kernel
theorem dX7_tell_58 : decode cX7_tell 58 = .ok (.iaload, 1) := by decide +kernel
theorem dX7_tell_59 : decode cX7_tell 59 = .ok (.ireturn, 1) := by decide +kernel
theorem dX7_tell_60 : decode cX7_tell 60 = .ok (.bipush (-3), 2) := by decide +kernel
theorem dX7_tell_62 : decode cX7_tell 62 = .ok (.ireturn, 1) := by decide +kernel
theorem dX7_paidFor_0 : decode cX7_paidFor 0 = .ok (.iconst 0, 1) := by decide +kernel
theorem dX7_paidFor_1 : decode cX7_paidFor 1 = .ok (.istore_n 2, 1) := by decide +kernel
theorem dX7_paidFor_2 : decode cX7_paidFor 2 = .ok (.iconst 0, 1) := by decide +kernel
theorem dX7_paidFor_3 : decode cX7_paidFor 3 = .ok (.istore_n 3, 1) := by decide +kernel
theorem dX7_paidFor_4 : decode cX7_paidFor 4 = .ok (.iload_n 3, 1) := by decide +kernel
theorem dX7_paidFor_5 : decode cX7_paidFor 5 = .ok (.aload_n 0, 1) := by decide +kernel
theorem dX7_paidFor_6 : decode cX7_paidFor 6 = .ok (.getfield 9, 3) := by decide +kernel
theorem dX7_paidFor_9 : decode cX7_paidFor 9 = .ok (.if_icmp .ge 26, 3) := by decide +kernel
theorem dX7_paidFor_12 : decode cX7_paidFor 12 = .ok (.iload_n 1, 1) := by decide +kernel
theorem dX7_paidFor_13 : decode cX7_paidFor 13 = .ok (.iconst 1, 1) := by decide +kernel
theorem dX7_paidFor_14 : decode cX7_paidFor 14 = .ok (.iload_n 3, 1) := by decide +kernel
theorem dX7_paidFor_15 : decode cX7_paidFor 15 = .ok (.ishl, 1) := by decide +kernel
theorem dX7_paidFor_16 : decode cX7_paidFor 16 = .ok (.iand, 1) := by decide +kernel
theorem dX7_paidFor_17 : decode cX7_paidFor 17 = .ok (.ifCond .eq 12, 3) := by decide +kernel
theorem dX7_paidFor_20 : decode cX7_paidFor 20 = .ok (.iload_n 2, 1) := by decide +kernel
theorem dX7_paidFor_21 : decode cX7_paidFor 21 = .ok (.aload_n 0, 1) := by decide +kernel
theorem dX7_paidFor_22 : decode cX7_paidFor 22 = .ok (.getfield 25, 3) := by decide +kernel
theorem dX7_paidFor_25 : decode cX7_paidFor 25 = .ok (.iload_n 3, 1) := by decide +kernel
theorem dX7_paidFor_26 : decode cX7_paidFor 26 = .ok (.iaload, 1) := by decide +kernel
theorem dX7_paidFor_27 : decode cX7_paidFor 27 = .ok (.iadd, 1) := by decide +kernel
theorem dX7_paidFor_28 : decode cX7_paidFor 28 = .ok (.istore_n 2, 1) := by decide +kernel
theorem dX7_paidFor_29 : decode cX7_paidFor 29 = .ok (.iinc 3 1, 3) := by decide +kernel
theorem dX7_paidFor_32 : decode cX7_paidFor 32 = .ok (.goto (-28), 3) := by decide +kernel
theorem dX7_paidFor_35 : decode cX7_paidFor 35 = .ok (.iload_n 2, 1) := by decide +kernel
theorem dX7_paidFor_36 : decode cX7_paidFor 36 = .ok (.ireturn, 1) := by decide +kernel
theorem dX7_leaving_0 : decode cX7_leaving 0 = .ok (.iconst 0, 1) := by decide +kernel
theorem dX7_leaving_1 : decode cX7_leaving 1 = .ok (.istore_n 2, 1) := by decide +kernel
theorem dX7_leaving_2 : decode cX7_leaving 2 = .ok (.iconst 0, 1) := by decide +kernel
theorem dX7_leaving_3 : decode cX7_leaving 3 = .ok (.istore_n 3, 1) := by decide +kernel
theorem dX7_leaving_4 : decode cX7_leaving 4 = .ok (.iload_n 3, 1) := by decide +kernel
theorem dX7_leaving_5 : decode cX7_leaving 5 = .ok (.aload_n 0, 1) := by decide +kernel
theorem dX7_leaving_6 : decode cX7_leaving 6 = .ok (.getfield 9, 3) := by decide +kernel
theorem dX7_leaving_9 : decode cX7_leaving 9 = .ok (.if_icmp .ge 34, 3) := by decide +kernel
theorem dX7_leaving_12 : decode cX7_leaving 12 = .ok (.iload_n 1, 1) := by decide +kernel
theorem dX7_leaving_13 : decode cX7_leaving 13 = .ok (.aload_n 0, 1) := by decide +kernel
theorem dX7_leaving_14 : decode cX7_leaving 14 = .ok (.getfield 15, 3) := by decide +kernel
theorem dX7_leaving_17 : decode cX7_leaving 17 = .ok (.iload_n 3, 1) := by decide +kernel
theorem dX7_leaving_18 : decode cX7_leaving 18 = .ok (.iaload, 1) := by decide +kernel
theorem dX7_leaving_19 : decode cX7_leaving 19 = .ok (.ishr, 1) := by decide +kernel
theorem dX7_leaving_20 : decode cX7_leaving 20 = .ok (.iload_n 1, 1) := by decide +kernel
theorem dX7_leaving_21 : decode cX7_leaving 21 = .ok (.aload_n 0, 1) := by decide +kernel
theorem dX7_leaving_22 : decode cX7_leaving 22 = .ok (.getfield 19, 3) := by decide +kernel
theorem dX7_leaving_25 : decode cX7_leaving 25 = .ok (.iload_n 3, 1) := by decide +kernel
theorem dX7_leaving_26 : decode cX7_leaving 26 = .ok (.iaload, 1) := by decide +kernel
theorem dX7_leaving_27 : decode cX7_leaving 27 = .ok (.ishr, 1) := by decide +kernel
theorem dX7_leaving_28 : decode cX7_leaving 28 = .ok (.ixor, 1) := by decide +kernel
theorem dX7_leaving_29 : decode cX7_leaving 29 = .ok (.iconst 1, 1) := by decide +kernel
theorem dX7_leaving_30 : decode cX7_leaving 30 = .ok (.iand, 1) := by decide +kernel
theorem dX7_leaving_31 : decode cX7_leaving 31 = .ok (.ifCond .eq 6, 3) := by decide +kernel
theorem dX7_leaving_34 : decode cX7_leaving 34 = .ok (.iinc 2 1, 3) := by decide +kernel
theorem dX7_leaving_37 : decode cX7_leaving 37 = .ok (.iinc 3 1, 3) := by decide +kernel
theorem dX7_leaving_40 : decode cX7_leaving 40 = .ok (.goto (-36), 3) := by decide +kernel
theorem dX7_leaving_43 : decode cX7_leaving 43 = .ok (.iload_n 2, 1) := by decide +kernel
theorem dX7_leaving_44 : decode cX7_leaving 44 = .ok (.ireturn, 1) := by decide +kernel
theorem dX8_init_0 : decode cX8_init 0 = .ok (.aload_n 0, 1) := by decide +kernel
theorem dX8_init_1 : decode cX8_init 1 = .ok (.invokespecial 3, 3) := by decide +kernel
theorem dX8_init_4 : decode cX8_init 4 = .ok (.aload_n 0, 1) := by decide +kernel
theorem dX8_init_5 : decode cX8_init 5 = .ok (.iconst 0, 1) := by decide +kernel
theorem dX8_init_6 : decode cX8_init 6 = .ok (.putfield 9, 3) := by decide +kernel
theorem dX8_init_9 : decode cX8_init 9 = .ok (.aload_n 0, 1) := by decide +kernel
theorem dX8_init_10 : decode cX8_init 10 = .ok (.iconst 0, 1) := by decide +kernel
theorem dX8_init_11 : decode cX8_init 11 = .ok (.putfield 15, 3) := by decide +kernel
theorem dX8_init_14 : decode cX8_init 14 = .ok (.aload_n 0, 1) := by decide +kernel
theorem dX8_init_15 : decode cX8_init 15 = .ok (.sipush 200, 3) := by decide +kernel
theorem dX8_init_18 : decode cX8_init 18 = .ok (.newarray .int, 2) := by decide +kernel
theorem dX8_init_20 : decode cX8_init 20 = .ok (.putfield 18, 3) := by decide +kernel
theorem dX8_init_23 : decode cX8_init 23 = .ok (.aload_n 0, 1) := by decide +kernel
theorem dX8_init_24 : decode cX8_init 24 = .ok (.sipush 200, 3) := by decide +kernel
theorem dX8_init_27 : decode cX8_init 27 = .ok (.newarray .int, 2) := by decide +kernel
theorem dX8_init_29 : decode cX8_init 29 = .ok (.putfield 22, 3) := by decide +kernel
theorem dX8_init_32 : decode cX8_init 32 = .ok (.return_, 1) := by decide +kernel
set_option maxRecDepth 20000 in
theorem ggX8_append_X8_sortOf : GoodIn wsX8_append wsX8_sortOf := goodIn_r _ [8] (by decide +kernel) (by decide +kernel)
set_option maxRecDepth 20000 in
theorem gX8_append_X8_sortOf : GoodIn wsX8_append (va_wsS RX8 27 yX8_sortOf wsX8_sortOf) := goodIn_app (goodIn_of _ (by decide +kernel)) ggX8_append_X8_sortOf
theorem dX8_append_0 : decode cX8_append 0 = .ok (.aload_n 0, 1) := by decide +kernel
theorem dX8_append_1 : decode cX8_append 1 = .ok (.getfield 9, 3) := by decide +kernel
theorem dX8_append_4 : decode cX8_append 4 = .ok (.iload_n 3, 1) := by decide +kernel
theorem dX8_append_5 : decode cX8_append 5 = .ok (.iadd, 1) := by decide +kernel
theorem dX8_append_6 : decode cX8_append 6 = .ok (.aload_n 0, 1) := by decide +kernel
theorem dX8_append_7 : decode cX8_append 7 = .ok (.getfield 18, 3) := by decide +kernel
theorem dX8_append_10 : decode cX8_append 10 = .ok (.arraylength, 1) := by decide +kernel
theorem dX8_append_11 : decode cX8_append 11 = .ok (.if_icmp .le 5, 3) := by decide +kernel
theorem dX8_append_14 : decode cX8_append 14 = .ok (.iconst 0, 1) := by decide +kernel
theorem dX8_append_15 : decode cX8_append 15 = .ok (.ireturn, 1) := by decide +kernel
theorem dX8_append_16 : decode cX8_append 16 = .ok (.iconst 0, 1) := by decide +kernel
theorem dX8_append_17 : decode cX8_append 17 = .ok (.istore 4, 2) := by decide +kernel
theorem dX8_append_19 : decode cX8_append 19 = .ok (.iload 4, 2) := by decide +kernel
theorem dX8_append_21 : decode cX8_append 21 = .ok (.iload_n 3, 1) := by decide +kernel
theorem dX8_append_22 : decode cX8_append 22 = .ok (.if_icmp .ge 61, 3) := by decide +kernel
theorem dX8_append_25 : decode cX8_append 25 = .ok (.aload_n 0, 1) := by decide +kernel
theorem dX8_append_26 : decode cX8_append 26 = .ok (.getfield 18, 3) := by decide +kernel
theorem dX8_append_29 : decode cX8_append 29 = .ok (.aload_n 0, 1) := by decide +kernel
theorem dX8_append_30 : decode cX8_append 30 = .ok (.getfield 9, 3) := by decide +kernel
theorem dX8_append_33 : decode cX8_append 33 = .ok (.lload_n 1, 1) := by decide +kernel
theorem dX8_append_34 : decode cX8_append 34 = .ok (.bipush 8, 2) := by decide +kernel
theorem dX8_append_36 : decode cX8_append 36 = .ok (.iload 4, 2) := by decide +kernel
theorem dX8_append_38 : decode cX8_append 38 = .ok (.imul, 1) := by decide +kernel
theorem dX8_append_39 : decode cX8_append 39 = .ok (.lshr, 1) := by decide +kernel
theorem dX8_append_40 : decode cX8_append 40 = .ok (.ldc2_w 25, 3) := by decide +kernel
theorem dX8_append_43 : decode cX8_append 43 = .ok (.land, 1) := by decide +kernel
theorem dX8_append_44 : decode cX8_append 44 = .ok (.l2i, 1) := by decide +kernel
theorem dX8_append_45 : decode cX8_append 45 = .ok (.iastore, 1) := by decide +kernel
theorem dX8_append_46 : decode cX8_append 46 = .ok (.aload_n 0, 1) := by decide +kernel
theorem dX8_append_47 : decode cX8_append 47 = .ok (.getfield 22, 3) := by decide +kernel
theorem dX8_append_50 : decode cX8_append 50 = .ok (.aload_n 0, 1) := by decide +kernel
theorem dX8_append_51 : decode cX8_append 51 = .ok (.getfield 9, 3) := by decide +kernel
theorem dX8_append_54 : decode cX8_append 54 = .ok (.aload_n 0, 1) := by decide +kernel
theorem dX8_append_55 : decode cX8_append 55 = .ok (.getfield 18, 3) := by decide +kernel
theorem dX8_append_58 : decode cX8_append 58 = .ok (.aload_n 0, 1) := by decide +kernel
theorem dX8_append_59 : decode cX8_append 59 = .ok (.getfield 9, 3) := by decide +kernel
theorem dX8_append_62 : decode cX8_append 62 = .ok (.iaload, 1) := by decide +kernel
theorem dX8_append_63 : decode cX8_append 63 = .ok (.invokestatic 27, 3) := by decide +kernel
theorem dX8_append_66 : decode cX8_append 66 = .ok (.iastore, 1) := by decide +kernel
theorem dX8_append_67 : decode cX8_append 67 = .ok (.aload_n 0, 1) := by decide +kernel
theorem dX8_append_68 : decode cX8_append 68 = .ok (.dup, 1) := by decide +kernel
theorem dX8_append_69 : decode cX8_append 69 = .ok (.getfield 9, 3) := by decide +kernel
theorem dX8_append_72 : decode cX8_append 72 = .ok (.iconst 1, 1) := by decide +kernel
theorem dX8_append_73 : decode cX8_append 73 = .ok (.iadd, 1) := by decide +kernel
theorem dX8_append_74 : decode cX8_append 74 = .ok (.putfield 9, 3) := by decide +kernel
theorem dX8_append_77 : decode cX8_append 77 = .ok (.iinc 4 1, 3) := by decide +kernel
theorem dX8_append_80 : decode cX8_append 80 = .ok (.goto (-61), 3) := by decide +kernel
theorem dX8_append_83 : decode cX8_append 83 = .ok (.iconst 1, 1) := by decide +kernel
theorem dX8_append_84 : decode cX8_append 84 = .ok (.ireturn, 1) := by decide +kernel
set_option maxRecDepth 20000 in
theorem ggX8_readInto_X8_readLine : GoodIn wsX8_readInto wsX8_readLine := goodIn_r _ [10, 4, 11, 12, 13, 9, 14, 1, 15, 16, 3, 17, 5, 18, 19, 20, 21, 22, 23, 24, 25, 26, 27, 28, 29, 30, 31, 32, 33, 34, 35, 36, 37, 38, 39, 40, 41, 42, 43, 44, 45, 46, 47, 48, 49, 50, 51, 52, 53, 54, 55, 56, 57, 58, 59, 60, 61, 62, 63, 64, 65, 66, 67, 68, 69, 70, 71, 72, 73, 74, 75, 76, 77, 78, 79, 80, 81, 82, 83, 84, 85, 86, 87, 88, 89, 90, 91, 92, 93, 94, 95, 96, 97, 98, 99, 100, 101, 102, 103, 104, 105, 106, 107, 108, 109, 110, 111, 112, 113, 114, 115, 116, 117, 118, 119, 120, 121, 122, 123, 124, 125, 126, 127, 128, 129, 130, 131, 132, 133, 134, 135, 136, 137, 138, 139, 140, 141, 142, 143, 144, 145, 146, 147, 148, 149, 150, 151, 152, 153, 154, 155, 156, 157, 158, 159, 160, 161, 162, 163, 164, 165, 166, 167, 168, 169, 170, 171, 172, 173, 174, 175, 176, 177, 178, 179, 180] (by decide +kernel) (by decide +kernel)
set_option maxRecDepth 20000 in
theorem gX8_readInto_X8_readLine : GoodIn wsX8_readInto (wsV RX8 34 RX8 yX8_readLine wsX8_readLine) := goodIn_app (goodIn_of _ (by decide +kernel)) ggX8_readInto_X8_readLine
set_option maxRecDepth 20000 in
theorem ggX8_readInto_X8_readToken : GoodIn wsX8_readInto wsX8_readToken := goodIn_r _ [14, 1, 15, 16, 3, 4, 17, 5, 155, 156, 157, 158, 159, 160, 161, 162, 163, 164] (by decide +kernel) (by decide +kernel)
set_option maxRecDepth 20000 in
theorem gX8_readInto_X8_readToken : GoodIn wsX8_readInto (wsV RX8 41 RX8 yX8_readToken wsX8_readToken) := goodIn_app (goodIn_of _ (by decide +kernel)) ggX8_readInto_X8_readToken
theorem dX8_readInto_0 : decode cX8_readInto 0 = .ok (.aload_n 0, 1) := by decide +kernel
theorem dX8_readInto_1 : decode cX8_readInto 1 = .ok (.iconst 0, 1) := by decide +kernel
theorem dX8_readInto_2 : decode cX8_readInto 2 = .ok (.putfield 31, 3) := by decide +kernel
theorem dX8_readInto_5 : decode cX8_readInto 5 = .ok (.aload_n 0, 1) := by decide +kernel
theorem dX8_readInto_6 : decode cX8_readInto 6 = .ok (.iconst 1, 1) := by decide +kernel
theorem dX8_readInto_7 : decode cX8_readInto 7 = .ok (.putfield 15, 3) := by decide +kernel
theorem dX8_readInto_10 : decode cX8_readInto 10 = .ok (.aload_n 0, 1) := by decide +kernel
theorem dX8_readInto_11 : decode cX8_readInto 11 = .ok (.getfield 15, 3) := by decide +kernel
theorem dX8_readInto_14 : decode cX8_readInto 14 = .ok (.bipush 12, 2) := by decide +kernel
theorem dX8_readInto_16 : decode cX8_readInto 16 = .ok (.if_icmp .gt 70, 3) := by decide +kernel
theorem dX8_readInto_19 : decode cX8_readInto 19 = .ok (.aload_n 0, 1) := by decide +kernel
theorem dX8_readInto_20 : decode cX8_readInto 20 = .ok (.aload_n 1, 1) := by decide +kernel
theorem dX8_readInto_21 : decode cX8_readInto 21 = .ok (.invokevirtual 34, 3) := by decide +kernel
theorem dX8_readInto_24 : decode cX8_readInto 24 = .ok (.ifCond .ne 8, 3) := by decide +kernel
theorem dX8_readInto_27 : decode cX8_readInto 27 = .ok (.aload_n 0, 1) := by decide +kernel
theorem dX8_readInto_28 : decode cX8_readInto 28 = .ok (.getfield 38, 3) := by decide +kernel
theorem dX8_readInto_31 : decode cX8_readInto 31 = .ok (.ireturn, 1) := by decide +kernel
theorem dX8_readInto_32 : decode cX8_readInto 32 = .ok (.aload_n 0, 1) := by decide +kernel
theorem dX8_readInto_33 : decode cX8_readInto 33 = .ok (.invokevirtual 41, 3) := by decide +kernel
theorem dX8_readInto_36 : decode cX8_readInto 36 = .ok (.aload_n 0, 1) := by decide +kernel
theorem dX8_readInto_37 : decode cX8_readInto 37 = .ok (.getfield 44, 3) := by decide +kernel
theorem dX8_readInto_40 : decode cX8_readInto 40 = .ok (.iconst 4, 1) := by decide +kernel
theorem dX8_readInto_41 : decode cX8_readInto 41 = .ok (.if_icmp .ne 5, 3) := by decide +kernel
theorem dX8_readInto_44 : decode cX8_readInto 44 = .ok (.iconst (-1), 1) := by decide +kernel
theorem dX8_readInto_45 : decode cX8_readInto 45 = .ok (.ireturn, 1) := by decide +kernel
theorem dX8_readInto_46 : decode cX8_readInto 46 = .ok (.aload_n 0, 1) := by decide +kernel
theorem dX8_readInto_47 : decode cX8_readInto 47 = .ok (.getfield 44, 3) := by decide +kernel
theorem dX8_readInto_50 : decode cX8_readInto 50 = .ok (.iconst 2, 1) := by decide +kernel
theorem dX8_readInto_51 : decode cX8_readInto 51 = .ok (.if_icmp .ne 17, 3) := by decide +kernel
theorem dX8_readInto_54 : decode cX8_readInto 54 = .ok (.aload_n 0, 1) := by decide +kernel
theorem dX8_readInto_55 : decode cX8_readInto 55 = .ok (.getfield 18, 3) := by decide +kernel
theorem dX8_readInto_58 : decode cX8_readInto 58 = .ok (.aload_n 0, 1) := by decide +kernel
theorem dX8_readInto_59 : decode cX8_readInto 59 = .ok (.getfield 38, 3) := by decide +kernel
theorem dX8_readInto_62 : decode cX8_readInto 62 = .ok (.iaload, 1) := by decide +kernel
theorem dX8_readInto_63 : decode cX8_readInto 63 = .ok (.bipush 59, 2) := by decide +kernel
theorem dX8_readInto_65 : decode cX8_readInto 65 = .ok (.if_icmp .eq 8, 3) := by decide +kernel
theorem dX8_readInto_68 : decode cX8_readInto 68 = .ok (.aload_n 0, 1) := by decide +kernel
theorem dX8_readInto_69 : decode cX8_readInto 69 = .ok (.getfield 38, 3) := by decide +kernel
theorem dX8_readInto_72 : decode cX8_readInto 72 = .ok (.ireturn, 1) := by decide +kernel
theorem dX8_readInto_73 : decode cX8_readInto 73 = .ok (.aload_n 0, 1) := by decide +kernel
theorem dX8_readInto_74 : decode cX8_readInto 74 = .ok (.dup, 1) := by decide +kernel
theorem dX8_readInto_75 : decode cX8_readInto 75 = .ok (.getfield 15, 3) := by decide +kernel
theorem dX8_readInto_78 : decode cX8_readInto 78 = .ok (.iconst 1, 1) := by decide +kernel
theorem dX8_readInto_79 : decode cX8_readInto 79 = .ok (.iadd, 1) := by decide +kernel
theorem dX8_readInto_80 : decode cX8_readInto 80 = .ok (.putfield 15, 3) := by decide +kernel
theorem dX8_readInto_83 : decode cX8_readInto 83 = .ok (.goto (-73), 3) := by decide +kernel
theorem dX8_readInto_86 : decode cX8_readInto 86 = .ok (.aload_n 0, 1) := by decide +kernel
theorem dX8_readInto_87 : decode cX8_readInto 87 = .ok (.getfield 38, 3) := by decide +kernel
theorem dX8_readInto_90 : decode cX8_readInto 90 = .ok (.ireturn, 1) := by decide +kernel
set_option maxRecDepth 20000 in
theorem ggX8_readLine_X8_readToken : GoodIn wsX8_readLine wsX8_readToken := goodIn_r _ [6, 7, 8, 9, 10, 1, 11, 12, 150, 151, 152, 153, 154, 155, 156, 157, 158, 159] (by decide +kernel) (by decide +kernel)
set_option maxRecDepth 20000 in
theorem gX8_readLine_X8_readToken : GoodIn wsX8_readLine (wsV RX8 41 RX8 yX8_readToken wsX8_readToken) := goodIn_app (goodIn_of _ (by decide +kernel)) ggX8_readLine_X8_readToken
set_option maxRecDepth 20000 in
theorem ggX8_readLine_X8_spells : GoodIn wsX8_readLine wsX8_spells := goodIn_r _ [16, 7, 10, 12, 17, 18, 19, 20, 21, 22, 23, 24, 25, 26, 27, 28, 29, 30, 31, 32, 33, 34, 35, 36, 37, 38, 39, 40, 41, 42, 43, 44, 45, 46, 47, 48, 49, 50, 51, 52, 53, 54, 55, 56, 57, 58, 59, 60, 61, 62, 63, 64, 65, 150, 151, 152, 153, 154, 155, 156, 157, 158, 159] (by decide +kernel) (by decide +kernel)
set_option maxRecDepth 20000 in
theorem gX8_readLine_X8_spells : GoodIn wsX8_readLine (wsV RX8 49 RX8 yX8_spells wsX8_spells) := goodIn_app (goodIn_of _ (by decide +kernel)) ggX8_readLine_X8_spells
set_option maxRecDepth 20000 in
theorem ggX8_readLine_X8_readTown : GoodIn wsX8_readLine wsX8_readTown := goodIn_r _ [69, 11, 70, 71, 72, 5, 73, 1, 7, 10, 2, 3, 4, 6, 8, 9, 12, 74, 75, 76, 77, 78, 79, 80, 81, 82, 83, 84, 85, 86, 87, 88, 150, 151, 152, 153, 154, 155, 156, 157, 158, 159, 160, 161, 162, 163, 164, 165, 166, 167, 168, 169, 170, 171, 172, 173, 174, 175] (by decide +kernel) (by decide +kernel)
set_option maxRecDepth 20000 in
theorem gX8_readLine_X8_readTown : GoodIn wsX8_readLine (wsV RX8 53 RX8 yX8_readTown wsX8_readTown) := goodIn_app (goodIn_of _ (by decide +kernel)) ggX8_readLine_X8_readTown
set_option maxRecDepth 20000 in
theorem ggX8_readLine_X8_readStreet : GoodIn wsX8_readLine wsX8_readStreet := goodIn_r _ [92, 93, 94, 95, 96, 11, 97, 98, 99, 5, 100, 101, 70, 71, 72, 73, 1, 7, 10, 2, 3, 4, 6, 8, 9, 12, 102, 103, 104, 105, 106, 107, 108, 109, 110, 111, 160, 161, 162, 163, 164, 165, 166, 167, 168, 169, 170, 171, 172, 173, 174, 175, 150, 151, 152, 153, 154, 155, 156, 157, 158, 159] (by decide +kernel) (by decide +kernel)
set_option maxRecDepth 20000 in
theorem gX8_readLine_X8_readStreet : GoodIn wsX8_readLine (wsV RX8 58 RX8 yX8_readStreet wsX8_readStreet) := goodIn_app (goodIn_of _ (by decide +kernel)) ggX8_readLine_X8_readStreet
set_option maxRecDepth 20000 in
theorem ggX8_readLine_X8_readPrice : GoodIn wsX8_readLine wsX8_readPrice := goodIn_r _ [115, 93, 94, 11, 116, 70, 71, 72, 5, 73, 1, 7, 10, 2, 3, 4, 6, 8, 9, 12, 160, 161, 162, 163, 164, 165, 166, 167, 168, 169, 170, 171, 172, 173, 174, 175, 150, 151, 152, 153, 154, 155, 156, 157, 158, 159] (by decide +kernel) (by decide +kernel)
set_option maxRecDepth 20000 in
theorem gX8_readLine_X8_readPrice : GoodIn wsX8_readLine (wsV RX8 63 RX8 yX8_readPrice wsX8_readPrice) := goodIn_app (goodIn_of _ (by decide +kernel)) ggX8_readLine_X8_readPrice
set_option maxRecDepth 20000 in
theorem ggX8_readLine_X8_readEnds : GoodIn wsX8_readLine wsX8_readEnds := goodIn_r _ [120, 95, 121, 96, 122, 97, 98, 99, 5, 100, 101, 11, 70, 71, 72, 73, 1, 7, 10, 2, 3, 4, 6, 8, 9, 12, 150, 151, 152, 153, 154, 155, 156, 157, 158, 159, 160, 161, 162, 163, 164, 165, 166, 167, 168, 169, 170] (by decide +kernel) (by decide +kernel)
set_option maxRecDepth 20000 in
theorem gX8_readLine_X8_readEnds : GoodIn wsX8_readLine (wsV RX8 68 RX8 yX8_readEnds wsX8_readEnds) := goodIn_app (goodIn_of _ (by decide +kernel)) ggX8_readLine_X8_readEnds
set_option maxRecDepth 20000 in
theorem ggX8_readLine_X8_readOddEnds : GoodIn wsX8_readLine wsX8_readOddEnds := goodIn_r _ [126, 127, 95, 128, 96, 129, 97, 98, 99, 5, 100, 101, 11, 70, 71, 72, 73, 1, 7, 10, 2, 3, 4, 6, 8, 9, 12, 160, 161, 162, 163, 164, 165, 166, 167, 168, 169, 170, 150, 151, 152, 153, 154, 155, 156, 157, 158, 159] (by decide +kernel) (by decide +kernel)
set_option maxRecDepth 20000 in
theorem gX8_readLine_X8_readOddEnds : GoodIn wsX8_readLine (wsV RX8 73 RX8 yX8_readOddEnds wsX8_readOddEnds) := goodIn_app (goodIn_of _ (by decide +kernel)) ggX8_readLine_X8_readOddEnds
set_option maxRecDepth 20000 in
theorem ggX8_readLine_X8_readLane : GoodIn wsX8_readLine wsX8_readLane := goodIn_r _ [133, 134, 94, 11, 95, 96, 97, 98, 99, 5, 100, 101, 70, 71, 72, 73, 1, 7, 10, 2, 3, 4, 6, 8, 9, 12, 102, 103, 104, 105, 106, 107, 108, 109, 110, 111, 160, 161, 162, 163, 164, 165, 166, 167, 168, 169, 170, 171, 172, 173, 174, 175, 150, 151, 152, 153, 154, 155, 156, 157, 158, 159] (by decide +kernel) (by decide +kernel)
set_option maxRecDepth 20000 in
theorem gX8_readLine_X8_readLane : GoodIn wsX8_readLine (wsV RX8 78 RX8 yX8_readLane wsX8_readLane) := goodIn_app (goodIn_of _ (by decide +kernel)) ggX8_readLine_X8_readLane
set_option maxRecDepth 20000 in
theorem ggX8_readLine_X8_readCart : GoodIn wsX8_readLine wsX8_readCart := goodIn_r _ [138, 11, 139, 70, 71, 72, 5, 73, 1, 7, 10, 2, 3, 4, 6, 8, 9, 12, 150, 151, 152, 153, 154, 155, 156, 157, 158, 159, 160, 161, 162, 163, 164, 165, 166, 167, 168, 169, 170] (by decide +kernel) (by decide +kernel)
set_option maxRecDepth 20000 in
theorem gX8_readLine_X8_readCart : GoodIn wsX8_readLine (wsV RX8 83 RX8 yX8_readCart wsX8_readCart) := goodIn_app (goodIn_of _ (by decide +kernel)) ggX8_readLine_X8_readCart
set_option maxRecDepth 20000 in
theorem ggX8_readLine_X8_kindSpelt : GoodIn wsX8_readLine wsX8_kindSpelt := goodIn_r _ [143, 13, 14, 15, 5, 16, 7, 10, 12, 17, 18, 19, 20, 21, 22, 23, 24, 25, 26, 27, 28, 29, 30, 31, 32, 33, 34, 35, 36, 37, 38, 39, 40, 41, 42, 43, 44, 45, 46, 47, 48, 49, 50, 51, 52, 53, 54, 55, 56, 57, 58, 59, 60, 61, 62, 63, 64, 65, 150, 151, 152, 153, 154, 155, 156, 157, 158, 159] (by decide +kernel) (by decide +kernel)
set_option maxRecDepth 20000 in
theorem gX8_readLine_X8_kindSpelt : GoodIn wsX8_readLine (wsV RX8 86 RX8 yX8_kindSpelt wsX8_kindSpelt) := goodIn_app (goodIn_of _ (by decide +kernel)) ggX8_readLine_X8_kindSpelt
set_option maxRecDepth 20000 in
theorem ggX8_readLine_X8_readCouncil : GoodIn wsX8_readLine wsX8_readCouncil := goodIn_r _ [147, 148, 11, 149, 70, 71, 72, 5, 73, 1, 7, 10, 2, 3, 4, 6, 8, 9, 12, 160, 161, 162, 163, 164, 165, 166, 167, 168, 169, 170, 150, 151, 152, 153, 154, 155, 156, 157, 158, 159] (by decide +kernel) (by decide +kernel)
set_option maxRecDepth 20000 in
theorem gX8_readLine_X8_readCouncil : GoodIn wsX8_readLine (wsV RX8 90 RX8 yX8_readCouncil wsX8_readCouncil) := goodIn_app (goodIn_of _ (by decide +kernel)) ggX8_readLine_X8_readCouncil
theorem dX8_readLine_0 : decode cX8_readLine 0 = .ok (.aload_n 0, 1) := by decide +kernel
theorem dX8_readLine_1 : decode cX8_readLine 1 = .ok (.invokevirtual 41, 3) := by decide +kernel
theorem dX8_readLine_4 : decode cX8_readLine 4 = .ok (.aload_n 0, 1) := by decide +kernel
theorem dX8_readLine_5 : decode cX8_readLine 5 = .ok (.getfield 44, 3) := by decide +kernel
theorem dX8_readLine_8 : decode cX8_readLine 8 = .ok (.ifCond .eq 5, 3) := by decide +kernel
theorem dX8_readLine_11 : decode cX8_readLine 11 = .ok (.iconst 0, 1) := by decide +kernel
theorem dX8_readLine_12 : decode cX8_readLine 12 = .ok (.ireturn, 1) := by decide +kernel
theorem dX8_readLine_13 : decode cX8_readLine 13 = .ok (.aload_n 0, 1) := by decide +kernel
theorem dX8_readLine_14 : decode cX8_readLine 14 = .ok (.ldc 47, 2) := by decide +kernel
theorem dX8_readLine_16 : decode cX8_readLine 16 = .ok (.invokevirtual 49, 3) := by decide +kernel
theorem dX8_readLine_19 : decode cX8_readLine 19 = .ok (.ifCond .eq 9, 3) := by decide +kernel
theorem dX8_readLine_22 : decode cX8_readLine 22 = .ok (.aload_n 0, 1) := by decide +kernel
theorem dX8_readLine_23 : decode cX8_readLine 23 = .ok (.aload_n 1, 1) := by decide +kernel
theorem dX8_readLine_24 : decode cX8_readLine 24 = .ok (.invokevirtual 53, 3) := by decide +kernel
theorem dX8_readLine_27 : decode cX8_readLine 27 = .ok (.ireturn, 1) := by decide +kernel
theorem dX8_readLine_28 : decode cX8_readLine 28 = .ok (.aload_n 0, 1) := by decide +kernel
theorem dX8_readLine_29 : decode cX8_readLine 29 = .ok (.ldc 56, 2) := by decide +kernel
theorem dX8_readLine_31 : decode cX8_readLine 31 = .ok (.invokevirtual 49, 3) := by decide +kernel
theorem dX8_readLine_34 : decode cX8_readLine 34 = .ok (.ifCond .eq 9, 3) := by decide +kernel
theorem dX8_readLine_37 : decode cX8_readLine 37 = .ok (.aload_n 0, 1) := by decide +kernel
theorem dX8_readLine_38 : decode cX8_readLine 38 = .ok (.aload_n 1, 1) := by decide +kernel
theorem dX8_readLine_39 : decode cX8_readLine 39 = .ok (.invokevirtual 58, 3) := by decide +kernel
theorem dX8_readLine_42 : decode cX8_readLine 42 = .ok (.ireturn, 1) := by decide +kernel
theorem dX8_readLine_43 : decode cX8_readLine 43 = .ok (.aload_n 0, 1) := by decide +kernel
theorem dX8_readLine_44 : decode cX8_readLine 44 = .ok (.ldc 61, 2) := by decide +kernel
theorem dX8_readLine_46 : decode cX8_readLine 46 = .ok (.invokevirtual 49, 3) := by decide +kernel
theorem dX8_readLine_49 : decode cX8_readLine 49 = .ok (.ifCond .eq 9, 3) := by decide +kernel
theorem dX8_readLine_52 : decode cX8_readLine 52 = .ok (.aload_n 0, 1) := by decide +kernel
theorem dX8_readLine_53 : decode cX8_readLine 53 = .ok (.aload_n 1, 1) := by decide +kernel
theorem dX8_readLine_54 : decode cX8_readLine 54 = .ok (.invokevirtual 63, 3) := by decide +kernel
theorem dX8_readLine_57 : decode cX8_readLine 57 = .ok (.ireturn, 1) := by decide +kernel
theorem dX8_readLine_58 : decode cX8_readLine 58 = .ok (.aload_n 0, 1) := by decide +kernel
theorem dX8_readLine_59 : decode cX8_readLine 59 = .ok (.ldc 66, 2) := by decide +kernel
theorem dX8_readLine_61 : decode cX8_readLine 61 = .ok (.invokevirtual 49, 3) := by decide +kernel
theorem dX8_readLine_64 : decode cX8_readLine 64 = .ok (.ifCond .eq 9, 3) := by decide +kernel
theorem dX8_readLine_67 : decode cX8_readLine 67 = .ok (.aload_n 0, 1) := by decide +kernel
theorem dX8_readLine_68 : decode cX8_readLine 68 = .ok (.aload_n 1, 1) := by decide +kernel
theorem dX8_readLine_69 : decode cX8_readLine 69 = .ok (.invokevirtual 68, 3) := by decide +kernel
theorem dX8_readLine_72 : decode cX8_readLine 72 = .ok (.ireturn, 1) := by decide +kernel
theorem dX8_readLine_73 : decode cX8_readLine 73 = .ok (.aload_n 0, 1) := by decide +kernel
theorem dX8_readLine_74 : decode cX8_readLine 74 = .ok (.ldc 71, 2) := by decide +kernel
theorem dX8_readLine_76 : decode cX8_readLine 76 = .ok (.invokevirtual 49, 3) := by decide +kernel
theorem dX8_readLine_79 : decode cX8_readLine 79 = .ok (.ifCond .eq 9, 3) := by decide +kernel
theorem dX8_readLine_82 : decode cX8_readLine 82 = .ok (.aload_n 0, 1) := by decide +kernel
theorem dX8_readLine_83 : decode cX8_readLine 83 = .ok (.aload_n 1, 1) := by decide +kernel
theorem dX8_readLine_84 : decode cX8_readLine 84 = .ok (.invokevirtual 73, 3) := by decide +kernel
theorem dX8_readLine_87 : decode cX8_readLine 87 = .ok (.ireturn, 1) := by decide +kernel
theorem dX8_readLine_88 : decode cX8_readLine 88 = .ok (.aload_n 0, 1) := by decide +kernel
theorem dX8_readLine_89 : decode cX8_readLine 89 = .ok (.ldc 76, 2) := by decide +kernel
theorem dX8_readLine_91 : decode cX8_readLine 91 = .ok (.invokevirtual 49, 3) := by decide +kernel
theorem dX8_readLine_94 : decode cX8_readLine 94 = .ok (.ifCond .eq 9, 3) := by decide +kernel
theorem dX8_readLine_97 : decode cX8_readLine 97 = .ok (.aload_n 0, 1) := by decide +kernel
theorem dX8_readLine_98 : decode cX8_readLine 98 = .ok (.aload_n 1, 1) := by decide +kernel
theorem dX8_readLine_99 : decode cX8_readLine 99 = .ok (.invokevirtual 78, 3) := by decide +kernel
theorem dX8_readLine_102 : decode cX8_readLine 102 = .ok (.ireturn, 1) := by decide +kernel
theorem dX8_readLine_103 : decode cX8_readLine 103 = .ok (.aload_n 0, 1) := by decide +kernel
theorem dX8_readLine_104 : decode cX8_readLine 104 = .ok (.ldc 81, 2) := by decide +kernel
theorem dX8_readLine_106 : decode cX8_readLine 106 = .ok (.invokevirtual 49, 3) := by decide +kernel
theorem dX8_readLine_109 : decode cX8_readLine 109 = .ok (.ifCond .eq 9, 3) := by decide +kernel
theorem dX8_readLine_112 : decode cX8_readLine 112 = .ok (.aload_n 0, 1) := by decide +kernel
theorem dX8_readLine_113 : decode cX8_readLine 113 = .ok (.aload_n 1, 1) := by decide +kernel
theorem dX8_readLine_114 : decode cX8_readLine 114 = .ok (.invokevirtual 83, 3) := by decide +kernel
theorem dX8_readLine_117 : decode cX8_readLine 117 = .ok (.ireturn, 1) := by decide +kernel
theorem dX8_readLine_118 : decode cX8_readLine 118 = .ok (.aload_n 0, 1) := by decide +kernel
theorem dX8_readLine_119 : decode cX8_readLine 119 = .ok (.aload_n 1, 1) := by decide +kernel
theorem dX8_readLine_120 : decode cX8_readLine 120 = .ok (.aload_n 0, 1) := by decide +kernel
theorem dX8_readLine_121 : decode cX8_readLine 121 = .ok (.invokevirtual 86, 3) := by decide +kernel
theorem dX8_readLine_124 : decode cX8_readLine 124 = .ok (.invokevirtual 90, 3) := by decide +kernel
theorem dX8_readLine_127 : decode cX8_readLine 127 = .ok (.ireturn, 1) := by decide +kernel
set_option maxRecDepth 20000 in
theorem ggX8_readTown_X8_readNumber : GoodIn wsX8_readTown wsX8_readNumber := goodIn_r _ [6, 7, 8, 9, 1, 10, 11, 12, 5, 13, 14, 15, 16, 32, 33, 34, 35, 36, 37, 38, 39, 40, 41] (by decide +kernel) (by decide +kernel)
set_option maxRecDepth 20000 in
theorem gX8_readTown_X8_readNumber : GoodIn wsX8_readTown (wsV RX8 94 RX8 yX8_readNumber wsX8_readNumber) := goodIn_app (goodIn_of _ (by decide +kernel)) ggX8_readTown_X8_readNumber
set_option maxRecDepth 20000 in
theorem ggX8_readTown_X6_begin : GoodIn wsX8_readTown wsX6_begin := goodIn_r _ [21, 22, 23, 24, 25, 26, 27, 28, 29, 30, 31, 42, 43, 44, 45, 46, 47, 48, 49, 50, 51, 52, 53, 54, 55, 56, 57] (by decide +kernel) (by decide +kernel)
set_option maxRecDepth 20000 in
theorem gX8_readTown_X6_begin : GoodIn wsX8_readTown (wsV RX8 101 RX6 yX6_begin wsX6_begin) := goodIn_app (goodIn_of _ (by decide +kernel)) ggX8_readTown_X6_begin
theorem dX8_readTown_0 : decode cX8_readTown 0 = .ok (.aload_n 0, 1) := by decide +kernel
theorem dX8_readTown_1 : decode cX8_readTown 1 = .ok (.iconst 2, 1) := by decide +kernel
theorem dX8_readTown_2 : decode cX8_readTown 2 = .ok (.bipush 8, 2) := by decide +kernel
theorem dX8_readTown_4 : decode cX8_readTown 4 = .ok (.invokevirtual 94, 3) := by decide +kernel
theorem dX8_readTown_7 : decode cX8_readTown 7 = .ok (.ifCond .ne 5, 3) := by decide +kernel
theorem dX8_readTown_10 : decode cX8_readTown 10 = .ok (.iconst 0, 1) := by decide +kernel
theorem dX8_readTown_11 : decode cX8_readTown 11 = .ok (.ireturn, 1) := by decide +kernel
theorem dX8_readTown_12 : decode cX8_readTown 12 = .ok (.aload_n 1, 1) := by decide +kernel
theorem dX8_readTown_13 : decode cX8_readTown 13 = .ok (.aload_n 0, 1) := by decide +kernel
theorem dX8_readTown_14 : decode cX8_readTown 14 = .ok (.getfield 98, 3) := by decide +kernel
theorem dX8_readTown_17 : decode cX8_readTown 17 = .ok (.invokevirtual 101, 3) := by decide +kernel
theorem dX8_readTown_20 : decode cX8_readTown 20 = .ok (.iconst 1, 1) := by decide +kernel
theorem dX8_readTown_21 : decode cX8_readTown 21 = .ok (.ireturn, 1) := by decide +kernel
set_option maxRecDepth 20000 in
theorem ggX8_readStreet_X8_readCorners : GoodIn wsX8_readStreet wsX8_readCorners := goodIn_r _ [10, 11, 5, 3, 4, 12, 13, 14, 9, 15, 16, 17, 18, 19, 20, 21, 22, 23, 24, 25, 36, 37, 38, 39, 40, 41, 42, 43, 44, 45, 46, 52, 53, 54, 55, 56, 57, 58, 59, 60, 61] (by decide +kernel) (by decide +kernel)
set_option maxRecDepth 20000 in
theorem gX8_readStreet_X8_readCorners : GoodIn wsX8_readStreet (wsV RX8 116 RX8 yX8_readCorners wsX8_readCorners) := goodIn_app (goodIn_of _ (by decide +kernel)) ggX8_readStreet_X8_readCorners
set_option maxRecDepth 20000 in
theorem ggX8_readStreet_X8_readNumber : GoodIn wsX8_readStreet wsX8_readNumber := goodIn_r _ [15, 16, 17, 18, 5, 19, 20, 21, 9, 22, 23, 24, 25, 52, 53, 54, 55, 56, 57, 58, 59, 60, 61] (by decide +kernel) (by decide +kernel)
set_option maxRecDepth 20000 in
theorem gX8_readStreet_X8_readNumber : GoodIn wsX8_readStreet (wsV RX8 94 RX8 yX8_readNumber wsX8_readNumber) := goodIn_app (goodIn_of _ (by decide +kernel)) ggX8_readStreet_X8_readNumber
set_option maxRecDepth 20000 in
theorem ggX8_readStreet_X7_add : GoodIn wsX8_readStreet wsX7_add := goodIn_r _ [30, 31, 32, 33, 34, 35, 47, 48, 49, 50, 51] (by decide +kernel) (by decide +kernel)
set_option maxRecDepth 20000 in
theorem gX8_readStreet_X7_add : GoodIn wsX8_readStreet (wsV RX8 125 RX7 yX7_add wsX7_add) := goodIn_app (goodIn_of _ (by decide +kernel)) ggX8_readStreet_X7_add
theorem dX8_readStreet_0 : decode cX8_readStreet 0 = .ok (.aload_n 1, 1) := by decide +kernel
theorem dX8_readStreet_1 : decode cX8_readStreet 1 = .ok (.getfield 107, 3) := by decide +kernel
theorem dX8_readStreet_4 : decode cX8_readStreet 4 = .ok (.getfield 111, 3) := by decide +kernel
theorem dX8_readStreet_7 : decode cX8_readStreet 7 = .ok (.bipush 12, 2) := by decide +kernel
theorem dX8_readStreet_9 : decode cX8_readStreet 9 = .ok (.if_icmp .ge 21, 3) := by decide +kernel
theorem dX8_readStreet_12 : decode cX8_readStreet 12 = .ok (.aload_n 0, 1) := by decide +kernel
theorem dX8_readStreet_13 : decode cX8_readStreet 13 = .ok (.aload_n 1, 1) := by decide +kernel
theorem dX8_readStreet_14 : decode cX8_readStreet 14 = .ok (.invokevirtual 116, 3) := by decide +kernel
theorem dX8_readStreet_17 : decode cX8_readStreet 17 = .ok (.ifCond .eq 13, 3) := by decide +kernel
theorem dX8_readStreet_20 : decode cX8_readStreet 20 = .ok (.aload_n 0, 1) := by decide +kernel
theorem dX8_readStreet_21 : decode cX8_readStreet 21 = .ok (.iconst 1, 1) := by decide +kernel
theorem dX8_readStreet_22 : decode cX8_readStreet 22 = .ok (.bipush 99, 2) := by decide +kernel
theorem dX8_readStreet_24 : decode cX8_readStreet 24 = .ok (.invokevirtual 94, 3) := by decide +kernel
theorem dX8_readStreet_27 : decode cX8_readStreet 27 = .ok (.ifCond .ne 5, 3) := by decide +kernel
theorem dX8_readStreet_30 : decode cX8_readStreet 30 = .ok (.iconst 0, 1) := by decide +kernel
theorem dX8_readStreet_31 : decode cX8_readStreet 31 = .ok (.ireturn, 1) := by decide +kernel
theorem dX8_readStreet_32 : decode cX8_readStreet 32 = .ok (.aload_n 1, 1) := by decide +kernel
theorem dX8_readStreet_33 : decode cX8_readStreet 33 = .ok (.getfield 107, 3) := by decide +kernel
theorem dX8_readStreet_36 : decode cX8_readStreet 36 = .ok (.aload_n 0, 1) := by decide +kernel
theorem dX8_readStreet_37 : decode cX8_readStreet 37 = .ok (.getfield 119, 3) := by decide +kernel
theorem dX8_readStreet_40 : decode cX8_readStreet 40 = .ok (.aload_n 0, 1) := by decide +kernel
theorem dX8_readStreet_41 : decode cX8_readStreet 41 = .ok (.getfield 122, 3) := by decide +kernel
theorem dX8_readStreet_44 : decode cX8_readStreet 44 = .ok (.aload_n 0, 1) := by decide +kernel
theorem dX8_readStreet_45 : decode cX8_readStreet 45 = .ok (.getfield 98, 3) := by decide +kernel
theorem dX8_readStreet_48 : decode cX8_readStreet 48 = .ok (.iconst 1, 1) := by decide +kernel
theorem dX8_readStreet_49 : decode cX8_readStreet 49 = .ok (.invokevirtual 125, 3) := by decide +kernel
theorem dX8_readStreet_52 : decode cX8_readStreet 52 = .ok (.iconst 1, 1) := by decide +kernel
theorem dX8_readStreet_53 : decode cX8_readStreet 53 = .ok (.ireturn, 1) := by decide +kernel
set_option maxRecDepth 20000 in
theorem ggX8_readPrice_X8_readNumber : GoodIn wsX8_readPrice wsX8_readNumber := goodIn_r _ [9, 10, 11, 12, 3, 13, 14, 15, 8, 16, 17, 18, 19, 36, 37, 38, 39, 40, 41, 42, 43, 44, 45] (by decide +kernel) (by decide +kernel)
set_option maxRecDepth 20000 in
theorem gX8_readPrice_X8_readNumber : GoodIn wsX8_readPrice (wsV RX8 94 RX8 yX8_readNumber wsX8_readNumber) := goodIn_app (goodIn_of _ (by decide +kernel)) ggX8_readPrice_X8_readNumber
theorem dX8_readPrice_0 : decode cX8_readPrice 0 = .ok (.aload_n 0, 1) := by decide +kernel
theorem dX8_readPrice_1 : decode cX8_readPrice 1 = .ok (.iconst 0, 1) := by decide +kernel
theorem dX8_readPrice_2 : decode cX8_readPrice 2 = .ok (.aload_n 1, 1) := by decide +kernel
theorem dX8_readPrice_3 : decode cX8_readPrice 3 = .ok (.getfield 107, 3) := by decide +kernel
theorem dX8_readPrice_6 : decode cX8_readPrice 6 = .ok (.getfield 111, 3) := by decide +kernel
theorem dX8_readPrice_9 : decode cX8_readPrice 9 = .ok (.iconst 1, 1) := by decide +kernel
theorem dX8_readPrice_10 : decode cX8_readPrice 10 = .ok (.isub, 1) := by decide +kernel
theorem dX8_readPrice_11 : decode cX8_readPrice 11 = .ok (.invokevirtual 94, 3) := by decide +kernel
theorem dX8_readPrice_14 : decode cX8_readPrice 14 = .ok (.ifCond .ne 5, 3) := by decide +kernel
theorem dX8_readPrice_17 : decode cX8_readPrice 17 = .ok (.iconst 0, 1) := by decide +kernel
theorem dX8_readPrice_18 : decode cX8_readPrice 18 = .ok (.ireturn, 1) := by decide +kernel
theorem dX8_readPrice_19 : decode cX8_readPrice 19 = .ok (.aload_n 0, 1) := by decide +kernel
theorem dX8_readPrice_20 : decode cX8_readPrice 20 = .ok (.getfield 98, 3) := by decide +kernel
theorem dX8_readPrice_23 : decode cX8_readPrice 23 = .ok (.istore_n 2, 1) := by decide +kernel
theorem dX8_readPrice_24 : decode cX8_readPrice 24 = .ok (.aload_n 0, 1) := by decide +kernel
theorem dX8_readPrice_25 : decode cX8_readPrice 25 = .ok (.iconst 0, 1) := by decide +kernel
theorem dX8_readPrice_26 : decode cX8_readPrice 26 = .ok (.bipush 99, 2) := by decide +kernel
theorem dX8_readPrice_28 : decode cX8_readPrice 28 = .ok (.invokevirtual 94, 3) := by decide +kernel
theorem dX8_readPrice_31 : decode cX8_readPrice 31 = .ok (.ifCond .ne 5, 3) := by decide +kernel
theorem dX8_readPrice_34 : decode cX8_readPrice 34 = .ok (.iconst 0, 1) := by decide +kernel
theorem dX8_readPrice_35 : decode cX8_readPrice 35 = .ok (.ireturn, 1) := by decide +kernel
theorem dX8_readPrice_36 : decode cX8_readPrice 36 = .ok (.aload_n 1, 1) := by decide +kernel
theorem dX8_readPrice_37 : decode cX8_readPrice 37 = .ok (.getfield 107, 3) := by decide +kernel
theorem dX8_readPrice_40 : decode cX8_readPrice 40 = .ok (.getfield 129, 3) := by decide +kernel
theorem dX8_readPrice_43 : decode cX8_readPrice 43 = .ok (.iload_n 2, 1) := by decide +kernel
theorem dX8_readPrice_44 : decode cX8_readPrice 44 = .ok (.aload_n 0, 1) := by decide +kernel
theorem dX8_readPrice_45 : decode cX8_readPrice 45 = .ok (.getfield 98, 3) := by decide +kernel
theorem dX8_readPrice_48 : decode cX8_readPrice 48 = .ok (.iastore, 1) := by decide +kernel
theorem dX8_readPrice_49 : decode cX8_readPrice 49 = .ok (.iconst 1, 1) := by decide +kernel
theorem dX8_readPrice_50 : decode cX8_readPrice 50 = .ok (.ireturn, 1) := by decide +kernel
set_option maxRecDepth 20000 in
theorem ggX8_readEnds_X8_readCorners : GoodIn wsX8_readEnds wsX8_readCorners := goodIn_r _ [9, 10, 11, 1, 3, 12, 13, 14, 8, 15, 16, 17, 18, 19, 20, 21, 22, 23, 24, 25, 36, 37, 38, 39, 40, 41, 42, 43, 44, 45, 46, 26, 27, 28, 29, 30, 31, 32, 33, 34, 35] (by decide +kernel) (by decide +kernel)
set_option maxRecDepth 20000 in
theorem gX8_readEnds_X8_readCorners : GoodIn wsX8_readEnds (wsV RX8 116 RX8 yX8_readCorners wsX8_readCorners) := goodIn_app (goodIn_of _ (by decide +kernel)) ggX8_readEnds_X8_readCorners
theorem dX8_readEnds_0 : decode cX8_readEnds 0 = .ok (.aload_n 0, 1) := by decide +kernel
theorem dX8_readEnds_1 : decode cX8_readEnds 1 = .ok (.aload_n 1, 1) := by decide +kernel
theorem dX8_readEnds_2 : decode cX8_readEnds 2 = .ok (.invokevirtual 116, 3) := by decide +kernel
theorem dX8_readEnds_5 : decode cX8_readEnds 5 = .ok (.ifCond .ne 5, 3) := by decide +kernel
theorem dX8_readEnds_8 : decode cX8_readEnds 8 = .ok (.iconst 0, 1) := by decide +kernel
theorem dX8_readEnds_9 : decode cX8_readEnds 9 = .ok (.ireturn, 1) := by decide +kernel
theorem dX8_readEnds_10 : decode cX8_readEnds 10 = .ok (.aload_n 1, 1) := by decide +kernel
theorem dX8_readEnds_11 : decode cX8_readEnds 11 = .ok (.aload_n 0, 1) := by decide +kernel
theorem dX8_readEnds_12 : decode cX8_readEnds 12 = .ok (.getfield 119, 3) := by decide +kernel
theorem dX8_readEnds_15 : decode cX8_readEnds 15 = .ok (.putfield 132, 3) := by decide +kernel
theorem dX8_readEnds_18 : decode cX8_readEnds 18 = .ok (.aload_n 1, 1) := by decide +kernel
theorem dX8_readEnds_19 : decode cX8_readEnds 19 = .ok (.aload_n 0, 1) := by decide +kernel
theorem dX8_readEnds_20 : decode cX8_readEnds 20 = .ok (.getfield 122, 3) := by decide +kernel
theorem dX8_readEnds_23 : decode cX8_readEnds 23 = .ok (.putfield 135, 3) := by decide +kernel
theorem dX8_readEnds_26 : decode cX8_readEnds 26 = .ok (.iconst 1, 1) := by decide +kernel
theorem dX8_readEnds_27 : decode cX8_readEnds 27 = .ok (.ireturn, 1) := by decide +kernel
set_option maxRecDepth 20000 in
theorem ggX8_readOddEnds_X8_readCorners : GoodIn wsX8_readOddEnds wsX8_readCorners := goodIn_r _ [10, 11, 12, 2, 4, 13, 14, 15, 9, 16, 17, 18, 19, 20, 21, 22, 23, 24, 25, 26, 27, 28, 29, 30, 31, 32, 33, 34, 35, 36, 37, 38, 39, 40, 41, 42, 43, 44, 45, 46, 47] (by decide +kernel) (by decide +kernel)
set_option maxRecDepth 20000 in
theorem gX8_readOddEnds_X8_readCorners : GoodIn wsX8_readOddEnds (wsV RX8 116 RX8 yX8_readCorners wsX8_readCorners) := goodIn_app (goodIn_of _ (by decide +kernel)) ggX8_readOddEnds_X8_readCorners
theorem dX8_readOddEnds_0 : decode cX8_readOddEnds 0 = .ok (.aload_n 0, 1) := by decide +kernel
theorem dX8_readOddEnds_1 : decode cX8_readOddEnds 1 = .ok (.aload_n 1, 1) := by decide +kernel
theorem dX8_readOddEnds_2 : decode cX8_readOddEnds 2 = .ok (.invokevirtual 116, 3) := by decide +kernel
theorem dX8_readOddEnds_5 : decode cX8_readOddEnds 5 = .ok (.ifCond .ne 5, 3) := by decide +kernel
theorem dX8_readOddEnds_8 : decode cX8_readOddEnds 8 = .ok (.iconst 0, 1) := by decide +kernel
theorem dX8_readOddEnds_9 : decode cX8_readOddEnds 9 = .ok (.ireturn, 1) := by decide +kernel
theorem dX8_readOddEnds_10 : decode cX8_readOddEnds 10 = .ok (.aload_n 1, 1) := by decide +kernel
theorem dX8_readOddEnds_11 : decode cX8_readOddEnds 11 = .ok (.iconst 1, 1) := by decide +kernel
theorem dX8_readOddEnds_12 : decode cX8_readOddEnds 12 = .ok (.putfield 138, 3) := by decide +kernel
theorem dX8_readOddEnds_15 : decode cX8_readOddEnds 15 = .ok (.aload_n 1, 1) := by decide +kernel
theorem dX8_readOddEnds_16 : decode cX8_readOddEnds 16 = .ok (.aload_n 0, 1) := by decide +kernel
theorem dX8_readOddEnds_17 : decode cX8_readOddEnds 17 = .ok (.getfield 119, 3) := by decide +kernel
theorem dX8_readOddEnds_20 : decode cX8_readOddEnds 20 = .ok (.putfield 142, 3) := by decide +kernel
theorem dX8_readOddEnds_23 : decode cX8_readOddEnds 23 = .ok (.aload_n 1, 1) := by decide +kernel
theorem dX8_readOddEnds_24 : decode cX8_readOddEnds 24 = .ok (.aload_n 0, 1) := by decide +kernel
theorem dX8_readOddEnds_25 : decode cX8_readOddEnds 25 = .ok (.getfield 122, 3) := by decide +kernel
