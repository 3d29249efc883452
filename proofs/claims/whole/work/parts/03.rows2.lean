theorem dX11_town_48 : decode cX11_town 48 = .ok (.getfield 29, 3) := by decide +kernel
theorem dX11_town_51 : decode cX11_town 51 = .ok (.invokevirtual 109, 3) := by decide +kernel
theorem dX11_town_54 : decode cX11_town 54 = .ok (.iconst 0, 1) := by decide +kernel
theorem dX11_town_55 : decode cX11_town 55 = .ok (.istore_n 2, 1) := by decide +kernel
theorem dX11_town_56 : decode cX11_town 56 = .ok (.iload_n 2, 1) := by decide +kernel
theorem dX11_town_57 : decode cX11_town 57 = .ok (.aload_n 0, 1) := by decide +kernel
theorem dX11_town_58 : decode cX11_town 58 = .ok (.getfield 40, 3) := by decide +kernel
theorem dX11_town_61 : decode cX11_town 61 = .ok (.arraylength, 1) := by decide +kernel
theorem dX11_town_62 : decode cX11_town 62 = .ok (.if_icmp .ge 16, 3) := by decide +kernel
theorem dX11_town_65 : decode cX11_town 65 = .ok (.aload_n 0, 1) := by decide +kernel
theorem dX11_town_66 : decode cX11_town 66 = .ok (.getfield 40, 3) := by decide +kernel
theorem dX11_town_69 : decode cX11_town 69 = .ok (.iload_n 2, 1) := by decide +kernel
theorem dX11_town_70 : decode cX11_town 70 = .ok (.iconst 0, 1) := by decide +kernel
theorem dX11_town_71 : decode cX11_town 71 = .ok (.bastore, 1) := by decide +kernel
theorem dX11_town_72 : decode cX11_town 72 = .ok (.iinc 2 1, 3) := by decide +kernel
theorem dX11_town_75 : decode cX11_town 75 = .ok (.goto (-19), 3) := by decide +kernel
theorem dX11_town_78 : decode cX11_town 78 = .ok (.aload_n 0, 1) := by decide +kernel
theorem dX11_town_79 : decode cX11_town 79 = .ok (.iconst 0, 1) := by decide +kernel
theorem dX11_town_80 : decode cX11_town 80 = .ok (.putfield 76, 3) := by decide +kernel
theorem dX11_town_83 : decode cX11_town 83 = .ok (.aload_n 0, 1) := by decide +kernel
theorem dX11_town_84 : decode cX11_town 84 = .ok (.getfield 12, 3) := by decide +kernel
theorem dX11_town_87 : decode cX11_town 87 = .ok (.iconst 0, 1) := by decide +kernel
theorem dX11_town_88 : decode cX11_town 88 = .ok (.putfield 98, 3) := by decide +kernel
theorem dX11_town_91 : decode cX11_town 91 = .ok (.aload_n 0, 1) := by decide +kernel
theorem dX11_town_92 : decode cX11_town 92 = .ok (.getfield 12, 3) := by decide +kernel
theorem dX11_town_95 : decode cX11_town 95 = .ok (.getfield 112, 3) := by decide +kernel
theorem dX11_town_98 : decode cX11_town 98 = .ok (.ireturn, 1) := by decide +kernel
set_option maxRecDepth 20000 in
theorem ggX11_street_X7_has : GoodIn wsX11_street wsX7_has := goodIn_r _ [9, 10, 46, 47, 48, 49, 50] (by decide +kernel) (by decide +kernel)
set_option maxRecDepth 20000 in
theorem gX11_street_X7_has : GoodIn wsX11_street (wsV RX11 119 RX7 yX7_has wsX7_has) := goodIn_app (goodIn_of _ (by decide +kernel)) ggX11_street_X7_has
set_option maxRecDepth 20000 in
theorem ggX11_street_X7_tell : GoodIn wsX11_street wsX7_tell := goodIn_r _ [14, 15, 16, 17, 18, 46, 47, 48, 49, 50] (by decide +kernel) (by decide +kernel)
set_option maxRecDepth 20000 in
theorem gX11_street_X7_tell : GoodIn wsX11_street (wsV RX11 128 RX7 yX7_tell wsX7_tell) := goodIn_app (goodIn_of _ (by decide +kernel)) ggX11_street_X7_tell
theorem dX11_street_0 : decode cX11_street 0 = .ok (.aload_n 0, 1) := by decide +kernel
theorem dX11_street_1 : decode cX11_street 1 = .ok (.getfield 19, 3) := by decide +kernel
theorem dX11_street_4 : decode cX11_street 4 = .ok (.getfield 115, 3) := by decide +kernel
theorem dX11_street_7 : decode cX11_street 7 = .ok (.iload_n 1, 1) := by decide +kernel
theorem dX11_street_8 : decode cX11_street 8 = .ok (.invokevirtual 119, 3) := by decide +kernel
theorem dX11_street_11 : decode cX11_street 11 = .ok (.ifCond .ne 6, 3) := by decide +kernel
theorem dX11_street_14 : decode cX11_street 14 = .ok (.bipush (-2), 2) := by decide +kernel
theorem dX11_street_16 : decode cX11_street 16 = .ok (.ireturn, 1) := by decide +kernel
theorem dX11_street_17 : decode cX11_street 17 = .ok (.iload_n 2, 1) := by decide +kernel
theorem dX11_street_18 : decode cX11_street 18 = .ok (.iconst 4, 1) := by decide +kernel
theorem dX11_street_19 : decode cX11_street 19 = .ok (.if_icmp .ne 15, 3) := by decide +kernel
theorem dX11_street_22 : decode cX11_street 22 = .ok (.aload_n 0, 1) := by decide +kernel
theorem dX11_street_23 : decode cX11_street 23 = .ok (.getfield 29, 3) := by decide +kernel
theorem dX11_street_26 : decode cX11_street 26 = .ok (.getfield 125, 3) := by decide +kernel
theorem dX11_street_29 : decode cX11_street 29 = .ok (.iload_n 1, 1) := by decide +kernel
theorem dX11_street_30 : decode cX11_street 30 = .ok (.iaload, 1) := by decide +kernel
theorem dX11_street_31 : decode cX11_street 31 = .ok (.goto 15, 3) := by decide +kernel
theorem dX11_street_34 : decode cX11_street 34 = .ok (.aload_n 0, 1) := by decide +kernel
theorem dX11_street_35 : decode cX11_street 35 = .ok (.getfield 19, 3) := by decide +kernel
theorem dX11_street_38 : decode cX11_street 38 = .ok (.getfield 115, 3) := by decide +kernel
theorem dX11_street_41 : decode cX11_street 41 = .ok (.iload_n 1, 1) := by decide +kernel
theorem dX11_street_42 : decode cX11_street 42 = .ok (.iload_n 2, 1) := by decide +kernel
theorem dX11_street_43 : decode cX11_street 43 = .ok (.invokevirtual 128, 3) := by decide +kernel
theorem dX11_street_46 : decode cX11_street 46 = .ok (.ireturn, 1) := by decide +kernel
set_option maxRecDepth 20000 in
theorem ggX11_lane_X7_has : GoodIn wsX11_lane wsX7_has := goodIn_r _ [7, 8, 42, 43, 44, 45, 46] (by decide +kernel) (by decide +kernel)
set_option maxRecDepth 20000 in
theorem gX11_lane_X7_has : GoodIn wsX11_lane (wsV RX11 119 RX7 yX7_has wsX7_has) := goodIn_app (goodIn_of _ (by decide +kernel)) ggX11_lane_X7_has
set_option maxRecDepth 20000 in
theorem ggX11_lane_X7_tell : GoodIn wsX11_lane wsX7_tell := goodIn_r _ [12, 13, 14, 15, 16, 42, 43, 44, 45, 46] (by decide +kernel) (by decide +kernel)
set_option maxRecDepth 20000 in
theorem gX11_lane_X7_tell : GoodIn wsX11_lane (wsV RX11 128 RX7 yX7_tell wsX7_tell) := goodIn_app (goodIn_of _ (by decide +kernel)) ggX11_lane_X7_tell
theorem dX11_lane_0 : decode cX11_lane 0 = .ok (.aload_n 0, 1) := by decide +kernel
theorem dX11_lane_1 : decode cX11_lane 1 = .ok (.getfield 19, 3) := by decide +kernel
theorem dX11_lane_4 : decode cX11_lane 4 = .ok (.getfield 132, 3) := by decide +kernel
theorem dX11_lane_7 : decode cX11_lane 7 = .ok (.iload_n 1, 1) := by decide +kernel
theorem dX11_lane_8 : decode cX11_lane 8 = .ok (.invokevirtual 119, 3) := by decide +kernel
theorem dX11_lane_11 : decode cX11_lane 11 = .ok (.ifCond .ne 6, 3) := by decide +kernel
theorem dX11_lane_14 : decode cX11_lane 14 = .ok (.bipush (-2), 2) := by decide +kernel
theorem dX11_lane_16 : decode cX11_lane 16 = .ok (.ireturn, 1) := by decide +kernel
theorem dX11_lane_17 : decode cX11_lane 17 = .ok (.aload_n 0, 1) := by decide +kernel
theorem dX11_lane_18 : decode cX11_lane 18 = .ok (.getfield 19, 3) := by decide +kernel
theorem dX11_lane_21 : decode cX11_lane 21 = .ok (.getfield 132, 3) := by decide +kernel
theorem dX11_lane_24 : decode cX11_lane 24 = .ok (.iload_n 1, 1) := by decide +kernel
theorem dX11_lane_25 : decode cX11_lane 25 = .ok (.iload_n 2, 1) := by decide +kernel
theorem dX11_lane_26 : decode cX11_lane 26 = .ok (.invokevirtual 128, 3) := by decide +kernel
theorem dX11_lane_29 : decode cX11_lane 29 = .ok (.ireturn, 1) := by decide +kernel
set_option maxRecDepth 20000 in
theorem ggX11_as_X11_isOutside : GoodIn wsX11_as wsX11_isOutside := goodIn_r _ [8] (by decide +kernel) (by decide +kernel)
set_option maxRecDepth 20000 in
theorem gX11_as_X11_isOutside : GoodIn wsX11_as (va_wsS RX11 90 yX11_isOutside wsX11_isOutside) := goodIn_app (goodIn_of _ (by decide +kernel)) ggX11_as_X11_isOutside
set_option maxRecDepth 20000 in
theorem ggX11_as_X11_councilOf : GoodIn wsX11_as wsX11_councilOf := goodIn_r _ [12, 13, 14, 143, 144, 145, 146, 147, 148, 149, 150, 151, 152, 153, 129, 130, 131, 132, 133, 134, 135, 136, 137, 138, 139, 140, 141, 142] (by decide +kernel) (by decide +kernel)
set_option maxRecDepth 20000 in
theorem gX11_as_X11_councilOf : GoodIn wsX11_as (wsV RX11 135 RX11 yX11_councilOf wsX11_councilOf) := goodIn_app (goodIn_of _ (by decide +kernel)) ggX11_as_X11_councilOf
set_option maxRecDepth 20000 in
theorem ggX11_as_X0_isOf : GoodIn wsX11_as wsX0_isOf := goodIn_r _ [20, 21, 22, 23, 24] (by decide +kernel) (by decide +kernel)
set_option maxRecDepth 20000 in
theorem gX11_as_X0_isOf_u139X2 : GoodIn wsX11_as (va_wsU RX11 139 RX2 "ShutWays$Council" ⟨"ShutWays$Council", "isOf", "(I)Z"⟩ yX0_isOf wsX0_isOf) := goodIn_app (goodIn_of _ (by decide +kernel)) ggX11_as_X0_isOf
set_option maxRecDepth 20000 in
theorem gX11_as_X0_isOf_u139X3 : GoodIn wsX11_as (va_wsU RX11 139 RX3 "ShutWays$Council" ⟨"ShutWays$Council", "isOf", "(I)Z"⟩ yX0_isOf wsX0_isOf) := goodIn_app (goodIn_of _ (by decide +kernel)) ggX11_as_X0_isOf
set_option maxRecDepth 20000 in
theorem gX11_as_X0_isOf_u139X4 : GoodIn wsX11_as (va_wsU RX11 139 RX4 "ShutWays$Council" ⟨"ShutWays$Council", "isOf", "(I)Z"⟩ yX0_isOf wsX0_isOf) := goodIn_app (goodIn_of _ (by decide +kernel)) ggX11_as_X0_isOf
set_option maxRecDepth 20000 in
theorem gX11_as_X0_isOf_u139X5 : GoodIn wsX11_as (va_wsU RX11 139 RX5 "ShutWays$Council" ⟨"ShutWays$Council", "isOf", "(I)Z"⟩ yX0_isOf wsX0_isOf) := goodIn_app (goodIn_of _ (by decide +kernel)) ggX11_as_X0_isOf
set_option maxRecDepth 20000 in
theorem ggX11_as_X11_findWay : GoodIn wsX11_as wsX11_findWay := goodIn_r _ [31, 3, 4, 32, 33, 34, 35, 36, 37, 38, 39, 40, 41, 42, 43, 44, 45, 46, 47, 48, 49, 50, 51, 52, 53, 54, 55, 56, 57, 58, 59, 60, 61, 62, 63, 64, 65, 66, 67, 68, 69, 70, 71, 72, 73, 74, 75, 76, 77, 78, 79, 80, 81, 82, 83, 84, 85, 86, 129, 130, 131, 132, 133, 134, 135, 136, 137, 138, 139, 140, 141, 142, 143, 144, 145, 146, 147, 148, 149, 150, 151, 152, 153, 154, 155, 156, 157, 158, 159, 160, 161, 162, 163, 164, 165] (by decide +kernel) (by decide +kernel)
set_option maxRecDepth 20000 in
theorem gX11_as_X11_findWay : GoodIn wsX11_as (wsV RX11 142 RX11 yX11_findWay wsX11_findWay) := goodIn_app (goodIn_of _ (by decide +kernel)) ggX11_as_X11_findWay
set_option maxRecDepth 20000 in
theorem ggX11_as_X0_shuts : GoodIn wsX11_as wsX0_shuts := goodIn_r _ [91, 92, 93, 94, 55, 95, 57, 96, 97, 98, 99, 100, 101, 102, 103, 104, 105, 106, 107, 108, 109, 110, 111, 112, 113, 114, 115, 116, 117, 118, 119, 120, 121, 122, 123, 124, 125, 156, 157, 158, 159, 160, 161, 162, 163, 164, 165] (by decide +kernel) (by decide +kernel)
set_option maxRecDepth 20000 in
theorem gX11_as_X0_shuts_u146X2 : GoodIn wsX11_as (va_wsU RX11 146 RX2 "ShutWays$Council" ⟨"ShutWays$Council", "shuts", "(LShutWays$Way;LShutWays$Roads;)I"⟩ yX0_shuts wsX0_shuts) := goodIn_app (goodIn_of _ (by decide +kernel)) ggX11_as_X0_shuts
set_option maxRecDepth 20000 in
theorem gX11_as_X0_shuts_u146X3 : GoodIn wsX11_as (va_wsU RX11 146 RX3 "ShutWays$Council" ⟨"ShutWays$Council", "shuts", "(LShutWays$Way;LShutWays$Roads;)I"⟩ yX0_shuts wsX0_shuts) := goodIn_app (goodIn_of _ (by decide +kernel)) ggX11_as_X0_shuts
set_option maxRecDepth 20000 in
theorem gX11_as_X0_shuts_u146X4 : GoodIn wsX11_as (va_wsU RX11 146 RX4 "ShutWays$Council" ⟨"ShutWays$Council", "shuts", "(LShutWays$Way;LShutWays$Roads;)I"⟩ yX0_shuts wsX0_shuts) := goodIn_app (goodIn_of _ (by decide +kernel)) ggX11_as_X0_shuts
set_option maxRecDepth 20000 in
theorem gX11_as_X0_shuts_u146X5 : GoodIn wsX11_as (va_wsU RX11 146 RX5 "ShutWays$Council" ⟨"ShutWays$Council", "shuts", "(LShutWays$Way;LShutWays$Roads;)I"⟩ yX0_shuts wsX0_shuts) := goodIn_app (goodIn_of _ (by decide +kernel)) ggX11_as_X0_shuts
theorem dX11_as_0 : decode cX11_as 0 = .ok (.iload_n 1, 1) := by decide +kernel
theorem dX11_as_1 : decode cX11_as 1 = .ok (.iconst 0, 1) := by decide +kernel
theorem dX11_as_2 : decode cX11_as 2 = .ok (.iconst 4, 1) := by decide +kernel
theorem dX11_as_3 : decode cX11_as 3 = .ok (.invokestatic 90, 3) := by decide +kernel
theorem dX11_as_6 : decode cX11_as 6 = .ok (.ifCond .eq 6, 3) := by decide +kernel
theorem dX11_as_9 : decode cX11_as 9 = .ok (.bipush (-3), 2) := by decide +kernel
theorem dX11_as_11 : decode cX11_as 11 = .ok (.ireturn, 1) := by decide +kernel
theorem dX11_as_12 : decode cX11_as 12 = .ok (.aload_n 0, 1) := by decide +kernel
theorem dX11_as_13 : decode cX11_as 13 = .ok (.aload_n 0, 1) := by decide +kernel
theorem dX11_as_14 : decode cX11_as 14 = .ok (.getfield 19, 3) := by decide +kernel
theorem dX11_as_17 : decode cX11_as 17 = .ok (.invokevirtual 135, 3) := by decide +kernel
theorem dX11_as_20 : decode cX11_as 20 = .ok (.astore_n 2, 1) := by decide +kernel
theorem dX11_as_21 : decode cX11_as 21 = .ok (.aload_n 2, 1) := by decide +kernel
theorem dX11_as_22 : decode cX11_as 22 = .ok (.iload_n 1, 1) := by decide +kernel
theorem dX11_as_23 : decode cX11_as 23 = .ok (.invokevirtual 139, 3) := by decide +kernel
theorem dX11_as_26 : decode cX11_as 26 = .ok (.ifCond .ne 6, 3) := by decide +kernel
theorem dX11_as_29 : decode cX11_as 29 = .ok (.bipush (-4), 2) := by decide +kernel
theorem dX11_as_31 : decode cX11_as 31 = .ok (.ireturn, 1) := by decide +kernel
theorem dX11_as_32 : decode cX11_as 32 = .ok (.aload_n 0, 1) := by decide +kernel
theorem dX11_as_33 : decode cX11_as 33 = .ok (.aload_n 0, 1) := by decide +kernel
theorem dX11_as_34 : decode cX11_as 34 = .ok (.getfield 19, 3) := by decide +kernel
theorem dX11_as_37 : decode cX11_as 37 = .ok (.aload_n 0, 1) := by decide +kernel
theorem dX11_as_38 : decode cX11_as 38 = .ok (.getfield 29, 3) := by decide +kernel
theorem dX11_as_41 : decode cX11_as 41 = .ok (.invokevirtual 142, 3) := by decide +kernel
theorem dX11_as_44 : decode cX11_as 44 = .ok (.aload_n 2, 1) := by decide +kernel
theorem dX11_as_45 : decode cX11_as 45 = .ok (.aload_n 0, 1) := by decide +kernel
theorem dX11_as_46 : decode cX11_as 46 = .ok (.getfield 50, 3) := by decide +kernel
theorem dX11_as_49 : decode cX11_as 49 = .ok (.aload_n 0, 1) := by decide +kernel
theorem dX11_as_50 : decode cX11_as 50 = .ok (.getfield 19, 3) := by decide +kernel
theorem dX11_as_53 : decode cX11_as 53 = .ok (.getfield 115, 3) := by decide +kernel
theorem dX11_as_56 : decode cX11_as 56 = .ok (.invokevirtual 146, 3) := by decide +kernel
theorem dX11_as_59 : decode cX11_as 59 = .ok (.ireturn, 1) := by decide +kernel
set_option maxRecDepth 20000 in
theorem ggX11_way_X11_isOutside : GoodIn wsX11_way wsX11_isOutside := goodIn_r _ [10] (by decide +kernel) (by decide +kernel)
set_option maxRecDepth 20000 in
theorem gX11_way_X11_isOutside : GoodIn wsX11_way (va_wsS RX11 90 yX11_isOutside wsX11_isOutside) := goodIn_app (goodIn_of _ (by decide +kernel)) ggX11_way_X11_isOutside
set_option maxRecDepth 20000 in
theorem ggX11_way_X11_findWay : GoodIn wsX11_way wsX11_findWay := goodIn_r _ [14, 3, 15, 16, 17, 18, 19, 20, 21, 22, 23, 24, 25, 26, 27, 28, 29, 30, 31, 32, 33, 34, 35, 36, 37, 38, 39, 40, 41, 42, 43, 44, 45, 46, 47, 48, 49, 50, 51, 52, 53, 54, 55, 56, 57, 58, 59, 60, 61, 62, 63, 64, 65, 66, 67, 68, 69, 70, 75, 76, 77, 78, 79, 80, 81, 82, 83, 84, 85, 86, 87, 88, 94, 95, 96, 97, 98, 99, 100, 101, 102, 103, 104, 105, 106, 89, 90, 91, 92, 93, 107, 108, 109, 110, 111] (by decide +kernel) (by decide +kernel)
set_option maxRecDepth 20000 in
theorem gX11_way_X11_findWay : GoodIn wsX11_way (wsV RX11 142 RX11 yX11_findWay wsX11_findWay) := goodIn_app (goodIn_of _ (by decide +kernel)) ggX11_way_X11_findWay
set_option maxRecDepth 20000 in
theorem ggX11_way_X10_isThere : GoodIn wsX11_way wsX10_isThere := goodIn_r _ [74, 41, 89, 90, 91, 92, 93] (by decide +kernel) (by decide +kernel)
set_option maxRecDepth 20000 in
theorem gX11_way_X10_isThere : GoodIn wsX11_way (wsV RX11 150 RX10 yX10_isThere wsX10_isThere) := goodIn_app (goodIn_of _ (by decide +kernel)) ggX11_way_X10_isThere
theorem dX11_way_0 : decode cX11_way 0 = .ok (.iload_n 1, 1) := by decide +kernel
theorem dX11_way_1 : decode cX11_way 1 = .ok (.bipush 10, 2) := by decide +kernel
theorem dX11_way_3 : decode cX11_way 3 = .ok (.isub, 1) := by decide +kernel
theorem dX11_way_4 : decode cX11_way 4 = .ok (.istore_n 2, 1) := by decide +kernel
theorem dX11_way_5 : decode cX11_way 5 = .ok (.iload_n 2, 1) := by decide +kernel
theorem dX11_way_6 : decode cX11_way 6 = .ok (.iconst 0, 1) := by decide +kernel
theorem dX11_way_7 : decode cX11_way 7 = .ok (.bipush 11, 2) := by decide +kernel
theorem dX11_way_9 : decode cX11_way 9 = .ok (.invokestatic 90, 3) := by decide +kernel
theorem dX11_way_12 : decode cX11_way 12 = .ok (.ifCond .ne 7, 3) := by decide +kernel
theorem dX11_way_15 : decode cX11_way 15 = .ok (.iconst 1, 1) := by decide +kernel
theorem dX11_way_16 : decode cX11_way 16 = .ok (.goto 4, 3) := by decide +kernel
theorem dX11_way_19 : decode cX11_way 19 = .ok (.iconst 0, 1) := by decide +kernel
theorem dX11_way_20 : decode cX11_way 20 = .ok (.istore_n 3, 1) := by decide +kernel
theorem dX11_way_21 : decode cX11_way 21 = .ok (.iload_n 1, 1) := by decide +kernel
theorem dX11_way_22 : decode cX11_way 22 = .ok (.iconst 0, 1) := by decide +kernel
theorem dX11_way_23 : decode cX11_way 23 = .ok (.iconst 1, 1) := by decide +kernel
theorem dX11_way_24 : decode cX11_way 24 = .ok (.invokestatic 90, 3) := by decide +kernel
theorem dX11_way_27 : decode cX11_way 27 = .ok (.ifCond .eq 10, 3) := by decide +kernel
theorem dX11_way_30 : decode cX11_way 30 = .ok (.iload_n 3, 1) := by decide +kernel
theorem dX11_way_31 : decode cX11_way 31 = .ok (.ifCond .ne 6, 3) := by decide +kernel
theorem dX11_way_34 : decode cX11_way 34 = .ok (.bipush (-3), 2) := by decide +kernel
theorem dX11_way_36 : decode cX11_way 36 = .ok (.ireturn, 1) := by decide +kernel
theorem dX11_way_37 : decode cX11_way 37 = .ok (.aload_n 0, 1) := by decide +kernel
theorem dX11_way_38 : decode cX11_way 38 = .ok (.aload_n 0, 1) := by decide +kernel
theorem dX11_way_39 : decode cX11_way 39 = .ok (.getfield 19, 3) := by decide +kernel
theorem dX11_way_42 : decode cX11_way 42 = .ok (.aload_n 0, 1) := by decide +kernel
theorem dX11_way_43 : decode cX11_way 43 = .ok (.getfield 29, 3) := by decide +kernel
theorem dX11_way_46 : decode cX11_way 46 = .ok (.invokevirtual 142, 3) := by decide +kernel
theorem dX11_way_49 : decode cX11_way 49 = .ok (.aload_n 0, 1) := by decide +kernel
theorem dX11_way_50 : decode cX11_way 50 = .ok (.getfield 50, 3) := by decide +kernel
theorem dX11_way_53 : decode cX11_way 53 = .ok (.invokevirtual 150, 3) := by decide +kernel
theorem dX11_way_56 : decode cX11_way 56 = .ok (.ifCond .ne 5, 3) := by decide +kernel
theorem dX11_way_59 : decode cX11_way 59 = .ok (.iconst (-1), 1) := by decide +kernel
theorem dX11_way_60 : decode cX11_way 60 = .ok (.ireturn, 1) := by decide +kernel
theorem dX11_way_61 : decode cX11_way 61 = .ok (.iload_n 3, 1) := by decide +kernel
theorem dX11_way_62 : decode cX11_way 62 = .ok (.ifCond .eq 28, 3) := by decide +kernel
theorem dX11_way_65 : decode cX11_way 65 = .ok (.iload_n 2, 1) := by decide +kernel
theorem dX11_way_66 : decode cX11_way 66 = .ok (.aload_n 0, 1) := by decide +kernel
theorem dX11_way_67 : decode cX11_way 67 = .ok (.getfield 50, 3) := by decide +kernel
theorem dX11_way_70 : decode cX11_way 70 = .ok (.getfield 154, 3) := by decide +kernel
theorem dX11_way_73 : decode cX11_way 73 = .ok (.if_icmp .ge 15, 3) := by decide +kernel
theorem dX11_way_76 : decode cX11_way 76 = .ok (.aload_n 0, 1) := by decide +kernel
theorem dX11_way_77 : decode cX11_way 77 = .ok (.getfield 50, 3) := by decide +kernel
theorem dX11_way_80 : decode cX11_way 80 = .ok (.getfield 157, 3) := by decide +kernel
theorem dX11_way_83 : decode cX11_way 83 = .ok (.iload_n 2, 1) := by decide +kernel
theorem dX11_way_84 : decode cX11_way 84 = .ok (.iaload, 1) := by decide +kernel
theorem dX11_way_85 : decode cX11_way 85 = .ok (.goto 4, 3) := by decide +kernel
theorem dX11_way_88 : decode cX11_way 88 = .ok (.iconst (-1), 1) := by decide +kernel
theorem dX11_way_89 : decode cX11_way 89 = .ok (.ireturn, 1) := by decide +kernel
theorem dX11_way_90 : decode cX11_way 90 = .ok (.iload_n 1, 1) := by decide +kernel
theorem dX11_way_91 : decode cX11_way 91 = .ok (.ifCond .ne 13, 3) := by decide +kernel
theorem dX11_way_94 : decode cX11_way 94 = .ok (.aload_n 0, 1) := by decide +kernel
theorem dX11_way_95 : decode cX11_way 95 = .ok (.getfield 50, 3) := by decide +kernel
theorem dX11_way_98 : decode cX11_way 98 = .ok (.getfield 160, 3) := by decide +kernel
theorem dX11_way_101 : decode cX11_way 101 = .ok (.goto 10, 3) := by decide +kernel
theorem dX11_way_104 : decode cX11_way 104 = .ok (.aload_n 0, 1) := by decide +kernel
theorem dX11_way_105 : decode cX11_way 105 = .ok (.getfield 50, 3) := by decide +kernel
theorem dX11_way_108 : decode cX11_way 108 = .ok (.getfield 154, 3) := by decide +kernel
theorem dX11_way_111 : decode cX11_way 111 = .ok (.ireturn, 1) := by decide +kernel
set_option maxRecDepth 20000 in
theorem ggX11_go_X11_isOutside : GoodIn wsX11_go wsX11_isOutside := goodIn_r _ [7] (by decide +kernel) (by decide +kernel)
set_option maxRecDepth 20000 in
theorem gX11_go_X11_isOutside : GoodIn wsX11_go (va_wsS RX11 90 yX11_isOutside wsX11_isOutside) := goodIn_app (goodIn_of _ (by decide +kernel)) ggX11_go_X11_isOutside
set_option maxRecDepth 20000 in
theorem ggX11_go_X11_passNight : GoodIn wsX11_go wsX11_passNight := goodIn_r _ [11, 12, 13, 14, 15, 16, 17, 6, 18, 19, 2, 20, 21, 22, 23, 24, 25, 26, 27, 28, 29, 30, 31, 32, 33, 34, 35, 36, 37, 38, 39, 40, 41, 42, 43, 44, 45, 46, 47, 48, 49, 50, 51, 52, 53, 54, 55, 56, 57, 58, 59, 60, 61, 62, 63, 64, 65, 66, 67, 68, 69, 70, 71, 72, 73, 74, 75, 76, 77, 78, 79, 80, 81, 82, 83, 84, 85, 86, 87, 88, 89, 90, 91, 92, 93, 94, 95, 96, 97, 98, 99, 100, 101, 102, 103, 104, 105, 106, 107, 108, 109, 110, 111, 112, 113, 114, 115, 116, 117, 118, 119, 120, 121, 122, 123, 124, 125, 126, 127, 128, 129, 130, 131, 132, 133, 134, 135, 136, 137, 138, 139, 140, 141, 142, 145, 146, 147, 148, 149, 150, 151, 152, 153, 154, 155, 143, 144, 156, 157, 158, 159, 160, 161, 162, 163, 164, 165] (by decide +kernel) (by decide +kernel)
set_option maxRecDepth 20000 in
theorem gX11_go_X11_passNight : GoodIn wsX11_go (wsV RX11 166 RX11 yX11_passNight wsX11_passNight) := goodIn_app (goodIn_of _ (by decide +kernel)) ggX11_go_X11_passNight
theorem dX11_go_0 : decode cX11_go 0 = .ok (.iload_n 1, 1) := by decide +kernel
theorem dX11_go_1 : decode cX11_go 1 = .ok (.iconst 1, 1) := by decide +kernel
theorem dX11_go_2 : decode cX11_go 2 = .ok (.sipush 999, 3) := by decide +kernel
theorem dX11_go_5 : decode cX11_go 5 = .ok (.invokestatic 90, 3) := by decide +kernel
theorem dX11_go_8 : decode cX11_go 8 = .ok (.ifCond .eq 6, 3) := by decide +kernel
theorem dX11_go_11 : decode cX11_go 11 = .ok (.bipush (-3), 2) := by decide +kernel
theorem dX11_go_13 : decode cX11_go 13 = .ok (.ireturn, 1) := by decide +kernel
theorem dX11_go_14 : decode cX11_go 14 = .ok (.aload_n 0, 1) := by decide +kernel
theorem dX11_go_15 : decode cX11_go 15 = .ok (.getfield 29, 3) := by decide +kernel
theorem dX11_go_18 : decode cX11_go 18 = .ok (.getfield 163, 3) := by decide +kernel
theorem dX11_go_21 : decode cX11_go 21 = .ok (.iload_n 1, 1) := by decide +kernel
theorem dX11_go_22 : decode cX11_go 22 = .ok (.iadd, 1) := by decide +kernel
theorem dX11_go_23 : decode cX11_go 23 = .ok (.sipush 9999, 3) := by decide +kernel
theorem dX11_go_26 : decode cX11_go 26 = .ok (.if_icmp .le 6, 3) := by decide +kernel
theorem dX11_go_29 : decode cX11_go 29 = .ok (.bipush (-5), 2) := by decide +kernel
theorem dX11_go_31 : decode cX11_go 31 = .ok (.ireturn, 1) := by decide +kernel
theorem dX11_go_32 : decode cX11_go 32 = .ok (.iconst 0, 1) := by decide +kernel
theorem dX11_go_33 : decode cX11_go 33 = .ok (.istore_n 2, 1) := by decide +kernel
theorem dX11_go_34 : decode cX11_go 34 = .ok (.iload_n 2, 1) := by decide +kernel
theorem dX11_go_35 : decode cX11_go 35 = .ok (.iload_n 1, 1) := by decide +kernel
theorem dX11_go_36 : decode cX11_go 36 = .ok (.if_icmp .ge 22, 3) := by decide +kernel
theorem dX11_go_39 : decode cX11_go 39 = .ok (.aload_n 0, 1) := by decide +kernel
theorem dX11_go_40 : decode cX11_go 40 = .ok (.aload_n 0, 1) := by decide +kernel
theorem dX11_go_41 : decode cX11_go 41 = .ok (.getfield 19, 3) := by decide +kernel
theorem dX11_go_44 : decode cX11_go 44 = .ok (.aload_n 0, 1) := by decide +kernel
theorem dX11_go_45 : decode cX11_go 45 = .ok (.getfield 29, 3) := by decide +kernel
theorem dX11_go_48 : decode cX11_go 48 = .ok (.invokevirtual 166, 3) := by decide +kernel
theorem dX11_go_51 : decode cX11_go 51 = .ok (.pop, 1) := by decide +kernel
theorem dX11_go_52 : decode cX11_go 52 = .ok (.iinc 2 1, 3) := by decide +kernel
theorem dX11_go_55 : decode cX11_go 55 = .ok (.goto (-21), 3) := by decide +kernel
theorem dX11_go_58 : decode cX11_go 58 = .ok (.aload_n 0, 1) := by decide +kernel
theorem dX11_go_59 : decode cX11_go 59 = .ok (.getfield 29, 3) := by decide +kernel
theorem dX11_go_62 : decode cX11_go 62 = .ok (.getfield 163, 3) := by decide +kernel
theorem dX11_go_65 : decode cX11_go 65 = .ok (.ireturn, 1) := by decide +kernel
set_option maxRecDepth 20000 in
theorem ggX11_flood_X7_has : GoodIn wsX11_flood wsX7_has := goodIn_r _ [13, 14, 46, 47, 48, 49, 50] (by decide +kernel) (by decide +kernel)
set_option maxRecDepth 20000 in
theorem gX11_flood_X7_has : GoodIn wsX11_flood (wsV RX11 119 RX7 yX7_has wsX7_has) := goodIn_app (goodIn_of _ (by decide +kernel)) ggX11_flood_X7_has
set_option maxRecDepth 20000 in
theorem ggX11_flood_X11_isOutside : GoodIn wsX11_flood wsX11_isOutside := goodIn_r _ [18] (by decide +kernel) (by decide +kernel)
set_option maxRecDepth 20000 in
theorem gX11_flood_X11_isOutside : GoodIn wsX11_flood (va_wsS RX11 90 yX11_isOutside wsX11_isOutside) := goodIn_app (goodIn_of _ (by decide +kernel)) ggX11_flood_X11_isOutside
theorem dX11_flood_0 : decode cX11_flood 0 = .ok (.aload_n 0, 1) := by decide +kernel
theorem dX11_flood_1 : decode cX11_flood 1 = .ok (.getfield 19, 3) := by decide +kernel
theorem dX11_flood_4 : decode cX11_flood 4 = .ok (.getfield 115, 3) := by decide +kernel
theorem dX11_flood_7 : decode cX11_flood 7 = .ok (.iload_n 1, 1) := by decide +kernel
theorem dX11_flood_8 : decode cX11_flood 8 = .ok (.invokevirtual 119, 3) := by decide +kernel
theorem dX11_flood_11 : decode cX11_flood 11 = .ok (.ifCond .ne 6, 3) := by decide +kernel
theorem dX11_flood_14 : decode cX11_flood 14 = .ok (.bipush (-2), 2) := by decide +kernel
theorem dX11_flood_16 : decode cX11_flood 16 = .ok (.ireturn, 1) := by decide +kernel
theorem dX11_flood_17 : decode cX11_flood 17 = .ok (.iload_n 2, 1) := by decide +kernel
theorem dX11_flood_18 : decode cX11_flood 18 = .ok (.iconst 1, 1) := by decide +kernel
theorem dX11_flood_19 : decode cX11_flood 19 = .ok (.bipush 99, 2) := by decide +kernel
theorem dX11_flood_21 : decode cX11_flood 21 = .ok (.invokestatic 90, 3) := by decide +kernel
theorem dX11_flood_24 : decode cX11_flood 24 = .ok (.ifCond .eq 6, 3) := by decide +kernel
theorem dX11_flood_27 : decode cX11_flood 27 = .ok (.bipush (-3), 2) := by decide +kernel
theorem dX11_flood_29 : decode cX11_flood 29 = .ok (.ireturn, 1) := by decide +kernel
theorem dX11_flood_30 : decode cX11_flood 30 = .ok (.aload_n 0, 1) := by decide +kernel
theorem dX11_flood_31 : decode cX11_flood 31 = .ok (.getfield 29, 3) := by decide +kernel
theorem dX11_flood_34 : decode cX11_flood 34 = .ok (.getfield 125, 3) := by decide +kernel
theorem dX11_flood_37 : decode cX11_flood 37 = .ok (.iload_n 1, 1) := by decide +kernel
theorem dX11_flood_38 : decode cX11_flood 38 = .ok (.aload_n 0, 1) := by decide +kernel
theorem dX11_flood_39 : decode cX11_flood 39 = .ok (.getfield 29, 3) := by decide +kernel
theorem dX11_flood_42 : decode cX11_flood 42 = .ok (.getfield 125, 3) := by decide +kernel
theorem dX11_flood_45 : decode cX11_flood 45 = .ok (.iload_n 1, 1) := by decide +kernel
theorem dX11_flood_46 : decode cX11_flood 46 = .ok (.iaload, 1) := by decide +kernel
theorem dX11_flood_47 : decode cX11_flood 47 = .ok (.iload_n 2, 1) := by decide +kernel
theorem dX11_flood_48 : decode cX11_flood 48 = .ok (.invokestatic 170, 3) := by decide +kernel
theorem dX11_flood_51 : decode cX11_flood 51 = .ok (.iastore, 1) := by decide +kernel
theorem dX11_flood_52 : decode cX11_flood 52 = .ok (.aload_n 0, 1) := by decide +kernel
theorem dX11_flood_53 : decode cX11_flood 53 = .ok (.getfield 29, 3) := by decide +kernel
theorem dX11_flood_56 : decode cX11_flood 56 = .ok (.getfield 125, 3) := by decide +kernel
theorem dX11_flood_59 : decode cX11_flood 59 = .ok (.iload_n 1, 1) := by decide +kernel
theorem dX11_flood_60 : decode cX11_flood 60 = .ok (.iaload, 1) := by decide +kernel
theorem dX11_flood_61 : decode cX11_flood 61 = .ok (.ireturn, 1) := by decide +kernel
set_option maxRecDepth 20000 in
theorem ggX11_fair_X1_shutSet : GoodIn wsX11_fair wsX1_shutSet := goodIn_r _ [7, 8, 34, 35] (by decide +kernel) (by decide +kernel)
set_option maxRecDepth 20000 in
theorem gX11_fair_X1_shutSet : GoodIn wsX11_fair (wsV RX11 175 RX1 yX1_shutSet wsX1_shutSet) := goodIn_app (goodIn_of _ (by decide +kernel)) ggX11_fair_X1_shutSet
set_option maxRecDepth 20000 in
theorem ggX11_fair_J6_bitCount_0f7a4 : GoodIn wsX11_fair wsJ6_bitCount_0f7a4 := goodIn_r _ [12, 13, 14, 15] (by decide +kernel) (by decide +kernel)
set_option maxRecDepth 20000 in
theorem gX11_fair_J6_bitCount_0f7a4 : GoodIn wsX11_fair (va_wsS RX11 179 yJ6_bitCount_0f7a4 wsJ6_bitCount_0f7a4) := goodIn_app (goodIn_of _ (by decide +kernel)) ggX11_fair_J6_bitCount_0f7a4
set_option maxRecDepth 20000 in
theorem ggX11_fair_J7_fill_53178 : GoodIn wsX11_fair wsJ7_fill_53178 := goodIn_r _ [19] (by decide +kernel) (by decide +kernel)
set_option maxRecDepth 20000 in
theorem gX11_fair_J7_fill_53178 : GoodIn wsX11_fair (va_wsS RX11 185 yJ7_fill_53178 wsJ7_fill_53178) := goodIn_app (goodIn_of _ (by decide +kernel)) ggX11_fair_J7_fill_53178
theorem dX11_fair_0 : decode cX11_fair 0 = .ok (.aload_n 0, 1) := by decide +kernel
theorem dX11_fair_1 : decode cX11_fair 1 = .ok (.getfield 29, 3) := by decide +kernel
theorem dX11_fair_4 : decode cX11_fair 4 = .ok (.invokevirtual 175, 3) := by decide +kernel
theorem dX11_fair_7 : decode cX11_fair 7 = .ok (.invokestatic 179, 3) := by decide +kernel
theorem dX11_fair_10 : decode cX11_fair 10 = .ok (.istore_n 1, 1) := by decide +kernel
theorem dX11_fair_11 : decode cX11_fair 11 = .ok (.aload_n 0, 1) := by decide +kernel
theorem dX11_fair_12 : decode cX11_fair 12 = .ok (.getfield 29, 3) := by decide +kernel
theorem dX11_fair_15 : decode cX11_fair 15 = .ok (.getfield 125, 3) := by decide +kernel
theorem dX11_fair_18 : decode cX11_fair 18 = .ok (.iconst 0, 1) := by decide +kernel
theorem dX11_fair_19 : decode cX11_fair 19 = .ok (.invokestatic 185, 3) := by decide +kernel
theorem dX11_fair_22 : decode cX11_fair 22 = .ok (.iload_n 1, 1) := by decide +kernel
theorem dX11_fair_23 : decode cX11_fair 23 = .ok (.ireturn, 1) := by decide +kernel
set_option maxRecDepth 20000 in
theorem ggX11_keep_X11_isOutside : GoodIn wsX11_keep wsX11_isOutside := goodIn_r _ [8] (by decide +kernel) (by decide +kernel)
set_option maxRecDepth 20000 in
theorem gX11_keep_X11_isOutside : GoodIn wsX11_keep (va_wsS RX11 90 yX11_isOutside wsX11_isOutside) := goodIn_app (goodIn_of _ (by decide +kernel)) ggX11_keep_X11_isOutside
set_option maxRecDepth 20000 in
theorem ggX11_keep_X1_copyFrom : GoodIn wsX11_keep wsX1_copyFrom := goodIn_r _ [13, 14, 15, 16, 17, 18, 19, 34, 35] (by decide +kernel) (by decide +kernel)
set_option maxRecDepth 20000 in
theorem gX11_keep_X1_copyFrom : GoodIn wsX11_keep (wsV RX11 191 RX1 yX1_copyFrom wsX1_copyFrom) := goodIn_app (goodIn_of _ (by decide +kernel)) ggX11_keep_X1_copyFrom
theorem dX11_keep_0 : decode cX11_keep 0 = .ok (.iload_n 1, 1) := by decide +kernel
theorem dX11_keep_1 : decode cX11_keep 1 = .ok (.iconst 0, 1) := by decide +kernel
theorem dX11_keep_2 : decode cX11_keep 2 = .ok (.iconst 1, 1) := by decide +kernel
theorem dX11_keep_3 : decode cX11_keep 3 = .ok (.invokestatic 90, 3) := by decide +kernel
theorem dX11_keep_6 : decode cX11_keep 6 = .ok (.ifCond .eq 6, 3) := by decide +kernel
theorem dX11_keep_9 : decode cX11_keep 9 = .ok (.bipush (-2), 2) := by decide +kernel
theorem dX11_keep_11 : decode cX11_keep 11 = .ok (.ireturn, 1) := by decide +kernel
theorem dX11_keep_12 : decode cX11_keep 12 = .ok (.aload_n 0, 1) := by decide +kernel
theorem dX11_keep_13 : decode cX11_keep 13 = .ok (.getfield 36, 3) := by decide +kernel
theorem dX11_keep_16 : decode cX11_keep 16 = .ok (.iload_n 1, 1) := by decide +kernel
theorem dX11_keep_17 : decode cX11_keep 17 = .ok (.aaload, 1) := by decide +kernel
theorem dX11_keep_18 : decode cX11_keep 18 = .ok (.aload_n 0, 1) := by decide +kernel
theorem dX11_keep_19 : decode cX11_keep 19 = .ok (.getfield 29, 3) := by decide +kernel
theorem dX11_keep_22 : decode cX11_keep 22 = .ok (.invokevirtual 191, 3) := by decide +kernel
theorem dX11_keep_25 : decode cX11_keep 25 = .ok (.aload_n 0, 1) := by decide +kernel
theorem dX11_keep_26 : decode cX11_keep 26 = .ok (.getfield 40, 3) := by decide +kernel
theorem dX11_keep_29 : decode cX11_keep 29 = .ok (.iload_n 1, 1) := by decide +kernel
theorem dX11_keep_30 : decode cX11_keep 30 = .ok (.iconst 1, 1) := by decide +kernel
theorem dX11_keep_31 : decode cX11_keep 31 = .ok (.bastore, 1) := by decide +kernel
theorem dX11_keep_32 : decode cX11_keep 32 = .ok (.aload_n 0, 1) := by decide +kernel
theorem dX11_keep_33 : decode cX11_keep 33 = .ok (.getfield 29, 3) := by decide +kernel
theorem dX11_keep_36 : decode cX11_keep 36 = .ok (.getfield 163, 3) := by decide +kernel
theorem dX11_keep_39 : decode cX11_keep 39 = .ok (.ireturn, 1) := by decide +kernel
set_option maxRecDepth 20000 in
theorem ggX11_back_X11_isOutside : GoodIn wsX11_back wsX11_isOutside := goodIn_r _ [8] (by decide +kernel) (by decide +kernel)
set_option maxRecDepth 20000 in
theorem gX11_back_X11_isOutside : GoodIn wsX11_back (va_wsS RX11 90 yX11_isOutside wsX11_isOutside) := goodIn_app (goodIn_of _ (by decide +kernel)) ggX11_back_X11_isOutside
set_option maxRecDepth 20000 in
theorem ggX11_back_X1_copyFrom : GoodIn wsX11_back wsX1_copyFrom := goodIn_r _ [13, 14, 15, 16, 17, 18, 19, 34, 35] (by decide +kernel) (by decide +kernel)
set_option maxRecDepth 20000 in
theorem gX11_back_X1_copyFrom : GoodIn wsX11_back (wsV RX11 191 RX1 yX1_copyFrom wsX1_copyFrom) := goodIn_app (goodIn_of _ (by decide +kernel)) ggX11_back_X1_copyFrom
theorem dX11_back_0 : decode cX11_back 0 = .ok (.iload_n 1, 1) := by decide +kernel
theorem dX11_back_1 : decode cX11_back 1 = .ok (.iconst 0, 1) := by decide +kernel
theorem dX11_back_2 : decode cX11_back 2 = .ok (.iconst 1, 1) := by decide +kernel
theorem dX11_back_3 : decode cX11_back 3 = .ok (.invokestatic 90, 3) := by decide +kernel
theorem dX11_back_6 : decode cX11_back 6 = .ok (.ifCond .eq 6, 3) := by decide +kernel
theorem dX11_back_9 : decode cX11_back 9 = .ok (.bipush (-2), 2) := by decide +kernel
theorem dX11_back_11 : decode cX11_back 11 = .ok (.ireturn, 1) := by decide +kernel
theorem dX11_back_12 : decode cX11_back 12 = .ok (.aload_n 0, 1) := by decide +kernel
theorem dX11_back_13 : decode cX11_back 13 = .ok (.getfield 40, 3) := by decide +kernel
theorem dX11_back_16 : decode cX11_back 16 = .ok (.iload_n 1, 1) := by decide +kernel
theorem dX11_back_17 : decode cX11_back 17 = .ok (.baload, 1) := by decide +kernel
theorem dX11_back_18 : decode cX11_back 18 = .ok (.ifCond .ne 6, 3) := by decide +kernel
theorem dX11_back_21 : decode cX11_back 21 = .ok (.bipush (-4), 2) := by decide +kernel
theorem dX11_back_23 : decode cX11_back 23 = .ok (.ireturn, 1) := by decide +kernel
theorem dX11_back_24 : decode cX11_back 24 = .ok (.aload_n 0, 1) := by decide +kernel
theorem dX11_back_25 : decode cX11_back 25 = .ok (.getfield 29, 3) := by decide +kernel
theorem dX11_back_28 : decode cX11_back 28 = .ok (.aload_n 0, 1) := by decide +kernel
theorem dX11_back_29 : decode cX11_back 29 = .ok (.getfield 36, 3) := by decide +kernel
theorem dX11_back_32 : decode cX11_back 32 = .ok (.iload_n 1, 1) := by decide +kernel
theorem dX11_back_33 : decode cX11_back 33 = .ok (.aaload, 1) := by decide +kernel
theorem dX11_back_34 : decode cX11_back 34 = .ok (.invokevirtual 191, 3) := by decide +kernel
theorem dX11_back_37 : decode cX11_back 37 = .ok (.aload_n 0, 1) := by decide +kernel
theorem dX11_back_38 : decode cX11_back 38 = .ok (.getfield 29, 3) := by decide +kernel
theorem dX11_back_41 : decode cX11_back 41 = .ok (.getfield 163, 3) := by decide +kernel
theorem dX11_back_44 : decode cX11_back 44 = .ok (.ireturn, 1) := by decide +kernel
set_option maxRecDepth 20000 in
theorem ggX11_later_X11_isOutside : GoodIn wsX11_later wsX11_isOutside := goodIn_r _ [9] (by decide +kernel) (by decide +kernel)
set_option maxRecDepth 20000 in
theorem gX11_later_X11_isOutside : GoodIn wsX11_later (va_wsS RX11 90 yX11_isOutside wsX11_isOutside) := goodIn_app (goodIn_of _ (by decide +kernel)) ggX11_later_X11_isOutside
set_option maxRecDepth 20000 in
theorem ggX11_later_X1_copyFrom : GoodIn wsX11_later wsX1_copyFrom := goodIn_r _ [14, 15, 16, 17, 18, 19, 20, 159, 160] (by decide +kernel) (by decide +kernel)
set_option maxRecDepth 20000 in
theorem gX11_later_X1_copyFrom : GoodIn wsX11_later (wsV RX11 191 RX1 yX1_copyFrom wsX1_copyFrom) := goodIn_app (goodIn_of _ (by decide +kernel)) ggX11_later_X1_copyFrom
set_option maxRecDepth 20000 in
theorem ggX11_later_X11_passNight : GoodIn wsX11_later wsX11_passNight := goodIn_r _ [24, 4, 25, 26, 27, 28, 29, 8, 30, 31, 32, 33, 34, 35, 36, 37, 38, 39, 40, 41, 42, 43, 44, 45, 46, 47, 48, 49, 50, 51, 52, 53, 54, 55, 56, 57, 58, 59, 60, 61, 62, 63, 64, 65, 66, 67, 68, 69, 70, 71, 72, 73, 74, 75, 76, 77, 78, 79, 80, 81, 82, 83, 84, 85, 86, 87, 88, 89, 90, 91, 92, 93, 94, 95, 96, 97, 98, 99, 100, 101, 102, 103, 104, 105, 106, 107, 108, 109, 110, 111, 112, 113, 114, 115, 116, 117, 118, 119, 120, 121, 122, 123, 124, 125, 126, 127, 128, 129, 130, 131, 132, 133, 134, 135, 136, 137, 13, 138, 16, 15, 140, 141, 142, 143, 144, 145, 146, 147, 148, 149, 150, 151, 152, 153, 161, 162, 163, 164, 165, 166, 167, 168, 169, 170, 171, 159, 160, 154, 155, 156, 157, 158, 172, 173, 174, 175, 176] (by decide +kernel) (by decide +kernel)
set_option maxRecDepth 20000 in
theorem gX11_later_X11_passNight : GoodIn wsX11_later (wsV RX11 166 RX11 yX11_passNight wsX11_passNight) := goodIn_app (goodIn_of _ (by decide +kernel)) ggX11_later_X11_passNight
set_option maxRecDepth 20000 in
theorem ggX11_later_X11_findWay : GoodIn wsX11_later wsX11_findWay := goodIn_r _ [30, 4, 25, 31, 32, 33, 34, 35, 36, 37, 38, 39, 40, 41, 42, 43, 44, 45, 46, 47, 48, 49, 50, 51, 52, 53, 54, 55, 56, 57, 58, 59, 60, 61, 62, 63, 64, 65, 66, 67, 68, 69, 70, 71, 72, 73, 74, 75, 76, 77, 78, 79, 80, 81, 82, 83, 84, 85, 140, 141, 142, 143, 144, 145, 146, 147, 148, 149, 150, 151, 152, 153, 161, 162, 163, 164, 165, 166, 167, 168, 169, 170, 171, 159, 160, 154, 155, 156, 157, 158, 172, 173, 174, 175, 176] (by decide +kernel) (by decide +kernel)
set_option maxRecDepth 20000 in
theorem gX11_later_X11_findWay : GoodIn wsX11_later (wsV RX11 142 RX11 yX11_findWay wsX11_findWay) := goodIn_app (goodIn_of _ (by decide +kernel)) ggX11_later_X11_findWay
set_option maxRecDepth 20000 in
theorem ggX11_later_X10_isThere : GoodIn wsX11_later wsX10_isThere := goodIn_r _ [101, 56, 154, 155, 156, 157, 158] (by decide +kernel) (by decide +kernel)
set_option maxRecDepth 20000 in
theorem gX11_later_X10_isThere : GoodIn wsX11_later (wsV RX11 150 RX10 yX10_isThere wsX10_isThere) := goodIn_app (goodIn_of _ (by decide +kernel)) ggX11_later_X10_isThere
theorem dX11_later_0 : decode cX11_later 0 = .ok (.iload_n 1, 1) := by decide +kernel
theorem dX11_later_1 : decode cX11_later 1 = .ok (.iconst 0, 1) := by decide +kernel
theorem dX11_later_2 : decode cX11_later 2 = .ok (.bipush 99, 2) := by decide +kernel
theorem dX11_later_4 : decode cX11_later 4 = .ok (.invokestatic 90, 3) := by decide +kernel
theorem dX11_later_7 : decode cX11_later 7 = .ok (.ifCond .eq 6, 3) := by decide +kernel
theorem dX11_later_10 : decode cX11_later 10 = .ok (.bipush (-3), 2) := by decide +kernel
theorem dX11_later_12 : decode cX11_later 12 = .ok (.ireturn, 1) := by decide +kernel
theorem dX11_later_13 : decode cX11_later 13 = .ok (.aload_n 0, 1) := by decide +kernel
theorem dX11_later_14 : decode cX11_later 14 = .ok (.getfield 33, 3) := by decide +kernel
theorem dX11_later_17 : decode cX11_later 17 = .ok (.aload_n 0, 1) := by decide +kernel
theorem dX11_later_18 : decode cX11_later 18 = .ok (.getfield 29, 3) := by decide +kernel
theorem dX11_later_21 : decode cX11_later 21 = .ok (.invokevirtual 191, 3) := by decide +kernel
theorem dX11_later_24 : decode cX11_later 24 = .ok (.iconst 0, 1) := by decide +kernel
theorem dX11_later_25 : decode cX11_later 25 = .ok (.istore_n 2, 1) := by decide +kernel
theorem dX11_later_26 : decode cX11_later 26 = .ok (.iload_n 2, 1) := by decide +kernel
theorem dX11_later_27 : decode cX11_later 27 = .ok (.iload_n 1, 1) := by decide +kernel
theorem dX11_later_28 : decode cX11_later 28 = .ok (.if_icmp .ge 22, 3) := by decide +kernel
theorem dX11_later_31 : decode cX11_later 31 = .ok (.aload_n 0, 1) := by decide +kernel
theorem dX11_later_32 : decode cX11_later 32 = .ok (.aload_n 0, 1) := by decide +kernel
theorem dX11_later_33 : decode cX11_later 33 = .ok (.getfield 19, 3) := by decide +kernel
theorem dX11_later_36 : decode cX11_later 36 = .ok (.aload_n 0, 1) := by decide +kernel
theorem dX11_later_37 : decode cX11_later 37 = .ok (.getfield 33, 3) := by decide +kernel
theorem dX11_later_40 : decode cX11_later 40 = .ok (.invokevirtual 166, 3) := by decide +kernel
theorem dX11_later_43 : decode cX11_later 43 = .ok (.pop, 1) := by decide +kernel
theorem dX11_later_44 : decode cX11_later 44 = .ok (.iinc 2 1, 3) := by decide +kernel
theorem dX11_later_47 : decode cX11_later 47 = .ok (.goto (-21), 3) := by decide +kernel
theorem dX11_later_50 : decode cX11_later 50 = .ok (.aload_n 0, 1) := by decide +kernel
theorem dX11_later_51 : decode cX11_later 51 = .ok (.aload_n 0, 1) := by decide +kernel
theorem dX11_later_52 : decode cX11_later 52 = .ok (.getfield 19, 3) := by decide +kernel
theorem dX11_later_55 : decode cX11_later 55 = .ok (.aload_n 0, 1) := by decide +kernel
theorem dX11_later_56 : decode cX11_later 56 = .ok (.getfield 33, 3) := by decide +kernel
theorem dX11_later_59 : decode cX11_later 59 = .ok (.invokevirtual 142, 3) := by decide +kernel
theorem dX11_later_62 : decode cX11_later 62 = .ok (.aload_n 0, 1) := by decide +kernel
theorem dX11_later_63 : decode cX11_later 63 = .ok (.getfield 50, 3) := by decide +kernel
theorem dX11_later_66 : decode cX11_later 66 = .ok (.invokevirtual 150, 3) := by decide +kernel
theorem dX11_later_69 : decode cX11_later 69 = .ok (.ifCond .eq 13, 3) := by decide +kernel
theorem dX11_later_72 : decode cX11_later 72 = .ok (.aload_n 0, 1) := by decide +kernel
theorem dX11_later_73 : decode cX11_later 73 = .ok (.getfield 50, 3) := by decide +kernel
theorem dX11_later_76 : decode cX11_later 76 = .ok (.getfield 160, 3) := by decide +kernel
theorem dX11_later_79 : decode cX11_later 79 = .ok (.goto 4, 3) := by decide +kernel
theorem dX11_later_82 : decode cX11_later 82 = .ok (.iconst (-1), 1) := by decide +kernel
theorem dX11_later_83 : decode cX11_later 83 = .ok (.ireturn, 1) := by decide +kernel
set_option maxRecDepth 20000 in
theorem ggX11_never_X1_copyFrom : GoodIn wsX11_never wsX1_copyFrom := goodIn_r _ [9, 10, 11, 12, 13, 14, 15, 150, 151] (by decide +kernel) (by decide +kernel)
set_option maxRecDepth 20000 in
theorem gX11_never_X1_copyFrom : GoodIn wsX11_never (wsV RX11 191 RX1 yX1_copyFrom wsX1_copyFrom) := goodIn_app (goodIn_of _ (by decide +kernel)) ggX11_never_X1_copyFrom
set_option maxRecDepth 20000 in
theorem ggX11_never_X11_passNight : GoodIn wsX11_never wsX11_passNight := goodIn_r _ [20, 4, 21, 22, 23, 24, 25, 19, 26, 27, 28, 29, 30, 31, 32, 33, 34, 35, 36, 37, 38, 39, 40, 41, 42, 43, 44, 45, 46, 47, 48, 49, 50, 51, 52, 53, 54, 55, 56, 57, 58, 59, 60, 61, 62, 63, 64, 65, 66, 67, 68, 69, 70, 71, 72, 73, 74, 75, 76, 77, 78, 79, 80, 81, 82, 83, 84, 85, 86, 87, 88, 89, 90, 91, 92, 93, 94, 95, 96, 97, 98, 99, 100, 101, 102, 103, 104, 105, 106, 107, 108, 109, 110, 111, 112, 113, 114, 115, 116, 117, 118, 119, 120, 121, 122, 123, 124, 125, 126, 127, 128, 129, 130, 131, 132, 133, 8, 134, 11, 10, 136, 137, 138, 139, 140, 141, 142, 143, 144, 145, 146, 147, 148, 149, 152, 153, 154, 155, 156, 157, 158, 159, 160, 161, 162, 150, 151, 163, 164, 165, 166, 167, 168, 169, 170, 171, 172] (by decide +kernel) (by decide +kernel)
set_option maxRecDepth 20000 in
theorem gX11_never_X11_passNight : GoodIn wsX11_never (wsV RX11 166 RX11 yX11_passNight wsX11_passNight) := goodIn_app (goodIn_of _ (by decide +kernel)) ggX11_never_X11_passNight
set_option maxRecDepth 20000 in
theorem ggX11_never_X10_isThere : GoodIn wsX11_never wsX10_isThere := goodIn_r _ [97, 52, 163, 164, 165, 166, 167] (by decide +kernel) (by decide +kernel)
set_option maxRecDepth 20000 in
theorem gX11_never_X10_isThere : GoodIn wsX11_never (wsV RX11 150 RX10 yX10_isThere wsX10_isThere) := goodIn_app (goodIn_of _ (by decide +kernel)) ggX11_never_X10_isThere
theorem dX11_never_0 : decode cX11_never 0 = .ok (.aload_n 0, 1) := by decide +kernel
theorem dX11_never_1 : decode cX11_never 1 = .ok (.getfield 33, 3) := by decide +kernel
theorem dX11_never_4 : decode cX11_never 4 = .ok (.aload_n 0, 1) := by decide +kernel
theorem dX11_never_5 : decode cX11_never 5 = .ok (.getfield 29, 3) := by decide +kernel
theorem dX11_never_8 : decode cX11_never 8 = .ok (.invokevirtual 191, 3) := by decide +kernel
theorem dX11_never_11 : decode cX11_never 11 = .ok (.iconst 0, 1) := by decide +kernel
theorem dX11_never_12 : decode cX11_never 12 = .ok (.istore_n 1, 1) := by decide +kernel
theorem dX11_never_13 : decode cX11_never 13 = .ok (.iload_n 1, 1) := by decide +kernel
theorem dX11_never_14 : decode cX11_never 14 = .ok (.sipush 400, 3) := by decide +kernel
theorem dX11_never_17 : decode cX11_never 17 = .ok (.if_icmp .ge 34, 3) := by decide +kernel
theorem dX11_never_20 : decode cX11_never 20 = .ok (.aload_n 0, 1) := by decide +kernel
theorem dX11_never_21 : decode cX11_never 21 = .ok (.aload_n 0, 1) := by decide +kernel
theorem dX11_never_22 : decode cX11_never 22 = .ok (.getfield 19, 3) := by decide +kernel
theorem dX11_never_25 : decode cX11_never 25 = .ok (.aload_n 0, 1) := by decide +kernel
theorem dX11_never_26 : decode cX11_never 26 = .ok (.getfield 33, 3) := by decide +kernel
theorem dX11_never_29 : decode cX11_never 29 = .ok (.invokevirtual 166, 3) := by decide +kernel
theorem dX11_never_32 : decode cX11_never 32 = .ok (.pop, 1) := by decide +kernel
theorem dX11_never_33 : decode cX11_never 33 = .ok (.aload_n 0, 1) := by decide +kernel
theorem dX11_never_34 : decode cX11_never 34 = .ok (.getfield 50, 3) := by decide +kernel
theorem dX11_never_37 : decode cX11_never 37 = .ok (.invokevirtual 150, 3) := by decide +kernel
theorem dX11_never_40 : decode cX11_never 40 = .ok (.ifCond .ne 5, 3) := by decide +kernel
theorem dX11_never_43 : decode cX11_never 43 = .ok (.iload_n 1, 1) := by decide +kernel
theorem dX11_never_44 : decode cX11_never 44 = .ok (.ireturn, 1) := by decide +kernel
theorem dX11_never_45 : decode cX11_never 45 = .ok (.iinc 1 1, 3) := by decide +kernel
theorem dX11_never_48 : decode cX11_never 48 = .ok (.goto (-35), 3) := by decide +kernel
theorem dX11_never_51 : decode cX11_never 51 = .ok (.iconst (-1), 1) := by decide +kernel
theorem dX11_never_52 : decode cX11_never 52 = .ok (.ireturn, 1) := by decide +kernel
set_option maxRecDepth 20000 in
theorem ggX11_apart_X6_marketOf : GoodIn wsX11_apart wsX6_marketOf := goodIn_r _ [14, 15, 16, 17, 18, 19, 13, 20, 21, 52, 53, 54, 55, 56, 57, 58, 59, 60, 61, 62] (by decide +kernel) (by decide +kernel)
set_option maxRecDepth 20000 in
theorem gX11_apart_X6_marketOf : GoodIn wsX11_apart (wsV RX11 194 RX6 yX6_marketOf wsX6_marketOf) := goodIn_app (goodIn_of _ (by decide +kernel)) ggX11_apart_X6_marketOf
set_option maxRecDepth 20000 in
theorem ggX11_apart_X6_quayOf : GoodIn wsX11_apart wsX6_quayOf := goodIn_r _ [25, 26, 27, 17, 18, 19, 13, 20, 21, 52, 53, 54, 55, 56, 57, 58, 59, 60, 61, 62] (by decide +kernel) (by decide +kernel)
set_option maxRecDepth 20000 in
theorem gX11_apart_X6_quayOf : GoodIn wsX11_apart (wsV RX11 197 RX6 yX6_quayOf wsX6_quayOf) := goodIn_app (goodIn_of _ (by decide +kernel)) ggX11_apart_X6_quayOf
set_option maxRecDepth 20000 in
theorem ggX11_apart_X7_leaving : GoodIn wsX11_apart wsX7_leaving := goodIn_r _ [32, 33, 34, 35, 63, 64, 65, 66, 67] (by decide +kernel) (by decide +kernel)
set_option maxRecDepth 20000 in
theorem gX11_apart_X7_leaving : GoodIn wsX11_apart (wsV RX11 203 RX7 yX7_leaving wsX7_leaving) := goodIn_app (goodIn_of _ (by decide +kernel)) ggX11_apart_X7_leaving
theorem dX11_apart_0 : decode cX11_apart 0 = .ok (.iconst 1, 1) := by decide +kernel
theorem dX11_apart_1 : decode cX11_apart 1 = .ok (.aload_n 0, 1) := by decide +kernel
theorem dX11_apart_2 : decode cX11_apart 2 = .ok (.getfield 19, 3) := by decide +kernel
theorem dX11_apart_5 : decode cX11_apart 5 = .ok (.aload_n 0, 1) := by decide +kernel
theorem dX11_apart_6 : decode cX11_apart 6 = .ok (.getfield 29, 3) := by decide +kernel
theorem dX11_apart_9 : decode cX11_apart 9 = .ok (.getfield 163, 3) := by decide +kernel
theorem dX11_apart_12 : decode cX11_apart 12 = .ok (.invokevirtual 194, 3) := by decide +kernel
theorem dX11_apart_15 : decode cX11_apart 15 = .ok (.ishl, 1) := by decide +kernel
theorem dX11_apart_16 : decode cX11_apart 16 = .ok (.istore_n 1, 1) := by decide +kernel
theorem dX11_apart_17 : decode cX11_apart 17 = .ok (.iconst 1, 1) := by decide +kernel
theorem dX11_apart_18 : decode cX11_apart 18 = .ok (.aload_n 0, 1) := by decide +kernel
theorem dX11_apart_19 : decode cX11_apart 19 = .ok (.getfield 19, 3) := by decide +kernel
theorem dX11_apart_22 : decode cX11_apart 22 = .ok (.aload_n 0, 1) := by decide +kernel
theorem dX11_apart_23 : decode cX11_apart 23 = .ok (.getfield 29, 3) := by decide +kernel
theorem dX11_apart_26 : decode cX11_apart 26 = .ok (.getfield 163, 3) := by decide +kernel
theorem dX11_apart_29 : decode cX11_apart 29 = .ok (.invokevirtual 197, 3) := by decide +kernel
theorem dX11_apart_32 : decode cX11_apart 32 = .ok (.ishl, 1) := by decide +kernel
theorem dX11_apart_33 : decode cX11_apart 33 = .ok (.istore_n 2, 1) := by decide +kernel
theorem dX11_apart_34 : decode cX11_apart 34 = .ok (.bipush 12, 2) := by decide +kernel
theorem dX11_apart_36 : decode cX11_apart 36 = .ok (.istore_n 3, 1) := by decide +kernel
theorem dX11_apart_37 : decode cX11_apart 37 = .ok (.iconst 0, 1) := by decide +kernel
theorem dX11_apart_38 : decode cX11_apart 38 = .ok (.istore 4, 2) := by decide +kernel
theorem dX11_apart_40 : decode cX11_apart 40 = .ok (.iload 4, 2) := by decide +kernel
theorem dX11_apart_42 : decode cX11_apart 42 = .ok (.iconst 1, 1) := by decide +kernel
theorem dX11_apart_43 : decode cX11_apart 43 = .ok (.aload_n 0, 1) := by decide +kernel
theorem dX11_apart_44 : decode cX11_apart 44 = .ok (.getfield 19, 3) := by decide +kernel
theorem dX11_apart_47 : decode cX11_apart 47 = .ok (.getfield 200, 3) := by decide +kernel
theorem dX11_apart_50 : decode cX11_apart 50 = .ok (.ishl, 1) := by decide +kernel
theorem dX11_apart_51 : decode cX11_apart 51 = .ok (.if_icmp .ge 40, 3) := by decide +kernel
theorem dX11_apart_54 : decode cX11_apart 54 = .ok (.iload 4, 2) := by decide +kernel
theorem dX11_apart_56 : decode cX11_apart 56 = .ok (.iload_n 1, 1) := by decide +kernel
theorem dX11_apart_57 : decode cX11_apart 57 = .ok (.iand, 1) := by decide +kernel
theorem dX11_apart_58 : decode cX11_apart 58 = .ok (.ifCond .eq 27, 3) := by decide +kernel
theorem dX11_apart_61 : decode cX11_apart 61 = .ok (.iload 4, 2) := by decide +kernel
theorem dX11_apart_63 : decode cX11_apart 63 = .ok (.iload_n 2, 1) := by decide +kernel
theorem dX11_apart_64 : decode cX11_apart 64 = .ok (.iand, 1) := by decide +kernel
theorem dX11_apart_65 : decode cX11_apart 65 = .ok (.ifCond .ne 20, 3) := by decide +kernel
theorem dX11_apart_68 : decode cX11_apart 68 = .ok (.iload_n 3, 1) := by decide +kernel
theorem dX11_apart_69 : decode cX11_apart 69 = .ok (.aload_n 0, 1) := by decide +kernel
theorem dX11_apart_70 : decode cX11_apart 70 = .ok (.getfield 19, 3) := by decide +kernel
theorem dX11_apart_73 : decode cX11_apart 73 = .ok (.getfield 115, 3) := by decide +kernel
theorem dX11_apart_76 : decode cX11_apart 76 = .ok (.iload 4, 2) := by decide +kernel
theorem dX11_apart_78 : decode cX11_apart 78 = .ok (.invokevirtual 203, 3) := by decide +kernel
theorem dX11_apart_81 : decode cX11_apart 81 = .ok (.invokestatic 206, 3) := by decide +kernel
theorem dX11_apart_84 : decode cX11_apart 84 = .ok (.istore_n 3, 1) := by decide +kernel
theorem dX11_apart_85 : decode cX11_apart 85 = .ok (.iinc 4 1, 3) := by decide +kernel
theorem dX11_apart_88 : decode cX11_apart 88 = .ok (.goto (-48), 3) := by decide +kernel
theorem dX11_apart_91 : decode cX11_apart 91 = .ok (.iload_n 3, 1) := by decide +kernel
theorem dX11_apart_92 : decode cX11_apart 92 = .ok (.ireturn, 1) := by decide +kernel
set_option maxRecDepth 20000 in
theorem ggX11_round_X11_isOutside : GoodIn wsX11_round wsX11_isOutside := goodIn_r _ [9] (by decide +kernel) (by decide +kernel)
set_option maxRecDepth 20000 in
theorem gX11_round_X11_isOutside : GoodIn wsX11_round (va_wsS RX11 90 yX11_isOutside wsX11_isOutside) := goodIn_app (goodIn_of _ (by decide +kernel)) ggX11_round_X11_isOutside
set_option maxRecDepth 20000 in
theorem ggX11_round_X1_copyFrom : GoodIn wsX11_round wsX1_copyFrom := goodIn_r _ [14, 15, 16, 17, 18, 19, 20, 171, 172] (by decide +kernel) (by decide +kernel)
set_option maxRecDepth 20000 in
theorem gX11_round_X1_copyFrom : GoodIn wsX11_round (wsV RX11 191 RX1 yX1_copyFrom wsX1_copyFrom) := goodIn_app (goodIn_of _ (by decide +kernel)) ggX11_round_X1_copyFrom
set_option maxRecDepth 20000 in
theorem ggX11_round_X6_turnOf : GoodIn wsX11_round wsX6_turnOf := goodIn_r _ [25, 26, 173, 174, 175, 176, 177, 178, 179, 180, 181, 182, 183] (by decide +kernel) (by decide +kernel)
set_option maxRecDepth 20000 in
theorem gX11_round_X6_turnOf : GoodIn wsX11_round (wsV RX11 209 RX6 yX6_turnOf wsX6_turnOf) := goodIn_app (goodIn_of _ (by decide +kernel)) ggX11_round_X6_turnOf
set_option maxRecDepth 20000 in
theorem ggX11_round_X9_put : GoodIn wsX11_round wsX9_put := goodIn_r _ [31, 32, 33, 34, 35, 36, 37, 30, 38, 39, 184, 185, 171, 172] (by decide +kernel) (by decide +kernel)
set_option maxRecDepth 20000 in
theorem gX11_round_X9_put : GoodIn wsX11_round (wsV RX11 212 RX9 yX9_put wsX9_put) := goodIn_app (goodIn_of _ (by decide +kernel)) ggX11_round_X9_put
set_option maxRecDepth 20000 in
theorem ggX11_round_X9_firstLike : GoodIn wsX11_round wsX9_firstLike := goodIn_r _ [43, 32, 34, 184, 185] (by decide +kernel) (by decide +kernel)
set_option maxRecDepth 20000 in
theorem gX11_round_X9_firstLike : GoodIn wsX11_round (wsV RX11 216 RX9 yX9_firstLike wsX9_firstLike) := goodIn_app (goodIn_of _ (by decide +kernel)) ggX11_round_X9_firstLike
set_option maxRecDepth 20000 in
theorem ggX11_round_X11_passNight : GoodIn wsX11_round wsX11_passNight := goodIn_r _ [47, 48, 49, 50, 51, 52, 53, 8, 54, 55, 5, 56, 57, 58, 24, 59, 60, 61, 62, 22, 23, 25, 26, 63, 64, 65, 66, 67, 68, 69, 70, 71, 72, 73, 74, 75, 76, 77, 78, 79, 80, 81, 82, 83, 84, 85, 86, 87, 88, 89, 90, 91, 92, 93, 94, 95, 96, 97, 98, 99, 100, 101, 102, 103, 104, 105, 106, 107, 108, 109, 110, 111, 112, 113, 114, 115, 116, 117, 118, 119, 120, 121, 122, 123, 124, 125, 126, 127, 128, 129, 130, 131, 132, 133, 134, 135, 136, 137, 138, 139, 140, 141, 142, 143, 144, 145, 146, 147, 148, 149, 150, 151, 152, 153, 154, 155, 13, 156, 16, 15, 157, 158, 159, 160, 161, 162, 163, 164, 165, 166, 167, 168, 169, 170, 173, 174, 175, 176, 177, 178, 179, 180, 181, 182, 183, 171, 172, 186, 187, 188, 189, 190, 191, 192, 193, 194, 195] (by decide +kernel) (by decide +kernel)
set_option maxRecDepth 20000 in
theorem gX11_round_X11_passNight : GoodIn wsX11_round (wsV RX11 166 RX11 yX11_passNight wsX11_passNight) := goodIn_app (goodIn_of _ (by decide +kernel)) ggX11_round_X11_passNight
theorem dX11_round_0 : decode cX11_round 0 = .ok (.iload_n 1, 1) := by decide +kernel
theorem dX11_round_1 : decode cX11_round 1 = .ok (.iconst 0, 1) := by decide +kernel
theorem dX11_round_2 : decode cX11_round 2 = .ok (.iconst 1, 1) := by decide +kernel
theorem dX11_round_3 : decode cX11_round 3 = .ok (.invokestatic 90, 3) := by decide +kernel
theorem dX11_round_6 : decode cX11_round 6 = .ok (.ifCond .eq 6, 3) := by decide +kernel
theorem dX11_round_9 : decode cX11_round 9 = .ok (.bipush (-3), 2) := by decide +kernel
theorem dX11_round_11 : decode cX11_round 11 = .ok (.ireturn, 1) := by decide +kernel
theorem dX11_round_12 : decode cX11_round 12 = .ok (.aload_n 0, 1) := by decide +kernel
theorem dX11_round_13 : decode cX11_round 13 = .ok (.getfield 33, 3) := by decide +kernel
theorem dX11_round_16 : decode cX11_round 16 = .ok (.aload_n 0, 1) := by decide +kernel
theorem dX11_round_17 : decode cX11_round 17 = .ok (.getfield 29, 3) := by decide +kernel
theorem dX11_round_20 : decode cX11_round 20 = .ok (.invokevirtual 191, 3) := by decide +kernel
theorem dX11_round_23 : decode cX11_round 23 = .ok (.iconst 0, 1) := by decide +kernel
theorem dX11_round_24 : decode cX11_round 24 = .ok (.istore_n 2, 1) := by decide +kernel
theorem dX11_round_25 : decode cX11_round 25 = .ok (.iload_n 2, 1) := by decide +kernel
theorem dX11_round_26 : decode cX11_round 26 = .ok (.sipush 1000, 3) := by decide +kernel
theorem dX11_round_29 : decode cX11_round 29 = .ok (.if_icmp .gt 74, 3) := by decide +kernel
theorem dX11_round_32 : decode cX11_round 32 = .ok (.aload_n 0, 1) := by decide +kernel
theorem dX11_round_33 : decode cX11_round 33 = .ok (.getfield 83, 3) := by decide +kernel
theorem dX11_round_36 : decode cX11_round 36 = .ok (.iload_n 2, 1) := by decide +kernel
theorem dX11_round_37 : decode cX11_round 37 = .ok (.aload_n 0, 1) := by decide +kernel
theorem dX11_round_38 : decode cX11_round 38 = .ok (.getfield 33, 3) := by decide +kernel
theorem dX11_round_41 : decode cX11_round 41 = .ok (.aload_n 0, 1) := by decide +kernel
theorem dX11_round_42 : decode cX11_round 42 = .ok (.getfield 19, 3) := by decide +kernel
theorem dX11_round_45 : decode cX11_round 45 = .ok (.aload_n 0, 1) := by decide +kernel
theorem dX11_round_46 : decode cX11_round 46 = .ok (.getfield 33, 3) := by decide +kernel
theorem dX11_round_49 : decode cX11_round 49 = .ok (.getfield 163, 3) := by decide +kernel
theorem dX11_round_52 : decode cX11_round 52 = .ok (.invokevirtual 209, 3) := by decide +kernel
theorem dX11_round_55 : decode cX11_round 55 = .ok (.invokevirtual 212, 3) := by decide +kernel
theorem dX11_round_58 : decode cX11_round 58 = .ok (.aload_n 0, 1) := by decide +kernel
theorem dX11_round_59 : decode cX11_round 59 = .ok (.getfield 83, 3) := by decide +kernel
theorem dX11_round_62 : decode cX11_round 62 = .ok (.iload_n 2, 1) := by decide +kernel
theorem dX11_round_63 : decode cX11_round 63 = .ok (.invokevirtual 216, 3) := by decide +kernel
theorem dX11_round_66 : decode cX11_round 66 = .ok (.istore_n 3, 1) := by decide +kernel
theorem dX11_round_67 : decode cX11_round 67 = .ok (.iload_n 3, 1) := by decide +kernel
theorem dX11_round_68 : decode cX11_round 68 = .ok (.iload_n 2, 1) := by decide +kernel
theorem dX11_round_69 : decode cX11_round 69 = .ok (.if_icmp .ge 15, 3) := by decide +kernel
theorem dX11_round_72 : decode cX11_round 72 = .ok (.iload_n 1, 1) := by decide +kernel
theorem dX11_round_73 : decode cX11_round 73 = .ok (.ifCond .ne 7, 3) := by decide +kernel
theorem dX11_round_76 : decode cX11_round 76 = .ok (.iload_n 3, 1) := by decide +kernel
theorem dX11_round_77 : decode cX11_round 77 = .ok (.goto 6, 3) := by decide +kernel
theorem dX11_round_80 : decode cX11_round 80 = .ok (.iload_n 2, 1) := by decide +kernel
theorem dX11_round_81 : decode cX11_round 81 = .ok (.iload_n 3, 1) := by decide +kernel
theorem dX11_round_82 : decode cX11_round 82 = .ok (.isub, 1) := by decide +kernel
theorem dX11_round_83 : decode cX11_round 83 = .ok (.ireturn, 1) := by decide +kernel
theorem dX11_round_84 : decode cX11_round 84 = .ok (.aload_n 0, 1) := by decide +kernel
theorem dX11_round_85 : decode cX11_round 85 = .ok (.aload_n 0, 1) := by decide +kernel
theorem dX11_round_86 : decode cX11_round 86 = .ok (.getfield 19, 3) := by decide +kernel
theorem dX11_round_89 : decode cX11_round 89 = .ok (.aload_n 0, 1) := by decide +kernel
theorem dX11_round_90 : decode cX11_round 90 = .ok (.getfield 33, 3) := by decide +kernel
theorem dX11_round_93 : decode cX11_round 93 = .ok (.invokevirtual 166, 3) := by decide +kernel
theorem dX11_round_96 : decode cX11_round 96 = .ok (.pop, 1) := by decide +kernel
theorem dX11_round_97 : decode cX11_round 97 = .ok (.iinc 2 1, 3) := by decide +kernel
theorem dX11_round_100 : decode cX11_round 100 = .ok (.goto (-75), 3) := by decide +kernel
theorem dX11_round_103 : decode cX11_round 103 = .ok (.iconst (-1), 1) := by decide +kernel
theorem dX11_round_104 : decode cX11_round 104 = .ok (.ireturn, 1) := by decide +kernel
set_option maxRecDepth 20000 in
theorem ggX11_passed_X7_has : GoodIn wsX11_passed wsX7_has := goodIn_r _ [8, 9, 177, 178, 179, 180, 181] (by decide +kernel) (by decide +kernel)
set_option maxRecDepth 20000 in
theorem gX11_passed_X7_has : GoodIn wsX11_passed (wsV RX11 119 RX7 yX7_has wsX7_has) := goodIn_app (goodIn_of _ (by decide +kernel)) ggX11_passed_X7_has
set_option maxRecDepth 20000 in
theorem ggX11_passed_X11_isOutside : GoodIn wsX11_passed wsX11_isOutside := goodIn_r _ [13] (by decide +kernel) (by decide +kernel)
set_option maxRecDepth 20000 in
theorem gX11_passed_X11_isOutside : GoodIn wsX11_passed (va_wsS RX11 90 yX11_isOutside wsX11_isOutside) := goodIn_app (goodIn_of _ (by decide +kernel)) ggX11_passed_X11_isOutside
set_option maxRecDepth 20000 in
theorem ggX11_passed_X11_countPasses : GoodIn wsX11_passed wsX11_countPasses := goodIn_r _ [17, 3, 18, 19, 1, 20, 21, 22, 23, 24, 25, 26, 27, 28, 29, 30, 31, 32, 33, 34, 35, 36, 37, 38, 39, 40, 12, 41, 2, 42, 43, 44, 45, 46, 47, 48, 49, 50, 51, 52, 53, 54, 55, 56, 57, 58, 59, 60, 61, 62, 63, 64, 65, 66, 67, 68, 69, 70, 71, 72, 73, 74, 75, 76, 77, 78, 79, 80, 81, 82, 83, 84, 85, 86, 87, 88, 89, 90, 91, 92, 93, 94, 95, 96, 97, 98, 99, 100, 101, 102, 103, 104, 105, 106, 107, 108, 109, 110, 111, 112, 113, 114, 115, 116, 117, 118, 119, 120, 121, 122, 123, 124, 125, 126, 127, 128, 129, 130, 131, 132, 133, 134, 135, 136, 137, 138, 139, 140, 141, 142, 143, 144, 145, 146, 147, 148, 149, 150, 151, 152, 153, 154, 155, 156, 157, 158, 159, 160, 161, 162, 163, 164, 165, 182, 183, 184, 185, 186, 187, 188, 166, 167, 168, 169, 170, 171, 172, 173, 174, 175, 176, 177, 178, 179, 180, 181] (by decide +kernel) (by decide +kernel)
set_option maxRecDepth 20000 in
theorem gX11_passed_X11_countPasses : GoodIn wsX11_passed (wsV RX11 219 RX11 yX11_countPasses wsX11_countPasses) := goodIn_app (goodIn_of _ (by decide +kernel)) ggX11_passed_X11_countPasses
theorem dX11_passed_0 : decode cX11_passed 0 = .ok (.aload_n 0, 1) := by decide +kernel
theorem dX11_passed_1 : decode cX11_passed 1 = .ok (.getfield 19, 3) := by decide +kernel
theorem dX11_passed_4 : decode cX11_passed 4 = .ok (.getfield 115, 3) := by decide +kernel
theorem dX11_passed_7 : decode cX11_passed 7 = .ok (.iload_n 1, 1) := by decide +kernel
theorem dX11_passed_8 : decode cX11_passed 8 = .ok (.invokevirtual 119, 3) := by decide +kernel
theorem dX11_passed_11 : decode cX11_passed 11 = .ok (.ifCond .ne 6, 3) := by decide +kernel
theorem dX11_passed_14 : decode cX11_passed 14 = .ok (.bipush (-2), 2) := by decide +kernel
theorem dX11_passed_16 : decode cX11_passed 16 = .ok (.ireturn, 1) := by decide +kernel
theorem dX11_passed_17 : decode cX11_passed 17 = .ok (.iload_n 2, 1) := by decide +kernel
theorem dX11_passed_18 : decode cX11_passed 18 = .ok (.iconst 1, 1) := by decide +kernel
theorem dX11_passed_19 : decode cX11_passed 19 = .ok (.bipush 99, 2) := by decide +kernel
theorem dX11_passed_21 : decode cX11_passed 21 = .ok (.invokestatic 90, 3) := by decide +kernel
theorem dX11_passed_24 : decode cX11_passed 24 = .ok (.ifCond .eq 6, 3) := by decide +kernel
theorem dX11_passed_27 : decode cX11_passed 27 = .ok (.bipush (-3), 2) := by decide +kernel
theorem dX11_passed_29 : decode cX11_passed 29 = .ok (.ireturn, 1) := by decide +kernel
theorem dX11_passed_30 : decode cX11_passed 30 = .ok (.aload_n 0, 1) := by decide +kernel
theorem dX11_passed_31 : decode cX11_passed 31 = .ok (.iload_n 2, 1) := by decide +kernel
theorem dX11_passed_32 : decode cX11_passed 32 = .ok (.invokevirtual 219, 3) := by decide +kernel
theorem dX11_passed_35 : decode cX11_passed 35 = .ok (.aload_n 0, 1) := by decide +kernel
theorem dX11_passed_36 : decode cX11_passed 36 = .ok (.getfield 87, 3) := by decide +kernel
theorem dX11_passed_39 : decode cX11_passed 39 = .ok (.iload_n 1, 1) := by decide +kernel
theorem dX11_passed_40 : decode cX11_passed 40 = .ok (.iaload, 1) := by decide +kernel
theorem dX11_passed_41 : decode cX11_passed 41 = .ok (.ireturn, 1) := by decide +kernel
set_option maxRecDepth 20000 in
theorem ggX11_most_X11_isOutside : GoodIn wsX11_most wsX11_isOutside := goodIn_r _ [8] (by decide +kernel) (by decide +kernel)
set_option maxRecDepth 20000 in
theorem gX11_most_X11_isOutside : GoodIn wsX11_most (va_wsS RX11 90 yX11_isOutside wsX11_isOutside) := goodIn_app (goodIn_of _ (by decide +kernel)) ggX11_most_X11_isOutside
set_option maxRecDepth 20000 in
theorem ggX11_most_X11_countPasses : GoodIn wsX11_most wsX11_countPasses := goodIn_r _ [12, 4, 13, 14, 1, 15, 16, 17, 18, 19, 20, 21, 22, 23, 24, 25, 26, 27, 28, 29, 30, 31, 32, 33, 34, 35, 7, 36, 2, 37, 38, 39, 40, 41, 42, 43, 44, 45, 46, 47, 48, 49, 50, 51, 52, 53, 54, 55, 56, 57, 58, 59, 60, 61, 62, 63, 64, 65, 66, 67, 68, 69, 70, 71, 72, 73, 74, 75, 76, 77, 78, 79, 80, 81, 82, 83, 84, 85, 86, 87, 88, 89, 90, 91, 92, 93, 94, 95, 96, 97, 98, 99, 100, 101, 102, 103, 104, 105, 106, 107, 108, 109, 110, 111, 112, 113, 114, 115, 116, 117, 118, 119, 120, 121, 122, 123, 124, 125, 126, 127, 128, 129, 130, 131, 132, 133, 134, 135, 136, 137, 138, 139, 140, 141, 142, 143, 144, 145, 146, 147, 148, 149, 150, 151, 152, 153, 154, 155, 156, 157, 158, 159, 160, 177, 178, 179, 180, 181, 182, 183, 161, 162, 163, 164, 165, 166, 167, 168, 169, 170, 171, 172, 173, 174, 175, 176] (by decide +kernel) (by decide +kernel)
set_option maxRecDepth 20000 in
theorem gX11_most_X11_countPasses : GoodIn wsX11_most (wsV RX11 219 RX11 yX11_countPasses wsX11_countPasses) := goodIn_app (goodIn_of _ (by decide +kernel)) ggX11_most_X11_countPasses
theorem dX11_most_0 : decode cX11_most 0 = .ok (.iload_n 1, 1) := by decide +kernel
theorem dX11_most_1 : decode cX11_most 1 = .ok (.iconst 1, 1) := by decide +kernel
theorem dX11_most_2 : decode cX11_most 2 = .ok (.bipush 99, 2) := by decide +kernel
theorem dX11_most_4 : decode cX11_most 4 = .ok (.invokestatic 90, 3) := by decide +kernel
theorem dX11_most_7 : decode cX11_most 7 = .ok (.ifCond .eq 6, 3) := by decide +kernel
theorem dX11_most_10 : decode cX11_most 10 = .ok (.bipush (-3), 2) := by decide +kernel
theorem dX11_most_12 : decode cX11_most 12 = .ok (.ireturn, 1) := by decide +kernel
theorem dX11_most_13 : decode cX11_most 13 = .ok (.aload_n 0, 1) := by decide +kernel
theorem dX11_most_14 : decode cX11_most 14 = .ok (.iload_n 1, 1) := by decide +kernel
theorem dX11_most_15 : decode cX11_most 15 = .ok (.invokevirtual 219, 3) := by decide +kernel
theorem dX11_most_18 : decode cX11_most 18 = .ok (.iconst (-1), 1) := by decide +kernel
theorem dX11_most_19 : decode cX11_most 19 = .ok (.istore_n 2, 1) := by decide +kernel
theorem dX11_most_20 : decode cX11_most 20 = .ok (.iconst 0, 1) := by decide +kernel
theorem dX11_most_21 : decode cX11_most 21 = .ok (.istore_n 3, 1) := by decide +kernel
theorem dX11_most_22 : decode cX11_most 22 = .ok (.iconst 0, 1) := by decide +kernel
theorem dX11_most_23 : decode cX11_most 23 = .ok (.istore 4, 2) := by decide +kernel
theorem dX11_most_25 : decode cX11_most 25 = .ok (.iload 4, 2) := by decide +kernel
theorem dX11_most_27 : decode cX11_most 27 = .ok (.aload_n 0, 1) := by decide +kernel
theorem dX11_most_28 : decode cX11_most 28 = .ok (.getfield 19, 3) := by decide +kernel
theorem dX11_most_31 : decode cX11_most 31 = .ok (.getfield 115, 3) := by decide +kernel
theorem dX11_most_34 : decode cX11_most 34 = .ok (.getfield 223, 3) := by decide +kernel
theorem dX11_most_37 : decode cX11_most 37 = .ok (.if_icmp .ge 31, 3) := by decide +kernel
theorem dX11_most_40 : decode cX11_most 40 = .ok (.aload_n 0, 1) := by decide +kernel
theorem dX11_most_41 : decode cX11_most 41 = .ok (.getfield 87, 3) := by decide +kernel
theorem dX11_most_44 : decode cX11_most 44 = .ok (.iload 4, 2) := by decide +kernel
theorem dX11_most_46 : decode cX11_most 46 = .ok (.iaload, 1) := by decide +kernel
theorem dX11_most_47 : decode cX11_most 47 = .ok (.iload_n 3, 1) := by decide +kernel
theorem dX11_most_48 : decode cX11_most 48 = .ok (.if_icmp .le 14, 3) := by decide +kernel
theorem dX11_most_51 : decode cX11_most 51 = .ok (.iload 4, 2) := by decide +kernel
theorem dX11_most_53 : decode cX11_most 53 = .ok (.istore_n 2, 1) := by decide +kernel
theorem dX11_most_54 : decode cX11_most 54 = .ok (.aload_n 0, 1) := by decide +kernel
theorem dX11_most_55 : decode cX11_most 55 = .ok (.getfield 87, 3) := by decide +kernel
theorem dX11_most_58 : decode cX11_most 58 = .ok (.iload 4, 2) := by decide +kernel
theorem dX11_most_60 : decode cX11_most 60 = .ok (.iaload, 1) := by decide +kernel
theorem dX11_most_61 : decode cX11_most 61 = .ok (.istore_n 3, 1) := by decide +kernel
theorem dX11_most_62 : decode cX11_most 62 = .ok (.iinc 4 1, 3) := by decide +kernel
theorem dX11_most_65 : decode cX11_most 65 = .ok (.goto (-40), 3) := by decide +kernel
theorem dX11_most_68 : decode cX11_most 68 = .ok (.iload_n 2, 1) := by decide +kernel
theorem dX11_most_69 : decode cX11_most 69 = .ok (.ireturn, 1) := by decide +kernel
set_option maxRecDepth 20000 in
theorem ggX11_build_X11_isOutside : GoodIn wsX11_build wsX11_isOutside := goodIn_r _ [8] (by decide +kernel) (by decide +kernel)
set_option maxRecDepth 20000 in
theorem gX11_build_X11_isOutside : GoodIn wsX11_build (va_wsS RX11 90 yX11_isOutside wsX11_isOutside) := goodIn_app (goodIn_of _ (by decide +kernel)) ggX11_build_X11_isOutside
set_option maxRecDepth 20000 in
theorem ggX11_build_X7_paidFor : GoodIn wsX11_build wsX7_paidFor := goodIn_r _ [13, 14, 15, 210, 211, 212, 213, 214] (by decide +kernel) (by decide +kernel)
set_option maxRecDepth 20000 in
theorem gX11_build_X7_paidFor : GoodIn wsX11_build (wsV RX11 225 RX7 yX7_paidFor wsX7_paidFor) := goodIn_app (goodIn_of _ (by decide +kernel)) ggX11_build_X7_paidFor
set_option maxRecDepth 20000 in
theorem ggX11_build_X11_isNeverFarWith : GoodIn wsX11_build wsX11_isNeverFarWith := goodIn_r _ [19, 20, 2, 21, 22, 23, 24, 25, 26, 27, 28, 29, 30, 31, 32, 33, 34, 35, 36, 37, 38, 39, 40, 41, 42, 43, 12, 44, 14, 45, 46, 47, 15, 48, 49, 50, 51, 52, 53, 54, 55, 56, 57, 58, 59, 60, 61, 62, 63, 64, 65, 66, 67, 68, 69, 70, 71, 72, 73, 74, 7, 75, 76, 77, 78, 79, 80, 81, 82, 83, 84, 85, 86, 87, 88, 89, 90, 91, 92, 93, 94, 95, 96, 97, 98, 99, 100, 101, 102, 103, 104, 105, 106, 107, 108, 109, 110, 111, 112, 113, 114, 115, 116, 117, 118, 119, 120, 121, 122, 123, 124, 125, 126, 127, 128, 129, 130, 131, 132, 133, 134, 135, 136, 137, 138, 139, 140, 141, 142, 143, 144, 145, 146, 147, 148, 149, 150, 151, 152, 153, 154, 155, 156, 157, 158, 159, 160, 161, 162, 163, 164, 165, 166, 167, 168, 169, 170, 171, 172, 173, 174, 175, 176, 177, 178, 179, 180, 181, 182, 183, 184, 185, 186, 187, 188, 189, 190, 191, 192, 193, 194, 195, 196, 197, 198, 215, 216, 217, 218, 219, 199, 200, 201, 202, 203, 204, 205, 206, 207, 208, 209, 210, 211, 212, 213, 214, 220, 221] (by decide +kernel) (by decide +kernel)
set_option maxRecDepth 20000 in
theorem gX11_build_X11_isNeverFarWith : GoodIn wsX11_build (wsV RX11 228 RX11 yX11_isNeverFarWith wsX11_isNeverFarWith) := goodIn_app (goodIn_of _ (by decide +kernel)) ggX11_build_X11_isNeverFarWith
theorem dX11_build_0 : decode cX11_build 0 = .ok (.iload_n 1, 1) := by decide +kernel
theorem dX11_build_1 : decode cX11_build 1 = .ok (.iconst 1, 1) := by decide +kernel
theorem dX11_build_2 : decode cX11_build 2 = .ok (.bipush 60, 2) := by decide +kernel
theorem dX11_build_4 : decode cX11_build 4 = .ok (.invokestatic 90, 3) := by decide +kernel
theorem dX11_build_7 : decode cX11_build 7 = .ok (.ifCond .ne 23, 3) := by decide +kernel
theorem dX11_build_10 : decode cX11_build 10 = .ok (.iload_n 2, 1) := by decide +kernel
theorem dX11_build_11 : decode cX11_build 11 = .ok (.iconst 1, 1) := by decide +kernel
theorem dX11_build_12 : decode cX11_build 12 = .ok (.sipush 999, 3) := by decide +kernel
theorem dX11_build_15 : decode cX11_build 15 = .ok (.invokestatic 90, 3) := by decide +kernel
theorem dX11_build_18 : decode cX11_build 18 = .ok (.ifCond .ne 12, 3) := by decide +kernel
theorem dX11_build_21 : decode cX11_build 21 = .ok (.iload_n 3, 1) := by decide +kernel
theorem dX11_build_22 : decode cX11_build 22 = .ok (.iconst 0, 1) := by decide +kernel
theorem dX11_build_23 : decode cX11_build 23 = .ok (.iconst 1, 1) := by decide +kernel
theorem dX11_build_24 : decode cX11_build 24 = .ok (.invokestatic 90, 3) := by decide +kernel
theorem dX11_build_27 : decode cX11_build 27 = .ok (.ifCond .eq 6, 3) := by decide +kernel
theorem dX11_build_30 : decode cX11_build 30 = .ok (.bipush (-3), 2) := by decide +kernel
theorem dX11_build_32 : decode cX11_build 32 = .ok (.ireturn, 1) := by decide +kernel
theorem dX11_build_33 : decode cX11_build 33 = .ok (.iconst (-1), 1) := by decide +kernel
theorem dX11_build_34 : decode cX11_build 34 = .ok (.istore 4, 2) := by decide +kernel
theorem dX11_build_36 : decode cX11_build 36 = .ok (.ldc 224, 2) := by decide +kernel
theorem dX11_build_38 : decode cX11_build 38 = .ok (.istore 5, 2) := by decide +kernel
theorem dX11_build_40 : decode cX11_build 40 = .ok (.iconst 0, 1) := by decide +kernel
theorem dX11_build_41 : decode cX11_build 41 = .ok (.istore 6, 2) := by decide +kernel
theorem dX11_build_43 : decode cX11_build 43 = .ok (.iload 6, 2) := by decide +kernel
theorem dX11_build_45 : decode cX11_build 45 = .ok (.iconst 1, 1) := by decide +kernel
theorem dX11_build_46 : decode cX11_build 46 = .ok (.aload_n 0, 1) := by decide +kernel
theorem dX11_build_47 : decode cX11_build 47 = .ok (.getfield 19, 3) := by decide +kernel
theorem dX11_build_50 : decode cX11_build 50 = .ok (.getfield 132, 3) := by decide +kernel
theorem dX11_build_53 : decode cX11_build 53 = .ok (.getfield 223, 3) := by decide +kernel
theorem dX11_build_56 : decode cX11_build 56 = .ok (.ishl, 1) := by decide +kernel
theorem dX11_build_57 : decode cX11_build 57 = .ok (.if_icmp .ge 49, 3) := by decide +kernel
theorem dX11_build_60 : decode cX11_build 60 = .ok (.aload_n 0, 1) := by decide +kernel
theorem dX11_build_61 : decode cX11_build 61 = .ok (.getfield 19, 3) := by decide +kernel
theorem dX11_build_64 : decode cX11_build 64 = .ok (.getfield 132, 3) := by decide +kernel
theorem dX11_build_67 : decode cX11_build 67 = .ok (.iload 6, 2) := by decide +kernel
theorem dX11_build_69 : decode cX11_build 69 = .ok (.invokevirtual 225, 3) := by decide +kernel
theorem dX11_build_72 : decode cX11_build 72 = .ok (.istore 7, 2) := by decide +kernel
theorem dX11_build_74 : decode cX11_build 74 = .ok (.iload 7, 2) := by decide +kernel
theorem dX11_build_76 : decode cX11_build 76 = .ok (.iload 5, 2) := by decide +kernel
theorem dX11_build_78 : decode cX11_build 78 = .ok (.if_icmp .ge 22, 3) := by decide +kernel
theorem dX11_build_81 : decode cX11_build 81 = .ok (.aload_n 0, 1) := by decide +kernel
theorem dX11_build_82 : decode cX11_build 82 = .ok (.iload 6, 2) := by decide +kernel
theorem dX11_build_84 : decode cX11_build 84 = .ok (.iload_n 1, 1) := by decide +kernel
theorem dX11_build_85 : decode cX11_build 85 = .ok (.iload_n 2, 1) := by decide +kernel
theorem dX11_build_86 : decode cX11_build 86 = .ok (.invokevirtual 228, 3) := by decide +kernel
theorem dX11_build_89 : decode cX11_build 89 = .ok (.ifCond .eq 11, 3) := by decide +kernel
theorem dX11_build_92 : decode cX11_build 92 = .ok (.iload 6, 2) := by decide +kernel
theorem dX11_build_94 : decode cX11_build 94 = .ok (.istore 4, 2) := by decide +kernel
theorem dX11_build_96 : decode cX11_build 96 = .ok (.iload 7, 2) := by decide +kernel
theorem dX11_build_98 : decode cX11_build 98 = .ok (.istore 5, 2) := by decide +kernel
theorem dX11_build_100 : decode cX11_build 100 = .ok (.iinc 6 1, 3) := by decide +kernel
theorem dX11_build_103 : decode cX11_build 103 = .ok (.goto (-60), 3) := by decide +kernel
theorem dX11_build_106 : decode cX11_build 106 = .ok (.iload 4, 2) := by decide +kernel
theorem dX11_build_108 : decode cX11_build 108 = .ok (.iconst (-1), 1) := by decide +kernel
theorem dX11_build_109 : decode cX11_build 109 = .ok (.if_icmp .ne 5, 3) := by decide +kernel
theorem dX11_build_112 : decode cX11_build 112 = .ok (.iconst (-1), 1) := by decide +kernel
theorem dX11_build_113 : decode cX11_build 113 = .ok (.ireturn, 1) := by decide +kernel
theorem dX11_build_114 : decode cX11_build 114 = .ok (.iload_n 3, 1) := by decide +kernel
theorem dX11_build_115 : decode cX11_build 115 = .ok (.ifCond .ne 8, 3) := by decide +kernel
theorem dX11_build_118 : decode cX11_build 118 = .ok (.iload 5, 2) := by decide +kernel
theorem dX11_build_120 : decode cX11_build 120 = .ok (.goto 5, 3) := by decide +kernel
theorem dX11_build_123 : decode cX11_build 123 = .ok (.iload 4, 2) := by decide +kernel
theorem dX11_build_125 : decode cX11_build 125 = .ok (.ireturn, 1) := by decide +kernel
set_option maxRecDepth 20000 in
theorem ggX11_chosen_X11_isOutside : GoodIn wsX11_chosen wsX11_isOutside := goodIn_r _ [6] (by decide +kernel) (by decide +kernel)
set_option maxRecDepth 20000 in
theorem gX11_chosen_X11_isOutside : GoodIn wsX11_chosen (va_wsS RX11 90 yX11_isOutside wsX11_isOutside) := goodIn_app (goodIn_of _ (by decide +kernel)) ggX11_chosen_X11_isOutside
set_option maxRecDepth 20000 in
theorem ggX11_chosen_X1_copyFrom : GoodIn wsX11_chosen wsX1_copyFrom := goodIn_r _ [11, 12, 13, 14, 15, 16, 17, 114, 115] (by decide +kernel) (by decide +kernel)
set_option maxRecDepth 20000 in
theorem gX11_chosen_X1_copyFrom : GoodIn wsX11_chosen (wsV RX11 191 RX1 yX1_copyFrom wsX1_copyFrom) := goodIn_app (goodIn_of _ (by decide +kernel)) ggX11_chosen_X1_copyFrom
set_option maxRecDepth 20000 in
theorem ggX11_chosen_X11_bestSum : GoodIn wsX11_chosen wsX11_bestSum := goodIn_r _ [21, 1, 22, 23, 24, 25, 26, 27, 28, 29, 30, 5, 31, 32, 33, 34, 35, 36, 37, 38, 39, 40, 41, 42, 43, 44, 45, 46, 47, 48, 49, 50, 51, 52, 53, 54, 55, 56, 57, 58, 59, 60, 61, 62, 63, 64, 65, 66, 67, 68, 69, 70, 71, 72, 73, 74, 75, 76, 77, 78, 79, 80, 81, 82, 83, 84, 85, 86, 87, 88, 89, 90, 91, 92, 93, 94, 95, 7, 8, 9, 10, 11, 12, 13, 14, 15, 16, 17, 96, 97, 98, 99, 18, 19, 20, 100, 101, 102, 103, 104, 105, 106, 107, 108, 109, 110, 111, 112, 113, 116, 117, 118, 119, 120, 121, 122, 123, 124, 125, 126, 127, 128, 129, 130, 131, 132, 133, 134, 135, 136, 114, 115] (by decide +kernel) (by decide +kernel)
set_option maxRecDepth 20000 in
theorem gX11_chosen_X11_bestSum : GoodIn wsX11_chosen (wsV RX11 231 RX11 yX11_bestSum wsX11_bestSum) := goodIn_app (goodIn_of _ (by decide +kernel)) ggX11_chosen_X11_bestSum
theorem dX11_chosen_0 : decode cX11_chosen 0 = .ok (.iload_n 1, 1) := by decide +kernel
theorem dX11_chosen_1 : decode cX11_chosen 1 = .ok (.iconst 1, 1) := by decide +kernel
theorem dX11_chosen_2 : decode cX11_chosen 2 = .ok (.iconst 5, 1) := by decide +kernel
theorem dX11_chosen_3 : decode cX11_chosen 3 = .ok (.invokestatic 90, 3) := by decide +kernel
theorem dX11_chosen_6 : decode cX11_chosen 6 = .ok (.ifCond .ne 12, 3) := by decide +kernel
theorem dX11_chosen_9 : decode cX11_chosen 9 = .ok (.iload_n 2, 1) := by decide +kernel
theorem dX11_chosen_10 : decode cX11_chosen 10 = .ok (.iconst 0, 1) := by decide +kernel
theorem dX11_chosen_11 : decode cX11_chosen 11 = .ok (.iconst 1, 1) := by decide +kernel
theorem dX11_chosen_12 : decode cX11_chosen 12 = .ok (.invokestatic 90, 3) := by decide +kernel
theorem dX11_chosen_15 : decode cX11_chosen 15 = .ok (.ifCond .eq 6, 3) := by decide +kernel
theorem dX11_chosen_18 : decode cX11_chosen 18 = .ok (.bipush (-3), 2) := by decide +kernel
theorem dX11_chosen_20 : decode cX11_chosen 20 = .ok (.ireturn, 1) := by decide +kernel
theorem dX11_chosen_21 : decode cX11_chosen 21 = .ok (.aload_n 0, 1) := by decide +kernel
theorem dX11_chosen_22 : decode cX11_chosen 22 = .ok (.getfield 44, 3) := by decide +kernel
theorem dX11_chosen_25 : decode cX11_chosen 25 = .ok (.iconst 0, 1) := by decide +kernel
theorem dX11_chosen_26 : decode cX11_chosen 26 = .ok (.aaload, 1) := by decide +kernel
theorem dX11_chosen_27 : decode cX11_chosen 27 = .ok (.aload_n 0, 1) := by decide +kernel
theorem dX11_chosen_28 : decode cX11_chosen 28 = .ok (.getfield 29, 3) := by decide +kernel
theorem dX11_chosen_31 : decode cX11_chosen 31 = .ok (.invokevirtual 191, 3) := by decide +kernel
theorem dX11_chosen_34 : decode cX11_chosen 34 = .ok (.aload_n 0, 1) := by decide +kernel
theorem dX11_chosen_35 : decode cX11_chosen 35 = .ok (.iconst 0, 1) := by decide +kernel
theorem dX11_chosen_36 : decode cX11_chosen 36 = .ok (.iload_n 1, 1) := by decide +kernel
theorem dX11_chosen_37 : decode cX11_chosen 37 = .ok (.iload_n 2, 1) := by decide +kernel
theorem dX11_chosen_38 : decode cX11_chosen 38 = .ok (.iconst 1, 1) := by decide +kernel
theorem dX11_chosen_39 : decode cX11_chosen 39 = .ok (.if_icmp .ne 7, 3) := by decide +kernel
theorem dX11_chosen_42 : decode cX11_chosen 42 = .ok (.iconst 1, 1) := by decide +kernel
theorem dX11_chosen_43 : decode cX11_chosen 43 = .ok (.goto 4, 3) := by decide +kernel
theorem dX11_chosen_46 : decode cX11_chosen 46 = .ok (.iconst 0, 1) := by decide +kernel
theorem dX11_chosen_47 : decode cX11_chosen 47 = .ok (.invokevirtual 231, 3) := by decide +kernel
theorem dX11_chosen_50 : decode cX11_chosen 50 = .ok (.ireturn, 1) := by decide +kernel
set_option maxRecDepth 20000 in
theorem ggX11_carts_X7_has : GoodIn wsX11_carts wsX7_has := goodIn_r _ [12, 13, 143, 144, 145, 146, 147] (by decide +kernel) (by decide +kernel)
set_option maxRecDepth 20000 in
theorem gX11_carts_X7_has : GoodIn wsX11_carts (wsV RX11 119 RX7 yX7_has wsX7_has) := goodIn_app (goodIn_of _ (by decide +kernel)) ggX11_carts_X7_has
set_option maxRecDepth 20000 in
theorem ggX11_carts_X11_isOutside : GoodIn wsX11_carts wsX11_isOutside := goodIn_r _ [17] (by decide +kernel) (by decide +kernel)
set_option maxRecDepth 20000 in
theorem gX11_carts_X11_isOutside : GoodIn wsX11_carts (va_wsS RX11 90 yX11_isOutside wsX11_isOutside) := goodIn_app (goodIn_of _ (by decide +kernel)) ggX11_carts_X11_isOutside
set_option maxRecDepth 20000 in
theorem ggX11_carts_X1_shutSet : GoodIn wsX11_carts wsX1_shutSet := goodIn_r _ [22, 23, 141, 142] (by decide +kernel) (by decide +kernel)
set_option maxRecDepth 20000 in
theorem gX11_carts_X1_shutSet : GoodIn wsX11_carts (wsV RX11 175 RX1 yX1_shutSet wsX1_shutSet) := goodIn_app (goodIn_of _ (by decide +kernel)) ggX11_carts_X1_shutSet
set_option maxRecDepth 20000 in
theorem ggX11_carts_X6_copyFrom : GoodIn wsX11_carts wsX6_copyFrom := goodIn_r _ [28, 29, 30, 31, 32, 33, 34, 35, 36, 37, 38, 39, 40, 41, 42, 11, 43, 13, 44, 45, 46, 47, 48, 49, 50, 51, 130, 131, 132, 133, 134, 135, 136, 137, 138, 139, 140, 143, 144, 145, 146, 147] (by decide +kernel) (by decide +kernel)
set_option maxRecDepth 20000 in
theorem gX11_carts_X6_copyFrom : GoodIn wsX11_carts (wsV RX11 101 RX6 yX6_copyFrom wsX6_copyFrom) := goodIn_app (goodIn_of _ (by decide +kernel)) ggX11_carts_X6_copyFrom
set_option maxRecDepth 20000 in
theorem ggX11_carts_X7_paidFor : GoodIn wsX11_carts wsX7_paidFor := goodIn_r _ [55, 13, 47, 143, 144, 145, 146, 147] (by decide +kernel) (by decide +kernel)
set_option maxRecDepth 20000 in
theorem gX11_carts_X7_paidFor : GoodIn wsX11_carts (wsV RX11 225 RX7 yX7_paidFor wsX7_paidFor) := goodIn_app (goodIn_of _ (by decide +kernel)) ggX11_carts_X7_paidFor
set_option maxRecDepth 20000 in
theorem ggX11_carts_X11_isPassedWithCarts : GoodIn wsX11_carts wsX11_isPassedWithCarts := goodIn_r _ [59, 1, 2, 7, 60, 5, 61, 3, 62, 63, 64, 65, 66, 16, 67, 4, 68, 69, 70, 71, 27, 72, 32, 35, 73, 74, 75, 76, 34, 77, 78, 79, 80, 33, 36, 81, 82, 83, 84, 85, 86, 87, 88, 89, 90, 91, 92, 93, 94, 95, 96, 97, 98, 99, 100, 101, 102, 103, 104, 105, 106, 107, 108, 109, 110, 111, 112, 113, 114, 115, 116, 117, 118, 119, 120, 121, 122, 123, 124, 125, 126, 127, 128, 129, 130, 131, 132, 133, 134, 135, 136, 137, 138, 139, 140, 143, 144, 145, 146, 147, 148, 149, 150, 151, 152, 141, 142] (by decide +kernel) (by decide +kernel)
set_option maxRecDepth 20000 in
theorem gX11_carts_X11_isPassedWithCarts : GoodIn wsX11_carts (wsV RX11 235 RX11 yX11_isPassedWithCarts wsX11_isPassedWithCarts) := goodIn_app (goodIn_of _ (by decide +kernel)) ggX11_carts_X11_isPassedWithCarts
theorem dX11_carts_0 : decode cX11_carts 0 = .ok (.aload_n 0, 1) := by decide +kernel
theorem dX11_carts_1 : decode cX11_carts 1 = .ok (.getfield 19, 3) := by decide +kernel
theorem dX11_carts_4 : decode cX11_carts 4 = .ok (.getfield 115, 3) := by decide +kernel
theorem dX11_carts_7 : decode cX11_carts 7 = .ok (.iload_n 1, 1) := by decide +kernel
theorem dX11_carts_8 : decode cX11_carts 8 = .ok (.invokevirtual 119, 3) := by decide +kernel
theorem dX11_carts_11 : decode cX11_carts 11 = .ok (.ifCond .ne 6, 3) := by decide +kernel
theorem dX11_carts_14 : decode cX11_carts 14 = .ok (.bipush (-2), 2) := by decide +kernel
theorem dX11_carts_16 : decode cX11_carts 16 = .ok (.ireturn, 1) := by decide +kernel
theorem dX11_carts_17 : decode cX11_carts 17 = .ok (.iload_n 2, 1) := by decide +kernel
theorem dX11_carts_18 : decode cX11_carts 18 = .ok (.iconst 0, 1) := by decide +kernel
theorem dX11_carts_19 : decode cX11_carts 19 = .ok (.iconst 1, 1) := by decide +kernel
theorem dX11_carts_20 : decode cX11_carts 20 = .ok (.invokestatic 90, 3) := by decide +kernel
theorem dX11_carts_23 : decode cX11_carts 23 = .ok (.ifCond .eq 6, 3) := by decide +kernel
theorem dX11_carts_26 : decode cX11_carts 26 = .ok (.bipush (-3), 2) := by decide +kernel
theorem dX11_carts_28 : decode cX11_carts 28 = .ok (.ireturn, 1) := by decide +kernel
theorem dX11_carts_29 : decode cX11_carts 29 = .ok (.aload_n 0, 1) := by decide +kernel
theorem dX11_carts_30 : decode cX11_carts 30 = .ok (.getfield 29, 3) := by decide +kernel
theorem dX11_carts_33 : decode cX11_carts 33 = .ok (.getfield 125, 3) := by decide +kernel
theorem dX11_carts_36 : decode cX11_carts 36 = .ok (.iload_n 1, 1) := by decide +kernel
theorem dX11_carts_37 : decode cX11_carts 37 = .ok (.iaload, 1) := by decide +kernel
theorem dX11_carts_38 : decode cX11_carts 38 = .ok (.ifCond .le 5, 3) := by decide +kernel
theorem dX11_carts_41 : decode cX11_carts 41 = .ok (.iconst (-1), 1) := by decide +kernel
theorem dX11_carts_42 : decode cX11_carts 42 = .ok (.ireturn, 1) := by decide +kernel
theorem dX11_carts_43 : decode cX11_carts 43 = .ok (.aload_n 0, 1) := by decide +kernel
theorem dX11_carts_44 : decode cX11_carts 44 = .ok (.getfield 29, 3) := by decide +kernel
theorem dX11_carts_47 : decode cX11_carts 47 = .ok (.invokevirtual 175, 3) := by decide +kernel
theorem dX11_carts_50 : decode cX11_carts 50 = .ok (.iconst 1, 1) := by decide +kernel
theorem dX11_carts_51 : decode cX11_carts 51 = .ok (.iload_n 1, 1) := by decide +kernel
theorem dX11_carts_52 : decode cX11_carts 52 = .ok (.ishl, 1) := by decide +kernel
theorem dX11_carts_53 : decode cX11_carts 53 = .ok (.ior, 1) := by decide +kernel
theorem dX11_carts_54 : decode cX11_carts 54 = .ok (.istore_n 3, 1) := by decide +kernel
theorem dX11_carts_55 : decode cX11_carts 55 = .ok (.aload_n 0, 1) := by decide +kernel
theorem dX11_carts_56 : decode cX11_carts 56 = .ok (.getfield 23, 3) := by decide +kernel
theorem dX11_carts_59 : decode cX11_carts 59 = .ok (.aload_n 0, 1) := by decide +kernel
theorem dX11_carts_60 : decode cX11_carts 60 = .ok (.getfield 19, 3) := by decide +kernel
theorem dX11_carts_63 : decode cX11_carts 63 = .ok (.invokevirtual 101, 3) := by decide +kernel
theorem dX11_carts_66 : decode cX11_carts 66 = .ok (.iconst (-1), 1) := by decide +kernel
theorem dX11_carts_67 : decode cX11_carts 67 = .ok (.istore 4, 2) := by decide +kernel
theorem dX11_carts_69 : decode cX11_carts 69 = .ok (.ldc 224, 2) := by decide +kernel
theorem dX11_carts_71 : decode cX11_carts 71 = .ok (.istore 5, 2) := by decide +kernel
theorem dX11_carts_73 : decode cX11_carts 73 = .ok (.iconst 0, 1) := by decide +kernel
theorem dX11_carts_74 : decode cX11_carts 74 = .ok (.istore 6, 2) := by decide +kernel
theorem dX11_carts_76 : decode cX11_carts 76 = .ok (.iload 6, 2) := by decide +kernel
theorem dX11_carts_78 : decode cX11_carts 78 = .ok (.iconst 1, 1) := by decide +kernel
theorem dX11_carts_79 : decode cX11_carts 79 = .ok (.aload_n 0, 1) := by decide +kernel
theorem dX11_carts_80 : decode cX11_carts 80 = .ok (.getfield 19, 3) := by decide +kernel
theorem dX11_carts_83 : decode cX11_carts 83 = .ok (.getfield 115, 3) := by decide +kernel
theorem dX11_carts_86 : decode cX11_carts 86 = .ok (.getfield 223, 3) := by decide +kernel
theorem dX11_carts_89 : decode cX11_carts 89 = .ok (.ishl, 1) := by decide +kernel
theorem dX11_carts_90 : decode cX11_carts 90 = .ok (.if_icmp .ge 61, 3) := by decide +kernel
theorem dX11_carts_93 : decode cX11_carts 93 = .ok (.iload 6, 2) := by decide +kernel
theorem dX11_carts_95 : decode cX11_carts 95 = .ok (.iload_n 3, 1) := by decide +kernel
theorem dX11_carts_96 : decode cX11_carts 96 = .ok (.iand, 1) := by decide +kernel
theorem dX11_carts_97 : decode cX11_carts 97 = .ok (.ifCond .ne 48, 3) := by decide +kernel
theorem dX11_carts_100 : decode cX11_carts 100 = .ok (.aload_n 0, 1) := by decide +kernel
theorem dX11_carts_101 : decode cX11_carts 101 = .ok (.getfield 19, 3) := by decide +kernel
theorem dX11_carts_104 : decode cX11_carts 104 = .ok (.getfield 115, 3) := by decide +kernel
theorem dX11_carts_107 : decode cX11_carts 107 = .ok (.iload 6, 2) := by decide +kernel
theorem dX11_carts_109 : decode cX11_carts 109 = .ok (.invokevirtual 225, 3) := by decide +kernel
theorem dX11_carts_112 : decode cX11_carts 112 = .ok (.iload 5, 2) := by decide +kernel
theorem dX11_carts_114 : decode cX11_carts 114 = .ok (.if_icmp .ge 31, 3) := by decide +kernel
theorem dX11_carts_117 : decode cX11_carts 117 = .ok (.aload_n 0, 1) := by decide +kernel
theorem dX11_carts_118 : decode cX11_carts 118 = .ok (.iload_n 1, 1) := by decide +kernel
theorem dX11_carts_119 : decode cX11_carts 119 = .ok (.iload 6, 2) := by decide +kernel
theorem dX11_carts_121 : decode cX11_carts 121 = .ok (.invokevirtual 235, 3) := by decide +kernel
theorem dX11_carts_124 : decode cX11_carts 124 = .ok (.ifCond .eq 21, 3) := by decide +kernel
theorem dX11_carts_127 : decode cX11_carts 127 = .ok (.iload 6, 2) := by decide +kernel
theorem dX11_carts_129 : decode cX11_carts 129 = .ok (.istore 4, 2) := by decide +kernel
theorem dX11_carts_131 : decode cX11_carts 131 = .ok (.aload_n 0, 1) := by decide +kernel
theorem dX11_carts_132 : decode cX11_carts 132 = .ok (.getfield 19, 3) := by decide +kernel
theorem dX11_carts_135 : decode cX11_carts 135 = .ok (.getfield 115, 3) := by decide +kernel
theorem dX11_carts_138 : decode cX11_carts 138 = .ok (.iload 6, 2) := by decide +kernel
theorem dX11_carts_140 : decode cX11_carts 140 = .ok (.invokevirtual 225, 3) := by decide +kernel
theorem dX11_carts_143 : decode cX11_carts 143 = .ok (.istore 5, 2) := by decide +kernel
theorem dX11_carts_145 : decode cX11_carts 145 = .ok (.iinc 6 1, 3) := by decide +kernel
theorem dX11_carts_148 : decode cX11_carts 148 = .ok (.goto (-72), 3) := by decide +kernel
theorem dX11_carts_151 : decode cX11_carts 151 = .ok (.iload 4, 2) := by decide +kernel
theorem dX11_carts_153 : decode cX11_carts 153 = .ok (.iconst (-1), 1) := by decide +kernel
theorem dX11_carts_154 : decode cX11_carts 154 = .ok (.if_icmp .ne 5, 3) := by decide +kernel
theorem dX11_carts_157 : decode cX11_carts 157 = .ok (.iconst (-1), 1) := by decide +kernel
theorem dX11_carts_158 : decode cX11_carts 158 = .ok (.ireturn, 1) := by decide +kernel
theorem dX11_carts_159 : decode cX11_carts 159 = .ok (.iload_n 2, 1) := by decide +kernel
theorem dX11_carts_160 : decode cX11_carts 160 = .ok (.ifCond .ne 8, 3) := by decide +kernel
theorem dX11_carts_163 : decode cX11_carts 163 = .ok (.iload 5, 2) := by decide +kernel
theorem dX11_carts_165 : decode cX11_carts 165 = .ok (.goto 5, 3) := by decide +kernel
theorem dX11_carts_168 : decode cX11_carts 168 = .ok (.iload 4, 2) := by decide +kernel
theorem dX11_carts_170 : decode cX11_carts 170 = .ok (.ireturn, 1) := by decide +kernel
set_option maxRecDepth 20000 in
theorem ggX11_night_X7_has : GoodIn wsX11_night wsX7_has := goodIn_r _ [9, 10, 36, 37, 38, 39, 40] (by decide +kernel) (by decide +kernel)
set_option maxRecDepth 20000 in
theorem gX11_night_X7_has : GoodIn wsX11_night (wsV RX11 119 RX7 yX7_has wsX7_has) := goodIn_app (goodIn_of _ (by decide +kernel)) ggX11_night_X7_has
theorem dX11_night_0 : decode cX11_night 0 = .ok (.iload_n 1, 1) := by decide +kernel
theorem dX11_night_1 : decode cX11_night 1 = .ok (.iconst (-1), 1) := by decide +kernel
theorem dX11_night_2 : decode cX11_night 2 = .ok (.if_icmp .eq 20, 3) := by decide +kernel
theorem dX11_night_5 : decode cX11_night 5 = .ok (.aload_n 0, 1) := by decide +kernel
theorem dX11_night_6 : decode cX11_night 6 = .ok (.getfield 19, 3) := by decide +kernel
theorem dX11_night_9 : decode cX11_night 9 = .ok (.getfield 115, 3) := by decide +kernel
theorem dX11_night_12 : decode cX11_night 12 = .ok (.iload_n 1, 1) := by decide +kernel
theorem dX11_night_13 : decode cX11_night 13 = .ok (.invokevirtual 119, 3) := by decide +kernel
theorem dX11_night_16 : decode cX11_night 16 = .ok (.ifCond .ne 6, 3) := by decide +kernel
theorem dX11_night_19 : decode cX11_night 19 = .ok (.bipush (-2), 2) := by decide +kernel
theorem dX11_night_21 : decode cX11_night 21 = .ok (.ireturn, 1) := by decide +kernel
theorem dX11_night_22 : decode cX11_night 22 = .ok (.aload_n 0, 1) := by decide +kernel
theorem dX11_night_23 : decode cX11_night 23 = .ok (.getfield 76, 3) := by decide +kernel
theorem dX11_night_26 : decode cX11_night 26 = .ok (.aload_n 0, 1) := by decide +kernel
theorem dX11_night_27 : decode cX11_night 27 = .ok (.getfield 72, 3) := by decide +kernel
theorem dX11_night_30 : decode cX11_night 30 = .ok (.arraylength, 1) := by decide +kernel
theorem dX11_night_31 : decode cX11_night 31 = .ok (.if_icmp .lt 6, 3) := by decide +kernel
theorem dX11_night_34 : decode cX11_night 34 = .ok (.bipush (-5), 2) := by decide +kernel
theorem dX11_night_36 : decode cX11_night 36 = .ok (.ireturn, 1) := by decide +kernel
theorem dX11_night_37 : decode cX11_night 37 = .ok (.aload_n 0, 1) := by decide +kernel
theorem dX11_night_38 : decode cX11_night 38 = .ok (.getfield 72, 3) := by decide +kernel
theorem dX11_night_41 : decode cX11_night 41 = .ok (.aload_n 0, 1) := by decide +kernel
theorem dX11_night_42 : decode cX11_night 42 = .ok (.getfield 76, 3) := by decide +kernel
theorem dX11_night_45 : decode cX11_night 45 = .ok (.iload_n 1, 1) := by decide +kernel
theorem dX11_night_46 : decode cX11_night 46 = .ok (.iastore, 1) := by decide +kernel
theorem dX11_night_47 : decode cX11_night 47 = .ok (.aload_n 0, 1) := by decide +kernel
theorem dX11_night_48 : decode cX11_night 48 = .ok (.dup, 1) := by decide +kernel
theorem dX11_night_49 : decode cX11_night 49 = .ok (.getfield 76, 3) := by decide +kernel
theorem dX11_night_52 : decode cX11_night 52 = .ok (.iconst 1, 1) := by decide +kernel
theorem dX11_night_53 : decode cX11_night 53 = .ok (.iadd, 1) := by decide +kernel
theorem dX11_night_54 : decode cX11_night 54 = .ok (.putfield 76, 3) := by decide +kernel
theorem dX11_night_57 : decode cX11_night 57 = .ok (.aload_n 0, 1) := by decide +kernel
theorem dX11_night_58 : decode cX11_night 58 = .ok (.getfield 76, 3) := by decide +kernel
theorem dX11_night_61 : decode cX11_night 61 = .ok (.ireturn, 1) := by decide +kernel
theorem dX11_forget_0 : decode cX11_forget 0 = .ok (.aload_n 0, 1) := by decide +kernel
theorem dX11_forget_1 : decode cX11_forget 1 = .ok (.getfield 76, 3) := by decide +kernel
theorem dX11_forget_4 : decode cX11_forget 4 = .ok (.istore_n 1, 1) := by decide +kernel
theorem dX11_forget_5 : decode cX11_forget 5 = .ok (.aload_n 0, 1) := by decide +kernel
theorem dX11_forget_6 : decode cX11_forget 6 = .ok (.iconst 0, 1) := by decide +kernel
theorem dX11_forget_7 : decode cX11_forget 7 = .ok (.putfield 76, 3) := by decide +kernel
theorem dX11_forget_10 : decode cX11_forget 10 = .ok (.iload_n 1, 1) := by decide +kernel
theorem dX11_forget_11 : decode cX11_forget 11 = .ok (.ireturn, 1) := by decide +kernel
set_option maxRecDepth 20000 in
theorem ggX11_judge_X11_firstWrongNight : GoodIn wsX11_judge wsX11_firstWrongNight := goodIn_r _ [6, 7, 8, 9, 10, 11, 12, 13, 14, 15, 16, 17, 18, 19, 20, 21, 22, 23, 5, 24, 25, 26, 27, 28, 29, 30, 31, 32, 33, 34, 35, 36, 37, 38, 39, 40, 41, 42, 43, 44, 45, 46, 47, 48, 49, 50, 51, 52, 53, 54, 55, 56, 57, 58, 59, 60, 61, 62, 63, 64, 65, 66, 67, 68, 69, 70, 71, 72, 73, 74, 75, 76, 77, 78, 79, 80, 81, 82, 83, 84, 85, 86, 87, 88, 89, 90, 91, 92, 93, 94, 95, 96, 97, 98, 99, 100, 101, 102, 103, 104, 105, 106, 107, 108, 109, 110, 111, 112, 113, 114, 115, 116, 117, 118, 119, 120, 121, 122, 123, 124, 125, 126, 127, 128, 129, 130, 131, 132, 133, 134, 135, 136, 137, 138, 139, 140, 141, 142, 143, 144, 145, 146, 147, 148, 149, 150, 151, 152, 153, 154, 155, 156, 157, 158, 159, 160, 161, 162, 163, 164, 165, 166, 167, 168, 169, 170, 171, 172, 173] (by decide +kernel) (by decide +kernel)
set_option maxRecDepth 20000 in
theorem gX11_judge_X11_firstWrongNight : GoodIn wsX11_judge (wsV RX11 239 RX11 yX11_firstWrongNight wsX11_firstWrongNight) := goodIn_app (goodIn_of _ (by decide +kernel)) ggX11_judge_X11_firstWrongNight
theorem dX11_judge_0 : decode cX11_judge 0 = .ok (.aload_n 0, 1) := by decide +kernel
theorem dX11_judge_1 : decode cX11_judge 1 = .ok (.aload_n 0, 1) := by decide +kernel
theorem dX11_judge_2 : decode cX11_judge 2 = .ok (.getfield 19, 3) := by decide +kernel
theorem dX11_judge_5 : decode cX11_judge 5 = .ok (.invokevirtual 239, 3) := by decide +kernel
theorem dX11_judge_8 : decode cX11_judge 8 = .ok (.ireturn, 1) := by decide +kernel
