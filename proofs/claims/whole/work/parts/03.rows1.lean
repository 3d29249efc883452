theorem dX8_readOddEnds_28 : decode cX8_readOddEnds 28 = .ok (.putfield 145, 3) := by decide +kernel
theorem dX8_readOddEnds_31 : decode cX8_readOddEnds 31 = .ok (.iconst 1, 1) := by decide +kernel
theorem dX8_readOddEnds_32 : decode cX8_readOddEnds 32 = .ok (.ireturn, 1) := by decide +kernel
set_option maxRecDepth 20000 in
theorem ggX8_readLane_X8_readCorners : GoodIn wsX8_readLane wsX8_readCorners := goodIn_r _ [10, 11, 3, 4, 5, 12, 13, 14, 9, 15, 16, 17, 18, 19, 20, 21, 22, 23, 24, 25, 36, 37, 38, 39, 40, 41, 42, 43, 44, 45, 46, 52, 53, 54, 55, 56, 57, 58, 59, 60, 61] (by decide +kernel) (by decide +kernel)
set_option maxRecDepth 20000 in
theorem gX8_readLane_X8_readCorners : GoodIn wsX8_readLane (wsV RX8 116 RX8 yX8_readCorners wsX8_readCorners) := goodIn_app (goodIn_of _ (by decide +kernel)) ggX8_readLane_X8_readCorners
set_option maxRecDepth 20000 in
theorem ggX8_readLane_X8_readNumber : GoodIn wsX8_readLane wsX8_readNumber := goodIn_r _ [15, 16, 17, 18, 3, 19, 20, 21, 9, 22, 23, 24, 25, 52, 53, 54, 55, 56, 57, 58, 59, 60, 61] (by decide +kernel) (by decide +kernel)
set_option maxRecDepth 20000 in
theorem gX8_readLane_X8_readNumber : GoodIn wsX8_readLane (wsV RX8 94 RX8 yX8_readNumber wsX8_readNumber) := goodIn_app (goodIn_of _ (by decide +kernel)) ggX8_readLane_X8_readNumber
set_option maxRecDepth 20000 in
theorem ggX8_readLane_X7_add : GoodIn wsX8_readLane wsX7_add := goodIn_r _ [30, 31, 32, 33, 34, 35, 47, 48, 49, 50, 51] (by decide +kernel) (by decide +kernel)
set_option maxRecDepth 20000 in
theorem gX8_readLane_X7_add : GoodIn wsX8_readLane (wsV RX8 125 RX7 yX7_add wsX7_add) := goodIn_app (goodIn_of _ (by decide +kernel)) ggX8_readLane_X7_add
theorem dX8_readLane_0 : decode cX8_readLane 0 = .ok (.aload_n 1, 1) := by decide +kernel
theorem dX8_readLane_1 : decode cX8_readLane 1 = .ok (.getfield 148, 3) := by decide +kernel
theorem dX8_readLane_4 : decode cX8_readLane 4 = .ok (.getfield 111, 3) := by decide +kernel
theorem dX8_readLane_7 : decode cX8_readLane 7 = .ok (.iconst 4, 1) := by decide +kernel
theorem dX8_readLane_8 : decode cX8_readLane 8 = .ok (.if_icmp .ge 21, 3) := by decide +kernel
theorem dX8_readLane_11 : decode cX8_readLane 11 = .ok (.aload_n 0, 1) := by decide +kernel
theorem dX8_readLane_12 : decode cX8_readLane 12 = .ok (.aload_n 1, 1) := by decide +kernel
theorem dX8_readLane_13 : decode cX8_readLane 13 = .ok (.invokevirtual 116, 3) := by decide +kernel
theorem dX8_readLane_16 : decode cX8_readLane 16 = .ok (.ifCond .eq 13, 3) := by decide +kernel
theorem dX8_readLane_19 : decode cX8_readLane 19 = .ok (.aload_n 0, 1) := by decide +kernel
theorem dX8_readLane_20 : decode cX8_readLane 20 = .ok (.iconst 1, 1) := by decide +kernel
theorem dX8_readLane_21 : decode cX8_readLane 21 = .ok (.bipush 99, 2) := by decide +kernel
theorem dX8_readLane_23 : decode cX8_readLane 23 = .ok (.invokevirtual 94, 3) := by decide +kernel
theorem dX8_readLane_26 : decode cX8_readLane 26 = .ok (.ifCond .ne 5, 3) := by decide +kernel
theorem dX8_readLane_29 : decode cX8_readLane 29 = .ok (.iconst 0, 1) := by decide +kernel
theorem dX8_readLane_30 : decode cX8_readLane 30 = .ok (.ireturn, 1) := by decide +kernel
theorem dX8_readLane_31 : decode cX8_readLane 31 = .ok (.aload_n 0, 1) := by decide +kernel
theorem dX8_readLane_32 : decode cX8_readLane 32 = .ok (.getfield 98, 3) := by decide +kernel
theorem dX8_readLane_35 : decode cX8_readLane 35 = .ok (.istore_n 2, 1) := by decide +kernel
theorem dX8_readLane_36 : decode cX8_readLane 36 = .ok (.aload_n 0, 1) := by decide +kernel
theorem dX8_readLane_37 : decode cX8_readLane 37 = .ok (.iconst 0, 1) := by decide +kernel
theorem dX8_readLane_38 : decode cX8_readLane 38 = .ok (.bipush 99, 2) := by decide +kernel
theorem dX8_readLane_40 : decode cX8_readLane 40 = .ok (.invokevirtual 94, 3) := by decide +kernel
theorem dX8_readLane_43 : decode cX8_readLane 43 = .ok (.ifCond .ne 5, 3) := by decide +kernel
theorem dX8_readLane_46 : decode cX8_readLane 46 = .ok (.iconst 0, 1) := by decide +kernel
theorem dX8_readLane_47 : decode cX8_readLane 47 = .ok (.ireturn, 1) := by decide +kernel
theorem dX8_readLane_48 : decode cX8_readLane 48 = .ok (.aload_n 1, 1) := by decide +kernel
theorem dX8_readLane_49 : decode cX8_readLane 49 = .ok (.getfield 148, 3) := by decide +kernel
theorem dX8_readLane_52 : decode cX8_readLane 52 = .ok (.aload_n 0, 1) := by decide +kernel
theorem dX8_readLane_53 : decode cX8_readLane 53 = .ok (.getfield 119, 3) := by decide +kernel
theorem dX8_readLane_56 : decode cX8_readLane 56 = .ok (.aload_n 0, 1) := by decide +kernel
theorem dX8_readLane_57 : decode cX8_readLane 57 = .ok (.getfield 122, 3) := by decide +kernel
theorem dX8_readLane_60 : decode cX8_readLane 60 = .ok (.iload_n 2, 1) := by decide +kernel
theorem dX8_readLane_61 : decode cX8_readLane 61 = .ok (.aload_n 0, 1) := by decide +kernel
theorem dX8_readLane_62 : decode cX8_readLane 62 = .ok (.getfield 98, 3) := by decide +kernel
theorem dX8_readLane_65 : decode cX8_readLane 65 = .ok (.invokevirtual 125, 3) := by decide +kernel
theorem dX8_readLane_68 : decode cX8_readLane 68 = .ok (.iconst 1, 1) := by decide +kernel
theorem dX8_readLane_69 : decode cX8_readLane 69 = .ok (.ireturn, 1) := by decide +kernel
set_option maxRecDepth 20000 in
theorem ggX8_readCart_X8_readNumber : GoodIn wsX8_readCart wsX8_readNumber := goodIn_r _ [7, 8, 9, 10, 1, 11, 12, 13, 6, 14, 15, 16, 17, 18, 19, 20, 21, 22, 23, 24, 25, 26, 27] (by decide +kernel) (by decide +kernel)
set_option maxRecDepth 20000 in
theorem gX8_readCart_X8_readNumber : GoodIn wsX8_readCart (wsV RX8 94 RX8 yX8_readNumber wsX8_readNumber) := goodIn_app (goodIn_of _ (by decide +kernel)) ggX8_readCart_X8_readNumber
theorem dX8_readCart_0 : decode cX8_readCart 0 = .ok (.aload_n 0, 1) := by decide +kernel
theorem dX8_readCart_1 : decode cX8_readCart 1 = .ok (.iconst 1, 1) := by decide +kernel
theorem dX8_readCart_2 : decode cX8_readCart 2 = .ok (.bipush 99, 2) := by decide +kernel
theorem dX8_readCart_4 : decode cX8_readCart 4 = .ok (.invokevirtual 94, 3) := by decide +kernel
theorem dX8_readCart_7 : decode cX8_readCart 7 = .ok (.ifCond .ne 5, 3) := by decide +kernel
theorem dX8_readCart_10 : decode cX8_readCart 10 = .ok (.iconst 0, 1) := by decide +kernel
theorem dX8_readCart_11 : decode cX8_readCart 11 = .ok (.ireturn, 1) := by decide +kernel
theorem dX8_readCart_12 : decode cX8_readCart 12 = .ok (.aload_n 1, 1) := by decide +kernel
theorem dX8_readCart_13 : decode cX8_readCart 13 = .ok (.aload_n 0, 1) := by decide +kernel
theorem dX8_readCart_14 : decode cX8_readCart 14 = .ok (.getfield 98, 3) := by decide +kernel
theorem dX8_readCart_17 : decode cX8_readCart 17 = .ok (.putfield 151, 3) := by decide +kernel
theorem dX8_readCart_20 : decode cX8_readCart 20 = .ok (.iconst 1, 1) := by decide +kernel
theorem dX8_readCart_21 : decode cX8_readCart 21 = .ok (.ireturn, 1) := by decide +kernel
set_option maxRecDepth 20000 in
theorem ggX8_readCouncil_X8_readNumber : GoodIn wsX8_readCouncil wsX8_readNumber := goodIn_r _ [8, 9, 10, 11, 2, 12, 13, 14, 7, 15, 16, 17, 18, 30, 31, 32, 33, 34, 35, 36, 37, 38, 39] (by decide +kernel) (by decide +kernel)
set_option maxRecDepth 20000 in
theorem gX8_readCouncil_X8_readNumber : GoodIn wsX8_readCouncil (wsV RX8 94 RX8 yX8_readNumber wsX8_readNumber) := goodIn_app (goodIn_of _ (by decide +kernel)) ggX8_readCouncil_X8_readNumber
theorem dX8_readCouncil_0 : decode cX8_readCouncil 0 = .ok (.iload_n 2, 1) := by decide +kernel
theorem dX8_readCouncil_1 : decode cX8_readCouncil 1 = .ok (.iconst (-1), 1) := by decide +kernel
theorem dX8_readCouncil_2 : decode cX8_readCouncil 2 = .ok (.if_icmp .eq 13, 3) := by decide +kernel
theorem dX8_readCouncil_5 : decode cX8_readCouncil 5 = .ok (.aload_n 0, 1) := by decide +kernel
theorem dX8_readCouncil_6 : decode cX8_readCouncil 6 = .ok (.iconst 1, 1) := by decide +kernel
theorem dX8_readCouncil_7 : decode cX8_readCouncil 7 = .ok (.bipush 9, 2) := by decide +kernel
theorem dX8_readCouncil_9 : decode cX8_readCouncil 9 = .ok (.invokevirtual 94, 3) := by decide +kernel
theorem dX8_readCouncil_12 : decode cX8_readCouncil 12 = .ok (.ifCond .ne 5, 3) := by decide +kernel
theorem dX8_readCouncil_15 : decode cX8_readCouncil 15 = .ok (.iconst 0, 1) := by decide +kernel
theorem dX8_readCouncil_16 : decode cX8_readCouncil 16 = .ok (.ireturn, 1) := by decide +kernel
theorem dX8_readCouncil_17 : decode cX8_readCouncil 17 = .ok (.aload_n 1, 1) := by decide +kernel
theorem dX8_readCouncil_18 : decode cX8_readCouncil 18 = .ok (.iload_n 2, 1) := by decide +kernel
theorem dX8_readCouncil_19 : decode cX8_readCouncil 19 = .ok (.putfield 153, 3) := by decide +kernel
theorem dX8_readCouncil_22 : decode cX8_readCouncil 22 = .ok (.aload_n 1, 1) := by decide +kernel
theorem dX8_readCouncil_23 : decode cX8_readCouncil 23 = .ok (.aload_n 0, 1) := by decide +kernel
theorem dX8_readCouncil_24 : decode cX8_readCouncil 24 = .ok (.getfield 98, 3) := by decide +kernel
theorem dX8_readCouncil_27 : decode cX8_readCouncil 27 = .ok (.putfield 156, 3) := by decide +kernel
theorem dX8_readCouncil_30 : decode cX8_readCouncil 30 = .ok (.iconst 1, 1) := by decide +kernel
theorem dX8_readCouncil_31 : decode cX8_readCouncil 31 = .ok (.ireturn, 1) := by decide +kernel
set_option maxRecDepth 20000 in
theorem ggX8_kindSpelt_X8_spells : GoodIn wsX8_kindSpelt wsX8_spells := goodIn_r _ [5, 6, 7, 8, 9, 10, 11, 12, 13, 14, 15, 16, 17, 18, 19, 20, 21, 22, 23, 24, 25, 26, 27, 28, 29, 30, 31, 32, 33, 34, 35, 36, 37, 38, 39, 40, 41, 42, 43, 44, 45, 46, 47, 48, 49, 50, 51, 52, 53, 54, 55, 56, 57, 58, 59, 60, 61, 62, 63, 64, 65, 66, 67] (by decide +kernel) (by decide +kernel)
set_option maxRecDepth 20000 in
theorem gX8_kindSpelt_X8_spells : GoodIn wsX8_kindSpelt (wsV RX8 49 RX8 yX8_spells wsX8_spells) := goodIn_app (goodIn_of _ (by decide +kernel)) ggX8_kindSpelt_X8_spells
theorem dX8_kindSpelt_0 : decode cX8_kindSpelt 0 = .ok (.aload_n 0, 1) := by decide +kernel
theorem dX8_kindSpelt_1 : decode cX8_kindSpelt 1 = .ok (.ldc 159, 2) := by decide +kernel
theorem dX8_kindSpelt_3 : decode cX8_kindSpelt 3 = .ok (.invokevirtual 49, 3) := by decide +kernel
theorem dX8_kindSpelt_6 : decode cX8_kindSpelt 6 = .ok (.ifCond .eq 5, 3) := by decide +kernel
theorem dX8_kindSpelt_9 : decode cX8_kindSpelt 9 = .ok (.iconst 0, 1) := by decide +kernel
theorem dX8_kindSpelt_10 : decode cX8_kindSpelt 10 = .ok (.ireturn, 1) := by decide +kernel
theorem dX8_kindSpelt_11 : decode cX8_kindSpelt 11 = .ok (.aload_n 0, 1) := by decide +kernel
theorem dX8_kindSpelt_12 : decode cX8_kindSpelt 12 = .ok (.ldc 161, 2) := by decide +kernel
theorem dX8_kindSpelt_14 : decode cX8_kindSpelt 14 = .ok (.invokevirtual 49, 3) := by decide +kernel
theorem dX8_kindSpelt_17 : decode cX8_kindSpelt 17 = .ok (.ifCond .eq 5, 3) := by decide +kernel
theorem dX8_kindSpelt_20 : decode cX8_kindSpelt 20 = .ok (.iconst 1, 1) := by decide +kernel
theorem dX8_kindSpelt_21 : decode cX8_kindSpelt 21 = .ok (.ireturn, 1) := by decide +kernel
theorem dX8_kindSpelt_22 : decode cX8_kindSpelt 22 = .ok (.aload_n 0, 1) := by decide +kernel
theorem dX8_kindSpelt_23 : decode cX8_kindSpelt 23 = .ok (.ldc 163, 2) := by decide +kernel
theorem dX8_kindSpelt_25 : decode cX8_kindSpelt 25 = .ok (.invokevirtual 49, 3) := by decide +kernel
theorem dX8_kindSpelt_28 : decode cX8_kindSpelt 28 = .ok (.ifCond .eq 5, 3) := by decide +kernel
theorem dX8_kindSpelt_31 : decode cX8_kindSpelt 31 = .ok (.iconst 2, 1) := by decide +kernel
theorem dX8_kindSpelt_32 : decode cX8_kindSpelt 32 = .ok (.ireturn, 1) := by decide +kernel
theorem dX8_kindSpelt_33 : decode cX8_kindSpelt 33 = .ok (.aload_n 0, 1) := by decide +kernel
theorem dX8_kindSpelt_34 : decode cX8_kindSpelt 34 = .ok (.ldc 165, 2) := by decide +kernel
theorem dX8_kindSpelt_36 : decode cX8_kindSpelt 36 = .ok (.invokevirtual 49, 3) := by decide +kernel
theorem dX8_kindSpelt_39 : decode cX8_kindSpelt 39 = .ok (.ifCond .eq 7, 3) := by decide +kernel
theorem dX8_kindSpelt_42 : decode cX8_kindSpelt 42 = .ok (.iconst 3, 1) := by decide +kernel
theorem dX8_kindSpelt_43 : decode cX8_kindSpelt 43 = .ok (.goto 4, 3) := by decide +kernel
theorem dX8_kindSpelt_46 : decode cX8_kindSpelt 46 = .ok (.iconst (-1), 1) := by decide +kernel
theorem dX8_kindSpelt_47 : decode cX8_kindSpelt 47 = .ok (.ireturn, 1) := by decide +kernel
set_option maxRecDepth 20000 in
theorem ggX8_readCorners_X8_readNumber : GoodIn wsX8_readCorners wsX8_readNumber := goodIn_r _ [9, 10, 11, 12, 2, 13, 14, 15, 8, 16, 17, 18, 19, 31, 32, 33, 34, 35, 36, 37, 38, 39, 40] (by decide +kernel) (by decide +kernel)
set_option maxRecDepth 20000 in
theorem gX8_readCorners_X8_readNumber : GoodIn wsX8_readCorners (wsV RX8 94 RX8 yX8_readNumber wsX8_readNumber) := goodIn_app (goodIn_of _ (by decide +kernel)) ggX8_readCorners_X8_readNumber
theorem dX8_readCorners_0 : decode cX8_readCorners 0 = .ok (.aload_n 0, 1) := by decide +kernel
theorem dX8_readCorners_1 : decode cX8_readCorners 1 = .ok (.iconst 0, 1) := by decide +kernel
theorem dX8_readCorners_2 : decode cX8_readCorners 2 = .ok (.aload_n 1, 1) := by decide +kernel
theorem dX8_readCorners_3 : decode cX8_readCorners 3 = .ok (.getfield 167, 3) := by decide +kernel
theorem dX8_readCorners_6 : decode cX8_readCorners 6 = .ok (.iconst 1, 1) := by decide +kernel
theorem dX8_readCorners_7 : decode cX8_readCorners 7 = .ok (.isub, 1) := by decide +kernel
theorem dX8_readCorners_8 : decode cX8_readCorners 8 = .ok (.invokevirtual 94, 3) := by decide +kernel
theorem dX8_readCorners_11 : decode cX8_readCorners 11 = .ok (.ifCond .ne 5, 3) := by decide +kernel
theorem dX8_readCorners_14 : decode cX8_readCorners 14 = .ok (.iconst 0, 1) := by decide +kernel
theorem dX8_readCorners_15 : decode cX8_readCorners 15 = .ok (.ireturn, 1) := by decide +kernel
theorem dX8_readCorners_16 : decode cX8_readCorners 16 = .ok (.aload_n 0, 1) := by decide +kernel
theorem dX8_readCorners_17 : decode cX8_readCorners 17 = .ok (.aload_n 0, 1) := by decide +kernel
theorem dX8_readCorners_18 : decode cX8_readCorners 18 = .ok (.getfield 98, 3) := by decide +kernel
theorem dX8_readCorners_21 : decode cX8_readCorners 21 = .ok (.putfield 119, 3) := by decide +kernel
theorem dX8_readCorners_24 : decode cX8_readCorners 24 = .ok (.aload_n 0, 1) := by decide +kernel
theorem dX8_readCorners_25 : decode cX8_readCorners 25 = .ok (.iconst 0, 1) := by decide +kernel
theorem dX8_readCorners_26 : decode cX8_readCorners 26 = .ok (.aload_n 1, 1) := by decide +kernel
theorem dX8_readCorners_27 : decode cX8_readCorners 27 = .ok (.getfield 167, 3) := by decide +kernel
theorem dX8_readCorners_30 : decode cX8_readCorners 30 = .ok (.iconst 1, 1) := by decide +kernel
theorem dX8_readCorners_31 : decode cX8_readCorners 31 = .ok (.isub, 1) := by decide +kernel
theorem dX8_readCorners_32 : decode cX8_readCorners 32 = .ok (.invokevirtual 94, 3) := by decide +kernel
theorem dX8_readCorners_35 : decode cX8_readCorners 35 = .ok (.ifCond .ne 5, 3) := by decide +kernel
theorem dX8_readCorners_38 : decode cX8_readCorners 38 = .ok (.iconst 0, 1) := by decide +kernel
theorem dX8_readCorners_39 : decode cX8_readCorners 39 = .ok (.ireturn, 1) := by decide +kernel
theorem dX8_readCorners_40 : decode cX8_readCorners 40 = .ok (.aload_n 0, 1) := by decide +kernel
theorem dX8_readCorners_41 : decode cX8_readCorners 41 = .ok (.aload_n 0, 1) := by decide +kernel
theorem dX8_readCorners_42 : decode cX8_readCorners 42 = .ok (.getfield 98, 3) := by decide +kernel
theorem dX8_readCorners_45 : decode cX8_readCorners 45 = .ok (.putfield 122, 3) := by decide +kernel
theorem dX8_readCorners_48 : decode cX8_readCorners 48 = .ok (.aload_n 0, 1) := by decide +kernel
theorem dX8_readCorners_49 : decode cX8_readCorners 49 = .ok (.getfield 119, 3) := by decide +kernel
theorem dX8_readCorners_52 : decode cX8_readCorners 52 = .ok (.aload_n 0, 1) := by decide +kernel
theorem dX8_readCorners_53 : decode cX8_readCorners 53 = .ok (.getfield 122, 3) := by decide +kernel
theorem dX8_readCorners_56 : decode cX8_readCorners 56 = .ok (.if_icmp .eq 7, 3) := by decide +kernel
theorem dX8_readCorners_59 : decode cX8_readCorners 59 = .ok (.iconst 1, 1) := by decide +kernel
theorem dX8_readCorners_60 : decode cX8_readCorners 60 = .ok (.goto 4, 3) := by decide +kernel
theorem dX8_readCorners_63 : decode cX8_readCorners 63 = .ok (.iconst 0, 1) := by decide +kernel
theorem dX8_readCorners_64 : decode cX8_readCorners 64 = .ok (.ireturn, 1) := by decide +kernel
set_option maxRecDepth 20000 in
theorem ggX8_readNumber_X8_readToken : GoodIn wsX8_readNumber wsX8_readToken := goodIn_r _ [9, 2, 10, 11, 3, 1, 4, 12, 13, 14, 15, 16, 17, 18, 19, 20, 21, 22] (by decide +kernel) (by decide +kernel)
set_option maxRecDepth 20000 in
theorem gX8_readNumber_X8_readToken : GoodIn wsX8_readNumber (wsV RX8 41 RX8 yX8_readToken wsX8_readToken) := goodIn_app (goodIn_of _ (by decide +kernel)) ggX8_readNumber_X8_readToken
theorem dX8_readNumber_0 : decode cX8_readNumber 0 = .ok (.aload_n 0, 1) := by decide +kernel
theorem dX8_readNumber_1 : decode cX8_readNumber 1 = .ok (.invokevirtual 41, 3) := by decide +kernel
theorem dX8_readNumber_4 : decode cX8_readNumber 4 = .ok (.aload_n 0, 1) := by decide +kernel
theorem dX8_readNumber_5 : decode cX8_readNumber 5 = .ok (.getfield 44, 3) := by decide +kernel
theorem dX8_readNumber_8 : decode cX8_readNumber 8 = .ok (.iconst 1, 1) := by decide +kernel
theorem dX8_readNumber_9 : decode cX8_readNumber 9 = .ok (.if_icmp .ne 36, 3) := by decide +kernel
theorem dX8_readNumber_12 : decode cX8_readNumber 12 = .ok (.aload_n 0, 1) := by decide +kernel
theorem dX8_readNumber_13 : decode cX8_readNumber 13 = .ok (.getfield 31, 3) := by decide +kernel
theorem dX8_readNumber_16 : decode cX8_readNumber 16 = .ok (.aload_n 0, 1) := by decide +kernel
theorem dX8_readNumber_17 : decode cX8_readNumber 17 = .ok (.getfield 38, 3) := by decide +kernel
theorem dX8_readNumber_20 : decode cX8_readNumber 20 = .ok (.isub, 1) := by decide +kernel
theorem dX8_readNumber_21 : decode cX8_readNumber 21 = .ok (.iconst 2, 1) := by decide +kernel
theorem dX8_readNumber_22 : decode cX8_readNumber 22 = .ok (.if_icmp .gt 23, 3) := by decide +kernel
theorem dX8_readNumber_25 : decode cX8_readNumber 25 = .ok (.aload_n 0, 1) := by decide +kernel
theorem dX8_readNumber_26 : decode cX8_readNumber 26 = .ok (.getfield 98, 3) := by decide +kernel
theorem dX8_readNumber_29 : decode cX8_readNumber 29 = .ok (.iload_n 1, 1) := by decide +kernel
theorem dX8_readNumber_30 : decode cX8_readNumber 30 = .ok (.if_icmp .lt 15, 3) := by decide +kernel
theorem dX8_readNumber_33 : decode cX8_readNumber 33 = .ok (.aload_n 0, 1) := by decide +kernel
theorem dX8_readNumber_34 : decode cX8_readNumber 34 = .ok (.getfield 98, 3) := by decide +kernel
theorem dX8_readNumber_37 : decode cX8_readNumber 37 = .ok (.iload_n 2, 1) := by decide +kernel
theorem dX8_readNumber_38 : decode cX8_readNumber 38 = .ok (.if_icmp .gt 7, 3) := by decide +kernel
theorem dX8_readNumber_41 : decode cX8_readNumber 41 = .ok (.iconst 1, 1) := by decide +kernel
theorem dX8_readNumber_42 : decode cX8_readNumber 42 = .ok (.goto 4, 3) := by decide +kernel
theorem dX8_readNumber_45 : decode cX8_readNumber 45 = .ok (.iconst 0, 1) := by decide +kernel
theorem dX8_readNumber_46 : decode cX8_readNumber 46 = .ok (.ireturn, 1) := by decide +kernel
theorem dX8_readToken_0 : decode cX8_readToken 0 = .ok (.aload_n 0, 1) := by decide +kernel
theorem dX8_readToken_1 : decode cX8_readToken 1 = .ok (.getfield 31, 3) := by decide +kernel
theorem dX8_readToken_4 : decode cX8_readToken 4 = .ok (.aload_n 0, 1) := by decide +kernel
theorem dX8_readToken_5 : decode cX8_readToken 5 = .ok (.getfield 9, 3) := by decide +kernel
theorem dX8_readToken_8 : decode cX8_readToken 8 = .ok (.if_icmp .ge 29, 3) := by decide +kernel
theorem dX8_readToken_11 : decode cX8_readToken 11 = .ok (.aload_n 0, 1) := by decide +kernel
theorem dX8_readToken_12 : decode cX8_readToken 12 = .ok (.getfield 22, 3) := by decide +kernel
theorem dX8_readToken_15 : decode cX8_readToken 15 = .ok (.aload_n 0, 1) := by decide +kernel
theorem dX8_readToken_16 : decode cX8_readToken 16 = .ok (.getfield 31, 3) := by decide +kernel
theorem dX8_readToken_19 : decode cX8_readToken 19 = .ok (.iaload, 1) := by decide +kernel
theorem dX8_readToken_20 : decode cX8_readToken 20 = .ok (.iconst 3, 1) := by decide +kernel
theorem dX8_readToken_21 : decode cX8_readToken 21 = .ok (.if_icmp .ne 16, 3) := by decide +kernel
theorem dX8_readToken_24 : decode cX8_readToken 24 = .ok (.aload_n 0, 1) := by decide +kernel
theorem dX8_readToken_25 : decode cX8_readToken 25 = .ok (.dup, 1) := by decide +kernel
theorem dX8_readToken_26 : decode cX8_readToken 26 = .ok (.getfield 31, 3) := by decide +kernel
theorem dX8_readToken_29 : decode cX8_readToken 29 = .ok (.iconst 1, 1) := by decide +kernel
theorem dX8_readToken_30 : decode cX8_readToken 30 = .ok (.iadd, 1) := by decide +kernel
theorem dX8_readToken_31 : decode cX8_readToken 31 = .ok (.putfield 31, 3) := by decide +kernel
theorem dX8_readToken_34 : decode cX8_readToken 34 = .ok (.goto (-34), 3) := by decide +kernel
theorem dX8_readToken_37 : decode cX8_readToken 37 = .ok (.aload_n 0, 1) := by decide +kernel
theorem dX8_readToken_38 : decode cX8_readToken 38 = .ok (.aload_n 0, 1) := by decide +kernel
theorem dX8_readToken_39 : decode cX8_readToken 39 = .ok (.getfield 31, 3) := by decide +kernel
theorem dX8_readToken_42 : decode cX8_readToken 42 = .ok (.putfield 38, 3) := by decide +kernel
theorem dX8_readToken_45 : decode cX8_readToken 45 = .ok (.aload_n 0, 1) := by decide +kernel
theorem dX8_readToken_46 : decode cX8_readToken 46 = .ok (.aload_n 0, 1) := by decide +kernel
theorem dX8_readToken_47 : decode cX8_readToken 47 = .ok (.getfield 31, 3) := by decide +kernel
theorem dX8_readToken_50 : decode cX8_readToken 50 = .ok (.aload_n 0, 1) := by decide +kernel
theorem dX8_readToken_51 : decode cX8_readToken 51 = .ok (.getfield 9, 3) := by decide +kernel
theorem dX8_readToken_54 : decode cX8_readToken 54 = .ok (.if_icmp .ge 15, 3) := by decide +kernel
theorem dX8_readToken_57 : decode cX8_readToken 57 = .ok (.aload_n 0, 1) := by decide +kernel
theorem dX8_readToken_58 : decode cX8_readToken 58 = .ok (.getfield 22, 3) := by decide +kernel
theorem dX8_readToken_61 : decode cX8_readToken 61 = .ok (.aload_n 0, 1) := by decide +kernel
theorem dX8_readToken_62 : decode cX8_readToken 62 = .ok (.getfield 31, 3) := by decide +kernel
theorem dX8_readToken_65 : decode cX8_readToken 65 = .ok (.iaload, 1) := by decide +kernel
theorem dX8_readToken_66 : decode cX8_readToken 66 = .ok (.goto 4, 3) := by decide +kernel
theorem dX8_readToken_69 : decode cX8_readToken 69 = .ok (.iconst 4, 1) := by decide +kernel
theorem dX8_readToken_70 : decode cX8_readToken 70 = .ok (.putfield 44, 3) := by decide +kernel
theorem dX8_readToken_73 : decode cX8_readToken 73 = .ok (.aload_n 0, 1) := by decide +kernel
theorem dX8_readToken_74 : decode cX8_readToken 74 = .ok (.iconst 0, 1) := by decide +kernel
theorem dX8_readToken_75 : decode cX8_readToken 75 = .ok (.putfield 98, 3) := by decide +kernel
theorem dX8_readToken_78 : decode cX8_readToken 78 = .ok (.aload_n 0, 1) := by decide +kernel
theorem dX8_readToken_79 : decode cX8_readToken 79 = .ok (.getfield 44, 3) := by decide +kernel
theorem dX8_readToken_82 : decode cX8_readToken 82 = .ok (.iconst 2, 1) := by decide +kernel
theorem dX8_readToken_83 : decode cX8_readToken 83 = .ok (.if_icmp .ne 12, 3) := by decide +kernel
theorem dX8_readToken_86 : decode cX8_readToken 86 = .ok (.aload_n 0, 1) := by decide +kernel
theorem dX8_readToken_87 : decode cX8_readToken 87 = .ok (.getfield 38, 3) := by decide +kernel
theorem dX8_readToken_90 : decode cX8_readToken 90 = .ok (.iconst 1, 1) := by decide +kernel
theorem dX8_readToken_91 : decode cX8_readToken 91 = .ok (.iadd, 1) := by decide +kernel
theorem dX8_readToken_92 : decode cX8_readToken 92 = .ok (.goto 7, 3) := by decide +kernel
theorem dX8_readToken_95 : decode cX8_readToken 95 = .ok (.aload_n 0, 1) := by decide +kernel
theorem dX8_readToken_96 : decode cX8_readToken 96 = .ok (.getfield 9, 3) := by decide +kernel
theorem dX8_readToken_99 : decode cX8_readToken 99 = .ok (.istore_n 1, 1) := by decide +kernel
theorem dX8_readToken_100 : decode cX8_readToken 100 = .ok (.aload_n 0, 1) := by decide +kernel
theorem dX8_readToken_101 : decode cX8_readToken 101 = .ok (.getfield 31, 3) := by decide +kernel
theorem dX8_readToken_104 : decode cX8_readToken 104 = .ok (.iload_n 1, 1) := by decide +kernel
theorem dX8_readToken_105 : decode cX8_readToken 105 = .ok (.if_icmp .ge 56, 3) := by decide +kernel
theorem dX8_readToken_108 : decode cX8_readToken 108 = .ok (.aload_n 0, 1) := by decide +kernel
theorem dX8_readToken_109 : decode cX8_readToken 109 = .ok (.getfield 22, 3) := by decide +kernel
theorem dX8_readToken_112 : decode cX8_readToken 112 = .ok (.aload_n 0, 1) := by decide +kernel
theorem dX8_readToken_113 : decode cX8_readToken 113 = .ok (.getfield 31, 3) := by decide +kernel
theorem dX8_readToken_116 : decode cX8_readToken 116 = .ok (.iaload, 1) := by decide +kernel
theorem dX8_readToken_117 : decode cX8_readToken 117 = .ok (.aload_n 0, 1) := by decide +kernel
theorem dX8_readToken_118 : decode cX8_readToken 118 = .ok (.getfield 44, 3) := by decide +kernel
theorem dX8_readToken_121 : decode cX8_readToken 121 = .ok (.if_icmp .ne 40, 3) := by decide +kernel
theorem dX8_readToken_124 : decode cX8_readToken 124 = .ok (.aload_n 0, 1) := by decide +kernel
theorem dX8_readToken_125 : decode cX8_readToken 125 = .ok (.aload_n 0, 1) := by decide +kernel
theorem dX8_readToken_126 : decode cX8_readToken 126 = .ok (.getfield 98, 3) := by decide +kernel
theorem dX8_readToken_129 : decode cX8_readToken 129 = .ok (.bipush 10, 2) := by decide +kernel
theorem dX8_readToken_131 : decode cX8_readToken 131 = .ok (.imul, 1) := by decide +kernel
theorem dX8_readToken_132 : decode cX8_readToken 132 = .ok (.aload_n 0, 1) := by decide +kernel
theorem dX8_readToken_133 : decode cX8_readToken 133 = .ok (.getfield 18, 3) := by decide +kernel
theorem dX8_readToken_136 : decode cX8_readToken 136 = .ok (.aload_n 0, 1) := by decide +kernel
theorem dX8_readToken_137 : decode cX8_readToken 137 = .ok (.getfield 31, 3) := by decide +kernel
theorem dX8_readToken_140 : decode cX8_readToken 140 = .ok (.iaload, 1) := by decide +kernel
theorem dX8_readToken_141 : decode cX8_readToken 141 = .ok (.iadd, 1) := by decide +kernel
theorem dX8_readToken_142 : decode cX8_readToken 142 = .ok (.bipush 48, 2) := by decide +kernel
theorem dX8_readToken_144 : decode cX8_readToken 144 = .ok (.isub, 1) := by decide +kernel
theorem dX8_readToken_145 : decode cX8_readToken 145 = .ok (.putfield 98, 3) := by decide +kernel
theorem dX8_readToken_148 : decode cX8_readToken 148 = .ok (.aload_n 0, 1) := by decide +kernel
theorem dX8_readToken_149 : decode cX8_readToken 149 = .ok (.dup, 1) := by decide +kernel
theorem dX8_readToken_150 : decode cX8_readToken 150 = .ok (.getfield 31, 3) := by decide +kernel
theorem dX8_readToken_153 : decode cX8_readToken 153 = .ok (.iconst 1, 1) := by decide +kernel
theorem dX8_readToken_154 : decode cX8_readToken 154 = .ok (.iadd, 1) := by decide +kernel
theorem dX8_readToken_155 : decode cX8_readToken 155 = .ok (.putfield 31, 3) := by decide +kernel
theorem dX8_readToken_158 : decode cX8_readToken 158 = .ok (.goto (-58), 3) := by decide +kernel
theorem dX8_readToken_161 : decode cX8_readToken 161 = .ok (.return_, 1) := by decide +kernel
set_option maxRecDepth 20000 in
theorem ggX8_spells_J0_length_8abf5 : GoodIn wsX8_spells wsJ0_length_8abf5 := goodIn_r _ [8, 9, 10, 11, 12, 7, 13, 14, 15] (by decide +kernel) (by decide +kernel)
set_option maxRecDepth 20000 in
theorem gX8_spells_J0_length_8abf5 : GoodIn wsX8_spells (wsV RX8 170 RJ0 yJ0_length_8abf5 wsJ0_length_8abf5) := goodIn_app (goodIn_of _ (by decide +kernel)) ggX8_spells_J0_length_8abf5
set_option maxRecDepth 20000 in
theorem ggX8_spells_J0_charAt_5068e : GoodIn wsX8_spells wsJ0_charAt_5068e := goodIn_r _ [19, 9, 20, 21, 22, 7, 23, 14, 15, 24, 25, 26, 27, 28, 29, 30, 31, 32, 33, 34, 35, 36, 37, 38, 39, 40, 41, 42, 43, 44, 45, 46, 47, 48, 49, 50, 51, 52] (by decide +kernel) (by decide +kernel)
set_option maxRecDepth 20000 in
theorem gX8_spells_J0_charAt_5068e : GoodIn wsX8_spells (wsV RX8 174 RJ0 yJ0_charAt_5068e wsJ0_charAt_5068e) := goodIn_app (goodIn_of _ (by decide +kernel)) ggX8_spells_J0_charAt_5068e
theorem dX8_spells_0 : decode cX8_spells 0 = .ok (.aload_n 0, 1) := by decide +kernel
theorem dX8_spells_1 : decode cX8_spells 1 = .ok (.getfield 31, 3) := by decide +kernel
theorem dX8_spells_4 : decode cX8_spells 4 = .ok (.aload_n 0, 1) := by decide +kernel
theorem dX8_spells_5 : decode cX8_spells 5 = .ok (.getfield 38, 3) := by decide +kernel
theorem dX8_spells_8 : decode cX8_spells 8 = .ok (.isub, 1) := by decide +kernel
theorem dX8_spells_9 : decode cX8_spells 9 = .ok (.aload_n 1, 1) := by decide +kernel
theorem dX8_spells_10 : decode cX8_spells 10 = .ok (.invokevirtual 170, 3) := by decide +kernel
theorem dX8_spells_13 : decode cX8_spells 13 = .ok (.if_icmp .eq 5, 3) := by decide +kernel
theorem dX8_spells_16 : decode cX8_spells 16 = .ok (.iconst 0, 1) := by decide +kernel
theorem dX8_spells_17 : decode cX8_spells 17 = .ok (.ireturn, 1) := by decide +kernel
theorem dX8_spells_18 : decode cX8_spells 18 = .ok (.iconst 0, 1) := by decide +kernel
theorem dX8_spells_19 : decode cX8_spells 19 = .ok (.istore_n 2, 1) := by decide +kernel
theorem dX8_spells_20 : decode cX8_spells 20 = .ok (.iload_n 2, 1) := by decide +kernel
theorem dX8_spells_21 : decode cX8_spells 21 = .ok (.aload_n 1, 1) := by decide +kernel
theorem dX8_spells_22 : decode cX8_spells 22 = .ok (.invokevirtual 170, 3) := by decide +kernel
theorem dX8_spells_25 : decode cX8_spells 25 = .ok (.if_icmp .ge 30, 3) := by decide +kernel
theorem dX8_spells_28 : decode cX8_spells 28 = .ok (.aload_n 0, 1) := by decide +kernel
theorem dX8_spells_29 : decode cX8_spells 29 = .ok (.getfield 18, 3) := by decide +kernel
theorem dX8_spells_32 : decode cX8_spells 32 = .ok (.aload_n 0, 1) := by decide +kernel
theorem dX8_spells_33 : decode cX8_spells 33 = .ok (.getfield 38, 3) := by decide +kernel
theorem dX8_spells_36 : decode cX8_spells 36 = .ok (.iload_n 2, 1) := by decide +kernel
theorem dX8_spells_37 : decode cX8_spells 37 = .ok (.iadd, 1) := by decide +kernel
theorem dX8_spells_38 : decode cX8_spells 38 = .ok (.iaload, 1) := by decide +kernel
theorem dX8_spells_39 : decode cX8_spells 39 = .ok (.aload_n 1, 1) := by decide +kernel
theorem dX8_spells_40 : decode cX8_spells 40 = .ok (.iload_n 2, 1) := by decide +kernel
theorem dX8_spells_41 : decode cX8_spells 41 = .ok (.invokevirtual 174, 3) := by decide +kernel
theorem dX8_spells_44 : decode cX8_spells 44 = .ok (.if_icmp .eq 5, 3) := by decide +kernel
theorem dX8_spells_47 : decode cX8_spells 47 = .ok (.iconst 0, 1) := by decide +kernel
theorem dX8_spells_48 : decode cX8_spells 48 = .ok (.ireturn, 1) := by decide +kernel
theorem dX8_spells_49 : decode cX8_spells 49 = .ok (.iinc 2 1, 3) := by decide +kernel
theorem dX8_spells_52 : decode cX8_spells 52 = .ok (.goto (-32), 3) := by decide +kernel
theorem dX8_spells_55 : decode cX8_spells 55 = .ok (.iconst 1, 1) := by decide +kernel
theorem dX8_spells_56 : decode cX8_spells 56 = .ok (.ireturn, 1) := by decide +kernel
theorem dX8_sortOf_0 : decode cX8_sortOf 0 = .ok (.iload_n 0, 1) := by decide +kernel
theorem dX8_sortOf_1 : decode cX8_sortOf 1 = .ok (.bipush 97, 2) := by decide +kernel
theorem dX8_sortOf_3 : decode cX8_sortOf 3 = .ok (.if_icmp .lt 11, 3) := by decide +kernel
theorem dX8_sortOf_6 : decode cX8_sortOf 6 = .ok (.iload_n 0, 1) := by decide +kernel
theorem dX8_sortOf_7 : decode cX8_sortOf 7 = .ok (.bipush 122, 2) := by decide +kernel
theorem dX8_sortOf_9 : decode cX8_sortOf 9 = .ok (.if_icmp .gt 5, 3) := by decide +kernel
theorem dX8_sortOf_12 : decode cX8_sortOf 12 = .ok (.iconst 0, 1) := by decide +kernel
theorem dX8_sortOf_13 : decode cX8_sortOf 13 = .ok (.ireturn, 1) := by decide +kernel
theorem dX8_sortOf_14 : decode cX8_sortOf 14 = .ok (.iload_n 0, 1) := by decide +kernel
theorem dX8_sortOf_15 : decode cX8_sortOf 15 = .ok (.bipush 48, 2) := by decide +kernel
theorem dX8_sortOf_17 : decode cX8_sortOf 17 = .ok (.if_icmp .lt 11, 3) := by decide +kernel
theorem dX8_sortOf_20 : decode cX8_sortOf 20 = .ok (.iload_n 0, 1) := by decide +kernel
theorem dX8_sortOf_21 : decode cX8_sortOf 21 = .ok (.bipush 57, 2) := by decide +kernel
theorem dX8_sortOf_23 : decode cX8_sortOf 23 = .ok (.if_icmp .gt 5, 3) := by decide +kernel
theorem dX8_sortOf_26 : decode cX8_sortOf 26 = .ok (.iconst 1, 1) := by decide +kernel
theorem dX8_sortOf_27 : decode cX8_sortOf 27 = .ok (.ireturn, 1) := by decide +kernel
theorem dX8_sortOf_28 : decode cX8_sortOf 28 = .ok (.iload_n 0, 1) := by decide +kernel
theorem dX8_sortOf_29 : decode cX8_sortOf 29 = .ok (.bipush 32, 2) := by decide +kernel
theorem dX8_sortOf_31 : decode cX8_sortOf 31 = .ok (.if_icmp .ne 7, 3) := by decide +kernel
theorem dX8_sortOf_34 : decode cX8_sortOf 34 = .ok (.iconst 3, 1) := by decide +kernel
theorem dX8_sortOf_35 : decode cX8_sortOf 35 = .ok (.goto 4, 3) := by decide +kernel
theorem dX8_sortOf_38 : decode cX8_sortOf 38 = .ok (.iconst 2, 1) := by decide +kernel
theorem dX8_sortOf_39 : decode cX8_sortOf 39 = .ok (.ireturn, 1) := by decide +kernel
theorem dX9_init_0 : decode cX9_init 0 = .ok (.aload_n 0, 1) := by decide +kernel
theorem dX9_init_1 : decode cX9_init 1 = .ok (.invokespecial 3, 3) := by decide +kernel
theorem dX9_init_4 : decode cX9_init 4 = .ok (.aload_n 0, 1) := by decide +kernel
theorem dX9_init_5 : decode cX9_init 5 = .ok (.sipush 1001, 3) := by decide +kernel
theorem dX9_init_8 : decode cX9_init 8 = .ok (.newarray .long, 2) := by decide +kernel
theorem dX9_init_10 : decode cX9_init 10 = .ok (.putfield 9, 3) := by decide +kernel
theorem dX9_init_13 : decode cX9_init 13 = .ok (.aload_n 0, 1) := by decide +kernel
theorem dX9_init_14 : decode cX9_init 14 = .ok (.sipush 1001, 3) := by decide +kernel
theorem dX9_init_17 : decode cX9_init 17 = .ok (.newarray .long, 2) := by decide +kernel
theorem dX9_init_19 : decode cX9_init 19 = .ok (.putfield 15, 3) := by decide +kernel
theorem dX9_init_22 : decode cX9_init 22 = .ok (.return_, 1) := by decide +kernel
set_option maxRecDepth 20000 in
theorem ggX9_put_X9_halfOf : GoodIn wsX9_put wsX9_halfOf := goodIn_r _ [8, 9, 12, 13] (by decide +kernel) (by decide +kernel)
set_option maxRecDepth 20000 in
theorem gX9_put_X9_halfOf : GoodIn wsX9_put (wsV RX9 18 RX9 yX9_halfOf wsX9_halfOf) := goodIn_app (goodIn_of _ (by decide +kernel)) ggX9_put_X9_halfOf
theorem dX9_put_0 : decode cX9_put 0 = .ok (.iload_n 1, 1) := by decide +kernel
theorem dX9_put_1 : decode cX9_put 1 = .ok (.ifCond .lt 12, 3) := by decide +kernel
theorem dX9_put_4 : decode cX9_put 4 = .ok (.iload_n 1, 1) := by decide +kernel
theorem dX9_put_5 : decode cX9_put 5 = .ok (.aload_n 0, 1) := by decide +kernel
theorem dX9_put_6 : decode cX9_put 6 = .ok (.getfield 9, 3) := by decide +kernel
theorem dX9_put_9 : decode cX9_put 9 = .ok (.arraylength, 1) := by decide +kernel
theorem dX9_put_10 : decode cX9_put 10 = .ok (.if_icmp .lt 4, 3) := by decide +kernel
theorem dX9_put_13 : decode cX9_put 13 = .ok (.return_, 1) := by decide +kernel
theorem dX9_put_14 : decode cX9_put 14 = .ok (.aload_n 0, 1) := by decide +kernel
theorem dX9_put_15 : decode cX9_put 15 = .ok (.getfield 9, 3) := by decide +kernel
theorem dX9_put_18 : decode cX9_put 18 = .ok (.iload_n 1, 1) := by decide +kernel
theorem dX9_put_19 : decode cX9_put 19 = .ok (.aload_n 0, 1) := by decide +kernel
theorem dX9_put_20 : decode cX9_put 20 = .ok (.aload_n 2, 1) := by decide +kernel
theorem dX9_put_21 : decode cX9_put 21 = .ok (.iconst 0, 1) := by decide +kernel
theorem dX9_put_22 : decode cX9_put 22 = .ok (.invokevirtual 18, 3) := by decide +kernel
theorem dX9_put_25 : decode cX9_put 25 = .ok (.ldc2_w 22, 3) := by decide +kernel
theorem dX9_put_28 : decode cX9_put 28 = .ok (.lmul, 1) := by decide +kernel
theorem dX9_put_29 : decode cX9_put 29 = .ok (.iload_n 3, 1) := by decide +kernel
theorem dX9_put_30 : decode cX9_put 30 = .ok (.i2l, 1) := by decide +kernel
theorem dX9_put_31 : decode cX9_put 31 = .ok (.ladd, 1) := by decide +kernel
theorem dX9_put_32 : decode cX9_put 32 = .ok (.lastore, 1) := by decide +kernel
theorem dX9_put_33 : decode cX9_put 33 = .ok (.aload_n 0, 1) := by decide +kernel
theorem dX9_put_34 : decode cX9_put 34 = .ok (.getfield 15, 3) := by decide +kernel
theorem dX9_put_37 : decode cX9_put 37 = .ok (.iload_n 1, 1) := by decide +kernel
theorem dX9_put_38 : decode cX9_put 38 = .ok (.aload_n 0, 1) := by decide +kernel
theorem dX9_put_39 : decode cX9_put 39 = .ok (.aload_n 2, 1) := by decide +kernel
theorem dX9_put_40 : decode cX9_put 40 = .ok (.bipush 6, 2) := by decide +kernel
theorem dX9_put_42 : decode cX9_put 42 = .ok (.invokevirtual 18, 3) := by decide +kernel
theorem dX9_put_45 : decode cX9_put 45 = .ok (.lastore, 1) := by decide +kernel
theorem dX9_put_46 : decode cX9_put 46 = .ok (.return_, 1) := by decide +kernel
theorem dX9_halfOf_0 : decode cX9_halfOf 0 = .ok (.lconst 0, 1) := by decide +kernel
theorem dX9_halfOf_1 : decode cX9_halfOf 1 = .ok (.lstore_n 3, 1) := by decide +kernel
theorem dX9_halfOf_2 : decode cX9_halfOf 2 = .ok (.iload_n 2, 1) := by decide +kernel
theorem dX9_halfOf_3 : decode cX9_halfOf 3 = .ok (.istore 5, 2) := by decide +kernel
theorem dX9_halfOf_5 : decode cX9_halfOf 5 = .ok (.iload 5, 2) := by decide +kernel
theorem dX9_halfOf_7 : decode cX9_halfOf 7 = .ok (.iload_n 2, 1) := by decide +kernel
theorem dX9_halfOf_8 : decode cX9_halfOf 8 = .ok (.bipush 6, 2) := by decide +kernel
theorem dX9_halfOf_10 : decode cX9_halfOf 10 = .ok (.iadd, 1) := by decide +kernel
theorem dX9_halfOf_11 : decode cX9_halfOf 11 = .ok (.if_icmp .ge 23, 3) := by decide +kernel
theorem dX9_halfOf_14 : decode cX9_halfOf 14 = .ok (.lload_n 3, 1) := by decide +kernel
theorem dX9_halfOf_15 : decode cX9_halfOf 15 = .ok (.bipush 7, 2) := by decide +kernel
theorem dX9_halfOf_17 : decode cX9_halfOf 17 = .ok (.lshl, 1) := by decide +kernel
theorem dX9_halfOf_18 : decode cX9_halfOf 18 = .ok (.aload_n 1, 1) := by decide +kernel
theorem dX9_halfOf_19 : decode cX9_halfOf 19 = .ok (.getfield 24, 3) := by decide +kernel
theorem dX9_halfOf_22 : decode cX9_halfOf 22 = .ok (.iload 5, 2) := by decide +kernel
theorem dX9_halfOf_24 : decode cX9_halfOf 24 = .ok (.iaload, 1) := by decide +kernel
theorem dX9_halfOf_25 : decode cX9_halfOf 25 = .ok (.i2l, 1) := by decide +kernel
theorem dX9_halfOf_26 : decode cX9_halfOf 26 = .ok (.lor, 1) := by decide +kernel
theorem dX9_halfOf_27 : decode cX9_halfOf 27 = .ok (.lstore_n 3, 1) := by decide +kernel
theorem dX9_halfOf_28 : decode cX9_halfOf 28 = .ok (.iinc 5 1, 3) := by decide +kernel
theorem dX9_halfOf_31 : decode cX9_halfOf 31 = .ok (.goto (-26), 3) := by decide +kernel
theorem dX9_halfOf_34 : decode cX9_halfOf 34 = .ok (.lload_n 3, 1) := by decide +kernel
theorem dX9_halfOf_35 : decode cX9_halfOf 35 = .ok (.lreturn, 1) := by decide +kernel
theorem dX9_firstLike_0 : decode cX9_firstLike 0 = .ok (.iconst 0, 1) := by decide +kernel
theorem dX9_firstLike_1 : decode cX9_firstLike 1 = .ok (.istore_n 2, 1) := by decide +kernel
theorem dX9_firstLike_2 : decode cX9_firstLike 2 = .ok (.iload_n 2, 1) := by decide +kernel
theorem dX9_firstLike_3 : decode cX9_firstLike 3 = .ok (.iload_n 1, 1) := by decide +kernel
theorem dX9_firstLike_4 : decode cX9_firstLike 4 = .ok (.if_icmp .ge 52, 3) := by decide +kernel
theorem dX9_firstLike_7 : decode cX9_firstLike 7 = .ok (.iload_n 1, 1) := by decide +kernel
theorem dX9_firstLike_8 : decode cX9_firstLike 8 = .ok (.aload_n 0, 1) := by decide +kernel
theorem dX9_firstLike_9 : decode cX9_firstLike 9 = .ok (.getfield 9, 3) := by decide +kernel
theorem dX9_firstLike_12 : decode cX9_firstLike 12 = .ok (.arraylength, 1) := by decide +kernel
theorem dX9_firstLike_13 : decode cX9_firstLike 13 = .ok (.if_icmp .ge 43, 3) := by decide +kernel
theorem dX9_firstLike_16 : decode cX9_firstLike 16 = .ok (.aload_n 0, 1) := by decide +kernel
theorem dX9_firstLike_17 : decode cX9_firstLike 17 = .ok (.getfield 9, 3) := by decide +kernel
theorem dX9_firstLike_20 : decode cX9_firstLike 20 = .ok (.iload_n 2, 1) := by decide +kernel
theorem dX9_firstLike_21 : decode cX9_firstLike 21 = .ok (.laload, 1) := by decide +kernel
theorem dX9_firstLike_22 : decode cX9_firstLike 22 = .ok (.aload_n 0, 1) := by decide +kernel
theorem dX9_firstLike_23 : decode cX9_firstLike 23 = .ok (.getfield 9, 3) := by decide +kernel
theorem dX9_firstLike_26 : decode cX9_firstLike 26 = .ok (.iload_n 1, 1) := by decide +kernel
theorem dX9_firstLike_27 : decode cX9_firstLike 27 = .ok (.laload, 1) := by decide +kernel
theorem dX9_firstLike_28 : decode cX9_firstLike 28 = .ok (.lcmp, 1) := by decide +kernel
theorem dX9_firstLike_29 : decode cX9_firstLike 29 = .ok (.ifCond .ne 21, 3) := by decide +kernel
theorem dX9_firstLike_32 : decode cX9_firstLike 32 = .ok (.aload_n 0, 1) := by decide +kernel
theorem dX9_firstLike_33 : decode cX9_firstLike 33 = .ok (.getfield 15, 3) := by decide +kernel
theorem dX9_firstLike_36 : decode cX9_firstLike 36 = .ok (.iload_n 2, 1) := by decide +kernel
theorem dX9_firstLike_37 : decode cX9_firstLike 37 = .ok (.laload, 1) := by decide +kernel
theorem dX9_firstLike_38 : decode cX9_firstLike 38 = .ok (.aload_n 0, 1) := by decide +kernel
theorem dX9_firstLike_39 : decode cX9_firstLike 39 = .ok (.getfield 15, 3) := by decide +kernel
theorem dX9_firstLike_42 : decode cX9_firstLike 42 = .ok (.iload_n 1, 1) := by decide +kernel
theorem dX9_firstLike_43 : decode cX9_firstLike 43 = .ok (.laload, 1) := by decide +kernel
theorem dX9_firstLike_44 : decode cX9_firstLike 44 = .ok (.lcmp, 1) := by decide +kernel
theorem dX9_firstLike_45 : decode cX9_firstLike 45 = .ok (.ifCond .ne 5, 3) := by decide +kernel
theorem dX9_firstLike_48 : decode cX9_firstLike 48 = .ok (.iload_n 2, 1) := by decide +kernel
theorem dX9_firstLike_49 : decode cX9_firstLike 49 = .ok (.ireturn, 1) := by decide +kernel
theorem dX9_firstLike_50 : decode cX9_firstLike 50 = .ok (.iinc 2 1, 3) := by decide +kernel
theorem dX9_firstLike_53 : decode cX9_firstLike 53 = .ok (.goto (-51), 3) := by decide +kernel
theorem dX9_firstLike_56 : decode cX9_firstLike 56 = .ok (.iload_n 1, 1) := by decide +kernel
theorem dX9_firstLike_57 : decode cX9_firstLike 57 = .ok (.ireturn, 1) := by decide +kernel
theorem dX10_init_0 : decode cX10_init 0 = .ok (.aload_n 0, 1) := by decide +kernel
theorem dX10_init_1 : decode cX10_init 1 = .ok (.invokespecial 3, 3) := by decide +kernel
theorem dX10_init_4 : decode cX10_init 4 = .ok (.aload_n 0, 1) := by decide +kernel
theorem dX10_init_5 : decode cX10_init 5 = .ok (.bipush 8, 2) := by decide +kernel
theorem dX10_init_7 : decode cX10_init 7 = .ok (.newarray .int, 2) := by decide +kernel
theorem dX10_init_9 : decode cX10_init 9 = .ok (.putfield 9, 3) := by decide +kernel
theorem dX10_init_12 : decode cX10_init 12 = .ok (.aload_n 0, 1) := by decide +kernel
theorem dX10_init_13 : decode cX10_init 13 = .ok (.iconst 0, 1) := by decide +kernel
theorem dX10_init_14 : decode cX10_init 14 = .ok (.putfield 15, 3) := by decide +kernel
theorem dX10_init_17 : decode cX10_init 17 = .ok (.aload_n 0, 1) := by decide +kernel
theorem dX10_init_18 : decode cX10_init 18 = .ok (.iconst 0, 1) := by decide +kernel
theorem dX10_init_19 : decode cX10_init 19 = .ok (.putfield 19, 3) := by decide +kernel
theorem dX10_init_22 : decode cX10_init 22 = .ok (.aload_n 0, 1) := by decide +kernel
theorem dX10_init_23 : decode cX10_init 23 = .ok (.iconst 0, 1) := by decide +kernel
theorem dX10_init_24 : decode cX10_init 24 = .ok (.putfield 22, 3) := by decide +kernel
theorem dX10_init_27 : decode cX10_init 27 = .ok (.aload_n 0, 1) := by decide +kernel
theorem dX10_init_28 : decode cX10_init 28 = .ok (.bipush 8, 2) := by decide +kernel
theorem dX10_init_30 : decode cX10_init 30 = .ok (.newarray .int, 2) := by decide +kernel
theorem dX10_init_32 : decode cX10_init 32 = .ok (.putfield 25, 3) := by decide +kernel
theorem dX10_init_35 : decode cX10_init 35 = .ok (.return_, 1) := by decide +kernel
theorem dX10_isThere_0 : decode cX10_isThere 0 = .ok (.aload_n 0, 1) := by decide +kernel
theorem dX10_isThere_1 : decode cX10_isThere 1 = .ok (.getfield 15, 3) := by decide +kernel
theorem dX10_isThere_4 : decode cX10_isThere 4 = .ok (.ifCond .le 7, 3) := by decide +kernel
theorem dX10_isThere_7 : decode cX10_isThere 7 = .ok (.iconst 1, 1) := by decide +kernel
theorem dX10_isThere_8 : decode cX10_isThere 8 = .ok (.goto 4, 3) := by decide +kernel
theorem dX10_isThere_11 : decode cX10_isThere 11 = .ok (.iconst 0, 1) := by decide +kernel
theorem dX10_isThere_12 : decode cX10_isThere 12 = .ok (.ireturn, 1) := by decide +kernel
set_option maxRecDepth 20000 in
theorem ggX10_find_X10_measure : GoodIn wsX10_find wsX10_measure := goodIn_r _ [10, 3, 5, 11, 12, 13, 14, 15, 16, 17, 18, 19, 20, 21, 9, 22, 32, 33, 34, 35, 36, 37, 38, 39, 40, 41] (by decide +kernel) (by decide +kernel)
set_option maxRecDepth 20000 in
theorem gX10_find_X10_measure : GoodIn wsX10_find (wsV RX10 28 RX10 yX10_measure wsX10_measure) := goodIn_app (goodIn_of _ (by decide +kernel)) ggX10_find_X10_measure
set_option maxRecDepth 20000 in
theorem ggX10_find_X10_walk : GoodIn wsX10_find wsX10_walk := goodIn_r _ [26, 27, 1, 2, 12, 13, 28, 29, 30, 9, 31, 11, 3, 14, 32, 33, 34, 35, 36, 37, 38, 39, 40, 41] (by decide +kernel) (by decide +kernel)
set_option maxRecDepth 20000 in
theorem gX10_find_X10_walk : GoodIn wsX10_find (wsV RX10 33 RX10 yX10_walk wsX10_walk) := goodIn_app (goodIn_of _ (by decide +kernel)) ggX10_find_X10_walk
theorem dX10_find_0 : decode cX10_find 0 = .ok (.aload_n 0, 1) := by decide +kernel
theorem dX10_find_1 : decode cX10_find 1 = .ok (.iconst 0, 1) := by decide +kernel
theorem dX10_find_2 : decode cX10_find 2 = .ok (.putfield 15, 3) := by decide +kernel
theorem dX10_find_5 : decode cX10_find 5 = .ok (.aload_n 0, 1) := by decide +kernel
theorem dX10_find_6 : decode cX10_find 6 = .ok (.iconst 0, 1) := by decide +kernel
theorem dX10_find_7 : decode cX10_find 7 = .ok (.putfield 19, 3) := by decide +kernel
theorem dX10_find_10 : decode cX10_find 10 = .ok (.aload_n 0, 1) := by decide +kernel
theorem dX10_find_11 : decode cX10_find 11 = .ok (.aload_n 1, 1) := by decide +kernel
theorem dX10_find_12 : decode cX10_find 12 = .ok (.aload_n 2, 1) := by decide +kernel
theorem dX10_find_13 : decode cX10_find 13 = .ok (.iload 4, 2) := by decide +kernel
theorem dX10_find_15 : decode cX10_find 15 = .ok (.invokevirtual 28, 3) := by decide +kernel
theorem dX10_find_18 : decode cX10_find 18 = .ok (.aload_n 0, 1) := by decide +kernel
theorem dX10_find_19 : decode cX10_find 19 = .ok (.aload_n 0, 1) := by decide +kernel
theorem dX10_find_20 : decode cX10_find 20 = .ok (.getfield 25, 3) := by decide +kernel
theorem dX10_find_23 : decode cX10_find 23 = .ok (.iload_n 3, 1) := by decide +kernel
theorem dX10_find_24 : decode cX10_find 24 = .ok (.iaload, 1) := by decide +kernel
theorem dX10_find_25 : decode cX10_find 25 = .ok (.putfield 22, 3) := by decide +kernel
theorem dX10_find_28 : decode cX10_find 28 = .ok (.aload_n 0, 1) := by decide +kernel
theorem dX10_find_29 : decode cX10_find 29 = .ok (.getfield 22, 3) := by decide +kernel
theorem dX10_find_32 : decode cX10_find 32 = .ok (.ldc 32, 2) := by decide +kernel
theorem dX10_find_34 : decode cX10_find 34 = .ok (.if_icmp .ge 12, 3) := by decide +kernel
theorem dX10_find_37 : decode cX10_find 37 = .ok (.aload_n 0, 1) := by decide +kernel
theorem dX10_find_38 : decode cX10_find 38 = .ok (.aload_n 1, 1) := by decide +kernel
theorem dX10_find_39 : decode cX10_find 39 = .ok (.aload_n 2, 1) := by decide +kernel
theorem dX10_find_40 : decode cX10_find 40 = .ok (.iload_n 3, 1) := by decide +kernel
theorem dX10_find_41 : decode cX10_find 41 = .ok (.iload 4, 2) := by decide +kernel
theorem dX10_find_43 : decode cX10_find 43 = .ok (.invokevirtual 33, 3) := by decide +kernel
theorem dX10_find_46 : decode cX10_find 46 = .ok (.return_, 1) := by decide +kernel
set_option maxRecDepth 20000 in
theorem ggX10_measure_J7_fill_53178 : GoodIn wsX10_measure wsJ7_fill_53178 := goodIn_r _ [10] (by decide +kernel) (by decide +kernel)
set_option maxRecDepth 20000 in
theorem gX10_measure_J7_fill_53178 : GoodIn wsX10_measure (va_wsS RX10 37 yJ7_fill_53178 wsJ7_fill_53178) := goodIn_app (goodIn_of _ (by decide +kernel)) ggX10_measure_J7_fill_53178
set_option maxRecDepth 20000 in
theorem ggX10_measure_X10_comesNearer : GoodIn wsX10_measure wsX10_comesNearer := goodIn_r _ [15, 1, 16, 17, 18, 19, 20] (by decide +kernel) (by decide +kernel)
set_option maxRecDepth 20000 in
theorem gX10_measure_X10_comesNearer : GoodIn wsX10_measure (wsV RX10 54 RX10 yX10_comesNearer wsX10_comesNearer) := goodIn_app (goodIn_of _ (by decide +kernel)) ggX10_measure_X10_comesNearer
theorem dX10_measure_0 : decode cX10_measure 0 = .ok (.aload_n 0, 1) := by decide +kernel
theorem dX10_measure_1 : decode cX10_measure 1 = .ok (.getfield 25, 3) := by decide +kernel
theorem dX10_measure_4 : decode cX10_measure 4 = .ok (.ldc 32, 2) := by decide +kernel
theorem dX10_measure_6 : decode cX10_measure 6 = .ok (.invokestatic 37, 3) := by decide +kernel
theorem dX10_measure_9 : decode cX10_measure 9 = .ok (.aload_n 0, 1) := by decide +kernel
theorem dX10_measure_10 : decode cX10_measure 10 = .ok (.getfield 25, 3) := by decide +kernel
theorem dX10_measure_13 : decode cX10_measure 13 = .ok (.iload_n 3, 1) := by decide +kernel
theorem dX10_measure_14 : decode cX10_measure 14 = .ok (.iconst 0, 1) := by decide +kernel
theorem dX10_measure_15 : decode cX10_measure 15 = .ok (.iastore, 1) := by decide +kernel
theorem dX10_measure_16 : decode cX10_measure 16 = .ok (.iconst 1, 1) := by decide +kernel
theorem dX10_measure_17 : decode cX10_measure 17 = .ok (.istore 4, 2) := by decide +kernel
theorem dX10_measure_19 : decode cX10_measure 19 = .ok (.iconst 0, 1) := by decide +kernel
theorem dX10_measure_20 : decode cX10_measure 20 = .ok (.istore 5, 2) := by decide +kernel
theorem dX10_measure_22 : decode cX10_measure 22 = .ok (.iload 5, 2) := by decide +kernel
theorem dX10_measure_24 : decode cX10_measure 24 = .ok (.bipush 8, 2) := by decide +kernel
theorem dX10_measure_26 : decode cX10_measure 26 = .ok (.if_icmp .ge 73, 3) := by decide +kernel
theorem dX10_measure_29 : decode cX10_measure 29 = .ok (.iload 4, 2) := by decide +kernel
theorem dX10_measure_31 : decode cX10_measure 31 = .ok (.ifCond .eq 68, 3) := by decide +kernel
theorem dX10_measure_34 : decode cX10_measure 34 = .ok (.iconst 0, 1) := by decide +kernel
theorem dX10_measure_35 : decode cX10_measure 35 = .ok (.istore 4, 2) := by decide +kernel
theorem dX10_measure_37 : decode cX10_measure 37 = .ok (.iconst 0, 1) := by decide +kernel
theorem dX10_measure_38 : decode cX10_measure 38 = .ok (.istore 6, 2) := by decide +kernel
theorem dX10_measure_40 : decode cX10_measure 40 = .ok (.iload 6, 2) := by decide +kernel
theorem dX10_measure_42 : decode cX10_measure 42 = .ok (.aload_n 1, 1) := by decide +kernel
theorem dX10_measure_43 : decode cX10_measure 43 = .ok (.getfield 43, 3) := by decide +kernel
theorem dX10_measure_46 : decode cX10_measure 46 = .ok (.if_icmp .ge 47, 3) := by decide +kernel
theorem dX10_measure_49 : decode cX10_measure 49 = .ok (.aload_n 2, 1) := by decide +kernel
theorem dX10_measure_50 : decode cX10_measure 50 = .ok (.iload 6, 2) := by decide +kernel
theorem dX10_measure_52 : decode cX10_measure 52 = .ok (.iaload, 1) := by decide +kernel
theorem dX10_measure_53 : decode cX10_measure 53 = .ok (.ifCond .ne 34, 3) := by decide +kernel
theorem dX10_measure_56 : decode cX10_measure 56 = .ok (.aload_n 0, 1) := by decide +kernel
theorem dX10_measure_57 : decode cX10_measure 57 = .ok (.aload_n 1, 1) := by decide +kernel
theorem dX10_measure_58 : decode cX10_measure 58 = .ok (.getfield 46, 3) := by decide +kernel
theorem dX10_measure_61 : decode cX10_measure 61 = .ok (.iload 6, 2) := by decide +kernel
theorem dX10_measure_63 : decode cX10_measure 63 = .ok (.iaload, 1) := by decide +kernel
theorem dX10_measure_64 : decode cX10_measure 64 = .ok (.aload_n 1, 1) := by decide +kernel
theorem dX10_measure_65 : decode cX10_measure 65 = .ok (.getfield 49, 3) := by decide +kernel
theorem dX10_measure_68 : decode cX10_measure 68 = .ok (.iload 6, 2) := by decide +kernel
theorem dX10_measure_70 : decode cX10_measure 70 = .ok (.iaload, 1) := by decide +kernel
theorem dX10_measure_71 : decode cX10_measure 71 = .ok (.aload_n 1, 1) := by decide +kernel
theorem dX10_measure_72 : decode cX10_measure 72 = .ok (.getfield 52, 3) := by decide +kernel
theorem dX10_measure_75 : decode cX10_measure 75 = .ok (.iload 6, 2) := by decide +kernel
theorem dX10_measure_77 : decode cX10_measure 77 = .ok (.iaload, 1) := by decide +kernel
theorem dX10_measure_78 : decode cX10_measure 78 = .ok (.invokevirtual 54, 3) := by decide +kernel
theorem dX10_measure_81 : decode cX10_measure 81 = .ok (.ifCond .eq 6, 3) := by decide +kernel
theorem dX10_measure_84 : decode cX10_measure 84 = .ok (.iconst 1, 1) := by decide +kernel
theorem dX10_measure_85 : decode cX10_measure 85 = .ok (.istore 4, 2) := by decide +kernel
theorem dX10_measure_87 : decode cX10_measure 87 = .ok (.iinc 6 1, 3) := by decide +kernel
theorem dX10_measure_90 : decode cX10_measure 90 = .ok (.goto (-50), 3) := by decide +kernel
theorem dX10_measure_93 : decode cX10_measure 93 = .ok (.iinc 5 1, 3) := by decide +kernel
theorem dX10_measure_96 : decode cX10_measure 96 = .ok (.goto (-74), 3) := by decide +kernel
theorem dX10_measure_99 : decode cX10_measure 99 = .ok (.return_, 1) := by decide +kernel
theorem dX10_comesNearer_0 : decode cX10_comesNearer 0 = .ok (.aload_n 0, 1) := by decide +kernel
theorem dX10_comesNearer_1 : decode cX10_comesNearer 1 = .ok (.getfield 25, 3) := by decide +kernel
theorem dX10_comesNearer_4 : decode cX10_comesNearer 4 = .ok (.iload_n 1, 1) := by decide +kernel
theorem dX10_comesNearer_5 : decode cX10_comesNearer 5 = .ok (.iaload, 1) := by decide +kernel
theorem dX10_comesNearer_6 : decode cX10_comesNearer 6 = .ok (.aload_n 0, 1) := by decide +kernel
theorem dX10_comesNearer_7 : decode cX10_comesNearer 7 = .ok (.getfield 25, 3) := by decide +kernel
theorem dX10_comesNearer_10 : decode cX10_comesNearer 10 = .ok (.iload_n 2, 1) := by decide +kernel
theorem dX10_comesNearer_11 : decode cX10_comesNearer 11 = .ok (.iaload, 1) := by decide +kernel
theorem dX10_comesNearer_12 : decode cX10_comesNearer 12 = .ok (.iload_n 3, 1) := by decide +kernel
theorem dX10_comesNearer_13 : decode cX10_comesNearer 13 = .ok (.iadd, 1) := by decide +kernel
theorem dX10_comesNearer_14 : decode cX10_comesNearer 14 = .ok (.if_icmp .le 19, 3) := by decide +kernel
theorem dX10_comesNearer_17 : decode cX10_comesNearer 17 = .ok (.aload_n 0, 1) := by decide +kernel
theorem dX10_comesNearer_18 : decode cX10_comesNearer 18 = .ok (.getfield 25, 3) := by decide +kernel
theorem dX10_comesNearer_21 : decode cX10_comesNearer 21 = .ok (.iload_n 1, 1) := by decide +kernel
theorem dX10_comesNearer_22 : decode cX10_comesNearer 22 = .ok (.aload_n 0, 1) := by decide +kernel
theorem dX10_comesNearer_23 : decode cX10_comesNearer 23 = .ok (.getfield 25, 3) := by decide +kernel
theorem dX10_comesNearer_26 : decode cX10_comesNearer 26 = .ok (.iload_n 2, 1) := by decide +kernel
theorem dX10_comesNearer_27 : decode cX10_comesNearer 27 = .ok (.iaload, 1) := by decide +kernel
theorem dX10_comesNearer_28 : decode cX10_comesNearer 28 = .ok (.iload_n 3, 1) := by decide +kernel
theorem dX10_comesNearer_29 : decode cX10_comesNearer 29 = .ok (.iadd, 1) := by decide +kernel
theorem dX10_comesNearer_30 : decode cX10_comesNearer 30 = .ok (.iastore, 1) := by decide +kernel
theorem dX10_comesNearer_31 : decode cX10_comesNearer 31 = .ok (.iconst 1, 1) := by decide +kernel
theorem dX10_comesNearer_32 : decode cX10_comesNearer 32 = .ok (.ireturn, 1) := by decide +kernel
theorem dX10_comesNearer_33 : decode cX10_comesNearer 33 = .ok (.aload_n 0, 1) := by decide +kernel
theorem dX10_comesNearer_34 : decode cX10_comesNearer 34 = .ok (.getfield 25, 3) := by decide +kernel
theorem dX10_comesNearer_37 : decode cX10_comesNearer 37 = .ok (.iload_n 2, 1) := by decide +kernel
theorem dX10_comesNearer_38 : decode cX10_comesNearer 38 = .ok (.iaload, 1) := by decide +kernel
theorem dX10_comesNearer_39 : decode cX10_comesNearer 39 = .ok (.aload_n 0, 1) := by decide +kernel
theorem dX10_comesNearer_40 : decode cX10_comesNearer 40 = .ok (.getfield 25, 3) := by decide +kernel
theorem dX10_comesNearer_43 : decode cX10_comesNearer 43 = .ok (.iload_n 1, 1) := by decide +kernel
theorem dX10_comesNearer_44 : decode cX10_comesNearer 44 = .ok (.iaload, 1) := by decide +kernel
theorem dX10_comesNearer_45 : decode cX10_comesNearer 45 = .ok (.iload_n 3, 1) := by decide +kernel
theorem dX10_comesNearer_46 : decode cX10_comesNearer 46 = .ok (.iadd, 1) := by decide +kernel
theorem dX10_comesNearer_47 : decode cX10_comesNearer 47 = .ok (.if_icmp .le 19, 3) := by decide +kernel
theorem dX10_comesNearer_50 : decode cX10_comesNearer 50 = .ok (.aload_n 0, 1) := by decide +kernel
theorem dX10_comesNearer_51 : decode cX10_comesNearer 51 = .ok (.getfield 25, 3) := by decide +kernel
theorem dX10_comesNearer_54 : decode cX10_comesNearer 54 = .ok (.iload_n 2, 1) := by decide +kernel
theorem dX10_comesNearer_55 : decode cX10_comesNearer 55 = .ok (.aload_n 0, 1) := by decide +kernel
theorem dX10_comesNearer_56 : decode cX10_comesNearer 56 = .ok (.getfield 25, 3) := by decide +kernel
theorem dX10_comesNearer_59 : decode cX10_comesNearer 59 = .ok (.iload_n 1, 1) := by decide +kernel
theorem dX10_comesNearer_60 : decode cX10_comesNearer 60 = .ok (.iaload, 1) := by decide +kernel
theorem dX10_comesNearer_61 : decode cX10_comesNearer 61 = .ok (.iload_n 3, 1) := by decide +kernel
theorem dX10_comesNearer_62 : decode cX10_comesNearer 62 = .ok (.iadd, 1) := by decide +kernel
theorem dX10_comesNearer_63 : decode cX10_comesNearer 63 = .ok (.iastore, 1) := by decide +kernel
theorem dX10_comesNearer_64 : decode cX10_comesNearer 64 = .ok (.iconst 1, 1) := by decide +kernel
theorem dX10_comesNearer_65 : decode cX10_comesNearer 65 = .ok (.ireturn, 1) := by decide +kernel
theorem dX10_comesNearer_66 : decode cX10_comesNearer 66 = .ok (.iconst 0, 1) := by decide +kernel
theorem dX10_comesNearer_67 : decode cX10_comesNearer 67 = .ok (.ireturn, 1) := by decide +kernel
set_option maxRecDepth 20000 in
theorem ggX10_walk_X10_leastOnward : GoodIn wsX10_walk wsX10_leastOnward := goodIn_r _ [10, 11, 12, 13, 4, 5, 19, 20, 21, 22, 23, 14, 15, 16, 17, 18] (by decide +kernel) (by decide +kernel)
set_option maxRecDepth 20000 in
theorem gX10_walk_X10_leastOnward : GoodIn wsX10_walk (wsV RX10 58 RX10 yX10_leastOnward wsX10_leastOnward) := goodIn_app (goodIn_of _ (by decide +kernel)) ggX10_walk_X10_leastOnward
theorem dX10_walk_0 : decode cX10_walk 0 = .ok (.iload_n 3, 1) := by decide +kernel
theorem dX10_walk_1 : decode cX10_walk 1 = .ok (.istore 5, 2) := by decide +kernel
theorem dX10_walk_3 : decode cX10_walk 3 = .ok (.iconst 0, 1) := by decide +kernel
theorem dX10_walk_4 : decode cX10_walk 4 = .ok (.istore 6, 2) := by decide +kernel
theorem dX10_walk_6 : decode cX10_walk 6 = .ok (.iload 6, 2) := by decide +kernel
theorem dX10_walk_8 : decode cX10_walk 8 = .ok (.aload_n 0, 1) := by decide +kernel
theorem dX10_walk_9 : decode cX10_walk 9 = .ok (.getfield 9, 3) := by decide +kernel
theorem dX10_walk_12 : decode cX10_walk 12 = .ok (.arraylength, 1) := by decide +kernel
theorem dX10_walk_13 : decode cX10_walk 13 = .ok (.if_icmp .ge 98, 3) := by decide +kernel
theorem dX10_walk_16 : decode cX10_walk 16 = .ok (.iload 5, 2) := by decide +kernel
theorem dX10_walk_18 : decode cX10_walk 18 = .ok (.iload 4, 2) := by decide +kernel
theorem dX10_walk_20 : decode cX10_walk 20 = .ok (.if_icmp .eq 91, 3) := by decide +kernel
theorem dX10_walk_23 : decode cX10_walk 23 = .ok (.aload_n 0, 1) := by decide +kernel
theorem dX10_walk_24 : decode cX10_walk 24 = .ok (.aload_n 1, 1) := by decide +kernel
theorem dX10_walk_25 : decode cX10_walk 25 = .ok (.aload_n 2, 1) := by decide +kernel
theorem dX10_walk_26 : decode cX10_walk 26 = .ok (.iload 5, 2) := by decide +kernel
theorem dX10_walk_28 : decode cX10_walk 28 = .ok (.invokevirtual 58, 3) := by decide +kernel
theorem dX10_walk_31 : decode cX10_walk 31 = .ok (.istore 7, 2) := by decide +kernel
theorem dX10_walk_33 : decode cX10_walk 33 = .ok (.iload 7, 2) := by decide +kernel
theorem dX10_walk_35 : decode cX10_walk 35 = .ok (.iconst (-1), 1) := by decide +kernel
theorem dX10_walk_36 : decode cX10_walk 36 = .ok (.if_icmp .ne 4, 3) := by decide +kernel
theorem dX10_walk_39 : decode cX10_walk 39 = .ok (.return_, 1) := by decide +kernel
theorem dX10_walk_40 : decode cX10_walk 40 = .ok (.aload_n 0, 1) := by decide +kernel
theorem dX10_walk_41 : decode cX10_walk 41 = .ok (.getfield 9, 3) := by decide +kernel
theorem dX10_walk_44 : decode cX10_walk 44 = .ok (.aload_n 0, 1) := by decide +kernel
theorem dX10_walk_45 : decode cX10_walk 45 = .ok (.getfield 15, 3) := by decide +kernel
theorem dX10_walk_48 : decode cX10_walk 48 = .ok (.iload 7, 2) := by decide +kernel
theorem dX10_walk_50 : decode cX10_walk 50 = .ok (.iastore, 1) := by decide +kernel
theorem dX10_walk_51 : decode cX10_walk 51 = .ok (.aload_n 0, 1) := by decide +kernel
theorem dX10_walk_52 : decode cX10_walk 52 = .ok (.dup, 1) := by decide +kernel
theorem dX10_walk_53 : decode cX10_walk 53 = .ok (.getfield 15, 3) := by decide +kernel
theorem dX10_walk_56 : decode cX10_walk 56 = .ok (.iconst 1, 1) := by decide +kernel
theorem dX10_walk_57 : decode cX10_walk 57 = .ok (.iadd, 1) := by decide +kernel
theorem dX10_walk_58 : decode cX10_walk 58 = .ok (.putfield 15, 3) := by decide +kernel
theorem dX10_walk_61 : decode cX10_walk 61 = .ok (.aload_n 0, 1) := by decide +kernel
theorem dX10_walk_62 : decode cX10_walk 62 = .ok (.dup, 1) := by decide +kernel
theorem dX10_walk_63 : decode cX10_walk 63 = .ok (.getfield 19, 3) := by decide +kernel
theorem dX10_walk_66 : decode cX10_walk 66 = .ok (.iconst 1, 1) := by decide +kernel
theorem dX10_walk_67 : decode cX10_walk 67 = .ok (.iload 7, 2) := by decide +kernel
theorem dX10_walk_69 : decode cX10_walk 69 = .ok (.ishl, 1) := by decide +kernel
theorem dX10_walk_70 : decode cX10_walk 70 = .ok (.ior, 1) := by decide +kernel
theorem dX10_walk_71 : decode cX10_walk 71 = .ok (.putfield 19, 3) := by decide +kernel
theorem dX10_walk_74 : decode cX10_walk 74 = .ok (.aload_n 1, 1) := by decide +kernel
theorem dX10_walk_75 : decode cX10_walk 75 = .ok (.getfield 46, 3) := by decide +kernel
theorem dX10_walk_78 : decode cX10_walk 78 = .ok (.iload 7, 2) := by decide +kernel
theorem dX10_walk_80 : decode cX10_walk 80 = .ok (.iaload, 1) := by decide +kernel
theorem dX10_walk_81 : decode cX10_walk 81 = .ok (.iload 5, 2) := by decide +kernel
theorem dX10_walk_83 : decode cX10_walk 83 = .ok (.if_icmp .ne 13, 3) := by decide +kernel
theorem dX10_walk_86 : decode cX10_walk 86 = .ok (.aload_n 1, 1) := by decide +kernel
theorem dX10_walk_87 : decode cX10_walk 87 = .ok (.getfield 49, 3) := by decide +kernel
theorem dX10_walk_90 : decode cX10_walk 90 = .ok (.iload 7, 2) := by decide +kernel
theorem dX10_walk_92 : decode cX10_walk 92 = .ok (.iaload, 1) := by decide +kernel
theorem dX10_walk_93 : decode cX10_walk 93 = .ok (.goto 10, 3) := by decide +kernel
theorem dX10_walk_96 : decode cX10_walk 96 = .ok (.aload_n 1, 1) := by decide +kernel
theorem dX10_walk_97 : decode cX10_walk 97 = .ok (.getfield 46, 3) := by decide +kernel
theorem dX10_walk_100 : decode cX10_walk 100 = .ok (.iload 7, 2) := by decide +kernel
theorem dX10_walk_102 : decode cX10_walk 102 = .ok (.iaload, 1) := by decide +kernel
theorem dX10_walk_103 : decode cX10_walk 103 = .ok (.istore 5, 2) := by decide +kernel
theorem dX10_walk_105 : decode cX10_walk 105 = .ok (.iinc 6 1, 3) := by decide +kernel
theorem dX10_walk_108 : decode cX10_walk 108 = .ok (.goto (-102), 3) := by decide +kernel
theorem dX10_walk_111 : decode cX10_walk 111 = .ok (.return_, 1) := by decide +kernel
theorem dX10_leastOnward_0 : decode cX10_leastOnward 0 = .ok (.iconst 0, 1) := by decide +kernel
theorem dX10_leastOnward_1 : decode cX10_leastOnward 1 = .ok (.istore 4, 2) := by decide +kernel
theorem dX10_leastOnward_3 : decode cX10_leastOnward 3 = .ok (.iload 4, 2) := by decide +kernel
theorem dX10_leastOnward_5 : decode cX10_leastOnward 5 = .ok (.aload_n 1, 1) := by decide +kernel
theorem dX10_leastOnward_6 : decode cX10_leastOnward 6 = .ok (.getfield 43, 3) := by decide +kernel
theorem dX10_leastOnward_9 : decode cX10_leastOnward 9 = .ok (.if_icmp .ge 103, 3) := by decide +kernel
theorem dX10_leastOnward_12 : decode cX10_leastOnward 12 = .ok (.aload_n 0, 1) := by decide +kernel
theorem dX10_leastOnward_13 : decode cX10_leastOnward 13 = .ok (.getfield 25, 3) := by decide +kernel
theorem dX10_leastOnward_16 : decode cX10_leastOnward 16 = .ok (.iload_n 3, 1) := by decide +kernel
theorem dX10_leastOnward_17 : decode cX10_leastOnward 17 = .ok (.iaload, 1) := by decide +kernel
theorem dX10_leastOnward_18 : decode cX10_leastOnward 18 = .ok (.aload_n 1, 1) := by decide +kernel
theorem dX10_leastOnward_19 : decode cX10_leastOnward 19 = .ok (.getfield 52, 3) := by decide +kernel
theorem dX10_leastOnward_22 : decode cX10_leastOnward 22 = .ok (.iload 4, 2) := by decide +kernel
theorem dX10_leastOnward_24 : decode cX10_leastOnward 24 = .ok (.iaload, 1) := by decide +kernel
theorem dX10_leastOnward_25 : decode cX10_leastOnward 25 = .ok (.isub, 1) := by decide +kernel
theorem dX10_leastOnward_26 : decode cX10_leastOnward 26 = .ok (.istore 5, 2) := by decide +kernel
theorem dX10_leastOnward_28 : decode cX10_leastOnward 28 = .ok (.aload_n 1, 1) := by decide +kernel
theorem dX10_leastOnward_29 : decode cX10_leastOnward 29 = .ok (.getfield 46, 3) := by decide +kernel
theorem dX10_leastOnward_32 : decode cX10_leastOnward 32 = .ok (.iload 4, 2) := by decide +kernel
theorem dX10_leastOnward_34 : decode cX10_leastOnward 34 = .ok (.iaload, 1) := by decide +kernel
theorem dX10_leastOnward_35 : decode cX10_leastOnward 35 = .ok (.iload_n 3, 1) := by decide +kernel
theorem dX10_leastOnward_36 : decode cX10_leastOnward 36 = .ok (.if_icmp .ne 20, 3) := by decide +kernel
theorem dX10_leastOnward_39 : decode cX10_leastOnward 39 = .ok (.aload_n 0, 1) := by decide +kernel
theorem dX10_leastOnward_40 : decode cX10_leastOnward 40 = .ok (.getfield 25, 3) := by decide +kernel
theorem dX10_leastOnward_43 : decode cX10_leastOnward 43 = .ok (.aload_n 1, 1) := by decide +kernel
theorem dX10_leastOnward_44 : decode cX10_leastOnward 44 = .ok (.getfield 49, 3) := by decide +kernel
theorem dX10_leastOnward_47 : decode cX10_leastOnward 47 = .ok (.iload 4, 2) := by decide +kernel
theorem dX10_leastOnward_49 : decode cX10_leastOnward 49 = .ok (.iaload, 1) := by decide +kernel
theorem dX10_leastOnward_50 : decode cX10_leastOnward 50 = .ok (.iaload, 1) := by decide +kernel
theorem dX10_leastOnward_51 : decode cX10_leastOnward 51 = .ok (.iload 5, 2) := by decide +kernel
theorem dX10_leastOnward_53 : decode cX10_leastOnward 53 = .ok (.if_icmp .eq 31, 3) := by decide +kernel
theorem dX10_leastOnward_56 : decode cX10_leastOnward 56 = .ok (.aload_n 1, 1) := by decide +kernel
theorem dX10_leastOnward_57 : decode cX10_leastOnward 57 = .ok (.getfield 49, 3) := by decide +kernel
theorem dX10_leastOnward_60 : decode cX10_leastOnward 60 = .ok (.iload 4, 2) := by decide +kernel
theorem dX10_leastOnward_62 : decode cX10_leastOnward 62 = .ok (.iaload, 1) := by decide +kernel
theorem dX10_leastOnward_63 : decode cX10_leastOnward 63 = .ok (.iload_n 3, 1) := by decide +kernel
theorem dX10_leastOnward_64 : decode cX10_leastOnward 64 = .ok (.if_icmp .ne 24, 3) := by decide +kernel
theorem dX10_leastOnward_67 : decode cX10_leastOnward 67 = .ok (.aload_n 0, 1) := by decide +kernel
theorem dX10_leastOnward_68 : decode cX10_leastOnward 68 = .ok (.getfield 25, 3) := by decide +kernel
theorem dX10_leastOnward_71 : decode cX10_leastOnward 71 = .ok (.aload_n 1, 1) := by decide +kernel
theorem dX10_leastOnward_72 : decode cX10_leastOnward 72 = .ok (.getfield 46, 3) := by decide +kernel
theorem dX10_leastOnward_75 : decode cX10_leastOnward 75 = .ok (.iload 4, 2) := by decide +kernel
theorem dX10_leastOnward_77 : decode cX10_leastOnward 77 = .ok (.iaload, 1) := by decide +kernel
theorem dX10_leastOnward_78 : decode cX10_leastOnward 78 = .ok (.iaload, 1) := by decide +kernel
theorem dX10_leastOnward_79 : decode cX10_leastOnward 79 = .ok (.iload 5, 2) := by decide +kernel
theorem dX10_leastOnward_81 : decode cX10_leastOnward 81 = .ok (.if_icmp .ne 7, 3) := by decide +kernel
theorem dX10_leastOnward_84 : decode cX10_leastOnward 84 = .ok (.iconst 1, 1) := by decide +kernel
theorem dX10_leastOnward_85 : decode cX10_leastOnward 85 = .ok (.goto 4, 3) := by decide +kernel
theorem dX10_leastOnward_88 : decode cX10_leastOnward 88 = .ok (.iconst 0, 1) := by decide +kernel
theorem dX10_leastOnward_89 : decode cX10_leastOnward 89 = .ok (.istore 6, 2) := by decide +kernel
theorem dX10_leastOnward_91 : decode cX10_leastOnward 91 = .ok (.aload_n 2, 1) := by decide +kernel
theorem dX10_leastOnward_92 : decode cX10_leastOnward 92 = .ok (.iload 4, 2) := by decide +kernel
theorem dX10_leastOnward_94 : decode cX10_leastOnward 94 = .ok (.iaload, 1) := by decide +kernel
theorem dX10_leastOnward_95 : decode cX10_leastOnward 95 = .ok (.ifCond .ne 11, 3) := by decide +kernel
theorem dX10_leastOnward_98 : decode cX10_leastOnward 98 = .ok (.iload 6, 2) := by decide +kernel
theorem dX10_leastOnward_100 : decode cX10_leastOnward 100 = .ok (.ifCond .eq 6, 3) := by decide +kernel
theorem dX10_leastOnward_103 : decode cX10_leastOnward 103 = .ok (.iload 4, 2) := by decide +kernel
theorem dX10_leastOnward_105 : decode cX10_leastOnward 105 = .ok (.ireturn, 1) := by decide +kernel
theorem dX10_leastOnward_106 : decode cX10_leastOnward 106 = .ok (.iinc 4 1, 3) := by decide +kernel
theorem dX10_leastOnward_109 : decode cX10_leastOnward 109 = .ok (.goto (-106), 3) := by decide +kernel
theorem dX10_leastOnward_112 : decode cX10_leastOnward 112 = .ok (.iconst (-1), 1) := by decide +kernel
theorem dX10_leastOnward_113 : decode cX10_leastOnward 113 = .ok (.ireturn, 1) := by decide +kernel
set_option maxRecDepth 20000 in
theorem ggX11_init_X8_init : GoodIn wsX11_init wsX8_init := goodIn_r _ [49, 50, 2, 3, 51, 52, 40, 53, 54, 116, 117, 118, 119, 120, 121, 122, 123, 124, 125] (by decide +kernel) (by decide +kernel)
set_option maxRecDepth 20000 in
theorem gX11_init_X8_init_n11 : GoodIn wsX11_init (wsX8_init) := ggX11_init_X8_init
set_option maxRecDepth 20000 in
theorem ggX11_init_X6_init : GoodIn wsX11_init wsX6_init := goodIn_r _ [57, 58, 2, 3, 59, 60, 61, 62, 63, 64, 65, 66, 67, 68, 40, 69, 70, 71, 72, 73, 74, 75, 10, 76, 77, 78, 79, 80, 81, 82, 83, 84, 160, 161, 162, 163, 164, 140, 141, 142, 143, 144, 145, 146, 147, 148, 149, 150] (by decide +kernel) (by decide +kernel)
set_option maxRecDepth 20000 in
theorem gX11_init_X6_init : GoodIn wsX11_init (wsX6_init) := ggX11_init_X6_init
set_option maxRecDepth 20000 in
theorem ggX11_init_X1_init : GoodIn wsX11_init wsX1_init := goodIn_r _ [86, 87, 2, 3, 88, 40, 89, 151, 152] (by decide +kernel) (by decide +kernel)
set_option maxRecDepth 20000 in
theorem gX11_init_X1_init_n28 : GoodIn wsX11_init (wsX1_init) := ggX11_init_X1_init
set_option maxRecDepth 20000 in
theorem ggX11_init_X10_init : GoodIn wsX11_init wsX10_init := goodIn_r _ [91, 92, 2, 3, 40, 93, 94, 95, 96, 97, 153, 154, 155, 156, 157] (by decide +kernel) (by decide +kernel)
set_option maxRecDepth 20000 in
theorem gX11_init_X10_init_n49 : GoodIn wsX11_init (wsX10_init) := ggX11_init_X10_init
set_option maxRecDepth 20000 in
theorem ggX11_init_X2_init : GoodIn wsX11_init wsX2_init := goodIn_r _ [99, 100, 101, 102, 103, 2, 3] (by decide +kernel) (by decide +kernel)
set_option maxRecDepth 20000 in
theorem gX11_init_X2_init_n58 : GoodIn wsX11_init (wsX2_init) := ggX11_init_X2_init
set_option maxRecDepth 20000 in
theorem ggX11_init_X3_init : GoodIn wsX11_init wsX3_init := goodIn_r _ [105, 98, 29, 99, 100, 101, 102, 103, 2, 3] (by decide +kernel) (by decide +kernel)
set_option maxRecDepth 20000 in
theorem gX11_init_X3_init_n61 : GoodIn wsX11_init (wsX3_init) := ggX11_init_X3_init
set_option maxRecDepth 20000 in
theorem ggX11_init_X5_init : GoodIn wsX11_init wsX5_init := goodIn_r _ [107, 100, 101, 102, 103, 2, 3] (by decide +kernel) (by decide +kernel)
set_option maxRecDepth 20000 in
theorem gX11_init_X5_init_n64 : GoodIn wsX11_init (wsX5_init) := ggX11_init_X5_init
set_option maxRecDepth 20000 in
theorem ggX11_init_X4_init : GoodIn wsX11_init wsX4_init := goodIn_r _ [109, 106, 35, 107, 100, 101, 102, 103, 2, 3] (by decide +kernel) (by decide +kernel)
set_option maxRecDepth 20000 in
theorem gX11_init_X4_init_n67 : GoodIn wsX11_init (wsX4_init) := ggX11_init_X4_init
set_option maxRecDepth 20000 in
theorem ggX11_init_X9_init : GoodIn wsX11_init wsX9_init := goodIn_r _ [111, 112, 2, 3, 113, 114, 115, 158, 159] (by decide +kernel) (by decide +kernel)
set_option maxRecDepth 20000 in
theorem gX11_init_X9_init_n82 : GoodIn wsX11_init (wsX9_init) := ggX11_init_X9_init
theorem dX11_init_0 : decode cX11_init 0 = .ok (.aload_n 0, 1) := by decide +kernel
theorem dX11_init_1 : decode cX11_init 1 = .ok (.invokespecial 3, 3) := by decide +kernel
theorem dX11_init_4 : decode cX11_init 4 = .ok (.aload_n 0, 1) := by decide +kernel
theorem dX11_init_5 : decode cX11_init 5 = .ok (.new 9, 3) := by decide +kernel
theorem dX11_init_8 : decode cX11_init 8 = .ok (.dup, 1) := by decide +kernel
theorem dX11_init_9 : decode cX11_init 9 = .ok (.invokespecial 11, 3) := by decide +kernel
theorem dX11_init_12 : decode cX11_init 12 = .ok (.putfield 12, 3) := by decide +kernel
theorem dX11_init_15 : decode cX11_init 15 = .ok (.aload_n 0, 1) := by decide +kernel
theorem dX11_init_16 : decode cX11_init 16 = .ok (.new 16, 3) := by decide +kernel
theorem dX11_init_19 : decode cX11_init 19 = .ok (.dup, 1) := by decide +kernel
theorem dX11_init_20 : decode cX11_init 20 = .ok (.invokespecial 18, 3) := by decide +kernel
theorem dX11_init_23 : decode cX11_init 23 = .ok (.putfield 19, 3) := by decide +kernel
theorem dX11_init_26 : decode cX11_init 26 = .ok (.aload_n 0, 1) := by decide +kernel
theorem dX11_init_27 : decode cX11_init 27 = .ok (.new 16, 3) := by decide +kernel
theorem dX11_init_30 : decode cX11_init 30 = .ok (.dup, 1) := by decide +kernel
theorem dX11_init_31 : decode cX11_init 31 = .ok (.invokespecial 18, 3) := by decide +kernel
theorem dX11_init_34 : decode cX11_init 34 = .ok (.putfield 23, 3) := by decide +kernel
theorem dX11_init_37 : decode cX11_init 37 = .ok (.aload_n 0, 1) := by decide +kernel
theorem dX11_init_38 : decode cX11_init 38 = .ok (.new 26, 3) := by decide +kernel
theorem dX11_init_41 : decode cX11_init 41 = .ok (.dup, 1) := by decide +kernel
theorem dX11_init_42 : decode cX11_init 42 = .ok (.invokespecial 28, 3) := by decide +kernel
theorem dX11_init_45 : decode cX11_init 45 = .ok (.putfield 29, 3) := by decide +kernel
theorem dX11_init_48 : decode cX11_init 48 = .ok (.aload_n 0, 1) := by decide +kernel
theorem dX11_init_49 : decode cX11_init 49 = .ok (.new 26, 3) := by decide +kernel
theorem dX11_init_52 : decode cX11_init 52 = .ok (.dup, 1) := by decide +kernel
theorem dX11_init_53 : decode cX11_init 53 = .ok (.invokespecial 28, 3) := by decide +kernel
theorem dX11_init_56 : decode cX11_init 56 = .ok (.putfield 33, 3) := by decide +kernel
theorem dX11_init_59 : decode cX11_init 59 = .ok (.aload_n 0, 1) := by decide +kernel
theorem dX11_init_60 : decode cX11_init 60 = .ok (.iconst 2, 1) := by decide +kernel
theorem dX11_init_61 : decode cX11_init 61 = .ok (.anewarray 26, 3) := by decide +kernel
theorem dX11_init_64 : decode cX11_init 64 = .ok (.putfield 36, 3) := by decide +kernel
theorem dX11_init_67 : decode cX11_init 67 = .ok (.aload_n 0, 1) := by decide +kernel
theorem dX11_init_68 : decode cX11_init 68 = .ok (.iconst 2, 1) := by decide +kernel
theorem dX11_init_69 : decode cX11_init 69 = .ok (.newarray .boolean, 2) := by decide +kernel
theorem dX11_init_71 : decode cX11_init 71 = .ok (.putfield 40, 3) := by decide +kernel
theorem dX11_init_74 : decode cX11_init 74 = .ok (.aload_n 0, 1) := by decide +kernel
theorem dX11_init_75 : decode cX11_init 75 = .ok (.bipush 6, 2) := by decide +kernel
theorem dX11_init_77 : decode cX11_init 77 = .ok (.anewarray 26, 3) := by decide +kernel
theorem dX11_init_80 : decode cX11_init 80 = .ok (.putfield 44, 3) := by decide +kernel
theorem dX11_init_83 : decode cX11_init 83 = .ok (.aload_n 0, 1) := by decide +kernel
theorem dX11_init_84 : decode cX11_init 84 = .ok (.new 47, 3) := by decide +kernel
theorem dX11_init_87 : decode cX11_init 87 = .ok (.dup, 1) := by decide +kernel
theorem dX11_init_88 : decode cX11_init 88 = .ok (.invokespecial 49, 3) := by decide +kernel
theorem dX11_init_91 : decode cX11_init 91 = .ok (.putfield 50, 3) := by decide +kernel
theorem dX11_init_94 : decode cX11_init 94 = .ok (.aload_n 0, 1) := by decide +kernel
theorem dX11_init_95 : decode cX11_init 95 = .ok (.iconst 4, 1) := by decide +kernel
theorem dX11_init_96 : decode cX11_init 96 = .ok (.anewarray 54, 3) := by decide +kernel
theorem dX11_init_99 : decode cX11_init 99 = .ok (.dup, 1) := by decide +kernel
theorem dX11_init_100 : decode cX11_init 100 = .ok (.iconst 0, 1) := by decide +kernel
theorem dX11_init_101 : decode cX11_init 101 = .ok (.new 56, 3) := by decide +kernel
theorem dX11_init_104 : decode cX11_init 104 = .ok (.dup, 1) := by decide +kernel
theorem dX11_init_105 : decode cX11_init 105 = .ok (.invokespecial 58, 3) := by decide +kernel
theorem dX11_init_108 : decode cX11_init 108 = .ok (.aastore, 1) := by decide +kernel
theorem dX11_init_109 : decode cX11_init 109 = .ok (.dup, 1) := by decide +kernel
theorem dX11_init_110 : decode cX11_init 110 = .ok (.iconst 1, 1) := by decide +kernel
theorem dX11_init_111 : decode cX11_init 111 = .ok (.new 59, 3) := by decide +kernel
theorem dX11_init_114 : decode cX11_init 114 = .ok (.dup, 1) := by decide +kernel
theorem dX11_init_115 : decode cX11_init 115 = .ok (.invokespecial 61, 3) := by decide +kernel
theorem dX11_init_118 : decode cX11_init 118 = .ok (.aastore, 1) := by decide +kernel
theorem dX11_init_119 : decode cX11_init 119 = .ok (.dup, 1) := by decide +kernel
theorem dX11_init_120 : decode cX11_init 120 = .ok (.iconst 2, 1) := by decide +kernel
theorem dX11_init_121 : decode cX11_init 121 = .ok (.new 62, 3) := by decide +kernel
theorem dX11_init_124 : decode cX11_init 124 = .ok (.dup, 1) := by decide +kernel
theorem dX11_init_125 : decode cX11_init 125 = .ok (.invokespecial 64, 3) := by decide +kernel
theorem dX11_init_128 : decode cX11_init 128 = .ok (.aastore, 1) := by decide +kernel
theorem dX11_init_129 : decode cX11_init 129 = .ok (.dup, 1) := by decide +kernel
theorem dX11_init_130 : decode cX11_init 130 = .ok (.iconst 3, 1) := by decide +kernel
theorem dX11_init_131 : decode cX11_init 131 = .ok (.new 65, 3) := by decide +kernel
theorem dX11_init_134 : decode cX11_init 134 = .ok (.dup, 1) := by decide +kernel
theorem dX11_init_135 : decode cX11_init 135 = .ok (.invokespecial 67, 3) := by decide +kernel
theorem dX11_init_138 : decode cX11_init 138 = .ok (.aastore, 1) := by decide +kernel
theorem dX11_init_139 : decode cX11_init 139 = .ok (.putfield 68, 3) := by decide +kernel
theorem dX11_init_142 : decode cX11_init 142 = .ok (.aload_n 0, 1) := by decide +kernel
theorem dX11_init_143 : decode cX11_init 143 = .ok (.bipush 12, 2) := by decide +kernel
theorem dX11_init_145 : decode cX11_init 145 = .ok (.newarray .int, 2) := by decide +kernel
theorem dX11_init_147 : decode cX11_init 147 = .ok (.putfield 72, 3) := by decide +kernel
theorem dX11_init_150 : decode cX11_init 150 = .ok (.aload_n 0, 1) := by decide +kernel
theorem dX11_init_151 : decode cX11_init 151 = .ok (.iconst 0, 1) := by decide +kernel
theorem dX11_init_152 : decode cX11_init 152 = .ok (.putfield 76, 3) := by decide +kernel
theorem dX11_init_155 : decode cX11_init 155 = .ok (.aload_n 0, 1) := by decide +kernel
theorem dX11_init_156 : decode cX11_init 156 = .ok (.new 80, 3) := by decide +kernel
theorem dX11_init_159 : decode cX11_init 159 = .ok (.dup, 1) := by decide +kernel
theorem dX11_init_160 : decode cX11_init 160 = .ok (.invokespecial 82, 3) := by decide +kernel
theorem dX11_init_163 : decode cX11_init 163 = .ok (.putfield 83, 3) := by decide +kernel
theorem dX11_init_166 : decode cX11_init 166 = .ok (.aload_n 0, 1) := by decide +kernel
theorem dX11_init_167 : decode cX11_init 167 = .ok (.bipush 16, 2) := by decide +kernel
theorem dX11_init_169 : decode cX11_init 169 = .ok (.newarray .int, 2) := by decide +kernel
theorem dX11_init_171 : decode cX11_init 171 = .ok (.putfield 87, 3) := by decide +kernel
theorem dX11_init_174 : decode cX11_init 174 = .ok (.iconst 0, 1) := by decide +kernel
theorem dX11_init_175 : decode cX11_init 175 = .ok (.istore_n 1, 1) := by decide +kernel
theorem dX11_init_176 : decode cX11_init 176 = .ok (.iload_n 1, 1) := by decide +kernel
theorem dX11_init_177 : decode cX11_init 177 = .ok (.aload_n 0, 1) := by decide +kernel
theorem dX11_init_178 : decode cX11_init 178 = .ok (.getfield 36, 3) := by decide +kernel
theorem dX11_init_181 : decode cX11_init 181 = .ok (.arraylength, 1) := by decide +kernel
theorem dX11_init_182 : decode cX11_init 182 = .ok (.if_icmp .ge 22, 3) := by decide +kernel
theorem dX11_init_185 : decode cX11_init 185 = .ok (.aload_n 0, 1) := by decide +kernel
theorem dX11_init_186 : decode cX11_init 186 = .ok (.getfield 36, 3) := by decide +kernel
theorem dX11_init_189 : decode cX11_init 189 = .ok (.iload_n 1, 1) := by decide +kernel
theorem dX11_init_190 : decode cX11_init 190 = .ok (.new 26, 3) := by decide +kernel
theorem dX11_init_193 : decode cX11_init 193 = .ok (.dup, 1) := by decide +kernel
theorem dX11_init_194 : decode cX11_init 194 = .ok (.invokespecial 28, 3) := by decide +kernel
theorem dX11_init_197 : decode cX11_init 197 = .ok (.aastore, 1) := by decide +kernel
theorem dX11_init_198 : decode cX11_init 198 = .ok (.iinc 1 1, 3) := by decide +kernel
theorem dX11_init_201 : decode cX11_init 201 = .ok (.goto (-25), 3) := by decide +kernel
theorem dX11_init_204 : decode cX11_init 204 = .ok (.iconst 0, 1) := by decide +kernel
theorem dX11_init_205 : decode cX11_init 205 = .ok (.istore_n 1, 1) := by decide +kernel
theorem dX11_init_206 : decode cX11_init 206 = .ok (.iload_n 1, 1) := by decide +kernel
theorem dX11_init_207 : decode cX11_init 207 = .ok (.aload_n 0, 1) := by decide +kernel
theorem dX11_init_208 : decode cX11_init 208 = .ok (.getfield 44, 3) := by decide +kernel
theorem dX11_init_211 : decode cX11_init 211 = .ok (.arraylength, 1) := by decide +kernel
theorem dX11_init_212 : decode cX11_init 212 = .ok (.if_icmp .ge 22, 3) := by decide +kernel
theorem dX11_init_215 : decode cX11_init 215 = .ok (.aload_n 0, 1) := by decide +kernel
theorem dX11_init_216 : decode cX11_init 216 = .ok (.getfield 44, 3) := by decide +kernel
theorem dX11_init_219 : decode cX11_init 219 = .ok (.iload_n 1, 1) := by decide +kernel
theorem dX11_init_220 : decode cX11_init 220 = .ok (.new 26, 3) := by decide +kernel
theorem dX11_init_223 : decode cX11_init 223 = .ok (.dup, 1) := by decide +kernel
theorem dX11_init_224 : decode cX11_init 224 = .ok (.invokespecial 28, 3) := by decide +kernel
theorem dX11_init_227 : decode cX11_init 227 = .ok (.aastore, 1) := by decide +kernel
theorem dX11_init_228 : decode cX11_init 228 = .ok (.iinc 1 1, 3) := by decide +kernel
theorem dX11_init_231 : decode cX11_init 231 = .ok (.goto (-25), 3) := by decide +kernel
theorem dX11_init_234 : decode cX11_init 234 = .ok (.return_, 1) := by decide +kernel
set_option maxRecDepth 20000 in
theorem ggX11_write_X11_isOutside : GoodIn wsX11_write wsX11_isOutside := goodIn_r _ [6] (by decide +kernel) (by decide +kernel)
set_option maxRecDepth 20000 in
theorem gX11_write_X11_isOutside : GoodIn wsX11_write (va_wsS RX11 90 yX11_isOutside wsX11_isOutside) := goodIn_app (goodIn_of _ (by decide +kernel)) ggX11_write_X11_isOutside
set_option maxRecDepth 20000 in
theorem ggX11_write_X8_append : GoodIn wsX11_write wsX8_append := goodIn_r _ [11, 12, 13, 14, 15, 16, 17, 10, 18, 33, 34, 35, 36, 37, 38, 39, 40, 41, 42] (by decide +kernel) (by decide +kernel)
set_option maxRecDepth 20000 in
theorem gX11_write_X8_append : GoodIn wsX11_write (wsV RX11 94 RX8 yX8_append wsX8_append) := goodIn_app (goodIn_of _ (by decide +kernel)) ggX11_write_X8_append
theorem dX11_write_0 : decode cX11_write 0 = .ok (.iload_n 3, 1) := by decide +kernel
theorem dX11_write_1 : decode cX11_write 1 = .ok (.iconst 1, 1) := by decide +kernel
theorem dX11_write_2 : decode cX11_write 2 = .ok (.bipush 8, 2) := by decide +kernel
theorem dX11_write_4 : decode cX11_write 4 = .ok (.invokestatic 90, 3) := by decide +kernel
theorem dX11_write_7 : decode cX11_write 7 = .ok (.ifCond .eq 6, 3) := by decide +kernel
theorem dX11_write_10 : decode cX11_write 10 = .ok (.bipush (-3), 2) := by decide +kernel
theorem dX11_write_12 : decode cX11_write 12 = .ok (.ireturn, 1) := by decide +kernel
theorem dX11_write_13 : decode cX11_write 13 = .ok (.aload_n 0, 1) := by decide +kernel
theorem dX11_write_14 : decode cX11_write 14 = .ok (.getfield 12, 3) := by decide +kernel
theorem dX11_write_17 : decode cX11_write 17 = .ok (.lload_n 1, 1) := by decide +kernel
theorem dX11_write_18 : decode cX11_write 18 = .ok (.iload_n 3, 1) := by decide +kernel
theorem dX11_write_19 : decode cX11_write 19 = .ok (.invokevirtual 94, 3) := by decide +kernel
theorem dX11_write_22 : decode cX11_write 22 = .ok (.ifCond .eq 13, 3) := by decide +kernel
theorem dX11_write_25 : decode cX11_write 25 = .ok (.aload_n 0, 1) := by decide +kernel
theorem dX11_write_26 : decode cX11_write 26 = .ok (.getfield 12, 3) := by decide +kernel
theorem dX11_write_29 : decode cX11_write 29 = .ok (.getfield 98, 3) := by decide +kernel
theorem dX11_write_32 : decode cX11_write 32 = .ok (.goto 5, 3) := by decide +kernel
theorem dX11_write_35 : decode cX11_write 35 = .ok (.bipush (-5), 2) := by decide +kernel
theorem dX11_write_37 : decode cX11_write 37 = .ok (.ireturn, 1) := by decide +kernel
theorem dX11_erase_0 : decode cX11_erase 0 = .ok (.aload_n 0, 1) := by decide +kernel
theorem dX11_erase_1 : decode cX11_erase 1 = .ok (.getfield 12, 3) := by decide +kernel
theorem dX11_erase_4 : decode cX11_erase 4 = .ok (.getfield 98, 3) := by decide +kernel
theorem dX11_erase_7 : decode cX11_erase 7 = .ok (.istore_n 1, 1) := by decide +kernel
theorem dX11_erase_8 : decode cX11_erase 8 = .ok (.aload_n 0, 1) := by decide +kernel
theorem dX11_erase_9 : decode cX11_erase 9 = .ok (.getfield 12, 3) := by decide +kernel
theorem dX11_erase_12 : decode cX11_erase 12 = .ok (.iconst 0, 1) := by decide +kernel
theorem dX11_erase_13 : decode cX11_erase 13 = .ok (.putfield 98, 3) := by decide +kernel
theorem dX11_erase_16 : decode cX11_erase 16 = .ok (.iload_n 1, 1) := by decide +kernel
theorem dX11_erase_17 : decode cX11_erase 17 = .ok (.ireturn, 1) := by decide +kernel
set_option maxRecDepth 20000 in
theorem ggX11_fault_X6_copyFrom : GoodIn wsX11_fault wsX6_copyFrom := goodIn_r _ [8, 9, 10, 11, 12, 13, 14, 15, 16, 17, 18, 19, 20, 21, 22, 23, 24, 25, 26, 27, 28, 29, 30, 31, 32, 33, 187, 188, 189, 190, 191, 192, 193, 194, 195, 196, 197, 198, 199, 200, 201, 202] (by decide +kernel) (by decide +kernel)
set_option maxRecDepth 20000 in
theorem gX11_fault_X6_copyFrom : GoodIn wsX11_fault (wsV RX11 101 RX6 yX6_copyFrom wsX6_copyFrom) := goodIn_app (goodIn_of _ (by decide +kernel)) ggX11_fault_X6_copyFrom
set_option maxRecDepth 20000 in
theorem ggX11_fault_X8_readInto : GoodIn wsX11_fault wsX8_readInto := goodIn_r _ [38, 39, 40, 41, 42, 43, 44, 45, 46, 37, 47, 48, 49, 50, 51, 52, 53, 54, 55, 56, 57, 58, 59, 60, 61, 62, 63, 64, 65, 66, 67, 68, 69, 70, 71, 72, 73, 74, 75, 76, 77, 78, 79, 80, 81, 82, 83, 84, 85, 86, 87, 88, 89, 90, 91, 92, 93, 94, 95, 96, 97, 98, 99, 100, 101, 102, 103, 104, 105, 106, 107, 108, 109, 110, 111, 112, 113, 114, 115, 116, 117, 118, 7, 119, 9, 10, 120, 11, 12, 13, 14, 17, 18, 19, 121, 122, 123, 124, 125, 126, 127, 128, 129, 130, 131, 132, 133, 134, 31, 32, 23, 33, 25, 26, 27, 28, 29, 135, 136, 137, 138, 139, 140, 141, 142, 143, 144, 145, 146, 147, 148, 149, 150, 151, 152, 153, 154, 155, 156, 157, 158, 159, 160, 161, 162, 163, 164, 165, 166, 167, 168, 169, 170, 171, 172, 203, 204, 205, 206, 207, 208, 209, 210, 211, 212, 187, 188, 189, 190, 191, 192, 193, 194, 195, 196, 197, 198, 199, 200, 201, 202] (by decide +kernel) (by decide +kernel)
set_option maxRecDepth 20000 in
theorem gX11_fault_X8_readInto : GoodIn wsX11_fault (wsV RX11 105 RX8 yX8_readInto wsX8_readInto) := goodIn_app (goodIn_of _ (by decide +kernel)) ggX11_fault_X8_readInto
theorem dX11_fault_0 : decode cX11_fault 0 = .ok (.aload_n 0, 1) := by decide +kernel
theorem dX11_fault_1 : decode cX11_fault 1 = .ok (.getfield 23, 3) := by decide +kernel
theorem dX11_fault_4 : decode cX11_fault 4 = .ok (.aload_n 0, 1) := by decide +kernel
theorem dX11_fault_5 : decode cX11_fault 5 = .ok (.getfield 19, 3) := by decide +kernel
theorem dX11_fault_8 : decode cX11_fault 8 = .ok (.invokevirtual 101, 3) := by decide +kernel
theorem dX11_fault_11 : decode cX11_fault 11 = .ok (.aload_n 0, 1) := by decide +kernel
theorem dX11_fault_12 : decode cX11_fault 12 = .ok (.getfield 12, 3) := by decide +kernel
theorem dX11_fault_15 : decode cX11_fault 15 = .ok (.aload_n 0, 1) := by decide +kernel
theorem dX11_fault_16 : decode cX11_fault 16 = .ok (.getfield 23, 3) := by decide +kernel
theorem dX11_fault_19 : decode cX11_fault 19 = .ok (.invokevirtual 105, 3) := by decide +kernel
theorem dX11_fault_22 : decode cX11_fault 22 = .ok (.ireturn, 1) := by decide +kernel
set_option maxRecDepth 20000 in
theorem ggX11_town_X6_copyFrom : GoodIn wsX11_town wsX6_copyFrom := goodIn_r _ [13, 14, 15, 16, 17, 18, 19, 20, 21, 22, 23, 24, 25, 26, 27, 28, 29, 30, 31, 32, 33, 34, 35, 36, 37, 38, 213, 214, 215, 216, 217, 218, 219, 220, 221, 222, 223, 224, 225, 226, 227, 228] (by decide +kernel) (by decide +kernel)
set_option maxRecDepth 20000 in
theorem gX11_town_X6_copyFrom : GoodIn wsX11_town (wsV RX11 101 RX6 yX6_copyFrom wsX6_copyFrom) := goodIn_app (goodIn_of _ (by decide +kernel)) ggX11_town_X6_copyFrom
set_option maxRecDepth 20000 in
theorem ggX11_town_X8_readInto : GoodIn wsX11_town wsX8_readInto := goodIn_r _ [43, 44, 45, 46, 47, 48, 49, 50, 51, 42, 52, 53, 54, 55, 56, 57, 58, 59, 60, 61, 62, 63, 64, 65, 66, 67, 68, 69, 70, 71, 72, 73, 74, 75, 76, 77, 78, 79, 80, 81, 82, 83, 84, 85, 86, 87, 88, 89, 90, 91, 92, 93, 94, 95, 96, 97, 98, 99, 100, 101, 102, 103, 104, 105, 106, 107, 108, 109, 110, 111, 112, 113, 114, 115, 116, 117, 118, 119, 120, 121, 122, 123, 12, 124, 14, 15, 125, 16, 17, 18, 19, 22, 23, 24, 126, 127, 128, 129, 130, 131, 132, 133, 134, 135, 136, 137, 138, 139, 36, 37, 28, 38, 30, 31, 32, 33, 34, 140, 141, 142, 143, 144, 145, 146, 147, 148, 149, 150, 151, 152, 153, 154, 155, 156, 157, 158, 159, 160, 161, 162, 163, 164, 165, 166, 167, 168, 169, 170, 171, 172, 173, 174, 175, 176, 177, 203, 204, 205, 206, 207, 208, 209, 210, 211, 212, 213, 214, 215, 216, 217, 218, 219, 220, 221, 222, 223, 224, 225, 226, 227, 228] (by decide +kernel) (by decide +kernel)
set_option maxRecDepth 20000 in
theorem gX11_town_X8_readInto : GoodIn wsX11_town (wsV RX11 105 RX8 yX8_readInto wsX8_readInto) := goodIn_app (goodIn_of _ (by decide +kernel)) ggX11_town_X8_readInto
set_option maxRecDepth 20000 in
theorem ggX11_town_X1_start : GoodIn wsX11_town wsX1_start := goodIn_r _ [182, 183, 184, 185, 186, 187, 188, 229, 230] (by decide +kernel) (by decide +kernel)
set_option maxRecDepth 20000 in
theorem gX11_town_X1_start : GoodIn wsX11_town (wsV RX11 109 RX1 yX1_start wsX1_start) := goodIn_app (goodIn_of _ (by decide +kernel)) ggX11_town_X1_start
theorem dX11_town_0 : decode cX11_town 0 = .ok (.aload_n 0, 1) := by decide +kernel
theorem dX11_town_1 : decode cX11_town 1 = .ok (.getfield 23, 3) := by decide +kernel
theorem dX11_town_4 : decode cX11_town 4 = .ok (.aload_n 0, 1) := by decide +kernel
theorem dX11_town_5 : decode cX11_town 5 = .ok (.getfield 19, 3) := by decide +kernel
theorem dX11_town_8 : decode cX11_town 8 = .ok (.invokevirtual 101, 3) := by decide +kernel
theorem dX11_town_11 : decode cX11_town 11 = .ok (.aload_n 0, 1) := by decide +kernel
theorem dX11_town_12 : decode cX11_town 12 = .ok (.getfield 12, 3) := by decide +kernel
theorem dX11_town_15 : decode cX11_town 15 = .ok (.aload_n 0, 1) := by decide +kernel
theorem dX11_town_16 : decode cX11_town 16 = .ok (.getfield 23, 3) := by decide +kernel
theorem dX11_town_19 : decode cX11_town 19 = .ok (.invokevirtual 105, 3) := by decide +kernel
theorem dX11_town_22 : decode cX11_town 22 = .ok (.iconst (-1), 1) := by decide +kernel
theorem dX11_town_23 : decode cX11_town 23 = .ok (.if_icmp .eq 6, 3) := by decide +kernel
theorem dX11_town_26 : decode cX11_town 26 = .ok (.bipush (-4), 2) := by decide +kernel
theorem dX11_town_28 : decode cX11_town 28 = .ok (.ireturn, 1) := by decide +kernel
theorem dX11_town_29 : decode cX11_town 29 = .ok (.aload_n 0, 1) := by decide +kernel
theorem dX11_town_30 : decode cX11_town 30 = .ok (.getfield 19, 3) := by decide +kernel
theorem dX11_town_33 : decode cX11_town 33 = .ok (.astore_n 1, 1) := by decide +kernel
theorem dX11_town_34 : decode cX11_town 34 = .ok (.aload_n 0, 1) := by decide +kernel
theorem dX11_town_35 : decode cX11_town 35 = .ok (.aload_n 0, 1) := by decide +kernel
theorem dX11_town_36 : decode cX11_town 36 = .ok (.getfield 23, 3) := by decide +kernel
theorem dX11_town_39 : decode cX11_town 39 = .ok (.putfield 19, 3) := by decide +kernel
theorem dX11_town_42 : decode cX11_town 42 = .ok (.aload_n 0, 1) := by decide +kernel
theorem dX11_town_43 : decode cX11_town 43 = .ok (.aload_n 1, 1) := by decide +kernel
theorem dX11_town_44 : decode cX11_town 44 = .ok (.putfield 23, 3) := by decide +kernel
theorem dX11_town_47 : decode cX11_town 47 = .ok (.aload_n 0, 1) := by decide +kernel
