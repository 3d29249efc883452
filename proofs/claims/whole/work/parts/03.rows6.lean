theorem dX12_layTimes_9 : decode cX12_layTimes 9 = .ok (.getfield 69, 3) := by decide +kernel
theorem dX12_layTimes_12 : decode cX12_layTimes 12 = .ok (.iload_n 2, 1) := by decide +kernel
theorem dX12_layTimes_13 : decode cX12_layTimes 13 = .ok (.iconst 0, 1) := by decide +kernel
theorem dX12_layTimes_14 : decode cX12_layTimes 14 = .ok (.iastore, 1) := by decide +kernel
theorem dX12_layTimes_15 : decode cX12_layTimes 15 = .ok (.iinc 2 1, 3) := by decide +kernel
theorem dX12_layTimes_18 : decode cX12_layTimes 18 = .ok (.goto (-16), 3) := by decide +kernel
theorem dX12_layTimes_21 : decode cX12_layTimes 21 = .ok (.aload_n 0, 1) := by decide +kernel
theorem dX12_layTimes_22 : decode cX12_layTimes 22 = .ok (.invokevirtual 257, 3) := by decide +kernel
theorem dX12_layTimes_25 : decode cX12_layTimes 25 = .ok (.iconst 0, 1) := by decide +kernel
theorem dX12_layTimes_26 : decode cX12_layTimes 26 = .ok (.istore_n 2, 1) := by decide +kernel
theorem dX12_layTimes_27 : decode cX12_layTimes 27 = .ok (.iload_n 2, 1) := by decide +kernel
theorem dX12_layTimes_28 : decode cX12_layTimes 28 = .ok (.iload_n 1, 1) := by decide +kernel
theorem dX12_layTimes_29 : decode cX12_layTimes 29 = .ok (.if_icmp .ge 53, 3) := by decide +kernel
theorem dX12_layTimes_32 : decode cX12_layTimes 32 = .ok (.aload_n 0, 1) := by decide +kernel
theorem dX12_layTimes_33 : decode cX12_layTimes 33 = .ok (.invokevirtual 254, 3) := by decide +kernel
theorem dX12_layTimes_36 : decode cX12_layTimes 36 = .ok (.istore_n 3, 1) := by decide +kernel
theorem dX12_layTimes_37 : decode cX12_layTimes 37 = .ok (.iconst 0, 1) := by decide +kernel
theorem dX12_layTimes_38 : decode cX12_layTimes 38 = .ok (.istore 4, 2) := by decide +kernel
theorem dX12_layTimes_40 : decode cX12_layTimes 40 = .ok (.iload 4, 2) := by decide +kernel
theorem dX12_layTimes_42 : decode cX12_layTimes 42 = .ok (.aload_n 0, 1) := by decide +kernel
theorem dX12_layTimes_43 : decode cX12_layTimes 43 = .ok (.getfield 234, 3) := by decide +kernel
theorem dX12_layTimes_46 : decode cX12_layTimes 46 = .ok (.if_icmp .ge 30, 3) := by decide +kernel
theorem dX12_layTimes_49 : decode cX12_layTimes 49 = .ok (.iload_n 3, 1) := by decide +kernel
theorem dX12_layTimes_50 : decode cX12_layTimes 50 = .ok (.iconst (-1), 1) := by decide +kernel
theorem dX12_layTimes_51 : decode cX12_layTimes 51 = .ok (.if_icmp .eq 25, 3) := by decide +kernel
theorem dX12_layTimes_54 : decode cX12_layTimes 54 = .ok (.aload_n 0, 1) := by decide +kernel
theorem dX12_layTimes_55 : decode cX12_layTimes 55 = .ok (.getfield 69, 3) := by decide +kernel
theorem dX12_layTimes_58 : decode cX12_layTimes 58 = .ok (.aload_n 0, 1) := by decide +kernel
theorem dX12_layTimes_59 : decode cX12_layTimes 59 = .ok (.getfield 63, 3) := by decide +kernel
theorem dX12_layTimes_62 : decode cX12_layTimes 62 = .ok (.iload 4, 2) := by decide +kernel
theorem dX12_layTimes_64 : decode cX12_layTimes 64 = .ok (.iaload, 1) := by decide +kernel
theorem dX12_layTimes_65 : decode cX12_layTimes 65 = .ok (.dup2, 1) := by decide +kernel
theorem dX12_layTimes_66 : decode cX12_layTimes 66 = .ok (.iaload, 1) := by decide +kernel
theorem dX12_layTimes_67 : decode cX12_layTimes 67 = .ok (.iconst 1, 1) := by decide +kernel
theorem dX12_layTimes_68 : decode cX12_layTimes 68 = .ok (.iadd, 1) := by decide +kernel
theorem dX12_layTimes_69 : decode cX12_layTimes 69 = .ok (.iastore, 1) := by decide +kernel
theorem dX12_layTimes_70 : decode cX12_layTimes 70 = .ok (.iinc 4 1, 3) := by decide +kernel
theorem dX12_layTimes_73 : decode cX12_layTimes 73 = .ok (.goto (-33), 3) := by decide +kernel
theorem dX12_layTimes_76 : decode cX12_layTimes 76 = .ok (.iinc 2 1, 3) := by decide +kernel
theorem dX12_layTimes_79 : decode cX12_layTimes 79 = .ok (.goto (-52), 3) := by decide +kernel
theorem dX12_layTimes_82 : decode cX12_layTimes 82 = .ok (.aload_n 0, 1) := by decide +kernel
theorem dX12_layTimes_83 : decode cX12_layTimes 83 = .ok (.invokevirtual 260, 3) := by decide +kernel
theorem dX12_layTimes_86 : decode cX12_layTimes 86 = .ok (.return_, 1) := by decide +kernel
set_option maxRecDepth 20000 in
theorem ggX12_areDays_X12_in : GoodIn wsX12_areDays wsX12_in := goodIn_r _ [4] (by decide +kernel) (by decide +kernel)
set_option maxRecDepth 20000 in
theorem gX12_areDays_X12_in : GoodIn wsX12_areDays (va_wsS RX12 93 yX12_in wsX12_in) := goodIn_app (goodIn_of _ (by decide +kernel)) ggX12_areDays_X12_in
theorem dX12_areDays_0 : decode cX12_areDays 0 = .ok (.iload_n 0, 1) := by decide +kernel
theorem dX12_areDays_1 : decode cX12_areDays 1 = .ok (.iconst 1, 1) := by decide +kernel
theorem dX12_areDays_2 : decode cX12_areDays 2 = .ok (.bipush 99, 2) := by decide +kernel
theorem dX12_areDays_4 : decode cX12_areDays 4 = .ok (.invokestatic 93, 3) := by decide +kernel
theorem dX12_areDays_7 : decode cX12_areDays 7 = .ok (.ireturn, 1) := by decide +kernel
set_option maxRecDepth 20000 in
theorem ggX12_passed_X12_isStreet : GoodIn wsX12_passed wsX12_isStreet := goodIn_r _ [6, 7, 8, 9, 5, 10, 74, 75, 76, 77, 78, 79, 80, 81, 82, 83, 84, 85, 86, 87, 88, 89, 90, 91, 92, 93, 94, 95, 96, 97, 98, 99, 100, 101, 102, 103, 104, 105, 106, 107, 108, 109, 110, 111, 112, 113, 114, 115, 116, 117] (by decide +kernel) (by decide +kernel)
set_option maxRecDepth 20000 in
theorem gX12_passed_X12_isStreet : GoodIn wsX12_passed (wsV RX12 222 RX12 yX12_isStreet wsX12_isStreet) := goodIn_app (goodIn_of _ (by decide +kernel)) ggX12_passed_X12_isStreet
set_option maxRecDepth 20000 in
theorem ggX12_passed_X12_areDays : GoodIn wsX12_passed wsX12_areDays := goodIn_r _ [13, 8, 9, 5, 10] (by decide +kernel) (by decide +kernel)
set_option maxRecDepth 20000 in
theorem gX12_passed_X12_areDays : GoodIn wsX12_passed (va_wsS RX12 269 yX12_areDays wsX12_areDays) := goodIn_app (goodIn_of _ (by decide +kernel)) ggX12_passed_X12_areDays
set_option maxRecDepth 20000 in
theorem ggX12_passed_X12_layTimes : GoodIn wsX12_passed wsX12_layTimes := goodIn_r _ [17, 1, 18, 19, 20, 21, 22, 5, 23, 24, 25, 26, 27, 28, 29, 30, 31, 32, 33, 34, 35, 36, 37, 38, 39, 40, 41, 42, 43, 44, 45, 46, 47, 48, 49, 50, 51, 52, 53, 54, 55, 56, 57, 58, 59, 60, 61, 62, 63, 64, 65, 66, 67, 68, 69, 70, 71, 72, 73, 7, 74, 75, 76, 77, 78, 79, 80, 81, 82, 83, 84, 85, 86, 87, 88, 89, 90, 91, 92, 93, 94, 95, 96, 97, 98, 99, 100, 101, 102, 103, 104, 105, 106, 107, 108, 109, 110, 111, 112, 113, 114, 115, 116, 117] (by decide +kernel) (by decide +kernel)
set_option maxRecDepth 20000 in
theorem gX12_passed_X12_layTimes : GoodIn wsX12_passed (wsV RX12 272 RX12 yX12_layTimes wsX12_layTimes) := goodIn_app (goodIn_of _ (by decide +kernel)) ggX12_passed_X12_layTimes
theorem dX12_passed_0 : decode cX12_passed 0 = .ok (.aload_n 0, 1) := by decide +kernel
theorem dX12_passed_1 : decode cX12_passed 1 = .ok (.iload_n 1, 1) := by decide +kernel
theorem dX12_passed_2 : decode cX12_passed 2 = .ok (.invokevirtual 222, 3) := by decide +kernel
theorem dX12_passed_5 : decode cX12_passed 5 = .ok (.ifCond .ne 6, 3) := by decide +kernel
theorem dX12_passed_8 : decode cX12_passed 8 = .ok (.bipush (-2), 2) := by decide +kernel
theorem dX12_passed_10 : decode cX12_passed 10 = .ok (.ireturn, 1) := by decide +kernel
theorem dX12_passed_11 : decode cX12_passed 11 = .ok (.iload_n 2, 1) := by decide +kernel
theorem dX12_passed_12 : decode cX12_passed 12 = .ok (.invokestatic 269, 3) := by decide +kernel
theorem dX12_passed_15 : decode cX12_passed 15 = .ok (.ifCond .ne 6, 3) := by decide +kernel
theorem dX12_passed_18 : decode cX12_passed 18 = .ok (.bipush (-3), 2) := by decide +kernel
theorem dX12_passed_20 : decode cX12_passed 20 = .ok (.ireturn, 1) := by decide +kernel
theorem dX12_passed_21 : decode cX12_passed 21 = .ok (.aload_n 0, 1) := by decide +kernel
theorem dX12_passed_22 : decode cX12_passed 22 = .ok (.iload_n 2, 1) := by decide +kernel
theorem dX12_passed_23 : decode cX12_passed 23 = .ok (.invokevirtual 272, 3) := by decide +kernel
theorem dX12_passed_26 : decode cX12_passed 26 = .ok (.aload_n 0, 1) := by decide +kernel
theorem dX12_passed_27 : decode cX12_passed 27 = .ok (.getfield 69, 3) := by decide +kernel
theorem dX12_passed_30 : decode cX12_passed 30 = .ok (.iload_n 1, 1) := by decide +kernel
theorem dX12_passed_31 : decode cX12_passed 31 = .ok (.iaload, 1) := by decide +kernel
theorem dX12_passed_32 : decode cX12_passed 32 = .ok (.ireturn, 1) := by decide +kernel
set_option maxRecDepth 20000 in
theorem ggX12_most_X12_areDays : GoodIn wsX12_most wsX12_areDays := goodIn_r _ [6, 7, 8, 5, 9] (by decide +kernel) (by decide +kernel)
set_option maxRecDepth 20000 in
theorem gX12_most_X12_areDays : GoodIn wsX12_most (va_wsS RX12 269 yX12_areDays wsX12_areDays) := goodIn_app (goodIn_of _ (by decide +kernel)) ggX12_most_X12_areDays
set_option maxRecDepth 20000 in
theorem ggX12_most_X12_layTimes : GoodIn wsX12_most wsX12_layTimes := goodIn_r _ [13, 2, 14, 15, 16, 17, 18, 5, 19, 20, 21, 22, 23, 24, 25, 26, 27, 28, 29, 30, 31, 32, 33, 34, 35, 36, 37, 38, 39, 40, 41, 42, 43, 44, 45, 46, 47, 48, 49, 50, 51, 52, 53, 54, 55, 56, 57, 58, 59, 60, 61, 62, 63, 64, 65, 66, 67, 68, 69, 1, 70, 71, 72, 73, 74, 75, 76, 77, 78, 79, 80, 81, 82, 83, 84, 85, 86, 87, 88, 89, 90, 91, 92, 93, 94, 95, 96, 97, 98, 99, 100, 101, 102, 103, 104, 105, 106, 107, 108, 109, 110, 111, 112, 113] (by decide +kernel) (by decide +kernel)
set_option maxRecDepth 20000 in
theorem gX12_most_X12_layTimes : GoodIn wsX12_most (wsV RX12 272 RX12 yX12_layTimes wsX12_layTimes) := goodIn_app (goodIn_of _ (by decide +kernel)) ggX12_most_X12_layTimes
theorem dX12_most_0 : decode cX12_most 0 = .ok (.iload_n 1, 1) := by decide +kernel
theorem dX12_most_1 : decode cX12_most 1 = .ok (.invokestatic 269, 3) := by decide +kernel
theorem dX12_most_4 : decode cX12_most 4 = .ok (.ifCond .ne 6, 3) := by decide +kernel
theorem dX12_most_7 : decode cX12_most 7 = .ok (.bipush (-3), 2) := by decide +kernel
theorem dX12_most_9 : decode cX12_most 9 = .ok (.ireturn, 1) := by decide +kernel
theorem dX12_most_10 : decode cX12_most 10 = .ok (.aload_n 0, 1) := by decide +kernel
theorem dX12_most_11 : decode cX12_most 11 = .ok (.iload_n 1, 1) := by decide +kernel
theorem dX12_most_12 : decode cX12_most 12 = .ok (.invokevirtual 272, 3) := by decide +kernel
theorem dX12_most_15 : decode cX12_most 15 = .ok (.iconst (-1), 1) := by decide +kernel
theorem dX12_most_16 : decode cX12_most 16 = .ok (.istore_n 2, 1) := by decide +kernel
theorem dX12_most_17 : decode cX12_most 17 = .ok (.aload_n 0, 1) := by decide +kernel
theorem dX12_most_18 : decode cX12_most 18 = .ok (.getfield 90, 3) := by decide +kernel
theorem dX12_most_21 : decode cX12_most 21 = .ok (.iconst 1, 1) := by decide +kernel
theorem dX12_most_22 : decode cX12_most 22 = .ok (.isub, 1) := by decide +kernel
theorem dX12_most_23 : decode cX12_most 23 = .ok (.istore_n 3, 1) := by decide +kernel
theorem dX12_most_24 : decode cX12_most 24 = .ok (.iload_n 3, 1) := by decide +kernel
theorem dX12_most_25 : decode cX12_most 25 = .ok (.ifCond .lt 56, 3) := by decide +kernel
theorem dX12_most_28 : decode cX12_most 28 = .ok (.aload_n 0, 1) := by decide +kernel
theorem dX12_most_29 : decode cX12_most 29 = .ok (.getfield 69, 3) := by decide +kernel
theorem dX12_most_32 : decode cX12_most 32 = .ok (.iload_n 3, 1) := by decide +kernel
theorem dX12_most_33 : decode cX12_most 33 = .ok (.iaload, 1) := by decide +kernel
theorem dX12_most_34 : decode cX12_most 34 = .ok (.ifCond .le 27, 3) := by decide +kernel
theorem dX12_most_37 : decode cX12_most 37 = .ok (.iload_n 2, 1) := by decide +kernel
theorem dX12_most_38 : decode cX12_most 38 = .ok (.iconst (-1), 1) := by decide +kernel
theorem dX12_most_39 : decode cX12_most 39 = .ok (.if_icmp .eq 18, 3) := by decide +kernel
theorem dX12_most_42 : decode cX12_most 42 = .ok (.aload_n 0, 1) := by decide +kernel
theorem dX12_most_43 : decode cX12_most 43 = .ok (.getfield 69, 3) := by decide +kernel
theorem dX12_most_46 : decode cX12_most 46 = .ok (.iload_n 3, 1) := by decide +kernel
theorem dX12_most_47 : decode cX12_most 47 = .ok (.iaload, 1) := by decide +kernel
theorem dX12_most_48 : decode cX12_most 48 = .ok (.aload_n 0, 1) := by decide +kernel
theorem dX12_most_49 : decode cX12_most 49 = .ok (.getfield 69, 3) := by decide +kernel
theorem dX12_most_52 : decode cX12_most 52 = .ok (.iload_n 2, 1) := by decide +kernel
theorem dX12_most_53 : decode cX12_most 53 = .ok (.iaload, 1) := by decide +kernel
theorem dX12_most_54 : decode cX12_most 54 = .ok (.if_icmp .lt 7, 3) := by decide +kernel
theorem dX12_most_57 : decode cX12_most 57 = .ok (.iconst 1, 1) := by decide +kernel
theorem dX12_most_58 : decode cX12_most 58 = .ok (.goto 4, 3) := by decide +kernel
theorem dX12_most_61 : decode cX12_most 61 = .ok (.iconst 0, 1) := by decide +kernel
theorem dX12_most_62 : decode cX12_most 62 = .ok (.istore 4, 2) := by decide +kernel
theorem dX12_most_64 : decode cX12_most 64 = .ok (.iload 4, 2) := by decide +kernel
theorem dX12_most_66 : decode cX12_most 66 = .ok (.ifCond .eq 7, 3) := by decide +kernel
theorem dX12_most_69 : decode cX12_most 69 = .ok (.iload_n 3, 1) := by decide +kernel
theorem dX12_most_70 : decode cX12_most 70 = .ok (.goto 4, 3) := by decide +kernel
theorem dX12_most_73 : decode cX12_most 73 = .ok (.iload_n 2, 1) := by decide +kernel
theorem dX12_most_74 : decode cX12_most 74 = .ok (.istore_n 2, 1) := by decide +kernel
theorem dX12_most_75 : decode cX12_most 75 = .ok (.iinc 3 (-1), 3) := by decide +kernel
theorem dX12_most_78 : decode cX12_most 78 = .ok (.goto (-54), 3) := by decide +kernel
theorem dX12_most_81 : decode cX12_most 81 = .ok (.iload_n 2, 1) := by decide +kernel
theorem dX12_most_82 : decode cX12_most 82 = .ok (.ireturn, 1) := by decide +kernel
set_option maxRecDepth 20000 in
theorem ggX12_isNear_X12_putAside : GoodIn wsX12_isNear wsX12_putAside := goodIn_r _ [12, 13, 14, 7, 61, 62, 63, 64, 65, 66, 67, 68, 69, 70, 71, 72, 73, 74, 75, 76, 77, 78, 79, 80, 81, 82, 83, 84, 85, 86, 87, 88, 89, 90, 91, 92, 93, 94, 95, 96, 97, 98, 99, 100, 101, 102, 103, 104] (by decide +kernel) (by decide +kernel)
set_option maxRecDepth 20000 in
theorem gX12_isNear_X12_putAside : GoodIn wsX12_isNear (wsV RX12 257 RX12 yX12_putAside wsX12_putAside) := goodIn_app (goodIn_of _ (by decide +kernel)) ggX12_isNear_X12_putAside
set_option maxRecDepth 20000 in
theorem ggX12_isNear_X12_has : GoodIn wsX12_isNear wsX12_has := goodIn_r _ [17] (by decide +kernel) (by decide +kernel)
set_option maxRecDepth 20000 in
theorem gX12_isNear_X12_has : GoodIn wsX12_isNear (va_wsS RX12 230 yX12_has wsX12_has) := goodIn_app (goodIn_of _ (by decide +kernel)) ggX12_isNear_X12_has
set_option maxRecDepth 20000 in
theorem ggX12_isNear_X12_goNight : GoodIn wsX12_isNear wsX12_goNight := goodIn_r _ [21, 22, 23, 24, 11, 25, 26, 27, 28, 3, 7, 6, 29, 2, 5, 30, 31, 32, 33, 34, 35, 36, 14, 37, 15, 16, 17, 38, 39, 40, 41, 42, 43, 44, 45, 46, 47, 48, 49, 50, 51, 52, 53, 54, 55, 61, 62, 63, 64, 65, 66, 67, 68, 69, 70, 71, 72, 73, 74, 75, 76, 77, 78, 79, 80, 81, 82, 83, 84, 85, 86, 87, 88, 89, 90, 91, 92, 93, 94, 95, 96, 97, 98, 99, 100, 101, 102, 103, 104] (by decide +kernel) (by decide +kernel)
set_option maxRecDepth 20000 in
theorem gX12_isNear_X12_goNight : GoodIn wsX12_isNear (wsV RX12 254 RX12 yX12_goNight wsX12_goNight) := goodIn_app (goodIn_of _ (by decide +kernel)) ggX12_isNear_X12_goNight
set_option maxRecDepth 20000 in
theorem ggX12_isNear_X12_putBack : GoodIn wsX12_isNear wsX12_putBack := goodIn_r _ [59, 13, 14, 60, 3, 7, 61, 62, 63, 64, 65, 66, 67, 68, 69, 70, 71, 72, 73, 74, 75, 76, 77, 78, 79, 80, 81, 82, 83, 84, 85, 86, 87, 88, 89, 90, 91, 92, 93, 94, 95, 96, 97, 98, 99, 100, 101, 102, 103, 104] (by decide +kernel) (by decide +kernel)
set_option maxRecDepth 20000 in
theorem gX12_isNear_X12_putBack : GoodIn wsX12_isNear (wsV RX12 260 RX12 yX12_putBack wsX12_putBack) := goodIn_app (goodIn_of _ (by decide +kernel)) ggX12_isNear_X12_putBack
theorem dX12_isNear_0 : decode cX12_isNear 0 = .ok (.aload_n 0, 1) := by decide +kernel
theorem dX12_isNear_1 : decode cX12_isNear 1 = .ok (.invokevirtual 257, 3) := by decide +kernel
theorem dX12_isNear_4 : decode cX12_isNear 4 = .ok (.iconst 0, 1) := by decide +kernel
theorem dX12_isNear_5 : decode cX12_isNear 5 = .ok (.istore 4, 2) := by decide +kernel
theorem dX12_isNear_7 : decode cX12_isNear 7 = .ok (.iload 4, 2) := by decide +kernel
theorem dX12_isNear_9 : decode cX12_isNear 9 = .ok (.aload_n 0, 1) := by decide +kernel
theorem dX12_isNear_10 : decode cX12_isNear 10 = .ok (.getfield 107, 3) := by decide +kernel
theorem dX12_isNear_13 : decode cX12_isNear 13 = .ok (.if_icmp .ge 96, 3) := by decide +kernel
theorem dX12_isNear_16 : decode cX12_isNear 16 = .ok (.iload_n 1, 1) := by decide +kernel
theorem dX12_isNear_17 : decode cX12_isNear 17 = .ok (.iload 4, 2) := by decide +kernel
theorem dX12_isNear_19 : decode cX12_isNear 19 = .ok (.invokestatic 230, 3) := by decide +kernel
theorem dX12_isNear_22 : decode cX12_isNear 22 = .ok (.ifCond .eq 81, 3) := by decide +kernel
theorem dX12_isNear_25 : decode cX12_isNear 25 = .ok (.aload_n 0, 1) := by decide +kernel
theorem dX12_isNear_26 : decode cX12_isNear 26 = .ok (.getfield 13, 3) := by decide +kernel
theorem dX12_isNear_29 : decode cX12_isNear 29 = .ok (.aload_n 0, 1) := by decide +kernel
theorem dX12_isNear_30 : decode cX12_isNear 30 = .ok (.getfield 97, 3) := by decide +kernel
theorem dX12_isNear_33 : decode cX12_isNear 33 = .ok (.aload_n 0, 1) := by decide +kernel
theorem dX12_isNear_34 : decode cX12_isNear 34 = .ok (.getfield 32, 3) := by decide +kernel
theorem dX12_isNear_37 : decode cX12_isNear 37 = .ok (.iconst 4, 1) := by decide +kernel
theorem dX12_isNear_38 : decode cX12_isNear 38 = .ok (.iload 4, 2) := by decide +kernel
theorem dX12_isNear_40 : decode cX12_isNear 40 = .ok (.imul, 1) := by decide +kernel
theorem dX12_isNear_41 : decode cX12_isNear 41 = .ok (.iaload, 1) := by decide +kernel
theorem dX12_isNear_42 : decode cX12_isNear 42 = .ok (.iastore, 1) := by decide +kernel
theorem dX12_isNear_43 : decode cX12_isNear 43 = .ok (.aload_n 0, 1) := by decide +kernel
theorem dX12_isNear_44 : decode cX12_isNear 44 = .ok (.getfield 17, 3) := by decide +kernel
theorem dX12_isNear_47 : decode cX12_isNear 47 = .ok (.aload_n 0, 1) := by decide +kernel
theorem dX12_isNear_48 : decode cX12_isNear 48 = .ok (.getfield 97, 3) := by decide +kernel
theorem dX12_isNear_51 : decode cX12_isNear 51 = .ok (.aload_n 0, 1) := by decide +kernel
theorem dX12_isNear_52 : decode cX12_isNear 52 = .ok (.getfield 32, 3) := by decide +kernel
theorem dX12_isNear_55 : decode cX12_isNear 55 = .ok (.iconst 4, 1) := by decide +kernel
theorem dX12_isNear_56 : decode cX12_isNear 56 = .ok (.iload 4, 2) := by decide +kernel
theorem dX12_isNear_58 : decode cX12_isNear 58 = .ok (.imul, 1) := by decide +kernel
theorem dX12_isNear_59 : decode cX12_isNear 59 = .ok (.iconst 1, 1) := by decide +kernel
theorem dX12_isNear_60 : decode cX12_isNear 60 = .ok (.iadd, 1) := by decide +kernel
theorem dX12_isNear_61 : decode cX12_isNear 61 = .ok (.iaload, 1) := by decide +kernel
theorem dX12_isNear_62 : decode cX12_isNear 62 = .ok (.iastore, 1) := by decide +kernel
theorem dX12_isNear_63 : decode cX12_isNear 63 = .ok (.aload_n 0, 1) := by decide +kernel
theorem dX12_isNear_64 : decode cX12_isNear 64 = .ok (.getfield 20, 3) := by decide +kernel
theorem dX12_isNear_67 : decode cX12_isNear 67 = .ok (.aload_n 0, 1) := by decide +kernel
theorem dX12_isNear_68 : decode cX12_isNear 68 = .ok (.getfield 97, 3) := by decide +kernel
theorem dX12_isNear_71 : decode cX12_isNear 71 = .ok (.aload_n 0, 1) := by decide +kernel
theorem dX12_isNear_72 : decode cX12_isNear 72 = .ok (.getfield 32, 3) := by decide +kernel
theorem dX12_isNear_75 : decode cX12_isNear 75 = .ok (.iconst 4, 1) := by decide +kernel
theorem dX12_isNear_76 : decode cX12_isNear 76 = .ok (.iload 4, 2) := by decide +kernel
theorem dX12_isNear_78 : decode cX12_isNear 78 = .ok (.imul, 1) := by decide +kernel
theorem dX12_isNear_79 : decode cX12_isNear 79 = .ok (.iconst 2, 1) := by decide +kernel
theorem dX12_isNear_80 : decode cX12_isNear 80 = .ok (.iadd, 1) := by decide +kernel
theorem dX12_isNear_81 : decode cX12_isNear 81 = .ok (.iaload, 1) := by decide +kernel
theorem dX12_isNear_82 : decode cX12_isNear 82 = .ok (.iastore, 1) := by decide +kernel
theorem dX12_isNear_83 : decode cX12_isNear 83 = .ok (.aload_n 0, 1) := by decide +kernel
theorem dX12_isNear_84 : decode cX12_isNear 84 = .ok (.getfield 44, 3) := by decide +kernel
theorem dX12_isNear_87 : decode cX12_isNear 87 = .ok (.aload_n 0, 1) := by decide +kernel
theorem dX12_isNear_88 : decode cX12_isNear 88 = .ok (.getfield 97, 3) := by decide +kernel
theorem dX12_isNear_91 : decode cX12_isNear 91 = .ok (.iconst 0, 1) := by decide +kernel
theorem dX12_isNear_92 : decode cX12_isNear 92 = .ok (.iastore, 1) := by decide +kernel
theorem dX12_isNear_93 : decode cX12_isNear 93 = .ok (.aload_n 0, 1) := by decide +kernel
theorem dX12_isNear_94 : decode cX12_isNear 94 = .ok (.dup, 1) := by decide +kernel
theorem dX12_isNear_95 : decode cX12_isNear 95 = .ok (.getfield 97, 3) := by decide +kernel
theorem dX12_isNear_98 : decode cX12_isNear 98 = .ok (.iconst 1, 1) := by decide +kernel
theorem dX12_isNear_99 : decode cX12_isNear 99 = .ok (.iadd, 1) := by decide +kernel
theorem dX12_isNear_100 : decode cX12_isNear 100 = .ok (.putfield 97, 3) := by decide +kernel
theorem dX12_isNear_103 : decode cX12_isNear 103 = .ok (.iinc 4 1, 3) := by decide +kernel
theorem dX12_isNear_106 : decode cX12_isNear 106 = .ok (.goto (-99), 3) := by decide +kernel
theorem dX12_isNear_109 : decode cX12_isNear 109 = .ok (.iconst 1, 1) := by decide +kernel
theorem dX12_isNear_110 : decode cX12_isNear 110 = .ok (.istore 4, 2) := by decide +kernel
theorem dX12_isNear_112 : decode cX12_isNear 112 = .ok (.iconst 0, 1) := by decide +kernel
theorem dX12_isNear_113 : decode cX12_isNear 113 = .ok (.istore 5, 2) := by decide +kernel
theorem dX12_isNear_115 : decode cX12_isNear 115 = .ok (.iload 5, 2) := by decide +kernel
theorem dX12_isNear_117 : decode cX12_isNear 117 = .ok (.iload_n 2, 1) := by decide +kernel
theorem dX12_isNear_118 : decode cX12_isNear 118 = .ok (.if_icmp .ge 39, 3) := by decide +kernel
theorem dX12_isNear_121 : decode cX12_isNear 121 = .ok (.iload 4, 2) := by decide +kernel
theorem dX12_isNear_123 : decode cX12_isNear 123 = .ok (.ifCond .eq 34, 3) := by decide +kernel
theorem dX12_isNear_126 : decode cX12_isNear 126 = .ok (.aload_n 0, 1) := by decide +kernel
theorem dX12_isNear_127 : decode cX12_isNear 127 = .ok (.invokevirtual 254, 3) := by decide +kernel
theorem dX12_isNear_130 : decode cX12_isNear 130 = .ok (.istore 6, 2) := by decide +kernel
theorem dX12_isNear_132 : decode cX12_isNear 132 = .ok (.iload 6, 2) := by decide +kernel
theorem dX12_isNear_134 : decode cX12_isNear 134 = .ok (.iconst (-1), 1) := by decide +kernel
theorem dX12_isNear_135 : decode cX12_isNear 135 = .ok (.if_icmp .eq 13, 3) := by decide +kernel
theorem dX12_isNear_138 : decode cX12_isNear 138 = .ok (.iload 6, 2) := by decide +kernel
theorem dX12_isNear_140 : decode cX12_isNear 140 = .ok (.iload_n 3, 1) := by decide +kernel
theorem dX12_isNear_141 : decode cX12_isNear 141 = .ok (.if_icmp .gt 7, 3) := by decide +kernel
theorem dX12_isNear_144 : decode cX12_isNear 144 = .ok (.iconst 1, 1) := by decide +kernel
theorem dX12_isNear_145 : decode cX12_isNear 145 = .ok (.goto 4, 3) := by decide +kernel
theorem dX12_isNear_148 : decode cX12_isNear 148 = .ok (.iconst 0, 1) := by decide +kernel
theorem dX12_isNear_149 : decode cX12_isNear 149 = .ok (.istore 4, 2) := by decide +kernel
theorem dX12_isNear_151 : decode cX12_isNear 151 = .ok (.iinc 5 1, 3) := by decide +kernel
theorem dX12_isNear_154 : decode cX12_isNear 154 = .ok (.goto (-39), 3) := by decide +kernel
theorem dX12_isNear_157 : decode cX12_isNear 157 = .ok (.aload_n 0, 1) := by decide +kernel
theorem dX12_isNear_158 : decode cX12_isNear 158 = .ok (.invokevirtual 260, 3) := by decide +kernel
theorem dX12_isNear_161 : decode cX12_isNear 161 = .ok (.iload 4, 2) := by decide +kernel
theorem dX12_isNear_163 : decode cX12_isNear 163 = .ok (.ireturn, 1) := by decide +kernel
set_option maxRecDepth 20000 in
theorem ggX12_build_X12_in : GoodIn wsX12_build wsX12_in := goodIn_r _ [6] (by decide +kernel) (by decide +kernel)
set_option maxRecDepth 20000 in
theorem gX12_build_X12_in : GoodIn wsX12_build (va_wsS RX12 93 yX12_in wsX12_in) := goodIn_app (goodIn_of _ (by decide +kernel)) ggX12_build_X12_in
set_option maxRecDepth 20000 in
theorem ggX12_build_X12_has : GoodIn wsX12_build wsX12_has := goodIn_r _ [9] (by decide +kernel) (by decide +kernel)
set_option maxRecDepth 20000 in
theorem gX12_build_X12_has : GoodIn wsX12_build (va_wsS RX12 230 yX12_has wsX12_has) := goodIn_app (goodIn_of _ (by decide +kernel)) ggX12_build_X12_has
set_option maxRecDepth 20000 in
theorem ggX12_build_X12_isNear : GoodIn wsX12_build wsX12_isNear := goodIn_r _ [13, 1, 14, 15, 2, 16, 17, 18, 19, 20, 21, 5, 22, 23, 24, 7, 8, 9, 25, 26, 27, 28, 29, 30, 31, 32, 33, 34, 35, 36, 37, 38, 39, 40, 41, 42, 43, 44, 45, 46, 47, 48, 49, 50, 51, 52, 53, 54, 55, 56, 57, 58, 59, 60, 61, 62, 63, 64, 65, 66, 67, 68, 69, 70, 71, 72, 73, 74, 75, 76, 77, 78, 79, 80, 81, 82, 83, 84, 85, 86, 87, 88, 89, 90, 91, 92, 93, 94, 95, 96, 97, 98, 99, 100, 101, 102, 103, 104, 105, 106, 107, 108, 109, 110, 111] (by decide +kernel) (by decide +kernel)
set_option maxRecDepth 20000 in
theorem gX12_build_X12_isNear : GoodIn wsX12_build (wsV RX12 275 RX12 yX12_isNear wsX12_isNear) := goodIn_app (goodIn_of _ (by decide +kernel)) ggX12_build_X12_isNear
theorem dX12_build_0 : decode cX12_build 0 = .ok (.iload_n 1, 1) := by decide +kernel
theorem dX12_build_1 : decode cX12_build 1 = .ok (.iconst 1, 1) := by decide +kernel
theorem dX12_build_2 : decode cX12_build 2 = .ok (.bipush 60, 2) := by decide +kernel
theorem dX12_build_4 : decode cX12_build 4 = .ok (.invokestatic 93, 3) := by decide +kernel
theorem dX12_build_7 : decode cX12_build 7 = .ok (.ifCond .eq 23, 3) := by decide +kernel
theorem dX12_build_10 : decode cX12_build 10 = .ok (.iload_n 2, 1) := by decide +kernel
theorem dX12_build_11 : decode cX12_build 11 = .ok (.iconst 1, 1) := by decide +kernel
theorem dX12_build_12 : decode cX12_build 12 = .ok (.sipush 999, 3) := by decide +kernel
theorem dX12_build_15 : decode cX12_build 15 = .ok (.invokestatic 93, 3) := by decide +kernel
theorem dX12_build_18 : decode cX12_build 18 = .ok (.ifCond .eq 12, 3) := by decide +kernel
theorem dX12_build_21 : decode cX12_build 21 = .ok (.iload_n 3, 1) := by decide +kernel
theorem dX12_build_22 : decode cX12_build 22 = .ok (.iconst 0, 1) := by decide +kernel
theorem dX12_build_23 : decode cX12_build 23 = .ok (.iconst 1, 1) := by decide +kernel
theorem dX12_build_24 : decode cX12_build 24 = .ok (.invokestatic 93, 3) := by decide +kernel
theorem dX12_build_27 : decode cX12_build 27 = .ok (.ifCond .ne 6, 3) := by decide +kernel
theorem dX12_build_30 : decode cX12_build 30 = .ok (.bipush (-3), 2) := by decide +kernel
theorem dX12_build_32 : decode cX12_build 32 = .ok (.ireturn, 1) := by decide +kernel
theorem dX12_build_33 : decode cX12_build 33 = .ok (.iconst (-1), 1) := by decide +kernel
theorem dX12_build_34 : decode cX12_build 34 = .ok (.istore 4, 2) := by decide +kernel
theorem dX12_build_36 : decode cX12_build 36 = .ok (.iconst 0, 1) := by decide +kernel
theorem dX12_build_37 : decode cX12_build 37 = .ok (.istore 5, 2) := by decide +kernel
theorem dX12_build_39 : decode cX12_build 39 = .ok (.iconst 0, 1) := by decide +kernel
theorem dX12_build_40 : decode cX12_build 40 = .ok (.istore 6, 2) := by decide +kernel
theorem dX12_build_42 : decode cX12_build 42 = .ok (.iload 6, 2) := by decide +kernel
theorem dX12_build_44 : decode cX12_build 44 = .ok (.iconst 1, 1) := by decide +kernel
theorem dX12_build_45 : decode cX12_build 45 = .ok (.aload_n 0, 1) := by decide +kernel
theorem dX12_build_46 : decode cX12_build 46 = .ok (.getfield 107, 3) := by decide +kernel
theorem dX12_build_49 : decode cX12_build 49 = .ok (.ishl, 1) := by decide +kernel
theorem dX12_build_50 : decode cX12_build 50 = .ok (.if_icmp .ge 92, 3) := by decide +kernel
theorem dX12_build_53 : decode cX12_build 53 = .ok (.iconst 0, 1) := by decide +kernel
theorem dX12_build_54 : decode cX12_build 54 = .ok (.istore 7, 2) := by decide +kernel
theorem dX12_build_56 : decode cX12_build 56 = .ok (.iconst 0, 1) := by decide +kernel
theorem dX12_build_57 : decode cX12_build 57 = .ok (.istore 8, 2) := by decide +kernel
theorem dX12_build_59 : decode cX12_build 59 = .ok (.iload 8, 2) := by decide +kernel
theorem dX12_build_61 : decode cX12_build 61 = .ok (.aload_n 0, 1) := by decide +kernel
theorem dX12_build_62 : decode cX12_build 62 = .ok (.getfield 107, 3) := by decide +kernel
theorem dX12_build_65 : decode cX12_build 65 = .ok (.if_icmp .ge 39, 3) := by decide +kernel
theorem dX12_build_68 : decode cX12_build 68 = .ok (.iload 7, 2) := by decide +kernel
theorem dX12_build_70 : decode cX12_build 70 = .ok (.iload 6, 2) := by decide +kernel
theorem dX12_build_72 : decode cX12_build 72 = .ok (.iload 8, 2) := by decide +kernel
theorem dX12_build_74 : decode cX12_build 74 = .ok (.invokestatic 230, 3) := by decide +kernel
theorem dX12_build_77 : decode cX12_build 77 = .ok (.ifCond .eq 17, 3) := by decide +kernel
theorem dX12_build_80 : decode cX12_build 80 = .ok (.aload_n 0, 1) := by decide +kernel
theorem dX12_build_81 : decode cX12_build 81 = .ok (.getfield 32, 3) := by decide +kernel
theorem dX12_build_84 : decode cX12_build 84 = .ok (.iconst 4, 1) := by decide +kernel
theorem dX12_build_85 : decode cX12_build 85 = .ok (.iload 8, 2) := by decide +kernel
theorem dX12_build_87 : decode cX12_build 87 = .ok (.imul, 1) := by decide +kernel
theorem dX12_build_88 : decode cX12_build 88 = .ok (.iconst 3, 1) := by decide +kernel
theorem dX12_build_89 : decode cX12_build 89 = .ok (.iadd, 1) := by decide +kernel
theorem dX12_build_90 : decode cX12_build 90 = .ok (.iaload, 1) := by decide +kernel
theorem dX12_build_91 : decode cX12_build 91 = .ok (.goto 4, 3) := by decide +kernel
theorem dX12_build_94 : decode cX12_build 94 = .ok (.iconst 0, 1) := by decide +kernel
theorem dX12_build_95 : decode cX12_build 95 = .ok (.iadd, 1) := by decide +kernel
theorem dX12_build_96 : decode cX12_build 96 = .ok (.istore 7, 2) := by decide +kernel
theorem dX12_build_98 : decode cX12_build 98 = .ok (.iinc 8 1, 3) := by decide +kernel
theorem dX12_build_101 : decode cX12_build 101 = .ok (.goto (-42), 3) := by decide +kernel
theorem dX12_build_104 : decode cX12_build 104 = .ok (.iload 4, 2) := by decide +kernel
theorem dX12_build_106 : decode cX12_build 106 = .ok (.iconst (-1), 1) := by decide +kernel
theorem dX12_build_107 : decode cX12_build 107 = .ok (.if_icmp .eq 10, 3) := by decide +kernel
theorem dX12_build_110 : decode cX12_build 110 = .ok (.iload 7, 2) := by decide +kernel
theorem dX12_build_112 : decode cX12_build 112 = .ok (.iload 5, 2) := by decide +kernel
theorem dX12_build_114 : decode cX12_build 114 = .ok (.if_icmp .ge 22, 3) := by decide +kernel
theorem dX12_build_117 : decode cX12_build 117 = .ok (.aload_n 0, 1) := by decide +kernel
theorem dX12_build_118 : decode cX12_build 118 = .ok (.iload 6, 2) := by decide +kernel
theorem dX12_build_120 : decode cX12_build 120 = .ok (.iload_n 1, 1) := by decide +kernel
theorem dX12_build_121 : decode cX12_build 121 = .ok (.iload_n 2, 1) := by decide +kernel
theorem dX12_build_122 : decode cX12_build 122 = .ok (.invokevirtual 275, 3) := by decide +kernel
theorem dX12_build_125 : decode cX12_build 125 = .ok (.ifCond .eq 11, 3) := by decide +kernel
theorem dX12_build_128 : decode cX12_build 128 = .ok (.iload 6, 2) := by decide +kernel
theorem dX12_build_130 : decode cX12_build 130 = .ok (.istore 4, 2) := by decide +kernel
theorem dX12_build_132 : decode cX12_build 132 = .ok (.iload 7, 2) := by decide +kernel
theorem dX12_build_134 : decode cX12_build 134 = .ok (.istore 5, 2) := by decide +kernel
theorem dX12_build_136 : decode cX12_build 136 = .ok (.iinc 6 1, 3) := by decide +kernel
theorem dX12_build_139 : decode cX12_build 139 = .ok (.goto (-97), 3) := by decide +kernel
theorem dX12_build_142 : decode cX12_build 142 = .ok (.iload 4, 2) := by decide +kernel
theorem dX12_build_144 : decode cX12_build 144 = .ok (.iconst (-1), 1) := by decide +kernel
theorem dX12_build_145 : decode cX12_build 145 = .ok (.if_icmp .eq 8, 3) := by decide +kernel
theorem dX12_build_148 : decode cX12_build 148 = .ok (.iload_n 3, 1) := by decide +kernel
theorem dX12_build_149 : decode cX12_build 149 = .ok (.iconst 1, 1) := by decide +kernel
theorem dX12_build_150 : decode cX12_build 150 = .ok (.if_icmp .ne 8, 3) := by decide +kernel
theorem dX12_build_153 : decode cX12_build 153 = .ok (.iload 4, 2) := by decide +kernel
theorem dX12_build_155 : decode cX12_build 155 = .ok (.goto 5, 3) := by decide +kernel
theorem dX12_build_158 : decode cX12_build 158 = .ok (.iload 5, 2) := by decide +kernel
theorem dX12_build_160 : decode cX12_build 160 = .ok (.ireturn, 1) := by decide +kernel
set_option maxRecDepth 20000 in
theorem ggX12_enter_X12_layWay : GoodIn wsX12_enter wsX12_layWay := goodIn_r _ [13, 14, 15, 16, 17, 2, 18, 19, 20, 21, 3, 5, 22, 23, 24, 12, 25, 26, 27, 28, 29, 30, 31, 32, 33, 34, 35, 36, 37, 38, 39, 40, 41, 42, 43, 44, 45, 46, 47, 48, 49, 50, 51, 52, 53, 54, 55, 56, 57, 58, 59, 60, 61, 62, 63, 64, 65, 66, 67, 68, 69, 70, 71, 72, 73, 74, 75, 76, 77, 78, 79, 80, 81, 82, 83] (by decide +kernel) (by decide +kernel)
set_option maxRecDepth 20000 in
theorem gX12_enter_X12_layWay : GoodIn wsX12_enter (wsV RX12 244 RX12 yX12_layWay wsX12_layWay) := goodIn_app (goodIn_of _ (by decide +kernel)) ggX12_enter_X12_layWay
theorem dX12_enter_0 : decode cX12_enter 0 = .ok (.aload_n 0, 1) := by decide +kernel
theorem dX12_enter_1 : decode cX12_enter 1 = .ok (.iconst 0, 1) := by decide +kernel
theorem dX12_enter_2 : decode cX12_enter 2 = .ok (.invokevirtual 244, 3) := by decide +kernel
theorem dX12_enter_5 : decode cX12_enter 5 = .ok (.istore_n 3, 1) := by decide +kernel
theorem dX12_enter_6 : decode cX12_enter 6 = .ok (.iconst 0, 1) := by decide +kernel
theorem dX12_enter_7 : decode cX12_enter 7 = .ok (.istore 4, 2) := by decide +kernel
theorem dX12_enter_9 : decode cX12_enter 9 = .ok (.iload 4, 2) := by decide +kernel
theorem dX12_enter_11 : decode cX12_enter 11 = .ok (.bipush 16, 2) := by decide +kernel
theorem dX12_enter_13 : decode cX12_enter 13 = .ok (.if_icmp .ge 28, 3) := by decide +kernel
theorem dX12_enter_16 : decode cX12_enter 16 = .ok (.aload_n 0, 1) := by decide +kernel
theorem dX12_enter_17 : decode cX12_enter 17 = .ok (.getfield 72, 3) := by decide +kernel
theorem dX12_enter_20 : decode cX12_enter 20 = .ok (.bipush 16, 2) := by decide +kernel
theorem dX12_enter_22 : decode cX12_enter 22 = .ok (.iload_n 1, 1) := by decide +kernel
theorem dX12_enter_23 : decode cX12_enter 23 = .ok (.imul, 1) := by decide +kernel
theorem dX12_enter_24 : decode cX12_enter 24 = .ok (.iload 4, 2) := by decide +kernel
theorem dX12_enter_26 : decode cX12_enter 26 = .ok (.iadd, 1) := by decide +kernel
theorem dX12_enter_27 : decode cX12_enter 27 = .ok (.aload_n 0, 1) := by decide +kernel
theorem dX12_enter_28 : decode cX12_enter 28 = .ok (.getfield 44, 3) := by decide +kernel
theorem dX12_enter_31 : decode cX12_enter 31 = .ok (.iload 4, 2) := by decide +kernel
theorem dX12_enter_33 : decode cX12_enter 33 = .ok (.iaload, 1) := by decide +kernel
theorem dX12_enter_34 : decode cX12_enter 34 = .ok (.iastore, 1) := by decide +kernel
theorem dX12_enter_35 : decode cX12_enter 35 = .ok (.iinc 4 1, 3) := by decide +kernel
theorem dX12_enter_38 : decode cX12_enter 38 = .ok (.goto (-29), 3) := by decide +kernel
theorem dX12_enter_41 : decode cX12_enter 41 = .ok (.iconst 0, 1) := by decide +kernel
theorem dX12_enter_42 : decode cX12_enter 42 = .ok (.istore 4, 2) := by decide +kernel
theorem dX12_enter_44 : decode cX12_enter 44 = .ok (.iload 4, 2) := by decide +kernel
theorem dX12_enter_46 : decode cX12_enter 46 = .ok (.aload_n 0, 1) := by decide +kernel
theorem dX12_enter_47 : decode cX12_enter 47 = .ok (.getfield 234, 3) := by decide +kernel
theorem dX12_enter_50 : decode cX12_enter 50 = .ok (.if_icmp .ge 28, 3) := by decide +kernel
theorem dX12_enter_53 : decode cX12_enter 53 = .ok (.aload_n 0, 1) := by decide +kernel
theorem dX12_enter_54 : decode cX12_enter 54 = .ok (.getfield 75, 3) := by decide +kernel
theorem dX12_enter_57 : decode cX12_enter 57 = .ok (.bipush 12, 2) := by decide +kernel
theorem dX12_enter_59 : decode cX12_enter 59 = .ok (.iload_n 1, 1) := by decide +kernel
theorem dX12_enter_60 : decode cX12_enter 60 = .ok (.imul, 1) := by decide +kernel
theorem dX12_enter_61 : decode cX12_enter 61 = .ok (.iload 4, 2) := by decide +kernel
theorem dX12_enter_63 : decode cX12_enter 63 = .ok (.iadd, 1) := by decide +kernel
theorem dX12_enter_64 : decode cX12_enter 64 = .ok (.aload_n 0, 1) := by decide +kernel
theorem dX12_enter_65 : decode cX12_enter 65 = .ok (.getfield 63, 3) := by decide +kernel
theorem dX12_enter_68 : decode cX12_enter 68 = .ok (.iload 4, 2) := by decide +kernel
theorem dX12_enter_70 : decode cX12_enter 70 = .ok (.iaload, 1) := by decide +kernel
theorem dX12_enter_71 : decode cX12_enter 71 = .ok (.iastore, 1) := by decide +kernel
theorem dX12_enter_72 : decode cX12_enter 72 = .ok (.iinc 4 1, 3) := by decide +kernel
theorem dX12_enter_75 : decode cX12_enter 75 = .ok (.goto (-31), 3) := by decide +kernel
theorem dX12_enter_78 : decode cX12_enter 78 = .ok (.aload_n 0, 1) := by decide +kernel
theorem dX12_enter_79 : decode cX12_enter 79 = .ok (.getfield 78, 3) := by decide +kernel
theorem dX12_enter_82 : decode cX12_enter 82 = .ok (.iload_n 1, 1) := by decide +kernel
theorem dX12_enter_83 : decode cX12_enter 83 = .ok (.aload_n 0, 1) := by decide +kernel
theorem dX12_enter_84 : decode cX12_enter 84 = .ok (.getfield 234, 3) := by decide +kernel
theorem dX12_enter_87 : decode cX12_enter 87 = .ok (.iastore, 1) := by decide +kernel
theorem dX12_enter_88 : decode cX12_enter 88 = .ok (.aload_n 0, 1) := by decide +kernel
theorem dX12_enter_89 : decode cX12_enter 89 = .ok (.getfield 81, 3) := by decide +kernel
theorem dX12_enter_92 : decode cX12_enter 92 = .ok (.iload_n 1, 1) := by decide +kernel
theorem dX12_enter_93 : decode cX12_enter 93 = .ok (.iconst 0, 1) := by decide +kernel
theorem dX12_enter_94 : decode cX12_enter 94 = .ok (.iastore, 1) := by decide +kernel
theorem dX12_enter_95 : decode cX12_enter 95 = .ok (.aload_n 0, 1) := by decide +kernel
theorem dX12_enter_96 : decode cX12_enter 96 = .ok (.getfield 84, 3) := by decide +kernel
theorem dX12_enter_99 : decode cX12_enter 99 = .ok (.iload_n 1, 1) := by decide +kernel
theorem dX12_enter_100 : decode cX12_enter 100 = .ok (.iload_n 2, 1) := by decide +kernel
theorem dX12_enter_101 : decode cX12_enter 101 = .ok (.iload_n 3, 1) := by decide +kernel
theorem dX12_enter_102 : decode cX12_enter 102 = .ok (.iconst (-1), 1) := by decide +kernel
theorem dX12_enter_103 : decode cX12_enter 103 = .ok (.if_icmp .ne 9, 3) := by decide +kernel
theorem dX12_enter_106 : decode cX12_enter 106 = .ok (.sipush 999, 3) := by decide +kernel
theorem dX12_enter_109 : decode cX12_enter 109 = .ok (.goto 4, 3) := by decide +kernel
theorem dX12_enter_112 : decode cX12_enter 112 = .ok (.iload_n 3, 1) := by decide +kernel
theorem dX12_enter_113 : decode cX12_enter 113 = .ok (.iadd, 1) := by decide +kernel
theorem dX12_enter_114 : decode cX12_enter 114 = .ok (.iastore, 1) := by decide +kernel
theorem dX12_enter_115 : decode cX12_enter 115 = .ok (.return_, 1) := by decide +kernel
set_option maxRecDepth 20000 in
theorem ggX12_chosenOf_X12_putAside : GoodIn wsX12_chosenOf wsX12_putAside := goodIn_r _ [13, 7, 8, 5, 59, 60, 61, 62, 63, 64, 65, 66, 67, 68, 69, 70, 71, 72, 73, 74, 75, 76, 77, 78, 79, 80, 81, 82, 83, 84, 85, 86, 87, 88, 89, 90, 91, 92, 93, 94, 95, 96, 97, 98, 99, 100, 101, 102] (by decide +kernel) (by decide +kernel)
set_option maxRecDepth 20000 in
theorem gX12_chosenOf_X12_putAside : GoodIn wsX12_chosenOf (wsV RX12 257 RX12 yX12_putAside wsX12_putAside) := goodIn_app (goodIn_of _ (by decide +kernel)) ggX12_chosenOf_X12_putAside
set_option maxRecDepth 20000 in
theorem ggX12_chosenOf_X12_enter : GoodIn wsX12_chosenOf wsX12_enter := goodIn_r _ [17, 6, 5, 18, 4, 19, 2, 3, 1, 20, 21, 22, 12, 23, 24, 25, 26, 27, 28, 29, 30, 31, 32, 33, 34, 35, 36, 8, 37, 38, 39, 40, 41, 42, 43, 44, 45, 46, 47, 48, 59, 60, 61, 62, 63, 64, 65, 66, 67, 68, 69, 70, 71, 72, 73, 74, 75, 76, 77, 78, 79, 80, 81, 82, 83, 84, 85, 86, 87, 88, 89, 90, 91, 92, 93, 94, 95, 96, 97, 98, 99, 100, 101, 102] (by decide +kernel) (by decide +kernel)
set_option maxRecDepth 20000 in
theorem gX12_chosenOf_X12_enter : GoodIn wsX12_chosenOf (wsV RX12 278 RX12 yX12_enter wsX12_enter) := goodIn_app (goodIn_of _ (by decide +kernel)) ggX12_chosenOf_X12_enter
set_option maxRecDepth 20000 in
theorem ggX12_chosenOf_X12_shutOne : GoodIn wsX12_chosenOf wsX12_shutOne := goodIn_r _ [52, 27, 5, 53, 8, 59, 60, 61, 62, 63, 64, 65, 66, 67, 68, 69, 70, 71, 72, 73, 74, 75, 76, 77, 78, 79, 80, 81, 82, 83, 84, 85, 86, 87, 88, 89, 90, 91, 92, 93, 94, 95, 96, 97, 98, 99, 100, 101, 102] (by decide +kernel) (by decide +kernel)
set_option maxRecDepth 20000 in
theorem gX12_chosenOf_X12_shutOne : GoodIn wsX12_chosenOf (wsV RX12 251 RX12 yX12_shutOne wsX12_shutOne) := goodIn_app (goodIn_of _ (by decide +kernel)) ggX12_chosenOf_X12_shutOne
set_option maxRecDepth 20000 in
theorem ggX12_chosenOf_X12_putBack : GoodIn wsX12_chosenOf wsX12_putBack := goodIn_r _ [57, 7, 8, 58, 27, 5, 59, 60, 61, 62, 63, 64, 65, 66, 67, 68, 69, 70, 71, 72, 73, 74, 75, 76, 77, 78, 79, 80, 81, 82, 83, 84, 85, 86, 87, 88, 89, 90, 91, 92, 93, 94, 95, 96, 97, 98, 99, 100, 101, 102] (by decide +kernel) (by decide +kernel)
set_option maxRecDepth 20000 in
theorem gX12_chosenOf_X12_putBack : GoodIn wsX12_chosenOf (wsV RX12 260 RX12 yX12_putBack wsX12_putBack) := goodIn_app (goodIn_of _ (by decide +kernel)) ggX12_chosenOf_X12_putBack
theorem dX12_chosenOf_0 : decode cX12_chosenOf 0 = .ok (.aload_n 0, 1) := by decide +kernel
theorem dX12_chosenOf_1 : decode cX12_chosenOf 1 = .ok (.invokevirtual 257, 3) := by decide +kernel
theorem dX12_chosenOf_4 : decode cX12_chosenOf 4 = .ok (.iconst (-1), 1) := by decide +kernel
theorem dX12_chosenOf_5 : decode cX12_chosenOf 5 = .ok (.istore_n 3, 1) := by decide +kernel
theorem dX12_chosenOf_6 : decode cX12_chosenOf 6 = .ok (.iconst 0, 1) := by decide +kernel
theorem dX12_chosenOf_7 : decode cX12_chosenOf 7 = .ok (.istore 4, 2) := by decide +kernel
theorem dX12_chosenOf_9 : decode cX12_chosenOf 9 = .ok (.aload_n 0, 1) := by decide +kernel
theorem dX12_chosenOf_10 : decode cX12_chosenOf 10 = .ok (.iconst 0, 1) := by decide +kernel
theorem dX12_chosenOf_11 : decode cX12_chosenOf 11 = .ok (.iconst 0, 1) := by decide +kernel
theorem dX12_chosenOf_12 : decode cX12_chosenOf 12 = .ok (.invokevirtual 278, 3) := by decide +kernel
theorem dX12_chosenOf_15 : decode cX12_chosenOf 15 = .ok (.iload 4, 2) := by decide +kernel
theorem dX12_chosenOf_17 : decode cX12_chosenOf 17 = .ok (.ifCond .lt 247, 3) := by decide +kernel
theorem dX12_chosenOf_20 : decode cX12_chosenOf 20 = .ok (.iload 4, 2) := by decide +kernel
theorem dX12_chosenOf_22 : decode cX12_chosenOf 22 = .ok (.iload_n 1, 1) := by decide +kernel
theorem dX12_chosenOf_23 : decode cX12_chosenOf 23 = .ok (.if_icmp .ne 7, 3) := by decide +kernel
theorem dX12_chosenOf_26 : decode cX12_chosenOf 26 = .ok (.iconst 1, 1) := by decide +kernel
theorem dX12_chosenOf_27 : decode cX12_chosenOf 27 = .ok (.goto 4, 3) := by decide +kernel
theorem dX12_chosenOf_30 : decode cX12_chosenOf 30 = .ok (.iconst 0, 1) := by decide +kernel
theorem dX12_chosenOf_31 : decode cX12_chosenOf 31 = .ok (.istore 5, 2) := by decide +kernel
theorem dX12_chosenOf_33 : decode cX12_chosenOf 33 = .ok (.iload 5, 2) := by decide +kernel
theorem dX12_chosenOf_35 : decode cX12_chosenOf 35 = .ok (.ifCond .eq 61, 3) := by decide +kernel
theorem dX12_chosenOf_38 : decode cX12_chosenOf 38 = .ok (.iload_n 3, 1) := by decide +kernel
theorem dX12_chosenOf_39 : decode cX12_chosenOf 39 = .ok (.iconst (-1), 1) := by decide +kernel
theorem dX12_chosenOf_40 : decode cX12_chosenOf 40 = .ok (.if_icmp .eq 32, 3) := by decide +kernel
theorem dX12_chosenOf_43 : decode cX12_chosenOf 43 = .ok (.iload_n 2, 1) := by decide +kernel
theorem dX12_chosenOf_44 : decode cX12_chosenOf 44 = .ok (.ifCond .eq 17, 3) := by decide +kernel
theorem dX12_chosenOf_47 : decode cX12_chosenOf 47 = .ok (.aload_n 0, 1) := by decide +kernel
theorem dX12_chosenOf_48 : decode cX12_chosenOf 48 = .ok (.getfield 84, 3) := by decide +kernel
theorem dX12_chosenOf_51 : decode cX12_chosenOf 51 = .ok (.iload 4, 2) := by decide +kernel
theorem dX12_chosenOf_53 : decode cX12_chosenOf 53 = .ok (.iaload, 1) := by decide +kernel
theorem dX12_chosenOf_54 : decode cX12_chosenOf 54 = .ok (.iload_n 3, 1) := by decide +kernel
theorem dX12_chosenOf_55 : decode cX12_chosenOf 55 = .ok (.if_icmp .le 21, 3) := by decide +kernel
theorem dX12_chosenOf_58 : decode cX12_chosenOf 58 = .ok (.goto 14, 3) := by decide +kernel
theorem dX12_chosenOf_61 : decode cX12_chosenOf 61 = .ok (.aload_n 0, 1) := by decide +kernel
theorem dX12_chosenOf_62 : decode cX12_chosenOf 62 = .ok (.getfield 84, 3) := by decide +kernel
theorem dX12_chosenOf_65 : decode cX12_chosenOf 65 = .ok (.iload 4, 2) := by decide +kernel
theorem dX12_chosenOf_67 : decode cX12_chosenOf 67 = .ok (.iaload, 1) := by decide +kernel
theorem dX12_chosenOf_68 : decode cX12_chosenOf 68 = .ok (.iload_n 3, 1) := by decide +kernel
theorem dX12_chosenOf_69 : decode cX12_chosenOf 69 = .ok (.if_icmp .ge 7, 3) := by decide +kernel
theorem dX12_chosenOf_72 : decode cX12_chosenOf 72 = .ok (.iconst 1, 1) := by decide +kernel
theorem dX12_chosenOf_73 : decode cX12_chosenOf 73 = .ok (.goto 4, 3) := by decide +kernel
theorem dX12_chosenOf_76 : decode cX12_chosenOf 76 = .ok (.iconst 0, 1) := by decide +kernel
theorem dX12_chosenOf_77 : decode cX12_chosenOf 77 = .ok (.istore 6, 2) := by decide +kernel
theorem dX12_chosenOf_79 : decode cX12_chosenOf 79 = .ok (.iload 6, 2) := by decide +kernel
theorem dX12_chosenOf_81 : decode cX12_chosenOf 81 = .ok (.ifCond .eq 13, 3) := by decide +kernel
theorem dX12_chosenOf_84 : decode cX12_chosenOf 84 = .ok (.aload_n 0, 1) := by decide +kernel
theorem dX12_chosenOf_85 : decode cX12_chosenOf 85 = .ok (.getfield 84, 3) := by decide +kernel
theorem dX12_chosenOf_88 : decode cX12_chosenOf 88 = .ok (.iload 4, 2) := by decide +kernel
theorem dX12_chosenOf_90 : decode cX12_chosenOf 90 = .ok (.iaload, 1) := by decide +kernel
theorem dX12_chosenOf_91 : decode cX12_chosenOf 91 = .ok (.goto 4, 3) := by decide +kernel
theorem dX12_chosenOf_94 : decode cX12_chosenOf 94 = .ok (.iload_n 3, 1) := by decide +kernel
theorem dX12_chosenOf_95 : decode cX12_chosenOf 95 = .ok (.istore_n 3, 1) := by decide +kernel
theorem dX12_chosenOf_96 : decode cX12_chosenOf 96 = .ok (.aload_n 0, 1) := by decide +kernel
theorem dX12_chosenOf_97 : decode cX12_chosenOf 97 = .ok (.getfield 78, 3) := by decide +kernel
theorem dX12_chosenOf_100 : decode cX12_chosenOf 100 = .ok (.iload 4, 2) := by decide +kernel
theorem dX12_chosenOf_102 : decode cX12_chosenOf 102 = .ok (.iaload, 1) := by decide +kernel
theorem dX12_chosenOf_103 : decode cX12_chosenOf 103 = .ok (.ifCond .ne 7, 3) := by decide +kernel
theorem dX12_chosenOf_106 : decode cX12_chosenOf 106 = .ok (.iconst 1, 1) := by decide +kernel
theorem dX12_chosenOf_107 : decode cX12_chosenOf 107 = .ok (.goto 10, 3) := by decide +kernel
theorem dX12_chosenOf_110 : decode cX12_chosenOf 110 = .ok (.aload_n 0, 1) := by decide +kernel
theorem dX12_chosenOf_111 : decode cX12_chosenOf 111 = .ok (.getfield 78, 3) := by decide +kernel
theorem dX12_chosenOf_114 : decode cX12_chosenOf 114 = .ok (.iload 4, 2) := by decide +kernel
theorem dX12_chosenOf_116 : decode cX12_chosenOf 116 = .ok (.iaload, 1) := by decide +kernel
theorem dX12_chosenOf_117 : decode cX12_chosenOf 117 = .ok (.istore 6, 2) := by decide +kernel
theorem dX12_chosenOf_119 : decode cX12_chosenOf 119 = .ok (.iload 5, 2) := by decide +kernel
theorem dX12_chosenOf_121 : decode cX12_chosenOf 121 = .ok (.ifCond .ne 15, 3) := by decide +kernel
theorem dX12_chosenOf_124 : decode cX12_chosenOf 124 = .ok (.aload_n 0, 1) := by decide +kernel
theorem dX12_chosenOf_125 : decode cX12_chosenOf 125 = .ok (.getfield 81, 3) := by decide +kernel
theorem dX12_chosenOf_128 : decode cX12_chosenOf 128 = .ok (.iload 4, 2) := by decide +kernel
theorem dX12_chosenOf_130 : decode cX12_chosenOf 130 = .ok (.iaload, 1) := by decide +kernel
theorem dX12_chosenOf_131 : decode cX12_chosenOf 131 = .ok (.iload 6, 2) := by decide +kernel
theorem dX12_chosenOf_133 : decode cX12_chosenOf 133 = .ok (.if_icmp .ne 9, 3) := by decide +kernel
theorem dX12_chosenOf_136 : decode cX12_chosenOf 136 = .ok (.iinc 4 (-1), 3) := by decide +kernel
theorem dX12_chosenOf_139 : decode cX12_chosenOf 139 = .ok (.goto 122, 3) := by decide +kernel
theorem dX12_chosenOf_142 : decode cX12_chosenOf 142 = .ok (.aload_n 0, 1) := by decide +kernel
theorem dX12_chosenOf_143 : decode cX12_chosenOf 143 = .ok (.getfield 78, 3) := by decide +kernel
theorem dX12_chosenOf_146 : decode cX12_chosenOf 146 = .ok (.iload 4, 2) := by decide +kernel
theorem dX12_chosenOf_148 : decode cX12_chosenOf 148 = .ok (.iaload, 1) := by decide +kernel
theorem dX12_chosenOf_149 : decode cX12_chosenOf 149 = .ok (.ifCond .ne 7, 3) := by decide +kernel
theorem dX12_chosenOf_152 : decode cX12_chosenOf 152 = .ok (.iconst (-1), 1) := by decide +kernel
theorem dX12_chosenOf_153 : decode cX12_chosenOf 153 = .ok (.goto 21, 3) := by decide +kernel
theorem dX12_chosenOf_156 : decode cX12_chosenOf 156 = .ok (.aload_n 0, 1) := by decide +kernel
theorem dX12_chosenOf_157 : decode cX12_chosenOf 157 = .ok (.getfield 75, 3) := by decide +kernel
theorem dX12_chosenOf_160 : decode cX12_chosenOf 160 = .ok (.bipush 12, 2) := by decide +kernel
theorem dX12_chosenOf_162 : decode cX12_chosenOf 162 = .ok (.iload 4, 2) := by decide +kernel
theorem dX12_chosenOf_164 : decode cX12_chosenOf 164 = .ok (.imul, 1) := by decide +kernel
theorem dX12_chosenOf_165 : decode cX12_chosenOf 165 = .ok (.aload_n 0, 1) := by decide +kernel
theorem dX12_chosenOf_166 : decode cX12_chosenOf 166 = .ok (.getfield 81, 3) := by decide +kernel
theorem dX12_chosenOf_169 : decode cX12_chosenOf 169 = .ok (.iload 4, 2) := by decide +kernel
theorem dX12_chosenOf_171 : decode cX12_chosenOf 171 = .ok (.iaload, 1) := by decide +kernel
theorem dX12_chosenOf_172 : decode cX12_chosenOf 172 = .ok (.iadd, 1) := by decide +kernel
theorem dX12_chosenOf_173 : decode cX12_chosenOf 173 = .ok (.iaload, 1) := by decide +kernel
theorem dX12_chosenOf_174 : decode cX12_chosenOf 174 = .ok (.istore 7, 2) := by decide +kernel
theorem dX12_chosenOf_176 : decode cX12_chosenOf 176 = .ok (.aload_n 0, 1) := by decide +kernel
theorem dX12_chosenOf_177 : decode cX12_chosenOf 177 = .ok (.getfield 81, 3) := by decide +kernel
theorem dX12_chosenOf_180 : decode cX12_chosenOf 180 = .ok (.iload 4, 2) := by decide +kernel
theorem dX12_chosenOf_182 : decode cX12_chosenOf 182 = .ok (.dup2, 1) := by decide +kernel
theorem dX12_chosenOf_183 : decode cX12_chosenOf 183 = .ok (.iaload, 1) := by decide +kernel
theorem dX12_chosenOf_184 : decode cX12_chosenOf 184 = .ok (.iconst 1, 1) := by decide +kernel
theorem dX12_chosenOf_185 : decode cX12_chosenOf 185 = .ok (.iadd, 1) := by decide +kernel
theorem dX12_chosenOf_186 : decode cX12_chosenOf 186 = .ok (.iastore, 1) := by decide +kernel
theorem dX12_chosenOf_187 : decode cX12_chosenOf 187 = .ok (.iconst 0, 1) := by decide +kernel
theorem dX12_chosenOf_188 : decode cX12_chosenOf 188 = .ok (.istore 8, 2) := by decide +kernel
theorem dX12_chosenOf_190 : decode cX12_chosenOf 190 = .ok (.iload 8, 2) := by decide +kernel
theorem dX12_chosenOf_192 : decode cX12_chosenOf 192 = .ok (.bipush 16, 2) := by decide +kernel
theorem dX12_chosenOf_194 : decode cX12_chosenOf 194 = .ok (.if_icmp .ge 29, 3) := by decide +kernel
theorem dX12_chosenOf_197 : decode cX12_chosenOf 197 = .ok (.aload_n 0, 1) := by decide +kernel
theorem dX12_chosenOf_198 : decode cX12_chosenOf 198 = .ok (.getfield 44, 3) := by decide +kernel
theorem dX12_chosenOf_201 : decode cX12_chosenOf 201 = .ok (.iload 8, 2) := by decide +kernel
theorem dX12_chosenOf_203 : decode cX12_chosenOf 203 = .ok (.aload_n 0, 1) := by decide +kernel
theorem dX12_chosenOf_204 : decode cX12_chosenOf 204 = .ok (.getfield 72, 3) := by decide +kernel
theorem dX12_chosenOf_207 : decode cX12_chosenOf 207 = .ok (.bipush 16, 2) := by decide +kernel
theorem dX12_chosenOf_209 : decode cX12_chosenOf 209 = .ok (.iload 4, 2) := by decide +kernel
theorem dX12_chosenOf_211 : decode cX12_chosenOf 211 = .ok (.imul, 1) := by decide +kernel
theorem dX12_chosenOf_212 : decode cX12_chosenOf 212 = .ok (.iload 8, 2) := by decide +kernel
theorem dX12_chosenOf_214 : decode cX12_chosenOf 214 = .ok (.iadd, 1) := by decide +kernel
theorem dX12_chosenOf_215 : decode cX12_chosenOf 215 = .ok (.iaload, 1) := by decide +kernel
theorem dX12_chosenOf_216 : decode cX12_chosenOf 216 = .ok (.iastore, 1) := by decide +kernel
theorem dX12_chosenOf_217 : decode cX12_chosenOf 217 = .ok (.iinc 8 1, 3) := by decide +kernel
theorem dX12_chosenOf_220 : decode cX12_chosenOf 220 = .ok (.goto (-30), 3) := by decide +kernel
theorem dX12_chosenOf_223 : decode cX12_chosenOf 223 = .ok (.aload_n 0, 1) := by decide +kernel
theorem dX12_chosenOf_224 : decode cX12_chosenOf 224 = .ok (.aload_n 0, 1) := by decide +kernel
theorem dX12_chosenOf_225 : decode cX12_chosenOf 225 = .ok (.getfield 47, 3) := by decide +kernel
theorem dX12_chosenOf_228 : decode cX12_chosenOf 228 = .ok (.bipush 16, 2) := by decide +kernel
theorem dX12_chosenOf_230 : decode cX12_chosenOf 230 = .ok (.iaload, 1) := by decide +kernel
theorem dX12_chosenOf_231 : decode cX12_chosenOf 231 = .ok (.iload 4, 2) := by decide +kernel
theorem dX12_chosenOf_233 : decode cX12_chosenOf 233 = .ok (.iadd, 1) := by decide +kernel
theorem dX12_chosenOf_234 : decode cX12_chosenOf 234 = .ok (.putfield 213, 3) := by decide +kernel
theorem dX12_chosenOf_237 : decode cX12_chosenOf 237 = .ok (.aload_n 0, 1) := by decide +kernel
theorem dX12_chosenOf_238 : decode cX12_chosenOf 238 = .ok (.iload 7, 2) := by decide +kernel
theorem dX12_chosenOf_240 : decode cX12_chosenOf 240 = .ok (.invokevirtual 251, 3) := by decide +kernel
theorem dX12_chosenOf_243 : decode cX12_chosenOf 243 = .ok (.aload_n 0, 1) := by decide +kernel
theorem dX12_chosenOf_244 : decode cX12_chosenOf 244 = .ok (.iload 4, 2) := by decide +kernel
theorem dX12_chosenOf_246 : decode cX12_chosenOf 246 = .ok (.iconst 1, 1) := by decide +kernel
theorem dX12_chosenOf_247 : decode cX12_chosenOf 247 = .ok (.iadd, 1) := by decide +kernel
theorem dX12_chosenOf_248 : decode cX12_chosenOf 248 = .ok (.aload_n 0, 1) := by decide +kernel
theorem dX12_chosenOf_249 : decode cX12_chosenOf 249 = .ok (.getfield 84, 3) := by decide +kernel
theorem dX12_chosenOf_252 : decode cX12_chosenOf 252 = .ok (.iload 4, 2) := by decide +kernel
theorem dX12_chosenOf_254 : decode cX12_chosenOf 254 = .ok (.iaload, 1) := by decide +kernel
theorem dX12_chosenOf_255 : decode cX12_chosenOf 255 = .ok (.invokevirtual 278, 3) := by decide +kernel
theorem dX12_chosenOf_258 : decode cX12_chosenOf 258 = .ok (.iinc 4 1, 3) := by decide +kernel
theorem dX12_chosenOf_261 : decode cX12_chosenOf 261 = .ok (.goto (-246), 3) := by decide +kernel
theorem dX12_chosenOf_264 : decode cX12_chosenOf 264 = .ok (.aload_n 0, 1) := by decide +kernel
theorem dX12_chosenOf_265 : decode cX12_chosenOf 265 = .ok (.invokevirtual 260, 3) := by decide +kernel
theorem dX12_chosenOf_268 : decode cX12_chosenOf 268 = .ok (.iload_n 3, 1) := by decide +kernel
theorem dX12_chosenOf_269 : decode cX12_chosenOf 269 = .ok (.ireturn, 1) := by decide +kernel
set_option maxRecDepth 20000 in
theorem ggX12_chosen_X12_in : GoodIn wsX12_chosen wsX12_in := goodIn_r _ [4] (by decide +kernel) (by decide +kernel)
set_option maxRecDepth 20000 in
theorem gX12_chosen_X12_in : GoodIn wsX12_chosen (va_wsS RX12 93 yX12_in wsX12_in) := goodIn_app (goodIn_of _ (by decide +kernel)) ggX12_chosen_X12_in
set_option maxRecDepth 20000 in
theorem ggX12_chosen_X12_chosenOf : GoodIn wsX12_chosen wsX12_chosenOf := goodIn_r _ [8, 9, 10, 11, 12, 13, 14, 15, 16, 17, 18, 19, 3, 20, 21, 22, 23, 24, 25, 26, 27, 28, 29, 30, 31, 32, 33, 34, 35, 36, 37, 38, 39, 40, 41, 42, 43, 44, 45, 46, 47, 48, 49, 50, 51, 52, 53, 54, 55, 56, 57, 58, 59, 60, 61, 62, 63, 64, 65, 66, 67, 68, 69, 70, 71, 72, 73, 74, 75, 76, 77, 78, 79, 80, 81, 82, 83, 84, 85, 86, 87, 88, 89, 90, 91, 92, 93, 94, 95, 96, 97, 98, 99, 100, 101, 102, 103, 104, 105, 106, 107, 108, 109] (by decide +kernel) (by decide +kernel)
set_option maxRecDepth 20000 in
theorem gX12_chosen_X12_chosenOf : GoodIn wsX12_chosen (wsV RX12 282 RX12 yX12_chosenOf wsX12_chosenOf) := goodIn_app (goodIn_of _ (by decide +kernel)) ggX12_chosen_X12_chosenOf
theorem dX12_chosen_0 : decode cX12_chosen 0 = .ok (.iload_n 1, 1) := by decide +kernel
theorem dX12_chosen_1 : decode cX12_chosen 1 = .ok (.iconst 1, 1) := by decide +kernel
theorem dX12_chosen_2 : decode cX12_chosen 2 = .ok (.iconst 5, 1) := by decide +kernel
theorem dX12_chosen_3 : decode cX12_chosen 3 = .ok (.invokestatic 93, 3) := by decide +kernel
theorem dX12_chosen_6 : decode cX12_chosen 6 = .ok (.ifCond .eq 12, 3) := by decide +kernel
theorem dX12_chosen_9 : decode cX12_chosen 9 = .ok (.iload_n 2, 1) := by decide +kernel
theorem dX12_chosen_10 : decode cX12_chosen 10 = .ok (.iconst 0, 1) := by decide +kernel
theorem dX12_chosen_11 : decode cX12_chosen 11 = .ok (.iconst 1, 1) := by decide +kernel
theorem dX12_chosen_12 : decode cX12_chosen 12 = .ok (.invokestatic 93, 3) := by decide +kernel
theorem dX12_chosen_15 : decode cX12_chosen 15 = .ok (.ifCond .ne 6, 3) := by decide +kernel
theorem dX12_chosen_18 : decode cX12_chosen 18 = .ok (.bipush (-3), 2) := by decide +kernel
theorem dX12_chosen_20 : decode cX12_chosen 20 = .ok (.ireturn, 1) := by decide +kernel
theorem dX12_chosen_21 : decode cX12_chosen 21 = .ok (.aload_n 0, 1) := by decide +kernel
theorem dX12_chosen_22 : decode cX12_chosen 22 = .ok (.iload_n 1, 1) := by decide +kernel
theorem dX12_chosen_23 : decode cX12_chosen 23 = .ok (.iload_n 2, 1) := by decide +kernel
theorem dX12_chosen_24 : decode cX12_chosen 24 = .ok (.iconst 1, 1) := by decide +kernel
theorem dX12_chosen_25 : decode cX12_chosen 25 = .ok (.if_icmp .ne 7, 3) := by decide +kernel
theorem dX12_chosen_28 : decode cX12_chosen 28 = .ok (.iconst 1, 1) := by decide +kernel
theorem dX12_chosen_29 : decode cX12_chosen 29 = .ok (.goto 4, 3) := by decide +kernel
theorem dX12_chosen_32 : decode cX12_chosen 32 = .ok (.iconst 0, 1) := by decide +kernel
theorem dX12_chosen_33 : decode cX12_chosen 33 = .ok (.invokevirtual 282, 3) := by decide +kernel
theorem dX12_chosen_36 : decode cX12_chosen 36 = .ok (.ireturn, 1) := by decide +kernel
set_option maxRecDepth 20000 in
theorem ggX12_carts_X12_isStreet : GoodIn wsX12_carts wsX12_isStreet := goodIn_r _ [9, 1, 10, 11, 8, 12, 44, 45, 46, 47, 48, 49, 50, 51, 52, 53, 54, 55, 56, 57, 58, 59, 60, 61, 62, 63, 64, 65, 66, 67, 68, 69, 70, 71, 72, 73, 74, 75, 76, 77, 78, 79, 80, 81, 82, 83, 84, 85, 86, 87] (by decide +kernel) (by decide +kernel)
set_option maxRecDepth 20000 in
theorem gX12_carts_X12_isStreet : GoodIn wsX12_carts (wsV RX12 222 RX12 yX12_isStreet wsX12_isStreet) := goodIn_app (goodIn_of _ (by decide +kernel)) ggX12_carts_X12_isStreet
set_option maxRecDepth 20000 in
theorem ggX12_carts_X12_in : GoodIn wsX12_carts wsX12_in := goodIn_r _ [12] (by decide +kernel) (by decide +kernel)
set_option maxRecDepth 20000 in
theorem gX12_carts_X12_in : GoodIn wsX12_carts (va_wsS RX12 93 yX12_in wsX12_in) := goodIn_app (goodIn_of _ (by decide +kernel)) ggX12_carts_X12_in
set_option maxRecDepth 20000 in
theorem ggX12_carts_X12_has : GoodIn wsX12_carts wsX12_has := goodIn_r _ [15] (by decide +kernel) (by decide +kernel)
set_option maxRecDepth 20000 in
theorem gX12_carts_X12_has : GoodIn wsX12_carts (va_wsS RX12 230 yX12_has wsX12_has) := goodIn_app (goodIn_of _ (by decide +kernel)) ggX12_carts_X12_has
set_option maxRecDepth 20000 in
theorem ggX12_carts_X12_layWay : GoodIn wsX12_carts wsX12_layWay := goodIn_r _ [19, 20, 21, 22, 23, 24, 25, 26, 27, 28, 3, 4, 29, 30, 31, 8, 32, 33, 34, 35, 13, 14, 15, 36, 37, 38, 39, 40, 41, 42, 43, 44, 45, 46, 47, 48, 49, 50, 51, 52, 53, 54, 55, 56, 57, 58, 59, 60, 61, 62, 63, 64, 65, 66, 67, 68, 69, 70, 71, 72, 73, 74, 75, 76, 77, 78, 79, 80, 81, 82, 83, 84, 85, 86, 87] (by decide +kernel) (by decide +kernel)
set_option maxRecDepth 20000 in
theorem gX12_carts_X12_layWay : GoodIn wsX12_carts (wsV RX12 244 RX12 yX12_layWay wsX12_layWay) := goodIn_app (goodIn_of _ (by decide +kernel)) ggX12_carts_X12_layWay
theorem dX12_carts_0 : decode cX12_carts 0 = .ok (.aload_n 0, 1) := by decide +kernel
theorem dX12_carts_1 : decode cX12_carts 1 = .ok (.iload_n 1, 1) := by decide +kernel
theorem dX12_carts_2 : decode cX12_carts 2 = .ok (.invokevirtual 222, 3) := by decide +kernel
theorem dX12_carts_5 : decode cX12_carts 5 = .ok (.ifCond .ne 6, 3) := by decide +kernel
theorem dX12_carts_8 : decode cX12_carts 8 = .ok (.bipush (-2), 2) := by decide +kernel
theorem dX12_carts_10 : decode cX12_carts 10 = .ok (.ireturn, 1) := by decide +kernel
theorem dX12_carts_11 : decode cX12_carts 11 = .ok (.iload_n 2, 1) := by decide +kernel
theorem dX12_carts_12 : decode cX12_carts 12 = .ok (.iconst 0, 1) := by decide +kernel
theorem dX12_carts_13 : decode cX12_carts 13 = .ok (.iconst 1, 1) := by decide +kernel
theorem dX12_carts_14 : decode cX12_carts 14 = .ok (.invokestatic 93, 3) := by decide +kernel
theorem dX12_carts_17 : decode cX12_carts 17 = .ok (.ifCond .ne 6, 3) := by decide +kernel
theorem dX12_carts_20 : decode cX12_carts 20 = .ok (.bipush (-3), 2) := by decide +kernel
theorem dX12_carts_22 : decode cX12_carts 22 = .ok (.ireturn, 1) := by decide +kernel
theorem dX12_carts_23 : decode cX12_carts 23 = .ok (.iconst (-1), 1) := by decide +kernel
theorem dX12_carts_24 : decode cX12_carts 24 = .ok (.istore_n 3, 1) := by decide +kernel
theorem dX12_carts_25 : decode cX12_carts 25 = .ok (.iconst 0, 1) := by decide +kernel
theorem dX12_carts_26 : decode cX12_carts 26 = .ok (.istore 4, 2) := by decide +kernel
theorem dX12_carts_28 : decode cX12_carts 28 = .ok (.iconst 0, 1) := by decide +kernel
theorem dX12_carts_29 : decode cX12_carts 29 = .ok (.istore 5, 2) := by decide +kernel
theorem dX12_carts_31 : decode cX12_carts 31 = .ok (.iload 5, 2) := by decide +kernel
theorem dX12_carts_33 : decode cX12_carts 33 = .ok (.iconst 1, 1) := by decide +kernel
theorem dX12_carts_34 : decode cX12_carts 34 = .ok (.aload_n 0, 1) := by decide +kernel
theorem dX12_carts_35 : decode cX12_carts 35 = .ok (.getfield 90, 3) := by decide +kernel
theorem dX12_carts_38 : decode cX12_carts 38 = .ok (.ishl, 1) := by decide +kernel
theorem dX12_carts_39 : decode cX12_carts 39 = .ok (.if_icmp .ge 153, 3) := by decide +kernel
theorem dX12_carts_42 : decode cX12_carts 42 = .ok (.iconst 0, 1) := by decide +kernel
theorem dX12_carts_43 : decode cX12_carts 43 = .ok (.istore 6, 2) := by decide +kernel
theorem dX12_carts_45 : decode cX12_carts 45 = .ok (.iconst 0, 1) := by decide +kernel
theorem dX12_carts_46 : decode cX12_carts 46 = .ok (.istore 7, 2) := by decide +kernel
theorem dX12_carts_48 : decode cX12_carts 48 = .ok (.iload 7, 2) := by decide +kernel
theorem dX12_carts_50 : decode cX12_carts 50 = .ok (.aload_n 0, 1) := by decide +kernel
theorem dX12_carts_51 : decode cX12_carts 51 = .ok (.getfield 90, 3) := by decide +kernel
theorem dX12_carts_54 : decode cX12_carts 54 = .ok (.if_icmp .ge 35, 3) := by decide +kernel
theorem dX12_carts_57 : decode cX12_carts 57 = .ok (.iload 6, 2) := by decide +kernel
theorem dX12_carts_59 : decode cX12_carts 59 = .ok (.iload 5, 2) := by decide +kernel
theorem dX12_carts_61 : decode cX12_carts 61 = .ok (.iload 7, 2) := by decide +kernel
theorem dX12_carts_63 : decode cX12_carts 63 = .ok (.invokestatic 230, 3) := by decide +kernel
theorem dX12_carts_66 : decode cX12_carts 66 = .ok (.ifCond .eq 13, 3) := by decide +kernel
theorem dX12_carts_69 : decode cX12_carts 69 = .ok (.aload_n 0, 1) := by decide +kernel
theorem dX12_carts_70 : decode cX12_carts 70 = .ok (.getfield 23, 3) := by decide +kernel
theorem dX12_carts_73 : decode cX12_carts 73 = .ok (.iload 7, 2) := by decide +kernel
theorem dX12_carts_75 : decode cX12_carts 75 = .ok (.iaload, 1) := by decide +kernel
theorem dX12_carts_76 : decode cX12_carts 76 = .ok (.goto 4, 3) := by decide +kernel
theorem dX12_carts_79 : decode cX12_carts 79 = .ok (.iconst 0, 1) := by decide +kernel
theorem dX12_carts_80 : decode cX12_carts 80 = .ok (.iadd, 1) := by decide +kernel
theorem dX12_carts_81 : decode cX12_carts 81 = .ok (.istore 6, 2) := by decide +kernel
theorem dX12_carts_83 : decode cX12_carts 83 = .ok (.iinc 7 1, 3) := by decide +kernel
theorem dX12_carts_86 : decode cX12_carts 86 = .ok (.goto (-38), 3) := by decide +kernel
theorem dX12_carts_89 : decode cX12_carts 89 = .ok (.iload_n 3, 1) := by decide +kernel
theorem dX12_carts_90 : decode cX12_carts 90 = .ok (.iconst (-1), 1) := by decide +kernel
theorem dX12_carts_91 : decode cX12_carts 91 = .ok (.if_icmp .eq 10, 3) := by decide +kernel
theorem dX12_carts_94 : decode cX12_carts 94 = .ok (.iload 6, 2) := by decide +kernel
theorem dX12_carts_96 : decode cX12_carts 96 = .ok (.iload 4, 2) := by decide +kernel
theorem dX12_carts_98 : decode cX12_carts 98 = .ok (.if_icmp .ge 88, 3) := by decide +kernel
theorem dX12_carts_101 : decode cX12_carts 101 = .ok (.aload_n 0, 1) := by decide +kernel
theorem dX12_carts_102 : decode cX12_carts 102 = .ok (.iload 5, 2) := by decide +kernel
theorem dX12_carts_104 : decode cX12_carts 104 = .ok (.invokevirtual 244, 3) := by decide +kernel
theorem dX12_carts_107 : decode cX12_carts 107 = .ok (.istore 7, 2) := by decide +kernel
theorem dX12_carts_109 : decode cX12_carts 109 = .ok (.iconst 0, 1) := by decide +kernel
theorem dX12_carts_110 : decode cX12_carts 110 = .ok (.istore 8, 2) := by decide +kernel
theorem dX12_carts_112 : decode cX12_carts 112 = .ok (.iconst 0, 1) := by decide +kernel
theorem dX12_carts_113 : decode cX12_carts 113 = .ok (.istore 9, 2) := by decide +kernel
theorem dX12_carts_115 : decode cX12_carts 115 = .ok (.iload 9, 2) := by decide +kernel
theorem dX12_carts_117 : decode cX12_carts 117 = .ok (.aload_n 0, 1) := by decide +kernel
theorem dX12_carts_118 : decode cX12_carts 118 = .ok (.getfield 234, 3) := by decide +kernel
theorem dX12_carts_121 : decode cX12_carts 121 = .ok (.if_icmp .ge 32, 3) := by decide +kernel
theorem dX12_carts_124 : decode cX12_carts 124 = .ok (.iload 8, 2) := by decide +kernel
theorem dX12_carts_126 : decode cX12_carts 126 = .ok (.ifCond .ne 14, 3) := by decide +kernel
theorem dX12_carts_129 : decode cX12_carts 129 = .ok (.aload_n 0, 1) := by decide +kernel
theorem dX12_carts_130 : decode cX12_carts 130 = .ok (.getfield 63, 3) := by decide +kernel
theorem dX12_carts_133 : decode cX12_carts 133 = .ok (.iload 9, 2) := by decide +kernel
theorem dX12_carts_135 : decode cX12_carts 135 = .ok (.iaload, 1) := by decide +kernel
theorem dX12_carts_136 : decode cX12_carts 136 = .ok (.iload_n 1, 1) := by decide +kernel
theorem dX12_carts_137 : decode cX12_carts 137 = .ok (.if_icmp .ne 7, 3) := by decide +kernel
theorem dX12_carts_140 : decode cX12_carts 140 = .ok (.iconst 1, 1) := by decide +kernel
theorem dX12_carts_141 : decode cX12_carts 141 = .ok (.goto 4, 3) := by decide +kernel
theorem dX12_carts_144 : decode cX12_carts 144 = .ok (.iconst 0, 1) := by decide +kernel
theorem dX12_carts_145 : decode cX12_carts 145 = .ok (.istore 8, 2) := by decide +kernel
theorem dX12_carts_147 : decode cX12_carts 147 = .ok (.iinc 9 1, 3) := by decide +kernel
theorem dX12_carts_150 : decode cX12_carts 150 = .ok (.goto (-35), 3) := by decide +kernel
theorem dX12_carts_153 : decode cX12_carts 153 = .ok (.iload 8, 2) := by decide +kernel
theorem dX12_carts_155 : decode cX12_carts 155 = .ok (.ifCond .eq 14, 3) := by decide +kernel
theorem dX12_carts_158 : decode cX12_carts 158 = .ok (.iload 7, 2) := by decide +kernel
theorem dX12_carts_160 : decode cX12_carts 160 = .ok (.iconst (-1), 1) := by decide +kernel
theorem dX12_carts_161 : decode cX12_carts 161 = .ok (.if_icmp .eq 8, 3) := by decide +kernel
theorem dX12_carts_164 : decode cX12_carts 164 = .ok (.iload 5, 2) := by decide +kernel
theorem dX12_carts_166 : decode cX12_carts 166 = .ok (.goto 4, 3) := by decide +kernel
theorem dX12_carts_169 : decode cX12_carts 169 = .ok (.iload_n 3, 1) := by decide +kernel
theorem dX12_carts_170 : decode cX12_carts 170 = .ok (.istore_n 3, 1) := by decide +kernel
theorem dX12_carts_171 : decode cX12_carts 171 = .ok (.iload_n 3, 1) := by decide +kernel
theorem dX12_carts_172 : decode cX12_carts 172 = .ok (.iload 5, 2) := by decide +kernel
theorem dX12_carts_174 : decode cX12_carts 174 = .ok (.if_icmp .ne 8, 3) := by decide +kernel
theorem dX12_carts_177 : decode cX12_carts 177 = .ok (.iload 6, 2) := by decide +kernel
theorem dX12_carts_179 : decode cX12_carts 179 = .ok (.goto 5, 3) := by decide +kernel
theorem dX12_carts_182 : decode cX12_carts 182 = .ok (.iload 4, 2) := by decide +kernel
theorem dX12_carts_184 : decode cX12_carts 184 = .ok (.istore 4, 2) := by decide +kernel
theorem dX12_carts_186 : decode cX12_carts 186 = .ok (.iinc 5 1, 3) := by decide +kernel
theorem dX12_carts_189 : decode cX12_carts 189 = .ok (.goto (-158), 3) := by decide +kernel
theorem dX12_carts_192 : decode cX12_carts 192 = .ok (.iload_n 3, 1) := by decide +kernel
theorem dX12_carts_193 : decode cX12_carts 193 = .ok (.iconst (-1), 1) := by decide +kernel
theorem dX12_carts_194 : decode cX12_carts 194 = .ok (.if_icmp .eq 8, 3) := by decide +kernel
theorem dX12_carts_197 : decode cX12_carts 197 = .ok (.iload_n 2, 1) := by decide +kernel
theorem dX12_carts_198 : decode cX12_carts 198 = .ok (.iconst 1, 1) := by decide +kernel
theorem dX12_carts_199 : decode cX12_carts 199 = .ok (.if_icmp .ne 7, 3) := by decide +kernel
theorem dX12_carts_202 : decode cX12_carts 202 = .ok (.iload_n 3, 1) := by decide +kernel
theorem dX12_carts_203 : decode cX12_carts 203 = .ok (.goto 5, 3) := by decide +kernel
theorem dX12_carts_206 : decode cX12_carts 206 = .ok (.iload 4, 2) := by decide +kernel
theorem dX12_carts_208 : decode cX12_carts 208 = .ok (.ireturn, 1) := by decide +kernel
set_option maxRecDepth 20000 in
theorem ggX12_night_X12_isStreet : GoodIn wsX12_night wsX12_isStreet := goodIn_r _ [7, 8, 9, 10, 6, 11, 12, 13, 14, 15, 16, 17, 18, 19, 20, 21, 22, 23, 24, 25, 26, 27, 28, 29, 30, 31, 32, 33, 34, 35, 36, 37, 38, 39, 40, 41, 42, 43, 44, 45, 46, 47, 48, 49, 50, 51, 52, 53, 54, 55] (by decide +kernel) (by decide +kernel)
set_option maxRecDepth 20000 in
theorem gX12_night_X12_isStreet : GoodIn wsX12_night (wsV RX12 222 RX12 yX12_isStreet wsX12_isStreet) := goodIn_app (goodIn_of _ (by decide +kernel)) ggX12_night_X12_isStreet
theorem dX12_night_0 : decode cX12_night 0 = .ok (.iload_n 1, 1) := by decide +kernel
theorem dX12_night_1 : decode cX12_night 1 = .ok (.iconst (-1), 1) := by decide +kernel
theorem dX12_night_2 : decode cX12_night 2 = .ok (.if_icmp .eq 14, 3) := by decide +kernel
theorem dX12_night_5 : decode cX12_night 5 = .ok (.aload_n 0, 1) := by decide +kernel
theorem dX12_night_6 : decode cX12_night 6 = .ok (.iload_n 1, 1) := by decide +kernel
theorem dX12_night_7 : decode cX12_night 7 = .ok (.invokevirtual 222, 3) := by decide +kernel
theorem dX12_night_10 : decode cX12_night 10 = .ok (.ifCond .ne 6, 3) := by decide +kernel
theorem dX12_night_13 : decode cX12_night 13 = .ok (.bipush (-2), 2) := by decide +kernel
theorem dX12_night_15 : decode cX12_night 15 = .ok (.ireturn, 1) := by decide +kernel
theorem dX12_night_16 : decode cX12_night 16 = .ok (.aload_n 0, 1) := by decide +kernel
theorem dX12_night_17 : decode cX12_night 17 = .ok (.getfield 219, 3) := by decide +kernel
theorem dX12_night_20 : decode cX12_night 20 = .ok (.bipush 12, 2) := by decide +kernel
theorem dX12_night_22 : decode cX12_night 22 = .ok (.if_icmp .ne 6, 3) := by decide +kernel
theorem dX12_night_25 : decode cX12_night 25 = .ok (.bipush (-5), 2) := by decide +kernel
theorem dX12_night_27 : decode cX12_night 27 = .ok (.ireturn, 1) := by decide +kernel
theorem dX12_night_28 : decode cX12_night 28 = .ok (.aload_n 0, 1) := by decide +kernel
theorem dX12_night_29 : decode cX12_night 29 = .ok (.getfield 57, 3) := by decide +kernel
theorem dX12_night_32 : decode cX12_night 32 = .ok (.aload_n 0, 1) := by decide +kernel
theorem dX12_night_33 : decode cX12_night 33 = .ok (.getfield 219, 3) := by decide +kernel
theorem dX12_night_36 : decode cX12_night 36 = .ok (.iload_n 1, 1) := by decide +kernel
theorem dX12_night_37 : decode cX12_night 37 = .ok (.iastore, 1) := by decide +kernel
theorem dX12_night_38 : decode cX12_night 38 = .ok (.aload_n 0, 1) := by decide +kernel
theorem dX12_night_39 : decode cX12_night 39 = .ok (.dup, 1) := by decide +kernel
theorem dX12_night_40 : decode cX12_night 40 = .ok (.getfield 219, 3) := by decide +kernel
theorem dX12_night_43 : decode cX12_night 43 = .ok (.iconst 1, 1) := by decide +kernel
theorem dX12_night_44 : decode cX12_night 44 = .ok (.iadd, 1) := by decide +kernel
theorem dX12_night_45 : decode cX12_night 45 = .ok (.putfield 219, 3) := by decide +kernel
theorem dX12_night_48 : decode cX12_night 48 = .ok (.aload_n 0, 1) := by decide +kernel
theorem dX12_night_49 : decode cX12_night 49 = .ok (.getfield 219, 3) := by decide +kernel
theorem dX12_night_52 : decode cX12_night 52 = .ok (.ireturn, 1) := by decide +kernel
theorem dX12_forget_0 : decode cX12_forget 0 = .ok (.aload_n 0, 1) := by decide +kernel
theorem dX12_forget_1 : decode cX12_forget 1 = .ok (.getfield 219, 3) := by decide +kernel
theorem dX12_forget_4 : decode cX12_forget 4 = .ok (.istore_n 1, 1) := by decide +kernel
theorem dX12_forget_5 : decode cX12_forget 5 = .ok (.aload_n 0, 1) := by decide +kernel
theorem dX12_forget_6 : decode cX12_forget 6 = .ok (.iconst 0, 1) := by decide +kernel
theorem dX12_forget_7 : decode cX12_forget 7 = .ok (.putfield 219, 3) := by decide +kernel
theorem dX12_forget_10 : decode cX12_forget 10 = .ok (.iload_n 1, 1) := by decide +kernel
theorem dX12_forget_11 : decode cX12_forget 11 = .ok (.ireturn, 1) := by decide +kernel
set_option maxRecDepth 20000 in
theorem ggX12_judged_X12_putAside : GoodIn wsX12_judged wsX12_putAside := goodIn_r _ [8, 9, 1, 10, 61, 62, 63, 64, 65, 66, 67, 68, 69, 70, 71, 72, 73, 74, 75, 76, 77, 78, 79, 80, 81, 82, 83, 84, 85, 86, 87, 88, 89, 90, 91, 92, 93, 94, 95, 96, 97, 98, 99, 100, 101, 102, 103, 104] (by decide +kernel) (by decide +kernel)
set_option maxRecDepth 20000 in
theorem gX12_judged_X12_putAside : GoodIn wsX12_judged (wsV RX12 257 RX12 yX12_putAside wsX12_putAside) := goodIn_app (goodIn_of _ (by decide +kernel)) ggX12_judged_X12_putAside
set_option maxRecDepth 20000 in
theorem ggX12_judged_X12_openAll : GoodIn wsX12_judged wsX12_openAll := goodIn_r _ [14, 10, 61, 62, 63, 64, 65, 66, 67, 68, 69, 70, 71, 72, 73, 74, 75, 76, 77, 78, 79, 80, 81, 82, 83, 84, 85, 86, 87, 88, 89, 90, 91, 92, 93, 94, 95, 96, 97, 98, 99, 100, 101, 102, 103, 104] (by decide +kernel) (by decide +kernel)
set_option maxRecDepth 20000 in
theorem gX12_judged_X12_openAll : GoodIn wsX12_judged (wsV RX12 216 RX12 yX12_openAll wsX12_openAll) := goodIn_app (goodIn_of _ (by decide +kernel)) ggX12_judged_X12_openAll
set_option maxRecDepth 20000 in
theorem ggX12_judged_X12_layWay : GoodIn wsX12_judged wsX12_layWay := goodIn_r _ [18, 19, 20, 21, 22, 10, 23, 24, 25, 26, 27, 28, 29, 30, 31, 7, 32, 33, 1, 34, 35, 36, 37, 38, 39, 40, 41, 42, 43, 44, 45, 61, 62, 63, 64, 65, 66, 67, 68, 69, 70, 71, 72, 73, 74, 75, 76, 77, 78, 79, 80, 81, 82, 83, 84, 85, 86, 87, 88, 89, 90, 91, 92, 93, 94, 95, 96, 97, 98, 99, 100, 101, 102, 103, 104] (by decide +kernel) (by decide +kernel)
set_option maxRecDepth 20000 in
theorem gX12_judged_X12_layWay : GoodIn wsX12_judged (wsV RX12 244 RX12 yX12_layWay wsX12_layWay) := goodIn_app (goodIn_of _ (by decide +kernel)) ggX12_judged_X12_layWay
set_option maxRecDepth 20000 in
theorem ggX12_judged_X12_picked : GoodIn wsX12_judged wsX12_picked := goodIn_r _ [49, 27, 28, 23, 50, 61, 62, 63, 64, 65, 66, 67, 68, 69, 70, 71, 72, 73, 74, 75, 76, 77, 78, 79, 80, 81, 82, 83, 84, 85, 86, 87, 88, 89, 90, 91, 92, 93, 94, 95, 96, 97, 98, 99, 100, 101, 102, 103, 104] (by decide +kernel) (by decide +kernel)
set_option maxRecDepth 20000 in
theorem gX12_judged_X12_picked : GoodIn wsX12_judged (wsV RX12 248 RX12 yX12_picked wsX12_picked) := goodIn_app (goodIn_of _ (by decide +kernel)) ggX12_judged_X12_picked
set_option maxRecDepth 20000 in
theorem ggX12_judged_X12_shutOne : GoodIn wsX12_judged wsX12_shutOne := goodIn_r _ [54, 22, 10, 55, 1, 61, 62, 63, 64, 65, 66, 67, 68, 69, 70, 71, 72, 73, 74, 75, 76, 77, 78, 79, 80, 81, 82, 83, 84, 85, 86, 87, 88, 89, 90, 91, 92, 93, 94, 95, 96, 97, 98, 99, 100, 101, 102, 103, 104] (by decide +kernel) (by decide +kernel)
set_option maxRecDepth 20000 in
theorem gX12_judged_X12_shutOne : GoodIn wsX12_judged (wsV RX12 251 RX12 yX12_shutOne wsX12_shutOne) := goodIn_app (goodIn_of _ (by decide +kernel)) ggX12_judged_X12_shutOne
set_option maxRecDepth 20000 in
theorem ggX12_judged_X12_putBack : GoodIn wsX12_judged wsX12_putBack := goodIn_r _ [59, 9, 1, 60, 22, 10, 61, 62, 63, 64, 65, 66, 67, 68, 69, 70, 71, 72, 73, 74, 75, 76, 77, 78, 79, 80, 81, 82, 83, 84, 85, 86, 87, 88, 89, 90, 91, 92, 93, 94, 95, 96, 97, 98, 99, 100, 101, 102, 103, 104] (by decide +kernel) (by decide +kernel)
set_option maxRecDepth 20000 in
theorem gX12_judged_X12_putBack : GoodIn wsX12_judged (wsV RX12 260 RX12 yX12_putBack wsX12_putBack) := goodIn_app (goodIn_of _ (by decide +kernel)) ggX12_judged_X12_putBack
theorem dX12_judged_0 : decode cX12_judged 0 = .ok (.aload_n 0, 1) := by decide +kernel
theorem dX12_judged_1 : decode cX12_judged 1 = .ok (.invokevirtual 257, 3) := by decide +kernel
theorem dX12_judged_4 : decode cX12_judged 4 = .ok (.aload_n 0, 1) := by decide +kernel
theorem dX12_judged_5 : decode cX12_judged 5 = .ok (.iconst 0, 1) := by decide +kernel
theorem dX12_judged_6 : decode cX12_judged 6 = .ok (.putfield 213, 3) := by decide +kernel
theorem dX12_judged_9 : decode cX12_judged 9 = .ok (.aload_n 0, 1) := by decide +kernel
theorem dX12_judged_10 : decode cX12_judged 10 = .ok (.invokevirtual 216, 3) := by decide +kernel
theorem dX12_judged_13 : decode cX12_judged 13 = .ok (.iconst (-1), 1) := by decide +kernel
theorem dX12_judged_14 : decode cX12_judged 14 = .ok (.istore_n 1, 1) := by decide +kernel
theorem dX12_judged_15 : decode cX12_judged 15 = .ok (.iconst 0, 1) := by decide +kernel
theorem dX12_judged_16 : decode cX12_judged 16 = .ok (.istore_n 2, 1) := by decide +kernel
theorem dX12_judged_17 : decode cX12_judged 17 = .ok (.iload_n 2, 1) := by decide +kernel
theorem dX12_judged_18 : decode cX12_judged 18 = .ok (.aload_n 0, 1) := by decide +kernel
theorem dX12_judged_19 : decode cX12_judged 19 = .ok (.getfield 219, 3) := by decide +kernel
theorem dX12_judged_22 : decode cX12_judged 22 = .ok (.if_icmp .ge 58, 3) := by decide +kernel
theorem dX12_judged_25 : decode cX12_judged 25 = .ok (.iload_n 1, 1) := by decide +kernel
theorem dX12_judged_26 : decode cX12_judged 26 = .ok (.iconst (-1), 1) := by decide +kernel
theorem dX12_judged_27 : decode cX12_judged 27 = .ok (.if_icmp .ne 53, 3) := by decide +kernel
theorem dX12_judged_30 : decode cX12_judged 30 = .ok (.aload_n 0, 1) := by decide +kernel
theorem dX12_judged_31 : decode cX12_judged 31 = .ok (.iconst 0, 1) := by decide +kernel
theorem dX12_judged_32 : decode cX12_judged 32 = .ok (.invokevirtual 244, 3) := by decide +kernel
theorem dX12_judged_35 : decode cX12_judged 35 = .ok (.istore_n 3, 1) := by decide +kernel
theorem dX12_judged_36 : decode cX12_judged 36 = .ok (.iload_n 3, 1) := by decide +kernel
theorem dX12_judged_37 : decode cX12_judged 37 = .ok (.iconst (-1), 1) := by decide +kernel
theorem dX12_judged_38 : decode cX12_judged 38 = .ok (.if_icmp .ne 7, 3) := by decide +kernel
theorem dX12_judged_41 : decode cX12_judged 41 = .ok (.iconst (-1), 1) := by decide +kernel
theorem dX12_judged_42 : decode cX12_judged 42 = .ok (.goto 7, 3) := by decide +kernel
theorem dX12_judged_45 : decode cX12_judged 45 = .ok (.aload_n 0, 1) := by decide +kernel
theorem dX12_judged_46 : decode cX12_judged 46 = .ok (.invokevirtual 248, 3) := by decide +kernel
theorem dX12_judged_49 : decode cX12_judged 49 = .ok (.istore 4, 2) := by decide +kernel
theorem dX12_judged_51 : decode cX12_judged 51 = .ok (.iload 4, 2) := by decide +kernel
theorem dX12_judged_53 : decode cX12_judged 53 = .ok (.aload_n 0, 1) := by decide +kernel
theorem dX12_judged_54 : decode cX12_judged 54 = .ok (.getfield 57, 3) := by decide +kernel
theorem dX12_judged_57 : decode cX12_judged 57 = .ok (.iload_n 2, 1) := by decide +kernel
theorem dX12_judged_58 : decode cX12_judged 58 = .ok (.iaload, 1) := by decide +kernel
theorem dX12_judged_59 : decode cX12_judged 59 = .ok (.if_icmp .ne 7, 3) := by decide +kernel
theorem dX12_judged_62 : decode cX12_judged 62 = .ok (.iconst (-1), 1) := by decide +kernel
theorem dX12_judged_63 : decode cX12_judged 63 = .ok (.goto 4, 3) := by decide +kernel
theorem dX12_judged_66 : decode cX12_judged 66 = .ok (.iload_n 2, 1) := by decide +kernel
theorem dX12_judged_67 : decode cX12_judged 67 = .ok (.istore_n 1, 1) := by decide +kernel
theorem dX12_judged_68 : decode cX12_judged 68 = .ok (.aload_n 0, 1) := by decide +kernel
theorem dX12_judged_69 : decode cX12_judged 69 = .ok (.iload 4, 2) := by decide +kernel
theorem dX12_judged_71 : decode cX12_judged 71 = .ok (.invokevirtual 251, 3) := by decide +kernel
theorem dX12_judged_74 : decode cX12_judged 74 = .ok (.iinc 2 1, 3) := by decide +kernel
theorem dX12_judged_77 : decode cX12_judged 77 = .ok (.goto (-60), 3) := by decide +kernel
theorem dX12_judged_80 : decode cX12_judged 80 = .ok (.aload_n 0, 1) := by decide +kernel
theorem dX12_judged_81 : decode cX12_judged 81 = .ok (.invokevirtual 260, 3) := by decide +kernel
theorem dX12_judged_84 : decode cX12_judged 84 = .ok (.iload_n 1, 1) := by decide +kernel
theorem dX12_judged_85 : decode cX12_judged 85 = .ok (.ireturn, 1) := by decide +kernel
set_option maxRecDepth 20000 in
theorem ggX12_judge_X12_judged : GoodIn wsX12_judge wsX12_judged := goodIn_r _ [5, 6, 7, 8, 9, 10, 11, 4, 12, 13, 14, 15, 16, 17, 18, 19, 20, 21, 22, 23, 24, 25, 26, 27, 28, 29, 30, 31, 32, 33, 34, 35, 36, 37, 38, 39, 40, 41, 42, 43, 44, 45, 46, 47, 48, 49, 50, 51, 52, 53, 54, 55, 56, 57, 58, 59, 60, 61, 62, 63, 64, 65, 66, 67, 68, 69, 70, 71, 72, 73, 74, 75, 76, 77, 78, 79, 80, 81, 82, 83, 84, 85, 86, 87, 88, 89, 90, 91, 92, 93, 94, 95, 96, 97, 98, 99, 100, 101, 102, 103, 104, 105, 106, 107, 108] (by decide +kernel) (by decide +kernel)
set_option maxRecDepth 20000 in
theorem gX12_judge_X12_judged : GoodIn wsX12_judge (wsV RX12 286 RX12 yX12_judged wsX12_judged) := goodIn_app (goodIn_of _ (by decide +kernel)) ggX12_judge_X12_judged
theorem dX12_judge_0 : decode cX12_judge 0 = .ok (.aload_n 0, 1) := by decide +kernel
theorem dX12_judge_1 : decode cX12_judge 1 = .ok (.invokevirtual 286, 3) := by decide +kernel
theorem dX12_judge_4 : decode cX12_judge 4 = .ok (.ireturn, 1) := by decide +kernel
set_option maxRecDepth 20000 in
theorem ggX12_fits_X12_isStreet : GoodIn wsX12_fits wsX12_isStreet := goodIn_r _ [6, 7, 8, 9, 5, 10, 72, 73, 74, 75, 76, 77, 78, 79, 80, 81, 82, 83, 84, 85, 86, 87, 88, 89, 90, 91, 92, 93, 94, 95, 96, 97, 98, 99, 100, 101, 102, 103, 104, 105, 106, 107, 108, 109, 110, 111, 112, 113, 114, 115] (by decide +kernel) (by decide +kernel)
set_option maxRecDepth 20000 in
theorem gX12_fits_X12_isStreet : GoodIn wsX12_fits (wsV RX12 222 RX12 yX12_isStreet wsX12_isStreet) := goodIn_app (goodIn_of _ (by decide +kernel)) ggX12_fits_X12_isStreet
set_option maxRecDepth 20000 in
theorem ggX12_fits_X12_in : GoodIn wsX12_fits wsX12_in := goodIn_r _ [10] (by decide +kernel) (by decide +kernel)
set_option maxRecDepth 20000 in
theorem gX12_fits_X12_in : GoodIn wsX12_fits (va_wsS RX12 93 yX12_in wsX12_in) := goodIn_app (goodIn_of _ (by decide +kernel)) ggX12_fits_X12_in
set_option maxRecDepth 20000 in
theorem ggX12_fits_X12_judged : GoodIn wsX12_fits wsX12_judged := goodIn_r _ [14, 15, 16, 17, 18, 19, 20, 5, 21, 22, 23, 24, 25, 26, 27, 28, 29, 30, 31, 32, 33, 34, 35, 1, 36, 37, 38, 39, 40, 41, 42, 43, 44, 45, 46, 47, 48, 49, 50, 51, 52, 53, 54, 55, 56, 57, 58, 59, 60, 61, 62, 63, 64, 65, 66, 67, 68, 69, 70, 71, 7, 72, 73, 74, 75, 76, 77, 78, 79, 80, 81, 82, 83, 84, 85, 86, 87, 88, 89, 90, 91, 92, 93, 94, 95, 96, 97, 98, 99, 100, 101, 102, 103, 104, 105, 106, 107, 108, 109, 110, 111, 112, 113, 114, 115] (by decide +kernel) (by decide +kernel)
set_option maxRecDepth 20000 in
theorem gX12_fits_X12_judged : GoodIn wsX12_fits (wsV RX12 286 RX12 yX12_judged wsX12_judged) := goodIn_app (goodIn_of _ (by decide +kernel)) ggX12_fits_X12_judged
theorem dX12_fits_0 : decode cX12_fits 0 = .ok (.aload_n 0, 1) := by decide +kernel
theorem dX12_fits_1 : decode cX12_fits 1 = .ok (.iload_n 1, 1) := by decide +kernel
theorem dX12_fits_2 : decode cX12_fits 2 = .ok (.invokevirtual 222, 3) := by decide +kernel
theorem dX12_fits_5 : decode cX12_fits 5 = .ok (.ifCond .ne 6, 3) := by decide +kernel
theorem dX12_fits_8 : decode cX12_fits 8 = .ok (.bipush (-2), 2) := by decide +kernel
theorem dX12_fits_10 : decode cX12_fits 10 = .ok (.ireturn, 1) := by decide +kernel
theorem dX12_fits_11 : decode cX12_fits 11 = .ok (.iload_n 2, 1) := by decide +kernel
theorem dX12_fits_12 : decode cX12_fits 12 = .ok (.iconst 0, 1) := by decide +kernel
theorem dX12_fits_13 : decode cX12_fits 13 = .ok (.iconst 2, 1) := by decide +kernel
theorem dX12_fits_14 : decode cX12_fits 14 = .ok (.invokestatic 93, 3) := by decide +kernel
theorem dX12_fits_17 : decode cX12_fits 17 = .ok (.ifCond .ne 6, 3) := by decide +kernel
theorem dX12_fits_20 : decode cX12_fits 20 = .ok (.bipush (-3), 2) := by decide +kernel
theorem dX12_fits_22 : decode cX12_fits 22 = .ok (.ireturn, 1) := by decide +kernel
theorem dX12_fits_23 : decode cX12_fits 23 = .ok (.aload_n 0, 1) := by decide +kernel
theorem dX12_fits_24 : decode cX12_fits 24 = .ok (.getfield 20, 3) := by decide +kernel
theorem dX12_fits_27 : decode cX12_fits 27 = .ok (.iload_n 1, 1) := by decide +kernel
theorem dX12_fits_28 : decode cX12_fits 28 = .ok (.iaload, 1) := by decide +kernel
theorem dX12_fits_29 : decode cX12_fits 29 = .ok (.istore_n 3, 1) := by decide +kernel
theorem dX12_fits_30 : decode cX12_fits 30 = .ok (.iconst 0, 1) := by decide +kernel
theorem dX12_fits_31 : decode cX12_fits 31 = .ok (.istore 4, 2) := by decide +kernel
theorem dX12_fits_33 : decode cX12_fits 33 = .ok (.iconst (-1), 1) := by decide +kernel
theorem dX12_fits_34 : decode cX12_fits 34 = .ok (.istore 5, 2) := by decide +kernel
theorem dX12_fits_36 : decode cX12_fits 36 = .ok (.iconst (-1), 1) := by decide +kernel
theorem dX12_fits_37 : decode cX12_fits 37 = .ok (.istore 6, 2) := by decide +kernel
theorem dX12_fits_39 : decode cX12_fits 39 = .ok (.iconst 1, 1) := by decide +kernel
theorem dX12_fits_40 : decode cX12_fits 40 = .ok (.istore 7, 2) := by decide +kernel
theorem dX12_fits_42 : decode cX12_fits 42 = .ok (.iload 7, 2) := by decide +kernel
theorem dX12_fits_44 : decode cX12_fits 44 = .ok (.bipush 100, 2) := by decide +kernel
theorem dX12_fits_46 : decode cX12_fits 46 = .ok (.if_icmp .ge 47, 3) := by decide +kernel
theorem dX12_fits_49 : decode cX12_fits 49 = .ok (.aload_n 0, 1) := by decide +kernel
theorem dX12_fits_50 : decode cX12_fits 50 = .ok (.getfield 20, 3) := by decide +kernel
theorem dX12_fits_53 : decode cX12_fits 53 = .ok (.iload_n 1, 1) := by decide +kernel
theorem dX12_fits_54 : decode cX12_fits 54 = .ok (.iload 7, 2) := by decide +kernel
theorem dX12_fits_56 : decode cX12_fits 56 = .ok (.iastore, 1) := by decide +kernel
theorem dX12_fits_57 : decode cX12_fits 57 = .ok (.aload_n 0, 1) := by decide +kernel
theorem dX12_fits_58 : decode cX12_fits 58 = .ok (.invokevirtual 286, 3) := by decide +kernel
theorem dX12_fits_61 : decode cX12_fits 61 = .ok (.iconst (-1), 1) := by decide +kernel
theorem dX12_fits_62 : decode cX12_fits 62 = .ok (.if_icmp .ne 25, 3) := by decide +kernel
theorem dX12_fits_65 : decode cX12_fits 65 = .ok (.iinc 4 1, 3) := by decide +kernel
theorem dX12_fits_68 : decode cX12_fits 68 = .ok (.iload 5, 2) := by decide +kernel
theorem dX12_fits_70 : decode cX12_fits 70 = .ok (.iconst (-1), 1) := by decide +kernel
theorem dX12_fits_71 : decode cX12_fits 71 = .ok (.if_icmp .ne 8, 3) := by decide +kernel
theorem dX12_fits_74 : decode cX12_fits 74 = .ok (.iload 7, 2) := by decide +kernel
theorem dX12_fits_76 : decode cX12_fits 76 = .ok (.goto 5, 3) := by decide +kernel
theorem dX12_fits_79 : decode cX12_fits 79 = .ok (.iload 5, 2) := by decide +kernel
theorem dX12_fits_81 : decode cX12_fits 81 = .ok (.istore 5, 2) := by decide +kernel
theorem dX12_fits_83 : decode cX12_fits 83 = .ok (.iload 7, 2) := by decide +kernel
theorem dX12_fits_85 : decode cX12_fits 85 = .ok (.istore 6, 2) := by decide +kernel
theorem dX12_fits_87 : decode cX12_fits 87 = .ok (.iinc 7 1, 3) := by decide +kernel
theorem dX12_fits_90 : decode cX12_fits 90 = .ok (.goto (-48), 3) := by decide +kernel
theorem dX12_fits_93 : decode cX12_fits 93 = .ok (.aload_n 0, 1) := by decide +kernel
theorem dX12_fits_94 : decode cX12_fits 94 = .ok (.getfield 20, 3) := by decide +kernel
theorem dX12_fits_97 : decode cX12_fits 97 = .ok (.iload_n 1, 1) := by decide +kernel
theorem dX12_fits_98 : decode cX12_fits 98 = .ok (.iload_n 3, 1) := by decide +kernel
theorem dX12_fits_99 : decode cX12_fits 99 = .ok (.iastore, 1) := by decide +kernel
theorem dX12_fits_100 : decode cX12_fits 100 = .ok (.iload_n 2, 1) := by decide +kernel
theorem dX12_fits_101 : decode cX12_fits 101 = .ok (.ifCond .ne 8, 3) := by decide +kernel
theorem dX12_fits_104 : decode cX12_fits 104 = .ok (.iload 4, 2) := by decide +kernel
theorem dX12_fits_106 : decode cX12_fits 106 = .ok (.goto 15, 3) := by decide +kernel
theorem dX12_fits_109 : decode cX12_fits 109 = .ok (.iload_n 2, 1) := by decide +kernel
theorem dX12_fits_110 : decode cX12_fits 110 = .ok (.iconst 1, 1) := by decide +kernel
theorem dX12_fits_111 : decode cX12_fits 111 = .ok (.if_icmp .ne 8, 3) := by decide +kernel
theorem dX12_fits_114 : decode cX12_fits 114 = .ok (.iload 5, 2) := by decide +kernel
theorem dX12_fits_116 : decode cX12_fits 116 = .ok (.goto 5, 3) := by decide +kernel
theorem dX12_fits_119 : decode cX12_fits 119 = .ok (.iload 6, 2) := by decide +kernel
theorem dX12_fits_121 : decode cX12_fits 121 = .ok (.ireturn, 1) := by decide +kernel
set_option maxRecDepth 20000 in
theorem ggX12_count_X12_market : GoodIn wsX12_count wsX12_market := goodIn_r _ [15, 16, 8, 17, 22, 23, 24, 25, 26, 27, 28, 29, 30, 31, 32, 33, 34, 35, 36, 37, 38, 39, 40, 41, 42, 43, 44, 45, 46, 47, 48, 49, 50, 51, 52, 53, 54, 55, 56, 57, 58, 59, 60, 61, 62, 63, 64, 65] (by decide +kernel) (by decide +kernel)
set_option maxRecDepth 20000 in
theorem gX12_count_X12_market : GoodIn wsX12_count (wsV RX12 237 RX12 yX12_market wsX12_market) := goodIn_app (goodIn_of _ (by decide +kernel)) ggX12_count_X12_market
set_option maxRecDepth 20000 in
theorem ggX12_count_X12_quay : GoodIn wsX12_count wsX12_quay := goodIn_r _ [21, 16, 8, 17, 22, 23, 24, 25, 26, 27, 28, 29, 30, 31, 32, 33, 34, 35, 36, 37, 38, 39, 40, 41, 42, 43, 44, 45, 46, 47, 48, 49, 50, 51, 52, 53, 54, 55, 56, 57, 58, 59, 60, 61, 62, 63, 64, 65] (by decide +kernel) (by decide +kernel)
set_option maxRecDepth 20000 in
theorem gX12_count_X12_quay : GoodIn wsX12_count (wsV RX12 225 RX12 yX12_quay wsX12_quay) := goodIn_app (goodIn_of _ (by decide +kernel)) ggX12_count_X12_quay
theorem dX12_count_0 : decode cX12_count 0 = .ok (.iconst 0, 1) := by decide +kernel
theorem dX12_count_1 : decode cX12_count 1 = .ok (.istore_n 2, 1) := by decide +kernel
theorem dX12_count_2 : decode cX12_count 2 = .ok (.iconst 0, 1) := by decide +kernel
theorem dX12_count_3 : decode cX12_count 3 = .ok (.istore_n 3, 1) := by decide +kernel
theorem dX12_count_4 : decode cX12_count 4 = .ok (.iload_n 3, 1) := by decide +kernel
theorem dX12_count_5 : decode cX12_count 5 = .ok (.aload_n 0, 1) := by decide +kernel
theorem dX12_count_6 : decode cX12_count 6 = .ok (.getfield 90, 3) := by decide +kernel
theorem dX12_count_9 : decode cX12_count 9 = .ok (.if_icmp .ge 28, 3) := by decide +kernel
theorem dX12_count_12 : decode cX12_count 12 = .ok (.iload_n 2, 1) := by decide +kernel
theorem dX12_count_13 : decode cX12_count 13 = .ok (.aload_n 0, 1) := by decide +kernel
theorem dX12_count_14 : decode cX12_count 14 = .ok (.getfield 44, 3) := by decide +kernel
theorem dX12_count_17 : decode cX12_count 17 = .ok (.iload_n 3, 1) := by decide +kernel
theorem dX12_count_18 : decode cX12_count 18 = .ok (.iaload, 1) := by decide +kernel
theorem dX12_count_19 : decode cX12_count 19 = .ok (.ifCond .le 9, 3) := by decide +kernel
theorem dX12_count_22 : decode cX12_count 22 = .ok (.iconst 1, 1) := by decide +kernel
theorem dX12_count_23 : decode cX12_count 23 = .ok (.iload_n 3, 1) := by decide +kernel
theorem dX12_count_24 : decode cX12_count 24 = .ok (.ishl, 1) := by decide +kernel
theorem dX12_count_25 : decode cX12_count 25 = .ok (.goto 4, 3) := by decide +kernel
theorem dX12_count_28 : decode cX12_count 28 = .ok (.iconst 0, 1) := by decide +kernel
theorem dX12_count_29 : decode cX12_count 29 = .ok (.ior, 1) := by decide +kernel
theorem dX12_count_30 : decode cX12_count 30 = .ok (.istore_n 2, 1) := by decide +kernel
theorem dX12_count_31 : decode cX12_count 31 = .ok (.iinc 3 1, 3) := by decide +kernel
theorem dX12_count_34 : decode cX12_count 34 = .ok (.goto (-30), 3) := by decide +kernel
theorem dX12_count_37 : decode cX12_count 37 = .ok (.iload_n 1, 1) := by decide +kernel
theorem dX12_count_38 : decode cX12_count 38 = .ok (.tableswitch 119 0 11 #[62, 67, 72, 77, 82, 87, 92, 97, 102, 104, 109, 114], 62) := by decide +kernel
theorem dX12_count_100 : decode cX12_count 100 = .ok (.aload_n 0, 1) := by decide +kernel
theorem dX12_count_101 : decode cX12_count 101 = .ok (.getfield 7, 3) := by decide +kernel
theorem dX12_count_104 : decode cX12_count 104 = .ok (.ireturn, 1) := by decide +kernel
theorem dX12_count_105 : decode cX12_count 105 = .ok (.aload_n 0, 1) := by decide +kernel
theorem dX12_count_106 : decode cX12_count 106 = .ok (.getfield 90, 3) := by decide +kernel
theorem dX12_count_109 : decode cX12_count 109 = .ok (.ireturn, 1) := by decide +kernel
theorem dX12_count_110 : decode cX12_count 110 = .ok (.aload_n 0, 1) := by decide +kernel
theorem dX12_count_111 : decode cX12_count 111 = .ok (.getfield 107, 3) := by decide +kernel
theorem dX12_count_114 : decode cX12_count 114 = .ok (.ireturn, 1) := by decide +kernel
theorem dX12_count_115 : decode cX12_count 115 = .ok (.aload_n 0, 1) := by decide +kernel
theorem dX12_count_116 : decode cX12_count 116 = .ok (.getfield 104, 3) := by decide +kernel
theorem dX12_count_119 : decode cX12_count 119 = .ok (.ireturn, 1) := by decide +kernel
theorem dX12_count_120 : decode cX12_count 120 = .ok (.aload_n 0, 1) := by decide +kernel
theorem dX12_count_121 : decode cX12_count 121 = .ok (.getfield 29, 3) := by decide +kernel
theorem dX12_count_124 : decode cX12_count 124 = .ok (.ireturn, 1) := by decide +kernel
theorem dX12_count_125 : decode cX12_count 125 = .ok (.aload_n 0, 1) := by decide +kernel
theorem dX12_count_126 : decode cX12_count 126 = .ok (.getfield 35, 3) := by decide +kernel
theorem dX12_count_129 : decode cX12_count 129 = .ok (.ireturn, 1) := by decide +kernel
theorem dX12_count_130 : decode cX12_count 130 = .ok (.aload_n 0, 1) := by decide +kernel
theorem dX12_count_131 : decode cX12_count 131 = .ok (.getfield 213, 3) := by decide +kernel
theorem dX12_count_134 : decode cX12_count 134 = .ok (.ireturn, 1) := by decide +kernel
theorem dX12_count_135 : decode cX12_count 135 = .ok (.aload_n 0, 1) := by decide +kernel
theorem dX12_count_136 : decode cX12_count 136 = .ok (.getfield 219, 3) := by decide +kernel
theorem dX12_count_139 : decode cX12_count 139 = .ok (.ireturn, 1) := by decide +kernel
theorem dX12_count_140 : decode cX12_count 140 = .ok (.iload_n 2, 1) := by decide +kernel
theorem dX12_count_141 : decode cX12_count 141 = .ok (.ireturn, 1) := by decide +kernel
theorem dX12_count_142 : decode cX12_count 142 = .ok (.aload_n 0, 1) := by decide +kernel
theorem dX12_count_143 : decode cX12_count 143 = .ok (.invokevirtual 237, 3) := by decide +kernel
theorem dX12_count_146 : decode cX12_count 146 = .ok (.ireturn, 1) := by decide +kernel
theorem dX12_count_147 : decode cX12_count 147 = .ok (.aload_n 0, 1) := by decide +kernel
theorem dX12_count_148 : decode cX12_count 148 = .ok (.invokevirtual 225, 3) := by decide +kernel
theorem dX12_count_151 : decode cX12_count 151 = .ok (.ireturn, 1) := by decide +kernel
theorem dX12_count_152 : decode cX12_count 152 = .ok (.aload_n 0, 1) := by decide +kernel
