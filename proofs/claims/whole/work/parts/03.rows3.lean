set_option maxRecDepth 20000 in
theorem ggX11_fits_X7_has : GoodIn wsX11_fits wsX7_has := goodIn_r _ [9, 10, 195, 196, 197, 198, 199] (by decide +kernel) (by decide +kernel)
set_option maxRecDepth 20000 in
theorem gX11_fits_X7_has : GoodIn wsX11_fits (wsV RX11 119 RX7 yX7_has wsX7_has) := goodIn_app (goodIn_of _ (by decide +kernel)) ggX11_fits_X7_has
set_option maxRecDepth 20000 in
theorem ggX11_fits_X11_isOutside : GoodIn wsX11_fits wsX11_isOutside := goodIn_r _ [14] (by decide +kernel) (by decide +kernel)
set_option maxRecDepth 20000 in
theorem gX11_fits_X11_isOutside : GoodIn wsX11_fits (va_wsS RX11 90 yX11_isOutside wsX11_isOutside) := goodIn_app (goodIn_of _ (by decide +kernel)) ggX11_fits_X11_isOutside
set_option maxRecDepth 20000 in
theorem ggX11_fits_X6_copyFrom : GoodIn wsX11_fits wsX6_copyFrom := goodIn_r _ [19, 20, 21, 22, 23, 24, 25, 26, 27, 28, 29, 30, 31, 32, 33, 8, 34, 10, 35, 36, 37, 38, 39, 40, 41, 42, 184, 185, 186, 187, 188, 189, 190, 191, 192, 193, 194, 195, 196, 197, 198, 199] (by decide +kernel) (by decide +kernel)
set_option maxRecDepth 20000 in
theorem gX11_fits_X6_copyFrom : GoodIn wsX11_fits (wsV RX11 101 RX6 yX6_copyFrom wsX6_copyFrom) := goodIn_app (goodIn_of _ (by decide +kernel)) ggX11_fits_X6_copyFrom
set_option maxRecDepth 20000 in
theorem ggX11_fits_X11_firstWrongNight : GoodIn wsX11_fits wsX11_firstWrongNight := goodIn_r _ [46, 47, 48, 49, 50, 51, 52, 53, 54, 55, 56, 57, 58, 59, 60, 61, 62, 63, 13, 64, 65, 2, 66, 67, 68, 69, 70, 71, 72, 73, 74, 75, 18, 76, 23, 26, 77, 78, 79, 80, 25, 81, 82, 83, 84, 24, 27, 85, 86, 87, 88, 89, 90, 91, 92, 93, 94, 95, 96, 97, 98, 99, 100, 101, 102, 103, 104, 105, 106, 107, 108, 109, 110, 111, 112, 113, 114, 115, 116, 117, 118, 119, 120, 121, 122, 123, 124, 125, 126, 127, 128, 129, 130, 131, 132, 133, 134, 135, 136, 137, 138, 139, 140, 141, 142, 143, 144, 145, 146, 147, 148, 149, 150, 151, 152, 153, 154, 155, 156, 157, 158, 159, 160, 161, 162, 163, 164, 165, 166, 167, 168, 169, 170, 171, 172, 173, 174, 175, 176, 177, 178, 179, 180, 181, 182, 183, 200, 201, 184, 185, 186, 187, 188, 189, 190, 191, 192, 193, 194, 202, 203, 204, 205, 206, 195, 196, 197, 198, 199] (by decide +kernel) (by decide +kernel)
set_option maxRecDepth 20000 in
theorem gX11_fits_X11_firstWrongNight : GoodIn wsX11_fits (wsV RX11 239 RX11 yX11_firstWrongNight wsX11_firstWrongNight) := goodIn_app (goodIn_of _ (by decide +kernel)) ggX11_fits_X11_firstWrongNight
theorem dX11_fits_0 : decode cX11_fits 0 = .ok (.aload_n 0, 1) := by decide +kernel
theorem dX11_fits_1 : decode cX11_fits 1 = .ok (.getfield 19, 3) := by decide +kernel
theorem dX11_fits_4 : decode cX11_fits 4 = .ok (.getfield 115, 3) := by decide +kernel
theorem dX11_fits_7 : decode cX11_fits 7 = .ok (.iload_n 1, 1) := by decide +kernel
theorem dX11_fits_8 : decode cX11_fits 8 = .ok (.invokevirtual 119, 3) := by decide +kernel
theorem dX11_fits_11 : decode cX11_fits 11 = .ok (.ifCond .ne 6, 3) := by decide +kernel
theorem dX11_fits_14 : decode cX11_fits 14 = .ok (.bipush (-2), 2) := by decide +kernel
theorem dX11_fits_16 : decode cX11_fits 16 = .ok (.ireturn, 1) := by decide +kernel
theorem dX11_fits_17 : decode cX11_fits 17 = .ok (.iload_n 2, 1) := by decide +kernel
theorem dX11_fits_18 : decode cX11_fits 18 = .ok (.iconst 0, 1) := by decide +kernel
theorem dX11_fits_19 : decode cX11_fits 19 = .ok (.iconst 2, 1) := by decide +kernel
theorem dX11_fits_20 : decode cX11_fits 20 = .ok (.invokestatic 90, 3) := by decide +kernel
theorem dX11_fits_23 : decode cX11_fits 23 = .ok (.ifCond .eq 6, 3) := by decide +kernel
theorem dX11_fits_26 : decode cX11_fits 26 = .ok (.bipush (-3), 2) := by decide +kernel
theorem dX11_fits_28 : decode cX11_fits 28 = .ok (.ireturn, 1) := by decide +kernel
theorem dX11_fits_29 : decode cX11_fits 29 = .ok (.aload_n 0, 1) := by decide +kernel
theorem dX11_fits_30 : decode cX11_fits 30 = .ok (.getfield 23, 3) := by decide +kernel
theorem dX11_fits_33 : decode cX11_fits 33 = .ok (.aload_n 0, 1) := by decide +kernel
theorem dX11_fits_34 : decode cX11_fits 34 = .ok (.getfield 19, 3) := by decide +kernel
theorem dX11_fits_37 : decode cX11_fits 37 = .ok (.invokevirtual 101, 3) := by decide +kernel
theorem dX11_fits_40 : decode cX11_fits 40 = .ok (.iconst 0, 1) := by decide +kernel
theorem dX11_fits_41 : decode cX11_fits 41 = .ok (.istore_n 3, 1) := by decide +kernel
theorem dX11_fits_42 : decode cX11_fits 42 = .ok (.iconst (-1), 1) := by decide +kernel
theorem dX11_fits_43 : decode cX11_fits 43 = .ok (.istore 4, 2) := by decide +kernel
theorem dX11_fits_45 : decode cX11_fits 45 = .ok (.iconst (-1), 1) := by decide +kernel
theorem dX11_fits_46 : decode cX11_fits 46 = .ok (.istore 5, 2) := by decide +kernel
theorem dX11_fits_48 : decode cX11_fits 48 = .ok (.iconst 1, 1) := by decide +kernel
theorem dX11_fits_49 : decode cX11_fits 49 = .ok (.istore 6, 2) := by decide +kernel
theorem dX11_fits_51 : decode cX11_fits 51 = .ok (.iload 6, 2) := by decide +kernel
theorem dX11_fits_53 : decode cX11_fits 53 = .ok (.bipush 99, 2) := by decide +kernel
theorem dX11_fits_55 : decode cX11_fits 55 = .ok (.if_icmp .gt 57, 3) := by decide +kernel
theorem dX11_fits_58 : decode cX11_fits 58 = .ok (.aload_n 0, 1) := by decide +kernel
theorem dX11_fits_59 : decode cX11_fits 59 = .ok (.getfield 23, 3) := by decide +kernel
theorem dX11_fits_62 : decode cX11_fits 62 = .ok (.getfield 115, 3) := by decide +kernel
theorem dX11_fits_65 : decode cX11_fits 65 = .ok (.getfield 242, 3) := by decide +kernel
theorem dX11_fits_68 : decode cX11_fits 68 = .ok (.iload_n 1, 1) := by decide +kernel
theorem dX11_fits_69 : decode cX11_fits 69 = .ok (.iload 6, 2) := by decide +kernel
theorem dX11_fits_71 : decode cX11_fits 71 = .ok (.iastore, 1) := by decide +kernel
theorem dX11_fits_72 : decode cX11_fits 72 = .ok (.aload_n 0, 1) := by decide +kernel
theorem dX11_fits_73 : decode cX11_fits 73 = .ok (.aload_n 0, 1) := by decide +kernel
theorem dX11_fits_74 : decode cX11_fits 74 = .ok (.getfield 23, 3) := by decide +kernel
theorem dX11_fits_77 : decode cX11_fits 77 = .ok (.invokevirtual 239, 3) := by decide +kernel
theorem dX11_fits_80 : decode cX11_fits 80 = .ok (.iconst (-1), 1) := by decide +kernel
theorem dX11_fits_81 : decode cX11_fits 81 = .ok (.if_icmp .ne 25, 3) := by decide +kernel
theorem dX11_fits_84 : decode cX11_fits 84 = .ok (.iinc 3 1, 3) := by decide +kernel
theorem dX11_fits_87 : decode cX11_fits 87 = .ok (.iload 4, 2) := by decide +kernel
theorem dX11_fits_89 : decode cX11_fits 89 = .ok (.iconst (-1), 1) := by decide +kernel
theorem dX11_fits_90 : decode cX11_fits 90 = .ok (.if_icmp .ne 8, 3) := by decide +kernel
theorem dX11_fits_93 : decode cX11_fits 93 = .ok (.iload 6, 2) := by decide +kernel
theorem dX11_fits_95 : decode cX11_fits 95 = .ok (.goto 5, 3) := by decide +kernel
theorem dX11_fits_98 : decode cX11_fits 98 = .ok (.iload 4, 2) := by decide +kernel
theorem dX11_fits_100 : decode cX11_fits 100 = .ok (.istore 4, 2) := by decide +kernel
theorem dX11_fits_102 : decode cX11_fits 102 = .ok (.iload 6, 2) := by decide +kernel
theorem dX11_fits_104 : decode cX11_fits 104 = .ok (.istore 5, 2) := by decide +kernel
theorem dX11_fits_106 : decode cX11_fits 106 = .ok (.iinc 6 1, 3) := by decide +kernel
theorem dX11_fits_109 : decode cX11_fits 109 = .ok (.goto (-58), 3) := by decide +kernel
theorem dX11_fits_112 : decode cX11_fits 112 = .ok (.iload_n 2, 1) := by decide +kernel
theorem dX11_fits_113 : decode cX11_fits 113 = .ok (.ifCond .ne 5, 3) := by decide +kernel
theorem dX11_fits_116 : decode cX11_fits 116 = .ok (.iload_n 3, 1) := by decide +kernel
theorem dX11_fits_117 : decode cX11_fits 117 = .ok (.ireturn, 1) := by decide +kernel
theorem dX11_fits_118 : decode cX11_fits 118 = .ok (.iload_n 2, 1) := by decide +kernel
theorem dX11_fits_119 : decode cX11_fits 119 = .ok (.iconst 1, 1) := by decide +kernel
theorem dX11_fits_120 : decode cX11_fits 120 = .ok (.if_icmp .ne 8, 3) := by decide +kernel
theorem dX11_fits_123 : decode cX11_fits 123 = .ok (.iload 4, 2) := by decide +kernel
theorem dX11_fits_125 : decode cX11_fits 125 = .ok (.goto 5, 3) := by decide +kernel
theorem dX11_fits_128 : decode cX11_fits 128 = .ok (.iload 5, 2) := by decide +kernel
theorem dX11_fits_130 : decode cX11_fits 130 = .ok (.ireturn, 1) := by decide +kernel
set_option maxRecDepth 20000 in
theorem ggX11_count_X1_shutSet : GoodIn wsX11_count wsX1_shutSet := goodIn_r _ [18, 19, 68, 69] (by decide +kernel) (by decide +kernel)
set_option maxRecDepth 20000 in
theorem gX11_count_X1_shutSet : GoodIn wsX11_count (wsV RX11 175 RX1 yX1_shutSet wsX1_shutSet) := goodIn_app (goodIn_of _ (by decide +kernel)) ggX11_count_X1_shutSet
set_option maxRecDepth 20000 in
theorem ggX11_count_X6_marketOf : GoodIn wsX11_count wsX6_marketOf := goodIn_r _ [24, 25, 26, 27, 28, 29, 23, 30, 31, 52, 53, 54, 55, 56, 57, 58, 59, 60, 61, 62] (by decide +kernel) (by decide +kernel)
set_option maxRecDepth 20000 in
theorem gX11_count_X6_marketOf : GoodIn wsX11_count (wsV RX11 194 RX6 yX6_marketOf wsX6_marketOf) := goodIn_app (goodIn_of _ (by decide +kernel)) ggX11_count_X6_marketOf
set_option maxRecDepth 20000 in
theorem ggX11_count_X6_quayOf : GoodIn wsX11_count wsX6_quayOf := goodIn_r _ [35, 36, 37, 27, 28, 29, 23, 30, 31, 52, 53, 54, 55, 56, 57, 58, 59, 60, 61, 62] (by decide +kernel) (by decide +kernel)
set_option maxRecDepth 20000 in
theorem gX11_count_X6_quayOf : GoodIn wsX11_count (wsV RX11 197 RX6 yX6_quayOf wsX6_quayOf) := goodIn_app (goodIn_of _ (by decide +kernel)) ggX11_count_X6_quayOf
theorem dX11_count_0 : decode cX11_count 0 = .ok (.iload_n 1, 1) := by decide +kernel
theorem dX11_count_1 : decode cX11_count 1 = .ok (.tableswitch 176 0 11 #[63, 71, 82, 93, 101, 109, 117, 125, 130, 138, 153, 168], 63) := by decide +kernel
theorem dX11_count_64 : decode cX11_count 64 = .ok (.aload_n 0, 1) := by decide +kernel
theorem dX11_count_65 : decode cX11_count 65 = .ok (.getfield 19, 3) := by decide +kernel
theorem dX11_count_68 : decode cX11_count 68 = .ok (.getfield 200, 3) := by decide +kernel
theorem dX11_count_71 : decode cX11_count 71 = .ok (.ireturn, 1) := by decide +kernel
theorem dX11_count_72 : decode cX11_count 72 = .ok (.aload_n 0, 1) := by decide +kernel
theorem dX11_count_73 : decode cX11_count 73 = .ok (.getfield 19, 3) := by decide +kernel
theorem dX11_count_76 : decode cX11_count 76 = .ok (.getfield 115, 3) := by decide +kernel
theorem dX11_count_79 : decode cX11_count 79 = .ok (.getfield 223, 3) := by decide +kernel
theorem dX11_count_82 : decode cX11_count 82 = .ok (.ireturn, 1) := by decide +kernel
theorem dX11_count_83 : decode cX11_count 83 = .ok (.aload_n 0, 1) := by decide +kernel
theorem dX11_count_84 : decode cX11_count 84 = .ok (.getfield 19, 3) := by decide +kernel
theorem dX11_count_87 : decode cX11_count 87 = .ok (.getfield 132, 3) := by decide +kernel
theorem dX11_count_90 : decode cX11_count 90 = .ok (.getfield 223, 3) := by decide +kernel
theorem dX11_count_93 : decode cX11_count 93 = .ok (.ireturn, 1) := by decide +kernel
theorem dX11_count_94 : decode cX11_count 94 = .ok (.aload_n 0, 1) := by decide +kernel
theorem dX11_count_95 : decode cX11_count 95 = .ok (.getfield 19, 3) := by decide +kernel
theorem dX11_count_98 : decode cX11_count 98 = .ok (.getfield 244, 3) := by decide +kernel
theorem dX11_count_101 : decode cX11_count 101 = .ok (.ireturn, 1) := by decide +kernel
theorem dX11_count_102 : decode cX11_count 102 = .ok (.aload_n 0, 1) := by decide +kernel
theorem dX11_count_103 : decode cX11_count 103 = .ok (.getfield 19, 3) := by decide +kernel
theorem dX11_count_106 : decode cX11_count 106 = .ok (.getfield 247, 3) := by decide +kernel
theorem dX11_count_109 : decode cX11_count 109 = .ok (.ireturn, 1) := by decide +kernel
theorem dX11_count_110 : decode cX11_count 110 = .ok (.aload_n 0, 1) := by decide +kernel
theorem dX11_count_111 : decode cX11_count 111 = .ok (.getfield 19, 3) := by decide +kernel
theorem dX11_count_114 : decode cX11_count 114 = .ok (.getfield 250, 3) := by decide +kernel
theorem dX11_count_117 : decode cX11_count 117 = .ok (.ireturn, 1) := by decide +kernel
theorem dX11_count_118 : decode cX11_count 118 = .ok (.aload_n 0, 1) := by decide +kernel
theorem dX11_count_119 : decode cX11_count 119 = .ok (.getfield 29, 3) := by decide +kernel
theorem dX11_count_122 : decode cX11_count 122 = .ok (.getfield 163, 3) := by decide +kernel
theorem dX11_count_125 : decode cX11_count 125 = .ok (.ireturn, 1) := by decide +kernel
theorem dX11_count_126 : decode cX11_count 126 = .ok (.aload_n 0, 1) := by decide +kernel
theorem dX11_count_127 : decode cX11_count 127 = .ok (.getfield 76, 3) := by decide +kernel
theorem dX11_count_130 : decode cX11_count 130 = .ok (.ireturn, 1) := by decide +kernel
theorem dX11_count_131 : decode cX11_count 131 = .ok (.aload_n 0, 1) := by decide +kernel
theorem dX11_count_132 : decode cX11_count 132 = .ok (.getfield 29, 3) := by decide +kernel
theorem dX11_count_135 : decode cX11_count 135 = .ok (.invokevirtual 175, 3) := by decide +kernel
theorem dX11_count_138 : decode cX11_count 138 = .ok (.ireturn, 1) := by decide +kernel
theorem dX11_count_139 : decode cX11_count 139 = .ok (.aload_n 0, 1) := by decide +kernel
theorem dX11_count_140 : decode cX11_count 140 = .ok (.getfield 19, 3) := by decide +kernel
theorem dX11_count_143 : decode cX11_count 143 = .ok (.aload_n 0, 1) := by decide +kernel
theorem dX11_count_144 : decode cX11_count 144 = .ok (.getfield 29, 3) := by decide +kernel
theorem dX11_count_147 : decode cX11_count 147 = .ok (.getfield 163, 3) := by decide +kernel
theorem dX11_count_150 : decode cX11_count 150 = .ok (.invokevirtual 194, 3) := by decide +kernel
theorem dX11_count_153 : decode cX11_count 153 = .ok (.ireturn, 1) := by decide +kernel
theorem dX11_count_154 : decode cX11_count 154 = .ok (.aload_n 0, 1) := by decide +kernel
theorem dX11_count_155 : decode cX11_count 155 = .ok (.getfield 19, 3) := by decide +kernel
theorem dX11_count_158 : decode cX11_count 158 = .ok (.aload_n 0, 1) := by decide +kernel
theorem dX11_count_159 : decode cX11_count 159 = .ok (.getfield 29, 3) := by decide +kernel
theorem dX11_count_162 : decode cX11_count 162 = .ok (.getfield 163, 3) := by decide +kernel
theorem dX11_count_165 : decode cX11_count 165 = .ok (.invokevirtual 197, 3) := by decide +kernel
theorem dX11_count_168 : decode cX11_count 168 = .ok (.ireturn, 1) := by decide +kernel
theorem dX11_count_169 : decode cX11_count 169 = .ok (.aload_n 0, 1) := by decide +kernel
theorem dX11_count_170 : decode cX11_count 170 = .ok (.getfield 12, 3) := by decide +kernel
theorem dX11_count_173 : decode cX11_count 173 = .ok (.getfield 98, 3) := by decide +kernel
theorem dX11_count_176 : decode cX11_count 176 = .ok (.ireturn, 1) := by decide +kernel
theorem dX11_count_177 : decode cX11_count 177 = .ok (.bipush (-3), 2) := by decide +kernel
theorem dX11_count_179 : decode cX11_count 179 = .ok (.ireturn, 1) := by decide +kernel
theorem dX11_isOutside_0 : decode cX11_isOutside 0 = .ok (.iload_n 0, 1) := by decide +kernel
theorem dX11_isOutside_1 : decode cX11_isOutside 1 = .ok (.iload_n 1, 1) := by decide +kernel
theorem dX11_isOutside_2 : decode cX11_isOutside 2 = .ok (.if_icmp .lt 8, 3) := by decide +kernel
theorem dX11_isOutside_5 : decode cX11_isOutside 5 = .ok (.iload_n 0, 1) := by decide +kernel
theorem dX11_isOutside_6 : decode cX11_isOutside 6 = .ok (.iload_n 2, 1) := by decide +kernel
theorem dX11_isOutside_7 : decode cX11_isOutside 7 = .ok (.if_icmp .le 7, 3) := by decide +kernel
theorem dX11_isOutside_10 : decode cX11_isOutside 10 = .ok (.iconst 1, 1) := by decide +kernel
theorem dX11_isOutside_11 : decode cX11_isOutside 11 = .ok (.goto 4, 3) := by decide +kernel
theorem dX11_isOutside_14 : decode cX11_isOutside 14 = .ok (.iconst 0, 1) := by decide +kernel
theorem dX11_isOutside_15 : decode cX11_isOutside 15 = .ok (.ireturn, 1) := by decide +kernel
theorem dX11_councilOf_0 : decode cX11_councilOf 0 = .ok (.aload_n 1, 1) := by decide +kernel
theorem dX11_councilOf_1 : decode cX11_councilOf 1 = .ok (.getfield 244, 3) := by decide +kernel
theorem dX11_councilOf_4 : decode cX11_councilOf 4 = .ok (.ifCond .lt 19, 3) := by decide +kernel
theorem dX11_councilOf_7 : decode cX11_councilOf 7 = .ok (.aload_n 1, 1) := by decide +kernel
theorem dX11_councilOf_8 : decode cX11_councilOf 8 = .ok (.getfield 244, 3) := by decide +kernel
theorem dX11_councilOf_11 : decode cX11_councilOf 11 = .ok (.aload_n 0, 1) := by decide +kernel
theorem dX11_councilOf_12 : decode cX11_councilOf 12 = .ok (.getfield 68, 3) := by decide +kernel
theorem dX11_councilOf_15 : decode cX11_councilOf 15 = .ok (.arraylength, 1) := by decide +kernel
theorem dX11_councilOf_16 : decode cX11_councilOf 16 = .ok (.if_icmp .ge 7, 3) := by decide +kernel
theorem dX11_councilOf_19 : decode cX11_councilOf 19 = .ok (.iconst 1, 1) := by decide +kernel
theorem dX11_councilOf_20 : decode cX11_councilOf 20 = .ok (.goto 4, 3) := by decide +kernel
theorem dX11_councilOf_23 : decode cX11_councilOf 23 = .ok (.iconst 0, 1) := by decide +kernel
theorem dX11_councilOf_24 : decode cX11_councilOf 24 = .ok (.istore_n 2, 1) := by decide +kernel
theorem dX11_councilOf_25 : decode cX11_councilOf 25 = .ok (.aload_n 0, 1) := by decide +kernel
theorem dX11_councilOf_26 : decode cX11_councilOf 26 = .ok (.getfield 68, 3) := by decide +kernel
theorem dX11_councilOf_29 : decode cX11_councilOf 29 = .ok (.iload_n 2, 1) := by decide +kernel
theorem dX11_councilOf_30 : decode cX11_councilOf 30 = .ok (.ifCond .eq 10, 3) := by decide +kernel
theorem dX11_councilOf_33 : decode cX11_councilOf 33 = .ok (.aload_n 1, 1) := by decide +kernel
theorem dX11_councilOf_34 : decode cX11_councilOf 34 = .ok (.getfield 244, 3) := by decide +kernel
theorem dX11_councilOf_37 : decode cX11_councilOf 37 = .ok (.goto 4, 3) := by decide +kernel
theorem dX11_councilOf_40 : decode cX11_councilOf 40 = .ok (.iconst 0, 1) := by decide +kernel
theorem dX11_councilOf_41 : decode cX11_councilOf 41 = .ok (.aaload, 1) := by decide +kernel
theorem dX11_councilOf_42 : decode cX11_councilOf 42 = .ok (.areturn, 1) := by decide +kernel
set_option maxRecDepth 20000 in
theorem ggX11_findWay_X6_marketOf : GoodIn wsX11_findWay wsX6_marketOf := goodIn_r _ [9, 10, 11, 12, 13, 14, 8, 15, 16, 72, 73, 74, 75, 76, 77, 78, 79, 80, 81, 82] (by decide +kernel) (by decide +kernel)
set_option maxRecDepth 20000 in
theorem gX11_findWay_X6_marketOf : GoodIn wsX11_findWay (wsV RX11 194 RX6 yX6_marketOf wsX6_marketOf) := goodIn_app (goodIn_of _ (by decide +kernel)) ggX11_findWay_X6_marketOf
set_option maxRecDepth 20000 in
theorem ggX11_findWay_X6_quayOf : GoodIn wsX11_findWay wsX6_quayOf := goodIn_r _ [20, 21, 22, 12, 13, 14, 8, 15, 16, 72, 73, 74, 75, 76, 77, 78, 79, 80, 81, 82] (by decide +kernel) (by decide +kernel)
set_option maxRecDepth 20000 in
theorem gX11_findWay_X6_quayOf : GoodIn wsX11_findWay (wsV RX11 197 RX6 yX6_quayOf wsX6_quayOf) := goodIn_app (goodIn_of _ (by decide +kernel)) ggX11_findWay_X6_quayOf
set_option maxRecDepth 20000 in
theorem ggX11_findWay_X10_find : GoodIn wsX11_findWay wsX10_find := goodIn_r _ [27, 28, 29, 30, 31, 32, 33, 34, 35, 26, 36, 37, 38, 39, 40, 41, 42, 43, 44, 45, 46, 47, 48, 49, 50, 51, 52, 53, 54, 55, 56, 57, 85, 86, 87, 88, 89, 90, 91, 92, 93, 94] (by decide +kernel) (by decide +kernel)
set_option maxRecDepth 20000 in
theorem gX11_findWay_X10_find : GoodIn wsX11_findWay (wsV RX11 253 RX10 yX10_find wsX10_find) := goodIn_app (goodIn_of _ (by decide +kernel)) ggX11_findWay_X10_find
theorem dX11_findWay_0 : decode cX11_findWay 0 = .ok (.aload_n 0, 1) := by decide +kernel
theorem dX11_findWay_1 : decode cX11_findWay 1 = .ok (.getfield 50, 3) := by decide +kernel
theorem dX11_findWay_4 : decode cX11_findWay 4 = .ok (.aload_n 1, 1) := by decide +kernel
theorem dX11_findWay_5 : decode cX11_findWay 5 = .ok (.getfield 115, 3) := by decide +kernel
theorem dX11_findWay_8 : decode cX11_findWay 8 = .ok (.aload_n 2, 1) := by decide +kernel
theorem dX11_findWay_9 : decode cX11_findWay 9 = .ok (.getfield 125, 3) := by decide +kernel
theorem dX11_findWay_12 : decode cX11_findWay 12 = .ok (.aload_n 1, 1) := by decide +kernel
theorem dX11_findWay_13 : decode cX11_findWay 13 = .ok (.aload_n 2, 1) := by decide +kernel
theorem dX11_findWay_14 : decode cX11_findWay 14 = .ok (.getfield 163, 3) := by decide +kernel
theorem dX11_findWay_17 : decode cX11_findWay 17 = .ok (.invokevirtual 194, 3) := by decide +kernel
theorem dX11_findWay_20 : decode cX11_findWay 20 = .ok (.aload_n 1, 1) := by decide +kernel
theorem dX11_findWay_21 : decode cX11_findWay 21 = .ok (.aload_n 2, 1) := by decide +kernel
theorem dX11_findWay_22 : decode cX11_findWay 22 = .ok (.getfield 163, 3) := by decide +kernel
theorem dX11_findWay_25 : decode cX11_findWay 25 = .ok (.invokevirtual 197, 3) := by decide +kernel
theorem dX11_findWay_28 : decode cX11_findWay 28 = .ok (.invokevirtual 253, 3) := by decide +kernel
theorem dX11_findWay_31 : decode cX11_findWay 31 = .ok (.return_, 1) := by decide +kernel
set_option maxRecDepth 20000 in
theorem ggX11_passNight_X11_findWay : GoodIn wsX11_passNight wsX11_findWay := goodIn_r _ [8, 1, 2, 9, 10, 11, 12, 13, 14, 15, 16, 17, 18, 19, 20, 21, 22, 23, 24, 25, 26, 27, 28, 29, 30, 31, 32, 33, 34, 35, 36, 37, 38, 39, 40, 41, 42, 43, 44, 45, 46, 47, 48, 49, 50, 51, 52, 53, 54, 55, 56, 57, 58, 59, 60, 61, 62, 63, 120, 121, 122, 123, 124, 125, 126, 127, 128, 129, 130, 131, 132, 133, 134, 135, 136, 137, 138, 139, 140, 141, 142, 143, 144, 145, 146, 147, 148, 149, 150, 151, 152, 153, 154, 155, 156] (by decide +kernel) (by decide +kernel)
set_option maxRecDepth 20000 in
theorem gX11_passNight_X11_findWay : GoodIn wsX11_passNight (wsV RX11 142 RX11 yX11_findWay wsX11_findWay) := goodIn_app (goodIn_of _ (by decide +kernel)) ggX11_passNight_X11_findWay
set_option maxRecDepth 20000 in
theorem ggX11_passNight_X11_councilOf : GoodIn wsX11_passNight wsX11_councilOf := goodIn_r _ [67, 68, 69, 134, 135, 136, 137, 138, 139, 140, 141, 142, 143, 144, 120, 121, 122, 123, 124, 125, 126, 127, 128, 129, 130, 131, 132, 133] (by decide +kernel) (by decide +kernel)
set_option maxRecDepth 20000 in
theorem gX11_passNight_X11_councilOf : GoodIn wsX11_passNight (wsV RX11 135 RX11 yX11_councilOf wsX11_councilOf) := goodIn_app (goodIn_of _ (by decide +kernel)) ggX11_passNight_X11_councilOf
set_option maxRecDepth 20000 in
theorem ggX11_passNight_X0_shuts : GoodIn wsX11_passNight wsX0_shuts := goodIn_r _ [75, 76, 77, 78, 32, 79, 34, 80, 81, 82, 83, 84, 85, 86, 87, 88, 89, 90, 91, 92, 93, 94, 95, 96, 97, 98, 99, 100, 101, 102, 103, 104, 105, 106, 107, 108, 109, 147, 148, 149, 150, 151, 152, 153, 154, 155, 156] (by decide +kernel) (by decide +kernel)
set_option maxRecDepth 20000 in
theorem gX11_passNight_X0_shuts_u146X2 : GoodIn wsX11_passNight (va_wsU RX11 146 RX2 "ShutWays$Council" ⟨"ShutWays$Council", "shuts", "(LShutWays$Way;LShutWays$Roads;)I"⟩ yX0_shuts wsX0_shuts) := goodIn_app (goodIn_of _ (by decide +kernel)) ggX11_passNight_X0_shuts
set_option maxRecDepth 20000 in
theorem gX11_passNight_X0_shuts_u146X3 : GoodIn wsX11_passNight (va_wsU RX11 146 RX3 "ShutWays$Council" ⟨"ShutWays$Council", "shuts", "(LShutWays$Way;LShutWays$Roads;)I"⟩ yX0_shuts wsX0_shuts) := goodIn_app (goodIn_of _ (by decide +kernel)) ggX11_passNight_X0_shuts
set_option maxRecDepth 20000 in
theorem gX11_passNight_X0_shuts_u146X4 : GoodIn wsX11_passNight (va_wsU RX11 146 RX4 "ShutWays$Council" ⟨"ShutWays$Council", "shuts", "(LShutWays$Way;LShutWays$Roads;)I"⟩ yX0_shuts wsX0_shuts) := goodIn_app (goodIn_of _ (by decide +kernel)) ggX11_passNight_X0_shuts
set_option maxRecDepth 20000 in
theorem gX11_passNight_X0_shuts_u146X5 : GoodIn wsX11_passNight (va_wsU RX11 146 RX5 "ShutWays$Council" ⟨"ShutWays$Council", "shuts", "(LShutWays$Way;LShutWays$Roads;)I"⟩ yX0_shuts wsX0_shuts) := goodIn_app (goodIn_of _ (by decide +kernel)) ggX11_passNight_X0_shuts
set_option maxRecDepth 20000 in
theorem ggX11_passNight_X1_next : GoodIn wsX11_passNight wsX1_next := goodIn_r _ [117, 118, 119, 145, 146] (by decide +kernel) (by decide +kernel)
set_option maxRecDepth 20000 in
theorem gX11_passNight_X1_next : GoodIn wsX11_passNight (wsV RX11 257 RX1 yX1_next wsX1_next) := goodIn_app (goodIn_of _ (by decide +kernel)) ggX11_passNight_X1_next
theorem dX11_passNight_0 : decode cX11_passNight 0 = .ok (.aload_n 0, 1) := by decide +kernel
theorem dX11_passNight_1 : decode cX11_passNight 1 = .ok (.aload_n 1, 1) := by decide +kernel
theorem dX11_passNight_2 : decode cX11_passNight 2 = .ok (.aload_n 2, 1) := by decide +kernel
theorem dX11_passNight_3 : decode cX11_passNight 3 = .ok (.invokevirtual 142, 3) := by decide +kernel
theorem dX11_passNight_6 : decode cX11_passNight 6 = .ok (.aload_n 0, 1) := by decide +kernel
theorem dX11_passNight_7 : decode cX11_passNight 7 = .ok (.aload_n 1, 1) := by decide +kernel
theorem dX11_passNight_8 : decode cX11_passNight 8 = .ok (.invokevirtual 135, 3) := by decide +kernel
theorem dX11_passNight_11 : decode cX11_passNight 11 = .ok (.aload_n 0, 1) := by decide +kernel
theorem dX11_passNight_12 : decode cX11_passNight 12 = .ok (.getfield 50, 3) := by decide +kernel
theorem dX11_passNight_15 : decode cX11_passNight 15 = .ok (.aload_n 1, 1) := by decide +kernel
theorem dX11_passNight_16 : decode cX11_passNight 16 = .ok (.getfield 115, 3) := by decide +kernel
theorem dX11_passNight_19 : decode cX11_passNight 19 = .ok (.invokevirtual 146, 3) := by decide +kernel
theorem dX11_passNight_22 : decode cX11_passNight 22 = .ok (.istore_n 3, 1) := by decide +kernel
theorem dX11_passNight_23 : decode cX11_passNight 23 = .ok (.aload_n 2, 1) := by decide +kernel
theorem dX11_passNight_24 : decode cX11_passNight 24 = .ok (.iload_n 3, 1) := by decide +kernel
theorem dX11_passNight_25 : decode cX11_passNight 25 = .ok (.aload_n 1, 1) := by decide +kernel
theorem dX11_passNight_26 : decode cX11_passNight 26 = .ok (.getfield 247, 3) := by decide +kernel
theorem dX11_passNight_29 : decode cX11_passNight 29 = .ok (.invokevirtual 257, 3) := by decide +kernel
theorem dX11_passNight_32 : decode cX11_passNight 32 = .ok (.iload_n 3, 1) := by decide +kernel
theorem dX11_passNight_33 : decode cX11_passNight 33 = .ok (.ireturn, 1) := by decide +kernel
set_option maxRecDepth 20000 in
theorem ggX11_countPasses_J7_fill_53178 : GoodIn wsX11_countPasses wsJ7_fill_53178 := goodIn_r _ [11] (by decide +kernel) (by decide +kernel)
set_option maxRecDepth 20000 in
theorem gX11_countPasses_J7_fill_53178 : GoodIn wsX11_countPasses (va_wsS RX11 185 yJ7_fill_53178 wsJ7_fill_53178) := goodIn_app (goodIn_of _ (by decide +kernel)) ggX11_countPasses_J7_fill_53178
set_option maxRecDepth 20000 in
theorem ggX11_countPasses_X1_copyFrom : GoodIn wsX11_countPasses wsX1_copyFrom := goodIn_r _ [16, 17, 18, 19, 20, 21, 22, 158, 159] (by decide +kernel) (by decide +kernel)
set_option maxRecDepth 20000 in
theorem gX11_countPasses_X1_copyFrom : GoodIn wsX11_countPasses (wsV RX11 191 RX1 yX1_copyFrom wsX1_copyFrom) := goodIn_app (goodIn_of _ (by decide +kernel)) ggX11_countPasses_X1_copyFrom
set_option maxRecDepth 20000 in
theorem ggX11_countPasses_X11_passNight : GoodIn wsX11_countPasses wsX11_passNight := goodIn_r _ [27, 5, 28, 29, 30, 31, 32, 26, 33, 34, 35, 36, 37, 38, 39, 40, 41, 42, 43, 44, 45, 46, 47, 48, 49, 50, 51, 52, 53, 54, 55, 56, 57, 58, 59, 60, 61, 62, 63, 64, 65, 66, 67, 68, 69, 70, 71, 72, 9, 10, 11, 73, 74, 75, 76, 77, 78, 79, 80, 81, 82, 83, 84, 85, 86, 87, 88, 89, 90, 91, 92, 93, 94, 95, 96, 97, 98, 99, 100, 101, 102, 103, 104, 105, 106, 107, 108, 109, 110, 111, 112, 113, 114, 115, 116, 117, 118, 119, 120, 121, 122, 123, 124, 125, 126, 127, 128, 129, 130, 131, 132, 133, 134, 135, 136, 137, 15, 138, 18, 17, 139, 140, 141, 142, 143, 144, 145, 146, 147, 148, 149, 150, 151, 152, 160, 161, 162, 163, 164, 165, 166, 167, 168, 169, 170, 158, 159, 153, 154, 155, 156, 157, 171, 172, 173, 174, 175] (by decide +kernel) (by decide +kernel)
set_option maxRecDepth 20000 in
theorem gX11_countPasses_X11_passNight : GoodIn wsX11_countPasses (wsV RX11 166 RX11 yX11_passNight wsX11_passNight) := goodIn_app (goodIn_of _ (by decide +kernel)) ggX11_countPasses_X11_passNight
theorem dX11_countPasses_0 : decode cX11_countPasses 0 = .ok (.aload_n 0, 1) := by decide +kernel
theorem dX11_countPasses_1 : decode cX11_countPasses 1 = .ok (.getfield 87, 3) := by decide +kernel
theorem dX11_countPasses_4 : decode cX11_countPasses 4 = .ok (.iconst 0, 1) := by decide +kernel
theorem dX11_countPasses_5 : decode cX11_countPasses 5 = .ok (.invokestatic 185, 3) := by decide +kernel
theorem dX11_countPasses_8 : decode cX11_countPasses 8 = .ok (.aload_n 0, 1) := by decide +kernel
theorem dX11_countPasses_9 : decode cX11_countPasses 9 = .ok (.getfield 33, 3) := by decide +kernel
theorem dX11_countPasses_12 : decode cX11_countPasses 12 = .ok (.aload_n 0, 1) := by decide +kernel
theorem dX11_countPasses_13 : decode cX11_countPasses 13 = .ok (.getfield 29, 3) := by decide +kernel
theorem dX11_countPasses_16 : decode cX11_countPasses 16 = .ok (.invokevirtual 191, 3) := by decide +kernel
theorem dX11_countPasses_19 : decode cX11_countPasses 19 = .ok (.iconst 0, 1) := by decide +kernel
theorem dX11_countPasses_20 : decode cX11_countPasses 20 = .ok (.istore_n 2, 1) := by decide +kernel
theorem dX11_countPasses_21 : decode cX11_countPasses 21 = .ok (.iload_n 2, 1) := by decide +kernel
theorem dX11_countPasses_22 : decode cX11_countPasses 22 = .ok (.iload_n 1, 1) := by decide +kernel
theorem dX11_countPasses_23 : decode cX11_countPasses 23 = .ok (.if_icmp .ge 59, 3) := by decide +kernel
theorem dX11_countPasses_26 : decode cX11_countPasses 26 = .ok (.aload_n 0, 1) := by decide +kernel
theorem dX11_countPasses_27 : decode cX11_countPasses 27 = .ok (.aload_n 0, 1) := by decide +kernel
theorem dX11_countPasses_28 : decode cX11_countPasses 28 = .ok (.getfield 19, 3) := by decide +kernel
theorem dX11_countPasses_31 : decode cX11_countPasses 31 = .ok (.aload_n 0, 1) := by decide +kernel
theorem dX11_countPasses_32 : decode cX11_countPasses 32 = .ok (.getfield 33, 3) := by decide +kernel
theorem dX11_countPasses_35 : decode cX11_countPasses 35 = .ok (.invokevirtual 166, 3) := by decide +kernel
theorem dX11_countPasses_38 : decode cX11_countPasses 38 = .ok (.pop, 1) := by decide +kernel
theorem dX11_countPasses_39 : decode cX11_countPasses 39 = .ok (.iconst 0, 1) := by decide +kernel
theorem dX11_countPasses_40 : decode cX11_countPasses 40 = .ok (.istore_n 3, 1) := by decide +kernel
theorem dX11_countPasses_41 : decode cX11_countPasses 41 = .ok (.iload_n 3, 1) := by decide +kernel
theorem dX11_countPasses_42 : decode cX11_countPasses 42 = .ok (.aload_n 0, 1) := by decide +kernel
theorem dX11_countPasses_43 : decode cX11_countPasses 43 = .ok (.getfield 50, 3) := by decide +kernel
theorem dX11_countPasses_46 : decode cX11_countPasses 46 = .ok (.getfield 154, 3) := by decide +kernel
theorem dX11_countPasses_49 : decode cX11_countPasses 49 = .ok (.if_icmp .ge 27, 3) := by decide +kernel
theorem dX11_countPasses_52 : decode cX11_countPasses 52 = .ok (.aload_n 0, 1) := by decide +kernel
theorem dX11_countPasses_53 : decode cX11_countPasses 53 = .ok (.getfield 87, 3) := by decide +kernel
theorem dX11_countPasses_56 : decode cX11_countPasses 56 = .ok (.aload_n 0, 1) := by decide +kernel
theorem dX11_countPasses_57 : decode cX11_countPasses 57 = .ok (.getfield 50, 3) := by decide +kernel
theorem dX11_countPasses_60 : decode cX11_countPasses 60 = .ok (.getfield 157, 3) := by decide +kernel
theorem dX11_countPasses_63 : decode cX11_countPasses 63 = .ok (.iload_n 3, 1) := by decide +kernel
theorem dX11_countPasses_64 : decode cX11_countPasses 64 = .ok (.iaload, 1) := by decide +kernel
theorem dX11_countPasses_65 : decode cX11_countPasses 65 = .ok (.dup2, 1) := by decide +kernel
theorem dX11_countPasses_66 : decode cX11_countPasses 66 = .ok (.iaload, 1) := by decide +kernel
theorem dX11_countPasses_67 : decode cX11_countPasses 67 = .ok (.iconst 1, 1) := by decide +kernel
theorem dX11_countPasses_68 : decode cX11_countPasses 68 = .ok (.iadd, 1) := by decide +kernel
theorem dX11_countPasses_69 : decode cX11_countPasses 69 = .ok (.iastore, 1) := by decide +kernel
theorem dX11_countPasses_70 : decode cX11_countPasses 70 = .ok (.iinc 3 1, 3) := by decide +kernel
theorem dX11_countPasses_73 : decode cX11_countPasses 73 = .ok (.goto (-32), 3) := by decide +kernel
theorem dX11_countPasses_76 : decode cX11_countPasses 76 = .ok (.iinc 2 1, 3) := by decide +kernel
theorem dX11_countPasses_79 : decode cX11_countPasses 79 = .ok (.goto (-58), 3) := by decide +kernel
theorem dX11_countPasses_82 : decode cX11_countPasses 82 = .ok (.return_, 1) := by decide +kernel
set_option maxRecDepth 20000 in
theorem ggX11_isNeverFarWith_X6_copyFrom : GoodIn wsX11_isNeverFarWith wsX6_copyFrom := goodIn_r _ [11, 12, 13, 14, 15, 16, 17, 18, 19, 20, 21, 22, 23, 24, 25, 26, 27, 28, 29, 30, 31, 32, 33, 34, 35, 36, 190, 191, 192, 193, 194, 195, 196, 197, 198, 199, 200, 201, 202, 203, 204, 205] (by decide +kernel) (by decide +kernel)
set_option maxRecDepth 20000 in
theorem gX11_isNeverFarWith_X6_copyFrom : GoodIn wsX11_isNeverFarWith (wsV RX11 101 RX6 yX6_copyFrom wsX6_copyFrom) := goodIn_app (goodIn_of _ (by decide +kernel)) ggX11_isNeverFarWith_X6_copyFrom
set_option maxRecDepth 20000 in
theorem ggX11_isNeverFarWith_X6_buildLanes : GoodIn wsX11_isNeverFarWith wsX6_buildLanes := goodIn_r _ [40, 14, 41, 13, 42, 43, 44, 45, 34, 35, 26, 36, 28, 29, 30, 31, 32, 190, 191, 192, 193, 194, 195, 196, 197, 198, 199, 200, 201, 202, 203, 204, 205] (by decide +kernel) (by decide +kernel)
set_option maxRecDepth 20000 in
theorem gX11_isNeverFarWith_X6_buildLanes : GoodIn wsX11_isNeverFarWith (wsV RX11 261 RX6 yX6_buildLanes wsX6_buildLanes) := goodIn_app (goodIn_of _ (by decide +kernel)) ggX11_isNeverFarWith_X6_buildLanes
set_option maxRecDepth 20000 in
theorem ggX11_isNeverFarWith_X1_copyFrom : GoodIn wsX11_isNeverFarWith wsX1_copyFrom := goodIn_r _ [50, 51, 52, 53, 54, 55, 56, 206, 207] (by decide +kernel) (by decide +kernel)
set_option maxRecDepth 20000 in
theorem gX11_isNeverFarWith_X1_copyFrom : GoodIn wsX11_isNeverFarWith (wsV RX11 191 RX1 yX1_copyFrom wsX1_copyFrom) := goodIn_app (goodIn_of _ (by decide +kernel)) ggX11_isNeverFarWith_X1_copyFrom
set_option maxRecDepth 20000 in
theorem ggX11_isNeverFarWith_X11_passNight : GoodIn wsX11_isNeverFarWith wsX11_passNight := goodIn_r _ [61, 5, 62, 63, 64, 65, 66, 60, 67, 68, 69, 70, 71, 72, 10, 73, 15, 18, 74, 75, 76, 77, 17, 78, 79, 80, 81, 16, 19, 82, 83, 84, 85, 86, 87, 88, 89, 90, 91, 92, 93, 94, 95, 96, 97, 98, 99, 100, 101, 102, 103, 104, 105, 106, 107, 108, 109, 110, 111, 112, 113, 114, 115, 116, 117, 118, 119, 120, 121, 122, 123, 124, 125, 126, 127, 128, 129, 130, 131, 132, 133, 134, 135, 136, 137, 138, 139, 140, 141, 142, 143, 144, 145, 146, 147, 148, 149, 150, 151, 152, 153, 154, 155, 156, 157, 158, 159, 160, 161, 162, 163, 164, 165, 166, 167, 168, 49, 169, 52, 51, 171, 172, 173, 174, 175, 176, 177, 178, 179, 180, 181, 182, 183, 184, 190, 191, 192, 193, 194, 195, 196, 197, 198, 199, 200, 206, 207, 185, 186, 187, 188, 189, 201, 202, 203, 204, 205] (by decide +kernel) (by decide +kernel)
set_option maxRecDepth 20000 in
theorem gX11_isNeverFarWith_X11_passNight : GoodIn wsX11_isNeverFarWith (wsV RX11 166 RX11 yX11_passNight wsX11_passNight) := goodIn_app (goodIn_of _ (by decide +kernel)) ggX11_isNeverFarWith_X11_passNight
set_option maxRecDepth 20000 in
theorem ggX11_isNeverFarWith_X10_isThere : GoodIn wsX11_isNeverFarWith wsX10_isThere := goodIn_r _ [132, 87, 185, 186, 187, 188, 189] (by decide +kernel) (by decide +kernel)
set_option maxRecDepth 20000 in
theorem gX11_isNeverFarWith_X10_isThere : GoodIn wsX11_isNeverFarWith (wsV RX11 150 RX10 yX10_isThere wsX10_isThere) := goodIn_app (goodIn_of _ (by decide +kernel)) ggX11_isNeverFarWith_X10_isThere
theorem dX11_isNeverFarWith_0 : decode cX11_isNeverFarWith 0 = .ok (.aload_n 0, 1) := by decide +kernel
theorem dX11_isNeverFarWith_1 : decode cX11_isNeverFarWith 1 = .ok (.getfield 23, 3) := by decide +kernel
theorem dX11_isNeverFarWith_4 : decode cX11_isNeverFarWith 4 = .ok (.aload_n 0, 1) := by decide +kernel
theorem dX11_isNeverFarWith_5 : decode cX11_isNeverFarWith 5 = .ok (.getfield 19, 3) := by decide +kernel
theorem dX11_isNeverFarWith_8 : decode cX11_isNeverFarWith 8 = .ok (.invokevirtual 101, 3) := by decide +kernel
theorem dX11_isNeverFarWith_11 : decode cX11_isNeverFarWith 11 = .ok (.aload_n 0, 1) := by decide +kernel
theorem dX11_isNeverFarWith_12 : decode cX11_isNeverFarWith 12 = .ok (.getfield 23, 3) := by decide +kernel
theorem dX11_isNeverFarWith_15 : decode cX11_isNeverFarWith 15 = .ok (.iload_n 1, 1) := by decide +kernel
theorem dX11_isNeverFarWith_16 : decode cX11_isNeverFarWith 16 = .ok (.invokevirtual 261, 3) := by decide +kernel
theorem dX11_isNeverFarWith_19 : decode cX11_isNeverFarWith 19 = .ok (.aload_n 0, 1) := by decide +kernel
theorem dX11_isNeverFarWith_20 : decode cX11_isNeverFarWith 20 = .ok (.getfield 33, 3) := by decide +kernel
theorem dX11_isNeverFarWith_23 : decode cX11_isNeverFarWith 23 = .ok (.aload_n 0, 1) := by decide +kernel
theorem dX11_isNeverFarWith_24 : decode cX11_isNeverFarWith 24 = .ok (.getfield 29, 3) := by decide +kernel
theorem dX11_isNeverFarWith_27 : decode cX11_isNeverFarWith 27 = .ok (.invokevirtual 191, 3) := by decide +kernel
theorem dX11_isNeverFarWith_30 : decode cX11_isNeverFarWith 30 = .ok (.iconst 0, 1) := by decide +kernel
theorem dX11_isNeverFarWith_31 : decode cX11_isNeverFarWith 31 = .ok (.istore 4, 2) := by decide +kernel
theorem dX11_isNeverFarWith_33 : decode cX11_isNeverFarWith 33 = .ok (.iload 4, 2) := by decide +kernel
theorem dX11_isNeverFarWith_35 : decode cX11_isNeverFarWith 35 = .ok (.iload_n 2, 1) := by decide +kernel
theorem dX11_isNeverFarWith_36 : decode cX11_isNeverFarWith 36 = .ok (.if_icmp .ge 45, 3) := by decide +kernel
theorem dX11_isNeverFarWith_39 : decode cX11_isNeverFarWith 39 = .ok (.aload_n 0, 1) := by decide +kernel
theorem dX11_isNeverFarWith_40 : decode cX11_isNeverFarWith 40 = .ok (.aload_n 0, 1) := by decide +kernel
theorem dX11_isNeverFarWith_41 : decode cX11_isNeverFarWith 41 = .ok (.getfield 23, 3) := by decide +kernel
theorem dX11_isNeverFarWith_44 : decode cX11_isNeverFarWith 44 = .ok (.aload_n 0, 1) := by decide +kernel
theorem dX11_isNeverFarWith_45 : decode cX11_isNeverFarWith 45 = .ok (.getfield 33, 3) := by decide +kernel
theorem dX11_isNeverFarWith_48 : decode cX11_isNeverFarWith 48 = .ok (.invokevirtual 166, 3) := by decide +kernel
theorem dX11_isNeverFarWith_51 : decode cX11_isNeverFarWith 51 = .ok (.pop, 1) := by decide +kernel
theorem dX11_isNeverFarWith_52 : decode cX11_isNeverFarWith 52 = .ok (.aload_n 0, 1) := by decide +kernel
theorem dX11_isNeverFarWith_53 : decode cX11_isNeverFarWith 53 = .ok (.getfield 50, 3) := by decide +kernel
theorem dX11_isNeverFarWith_56 : decode cX11_isNeverFarWith 56 = .ok (.invokevirtual 150, 3) := by decide +kernel
theorem dX11_isNeverFarWith_59 : decode cX11_isNeverFarWith 59 = .ok (.ifCond .eq 14, 3) := by decide +kernel
theorem dX11_isNeverFarWith_62 : decode cX11_isNeverFarWith 62 = .ok (.aload_n 0, 1) := by decide +kernel
theorem dX11_isNeverFarWith_63 : decode cX11_isNeverFarWith 63 = .ok (.getfield 50, 3) := by decide +kernel
theorem dX11_isNeverFarWith_66 : decode cX11_isNeverFarWith 66 = .ok (.getfield 160, 3) := by decide +kernel
theorem dX11_isNeverFarWith_69 : decode cX11_isNeverFarWith 69 = .ok (.iload_n 3, 1) := by decide +kernel
theorem dX11_isNeverFarWith_70 : decode cX11_isNeverFarWith 70 = .ok (.if_icmp .le 5, 3) := by decide +kernel
theorem dX11_isNeverFarWith_73 : decode cX11_isNeverFarWith 73 = .ok (.iconst 0, 1) := by decide +kernel
theorem dX11_isNeverFarWith_74 : decode cX11_isNeverFarWith 74 = .ok (.ireturn, 1) := by decide +kernel
theorem dX11_isNeverFarWith_75 : decode cX11_isNeverFarWith 75 = .ok (.iinc 4 1, 3) := by decide +kernel
theorem dX11_isNeverFarWith_78 : decode cX11_isNeverFarWith 78 = .ok (.goto (-45), 3) := by decide +kernel
theorem dX11_isNeverFarWith_81 : decode cX11_isNeverFarWith 81 = .ok (.iconst 1, 1) := by decide +kernel
theorem dX11_isNeverFarWith_82 : decode cX11_isNeverFarWith 82 = .ok (.ireturn, 1) := by decide +kernel
set_option maxRecDepth 20000 in
theorem ggX11_bestSum_X11_findWay : GoodIn wsX11_bestSum wsX11_findWay := goodIn_r _ [12, 3, 6, 13, 14, 15, 16, 17, 18, 19, 20, 21, 22, 23, 24, 25, 26, 27, 28, 29, 30, 31, 32, 33, 34, 35, 36, 37, 38, 39, 40, 41, 42, 43, 44, 45, 46, 47, 48, 49, 50, 51, 52, 53, 54, 55, 56, 57, 58, 59, 60, 61, 62, 63, 64, 65, 66, 67, 95, 96, 97, 98, 99, 100, 101, 102, 103, 104, 105, 106, 107, 108, 114, 115, 116, 117, 118, 119, 120, 121, 122, 123, 124, 130, 131, 109, 110, 111, 112, 113, 125, 126, 127, 128, 129] (by decide +kernel) (by decide +kernel)
set_option maxRecDepth 20000 in
theorem gX11_bestSum_X11_findWay : GoodIn wsX11_bestSum (wsV RX11 142 RX11 yX11_findWay wsX11_findWay) := goodIn_app (goodIn_of _ (by decide +kernel)) ggX11_bestSum_X11_findWay
set_option maxRecDepth 20000 in
theorem ggX11_bestSum_X10_isThere : GoodIn wsX11_bestSum wsX10_isThere := goodIn_r _ [71, 38, 109, 110, 111, 112, 113] (by decide +kernel) (by decide +kernel)
set_option maxRecDepth 20000 in
theorem gX11_bestSum_X10_isThere : GoodIn wsX11_bestSum (wsV RX11 150 RX10 yX10_isThere wsX10_isThere) := goodIn_app (goodIn_of _ (by decide +kernel)) ggX11_bestSum_X10_isThere
set_option maxRecDepth 20000 in
theorem ggX11_bestSum_X11_sumBehind : GoodIn wsX11_bestSum wsX11_sumBehind := goodIn_r _ [75, 1, 2, 76, 77, 78, 79, 80, 81, 82, 83, 84, 85, 86, 87, 88, 89, 90, 91, 92, 93, 94, 11, 0, 3, 4, 5, 6, 7, 8, 9, 10, 12, 13, 14, 15, 16, 17, 18, 19, 20, 21, 22, 23, 24, 25, 26, 27, 28, 29, 30, 31, 32, 33, 34, 35, 36, 37, 38, 39, 40, 41, 42, 43, 44, 45, 46, 47, 48, 49, 50, 51, 52, 53, 54, 55, 56, 57, 58, 59, 60, 61, 62, 63, 64, 65, 66, 67, 68, 69, 70, 71, 72, 73, 74, 95, 96, 97, 98, 99, 100, 101, 102, 103, 104, 105, 106, 107, 108, 109, 110, 111, 112, 113, 114, 115, 116, 117, 118, 119, 120, 121, 122, 123, 124, 125, 126, 127, 128, 129, 130, 131] (by decide +kernel) (by decide +kernel)
set_option maxRecDepth 20000 in
theorem gX11_bestSum_X11_sumBehind : GoodIn wsX11_bestSum (wsV RX11 267 RX11 yX11_sumBehind wsX11_sumBehind) := goodIn_app (goodIn_of _ (by decide +kernel)) ggX11_bestSum_X11_sumBehind
theorem dX11_bestSum_0 : decode cX11_bestSum 0 = .ok (.aload_n 0, 1) := by decide +kernel
theorem dX11_bestSum_1 : decode cX11_bestSum 1 = .ok (.getfield 44, 3) := by decide +kernel
theorem dX11_bestSum_4 : decode cX11_bestSum 4 = .ok (.iload_n 1, 1) := by decide +kernel
theorem dX11_bestSum_5 : decode cX11_bestSum 5 = .ok (.aaload, 1) := by decide +kernel
theorem dX11_bestSum_6 : decode cX11_bestSum 6 = .ok (.astore 4, 2) := by decide +kernel
theorem dX11_bestSum_8 : decode cX11_bestSum 8 = .ok (.aload_n 0, 1) := by decide +kernel
theorem dX11_bestSum_9 : decode cX11_bestSum 9 = .ok (.aload_n 0, 1) := by decide +kernel
theorem dX11_bestSum_10 : decode cX11_bestSum 10 = .ok (.getfield 19, 3) := by decide +kernel
theorem dX11_bestSum_13 : decode cX11_bestSum 13 = .ok (.aload 4, 2) := by decide +kernel
theorem dX11_bestSum_15 : decode cX11_bestSum 15 = .ok (.invokevirtual 142, 3) := by decide +kernel
theorem dX11_bestSum_18 : decode cX11_bestSum 18 = .ok (.aload_n 0, 1) := by decide +kernel
theorem dX11_bestSum_19 : decode cX11_bestSum 19 = .ok (.getfield 50, 3) := by decide +kernel
theorem dX11_bestSum_22 : decode cX11_bestSum 22 = .ok (.invokevirtual 150, 3) := by decide +kernel
theorem dX11_bestSum_25 : decode cX11_bestSum 25 = .ok (.ifCond .eq 13, 3) := by decide +kernel
theorem dX11_bestSum_28 : decode cX11_bestSum 28 = .ok (.aload_n 0, 1) := by decide +kernel
theorem dX11_bestSum_29 : decode cX11_bestSum 29 = .ok (.getfield 50, 3) := by decide +kernel
theorem dX11_bestSum_32 : decode cX11_bestSum 32 = .ok (.getfield 160, 3) := by decide +kernel
theorem dX11_bestSum_35 : decode cX11_bestSum 35 = .ok (.goto 6, 3) := by decide +kernel
theorem dX11_bestSum_38 : decode cX11_bestSum 38 = .ok (.sipush 999, 3) := by decide +kernel
theorem dX11_bestSum_41 : decode cX11_bestSum 41 = .ok (.istore 5, 2) := by decide +kernel
theorem dX11_bestSum_43 : decode cX11_bestSum 43 = .ok (.iload_n 2, 1) := by decide +kernel
theorem dX11_bestSum_44 : decode cX11_bestSum 44 = .ok (.ifCond .le 14, 3) := by decide +kernel
theorem dX11_bestSum_47 : decode cX11_bestSum 47 = .ok (.iload_n 1, 1) := by decide +kernel
theorem dX11_bestSum_48 : decode cX11_bestSum 48 = .ok (.iconst 1, 1) := by decide +kernel
theorem dX11_bestSum_49 : decode cX11_bestSum 49 = .ok (.iadd, 1) := by decide +kernel
theorem dX11_bestSum_50 : decode cX11_bestSum 50 = .ok (.aload_n 0, 1) := by decide +kernel
theorem dX11_bestSum_51 : decode cX11_bestSum 51 = .ok (.getfield 44, 3) := by decide +kernel
theorem dX11_bestSum_54 : decode cX11_bestSum 54 = .ok (.arraylength, 1) := by decide +kernel
theorem dX11_bestSum_55 : decode cX11_bestSum 55 = .ok (.if_icmp .lt 6, 3) := by decide +kernel
theorem dX11_bestSum_58 : decode cX11_bestSum 58 = .ok (.iload 5, 2) := by decide +kernel
theorem dX11_bestSum_60 : decode cX11_bestSum 60 = .ok (.ireturn, 1) := by decide +kernel
theorem dX11_bestSum_61 : decode cX11_bestSum 61 = .ok (.aload_n 0, 1) := by decide +kernel
theorem dX11_bestSum_62 : decode cX11_bestSum 62 = .ok (.getfield 50, 3) := by decide +kernel
theorem dX11_bestSum_65 : decode cX11_bestSum 65 = .ok (.getfield 264, 3) := by decide +kernel
theorem dX11_bestSum_68 : decode cX11_bestSum 68 = .ok (.istore 6, 2) := by decide +kernel
theorem dX11_bestSum_70 : decode cX11_bestSum 70 = .ok (.iload 6, 2) := by decide +kernel
theorem dX11_bestSum_72 : decode cX11_bestSum 72 = .ok (.ifCond .ne 15, 3) := by decide +kernel
theorem dX11_bestSum_75 : decode cX11_bestSum 75 = .ok (.iload 5, 2) := by decide +kernel
theorem dX11_bestSum_77 : decode cX11_bestSum 77 = .ok (.aload_n 0, 1) := by decide +kernel
theorem dX11_bestSum_78 : decode cX11_bestSum 78 = .ok (.iload_n 1, 1) := by decide +kernel
theorem dX11_bestSum_79 : decode cX11_bestSum 79 = .ok (.iconst (-1), 1) := by decide +kernel
theorem dX11_bestSum_80 : decode cX11_bestSum 80 = .ok (.iload_n 2, 1) := by decide +kernel
theorem dX11_bestSum_81 : decode cX11_bestSum 81 = .ok (.iload_n 3, 1) := by decide +kernel
theorem dX11_bestSum_82 : decode cX11_bestSum 82 = .ok (.invokevirtual 267, 3) := by decide +kernel
theorem dX11_bestSum_85 : decode cX11_bestSum 85 = .ok (.iadd, 1) := by decide +kernel
theorem dX11_bestSum_86 : decode cX11_bestSum 86 = .ok (.ireturn, 1) := by decide +kernel
theorem dX11_bestSum_87 : decode cX11_bestSum 87 = .ok (.iconst (-1), 1) := by decide +kernel
theorem dX11_bestSum_88 : decode cX11_bestSum 88 = .ok (.istore 7, 2) := by decide +kernel
theorem dX11_bestSum_90 : decode cX11_bestSum 90 = .ok (.iconst 0, 1) := by decide +kernel
theorem dX11_bestSum_91 : decode cX11_bestSum 91 = .ok (.istore 8, 2) := by decide +kernel
theorem dX11_bestSum_93 : decode cX11_bestSum 93 = .ok (.iload 8, 2) := by decide +kernel
theorem dX11_bestSum_95 : decode cX11_bestSum 95 = .ok (.aload_n 0, 1) := by decide +kernel
theorem dX11_bestSum_96 : decode cX11_bestSum 96 = .ok (.getfield 19, 3) := by decide +kernel
theorem dX11_bestSum_99 : decode cX11_bestSum 99 = .ok (.getfield 115, 3) := by decide +kernel
theorem dX11_bestSum_102 : decode cX11_bestSum 102 = .ok (.getfield 223, 3) := by decide +kernel
theorem dX11_bestSum_105 : decode cX11_bestSum 105 = .ok (.if_icmp .ge 83, 3) := by decide +kernel
theorem dX11_bestSum_108 : decode cX11_bestSum 108 = .ok (.iload 6, 2) := by decide +kernel
theorem dX11_bestSum_110 : decode cX11_bestSum 110 = .ok (.iconst 1, 1) := by decide +kernel
theorem dX11_bestSum_111 : decode cX11_bestSum 111 = .ok (.iload 8, 2) := by decide +kernel
theorem dX11_bestSum_113 : decode cX11_bestSum 113 = .ok (.ishl, 1) := by decide +kernel
theorem dX11_bestSum_114 : decode cX11_bestSum 114 = .ok (.iand, 1) := by decide +kernel
theorem dX11_bestSum_115 : decode cX11_bestSum 115 = .ok (.ifCond .eq 67, 3) := by decide +kernel
theorem dX11_bestSum_118 : decode cX11_bestSum 118 = .ok (.aload_n 0, 1) := by decide +kernel
theorem dX11_bestSum_119 : decode cX11_bestSum 119 = .ok (.iload_n 1, 1) := by decide +kernel
theorem dX11_bestSum_120 : decode cX11_bestSum 120 = .ok (.iload 8, 2) := by decide +kernel
theorem dX11_bestSum_122 : decode cX11_bestSum 122 = .ok (.iload_n 2, 1) := by decide +kernel
theorem dX11_bestSum_123 : decode cX11_bestSum 123 = .ok (.iload_n 3, 1) := by decide +kernel
theorem dX11_bestSum_124 : decode cX11_bestSum 124 = .ok (.invokevirtual 267, 3) := by decide +kernel
theorem dX11_bestSum_127 : decode cX11_bestSum 127 = .ok (.istore 9, 2) := by decide +kernel
theorem dX11_bestSum_129 : decode cX11_bestSum 129 = .ok (.iload_n 3, 1) := by decide +kernel
theorem dX11_bestSum_130 : decode cX11_bestSum 130 = .ok (.ifCond .eq 18, 3) := by decide +kernel
theorem dX11_bestSum_133 : decode cX11_bestSum 133 = .ok (.iload 9, 2) := by decide +kernel
theorem dX11_bestSum_135 : decode cX11_bestSum 135 = .ok (.iload 7, 2) := by decide +kernel
theorem dX11_bestSum_137 : decode cX11_bestSum 137 = .ok (.if_icmp .le 7, 3) := by decide +kernel
theorem dX11_bestSum_140 : decode cX11_bestSum 140 = .ok (.iconst 1, 1) := by decide +kernel
theorem dX11_bestSum_141 : decode cX11_bestSum 141 = .ok (.goto 19, 3) := by decide +kernel
theorem dX11_bestSum_144 : decode cX11_bestSum 144 = .ok (.iconst 0, 1) := by decide +kernel
theorem dX11_bestSum_145 : decode cX11_bestSum 145 = .ok (.goto 15, 3) := by decide +kernel
theorem dX11_bestSum_148 : decode cX11_bestSum 148 = .ok (.iload 9, 2) := by decide +kernel
theorem dX11_bestSum_150 : decode cX11_bestSum 150 = .ok (.iload 7, 2) := by decide +kernel
theorem dX11_bestSum_152 : decode cX11_bestSum 152 = .ok (.if_icmp .ge 7, 3) := by decide +kernel
theorem dX11_bestSum_155 : decode cX11_bestSum 155 = .ok (.iconst 1, 1) := by decide +kernel
theorem dX11_bestSum_156 : decode cX11_bestSum 156 = .ok (.goto 4, 3) := by decide +kernel
theorem dX11_bestSum_159 : decode cX11_bestSum 159 = .ok (.iconst 0, 1) := by decide +kernel
theorem dX11_bestSum_160 : decode cX11_bestSum 160 = .ok (.istore 10, 2) := by decide +kernel
theorem dX11_bestSum_162 : decode cX11_bestSum 162 = .ok (.iload 7, 2) := by decide +kernel
theorem dX11_bestSum_164 : decode cX11_bestSum 164 = .ok (.iconst (-1), 1) := by decide +kernel
theorem dX11_bestSum_165 : decode cX11_bestSum 165 = .ok (.if_icmp .eq 8, 3) := by decide +kernel
theorem dX11_bestSum_168 : decode cX11_bestSum 168 = .ok (.iload 10, 2) := by decide +kernel
theorem dX11_bestSum_170 : decode cX11_bestSum 170 = .ok (.ifCond .eq 8, 3) := by decide +kernel
theorem dX11_bestSum_173 : decode cX11_bestSum 173 = .ok (.iload 9, 2) := by decide +kernel
theorem dX11_bestSum_175 : decode cX11_bestSum 175 = .ok (.goto 5, 3) := by decide +kernel
theorem dX11_bestSum_178 : decode cX11_bestSum 178 = .ok (.iload 7, 2) := by decide +kernel
theorem dX11_bestSum_180 : decode cX11_bestSum 180 = .ok (.istore 7, 2) := by decide +kernel
theorem dX11_bestSum_182 : decode cX11_bestSum 182 = .ok (.iinc 8 1, 3) := by decide +kernel
theorem dX11_bestSum_185 : decode cX11_bestSum 185 = .ok (.goto (-92), 3) := by decide +kernel
theorem dX11_bestSum_188 : decode cX11_bestSum 188 = .ok (.iload 5, 2) := by decide +kernel
theorem dX11_bestSum_190 : decode cX11_bestSum 190 = .ok (.iload 7, 2) := by decide +kernel
theorem dX11_bestSum_192 : decode cX11_bestSum 192 = .ok (.iadd, 1) := by decide +kernel
theorem dX11_bestSum_193 : decode cX11_bestSum 193 = .ok (.ireturn, 1) := by decide +kernel
set_option maxRecDepth 20000 in
theorem ggX11_sumBehind_X1_copyFrom : GoodIn wsX11_sumBehind wsX1_copyFrom := goodIn_r _ [8, 9, 10, 11, 12, 13, 14, 130, 131] (by decide +kernel) (by decide +kernel)
set_option maxRecDepth 20000 in
theorem gX11_sumBehind_X1_copyFrom : GoodIn wsX11_sumBehind (wsV RX11 191 RX1 yX1_copyFrom wsX1_copyFrom) := goodIn_app (goodIn_of _ (by decide +kernel)) ggX11_sumBehind_X1_copyFrom
set_option maxRecDepth 20000 in
theorem ggX11_sumBehind_X1_next : GoodIn wsX11_sumBehind wsX1_next := goodIn_r _ [18, 10, 9, 130, 131] (by decide +kernel) (by decide +kernel)
set_option maxRecDepth 20000 in
theorem gX11_sumBehind_X1_next : GoodIn wsX11_sumBehind (wsV RX11 257 RX1 yX1_next wsX1_next) := goodIn_app (goodIn_of _ (by decide +kernel)) ggX11_sumBehind_X1_next
set_option maxRecDepth 20000 in
theorem ggX11_sumBehind_X11_bestSum : GoodIn wsX11_sumBehind wsX11_bestSum := goodIn_r _ [23, 1, 2, 24, 25, 26, 27, 28, 29, 30, 31, 22, 32, 33, 34, 35, 36, 37, 38, 39, 40, 41, 42, 43, 44, 45, 46, 47, 48, 49, 50, 51, 52, 53, 54, 55, 56, 57, 58, 59, 60, 61, 62, 63, 64, 65, 66, 67, 68, 69, 70, 71, 72, 73, 74, 75, 76, 77, 78, 79, 80, 81, 82, 83, 84, 85, 86, 87, 88, 89, 90, 91, 92, 93, 94, 0, 3, 4, 5, 6, 7, 8, 9, 10, 11, 12, 13, 14, 15, 16, 17, 18, 19, 20, 21, 95, 96, 97, 98, 99, 100, 101, 102, 103, 104, 105, 106, 107, 108, 109, 110, 111, 112, 113, 114, 115, 116, 117, 118, 119, 120, 121, 122, 123, 124, 125, 126, 127, 128, 129, 130, 131] (by decide +kernel) (by decide +kernel)
set_option maxRecDepth 20000 in
theorem gX11_sumBehind_X11_bestSum : GoodIn wsX11_sumBehind (wsV RX11 231 RX11 yX11_bestSum wsX11_bestSum) := goodIn_app (goodIn_of _ (by decide +kernel)) ggX11_sumBehind_X11_bestSum
theorem dX11_sumBehind_0 : decode cX11_sumBehind 0 = .ok (.aload_n 0, 1) := by decide +kernel
theorem dX11_sumBehind_1 : decode cX11_sumBehind 1 = .ok (.getfield 44, 3) := by decide +kernel
theorem dX11_sumBehind_4 : decode cX11_sumBehind 4 = .ok (.iload_n 1, 1) := by decide +kernel
theorem dX11_sumBehind_5 : decode cX11_sumBehind 5 = .ok (.iconst 1, 1) := by decide +kernel
theorem dX11_sumBehind_6 : decode cX11_sumBehind 6 = .ok (.iadd, 1) := by decide +kernel
theorem dX11_sumBehind_7 : decode cX11_sumBehind 7 = .ok (.aaload, 1) := by decide +kernel
theorem dX11_sumBehind_8 : decode cX11_sumBehind 8 = .ok (.astore 5, 2) := by decide +kernel
theorem dX11_sumBehind_10 : decode cX11_sumBehind 10 = .ok (.aload 5, 2) := by decide +kernel
theorem dX11_sumBehind_12 : decode cX11_sumBehind 12 = .ok (.aload_n 0, 1) := by decide +kernel
theorem dX11_sumBehind_13 : decode cX11_sumBehind 13 = .ok (.getfield 44, 3) := by decide +kernel
theorem dX11_sumBehind_16 : decode cX11_sumBehind 16 = .ok (.iload_n 1, 1) := by decide +kernel
theorem dX11_sumBehind_17 : decode cX11_sumBehind 17 = .ok (.aaload, 1) := by decide +kernel
theorem dX11_sumBehind_18 : decode cX11_sumBehind 18 = .ok (.invokevirtual 191, 3) := by decide +kernel
theorem dX11_sumBehind_21 : decode cX11_sumBehind 21 = .ok (.aload 5, 2) := by decide +kernel
theorem dX11_sumBehind_23 : decode cX11_sumBehind 23 = .ok (.iload_n 2, 1) := by decide +kernel
theorem dX11_sumBehind_24 : decode cX11_sumBehind 24 = .ok (.aload_n 0, 1) := by decide +kernel
theorem dX11_sumBehind_25 : decode cX11_sumBehind 25 = .ok (.getfield 19, 3) := by decide +kernel
theorem dX11_sumBehind_28 : decode cX11_sumBehind 28 = .ok (.getfield 247, 3) := by decide +kernel
theorem dX11_sumBehind_31 : decode cX11_sumBehind 31 = .ok (.invokevirtual 257, 3) := by decide +kernel
theorem dX11_sumBehind_34 : decode cX11_sumBehind 34 = .ok (.aload_n 0, 1) := by decide +kernel
theorem dX11_sumBehind_35 : decode cX11_sumBehind 35 = .ok (.iload_n 1, 1) := by decide +kernel
theorem dX11_sumBehind_36 : decode cX11_sumBehind 36 = .ok (.iconst 1, 1) := by decide +kernel
theorem dX11_sumBehind_37 : decode cX11_sumBehind 37 = .ok (.iadd, 1) := by decide +kernel
theorem dX11_sumBehind_38 : decode cX11_sumBehind 38 = .ok (.iload_n 3, 1) := by decide +kernel
theorem dX11_sumBehind_39 : decode cX11_sumBehind 39 = .ok (.iconst 1, 1) := by decide +kernel
theorem dX11_sumBehind_40 : decode cX11_sumBehind 40 = .ok (.isub, 1) := by decide +kernel
theorem dX11_sumBehind_41 : decode cX11_sumBehind 41 = .ok (.iload 4, 2) := by decide +kernel
theorem dX11_sumBehind_43 : decode cX11_sumBehind 43 = .ok (.invokevirtual 231, 3) := by decide +kernel
theorem dX11_sumBehind_46 : decode cX11_sumBehind 46 = .ok (.ireturn, 1) := by decide +kernel
set_option maxRecDepth 20000 in
theorem ggX11_isPassedWithCarts_X11_findWay : GoodIn wsX11_isPassedWithCarts wsX11_findWay := goodIn_r _ [14, 8, 2, 15, 16, 17, 18, 19, 20, 21, 22, 23, 24, 25, 26, 27, 28, 29, 30, 31, 32, 33, 34, 35, 36, 37, 38, 39, 40, 41, 42, 43, 44, 45, 46, 47, 48, 49, 50, 51, 52, 53, 54, 55, 56, 57, 58, 59, 60, 61, 62, 63, 64, 65, 66, 67, 68, 69, 70, 71, 72, 73, 74, 75, 76, 77, 78, 79, 80, 81, 82, 83, 84, 85, 86, 87, 88, 89, 90, 91, 92, 93, 94, 105, 106, 100, 101, 102, 103, 104, 95, 96, 97, 98, 99] (by decide +kernel) (by decide +kernel)
set_option maxRecDepth 20000 in
theorem gX11_isPassedWithCarts_X11_findWay : GoodIn wsX11_isPassedWithCarts (wsV RX11 142 RX11 yX11_findWay wsX11_findWay) := goodIn_app (goodIn_of _ (by decide +kernel)) ggX11_isPassedWithCarts_X11_findWay
theorem dX11_isPassedWithCarts_0 : decode cX11_isPassedWithCarts 0 = .ok (.iconst 0, 1) := by decide +kernel
theorem dX11_isPassedWithCarts_1 : decode cX11_isPassedWithCarts 1 = .ok (.istore_n 3, 1) := by decide +kernel
theorem dX11_isPassedWithCarts_2 : decode cX11_isPassedWithCarts 2 = .ok (.iload_n 3, 1) := by decide +kernel
theorem dX11_isPassedWithCarts_3 : decode cX11_isPassedWithCarts 3 = .ok (.aload_n 0, 1) := by decide +kernel
theorem dX11_isPassedWithCarts_4 : decode cX11_isPassedWithCarts 4 = .ok (.getfield 19, 3) := by decide +kernel
theorem dX11_isPassedWithCarts_7 : decode cX11_isPassedWithCarts 7 = .ok (.getfield 115, 3) := by decide +kernel
theorem dX11_isPassedWithCarts_10 : decode cX11_isPassedWithCarts 10 = .ok (.getfield 223, 3) := by decide +kernel
theorem dX11_isPassedWithCarts_13 : decode cX11_isPassedWithCarts 13 = .ok (.if_icmp .ge 57, 3) := by decide +kernel
theorem dX11_isPassedWithCarts_16 : decode cX11_isPassedWithCarts 16 = .ok (.iload_n 2, 1) := by decide +kernel
theorem dX11_isPassedWithCarts_17 : decode cX11_isPassedWithCarts 17 = .ok (.iconst 1, 1) := by decide +kernel
theorem dX11_isPassedWithCarts_18 : decode cX11_isPassedWithCarts 18 = .ok (.iload_n 3, 1) := by decide +kernel
theorem dX11_isPassedWithCarts_19 : decode cX11_isPassedWithCarts 19 = .ok (.ishl, 1) := by decide +kernel
theorem dX11_isPassedWithCarts_20 : decode cX11_isPassedWithCarts 20 = .ok (.iand, 1) := by decide +kernel
theorem dX11_isPassedWithCarts_21 : decode cX11_isPassedWithCarts 21 = .ok (.ifCond .eq 13, 3) := by decide +kernel
theorem dX11_isPassedWithCarts_24 : decode cX11_isPassedWithCarts 24 = .ok (.aload_n 0, 1) := by decide +kernel
theorem dX11_isPassedWithCarts_25 : decode cX11_isPassedWithCarts 25 = .ok (.getfield 19, 3) := by decide +kernel
theorem dX11_isPassedWithCarts_28 : decode cX11_isPassedWithCarts 28 = .ok (.getfield 250, 3) := by decide +kernel
theorem dX11_isPassedWithCarts_31 : decode cX11_isPassedWithCarts 31 = .ok (.goto 4, 3) := by decide +kernel
theorem dX11_isPassedWithCarts_34 : decode cX11_isPassedWithCarts 34 = .ok (.iconst 0, 1) := by decide +kernel
theorem dX11_isPassedWithCarts_35 : decode cX11_isPassedWithCarts 35 = .ok (.istore 4, 2) := by decide +kernel
theorem dX11_isPassedWithCarts_37 : decode cX11_isPassedWithCarts 37 = .ok (.aload_n 0, 1) := by decide +kernel
theorem dX11_isPassedWithCarts_38 : decode cX11_isPassedWithCarts 38 = .ok (.getfield 23, 3) := by decide +kernel
theorem dX11_isPassedWithCarts_41 : decode cX11_isPassedWithCarts 41 = .ok (.getfield 115, 3) := by decide +kernel
theorem dX11_isPassedWithCarts_44 : decode cX11_isPassedWithCarts 44 = .ok (.getfield 242, 3) := by decide +kernel
theorem dX11_isPassedWithCarts_47 : decode cX11_isPassedWithCarts 47 = .ok (.iload_n 3, 1) := by decide +kernel
theorem dX11_isPassedWithCarts_48 : decode cX11_isPassedWithCarts 48 = .ok (.aload_n 0, 1) := by decide +kernel
theorem dX11_isPassedWithCarts_49 : decode cX11_isPassedWithCarts 49 = .ok (.getfield 19, 3) := by decide +kernel
theorem dX11_isPassedWithCarts_52 : decode cX11_isPassedWithCarts 52 = .ok (.getfield 115, 3) := by decide +kernel
theorem dX11_isPassedWithCarts_55 : decode cX11_isPassedWithCarts 55 = .ok (.getfield 242, 3) := by decide +kernel
theorem dX11_isPassedWithCarts_58 : decode cX11_isPassedWithCarts 58 = .ok (.iload_n 3, 1) := by decide +kernel
theorem dX11_isPassedWithCarts_59 : decode cX11_isPassedWithCarts 59 = .ok (.iaload, 1) := by decide +kernel
theorem dX11_isPassedWithCarts_60 : decode cX11_isPassedWithCarts 60 = .ok (.iload 4, 2) := by decide +kernel
theorem dX11_isPassedWithCarts_62 : decode cX11_isPassedWithCarts 62 = .ok (.iadd, 1) := by decide +kernel
theorem dX11_isPassedWithCarts_63 : decode cX11_isPassedWithCarts 63 = .ok (.iastore, 1) := by decide +kernel
theorem dX11_isPassedWithCarts_64 : decode cX11_isPassedWithCarts 64 = .ok (.iinc 3 1, 3) := by decide +kernel
theorem dX11_isPassedWithCarts_67 : decode cX11_isPassedWithCarts 67 = .ok (.goto (-65), 3) := by decide +kernel
theorem dX11_isPassedWithCarts_70 : decode cX11_isPassedWithCarts 70 = .ok (.aload_n 0, 1) := by decide +kernel
theorem dX11_isPassedWithCarts_71 : decode cX11_isPassedWithCarts 71 = .ok (.aload_n 0, 1) := by decide +kernel
theorem dX11_isPassedWithCarts_72 : decode cX11_isPassedWithCarts 72 = .ok (.getfield 23, 3) := by decide +kernel
theorem dX11_isPassedWithCarts_75 : decode cX11_isPassedWithCarts 75 = .ok (.aload_n 0, 1) := by decide +kernel
theorem dX11_isPassedWithCarts_76 : decode cX11_isPassedWithCarts 76 = .ok (.getfield 29, 3) := by decide +kernel
theorem dX11_isPassedWithCarts_79 : decode cX11_isPassedWithCarts 79 = .ok (.invokevirtual 142, 3) := by decide +kernel
theorem dX11_isPassedWithCarts_82 : decode cX11_isPassedWithCarts 82 = .ok (.aload_n 0, 1) := by decide +kernel
theorem dX11_isPassedWithCarts_83 : decode cX11_isPassedWithCarts 83 = .ok (.getfield 50, 3) := by decide +kernel
theorem dX11_isPassedWithCarts_86 : decode cX11_isPassedWithCarts 86 = .ok (.getfield 264, 3) := by decide +kernel
theorem dX11_isPassedWithCarts_89 : decode cX11_isPassedWithCarts 89 = .ok (.iconst 1, 1) := by decide +kernel
theorem dX11_isPassedWithCarts_90 : decode cX11_isPassedWithCarts 90 = .ok (.iload_n 1, 1) := by decide +kernel
theorem dX11_isPassedWithCarts_91 : decode cX11_isPassedWithCarts 91 = .ok (.ishl, 1) := by decide +kernel
theorem dX11_isPassedWithCarts_92 : decode cX11_isPassedWithCarts 92 = .ok (.iand, 1) := by decide +kernel
theorem dX11_isPassedWithCarts_93 : decode cX11_isPassedWithCarts 93 = .ok (.ifCond .eq 7, 3) := by decide +kernel
theorem dX11_isPassedWithCarts_96 : decode cX11_isPassedWithCarts 96 = .ok (.iconst 1, 1) := by decide +kernel
theorem dX11_isPassedWithCarts_97 : decode cX11_isPassedWithCarts 97 = .ok (.goto 4, 3) := by decide +kernel
theorem dX11_isPassedWithCarts_100 : decode cX11_isPassedWithCarts 100 = .ok (.iconst 0, 1) := by decide +kernel
theorem dX11_isPassedWithCarts_101 : decode cX11_isPassedWithCarts 101 = .ok (.ireturn, 1) := by decide +kernel
set_option maxRecDepth 20000 in
theorem ggX11_firstWrongNight_X1_start : GoodIn wsX11_firstWrongNight wsX1_start := goodIn_r _ [8, 9, 10, 11, 12, 13, 14, 146, 147] (by decide +kernel) (by decide +kernel)
set_option maxRecDepth 20000 in
theorem gX11_firstWrongNight_X1_start : GoodIn wsX11_firstWrongNight (wsV RX11 109 RX1 yX1_start wsX1_start) := goodIn_app (goodIn_of _ (by decide +kernel)) ggX11_firstWrongNight_X1_start
set_option maxRecDepth 20000 in
theorem ggX11_firstWrongNight_X11_passNight : GoodIn wsX11_firstWrongNight wsX11_passNight := goodIn_r _ [19, 20, 21, 22, 23, 24, 25, 18, 26, 27, 28, 29, 30, 31, 32, 33, 34, 35, 36, 37, 38, 39, 40, 41, 42, 43, 44, 45, 46, 47, 48, 49, 50, 51, 52, 53, 54, 55, 56, 57, 58, 59, 60, 61, 62, 63, 64, 65, 12, 13, 14, 66, 67, 68, 69, 70, 71, 72, 73, 74, 75, 76, 77, 78, 79, 80, 81, 82, 83, 84, 85, 86, 87, 88, 89, 90, 91, 92, 93, 94, 95, 96, 97, 98, 99, 100, 101, 102, 103, 104, 105, 106, 107, 108, 109, 110, 111, 112, 113, 114, 115, 116, 117, 118, 119, 120, 121, 122, 123, 124, 125, 126, 127, 128, 129, 130, 7, 131, 10, 9, 132, 133, 134, 135, 136, 137, 138, 139, 140, 141, 142, 143, 144, 145, 148, 149, 150, 151, 152, 153, 154, 155, 156, 157, 158, 146, 147, 159, 160, 161, 162, 163, 164, 165, 166, 167, 168] (by decide +kernel) (by decide +kernel)
set_option maxRecDepth 20000 in
theorem gX11_firstWrongNight_X11_passNight : GoodIn wsX11_firstWrongNight (wsV RX11 166 RX11 yX11_passNight wsX11_passNight) := goodIn_app (goodIn_of _ (by decide +kernel)) ggX11_firstWrongNight_X11_passNight
theorem dX11_firstWrongNight_0 : decode cX11_firstWrongNight 0 = .ok (.aload_n 0, 1) := by decide +kernel
theorem dX11_firstWrongNight_1 : decode cX11_firstWrongNight 1 = .ok (.getfield 33, 3) := by decide +kernel
theorem dX11_firstWrongNight_4 : decode cX11_firstWrongNight 4 = .ok (.invokevirtual 109, 3) := by decide +kernel
theorem dX11_firstWrongNight_7 : decode cX11_firstWrongNight 7 = .ok (.iconst 0, 1) := by decide +kernel
theorem dX11_firstWrongNight_8 : decode cX11_firstWrongNight 8 = .ok (.istore_n 2, 1) := by decide +kernel
theorem dX11_firstWrongNight_9 : decode cX11_firstWrongNight 9 = .ok (.iload_n 2, 1) := by decide +kernel
theorem dX11_firstWrongNight_10 : decode cX11_firstWrongNight 10 = .ok (.aload_n 0, 1) := by decide +kernel
theorem dX11_firstWrongNight_11 : decode cX11_firstWrongNight 11 = .ok (.getfield 76, 3) := by decide +kernel
theorem dX11_firstWrongNight_14 : decode cX11_firstWrongNight 14 = .ok (.if_icmp .ge 29, 3) := by decide +kernel
theorem dX11_firstWrongNight_17 : decode cX11_firstWrongNight 17 = .ok (.aload_n 0, 1) := by decide +kernel
theorem dX11_firstWrongNight_18 : decode cX11_firstWrongNight 18 = .ok (.aload_n 1, 1) := by decide +kernel
theorem dX11_firstWrongNight_19 : decode cX11_firstWrongNight 19 = .ok (.aload_n 0, 1) := by decide +kernel
theorem dX11_firstWrongNight_20 : decode cX11_firstWrongNight 20 = .ok (.getfield 33, 3) := by decide +kernel
theorem dX11_firstWrongNight_23 : decode cX11_firstWrongNight 23 = .ok (.invokevirtual 166, 3) := by decide +kernel
theorem dX11_firstWrongNight_26 : decode cX11_firstWrongNight 26 = .ok (.aload_n 0, 1) := by decide +kernel
theorem dX11_firstWrongNight_27 : decode cX11_firstWrongNight 27 = .ok (.getfield 72, 3) := by decide +kernel
theorem dX11_firstWrongNight_30 : decode cX11_firstWrongNight 30 = .ok (.iload_n 2, 1) := by decide +kernel
theorem dX11_firstWrongNight_31 : decode cX11_firstWrongNight 31 = .ok (.iaload, 1) := by decide +kernel
theorem dX11_firstWrongNight_32 : decode cX11_firstWrongNight 32 = .ok (.if_icmp .eq 5, 3) := by decide +kernel
theorem dX11_firstWrongNight_35 : decode cX11_firstWrongNight 35 = .ok (.iload_n 2, 1) := by decide +kernel
theorem dX11_firstWrongNight_36 : decode cX11_firstWrongNight 36 = .ok (.ireturn, 1) := by decide +kernel
theorem dX11_firstWrongNight_37 : decode cX11_firstWrongNight 37 = .ok (.iinc 2 1, 3) := by decide +kernel
theorem dX11_firstWrongNight_40 : decode cX11_firstWrongNight 40 = .ok (.goto (-31), 3) := by decide +kernel
theorem dX11_firstWrongNight_43 : decode cX11_firstWrongNight 43 = .ok (.iconst (-1), 1) := by decide +kernel
theorem dX11_firstWrongNight_44 : decode cX11_firstWrongNight 44 = .ok (.ireturn, 1) := by decide +kernel
set_option maxRecDepth 20000 in
theorem ggX12_init_X12_plain : GoodIn wsX12_init wsX12_plain := goodIn_r _ [35, 36, 37, 10, 38, 39, 11, 40, 13, 41, 42, 43, 44, 45, 46, 47, 48, 49, 50, 51, 52, 53, 54, 55, 56, 57, 58, 59, 60, 61, 62, 63, 64, 65, 66, 67, 68, 69, 70, 71, 72, 73, 74, 75, 76, 77, 78, 79, 80, 81, 82, 83, 84] (by decide +kernel) (by decide +kernel)
set_option maxRecDepth 20000 in
theorem gX12_init_X12_plain : GoodIn wsX12_init (wsV RX12 87 RX12 yX12_plain wsX12_plain) := goodIn_app (goodIn_of _ (by decide +kernel)) ggX12_init_X12_plain
theorem dX12_init_0 : decode cX12_init 0 = .ok (.aload_n 0, 1) := by decide +kernel
theorem dX12_init_1 : decode cX12_init 1 = .ok (.invokespecial 1, 3) := by decide +kernel
theorem dX12_init_4 : decode cX12_init 4 = .ok (.aload_n 0, 1) := by decide +kernel
theorem dX12_init_5 : decode cX12_init 5 = .ok (.iconst 4, 1) := by decide +kernel
theorem dX12_init_6 : decode cX12_init 6 = .ok (.putfield 7, 3) := by decide +kernel
theorem dX12_init_9 : decode cX12_init 9 = .ok (.aload_n 0, 1) := by decide +kernel
theorem dX12_init_10 : decode cX12_init 10 = .ok (.bipush 16, 2) := by decide +kernel
theorem dX12_init_12 : decode cX12_init 12 = .ok (.newarray .int, 2) := by decide +kernel
theorem dX12_init_14 : decode cX12_init 14 = .ok (.putfield 13, 3) := by decide +kernel
theorem dX12_init_17 : decode cX12_init 17 = .ok (.aload_n 0, 1) := by decide +kernel
theorem dX12_init_18 : decode cX12_init 18 = .ok (.bipush 16, 2) := by decide +kernel
theorem dX12_init_20 : decode cX12_init 20 = .ok (.newarray .int, 2) := by decide +kernel
theorem dX12_init_22 : decode cX12_init 22 = .ok (.putfield 17, 3) := by decide +kernel
theorem dX12_init_25 : decode cX12_init 25 = .ok (.aload_n 0, 1) := by decide +kernel
theorem dX12_init_26 : decode cX12_init 26 = .ok (.bipush 16, 2) := by decide +kernel
theorem dX12_init_28 : decode cX12_init 28 = .ok (.newarray .int, 2) := by decide +kernel
theorem dX12_init_30 : decode cX12_init 30 = .ok (.putfield 20, 3) := by decide +kernel
theorem dX12_init_33 : decode cX12_init 33 = .ok (.aload_n 0, 1) := by decide +kernel
theorem dX12_init_34 : decode cX12_init 34 = .ok (.bipush 12, 2) := by decide +kernel
theorem dX12_init_36 : decode cX12_init 36 = .ok (.newarray .int, 2) := by decide +kernel
theorem dX12_init_38 : decode cX12_init 38 = .ok (.putfield 23, 3) := by decide +kernel
theorem dX12_init_41 : decode cX12_init 41 = .ok (.aload_n 0, 1) := by decide +kernel
theorem dX12_init_42 : decode cX12_init 42 = .ok (.iconst 4, 1) := by decide +kernel
theorem dX12_init_43 : decode cX12_init 43 = .ok (.newarray .int, 2) := by decide +kernel
theorem dX12_init_45 : decode cX12_init 45 = .ok (.putfield 26, 3) := by decide +kernel
theorem dX12_init_48 : decode cX12_init 48 = .ok (.aload_n 0, 1) := by decide +kernel
theorem dX12_init_49 : decode cX12_init 49 = .ok (.iconst 2, 1) := by decide +kernel
theorem dX12_init_50 : decode cX12_init 50 = .ok (.putfield 29, 3) := by decide +kernel
theorem dX12_init_53 : decode cX12_init 53 = .ok (.aload_n 0, 1) := by decide +kernel
theorem dX12_init_54 : decode cX12_init 54 = .ok (.bipush 16, 2) := by decide +kernel
theorem dX12_init_56 : decode cX12_init 56 = .ok (.newarray .int, 2) := by decide +kernel
theorem dX12_init_58 : decode cX12_init 58 = .ok (.putfield 32, 3) := by decide +kernel
theorem dX12_init_61 : decode cX12_init 61 = .ok (.aload_n 0, 1) := by decide +kernel
theorem dX12_init_62 : decode cX12_init 62 = .ok (.bipush 10, 2) := by decide +kernel
theorem dX12_init_64 : decode cX12_init 64 = .ok (.putfield 35, 3) := by decide +kernel
theorem dX12_init_67 : decode cX12_init 67 = .ok (.aload_n 0, 1) := by decide +kernel
theorem dX12_init_68 : decode cX12_init 68 = .ok (.sipush 200, 3) := by decide +kernel
theorem dX12_init_71 : decode cX12_init 71 = .ok (.newarray .int, 2) := by decide +kernel
theorem dX12_init_73 : decode cX12_init 73 = .ok (.putfield 38, 3) := by decide +kernel
theorem dX12_init_76 : decode cX12_init 76 = .ok (.aload_n 0, 1) := by decide +kernel
theorem dX12_init_77 : decode cX12_init 77 = .ok (.bipush 60, 2) := by decide +kernel
theorem dX12_init_79 : decode cX12_init 79 = .ok (.newarray .int, 2) := by decide +kernel
theorem dX12_init_81 : decode cX12_init 81 = .ok (.putfield 41, 3) := by decide +kernel
theorem dX12_init_84 : decode cX12_init 84 = .ok (.aload_n 0, 1) := by decide +kernel
theorem dX12_init_85 : decode cX12_init 85 = .ok (.bipush 16, 2) := by decide +kernel
theorem dX12_init_87 : decode cX12_init 87 = .ok (.newarray .int, 2) := by decide +kernel
theorem dX12_init_89 : decode cX12_init 89 = .ok (.putfield 44, 3) := by decide +kernel
theorem dX12_init_92 : decode cX12_init 92 = .ok (.aload_n 0, 1) := by decide +kernel
theorem dX12_init_93 : decode cX12_init 93 = .ok (.bipush 17, 2) := by decide +kernel
theorem dX12_init_95 : decode cX12_init 95 = .ok (.newarray .int, 2) := by decide +kernel
theorem dX12_init_97 : decode cX12_init 97 = .ok (.putfield 47, 3) := by decide +kernel
theorem dX12_init_100 : decode cX12_init 100 = .ok (.aload_n 0, 1) := by decide +kernel
theorem dX12_init_101 : decode cX12_init 101 = .ok (.bipush 34, 2) := by decide +kernel
theorem dX12_init_103 : decode cX12_init 103 = .ok (.newarray .int, 2) := by decide +kernel
theorem dX12_init_105 : decode cX12_init 105 = .ok (.putfield 50, 3) := by decide +kernel
theorem dX12_init_108 : decode cX12_init 108 = .ok (.aload_n 0, 1) := by decide +kernel
theorem dX12_init_109 : decode cX12_init 109 = .ok (.iconst 2, 1) := by decide +kernel
theorem dX12_init_110 : decode cX12_init 110 = .ok (.newarray .boolean, 2) := by decide +kernel
theorem dX12_init_112 : decode cX12_init 112 = .ok (.putfield 53, 3) := by decide +kernel
theorem dX12_init_115 : decode cX12_init 115 = .ok (.aload_n 0, 1) := by decide +kernel
theorem dX12_init_116 : decode cX12_init 116 = .ok (.bipush 12, 2) := by decide +kernel
theorem dX12_init_118 : decode cX12_init 118 = .ok (.newarray .int, 2) := by decide +kernel
theorem dX12_init_120 : decode cX12_init 120 = .ok (.putfield 57, 3) := by decide +kernel
theorem dX12_init_123 : decode cX12_init 123 = .ok (.aload_n 0, 1) := by decide +kernel
theorem dX12_init_124 : decode cX12_init 124 = .ok (.bipush 8, 2) := by decide +kernel
theorem dX12_init_126 : decode cX12_init 126 = .ok (.newarray .int, 2) := by decide +kernel
theorem dX12_init_128 : decode cX12_init 128 = .ok (.putfield 60, 3) := by decide +kernel
theorem dX12_init_131 : decode cX12_init 131 = .ok (.aload_n 0, 1) := by decide +kernel
theorem dX12_init_132 : decode cX12_init 132 = .ok (.bipush 16, 2) := by decide +kernel
theorem dX12_init_134 : decode cX12_init 134 = .ok (.newarray .int, 2) := by decide +kernel
theorem dX12_init_136 : decode cX12_init 136 = .ok (.putfield 63, 3) := by decide +kernel
theorem dX12_init_139 : decode cX12_init 139 = .ok (.aload_n 0, 1) := by decide +kernel
theorem dX12_init_140 : decode cX12_init 140 = .ok (.sipush 13013, 3) := by decide +kernel
theorem dX12_init_143 : decode cX12_init 143 = .ok (.newarray .int, 2) := by decide +kernel
theorem dX12_init_145 : decode cX12_init 145 = .ok (.putfield 66, 3) := by decide +kernel
theorem dX12_init_148 : decode cX12_init 148 = .ok (.aload_n 0, 1) := by decide +kernel
theorem dX12_init_149 : decode cX12_init 149 = .ok (.bipush 16, 2) := by decide +kernel
theorem dX12_init_151 : decode cX12_init 151 = .ok (.newarray .int, 2) := by decide +kernel
theorem dX12_init_153 : decode cX12_init 153 = .ok (.putfield 69, 3) := by decide +kernel
theorem dX12_init_156 : decode cX12_init 156 = .ok (.aload_n 0, 1) := by decide +kernel
theorem dX12_init_157 : decode cX12_init 157 = .ok (.bipush 96, 2) := by decide +kernel
theorem dX12_init_159 : decode cX12_init 159 = .ok (.newarray .int, 2) := by decide +kernel
theorem dX12_init_161 : decode cX12_init 161 = .ok (.putfield 72, 3) := by decide +kernel
theorem dX12_init_164 : decode cX12_init 164 = .ok (.aload_n 0, 1) := by decide +kernel
theorem dX12_init_165 : decode cX12_init 165 = .ok (.bipush 72, 2) := by decide +kernel
theorem dX12_init_167 : decode cX12_init 167 = .ok (.newarray .int, 2) := by decide +kernel
theorem dX12_init_169 : decode cX12_init 169 = .ok (.putfield 75, 3) := by decide +kernel
theorem dX12_init_172 : decode cX12_init 172 = .ok (.aload_n 0, 1) := by decide +kernel
theorem dX12_init_173 : decode cX12_init 173 = .ok (.bipush 6, 2) := by decide +kernel
theorem dX12_init_175 : decode cX12_init 175 = .ok (.newarray .int, 2) := by decide +kernel
theorem dX12_init_177 : decode cX12_init 177 = .ok (.putfield 78, 3) := by decide +kernel
theorem dX12_init_180 : decode cX12_init 180 = .ok (.aload_n 0, 1) := by decide +kernel
theorem dX12_init_181 : decode cX12_init 181 = .ok (.bipush 6, 2) := by decide +kernel
theorem dX12_init_183 : decode cX12_init 183 = .ok (.newarray .int, 2) := by decide +kernel
theorem dX12_init_185 : decode cX12_init 185 = .ok (.putfield 81, 3) := by decide +kernel
theorem dX12_init_188 : decode cX12_init 188 = .ok (.aload_n 0, 1) := by decide +kernel
theorem dX12_init_189 : decode cX12_init 189 = .ok (.bipush 6, 2) := by decide +kernel
theorem dX12_init_191 : decode cX12_init 191 = .ok (.newarray .int, 2) := by decide +kernel
theorem dX12_init_193 : decode cX12_init 193 = .ok (.putfield 84, 3) := by decide +kernel
theorem dX12_init_196 : decode cX12_init 196 = .ok (.aload_n 0, 1) := by decide +kernel
theorem dX12_init_197 : decode cX12_init 197 = .ok (.invokevirtual 87, 3) := by decide +kernel
theorem dX12_init_200 : decode cX12_init 200 = .ok (.return_, 1) := by decide +kernel
theorem dX12_in_0 : decode cX12_in 0 = .ok (.iload_n 0, 1) := by decide +kernel
theorem dX12_in_1 : decode cX12_in 1 = .ok (.iload_n 1, 1) := by decide +kernel
theorem dX12_in_2 : decode cX12_in 2 = .ok (.if_icmp .lt 12, 3) := by decide +kernel
theorem dX12_in_5 : decode cX12_in 5 = .ok (.iload_n 0, 1) := by decide +kernel
theorem dX12_in_6 : decode cX12_in 6 = .ok (.iload_n 2, 1) := by decide +kernel
theorem dX12_in_7 : decode cX12_in 7 = .ok (.if_icmp .gt 7, 3) := by decide +kernel
theorem dX12_in_10 : decode cX12_in 10 = .ok (.iconst 1, 1) := by decide +kernel
theorem dX12_in_11 : decode cX12_in 11 = .ok (.goto 4, 3) := by decide +kernel
theorem dX12_in_14 : decode cX12_in 14 = .ok (.iconst 0, 1) := by decide +kernel
theorem dX12_in_15 : decode cX12_in 15 = .ok (.ireturn, 1) := by decide +kernel
theorem dX12_has_0 : decode cX12_has 0 = .ok (.iload_n 0, 1) := by decide +kernel
theorem dX12_has_1 : decode cX12_has 1 = .ok (.iload_n 1, 1) := by decide +kernel
theorem dX12_has_2 : decode cX12_has 2 = .ok (.ishr, 1) := by decide +kernel
theorem dX12_has_3 : decode cX12_has 3 = .ok (.iconst 1, 1) := by decide +kernel
theorem dX12_has_4 : decode cX12_has 4 = .ok (.iand, 1) := by decide +kernel
theorem dX12_has_5 : decode cX12_has 5 = .ok (.iconst 1, 1) := by decide +kernel
theorem dX12_has_6 : decode cX12_has 6 = .ok (.if_icmp .ne 7, 3) := by decide +kernel
theorem dX12_has_9 : decode cX12_has 9 = .ok (.iconst 1, 1) := by decide +kernel
theorem dX12_has_10 : decode cX12_has 10 = .ok (.goto 4, 3) := by decide +kernel
theorem dX12_has_13 : decode cX12_has 13 = .ok (.iconst 0, 1) := by decide +kernel
theorem dX12_has_14 : decode cX12_has 14 = .ok (.ireturn, 1) := by decide +kernel
set_option maxRecDepth 20000 in
theorem ggX12_isStreet_X12_in : GoodIn wsX12_isStreet wsX12_in := goodIn_r _ [5] (by decide +kernel) (by decide +kernel)
set_option maxRecDepth 20000 in
theorem gX12_isStreet_X12_in : GoodIn wsX12_isStreet (va_wsS RX12 93 yX12_in wsX12_in) := goodIn_app (goodIn_of _ (by decide +kernel)) ggX12_isStreet_X12_in
theorem dX12_isStreet_0 : decode cX12_isStreet 0 = .ok (.iload_n 1, 1) := by decide +kernel
theorem dX12_isStreet_1 : decode cX12_isStreet 1 = .ok (.iconst 0, 1) := by decide +kernel
theorem dX12_isStreet_2 : decode cX12_isStreet 2 = .ok (.aload_n 0, 1) := by decide +kernel
theorem dX12_isStreet_3 : decode cX12_isStreet 3 = .ok (.getfield 90, 3) := by decide +kernel
theorem dX12_isStreet_6 : decode cX12_isStreet 6 = .ok (.iconst 1, 1) := by decide +kernel
theorem dX12_isStreet_7 : decode cX12_isStreet 7 = .ok (.isub, 1) := by decide +kernel
theorem dX12_isStreet_8 : decode cX12_isStreet 8 = .ok (.invokestatic 93, 3) := by decide +kernel
theorem dX12_isStreet_11 : decode cX12_isStreet 11 = .ok (.ireturn, 1) := by decide +kernel
theorem dX12_plain_0 : decode cX12_plain 0 = .ok (.aload_n 0, 1) := by decide +kernel
theorem dX12_plain_1 : decode cX12_plain 1 = .ok (.iconst 0, 1) := by decide +kernel
theorem dX12_plain_2 : decode cX12_plain 2 = .ok (.putfield 90, 3) := by decide +kernel
theorem dX12_plain_5 : decode cX12_plain 5 = .ok (.aload_n 0, 1) := by decide +kernel
theorem dX12_plain_6 : decode cX12_plain 6 = .ok (.iconst 0, 1) := by decide +kernel
theorem dX12_plain_7 : decode cX12_plain 7 = .ok (.putfield 97, 3) := by decide +kernel
theorem dX12_plain_10 : decode cX12_plain 10 = .ok (.aload_n 0, 1) := by decide +kernel
theorem dX12_plain_11 : decode cX12_plain 11 = .ok (.getfield 26, 3) := by decide +kernel
theorem dX12_plain_14 : decode cX12_plain 14 = .ok (.iconst 0, 1) := by decide +kernel
theorem dX12_plain_15 : decode cX12_plain 15 = .ok (.iconst 0, 1) := by decide +kernel
theorem dX12_plain_16 : decode cX12_plain 16 = .ok (.iastore, 1) := by decide +kernel
theorem dX12_plain_17 : decode cX12_plain 17 = .ok (.aload_n 0, 1) := by decide +kernel
theorem dX12_plain_18 : decode cX12_plain 18 = .ok (.getfield 26, 3) := by decide +kernel
theorem dX12_plain_21 : decode cX12_plain 21 = .ok (.iconst 1, 1) := by decide +kernel
theorem dX12_plain_22 : decode cX12_plain 22 = .ok (.iconst 1, 1) := by decide +kernel
theorem dX12_plain_23 : decode cX12_plain 23 = .ok (.iastore, 1) := by decide +kernel
theorem dX12_plain_24 : decode cX12_plain 24 = .ok (.aload_n 0, 1) := by decide +kernel
theorem dX12_plain_25 : decode cX12_plain 25 = .ok (.iconst 0, 1) := by decide +kernel
theorem dX12_plain_26 : decode cX12_plain 26 = .ok (.putfield 100, 3) := by decide +kernel
theorem dX12_plain_29 : decode cX12_plain 29 = .ok (.aload_n 0, 1) := by decide +kernel
theorem dX12_plain_30 : decode cX12_plain 30 = .ok (.iconst 0, 1) := by decide +kernel
theorem dX12_plain_31 : decode cX12_plain 31 = .ok (.putfield 104, 3) := by decide +kernel
theorem dX12_plain_34 : decode cX12_plain 34 = .ok (.aload_n 0, 1) := by decide +kernel
theorem dX12_plain_35 : decode cX12_plain 35 = .ok (.iconst 2, 1) := by decide +kernel
theorem dX12_plain_36 : decode cX12_plain 36 = .ok (.putfield 29, 3) := by decide +kernel
theorem dX12_plain_39 : decode cX12_plain 39 = .ok (.aload_n 0, 1) := by decide +kernel
theorem dX12_plain_40 : decode cX12_plain 40 = .ok (.iconst 0, 1) := by decide +kernel
theorem dX12_plain_41 : decode cX12_plain 41 = .ok (.putfield 107, 3) := by decide +kernel
theorem dX12_plain_44 : decode cX12_plain 44 = .ok (.aload_n 0, 1) := by decide +kernel
theorem dX12_plain_45 : decode cX12_plain 45 = .ok (.bipush 10, 2) := by decide +kernel
theorem dX12_plain_47 : decode cX12_plain 47 = .ok (.putfield 35, 3) := by decide +kernel
theorem dX12_plain_50 : decode cX12_plain 50 = .ok (.return_, 1) := by decide +kernel
set_option maxRecDepth 20000 in
theorem ggX12_write_X12_in : GoodIn wsX12_write wsX12_in := goodIn_r _ [7] (by decide +kernel) (by decide +kernel)
set_option maxRecDepth 20000 in
theorem gX12_write_X12_in : GoodIn wsX12_write (va_wsS RX12 93 yX12_in wsX12_in) := goodIn_app (goodIn_of _ (by decide +kernel)) ggX12_write_X12_in
theorem dX12_write_0 : decode cX12_write 0 = .ok (.iload_n 3, 1) := by decide +kernel
theorem dX12_write_1 : decode cX12_write 1 = .ok (.iconst 1, 1) := by decide +kernel
theorem dX12_write_2 : decode cX12_write 2 = .ok (.bipush 8, 2) := by decide +kernel
theorem dX12_write_4 : decode cX12_write 4 = .ok (.invokestatic 93, 3) := by decide +kernel
theorem dX12_write_7 : decode cX12_write 7 = .ok (.ifCond .ne 6, 3) := by decide +kernel
theorem dX12_write_10 : decode cX12_write 10 = .ok (.bipush (-3), 2) := by decide +kernel
theorem dX12_write_12 : decode cX12_write 12 = .ok (.ireturn, 1) := by decide +kernel
theorem dX12_write_13 : decode cX12_write 13 = .ok (.aload_n 0, 1) := by decide +kernel
theorem dX12_write_14 : decode cX12_write 14 = .ok (.getfield 110, 3) := by decide +kernel
theorem dX12_write_17 : decode cX12_write 17 = .ok (.iload_n 3, 1) := by decide +kernel
theorem dX12_write_18 : decode cX12_write 18 = .ok (.iadd, 1) := by decide +kernel
theorem dX12_write_19 : decode cX12_write 19 = .ok (.sipush 200, 3) := by decide +kernel
theorem dX12_write_22 : decode cX12_write 22 = .ok (.if_icmp .le 6, 3) := by decide +kernel
theorem dX12_write_25 : decode cX12_write 25 = .ok (.bipush (-5), 2) := by decide +kernel
theorem dX12_write_27 : decode cX12_write 27 = .ok (.ireturn, 1) := by decide +kernel
theorem dX12_write_28 : decode cX12_write 28 = .ok (.iconst 0, 1) := by decide +kernel
theorem dX12_write_29 : decode cX12_write 29 = .ok (.istore 4, 2) := by decide +kernel
theorem dX12_write_31 : decode cX12_write 31 = .ok (.iload 4, 2) := by decide +kernel
theorem dX12_write_33 : decode cX12_write 33 = .ok (.iload_n 3, 1) := by decide +kernel
theorem dX12_write_34 : decode cX12_write 34 = .ok (.if_icmp .ge 33, 3) := by decide +kernel
theorem dX12_write_37 : decode cX12_write 37 = .ok (.aload_n 0, 1) := by decide +kernel
theorem dX12_write_38 : decode cX12_write 38 = .ok (.getfield 38, 3) := by decide +kernel
theorem dX12_write_41 : decode cX12_write 41 = .ok (.aload_n 0, 1) := by decide +kernel
theorem dX12_write_42 : decode cX12_write 42 = .ok (.getfield 110, 3) := by decide +kernel
theorem dX12_write_45 : decode cX12_write 45 = .ok (.iload 4, 2) := by decide +kernel
theorem dX12_write_47 : decode cX12_write 47 = .ok (.iadd, 1) := by decide +kernel
theorem dX12_write_48 : decode cX12_write 48 = .ok (.lload_n 1, 1) := by decide +kernel
theorem dX12_write_49 : decode cX12_write 49 = .ok (.bipush 8, 2) := by decide +kernel
theorem dX12_write_51 : decode cX12_write 51 = .ok (.iload 4, 2) := by decide +kernel
theorem dX12_write_53 : decode cX12_write 53 = .ok (.imul, 1) := by decide +kernel
theorem dX12_write_54 : decode cX12_write 54 = .ok (.lshr, 1) := by decide +kernel
theorem dX12_write_55 : decode cX12_write 55 = .ok (.ldc2_w 113, 3) := by decide +kernel
theorem dX12_write_58 : decode cX12_write 58 = .ok (.land, 1) := by decide +kernel
theorem dX12_write_59 : decode cX12_write 59 = .ok (.l2i, 1) := by decide +kernel
theorem dX12_write_60 : decode cX12_write 60 = .ok (.iastore, 1) := by decide +kernel
theorem dX12_write_61 : decode cX12_write 61 = .ok (.iinc 4 1, 3) := by decide +kernel
theorem dX12_write_64 : decode cX12_write 64 = .ok (.goto (-33), 3) := by decide +kernel
theorem dX12_write_67 : decode cX12_write 67 = .ok (.aload_n 0, 1) := by decide +kernel
theorem dX12_write_68 : decode cX12_write 68 = .ok (.dup, 1) := by decide +kernel
theorem dX12_write_69 : decode cX12_write 69 = .ok (.getfield 110, 3) := by decide +kernel
theorem dX12_write_72 : decode cX12_write 72 = .ok (.iload_n 3, 1) := by decide +kernel
theorem dX12_write_73 : decode cX12_write 73 = .ok (.iadd, 1) := by decide +kernel
theorem dX12_write_74 : decode cX12_write 74 = .ok (.putfield 110, 3) := by decide +kernel
theorem dX12_write_77 : decode cX12_write 77 = .ok (.aload_n 0, 1) := by decide +kernel
theorem dX12_write_78 : decode cX12_write 78 = .ok (.getfield 110, 3) := by decide +kernel
theorem dX12_write_81 : decode cX12_write 81 = .ok (.ireturn, 1) := by decide +kernel
theorem dX12_erase_0 : decode cX12_erase 0 = .ok (.aload_n 0, 1) := by decide +kernel
theorem dX12_erase_1 : decode cX12_erase 1 = .ok (.getfield 110, 3) := by decide +kernel
theorem dX12_erase_4 : decode cX12_erase 4 = .ok (.istore_n 1, 1) := by decide +kernel
theorem dX12_erase_5 : decode cX12_erase 5 = .ok (.aload_n 0, 1) := by decide +kernel
theorem dX12_erase_6 : decode cX12_erase 6 = .ok (.iconst 0, 1) := by decide +kernel
theorem dX12_erase_7 : decode cX12_erase 7 = .ok (.putfield 110, 3) := by decide +kernel
theorem dX12_erase_10 : decode cX12_erase 10 = .ok (.iload_n 1, 1) := by decide +kernel
theorem dX12_erase_11 : decode cX12_erase 11 = .ok (.ireturn, 1) := by decide +kernel
set_option maxRecDepth 20000 in
theorem ggX12_nextToken_X12_in : GoodIn wsX12_nextToken wsX12_in := goodIn_r _ [17] (by decide +kernel) (by decide +kernel)
set_option maxRecDepth 20000 in
theorem gX12_nextToken_X12_in : GoodIn wsX12_nextToken (va_wsS RX12 93 yX12_in wsX12_in) := goodIn_app (goodIn_of _ (by decide +kernel)) ggX12_nextToken_X12_in
theorem dX12_nextToken_0 : decode cX12_nextToken 0 = .ok (.aload_n 0, 1) := by decide +kernel
theorem dX12_nextToken_1 : decode cX12_nextToken 1 = .ok (.getfield 115, 3) := by decide +kernel
theorem dX12_nextToken_4 : decode cX12_nextToken 4 = .ok (.aload_n 0, 1) := by decide +kernel
theorem dX12_nextToken_5 : decode cX12_nextToken 5 = .ok (.getfield 110, 3) := by decide +kernel
theorem dX12_nextToken_8 : decode cX12_nextToken 8 = .ok (.if_icmp .ge 30, 3) := by decide +kernel
theorem dX12_nextToken_11 : decode cX12_nextToken 11 = .ok (.aload_n 0, 1) := by decide +kernel
theorem dX12_nextToken_12 : decode cX12_nextToken 12 = .ok (.getfield 38, 3) := by decide +kernel
theorem dX12_nextToken_15 : decode cX12_nextToken 15 = .ok (.aload_n 0, 1) := by decide +kernel
theorem dX12_nextToken_16 : decode cX12_nextToken 16 = .ok (.getfield 115, 3) := by decide +kernel
theorem dX12_nextToken_19 : decode cX12_nextToken 19 = .ok (.iaload, 1) := by decide +kernel
theorem dX12_nextToken_20 : decode cX12_nextToken 20 = .ok (.bipush 32, 2) := by decide +kernel
theorem dX12_nextToken_22 : decode cX12_nextToken 22 = .ok (.if_icmp .ne 16, 3) := by decide +kernel
theorem dX12_nextToken_25 : decode cX12_nextToken 25 = .ok (.aload_n 0, 1) := by decide +kernel
theorem dX12_nextToken_26 : decode cX12_nextToken 26 = .ok (.dup, 1) := by decide +kernel
theorem dX12_nextToken_27 : decode cX12_nextToken 27 = .ok (.getfield 115, 3) := by decide +kernel
theorem dX12_nextToken_30 : decode cX12_nextToken 30 = .ok (.iconst 1, 1) := by decide +kernel
theorem dX12_nextToken_31 : decode cX12_nextToken 31 = .ok (.iadd, 1) := by decide +kernel
theorem dX12_nextToken_32 : decode cX12_nextToken 32 = .ok (.putfield 115, 3) := by decide +kernel
theorem dX12_nextToken_35 : decode cX12_nextToken 35 = .ok (.goto (-35), 3) := by decide +kernel
theorem dX12_nextToken_38 : decode cX12_nextToken 38 = .ok (.aload_n 0, 1) := by decide +kernel
theorem dX12_nextToken_39 : decode cX12_nextToken 39 = .ok (.aload_n 0, 1) := by decide +kernel
theorem dX12_nextToken_40 : decode cX12_nextToken 40 = .ok (.getfield 115, 3) := by decide +kernel
theorem dX12_nextToken_43 : decode cX12_nextToken 43 = .ok (.putfield 118, 3) := by decide +kernel
theorem dX12_nextToken_46 : decode cX12_nextToken 46 = .ok (.aload_n 0, 1) := by decide +kernel
theorem dX12_nextToken_47 : decode cX12_nextToken 47 = .ok (.iconst 0, 1) := by decide +kernel
theorem dX12_nextToken_48 : decode cX12_nextToken 48 = .ok (.putfield 121, 3) := by decide +kernel
theorem dX12_nextToken_51 : decode cX12_nextToken 51 = .ok (.aload_n 0, 1) := by decide +kernel
theorem dX12_nextToken_52 : decode cX12_nextToken 52 = .ok (.iconst 0, 1) := by decide +kernel
theorem dX12_nextToken_53 : decode cX12_nextToken 53 = .ok (.putfield 124, 3) := by decide +kernel
theorem dX12_nextToken_56 : decode cX12_nextToken 56 = .ok (.aload_n 0, 1) := by decide +kernel
theorem dX12_nextToken_57 : decode cX12_nextToken 57 = .ok (.getfield 115, 3) := by decide +kernel
theorem dX12_nextToken_60 : decode cX12_nextToken 60 = .ok (.aload_n 0, 1) := by decide +kernel
theorem dX12_nextToken_61 : decode cX12_nextToken 61 = .ok (.getfield 110, 3) := by decide +kernel
theorem dX12_nextToken_64 : decode cX12_nextToken 64 = .ok (.if_icmp .ne 13, 3) := by decide +kernel
theorem dX12_nextToken_67 : decode cX12_nextToken 67 = .ok (.aload_n 0, 1) := by decide +kernel
theorem dX12_nextToken_68 : decode cX12_nextToken 68 = .ok (.ldc2_w 127, 3) := by decide +kernel
theorem dX12_nextToken_71 : decode cX12_nextToken 71 = .ok (.putfield 129, 3) := by decide +kernel
theorem dX12_nextToken_74 : decode cX12_nextToken 74 = .ok (.goto 320, 3) := by decide +kernel
theorem dX12_nextToken_77 : decode cX12_nextToken 77 = .ok (.aload_n 0, 1) := by decide +kernel
theorem dX12_nextToken_78 : decode cX12_nextToken 78 = .ok (.getfield 38, 3) := by decide +kernel
theorem dX12_nextToken_81 : decode cX12_nextToken 81 = .ok (.aload_n 0, 1) := by decide +kernel
theorem dX12_nextToken_82 : decode cX12_nextToken 82 = .ok (.getfield 115, 3) := by decide +kernel
theorem dX12_nextToken_85 : decode cX12_nextToken 85 = .ok (.iaload, 1) := by decide +kernel
theorem dX12_nextToken_86 : decode cX12_nextToken 86 = .ok (.bipush 97, 2) := by decide +kernel
theorem dX12_nextToken_88 : decode cX12_nextToken 88 = .ok (.bipush 122, 2) := by decide +kernel
theorem dX12_nextToken_90 : decode cX12_nextToken 90 = .ok (.invokestatic 93, 3) := by decide +kernel
theorem dX12_nextToken_93 : decode cX12_nextToken 93 = .ok (.ifCond .eq 129, 3) := by decide +kernel
theorem dX12_nextToken_96 : decode cX12_nextToken 96 = .ok (.aload_n 0, 1) := by decide +kernel
theorem dX12_nextToken_97 : decode cX12_nextToken 97 = .ok (.lconst 0, 1) := by decide +kernel
theorem dX12_nextToken_98 : decode cX12_nextToken 98 = .ok (.putfield 129, 3) := by decide +kernel
theorem dX12_nextToken_101 : decode cX12_nextToken 101 = .ok (.aload_n 0, 1) := by decide +kernel
theorem dX12_nextToken_102 : decode cX12_nextToken 102 = .ok (.getfield 115, 3) := by decide +kernel
theorem dX12_nextToken_105 : decode cX12_nextToken 105 = .ok (.aload_n 0, 1) := by decide +kernel
theorem dX12_nextToken_106 : decode cX12_nextToken 106 = .ok (.getfield 110, 3) := by decide +kernel
theorem dX12_nextToken_109 : decode cX12_nextToken 109 = .ok (.if_icmp .ge 82, 3) := by decide +kernel
theorem dX12_nextToken_112 : decode cX12_nextToken 112 = .ok (.aload_n 0, 1) := by decide +kernel
theorem dX12_nextToken_113 : decode cX12_nextToken 113 = .ok (.getfield 38, 3) := by decide +kernel
theorem dX12_nextToken_116 : decode cX12_nextToken 116 = .ok (.aload_n 0, 1) := by decide +kernel
theorem dX12_nextToken_117 : decode cX12_nextToken 117 = .ok (.getfield 115, 3) := by decide +kernel
theorem dX12_nextToken_120 : decode cX12_nextToken 120 = .ok (.iaload, 1) := by decide +kernel
theorem dX12_nextToken_121 : decode cX12_nextToken 121 = .ok (.bipush 97, 2) := by decide +kernel
theorem dX12_nextToken_123 : decode cX12_nextToken 123 = .ok (.bipush 122, 2) := by decide +kernel
theorem dX12_nextToken_125 : decode cX12_nextToken 125 = .ok (.invokestatic 93, 3) := by decide +kernel
theorem dX12_nextToken_128 : decode cX12_nextToken 128 = .ok (.ifCond .eq 63, 3) := by decide +kernel
theorem dX12_nextToken_131 : decode cX12_nextToken 131 = .ok (.aload_n 0, 1) := by decide +kernel
theorem dX12_nextToken_132 : decode cX12_nextToken 132 = .ok (.aload_n 0, 1) := by decide +kernel
theorem dX12_nextToken_133 : decode cX12_nextToken 133 = .ok (.getfield 115, 3) := by decide +kernel
theorem dX12_nextToken_136 : decode cX12_nextToken 136 = .ok (.aload_n 0, 1) := by decide +kernel
theorem dX12_nextToken_137 : decode cX12_nextToken 137 = .ok (.getfield 118, 3) := by decide +kernel
theorem dX12_nextToken_140 : decode cX12_nextToken 140 = .ok (.isub, 1) := by decide +kernel
theorem dX12_nextToken_141 : decode cX12_nextToken 141 = .ok (.bipush 9, 2) := by decide +kernel
theorem dX12_nextToken_143 : decode cX12_nextToken 143 = .ok (.if_icmp .ge 29, 3) := by decide +kernel
theorem dX12_nextToken_146 : decode cX12_nextToken 146 = .ok (.ldc2_w 133, 3) := by decide +kernel
theorem dX12_nextToken_149 : decode cX12_nextToken 149 = .ok (.aload_n 0, 1) := by decide +kernel
theorem dX12_nextToken_150 : decode cX12_nextToken 150 = .ok (.getfield 129, 3) := by decide +kernel
theorem dX12_nextToken_153 : decode cX12_nextToken 153 = .ok (.lmul, 1) := by decide +kernel
theorem dX12_nextToken_154 : decode cX12_nextToken 154 = .ok (.aload_n 0, 1) := by decide +kernel
theorem dX12_nextToken_155 : decode cX12_nextToken 155 = .ok (.getfield 38, 3) := by decide +kernel
theorem dX12_nextToken_158 : decode cX12_nextToken 158 = .ok (.aload_n 0, 1) := by decide +kernel
theorem dX12_nextToken_159 : decode cX12_nextToken 159 = .ok (.getfield 115, 3) := by decide +kernel
theorem dX12_nextToken_162 : decode cX12_nextToken 162 = .ok (.iaload, 1) := by decide +kernel
theorem dX12_nextToken_163 : decode cX12_nextToken 163 = .ok (.i2l, 1) := by decide +kernel
theorem dX12_nextToken_164 : decode cX12_nextToken 164 = .ok (.ladd, 1) := by decide +kernel
theorem dX12_nextToken_165 : decode cX12_nextToken 165 = .ok (.ldc2_w 135, 3) := by decide +kernel
theorem dX12_nextToken_168 : decode cX12_nextToken 168 = .ok (.lsub, 1) := by decide +kernel
theorem dX12_nextToken_169 : decode cX12_nextToken 169 = .ok (.goto 6, 3) := by decide +kernel
theorem dX12_nextToken_172 : decode cX12_nextToken 172 = .ok (.ldc2_w 137, 3) := by decide +kernel
theorem dX12_nextToken_175 : decode cX12_nextToken 175 = .ok (.putfield 129, 3) := by decide +kernel
theorem dX12_nextToken_178 : decode cX12_nextToken 178 = .ok (.aload_n 0, 1) := by decide +kernel
theorem dX12_nextToken_179 : decode cX12_nextToken 179 = .ok (.dup, 1) := by decide +kernel
theorem dX12_nextToken_180 : decode cX12_nextToken 180 = .ok (.getfield 115, 3) := by decide +kernel
theorem dX12_nextToken_183 : decode cX12_nextToken 183 = .ok (.iconst 1, 1) := by decide +kernel
theorem dX12_nextToken_184 : decode cX12_nextToken 184 = .ok (.iadd, 1) := by decide +kernel
theorem dX12_nextToken_185 : decode cX12_nextToken 185 = .ok (.putfield 115, 3) := by decide +kernel
theorem dX12_nextToken_188 : decode cX12_nextToken 188 = .ok (.goto (-87), 3) := by decide +kernel
theorem dX12_nextToken_191 : decode cX12_nextToken 191 = .ok (.aload_n 0, 1) := by decide +kernel
theorem dX12_nextToken_192 : decode cX12_nextToken 192 = .ok (.aload_n 0, 1) := by decide +kernel
theorem dX12_nextToken_193 : decode cX12_nextToken 193 = .ok (.getfield 115, 3) := by decide +kernel
theorem dX12_nextToken_196 : decode cX12_nextToken 196 = .ok (.aload_n 0, 1) := by decide +kernel
theorem dX12_nextToken_197 : decode cX12_nextToken 197 = .ok (.getfield 118, 3) := by decide +kernel
theorem dX12_nextToken_200 : decode cX12_nextToken 200 = .ok (.isub, 1) := by decide +kernel
theorem dX12_nextToken_201 : decode cX12_nextToken 201 = .ok (.bipush 9, 2) := by decide +kernel
theorem dX12_nextToken_203 : decode cX12_nextToken 203 = .ok (.if_icmp .le 9, 3) := by decide +kernel
theorem dX12_nextToken_206 : decode cX12_nextToken 206 = .ok (.ldc2_w 137, 3) := by decide +kernel
theorem dX12_nextToken_209 : decode cX12_nextToken 209 = .ok (.goto 7, 3) := by decide +kernel
theorem dX12_nextToken_212 : decode cX12_nextToken 212 = .ok (.aload_n 0, 1) := by decide +kernel
theorem dX12_nextToken_213 : decode cX12_nextToken 213 = .ok (.getfield 129, 3) := by decide +kernel
theorem dX12_nextToken_216 : decode cX12_nextToken 216 = .ok (.putfield 129, 3) := by decide +kernel
theorem dX12_nextToken_219 : decode cX12_nextToken 219 = .ok (.goto 175, 3) := by decide +kernel
theorem dX12_nextToken_222 : decode cX12_nextToken 222 = .ok (.aload_n 0, 1) := by decide +kernel
theorem dX12_nextToken_223 : decode cX12_nextToken 223 = .ok (.getfield 38, 3) := by decide +kernel
theorem dX12_nextToken_226 : decode cX12_nextToken 226 = .ok (.aload_n 0, 1) := by decide +kernel
theorem dX12_nextToken_227 : decode cX12_nextToken 227 = .ok (.getfield 115, 3) := by decide +kernel
theorem dX12_nextToken_230 : decode cX12_nextToken 230 = .ok (.iaload, 1) := by decide +kernel
theorem dX12_nextToken_231 : decode cX12_nextToken 231 = .ok (.bipush 48, 2) := by decide +kernel
theorem dX12_nextToken_233 : decode cX12_nextToken 233 = .ok (.bipush 57, 2) := by decide +kernel
theorem dX12_nextToken_235 : decode cX12_nextToken 235 = .ok (.invokestatic 93, 3) := by decide +kernel
theorem dX12_nextToken_238 : decode cX12_nextToken 238 = .ok (.ifCond .eq 119, 3) := by decide +kernel
theorem dX12_nextToken_241 : decode cX12_nextToken 241 = .ok (.aload_n 0, 1) := by decide +kernel
theorem dX12_nextToken_242 : decode cX12_nextToken 242 = .ok (.getfield 115, 3) := by decide +kernel
theorem dX12_nextToken_245 : decode cX12_nextToken 245 = .ok (.aload_n 0, 1) := by decide +kernel
theorem dX12_nextToken_246 : decode cX12_nextToken 246 = .ok (.getfield 110, 3) := by decide +kernel
theorem dX12_nextToken_249 : decode cX12_nextToken 249 = .ok (.if_icmp .ge 84, 3) := by decide +kernel
theorem dX12_nextToken_252 : decode cX12_nextToken 252 = .ok (.aload_n 0, 1) := by decide +kernel
theorem dX12_nextToken_253 : decode cX12_nextToken 253 = .ok (.getfield 38, 3) := by decide +kernel
theorem dX12_nextToken_256 : decode cX12_nextToken 256 = .ok (.aload_n 0, 1) := by decide +kernel
theorem dX12_nextToken_257 : decode cX12_nextToken 257 = .ok (.getfield 115, 3) := by decide +kernel
theorem dX12_nextToken_260 : decode cX12_nextToken 260 = .ok (.iaload, 1) := by decide +kernel
theorem dX12_nextToken_261 : decode cX12_nextToken 261 = .ok (.bipush 48, 2) := by decide +kernel
theorem dX12_nextToken_263 : decode cX12_nextToken 263 = .ok (.bipush 57, 2) := by decide +kernel
theorem dX12_nextToken_265 : decode cX12_nextToken 265 = .ok (.invokestatic 93, 3) := by decide +kernel
theorem dX12_nextToken_268 : decode cX12_nextToken 268 = .ok (.ifCond .eq 65, 3) := by decide +kernel
theorem dX12_nextToken_271 : decode cX12_nextToken 271 = .ok (.aload_n 0, 1) := by decide +kernel
theorem dX12_nextToken_272 : decode cX12_nextToken 272 = .ok (.aload_n 0, 1) := by decide +kernel
theorem dX12_nextToken_273 : decode cX12_nextToken 273 = .ok (.getfield 121, 3) := by decide +kernel
theorem dX12_nextToken_276 : decode cX12_nextToken 276 = .ok (.iconst 2, 1) := by decide +kernel
theorem dX12_nextToken_277 : decode cX12_nextToken 277 = .ok (.if_icmp .ge 26, 3) := by decide +kernel
theorem dX12_nextToken_280 : decode cX12_nextToken 280 = .ok (.bipush 10, 2) := by decide +kernel
theorem dX12_nextToken_282 : decode cX12_nextToken 282 = .ok (.aload_n 0, 1) := by decide +kernel
theorem dX12_nextToken_283 : decode cX12_nextToken 283 = .ok (.getfield 124, 3) := by decide +kernel
theorem dX12_nextToken_286 : decode cX12_nextToken 286 = .ok (.imul, 1) := by decide +kernel
theorem dX12_nextToken_287 : decode cX12_nextToken 287 = .ok (.aload_n 0, 1) := by decide +kernel
theorem dX12_nextToken_288 : decode cX12_nextToken 288 = .ok (.getfield 38, 3) := by decide +kernel
