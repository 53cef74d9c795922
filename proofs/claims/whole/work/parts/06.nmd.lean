set_option maxRecDepth 20000 in
theorem ggX9_init_X5_init : GoodIn wsX9_init wsX5_init := goodIn_r _ [36, 37, 2, 3, 38, 39, 40, 105, 106] (by decide +kernel) (by decide +kernel)
set_option maxRecDepth 20000 in
theorem gX9_init_X5_init_n13 : GoodIn wsX9_init (wsX5_init) := ggX9_init_X5_init
set_option maxRecDepth 20000 in
theorem ggX9_init_X0_init : GoodIn wsX9_init wsX0_init := goodIn_r _ [42, 43, 2, 3, 38, 44, 45, 46, 47, 114, 115, 116] (by decide +kernel) (by decide +kernel)
set_option maxRecDepth 20000 in
theorem gX9_init_X0_init_n24 : GoodIn wsX9_init (wsX0_init) := ggX9_init_X0_init
set_option maxRecDepth 20000 in
theorem ggX9_init_X3_init : GoodIn wsX9_init wsX3_init := goodIn_r _ [49, 50, 2, 3, 38, 51, 52, 53, 117, 118, 119] (by decide +kernel) (by decide +kernel)
set_option maxRecDepth 20000 in
theorem gX9_init_X3_init_n31 : GoodIn wsX9_init (wsX3_init) := ggX9_init_X3_init
set_option maxRecDepth 20000 in
theorem ggX9_init_X1_init : GoodIn wsX9_init wsX1_init := goodIn_r _ [56, 57, 2, 3, 38, 58, 59, 60, 61, 62, 63, 45, 64, 65, 66, 67, 68, 120, 121, 122, 123, 124, 125, 126, 127, 128, 129, 130] (by decide +kernel) (by decide +kernel)
set_option maxRecDepth 20000 in
theorem gX9_init_X1_init : GoodIn wsX9_init (wsX1_init) := ggX9_init_X1_init
set_option maxRecDepth 20000 in
theorem ggX9_init_X4_init : GoodIn wsX9_init wsX4_init := goodIn_r _ [71, 72, 2, 3, 73, 131] (by decide +kernel) (by decide +kernel)
set_option maxRecDepth 20000 in
theorem gX9_init_X4_init : GoodIn wsX9_init (wsX4_init) := ggX9_init_X4_init
set_option maxRecDepth 20000 in
theorem ggX9_init_X2_init : GoodIn wsX9_init wsX2_init := goodIn_r _ [76, 77, 2, 3, 78, 79, 132, 133] (by decide +kernel) (by decide +kernel)
set_option maxRecDepth 20000 in
theorem gX9_init_X2_init : GoodIn wsX9_init (wsX2_init) := ggX9_init_X2_init
set_option maxRecDepth 20000 in
theorem ggX9_init_X6_init : GoodIn wsX9_init wsX6_init := goodIn_r _ [82, 83, 2, 3, 84, 85, 86, 87, 88, 89, 90, 91, 92, 93, 94, 95, 38, 96, 97, 142, 143, 144, 134, 135, 136, 137] (by decide +kernel) (by decide +kernel)
set_option maxRecDepth 20000 in
theorem gX9_init_X6_init : GoodIn wsX9_init (wsX6_init) := ggX9_init_X6_init
set_option maxRecDepth 20000 in
theorem ggX9_init_X8_init : GoodIn wsX9_init wsX8_init := goodIn_r _ [99, 100, 2, 3, 88, 101, 102, 103, 38, 104, 138, 139, 140, 141] (by decide +kernel) (by decide +kernel)
set_option maxRecDepth 20000 in
theorem gX9_init_X8_init_n64 : GoodIn wsX9_init (wsX8_init) := ggX9_init_X8_init
theorem dX9_init_0 : decode cX9_init 0 = .ok (.aload_n 0, 1) := by decide +kernel
theorem dX9_init_1 : decode cX9_init 1 = .ok (.invokespecial 5, 3) := by decide +kernel
theorem dX9_init_4 : decode cX9_init 4 = .ok (.aload_n 0, 1) := by decide +kernel
theorem dX9_init_5 : decode cX9_init 5 = .ok (.new 11, 3) := by decide +kernel
theorem dX9_init_8 : decode cX9_init 8 = .ok (.dup, 1) := by decide +kernel
theorem dX9_init_9 : decode cX9_init 9 = .ok (.invokespecial 13, 3) := by decide +kernel
theorem dX9_init_12 : decode cX9_init 12 = .ok (.putfield 14, 3) := by decide +kernel
theorem dX9_init_15 : decode cX9_init 15 = .ok (.aload_n 0, 1) := by decide +kernel
theorem dX9_init_16 : decode cX9_init 16 = .ok (.bipush 6, 2) := by decide +kernel
theorem dX9_init_18 : decode cX9_init 18 = .ok (.anewarray 18, 3) := by decide +kernel
theorem dX9_init_21 : decode cX9_init 21 = .ok (.putfield 20, 3) := by decide +kernel
theorem dX9_init_24 : decode cX9_init 24 = .ok (.iconst 0, 1) := by decide +kernel
theorem dX9_init_25 : decode cX9_init 25 = .ok (.istore_n 1, 1) := by decide +kernel
theorem dX9_init_26 : decode cX9_init 26 = .ok (.iload_n 1, 1) := by decide +kernel
theorem dX9_init_27 : decode cX9_init 27 = .ok (.bipush 6, 2) := by decide +kernel
theorem dX9_init_29 : decode cX9_init 29 = .ok (.if_icmp .ge 22, 3) := by decide +kernel
theorem dX9_init_32 : decode cX9_init 32 = .ok (.aload_n 0, 1) := by decide +kernel
theorem dX9_init_33 : decode cX9_init 33 = .ok (.getfield 20, 3) := by decide +kernel
theorem dX9_init_36 : decode cX9_init 36 = .ok (.iload_n 1, 1) := by decide +kernel
theorem dX9_init_37 : decode cX9_init 37 = .ok (.new 18, 3) := by decide +kernel
theorem dX9_init_40 : decode cX9_init 40 = .ok (.dup, 1) := by decide +kernel
theorem dX9_init_41 : decode cX9_init 41 = .ok (.invokespecial 24, 3) := by decide +kernel
theorem dX9_init_44 : decode cX9_init 44 = .ok (.aastore, 1) := by decide +kernel
theorem dX9_init_45 : decode cX9_init 45 = .ok (.iinc 1 1, 3) := by decide +kernel
theorem dX9_init_48 : decode cX9_init 48 = .ok (.goto (-22), 3) := by decide +kernel
theorem dX9_init_51 : decode cX9_init 51 = .ok (.aload_n 0, 1) := by decide +kernel
theorem dX9_init_52 : decode cX9_init 52 = .ok (.new 18, 3) := by decide +kernel
theorem dX9_init_55 : decode cX9_init 55 = .ok (.dup, 1) := by decide +kernel
theorem dX9_init_56 : decode cX9_init 56 = .ok (.invokespecial 24, 3) := by decide +kernel
theorem dX9_init_59 : decode cX9_init 59 = .ok (.putfield 25, 3) := by decide +kernel
theorem dX9_init_62 : decode cX9_init 62 = .ok (.new 29, 3) := by decide +kernel
theorem dX9_init_65 : decode cX9_init 65 = .ok (.dup, 1) := by decide +kernel
theorem dX9_init_66 : decode cX9_init 66 = .ok (.invokespecial 31, 3) := by decide +kernel
theorem dX9_init_69 : decode cX9_init 69 = .ok (.astore_n 1, 1) := by decide +kernel
theorem dX9_init_70 : decode cX9_init 70 = .ok (.new 32, 3) := by decide +kernel
theorem dX9_init_73 : decode cX9_init 73 = .ok (.dup, 1) := by decide +kernel
theorem dX9_init_74 : decode cX9_init 74 = .ok (.aload_n 1, 1) := by decide +kernel
theorem dX9_init_75 : decode cX9_init 75 = .ok (.invokespecial 34, 3) := by decide +kernel
theorem dX9_init_78 : decode cX9_init 78 = .ok (.astore_n 2, 1) := by decide +kernel
theorem dX9_init_79 : decode cX9_init 79 = .ok (.aload_n 0, 1) := by decide +kernel
theorem dX9_init_80 : decode cX9_init 80 = .ok (.new 37, 3) := by decide +kernel
theorem dX9_init_83 : decode cX9_init 83 = .ok (.dup, 1) := by decide +kernel
theorem dX9_init_84 : decode cX9_init 84 = .ok (.aload_n 2, 1) := by decide +kernel
theorem dX9_init_85 : decode cX9_init 85 = .ok (.invokespecial 39, 3) := by decide +kernel
theorem dX9_init_88 : decode cX9_init 88 = .ok (.putfield 42, 3) := by decide +kernel
theorem dX9_init_91 : decode cX9_init 91 = .ok (.aload_n 0, 1) := by decide +kernel
theorem dX9_init_92 : decode cX9_init 92 = .ok (.new 46, 3) := by decide +kernel
theorem dX9_init_95 : decode cX9_init 95 = .ok (.dup, 1) := by decide +kernel
theorem dX9_init_96 : decode cX9_init 96 = .ok (.aload_n 2, 1) := by decide +kernel
theorem dX9_init_97 : decode cX9_init 97 = .ok (.aload_n 1, 1) := by decide +kernel
theorem dX9_init_98 : decode cX9_init 98 = .ok (.invokespecial 48, 3) := by decide +kernel
theorem dX9_init_101 : decode cX9_init 101 = .ok (.putfield 51, 3) := by decide +kernel
theorem dX9_init_104 : decode cX9_init 104 = .ok (.aload_n 0, 1) := by decide +kernel
theorem dX9_init_105 : decode cX9_init 105 = .ok (.new 55, 3) := by decide +kernel
theorem dX9_init_108 : decode cX9_init 108 = .ok (.dup, 1) := by decide +kernel
theorem dX9_init_109 : decode cX9_init 109 = .ok (.aload_n 2, 1) := by decide +kernel
theorem dX9_init_110 : decode cX9_init 110 = .ok (.invokespecial 57, 3) := by decide +kernel
theorem dX9_init_113 : decode cX9_init 113 = .ok (.putfield 58, 3) := by decide +kernel
theorem dX9_init_116 : decode cX9_init 116 = .ok (.aload_n 0, 1) := by decide +kernel
theorem dX9_init_117 : decode cX9_init 117 = .ok (.new 62, 3) := by decide +kernel
theorem dX9_init_120 : decode cX9_init 120 = .ok (.dup, 1) := by decide +kernel
theorem dX9_init_121 : decode cX9_init 121 = .ok (.invokespecial 64, 3) := by decide +kernel
theorem dX9_init_124 : decode cX9_init 124 = .ok (.putfield 65, 3) := by decide +kernel
theorem dX9_init_127 : decode cX9_init 127 = .ok (.return_, 1) := by decide +kernel
set_option maxRecDepth 20000 in
theorem ggX9_place_X9_isPlace : GoodIn wsX9_place wsX9_isPlace := goodIn_r _ [5] (by decide +kernel) (by decide +kernel)
set_option maxRecDepth 20000 in
theorem gX9_place_X9_isPlace : GoodIn wsX9_place (va_wsS RX9 69 yX9_isPlace wsX9_isPlace) := goodIn_app (goodIn_of _ (by decide +kernel)) ggX9_place_X9_isPlace
set_option maxRecDepth 20000 in
theorem ggX9_place_X9_isTelling : GoodIn wsX9_place wsX9_isTelling := goodIn_r _ [8] (by decide +kernel) (by decide +kernel)
set_option maxRecDepth 20000 in
theorem gX9_place_X9_isTelling : GoodIn wsX9_place (va_wsS RX9 73 yX9_isTelling wsX9_isTelling) := goodIn_app (goodIn_of _ (by decide +kernel)) ggX9_place_X9_isTelling
set_option maxRecDepth 20000 in
theorem ggX9_place_X5_put : GoodIn wsX9_place wsX5_put := goodIn_r _ [13, 14, 15, 3, 4, 5, 23, 24] (by decide +kernel) (by decide +kernel)
set_option maxRecDepth 20000 in
theorem gX9_place_X5_put : GoodIn wsX9_place (wsV RX9 76 RX5 yX5_put wsX5_put) := goodIn_app (goodIn_of _ (by decide +kernel)) ggX9_place_X5_put
theorem dX9_place_0 : decode cX9_place 0 = .ok (.iload_n 1, 1) := by decide +kernel
theorem dX9_place_1 : decode cX9_place 1 = .ok (.invokestatic 69, 3) := by decide +kernel
theorem dX9_place_4 : decode cX9_place 4 = .ok (.ifCond .eq 17, 3) := by decide +kernel
theorem dX9_place_7 : decode cX9_place 7 = .ok (.iload_n 2, 1) := by decide +kernel
theorem dX9_place_8 : decode cX9_place 8 = .ok (.invokestatic 69, 3) := by decide +kernel
theorem dX9_place_11 : decode cX9_place 11 = .ok (.ifCond .eq 10, 3) := by decide +kernel
theorem dX9_place_14 : decode cX9_place 14 = .ok (.iload_n 3, 1) := by decide +kernel
theorem dX9_place_15 : decode cX9_place 15 = .ok (.invokestatic 69, 3) := by decide +kernel
theorem dX9_place_18 : decode cX9_place 18 = .ok (.ifCond .ne 5, 3) := by decide +kernel
theorem dX9_place_21 : decode cX9_place 21 = .ok (.iconst (-1), 1) := by decide +kernel
theorem dX9_place_22 : decode cX9_place 22 = .ok (.ireturn, 1) := by decide +kernel
theorem dX9_place_23 : decode cX9_place 23 = .ok (.iload 4, 2) := by decide +kernel
theorem dX9_place_25 : decode cX9_place 25 = .ok (.invokestatic 73, 3) := by decide +kernel
theorem dX9_place_28 : decode cX9_place 28 = .ok (.ifCond .ne 6, 3) := by decide +kernel
theorem dX9_place_31 : decode cX9_place 31 = .ok (.bipush (-2), 2) := by decide +kernel
theorem dX9_place_33 : decode cX9_place 33 = .ok (.ireturn, 1) := by decide +kernel
theorem dX9_place_34 : decode cX9_place 34 = .ok (.iload_n 1, 1) := by decide +kernel
theorem dX9_place_35 : decode cX9_place 35 = .ok (.ifCond .ne 10, 3) := by decide +kernel
theorem dX9_place_38 : decode cX9_place 38 = .ok (.iload_n 2, 1) := by decide +kernel
theorem dX9_place_39 : decode cX9_place 39 = .ok (.ifCond .eq 6, 3) := by decide +kernel
theorem dX9_place_42 : decode cX9_place 42 = .ok (.bipush (-3), 2) := by decide +kernel
theorem dX9_place_44 : decode cX9_place 44 = .ok (.ireturn, 1) := by decide +kernel
theorem dX9_place_45 : decode cX9_place 45 = .ok (.aload_n 0, 1) := by decide +kernel
theorem dX9_place_46 : decode cX9_place 46 = .ok (.getfield 14, 3) := by decide +kernel
theorem dX9_place_49 : decode cX9_place 49 = .ok (.iload_n 1, 1) := by decide +kernel
theorem dX9_place_50 : decode cX9_place 50 = .ok (.iload_n 2, 1) := by decide +kernel
theorem dX9_place_51 : decode cX9_place 51 = .ok (.iload_n 3, 1) := by decide +kernel
theorem dX9_place_52 : decode cX9_place 52 = .ok (.iload 4, 2) := by decide +kernel
theorem dX9_place_54 : decode cX9_place 54 = .ok (.invokevirtual 76, 3) := by decide +kernel
theorem dX9_place_57 : decode cX9_place 57 = .ok (.iconst 1, 1) := by decide +kernel
theorem dX9_place_58 : decode cX9_place 58 = .ok (.ireturn, 1) := by decide +kernel
set_option maxRecDepth 20000 in
theorem ggX9_ofPlace_X9_isPlace : GoodIn wsX9_ofPlace wsX9_isPlace := goodIn_r _ [5] (by decide +kernel) (by decide +kernel)
set_option maxRecDepth 20000 in
theorem gX9_ofPlace_X9_isPlace : GoodIn wsX9_ofPlace (va_wsS RX9 69 yX9_isPlace wsX9_isPlace) := goodIn_app (goodIn_of _ (by decide +kernel)) ggX9_ofPlace_X9_isPlace
set_option maxRecDepth 20000 in
theorem ggX9_ofPlace_X5_toldAt : GoodIn wsX9_ofPlace wsX5_toldAt := goodIn_r _ [10, 11, 3, 4, 5, 24, 25] (by decide +kernel) (by decide +kernel)
set_option maxRecDepth 20000 in
theorem gX9_ofPlace_X5_toldAt : GoodIn wsX9_ofPlace (wsV RX9 80 RX5 yX5_toldAt wsX5_toldAt) := goodIn_app (goodIn_of _ (by decide +kernel)) ggX9_ofPlace_X5_toldAt
set_option maxRecDepth 20000 in
theorem ggX9_ofPlace_X5_goesOn : GoodIn wsX9_ofPlace wsX5_goesOn := goodIn_r _ [15, 16, 3, 4, 5, 24, 25] (by decide +kernel) (by decide +kernel)
set_option maxRecDepth 20000 in
theorem gX9_ofPlace_X5_goesOn : GoodIn wsX9_ofPlace (wsV RX9 84 RX5 yX5_goesOn wsX5_goesOn) := goodIn_app (goodIn_of _ (by decide +kernel)) ggX9_ofPlace_X5_goesOn
theorem dX9_ofPlace_0 : decode cX9_ofPlace 0 = .ok (.iload_n 1, 1) := by decide +kernel
theorem dX9_ofPlace_1 : decode cX9_ofPlace 1 = .ok (.invokestatic 69, 3) := by decide +kernel
theorem dX9_ofPlace_4 : decode cX9_ofPlace 4 = .ok (.ifCond .ne 5, 3) := by decide +kernel
theorem dX9_ofPlace_7 : decode cX9_ofPlace 7 = .ok (.iconst (-1), 1) := by decide +kernel
theorem dX9_ofPlace_8 : decode cX9_ofPlace 8 = .ok (.ireturn, 1) := by decide +kernel
theorem dX9_ofPlace_9 : decode cX9_ofPlace 9 = .ok (.iload_n 2, 1) := by decide +kernel
theorem dX9_ofPlace_10 : decode cX9_ofPlace 10 = .ok (.ifCond .lt 8, 3) := by decide +kernel
theorem dX9_ofPlace_13 : decode cX9_ofPlace 13 = .ok (.iload_n 2, 1) := by decide +kernel
theorem dX9_ofPlace_14 : decode cX9_ofPlace 14 = .ok (.iconst 2, 1) := by decide +kernel
theorem dX9_ofPlace_15 : decode cX9_ofPlace 15 = .ok (.if_icmp .le 6, 3) := by decide +kernel
theorem dX9_ofPlace_18 : decode cX9_ofPlace 18 = .ok (.bipush (-2), 2) := by decide +kernel
theorem dX9_ofPlace_20 : decode cX9_ofPlace 20 = .ok (.ireturn, 1) := by decide +kernel
theorem dX9_ofPlace_21 : decode cX9_ofPlace 21 = .ok (.iload_n 2, 1) := by decide +kernel
theorem dX9_ofPlace_22 : decode cX9_ofPlace 22 = .ok (.iconst 2, 1) := by decide +kernel
theorem dX9_ofPlace_23 : decode cX9_ofPlace 23 = .ok (.if_icmp .ne 14, 3) := by decide +kernel
theorem dX9_ofPlace_26 : decode cX9_ofPlace 26 = .ok (.aload_n 0, 1) := by decide +kernel
theorem dX9_ofPlace_27 : decode cX9_ofPlace 27 = .ok (.getfield 14, 3) := by decide +kernel
theorem dX9_ofPlace_30 : decode cX9_ofPlace 30 = .ok (.iload_n 1, 1) := by decide +kernel
theorem dX9_ofPlace_31 : decode cX9_ofPlace 31 = .ok (.invokevirtual 80, 3) := by decide +kernel
theorem dX9_ofPlace_34 : decode cX9_ofPlace 34 = .ok (.goto 12, 3) := by decide +kernel
theorem dX9_ofPlace_37 : decode cX9_ofPlace 37 = .ok (.aload_n 0, 1) := by decide +kernel
theorem dX9_ofPlace_38 : decode cX9_ofPlace 38 = .ok (.getfield 14, 3) := by decide +kernel
theorem dX9_ofPlace_41 : decode cX9_ofPlace 41 = .ok (.iload_n 1, 1) := by decide +kernel
theorem dX9_ofPlace_42 : decode cX9_ofPlace 42 = .ok (.iload_n 2, 1) := by decide +kernel
theorem dX9_ofPlace_43 : decode cX9_ofPlace 43 = .ok (.invokevirtual 84, 3) := by decide +kernel
theorem dX9_ofPlace_46 : decode cX9_ofPlace 46 = .ok (.ireturn, 1) := by decide +kernel
set_option maxRecDepth 20000 in
theorem ggX9_row_X9_isTold : GoodIn wsX9_row wsX9_isTold := goodIn_r _ [5, 6] (by decide +kernel) (by decide +kernel)
set_option maxRecDepth 20000 in
theorem gX9_row_X9_isTold : GoodIn wsX9_row (va_wsS RX9 88 yX9_isTold wsX9_isTold) := goodIn_app (goodIn_of _ (by decide +kernel)) ggX9_row_X9_isTold
set_option maxRecDepth 20000 in
theorem ggX9_row_X5_toldOf : GoodIn wsX9_row wsX5_toldOf := goodIn_r _ [11, 12, 13, 14, 10, 15, 16, 17, 4, 18, 19, 20, 21, 22, 23, 31, 32] (by decide +kernel) (by decide +kernel)
set_option maxRecDepth 20000 in
theorem gX9_row_X5_toldOf : GoodIn wsX9_row (wsV RX9 91 RX5 yX5_toldOf wsX5_toldOf) := goodIn_app (goodIn_of _ (by decide +kernel)) ggX9_row_X5_toldOf
theorem dX9_row_0 : decode cX9_row 0 = .ok (.iload_n 1, 1) := by decide +kernel
theorem dX9_row_1 : decode cX9_row 1 = .ok (.invokestatic 88, 3) := by decide +kernel
theorem dX9_row_4 : decode cX9_row 4 = .ok (.ifCond .ne 6, 3) := by decide +kernel
theorem dX9_row_7 : decode cX9_row 7 = .ok (.bipush (-2), 2) := by decide +kernel
theorem dX9_row_9 : decode cX9_row 9 = .ok (.ireturn, 1) := by decide +kernel
theorem dX9_row_10 : decode cX9_row 10 = .ok (.aload_n 0, 1) := by decide +kernel
theorem dX9_row_11 : decode cX9_row 11 = .ok (.getfield 14, 3) := by decide +kernel
theorem dX9_row_14 : decode cX9_row 14 = .ok (.iload_n 1, 1) := by decide +kernel
theorem dX9_row_15 : decode cX9_row 15 = .ok (.invokevirtual 91, 3) := by decide +kernel
theorem dX9_row_18 : decode cX9_row 18 = .ok (.ireturn, 1) := by decide +kernel
set_option maxRecDepth 20000 in
theorem ggX9_equal_X9_isClaim : GoodIn wsX9_equal wsX9_isClaim := goodIn_r _ [6] (by decide +kernel) (by decide +kernel)
set_option maxRecDepth 20000 in
theorem gX9_equal_X9_isClaim : GoodIn wsX9_equal (va_wsS RX9 94 yX9_isClaim wsX9_isClaim) := goodIn_app (goodIn_of _ (by decide +kernel)) ggX9_equal_X9_isClaim
set_option maxRecDepth 20000 in
theorem ggX9_equal_X9_areTwoNumbers : GoodIn wsX9_equal wsX9_areTwoNumbers := goodIn_r _ [9, 10, 11, 5, 12] (by decide +kernel) (by decide +kernel)
set_option maxRecDepth 20000 in
theorem gX9_equal_X9_areTwoNumbers : GoodIn wsX9_equal (va_wsS RX9 97 yX9_areTwoNumbers wsX9_areTwoNumbers) := goodIn_app (goodIn_of _ (by decide +kernel)) ggX9_equal_X9_areTwoNumbers
set_option maxRecDepth 20000 in
theorem ggX9_equal_X4_makeEqual : GoodIn wsX9_equal wsX4_makeEqual := goodIn_r _ [17, 18, 19, 20, 21, 16, 22, 23, 24, 25, 26, 27, 28, 29, 30, 31, 32, 33, 34, 35, 36, 37, 38, 39, 40, 41, 42, 43, 44, 45, 46, 47, 48, 5, 49, 50, 51, 52, 53, 54, 55, 56, 57, 58, 59, 60, 61, 62, 63, 64, 65, 66, 67, 68, 69, 70, 71, 72, 73, 74, 75, 76, 77, 78, 79, 80, 81, 82, 83, 84, 85, 86, 87, 88, 89, 90, 91, 92, 93, 94, 95, 96, 97, 98, 99, 100, 101, 102, 103, 104, 105, 106, 107, 108, 109, 110, 111, 112, 113, 114, 115, 116, 117, 118, 119, 120, 121, 122, 123, 124, 125, 126, 127, 128, 129, 130, 131, 132, 133, 134, 135, 136, 137, 138, 139, 140, 141, 142, 143, 144, 145, 146, 147, 148, 149, 150, 151, 159, 160, 161, 162, 163, 164, 165, 166, 167, 168, 169, 170, 171, 172, 173, 174, 175, 176] (by decide +kernel) (by decide +kernel)
set_option maxRecDepth 20000 in
theorem gX9_equal_X4_makeEqual : GoodIn wsX9_equal (wsV RX9 101 RX4 yX4_makeEqual wsX4_makeEqual) := goodIn_app (goodIn_of _ (by decide +kernel)) ggX9_equal_X4_makeEqual
theorem dX9_equal_0 : decode cX9_equal 0 = .ok (.iload_n 1, 1) := by decide +kernel
theorem dX9_equal_1 : decode cX9_equal 1 = .ok (.invokestatic 94, 3) := by decide +kernel
theorem dX9_equal_4 : decode cX9_equal 4 = .ok (.ifCond .eq 11, 3) := by decide +kernel
theorem dX9_equal_7 : decode cX9_equal 7 = .ok (.iload_n 2, 1) := by decide +kernel
theorem dX9_equal_8 : decode cX9_equal 8 = .ok (.iload_n 3, 1) := by decide +kernel
theorem dX9_equal_9 : decode cX9_equal 9 = .ok (.invokestatic 97, 3) := by decide +kernel
theorem dX9_equal_12 : decode cX9_equal 12 = .ok (.ifCond .ne 5, 3) := by decide +kernel
theorem dX9_equal_15 : decode cX9_equal 15 = .ok (.iconst (-1), 1) := by decide +kernel
theorem dX9_equal_16 : decode cX9_equal 16 = .ok (.ireturn, 1) := by decide +kernel
theorem dX9_equal_17 : decode cX9_equal 17 = .ok (.aload_n 0, 1) := by decide +kernel
theorem dX9_equal_18 : decode cX9_equal 18 = .ok (.getfield 42, 3) := by decide +kernel
theorem dX9_equal_21 : decode cX9_equal 21 = .ok (.aload_n 0, 1) := by decide +kernel
theorem dX9_equal_22 : decode cX9_equal 22 = .ok (.getfield 20, 3) := by decide +kernel
theorem dX9_equal_25 : decode cX9_equal 25 = .ok (.iload_n 1, 1) := by decide +kernel
theorem dX9_equal_26 : decode cX9_equal 26 = .ok (.aaload, 1) := by decide +kernel
theorem dX9_equal_27 : decode cX9_equal 27 = .ok (.iload_n 2, 1) := by decide +kernel
theorem dX9_equal_28 : decode cX9_equal 28 = .ok (.iload_n 3, 1) := by decide +kernel
theorem dX9_equal_29 : decode cX9_equal 29 = .ok (.invokevirtual 101, 3) := by decide +kernel
theorem dX9_equal_32 : decode cX9_equal 32 = .ok (.ireturn, 1) := by decide +kernel
set_option maxRecDepth 20000 in
theorem ggX9_less_X9_isClaim : GoodIn wsX9_less wsX9_isClaim := goodIn_r _ [6] (by decide +kernel) (by decide +kernel)
set_option maxRecDepth 20000 in
theorem gX9_less_X9_isClaim : GoodIn wsX9_less (va_wsS RX9 94 yX9_isClaim wsX9_isClaim) := goodIn_app (goodIn_of _ (by decide +kernel)) ggX9_less_X9_isClaim
set_option maxRecDepth 20000 in
theorem ggX9_less_X9_areTwoNumbers : GoodIn wsX9_less wsX9_areTwoNumbers := goodIn_r _ [9, 10, 11, 5, 12] (by decide +kernel) (by decide +kernel)
set_option maxRecDepth 20000 in
theorem gX9_less_X9_areTwoNumbers : GoodIn wsX9_less (va_wsS RX9 97 yX9_areTwoNumbers wsX9_areTwoNumbers) := goodIn_app (goodIn_of _ (by decide +kernel)) ggX9_less_X9_areTwoNumbers
set_option maxRecDepth 20000 in
theorem ggX9_less_X4_makeLess : GoodIn wsX9_less wsX4_makeLess := goodIn_r _ [17, 18, 19, 20, 21, 16, 22, 23, 24, 25, 26, 27, 28, 29, 30, 31, 32, 33, 34, 35, 36, 37, 38, 39, 40, 41, 42, 43, 44, 45, 46, 47, 48, 5, 49, 50, 51, 52, 53, 54, 55, 56, 57, 58, 59, 60, 61, 62, 63, 64, 65, 66, 67, 68, 69, 70, 71, 72, 73, 74, 75, 76, 77, 78, 79, 80, 81, 82, 83, 84, 85, 86, 87, 88, 89, 90, 91, 92, 93, 94, 95, 96, 97, 98, 99, 100, 101, 102, 103, 104, 105, 106, 107, 108, 109, 110, 111, 112, 113, 114, 115, 116, 117, 118, 119, 120, 121, 122, 123, 124, 125, 126, 127, 128, 129, 130, 131, 132, 133, 134, 135, 136, 137, 138, 139, 140, 141, 142, 143, 144, 145, 146, 147, 148, 149, 150, 151, 159, 160, 161, 162, 163, 164, 165, 166, 167, 168, 169, 170, 171, 172, 173, 174, 175, 176] (by decide +kernel) (by decide +kernel)
set_option maxRecDepth 20000 in
theorem gX9_less_X4_makeLess : GoodIn wsX9_less (wsV RX9 105 RX4 yX4_makeLess wsX4_makeLess) := goodIn_app (goodIn_of _ (by decide +kernel)) ggX9_less_X4_makeLess
theorem dX9_less_0 : decode cX9_less 0 = .ok (.iload_n 1, 1) := by decide +kernel
theorem dX9_less_1 : decode cX9_less 1 = .ok (.invokestatic 94, 3) := by decide +kernel
theorem dX9_less_4 : decode cX9_less 4 = .ok (.ifCond .eq 11, 3) := by decide +kernel
theorem dX9_less_7 : decode cX9_less 7 = .ok (.iload_n 2, 1) := by decide +kernel
theorem dX9_less_8 : decode cX9_less 8 = .ok (.iload_n 3, 1) := by decide +kernel
theorem dX9_less_9 : decode cX9_less 9 = .ok (.invokestatic 97, 3) := by decide +kernel
theorem dX9_less_12 : decode cX9_less 12 = .ok (.ifCond .ne 5, 3) := by decide +kernel
theorem dX9_less_15 : decode cX9_less 15 = .ok (.iconst (-1), 1) := by decide +kernel
theorem dX9_less_16 : decode cX9_less 16 = .ok (.ireturn, 1) := by decide +kernel
theorem dX9_less_17 : decode cX9_less 17 = .ok (.aload_n 0, 1) := by decide +kernel
theorem dX9_less_18 : decode cX9_less 18 = .ok (.getfield 42, 3) := by decide +kernel
theorem dX9_less_21 : decode cX9_less 21 = .ok (.aload_n 0, 1) := by decide +kernel
theorem dX9_less_22 : decode cX9_less 22 = .ok (.getfield 20, 3) := by decide +kernel
theorem dX9_less_25 : decode cX9_less 25 = .ok (.iload_n 1, 1) := by decide +kernel
theorem dX9_less_26 : decode cX9_less 26 = .ok (.aaload, 1) := by decide +kernel
theorem dX9_less_27 : decode cX9_less 27 = .ok (.iload_n 2, 1) := by decide +kernel
theorem dX9_less_28 : decode cX9_less 28 = .ok (.iload_n 3, 1) := by decide +kernel
theorem dX9_less_29 : decode cX9_less 29 = .ok (.invokevirtual 105, 3) := by decide +kernel
theorem dX9_less_32 : decode cX9_less 32 = .ok (.ireturn, 1) := by decide +kernel
set_option maxRecDepth 20000 in
theorem ggX9_sum_X9_isClaim : GoodIn wsX9_sum wsX9_isClaim := goodIn_r _ [6] (by decide +kernel) (by decide +kernel)
set_option maxRecDepth 20000 in
theorem gX9_sum_X9_isClaim : GoodIn wsX9_sum (va_wsS RX9 94 yX9_isClaim wsX9_isClaim) := goodIn_app (goodIn_of _ (by decide +kernel)) ggX9_sum_X9_isClaim
set_option maxRecDepth 20000 in
theorem ggX9_sum_X9_areTwoNumbers : GoodIn wsX9_sum wsX9_areTwoNumbers := goodIn_r _ [9, 10, 11, 5, 12] (by decide +kernel) (by decide +kernel)
set_option maxRecDepth 20000 in
theorem gX9_sum_X9_areTwoNumbers : GoodIn wsX9_sum (va_wsS RX9 97 yX9_areTwoNumbers wsX9_areTwoNumbers) := goodIn_app (goodIn_of _ (by decide +kernel)) ggX9_sum_X9_areTwoNumbers
set_option maxRecDepth 20000 in
theorem ggX9_sum_X4_makeSum : GoodIn wsX9_sum wsX4_makeSum := goodIn_r _ [17, 18, 19, 20, 21, 16, 22, 23, 24, 25, 26, 27, 28, 29, 30, 31, 32, 33, 34, 35, 36, 37, 38, 39, 40, 41, 42, 43, 44, 45, 46, 47, 48, 5, 49, 50, 51, 52, 53, 54, 55, 56, 57, 58, 59, 60, 61, 62, 63, 64, 65, 66, 67, 68, 69, 70, 71, 72, 73, 74, 75, 76, 77, 78, 79, 80, 81, 82, 83, 84, 85, 86, 87, 88, 89, 90, 91, 92, 93, 94, 95, 96, 97, 98, 99, 100, 101, 102, 103, 104, 105, 106, 107, 108, 109, 110, 111, 112, 113, 114, 115, 116, 117, 118, 119, 120, 121, 122, 123, 124, 125, 126, 127, 128, 129, 130, 131, 132, 133, 134, 135, 136, 137, 138, 139, 140, 141, 142, 143, 144, 145, 146, 147, 148, 149, 150, 151, 159, 160, 161, 162, 163, 164, 165, 166, 167, 168, 169, 170, 171, 172, 173, 174, 175, 176] (by decide +kernel) (by decide +kernel)
set_option maxRecDepth 20000 in
theorem gX9_sum_X4_makeSum : GoodIn wsX9_sum (wsV RX9 108 RX4 yX4_makeSum wsX4_makeSum) := goodIn_app (goodIn_of _ (by decide +kernel)) ggX9_sum_X4_makeSum
theorem dX9_sum_0 : decode cX9_sum 0 = .ok (.iload_n 1, 1) := by decide +kernel
theorem dX9_sum_1 : decode cX9_sum 1 = .ok (.invokestatic 94, 3) := by decide +kernel
theorem dX9_sum_4 : decode cX9_sum 4 = .ok (.ifCond .eq 11, 3) := by decide +kernel
theorem dX9_sum_7 : decode cX9_sum 7 = .ok (.iload_n 2, 1) := by decide +kernel
theorem dX9_sum_8 : decode cX9_sum 8 = .ok (.iload_n 3, 1) := by decide +kernel
theorem dX9_sum_9 : decode cX9_sum 9 = .ok (.invokestatic 97, 3) := by decide +kernel
theorem dX9_sum_12 : decode cX9_sum 12 = .ok (.ifCond .ne 5, 3) := by decide +kernel
theorem dX9_sum_15 : decode cX9_sum 15 = .ok (.iconst (-1), 1) := by decide +kernel
theorem dX9_sum_16 : decode cX9_sum 16 = .ok (.ireturn, 1) := by decide +kernel
theorem dX9_sum_17 : decode cX9_sum 17 = .ok (.aload_n 0, 1) := by decide +kernel
theorem dX9_sum_18 : decode cX9_sum 18 = .ok (.getfield 42, 3) := by decide +kernel
theorem dX9_sum_21 : decode cX9_sum 21 = .ok (.aload_n 0, 1) := by decide +kernel
theorem dX9_sum_22 : decode cX9_sum 22 = .ok (.getfield 20, 3) := by decide +kernel
theorem dX9_sum_25 : decode cX9_sum 25 = .ok (.iload_n 1, 1) := by decide +kernel
theorem dX9_sum_26 : decode cX9_sum 26 = .ok (.aaload, 1) := by decide +kernel
theorem dX9_sum_27 : decode cX9_sum 27 = .ok (.iload_n 2, 1) := by decide +kernel
theorem dX9_sum_28 : decode cX9_sum 28 = .ok (.iload_n 3, 1) := by decide +kernel
theorem dX9_sum_29 : decode cX9_sum 29 = .ok (.invokevirtual 108, 3) := by decide +kernel
theorem dX9_sum_32 : decode cX9_sum 32 = .ok (.ireturn, 1) := by decide +kernel
set_option maxRecDepth 20000 in
theorem ggX9_is_X9_isClaim : GoodIn wsX9_is wsX9_isClaim := goodIn_r _ [7] (by decide +kernel) (by decide +kernel)
set_option maxRecDepth 20000 in
theorem gX9_is_X9_isClaim : GoodIn wsX9_is (va_wsS RX9 94 yX9_isClaim wsX9_isClaim) := goodIn_app (goodIn_of _ (by decide +kernel)) ggX9_is_X9_isClaim
set_option maxRecDepth 20000 in
theorem ggX9_is_X9_isNumber : GoodIn wsX9_is wsX9_isNumber := goodIn_r _ [10] (by decide +kernel) (by decide +kernel)
set_option maxRecDepth 20000 in
theorem gX9_is_X9_isNumber : GoodIn wsX9_is (va_wsS RX9 111 yX9_isNumber wsX9_isNumber) := goodIn_app (goodIn_of _ (by decide +kernel)) ggX9_is_X9_isNumber
set_option maxRecDepth 20000 in
theorem ggX9_is_X4_makeFixed : GoodIn wsX9_is wsX4_makeFixed := goodIn_r _ [15, 16, 17, 18, 14, 19, 20, 21, 22, 23, 24, 25, 26, 27, 28, 29, 30, 31, 32, 33, 34, 35, 36, 37, 38, 39, 40, 41, 42, 43, 44, 45, 46, 47, 48, 49, 6, 50, 51, 52, 53, 54, 55, 56, 57, 58, 59, 60, 61, 62, 63, 64, 65, 66, 67, 68, 69, 70, 71, 72, 73, 74, 75, 76, 77, 78, 79, 80, 81, 82, 83, 84, 85, 86, 87, 88, 89, 90, 91, 92, 93, 94, 95, 96, 97, 98, 99, 100, 101, 102, 103, 104, 105, 106, 107, 108, 109, 110, 111, 112, 113, 114, 115, 116, 117, 118, 119, 120, 121, 122, 123, 124, 125, 126, 127, 128, 129, 130, 131, 132, 133, 134, 135, 136, 137, 138, 139, 140, 141, 142, 143, 144, 145, 146, 147, 148, 149, 150, 151, 152, 153, 154, 155, 163, 164, 165, 166, 167, 168, 169, 170, 171, 172, 173, 174, 175, 176, 177, 178, 179, 180] (by decide +kernel) (by decide +kernel)
set_option maxRecDepth 20000 in
theorem gX9_is_X4_makeFixed : GoodIn wsX9_is (wsV RX9 115 RX4 yX4_makeFixed wsX4_makeFixed) := goodIn_app (goodIn_of _ (by decide +kernel)) ggX9_is_X4_makeFixed
theorem dX9_is_0 : decode cX9_is 0 = .ok (.iload_n 1, 1) := by decide +kernel
theorem dX9_is_1 : decode cX9_is 1 = .ok (.invokestatic 94, 3) := by decide +kernel
theorem dX9_is_4 : decode cX9_is 4 = .ok (.ifCond .eq 10, 3) := by decide +kernel
theorem dX9_is_7 : decode cX9_is 7 = .ok (.iload_n 2, 1) := by decide +kernel
theorem dX9_is_8 : decode cX9_is 8 = .ok (.invokestatic 111, 3) := by decide +kernel
theorem dX9_is_11 : decode cX9_is 11 = .ok (.ifCond .ne 5, 3) := by decide +kernel
theorem dX9_is_14 : decode cX9_is 14 = .ok (.iconst (-1), 1) := by decide +kernel
theorem dX9_is_15 : decode cX9_is 15 = .ok (.ireturn, 1) := by decide +kernel
theorem dX9_is_16 : decode cX9_is 16 = .ok (.iload_n 3, 1) := by decide +kernel
theorem dX9_is_17 : decode cX9_is 17 = .ok (.ifCond .lt 9, 3) := by decide +kernel
theorem dX9_is_20 : decode cX9_is 20 = .ok (.iload_n 3, 1) := by decide +kernel
theorem dX9_is_21 : decode cX9_is 21 = .ok (.ldc 114, 2) := by decide +kernel
theorem dX9_is_23 : decode cX9_is 23 = .ok (.if_icmp .le 6, 3) := by decide +kernel
theorem dX9_is_26 : decode cX9_is 26 = .ok (.bipush (-2), 2) := by decide +kernel
theorem dX9_is_28 : decode cX9_is 28 = .ok (.ireturn, 1) := by decide +kernel
theorem dX9_is_29 : decode cX9_is 29 = .ok (.aload_n 0, 1) := by decide +kernel
theorem dX9_is_30 : decode cX9_is 30 = .ok (.getfield 42, 3) := by decide +kernel
theorem dX9_is_33 : decode cX9_is 33 = .ok (.aload_n 0, 1) := by decide +kernel
theorem dX9_is_34 : decode cX9_is 34 = .ok (.getfield 20, 3) := by decide +kernel
theorem dX9_is_37 : decode cX9_is 37 = .ok (.iload_n 1, 1) := by decide +kernel
theorem dX9_is_38 : decode cX9_is 38 = .ok (.aaload, 1) := by decide +kernel
theorem dX9_is_39 : decode cX9_is 39 = .ok (.iload_n 2, 1) := by decide +kernel
theorem dX9_is_40 : decode cX9_is 40 = .ok (.iload_n 3, 1) := by decide +kernel
theorem dX9_is_41 : decode cX9_is 41 = .ok (.invokevirtual 115, 3) := by decide +kernel
theorem dX9_is_44 : decode cX9_is 44 = .ok (.ireturn, 1) := by decide +kernel
set_option maxRecDepth 20000 in
theorem ggX9_tells_X9_isClaim : GoodIn wsX9_tells wsX9_isClaim := goodIn_r _ [7] (by decide +kernel) (by decide +kernel)
set_option maxRecDepth 20000 in
theorem gX9_tells_X9_isClaim : GoodIn wsX9_tells (va_wsS RX9 94 yX9_isClaim wsX9_isClaim) := goodIn_app (goodIn_of _ (by decide +kernel)) ggX9_tells_X9_isClaim
set_option maxRecDepth 20000 in
theorem ggX9_tells_X9_isNumber : GoodIn wsX9_tells wsX9_isNumber := goodIn_r _ [10] (by decide +kernel) (by decide +kernel)
set_option maxRecDepth 20000 in
theorem gX9_tells_X9_isNumber : GoodIn wsX9_tells (va_wsS RX9 111 yX9_isNumber wsX9_isNumber) := goodIn_app (goodIn_of _ (by decide +kernel)) ggX9_tells_X9_isNumber
set_option maxRecDepth 20000 in
theorem ggX9_tells_X9_isTelling : GoodIn wsX9_tells wsX9_isTelling := goodIn_r _ [13] (by decide +kernel) (by decide +kernel)
set_option maxRecDepth 20000 in
theorem gX9_tells_X9_isTelling : GoodIn wsX9_tells (va_wsS RX9 73 yX9_isTelling wsX9_isTelling) := goodIn_app (goodIn_of _ (by decide +kernel)) ggX9_tells_X9_isTelling
set_option maxRecDepth 20000 in
theorem ggX9_tells_X4_makeTells : GoodIn wsX9_tells wsX4_makeTells := goodIn_r _ [18, 19, 20, 21, 22, 17, 23, 24, 25, 26, 27, 28, 29, 30, 31, 32, 33, 34, 35, 36, 37, 38, 39, 40, 41, 42, 43, 44, 45, 46, 47, 48, 49, 6, 50, 51, 52, 53, 54, 55, 56, 57, 58, 59, 60, 61, 62, 63, 64, 65, 66, 67, 68, 69, 70, 71, 72, 73, 74, 75, 76, 77, 78, 79, 80, 81, 82, 83, 84, 85, 86, 87, 88, 89, 90, 91, 92, 93, 94, 95, 96, 97, 98, 99, 100, 101, 102, 103, 104, 105, 106, 107, 108, 109, 110, 111, 112, 113, 114, 115, 116, 117, 118, 119, 120, 121, 122, 123, 124, 125, 126, 127, 128, 129, 130, 131, 132, 133, 134, 135, 136, 137, 138, 139, 140, 141, 142, 143, 144, 145, 146, 147, 148, 149, 150, 151, 152, 153, 154, 155, 156, 157, 158, 159, 160, 161, 162, 163, 164, 165, 173, 174, 175, 176, 177, 178, 179, 180, 181, 182, 183, 184, 185, 186, 187, 188, 189, 190, 191, 192] (by decide +kernel) (by decide +kernel)
set_option maxRecDepth 20000 in
theorem gX9_tells_X4_makeTells : GoodIn wsX9_tells (wsV RX9 118 RX4 yX4_makeTells wsX4_makeTells) := goodIn_app (goodIn_of _ (by decide +kernel)) ggX9_tells_X4_makeTells
theorem dX9_tells_0 : decode cX9_tells 0 = .ok (.iload_n 1, 1) := by decide +kernel
theorem dX9_tells_1 : decode cX9_tells 1 = .ok (.invokestatic 94, 3) := by decide +kernel
theorem dX9_tells_4 : decode cX9_tells 4 = .ok (.ifCond .eq 10, 3) := by decide +kernel
theorem dX9_tells_7 : decode cX9_tells 7 = .ok (.iload_n 2, 1) := by decide +kernel
theorem dX9_tells_8 : decode cX9_tells 8 = .ok (.invokestatic 111, 3) := by decide +kernel
theorem dX9_tells_11 : decode cX9_tells 11 = .ok (.ifCond .ne 5, 3) := by decide +kernel
theorem dX9_tells_14 : decode cX9_tells 14 = .ok (.iconst (-1), 1) := by decide +kernel
theorem dX9_tells_15 : decode cX9_tells 15 = .ok (.ireturn, 1) := by decide +kernel
theorem dX9_tells_16 : decode cX9_tells 16 = .ok (.iload_n 3, 1) := by decide +kernel
theorem dX9_tells_17 : decode cX9_tells 17 = .ok (.invokestatic 73, 3) := by decide +kernel
theorem dX9_tells_20 : decode cX9_tells 20 = .ok (.ifCond .ne 6, 3) := by decide +kernel
theorem dX9_tells_23 : decode cX9_tells 23 = .ok (.bipush (-2), 2) := by decide +kernel
theorem dX9_tells_25 : decode cX9_tells 25 = .ok (.ireturn, 1) := by decide +kernel
theorem dX9_tells_26 : decode cX9_tells 26 = .ok (.aload_n 0, 1) := by decide +kernel
theorem dX9_tells_27 : decode cX9_tells 27 = .ok (.getfield 42, 3) := by decide +kernel
theorem dX9_tells_30 : decode cX9_tells 30 = .ok (.aload_n 0, 1) := by decide +kernel
theorem dX9_tells_31 : decode cX9_tells 31 = .ok (.getfield 20, 3) := by decide +kernel
theorem dX9_tells_34 : decode cX9_tells 34 = .ok (.iload_n 1, 1) := by decide +kernel
theorem dX9_tells_35 : decode cX9_tells 35 = .ok (.aaload, 1) := by decide +kernel
theorem dX9_tells_36 : decode cX9_tells 36 = .ok (.aload_n 0, 1) := by decide +kernel
theorem dX9_tells_37 : decode cX9_tells 37 = .ok (.getfield 14, 3) := by decide +kernel
theorem dX9_tells_40 : decode cX9_tells 40 = .ok (.iload_n 2, 1) := by decide +kernel
theorem dX9_tells_41 : decode cX9_tells 41 = .ok (.iload_n 3, 1) := by decide +kernel
theorem dX9_tells_42 : decode cX9_tells 42 = .ok (.invokevirtual 118, 3) := by decide +kernel
theorem dX9_tells_45 : decode cX9_tells 45 = .ok (.ireturn, 1) := by decide +kernel
set_option maxRecDepth 20000 in
theorem ggX9_alike_X9_isClaim : GoodIn wsX9_alike wsX9_isClaim := goodIn_r _ [7] (by decide +kernel) (by decide +kernel)
set_option maxRecDepth 20000 in
theorem gX9_alike_X9_isClaim : GoodIn wsX9_alike (va_wsS RX9 94 yX9_isClaim wsX9_isClaim) := goodIn_app (goodIn_of _ (by decide +kernel)) ggX9_alike_X9_isClaim
set_option maxRecDepth 20000 in
theorem ggX9_alike_X9_areTwoNumbers : GoodIn wsX9_alike wsX9_areTwoNumbers := goodIn_r _ [10, 11, 12, 6, 13] (by decide +kernel) (by decide +kernel)
set_option maxRecDepth 20000 in
theorem gX9_alike_X9_areTwoNumbers : GoodIn wsX9_alike (va_wsS RX9 97 yX9_areTwoNumbers wsX9_areTwoNumbers) := goodIn_app (goodIn_of _ (by decide +kernel)) ggX9_alike_X9_areTwoNumbers
set_option maxRecDepth 20000 in
theorem ggX9_alike_X4_makeAlike : GoodIn wsX9_alike wsX4_makeAlike := goodIn_r _ [18, 19, 20, 21, 22, 17, 23, 24, 25, 26, 27, 28, 29, 30, 31, 32, 33, 34, 35, 36, 37, 38, 39, 40, 41, 42, 43, 44, 45, 46, 47, 48, 49, 6, 50, 51, 52, 53, 54, 55, 56, 57, 58, 59, 60, 61, 62, 63, 64, 65, 66, 67, 68, 69, 70, 71, 72, 73, 74, 75, 76, 77, 78, 79, 80, 81, 82, 83, 84, 85, 86, 87, 88, 89, 90, 91, 92, 93, 94, 95, 96, 97, 98, 99, 100, 101, 102, 103, 104, 105, 106, 107, 108, 109, 110, 111, 112, 113, 114, 115, 116, 117, 118, 119, 120, 121, 122, 123, 124, 125, 126, 127, 128, 129, 130, 131, 132, 133, 134, 135, 136, 137, 138, 139, 140, 141, 142, 143, 144, 145, 146, 147, 148, 149, 150, 151, 152, 153, 154, 155, 156, 157, 158, 159, 160, 161, 162, 163, 164, 165, 173, 174, 175, 176, 177, 178, 179, 180, 181, 182, 183, 184, 185, 186, 187, 188, 189, 190, 191, 192] (by decide +kernel) (by decide +kernel)
set_option maxRecDepth 20000 in
theorem gX9_alike_X4_makeAlike : GoodIn wsX9_alike (wsV RX9 122 RX4 yX4_makeAlike wsX4_makeAlike) := goodIn_app (goodIn_of _ (by decide +kernel)) ggX9_alike_X4_makeAlike
theorem dX9_alike_0 : decode cX9_alike 0 = .ok (.iload_n 1, 1) := by decide +kernel
theorem dX9_alike_1 : decode cX9_alike 1 = .ok (.invokestatic 94, 3) := by decide +kernel
theorem dX9_alike_4 : decode cX9_alike 4 = .ok (.ifCond .eq 11, 3) := by decide +kernel
theorem dX9_alike_7 : decode cX9_alike 7 = .ok (.iload_n 2, 1) := by decide +kernel
theorem dX9_alike_8 : decode cX9_alike 8 = .ok (.iload_n 3, 1) := by decide +kernel
theorem dX9_alike_9 : decode cX9_alike 9 = .ok (.invokestatic 97, 3) := by decide +kernel
theorem dX9_alike_12 : decode cX9_alike 12 = .ok (.ifCond .ne 5, 3) := by decide +kernel
theorem dX9_alike_15 : decode cX9_alike 15 = .ok (.iconst (-1), 1) := by decide +kernel
theorem dX9_alike_16 : decode cX9_alike 16 = .ok (.ireturn, 1) := by decide +kernel
theorem dX9_alike_17 : decode cX9_alike 17 = .ok (.aload_n 0, 1) := by decide +kernel
theorem dX9_alike_18 : decode cX9_alike 18 = .ok (.getfield 42, 3) := by decide +kernel
theorem dX9_alike_21 : decode cX9_alike 21 = .ok (.aload_n 0, 1) := by decide +kernel
theorem dX9_alike_22 : decode cX9_alike 22 = .ok (.getfield 20, 3) := by decide +kernel
theorem dX9_alike_25 : decode cX9_alike 25 = .ok (.iload_n 1, 1) := by decide +kernel
theorem dX9_alike_26 : decode cX9_alike 26 = .ok (.aaload, 1) := by decide +kernel
theorem dX9_alike_27 : decode cX9_alike 27 = .ok (.aload_n 0, 1) := by decide +kernel
theorem dX9_alike_28 : decode cX9_alike 28 = .ok (.getfield 14, 3) := by decide +kernel
theorem dX9_alike_31 : decode cX9_alike 31 = .ok (.iload_n 2, 1) := by decide +kernel
theorem dX9_alike_32 : decode cX9_alike 32 = .ok (.iload_n 3, 1) := by decide +kernel
theorem dX9_alike_33 : decode cX9_alike 33 = .ok (.invokevirtual 122, 3) := by decide +kernel
theorem dX9_alike_36 : decode cX9_alike 36 = .ok (.ireturn, 1) := by decide +kernel
set_option maxRecDepth 20000 in
theorem ggX9_both_X9_joinTwo : GoodIn wsX9_both wsX9_joinTwo := goodIn_r _ [5, 6, 7, 8, 9, 4, 10, 11, 12, 13, 14, 15, 16, 17, 18, 19, 20, 21, 22, 23, 24, 25, 26, 27, 28, 29, 30, 31, 32, 33, 34, 35, 36, 37, 38, 39, 40, 41, 42, 43, 44, 45, 46, 47, 48, 49, 50, 51, 52, 53, 54, 55, 56, 57, 58, 59, 60, 61, 62, 63, 64, 65, 66, 67, 68, 69, 70, 71, 72, 73, 74, 75, 76, 77, 78, 79, 80, 81, 82, 83, 84, 85, 86, 87, 88, 89, 90, 91, 92, 93, 94, 95, 96, 97, 98, 99, 100, 101, 102, 103, 104, 105, 106, 107, 108, 109, 110, 111, 112, 113, 114, 115, 116, 117, 118, 119, 120, 121, 122, 123, 124, 125, 126, 127, 128, 129, 130, 131, 132, 133, 134, 135, 136, 137, 138, 139, 140, 141, 142, 143, 144, 145, 146, 147, 148, 149, 150, 151, 152, 153, 154, 155, 156, 157, 158, 159, 160, 161, 162, 163, 164, 165, 166, 167, 168, 169, 170, 171, 172, 173, 174, 175, 176, 177, 178, 179, 180, 181, 182, 183, 184, 185, 186, 187, 188, 189, 190, 191, 192, 193, 194, 195, 196, 197, 198, 199, 200, 201, 202, 203, 204, 205, 206, 207, 208, 209] (by decide +kernel) (by decide +kernel)
set_option maxRecDepth 20000 in
theorem gX9_both_X9_joinTwo : GoodIn wsX9_both (wsV RX9 125 RX9 yX9_joinTwo wsX9_joinTwo) := goodIn_app (goodIn_of _ (by decide +kernel)) ggX9_both_X9_joinTwo
theorem dX9_both_0 : decode cX9_both 0 = .ok (.aload_n 0, 1) := by decide +kernel
theorem dX9_both_1 : decode cX9_both 1 = .ok (.iload_n 1, 1) := by decide +kernel
theorem dX9_both_2 : decode cX9_both 2 = .ok (.iload_n 2, 1) := by decide +kernel
theorem dX9_both_3 : decode cX9_both 3 = .ok (.iload_n 3, 1) := by decide +kernel
theorem dX9_both_4 : decode cX9_both 4 = .ok (.iconst 1, 1) := by decide +kernel
theorem dX9_both_5 : decode cX9_both 5 = .ok (.invokevirtual 125, 3) := by decide +kernel
theorem dX9_both_8 : decode cX9_both 8 = .ok (.ireturn, 1) := by decide +kernel
set_option maxRecDepth 20000 in
theorem ggX9_either_X9_joinTwo : GoodIn wsX9_either wsX9_joinTwo := goodIn_r _ [5, 6, 7, 8, 9, 4, 10, 11, 12, 13, 14, 15, 16, 17, 18, 19, 20, 21, 22, 23, 24, 25, 26, 27, 28, 29, 30, 31, 32, 33, 34, 35, 36, 37, 38, 39, 40, 41, 42, 43, 44, 45, 46, 47, 48, 49, 50, 51, 52, 53, 54, 55, 56, 57, 58, 59, 60, 61, 62, 63, 64, 65, 66, 67, 68, 69, 70, 71, 72, 73, 74, 75, 76, 77, 78, 79, 80, 81, 82, 83, 84, 85, 86, 87, 88, 89, 90, 91, 92, 93, 94, 95, 96, 97, 98, 99, 100, 101, 102, 103, 104, 105, 106, 107, 108, 109, 110, 111, 112, 113, 114, 115, 116, 117, 118, 119, 120, 121, 122, 123, 124, 125, 126, 127, 128, 129, 130, 131, 132, 133, 134, 135, 136, 137, 138, 139, 140, 141, 142, 143, 144, 145, 146, 147, 148, 149, 150, 151, 152, 153, 154, 155, 156, 157, 158, 159, 160, 161, 162, 163, 164, 165, 166, 167, 168, 169, 170, 171, 172, 173, 174, 175, 176, 177, 178, 179, 180, 181, 182, 183, 184, 185, 186, 187, 188, 189, 190, 191, 192, 193, 194, 195, 196, 197, 198, 199, 200, 201, 202, 203, 204, 205, 206, 207, 208, 209] (by decide +kernel) (by decide +kernel)
set_option maxRecDepth 20000 in
theorem gX9_either_X9_joinTwo : GoodIn wsX9_either (wsV RX9 125 RX9 yX9_joinTwo wsX9_joinTwo) := goodIn_app (goodIn_of _ (by decide +kernel)) ggX9_either_X9_joinTwo
theorem dX9_either_0 : decode cX9_either 0 = .ok (.aload_n 0, 1) := by decide +kernel
theorem dX9_either_1 : decode cX9_either 1 = .ok (.iload_n 1, 1) := by decide +kernel
theorem dX9_either_2 : decode cX9_either 2 = .ok (.iload_n 2, 1) := by decide +kernel
theorem dX9_either_3 : decode cX9_either 3 = .ok (.iload_n 3, 1) := by decide +kernel
theorem dX9_either_4 : decode cX9_either 4 = .ok (.iconst 0, 1) := by decide +kernel
theorem dX9_either_5 : decode cX9_either 5 = .ok (.invokevirtual 125, 3) := by decide +kernel
theorem dX9_either_8 : decode cX9_either 8 = .ok (.ireturn, 1) := by decide +kernel
set_option maxRecDepth 20000 in
theorem ggX9_not_X9_isClaim : GoodIn wsX9_not wsX9_isClaim := goodIn_r _ [5] (by decide +kernel) (by decide +kernel)
set_option maxRecDepth 20000 in
theorem gX9_not_X9_isClaim : GoodIn wsX9_not (va_wsS RX9 94 yX9_isClaim wsX9_isClaim) := goodIn_app (goodIn_of _ (by decide +kernel)) ggX9_not_X9_isClaim
set_option maxRecDepth 20000 in
theorem ggX9_not_X9_isThere : GoodIn wsX9_not wsX9_isThere := goodIn_r _ [9, 1, 2, 3, 4, 5, 10, 11, 12, 13, 14, 15, 26, 27, 28, 29, 30, 31, 32, 33, 34, 35] (by decide +kernel) (by decide +kernel)
set_option maxRecDepth 20000 in
theorem gX9_not_X9_isThere : GoodIn wsX9_not (wsV RX9 129 RX9 yX9_isThere wsX9_isThere) := goodIn_app (goodIn_of _ (by decide +kernel)) ggX9_not_X9_isThere
set_option maxRecDepth 20000 in
theorem ggX9_not_X0_becomeNot : GoodIn wsX9_not wsX0_becomeNot := goodIn_r _ [19, 15, 20, 21, 22, 23, 24, 25, 33, 34, 35] (by decide +kernel) (by decide +kernel)
set_option maxRecDepth 20000 in
theorem gX9_not_X0_becomeNot : GoodIn wsX9_not (wsV RX9 132 RX0 yX0_becomeNot wsX0_becomeNot) := goodIn_app (goodIn_of _ (by decide +kernel)) ggX9_not_X0_becomeNot
set_option maxRecDepth 20000 in
theorem ggX9_not_X0_size : GoodIn wsX9_not wsX0_size := goodIn_r _ [14, 15, 33, 34, 35] (by decide +kernel) (by decide +kernel)
set_option maxRecDepth 20000 in
theorem gX9_not_X0_size : GoodIn wsX9_not (wsV RX9 136 RX0 yX0_size wsX0_size) := goodIn_app (goodIn_of _ (by decide +kernel)) ggX9_not_X0_size
theorem dX9_not_0 : decode cX9_not 0 = .ok (.iload_n 1, 1) := by decide +kernel
theorem dX9_not_1 : decode cX9_not 1 = .ok (.invokestatic 94, 3) := by decide +kernel
theorem dX9_not_4 : decode cX9_not 4 = .ok (.ifCond .eq 10, 3) := by decide +kernel
theorem dX9_not_7 : decode cX9_not 7 = .ok (.iload_n 2, 1) := by decide +kernel
theorem dX9_not_8 : decode cX9_not 8 = .ok (.invokestatic 94, 3) := by decide +kernel
theorem dX9_not_11 : decode cX9_not 11 = .ok (.ifCond .ne 5, 3) := by decide +kernel
theorem dX9_not_14 : decode cX9_not 14 = .ok (.iconst (-1), 1) := by decide +kernel
theorem dX9_not_15 : decode cX9_not 15 = .ok (.ireturn, 1) := by decide +kernel
theorem dX9_not_16 : decode cX9_not 16 = .ok (.aload_n 0, 1) := by decide +kernel
theorem dX9_not_17 : decode cX9_not 17 = .ok (.iload_n 2, 1) := by decide +kernel
theorem dX9_not_18 : decode cX9_not 18 = .ok (.invokevirtual 129, 3) := by decide +kernel
theorem dX9_not_21 : decode cX9_not 21 = .ok (.ifCond .ne 6, 3) := by decide +kernel
theorem dX9_not_24 : decode cX9_not 24 = .ok (.bipush (-3), 2) := by decide +kernel
theorem dX9_not_26 : decode cX9_not 26 = .ok (.ireturn, 1) := by decide +kernel
theorem dX9_not_27 : decode cX9_not 27 = .ok (.aload_n 0, 1) := by decide +kernel
theorem dX9_not_28 : decode cX9_not 28 = .ok (.getfield 20, 3) := by decide +kernel
theorem dX9_not_31 : decode cX9_not 31 = .ok (.iload_n 1, 1) := by decide +kernel
theorem dX9_not_32 : decode cX9_not 32 = .ok (.aaload, 1) := by decide +kernel
theorem dX9_not_33 : decode cX9_not 33 = .ok (.aload_n 0, 1) := by decide +kernel
theorem dX9_not_34 : decode cX9_not 34 = .ok (.getfield 20, 3) := by decide +kernel
theorem dX9_not_37 : decode cX9_not 37 = .ok (.iload_n 2, 1) := by decide +kernel
theorem dX9_not_38 : decode cX9_not 38 = .ok (.aaload, 1) := by decide +kernel
theorem dX9_not_39 : decode cX9_not 39 = .ok (.invokevirtual 132, 3) := by decide +kernel
theorem dX9_not_42 : decode cX9_not 42 = .ok (.aload_n 0, 1) := by decide +kernel
theorem dX9_not_43 : decode cX9_not 43 = .ok (.getfield 20, 3) := by decide +kernel
theorem dX9_not_46 : decode cX9_not 46 = .ok (.iload_n 1, 1) := by decide +kernel
theorem dX9_not_47 : decode cX9_not 47 = .ok (.aaload, 1) := by decide +kernel
theorem dX9_not_48 : decode cX9_not 48 = .ok (.invokevirtual 136, 3) := by decide +kernel
theorem dX9_not_51 : decode cX9_not 51 = .ok (.ireturn, 1) := by decide +kernel
set_option maxRecDepth 20000 in
theorem ggX9_swap_X9_isClaim : GoodIn wsX9_swap wsX9_isClaim := goodIn_r _ [6] (by decide +kernel) (by decide +kernel)
set_option maxRecDepth 20000 in
theorem gX9_swap_X9_isClaim : GoodIn wsX9_swap (va_wsS RX9 94 yX9_isClaim wsX9_isClaim) := goodIn_app (goodIn_of _ (by decide +kernel)) ggX9_swap_X9_isClaim
set_option maxRecDepth 20000 in
theorem ggX9_swap_X9_areTwoNumbers : GoodIn wsX9_swap wsX9_areTwoNumbers := goodIn_r _ [9, 10, 11, 5, 12] (by decide +kernel) (by decide +kernel)
set_option maxRecDepth 20000 in
theorem gX9_swap_X9_areTwoNumbers : GoodIn wsX9_swap (va_wsS RX9 97 yX9_areTwoNumbers wsX9_areTwoNumbers) := goodIn_app (goodIn_of _ (by decide +kernel)) ggX9_swap_X9_areTwoNumbers
set_option maxRecDepth 20000 in
theorem ggX9_swap_X9_isThere : GoodIn wsX9_swap wsX9_isThere := goodIn_r _ [16, 2, 3, 4, 5, 6, 17, 18, 19, 20, 21, 22, 168, 169, 170, 171, 172, 173, 174, 175, 176, 177] (by decide +kernel) (by decide +kernel)
set_option maxRecDepth 20000 in
theorem gX9_swap_X9_isThere : GoodIn wsX9_swap (wsV RX9 129 RX9 yX9_isThere wsX9_isThere) := goodIn_app (goodIn_of _ (by decide +kernel)) ggX9_swap_X9_isThere
set_option maxRecDepth 20000 in
theorem ggX9_swap_X2_exchange : GoodIn wsX9_swap wsX2_exchange := goodIn_r _ [27, 28, 29, 18, 19, 20, 21, 22, 30, 31, 32, 33, 34, 35, 36, 37, 38, 39, 40, 41, 42, 43, 44, 45, 46, 47, 48, 49, 50, 51, 52, 53, 54, 55, 56, 26, 57, 58, 5, 59, 60, 61, 62, 63, 64, 65, 66, 67, 68, 69, 70, 71, 72, 73, 74, 75, 76, 77, 78, 79, 80, 81, 82, 83, 84, 85, 86, 87, 88, 89, 90, 91, 92, 93, 94, 95, 96, 97, 98, 99, 100, 101, 102, 103, 104, 105, 106, 107, 108, 109, 110, 111, 112, 113, 114, 115, 116, 117, 118, 119, 120, 121, 122, 123, 124, 125, 126, 127, 128, 129, 130, 131, 132, 133, 134, 135, 136, 137, 138, 139, 140, 141, 142, 143, 144, 145, 146, 147, 148, 149, 150, 151, 152, 153, 154, 155, 156, 157, 158, 159, 160, 161, 162, 163, 164, 165, 166, 167, 178, 179, 175, 176, 177, 180, 181, 182, 183, 184, 185, 186, 187, 188, 189, 190, 191, 192, 193] (by decide +kernel) (by decide +kernel)
set_option maxRecDepth 20000 in
theorem gX9_swap_X2_exchange : GoodIn wsX9_swap (wsV RX9 140 RX2 yX2_exchange wsX2_exchange) := goodIn_app (goodIn_of _ (by decide +kernel)) ggX9_swap_X2_exchange
theorem dX9_swap_0 : decode cX9_swap 0 = .ok (.iload_n 1, 1) := by decide +kernel
theorem dX9_swap_1 : decode cX9_swap 1 = .ok (.invokestatic 94, 3) := by decide +kernel
theorem dX9_swap_4 : decode cX9_swap 4 = .ok (.ifCond .eq 19, 3) := by decide +kernel
theorem dX9_swap_7 : decode cX9_swap 7 = .ok (.iload_n 2, 1) := by decide +kernel
theorem dX9_swap_8 : decode cX9_swap 8 = .ok (.invokestatic 94, 3) := by decide +kernel
theorem dX9_swap_11 : decode cX9_swap 11 = .ok (.ifCond .eq 12, 3) := by decide +kernel
theorem dX9_swap_14 : decode cX9_swap 14 = .ok (.iload_n 3, 1) := by decide +kernel
theorem dX9_swap_15 : decode cX9_swap 15 = .ok (.iload 4, 2) := by decide +kernel
theorem dX9_swap_17 : decode cX9_swap 17 = .ok (.invokestatic 97, 3) := by decide +kernel
theorem dX9_swap_20 : decode cX9_swap 20 = .ok (.ifCond .ne 5, 3) := by decide +kernel
theorem dX9_swap_23 : decode cX9_swap 23 = .ok (.iconst (-1), 1) := by decide +kernel
theorem dX9_swap_24 : decode cX9_swap 24 = .ok (.ireturn, 1) := by decide +kernel
theorem dX9_swap_25 : decode cX9_swap 25 = .ok (.aload_n 0, 1) := by decide +kernel
theorem dX9_swap_26 : decode cX9_swap 26 = .ok (.iload_n 2, 1) := by decide +kernel
theorem dX9_swap_27 : decode cX9_swap 27 = .ok (.invokevirtual 129, 3) := by decide +kernel
theorem dX9_swap_30 : decode cX9_swap 30 = .ok (.ifCond .ne 6, 3) := by decide +kernel
theorem dX9_swap_33 : decode cX9_swap 33 = .ok (.bipush (-3), 2) := by decide +kernel
theorem dX9_swap_35 : decode cX9_swap 35 = .ok (.ireturn, 1) := by decide +kernel
theorem dX9_swap_36 : decode cX9_swap 36 = .ok (.aload_n 0, 1) := by decide +kernel
theorem dX9_swap_37 : decode cX9_swap 37 = .ok (.getfield 51, 3) := by decide +kernel
theorem dX9_swap_40 : decode cX9_swap 40 = .ok (.aload_n 0, 1) := by decide +kernel
theorem dX9_swap_41 : decode cX9_swap 41 = .ok (.getfield 20, 3) := by decide +kernel
theorem dX9_swap_44 : decode cX9_swap 44 = .ok (.iload_n 1, 1) := by decide +kernel
theorem dX9_swap_45 : decode cX9_swap 45 = .ok (.aaload, 1) := by decide +kernel
theorem dX9_swap_46 : decode cX9_swap 46 = .ok (.aload_n 0, 1) := by decide +kernel
theorem dX9_swap_47 : decode cX9_swap 47 = .ok (.getfield 20, 3) := by decide +kernel
theorem dX9_swap_50 : decode cX9_swap 50 = .ok (.iload_n 2, 1) := by decide +kernel
theorem dX9_swap_51 : decode cX9_swap 51 = .ok (.aaload, 1) := by decide +kernel
theorem dX9_swap_52 : decode cX9_swap 52 = .ok (.iload_n 3, 1) := by decide +kernel
theorem dX9_swap_53 : decode cX9_swap 53 = .ok (.iload 4, 2) := by decide +kernel
theorem dX9_swap_55 : decode cX9_swap 55 = .ok (.invokevirtual 140, 3) := by decide +kernel
theorem dX9_swap_58 : decode cX9_swap 58 = .ok (.ireturn, 1) := by decide +kernel
set_option maxRecDepth 20000 in
theorem ggX9_some_X9_sayOf : GoodIn wsX9_some wsX9_sayOf := goodIn_r _ [5, 6, 7, 8, 9, 4, 10, 11, 12, 13, 14, 15, 16, 17, 18, 19, 20, 21, 22, 23, 24, 25, 26, 27, 28, 29, 30, 31, 32, 33, 34, 35, 36, 37, 38, 39, 40, 41, 42, 43, 44, 45, 46, 47, 48, 49, 50, 51, 52, 53, 54, 55, 56, 57, 58, 59, 60, 61, 62, 63, 64, 65, 66, 67, 68, 69, 70, 71, 72, 73, 74, 75, 76, 77, 78, 79, 80, 81, 82, 83, 84, 85, 86, 87, 88, 89, 90, 91, 92, 93, 94, 95, 96, 97, 98, 99, 100, 101, 102, 103, 104, 105, 106, 107, 108, 109, 110, 111, 112, 113, 114, 115, 116, 117, 118, 119, 120, 121, 122, 123, 124, 125, 126, 127, 128, 129, 130, 131, 132, 133, 134, 135, 136, 137, 138, 139, 140, 141, 142, 143, 144, 145, 146, 147, 148, 149, 150, 151, 152, 153, 154, 155, 156, 157, 158, 159, 160, 161, 162, 163, 164, 165, 166, 167, 168, 169, 170, 171, 172, 173, 174, 175, 176, 177, 178, 179, 180, 181, 182, 183, 184, 185, 186, 187, 188, 189, 190, 191, 192, 193, 194, 195, 196, 197, 198, 199, 200, 201, 202, 203, 204, 205, 206, 207, 208, 209, 210, 211, 212, 213, 214, 215, 216, 217, 218, 219, 220, 221, 222, 223, 224, 225, 226, 227, 228, 229, 230, 231, 232, 233, 234, 235, 236, 237, 238, 239, 240, 241, 242, 243, 244, 245, 246, 247, 248, 249, 250, 251] (by decide +kernel) (by decide +kernel)
set_option maxRecDepth 20000 in
theorem gX9_some_X9_sayOf : GoodIn wsX9_some (wsV RX9 144 RX9 yX9_sayOf wsX9_sayOf) := goodIn_app (goodIn_of _ (by decide +kernel)) ggX9_some_X9_sayOf
theorem dX9_some_0 : decode cX9_some 0 = .ok (.aload_n 0, 1) := by decide +kernel
theorem dX9_some_1 : decode cX9_some 1 = .ok (.iload_n 1, 1) := by decide +kernel
theorem dX9_some_2 : decode cX9_some 2 = .ok (.iload_n 2, 1) := by decide +kernel
theorem dX9_some_3 : decode cX9_some 3 = .ok (.iload_n 3, 1) := by decide +kernel
theorem dX9_some_4 : decode cX9_some 4 = .ok (.iconst 0, 1) := by decide +kernel
theorem dX9_some_5 : decode cX9_some 5 = .ok (.invokevirtual 144, 3) := by decide +kernel
theorem dX9_some_8 : decode cX9_some 8 = .ok (.ireturn, 1) := by decide +kernel
set_option maxRecDepth 20000 in
theorem ggX9_all_X9_sayOf : GoodIn wsX9_all wsX9_sayOf := goodIn_r _ [5, 6, 7, 8, 9, 4, 10, 11, 12, 13, 14, 15, 16, 17, 18, 19, 20, 21, 22, 23, 24, 25, 26, 27, 28, 29, 30, 31, 32, 33, 34, 35, 36, 37, 38, 39, 40, 41, 42, 43, 44, 45, 46, 47, 48, 49, 50, 51, 52, 53, 54, 55, 56, 57, 58, 59, 60, 61, 62, 63, 64, 65, 66, 67, 68, 69, 70, 71, 72, 73, 74, 75, 76, 77, 78, 79, 80, 81, 82, 83, 84, 85, 86, 87, 88, 89, 90, 91, 92, 93, 94, 95, 96, 97, 98, 99, 100, 101, 102, 103, 104, 105, 106, 107, 108, 109, 110, 111, 112, 113, 114, 115, 116, 117, 118, 119, 120, 121, 122, 123, 124, 125, 126, 127, 128, 129, 130, 131, 132, 133, 134, 135, 136, 137, 138, 139, 140, 141, 142, 143, 144, 145, 146, 147, 148, 149, 150, 151, 152, 153, 154, 155, 156, 157, 158, 159, 160, 161, 162, 163, 164, 165, 166, 167, 168, 169, 170, 171, 172, 173, 174, 175, 176, 177, 178, 179, 180, 181, 182, 183, 184, 185, 186, 187, 188, 189, 190, 191, 192, 193, 194, 195, 196, 197, 198, 199, 200, 201, 202, 203, 204, 205, 206, 207, 208, 209, 210, 211, 212, 213, 214, 215, 216, 217, 218, 219, 220, 221, 222, 223, 224, 225, 226, 227, 228, 229, 230, 231, 232, 233, 234, 235, 236, 237, 238, 239, 240, 241, 242, 243, 244, 245, 246, 247, 248, 249, 250, 251] (by decide +kernel) (by decide +kernel)
set_option maxRecDepth 20000 in
theorem gX9_all_X9_sayOf : GoodIn wsX9_all (wsV RX9 144 RX9 yX9_sayOf wsX9_sayOf) := goodIn_app (goodIn_of _ (by decide +kernel)) ggX9_all_X9_sayOf
theorem dX9_all_0 : decode cX9_all 0 = .ok (.aload_n 0, 1) := by decide +kernel
theorem dX9_all_1 : decode cX9_all 1 = .ok (.iload_n 1, 1) := by decide +kernel
theorem dX9_all_2 : decode cX9_all 2 = .ok (.iload_n 2, 1) := by decide +kernel
theorem dX9_all_3 : decode cX9_all 3 = .ok (.iload_n 3, 1) := by decide +kernel
theorem dX9_all_4 : decode cX9_all 4 = .ok (.iconst 1, 1) := by decide +kernel
theorem dX9_all_5 : decode cX9_all 5 = .ok (.invokevirtual 144, 3) := by decide +kernel
theorem dX9_all_8 : decode cX9_all 8 = .ok (.ireturn, 1) := by decide +kernel
set_option maxRecDepth 20000 in
theorem ggX9_joinTwo_X9_isClaim : GoodIn wsX9_joinTwo wsX9_isClaim := goodIn_r _ [6] (by decide +kernel) (by decide +kernel)
set_option maxRecDepth 20000 in
theorem gX9_joinTwo_X9_isClaim : GoodIn wsX9_joinTwo (va_wsS RX9 94 yX9_isClaim wsX9_isClaim) := goodIn_app (goodIn_of _ (by decide +kernel)) ggX9_joinTwo_X9_isClaim
set_option maxRecDepth 20000 in
theorem ggX9_joinTwo_X9_isThere : GoodIn wsX9_joinTwo wsX9_isThere := goodIn_r _ [10, 2, 3, 4, 5, 6, 11, 12, 13, 14, 15, 16, 180, 181, 182, 183, 184, 185, 186, 187, 188, 189] (by decide +kernel) (by decide +kernel)
set_option maxRecDepth 20000 in
theorem gX9_joinTwo_X9_isThere : GoodIn wsX9_joinTwo (wsV RX9 129 RX9 yX9_isThere wsX9_isThere) := goodIn_app (goodIn_of _ (by decide +kernel)) ggX9_joinTwo_X9_isThere
set_option maxRecDepth 20000 in
theorem ggX9_joinTwo_X2_join : GoodIn wsX9_joinTwo wsX2_join := goodIn_r _ [21, 22, 23, 24, 12, 13, 14, 15, 16, 25, 26, 27, 28, 29, 30, 31, 32, 33, 34, 35, 36, 37, 38, 39, 40, 41, 42, 43, 44, 45, 46, 47, 48, 49, 50, 51, 52, 53, 54, 55, 56, 57, 58, 59, 60, 61, 62, 63, 64, 65, 20, 66, 67, 68, 69, 70, 71, 72, 73, 74, 75, 76, 77, 78, 79, 80, 81, 82, 83, 84, 85, 86, 87, 88, 89, 90, 91, 92, 93, 94, 95, 96, 97, 98, 99, 100, 5, 101, 102, 103, 104, 105, 106, 107, 108, 109, 110, 111, 112, 113, 114, 115, 116, 117, 118, 119, 120, 121, 122, 123, 124, 125, 126, 127, 128, 129, 130, 131, 132, 133, 134, 135, 136, 137, 138, 139, 140, 141, 142, 143, 144, 145, 146, 147, 148, 149, 150, 151, 152, 153, 154, 155, 156, 157, 158, 159, 160, 161, 162, 163, 164, 165, 166, 167, 168, 169, 170, 171, 172, 173, 174, 175, 176, 177, 178, 179, 190, 191, 187, 188, 189, 192, 193, 194, 195, 196, 197, 198, 199, 200, 201, 202, 203, 204, 205] (by decide +kernel) (by decide +kernel)
set_option maxRecDepth 20000 in
theorem gX9_joinTwo_X2_join : GoodIn wsX9_joinTwo (wsV RX9 147 RX2 yX2_join wsX2_join) := goodIn_app (goodIn_of _ (by decide +kernel)) ggX9_joinTwo_X2_join
theorem dX9_joinTwo_0 : decode cX9_joinTwo 0 = .ok (.iload_n 1, 1) := by decide +kernel
theorem dX9_joinTwo_1 : decode cX9_joinTwo 1 = .ok (.invokestatic 94, 3) := by decide +kernel
theorem dX9_joinTwo_4 : decode cX9_joinTwo 4 = .ok (.ifCond .eq 17, 3) := by decide +kernel
theorem dX9_joinTwo_7 : decode cX9_joinTwo 7 = .ok (.iload_n 2, 1) := by decide +kernel
theorem dX9_joinTwo_8 : decode cX9_joinTwo 8 = .ok (.invokestatic 94, 3) := by decide +kernel
theorem dX9_joinTwo_11 : decode cX9_joinTwo 11 = .ok (.ifCond .eq 10, 3) := by decide +kernel
theorem dX9_joinTwo_14 : decode cX9_joinTwo 14 = .ok (.iload_n 3, 1) := by decide +kernel
theorem dX9_joinTwo_15 : decode cX9_joinTwo 15 = .ok (.invokestatic 94, 3) := by decide +kernel
theorem dX9_joinTwo_18 : decode cX9_joinTwo 18 = .ok (.ifCond .ne 5, 3) := by decide +kernel
theorem dX9_joinTwo_21 : decode cX9_joinTwo 21 = .ok (.iconst (-1), 1) := by decide +kernel
theorem dX9_joinTwo_22 : decode cX9_joinTwo 22 = .ok (.ireturn, 1) := by decide +kernel
theorem dX9_joinTwo_23 : decode cX9_joinTwo 23 = .ok (.aload_n 0, 1) := by decide +kernel
theorem dX9_joinTwo_24 : decode cX9_joinTwo 24 = .ok (.iload_n 2, 1) := by decide +kernel
theorem dX9_joinTwo_25 : decode cX9_joinTwo 25 = .ok (.invokevirtual 129, 3) := by decide +kernel
theorem dX9_joinTwo_28 : decode cX9_joinTwo 28 = .ok (.ifCond .eq 11, 3) := by decide +kernel
theorem dX9_joinTwo_31 : decode cX9_joinTwo 31 = .ok (.aload_n 0, 1) := by decide +kernel
theorem dX9_joinTwo_32 : decode cX9_joinTwo 32 = .ok (.iload_n 3, 1) := by decide +kernel
theorem dX9_joinTwo_33 : decode cX9_joinTwo 33 = .ok (.invokevirtual 129, 3) := by decide +kernel
theorem dX9_joinTwo_36 : decode cX9_joinTwo 36 = .ok (.ifCond .ne 6, 3) := by decide +kernel
theorem dX9_joinTwo_39 : decode cX9_joinTwo 39 = .ok (.bipush (-3), 2) := by decide +kernel
theorem dX9_joinTwo_41 : decode cX9_joinTwo 41 = .ok (.ireturn, 1) := by decide +kernel
theorem dX9_joinTwo_42 : decode cX9_joinTwo 42 = .ok (.aload_n 0, 1) := by decide +kernel
theorem dX9_joinTwo_43 : decode cX9_joinTwo 43 = .ok (.getfield 51, 3) := by decide +kernel
theorem dX9_joinTwo_46 : decode cX9_joinTwo 46 = .ok (.aload_n 0, 1) := by decide +kernel
theorem dX9_joinTwo_47 : decode cX9_joinTwo 47 = .ok (.getfield 20, 3) := by decide +kernel
theorem dX9_joinTwo_50 : decode cX9_joinTwo 50 = .ok (.iload_n 1, 1) := by decide +kernel
theorem dX9_joinTwo_51 : decode cX9_joinTwo 51 = .ok (.aaload, 1) := by decide +kernel
theorem dX9_joinTwo_52 : decode cX9_joinTwo 52 = .ok (.aload_n 0, 1) := by decide +kernel
theorem dX9_joinTwo_53 : decode cX9_joinTwo 53 = .ok (.getfield 20, 3) := by decide +kernel
theorem dX9_joinTwo_56 : decode cX9_joinTwo 56 = .ok (.iload_n 2, 1) := by decide +kernel
theorem dX9_joinTwo_57 : decode cX9_joinTwo 57 = .ok (.aaload, 1) := by decide +kernel
theorem dX9_joinTwo_58 : decode cX9_joinTwo 58 = .ok (.aload_n 0, 1) := by decide +kernel
theorem dX9_joinTwo_59 : decode cX9_joinTwo 59 = .ok (.getfield 20, 3) := by decide +kernel
theorem dX9_joinTwo_62 : decode cX9_joinTwo 62 = .ok (.iload_n 3, 1) := by decide +kernel
theorem dX9_joinTwo_63 : decode cX9_joinTwo 63 = .ok (.aaload, 1) := by decide +kernel
theorem dX9_joinTwo_64 : decode cX9_joinTwo 64 = .ok (.iload 4, 2) := by decide +kernel
theorem dX9_joinTwo_66 : decode cX9_joinTwo 66 = .ok (.invokevirtual 147, 3) := by decide +kernel
theorem dX9_joinTwo_69 : decode cX9_joinTwo 69 = .ok (.ireturn, 1) := by decide +kernel
set_option maxRecDepth 20000 in
theorem ggX9_sayOf_X9_isClaim : GoodIn wsX9_sayOf wsX9_isClaim := goodIn_r _ [6] (by decide +kernel) (by decide +kernel)
set_option maxRecDepth 20000 in
theorem gX9_sayOf_X9_isClaim : GoodIn wsX9_sayOf (va_wsS RX9 94 yX9_isClaim wsX9_isClaim) := goodIn_app (goodIn_of _ (by decide +kernel)) ggX9_sayOf_X9_isClaim
set_option maxRecDepth 20000 in
theorem ggX9_sayOf_X9_isNumber : GoodIn wsX9_sayOf wsX9_isNumber := goodIn_r _ [9] (by decide +kernel) (by decide +kernel)
set_option maxRecDepth 20000 in
theorem gX9_sayOf_X9_isNumber : GoodIn wsX9_sayOf (va_wsS RX9 111 yX9_isNumber wsX9_isNumber) := goodIn_app (goodIn_of _ (by decide +kernel)) ggX9_sayOf_X9_isNumber
set_option maxRecDepth 20000 in
theorem ggX9_sayOf_X9_isThere : GoodIn wsX9_sayOf wsX9_isThere := goodIn_r _ [13, 2, 3, 4, 5, 6, 14, 15, 16, 17, 18, 19, 217, 218, 219, 220, 221, 222, 223, 224, 225, 226] (by decide +kernel) (by decide +kernel)
set_option maxRecDepth 20000 in
theorem gX9_sayOf_X9_isThere : GoodIn wsX9_sayOf (wsV RX9 129 RX9 yX9_isThere wsX9_isThere) := goodIn_app (goodIn_of _ (by decide +kernel)) ggX9_sayOf_X9_isThere
set_option maxRecDepth 20000 in
theorem ggX9_sayOf_X6_say : GoodIn wsX9_sayOf wsX6_say := goodIn_r _ [24, 25, 26, 27, 28, 29, 30, 31, 23, 32, 33, 34, 15, 16, 17, 18, 19, 35, 36, 37, 38, 39, 40, 41, 42, 43, 44, 45, 46, 47, 48, 49, 5, 50, 51, 52, 53, 54, 55, 56, 57, 58, 59, 60, 61, 62, 63, 64, 65, 66, 67, 68, 69, 70, 71, 72, 73, 74, 75, 76, 77, 78, 79, 80, 81, 82, 83, 84, 85, 86, 87, 88, 89, 90, 91, 92, 93, 94, 95, 96, 97, 98, 99, 100, 101, 102, 103, 104, 105, 106, 107, 108, 109, 110, 111, 112, 113, 114, 115, 116, 117, 118, 119, 120, 121, 122, 123, 124, 125, 126, 127, 128, 129, 130, 131, 132, 133, 134, 135, 136, 137, 138, 139, 140, 141, 142, 143, 144, 145, 146, 147, 148, 149, 150, 151, 152, 153, 154, 155, 156, 157, 158, 159, 160, 161, 162, 163, 164, 165, 166, 167, 168, 169, 170, 171, 172, 173, 174, 175, 176, 177, 178, 179, 180, 181, 182, 183, 184, 185, 186, 187, 188, 189, 190, 191, 192, 193, 194, 195, 196, 197, 198, 199, 200, 201, 202, 203, 204, 205, 206, 207, 208, 209, 210, 211, 212, 213, 214, 215, 216, 227, 228, 229, 230, 224, 225, 226, 231, 232, 233, 234, 235, 236, 237, 238, 239, 240, 241, 242, 243, 244, 245, 246, 247] (by decide +kernel) (by decide +kernel)
set_option maxRecDepth 20000 in
theorem gX9_sayOf_X6_say : GoodIn wsX9_sayOf (wsV RX9 151 RX6 yX6_say wsX6_say) := goodIn_app (goodIn_of _ (by decide +kernel)) ggX9_sayOf_X6_say
theorem dX9_sayOf_0 : decode cX9_sayOf 0 = .ok (.iload_n 1, 1) := by decide +kernel
theorem dX9_sayOf_1 : decode cX9_sayOf 1 = .ok (.invokestatic 94, 3) := by decide +kernel
theorem dX9_sayOf_4 : decode cX9_sayOf 4 = .ok (.ifCond .eq 17, 3) := by decide +kernel
theorem dX9_sayOf_7 : decode cX9_sayOf 7 = .ok (.iload_n 2, 1) := by decide +kernel
theorem dX9_sayOf_8 : decode cX9_sayOf 8 = .ok (.invokestatic 94, 3) := by decide +kernel
theorem dX9_sayOf_11 : decode cX9_sayOf 11 = .ok (.ifCond .eq 10, 3) := by decide +kernel
theorem dX9_sayOf_14 : decode cX9_sayOf 14 = .ok (.iload_n 3, 1) := by decide +kernel
theorem dX9_sayOf_15 : decode cX9_sayOf 15 = .ok (.invokestatic 111, 3) := by decide +kernel
theorem dX9_sayOf_18 : decode cX9_sayOf 18 = .ok (.ifCond .ne 5, 3) := by decide +kernel
theorem dX9_sayOf_21 : decode cX9_sayOf 21 = .ok (.iconst (-1), 1) := by decide +kernel
theorem dX9_sayOf_22 : decode cX9_sayOf 22 = .ok (.ireturn, 1) := by decide +kernel
theorem dX9_sayOf_23 : decode cX9_sayOf 23 = .ok (.aload_n 0, 1) := by decide +kernel
theorem dX9_sayOf_24 : decode cX9_sayOf 24 = .ok (.iload_n 2, 1) := by decide +kernel
theorem dX9_sayOf_25 : decode cX9_sayOf 25 = .ok (.invokevirtual 129, 3) := by decide +kernel
theorem dX9_sayOf_28 : decode cX9_sayOf 28 = .ok (.ifCond .ne 6, 3) := by decide +kernel
theorem dX9_sayOf_31 : decode cX9_sayOf 31 = .ok (.bipush (-3), 2) := by decide +kernel
theorem dX9_sayOf_33 : decode cX9_sayOf 33 = .ok (.ireturn, 1) := by decide +kernel
theorem dX9_sayOf_34 : decode cX9_sayOf 34 = .ok (.aload_n 0, 1) := by decide +kernel
theorem dX9_sayOf_35 : decode cX9_sayOf 35 = .ok (.getfield 58, 3) := by decide +kernel
theorem dX9_sayOf_38 : decode cX9_sayOf 38 = .ok (.aload_n 0, 1) := by decide +kernel
theorem dX9_sayOf_39 : decode cX9_sayOf 39 = .ok (.getfield 20, 3) := by decide +kernel
theorem dX9_sayOf_42 : decode cX9_sayOf 42 = .ok (.iload_n 1, 1) := by decide +kernel
theorem dX9_sayOf_43 : decode cX9_sayOf 43 = .ok (.aaload, 1) := by decide +kernel
theorem dX9_sayOf_44 : decode cX9_sayOf 44 = .ok (.aload_n 0, 1) := by decide +kernel
theorem dX9_sayOf_45 : decode cX9_sayOf 45 = .ok (.getfield 20, 3) := by decide +kernel
theorem dX9_sayOf_48 : decode cX9_sayOf 48 = .ok (.iload_n 2, 1) := by decide +kernel
theorem dX9_sayOf_49 : decode cX9_sayOf 49 = .ok (.aaload, 1) := by decide +kernel
theorem dX9_sayOf_50 : decode cX9_sayOf 50 = .ok (.iload_n 3, 1) := by decide +kernel
theorem dX9_sayOf_51 : decode cX9_sayOf 51 = .ok (.iload 4, 2) := by decide +kernel
theorem dX9_sayOf_53 : decode cX9_sayOf 53 = .ok (.invokevirtual 151, 3) := by decide +kernel
theorem dX9_sayOf_56 : decode cX9_sayOf 56 = .ok (.ireturn, 1) := by decide +kernel
set_option maxRecDepth 20000 in
theorem ggX9_holds_X9_isClaim : GoodIn wsX9_holds wsX9_isClaim := goodIn_r _ [5] (by decide +kernel) (by decide +kernel)
set_option maxRecDepth 20000 in
theorem gX9_holds_X9_isClaim : GoodIn wsX9_holds (va_wsS RX9 94 yX9_isClaim wsX9_isClaim) := goodIn_app (goodIn_of _ (by decide +kernel)) ggX9_holds_X9_isClaim
set_option maxRecDepth 20000 in
theorem ggX9_holds_X9_isTold : GoodIn wsX9_holds wsX9_isTold := goodIn_r _ [8, 9] (by decide +kernel) (by decide +kernel)
set_option maxRecDepth 20000 in
theorem gX9_holds_X9_isTold : GoodIn wsX9_holds (va_wsS RX9 88 yX9_isTold wsX9_isTold) := goodIn_app (goodIn_of _ (by decide +kernel)) ggX9_holds_X9_isTold
set_option maxRecDepth 20000 in
theorem ggX9_holds_X9_isThere : GoodIn wsX9_holds wsX9_isThere := goodIn_r _ [13, 1, 2, 3, 4, 5, 14, 15, 16, 17, 18, 19, 40, 41, 42, 43, 44, 45, 46, 47, 48, 49] (by decide +kernel) (by decide +kernel)
set_option maxRecDepth 20000 in
theorem gX9_holds_X9_isThere : GoodIn wsX9_holds (wsV RX9 129 RX9 yX9_isThere wsX9_isThere) := goodIn_app (goodIn_of _ (by decide +kernel)) ggX9_holds_X9_isThere
set_option maxRecDepth 20000 in
theorem ggX9_holds_X0_saysOf : GoodIn wsX9_holds wsX0_saysOf := goodIn_r _ [23, 24, 25, 26, 17, 27, 28, 29, 30, 31, 32, 19, 33, 4, 34, 35, 36, 37, 38, 39, 47, 48, 49] (by decide +kernel) (by decide +kernel)
set_option maxRecDepth 20000 in
theorem gX9_holds_X0_saysOf : GoodIn wsX9_holds (wsV RX9 155 RX0 yX0_saysOf wsX0_saysOf) := goodIn_app (goodIn_of _ (by decide +kernel)) ggX9_holds_X0_saysOf
theorem dX9_holds_0 : decode cX9_holds 0 = .ok (.iload_n 1, 1) := by decide +kernel
theorem dX9_holds_1 : decode cX9_holds 1 = .ok (.invokestatic 94, 3) := by decide +kernel
theorem dX9_holds_4 : decode cX9_holds 4 = .ok (.ifCond .ne 5, 3) := by decide +kernel
theorem dX9_holds_7 : decode cX9_holds 7 = .ok (.iconst (-1), 1) := by decide +kernel
theorem dX9_holds_8 : decode cX9_holds 8 = .ok (.ireturn, 1) := by decide +kernel
theorem dX9_holds_9 : decode cX9_holds 9 = .ok (.iload_n 2, 1) := by decide +kernel
theorem dX9_holds_10 : decode cX9_holds 10 = .ok (.invokestatic 88, 3) := by decide +kernel
theorem dX9_holds_13 : decode cX9_holds 13 = .ok (.ifCond .eq 18, 3) := by decide +kernel
theorem dX9_holds_16 : decode cX9_holds 16 = .ok (.iload_n 3, 1) := by decide +kernel
theorem dX9_holds_17 : decode cX9_holds 17 = .ok (.invokestatic 88, 3) := by decide +kernel
theorem dX9_holds_20 : decode cX9_holds 20 = .ok (.ifCond .eq 11, 3) := by decide +kernel
theorem dX9_holds_23 : decode cX9_holds 23 = .ok (.iload 4, 2) := by decide +kernel
theorem dX9_holds_25 : decode cX9_holds 25 = .ok (.invokestatic 88, 3) := by decide +kernel
theorem dX9_holds_28 : decode cX9_holds 28 = .ok (.ifCond .ne 6, 3) := by decide +kernel
theorem dX9_holds_31 : decode cX9_holds 31 = .ok (.bipush (-2), 2) := by decide +kernel
theorem dX9_holds_33 : decode cX9_holds 33 = .ok (.ireturn, 1) := by decide +kernel
theorem dX9_holds_34 : decode cX9_holds 34 = .ok (.aload_n 0, 1) := by decide +kernel
theorem dX9_holds_35 : decode cX9_holds 35 = .ok (.iload_n 1, 1) := by decide +kernel
theorem dX9_holds_36 : decode cX9_holds 36 = .ok (.invokevirtual 129, 3) := by decide +kernel
theorem dX9_holds_39 : decode cX9_holds 39 = .ok (.ifCond .ne 6, 3) := by decide +kernel
theorem dX9_holds_42 : decode cX9_holds 42 = .ok (.bipush (-3), 2) := by decide +kernel
theorem dX9_holds_44 : decode cX9_holds 44 = .ok (.ireturn, 1) := by decide +kernel
theorem dX9_holds_45 : decode cX9_holds 45 = .ok (.aload_n 0, 1) := by decide +kernel
theorem dX9_holds_46 : decode cX9_holds 46 = .ok (.getfield 20, 3) := by decide +kernel
theorem dX9_holds_49 : decode cX9_holds 49 = .ok (.iload_n 1, 1) := by decide +kernel
theorem dX9_holds_50 : decode cX9_holds 50 = .ok (.aaload, 1) := by decide +kernel
theorem dX9_holds_51 : decode cX9_holds 51 = .ok (.iload_n 2, 1) := by decide +kernel
theorem dX9_holds_52 : decode cX9_holds 52 = .ok (.iload_n 3, 1) := by decide +kernel
theorem dX9_holds_53 : decode cX9_holds 53 = .ok (.iload 4, 2) := by decide +kernel
theorem dX9_holds_55 : decode cX9_holds 55 = .ok (.invokevirtual 155, 3) := by decide +kernel
theorem dX9_holds_58 : decode cX9_holds 58 = .ok (.ifCond .eq 7, 3) := by decide +kernel
theorem dX9_holds_61 : decode cX9_holds 61 = .ok (.iconst 1, 1) := by decide +kernel
theorem dX9_holds_62 : decode cX9_holds 62 = .ok (.goto 4, 3) := by decide +kernel
theorem dX9_holds_65 : decode cX9_holds 65 = .ok (.iconst 0, 1) := by decide +kernel
theorem dX9_holds_66 : decode cX9_holds 66 = .ok (.ireturn, 1) := by decide +kernel
set_option maxRecDepth 20000 in
theorem ggX9_depends_X9_isClaim : GoodIn wsX9_depends wsX9_isClaim := goodIn_r _ [5] (by decide +kernel) (by decide +kernel)
set_option maxRecDepth 20000 in
theorem gX9_depends_X9_isClaim : GoodIn wsX9_depends (va_wsS RX9 94 yX9_isClaim wsX9_isClaim) := goodIn_app (goodIn_of _ (by decide +kernel)) ggX9_depends_X9_isClaim
set_option maxRecDepth 20000 in
theorem ggX9_depends_X9_isThere : GoodIn wsX9_depends wsX9_isThere := goodIn_r _ [9, 1, 2, 3, 4, 5, 10, 11, 12, 13, 14, 15, 31, 32, 33, 34, 35, 36, 37, 38, 39, 40] (by decide +kernel) (by decide +kernel)
set_option maxRecDepth 20000 in
theorem gX9_depends_X9_isThere : GoodIn wsX9_depends (wsV RX9 129 RX9 yX9_isThere wsX9_isThere) := goodIn_app (goodIn_of _ (by decide +kernel)) ggX9_depends_X9_isThere
set_option maxRecDepth 20000 in
theorem ggX9_depends_X0_heeds : GoodIn wsX9_depends wsX0_heeds := goodIn_r _ [19, 15, 20, 21, 22, 13, 23, 24, 25, 26, 27, 28, 29, 4, 30, 38, 39, 40] (by decide +kernel) (by decide +kernel)
set_option maxRecDepth 20000 in
theorem gX9_depends_X0_heeds : GoodIn wsX9_depends (wsV RX9 159 RX0 yX0_heeds wsX0_heeds) := goodIn_app (goodIn_of _ (by decide +kernel)) ggX9_depends_X0_heeds
theorem dX9_depends_0 : decode cX9_depends 0 = .ok (.iload_n 1, 1) := by decide +kernel
theorem dX9_depends_1 : decode cX9_depends 1 = .ok (.invokestatic 94, 3) := by decide +kernel
theorem dX9_depends_4 : decode cX9_depends 4 = .ok (.ifCond .ne 5, 3) := by decide +kernel
theorem dX9_depends_7 : decode cX9_depends 7 = .ok (.iconst (-1), 1) := by decide +kernel
theorem dX9_depends_8 : decode cX9_depends 8 = .ok (.ireturn, 1) := by decide +kernel
theorem dX9_depends_9 : decode cX9_depends 9 = .ok (.aload_n 0, 1) := by decide +kernel
theorem dX9_depends_10 : decode cX9_depends 10 = .ok (.iload_n 1, 1) := by decide +kernel
theorem dX9_depends_11 : decode cX9_depends 11 = .ok (.invokevirtual 129, 3) := by decide +kernel
theorem dX9_depends_14 : decode cX9_depends 14 = .ok (.ifCond .ne 6, 3) := by decide +kernel
theorem dX9_depends_17 : decode cX9_depends 17 = .ok (.bipush (-3), 2) := by decide +kernel
theorem dX9_depends_19 : decode cX9_depends 19 = .ok (.ireturn, 1) := by decide +kernel
theorem dX9_depends_20 : decode cX9_depends 20 = .ok (.iconst 0, 1) := by decide +kernel
theorem dX9_depends_21 : decode cX9_depends 21 = .ok (.istore_n 2, 1) := by decide +kernel
theorem dX9_depends_22 : decode cX9_depends 22 = .ok (.iconst 0, 1) := by decide +kernel
theorem dX9_depends_23 : decode cX9_depends 23 = .ok (.istore_n 3, 1) := by decide +kernel
theorem dX9_depends_24 : decode cX9_depends 24 = .ok (.iload_n 3, 1) := by decide +kernel
theorem dX9_depends_25 : decode cX9_depends 25 = .ok (.iconst 3, 1) := by decide +kernel
theorem dX9_depends_26 : decode cX9_depends 26 = .ok (.if_icmp .ge 28, 3) := by decide +kernel
theorem dX9_depends_29 : decode cX9_depends 29 = .ok (.aload_n 0, 1) := by decide +kernel
theorem dX9_depends_30 : decode cX9_depends 30 = .ok (.getfield 20, 3) := by decide +kernel
theorem dX9_depends_33 : decode cX9_depends 33 = .ok (.iload_n 1, 1) := by decide +kernel
theorem dX9_depends_34 : decode cX9_depends 34 = .ok (.aaload, 1) := by decide +kernel
theorem dX9_depends_35 : decode cX9_depends 35 = .ok (.iload_n 3, 1) := by decide +kernel
theorem dX9_depends_36 : decode cX9_depends 36 = .ok (.invokevirtual 159, 3) := by decide +kernel
theorem dX9_depends_39 : decode cX9_depends 39 = .ok (.ifCond .eq 9, 3) := by decide +kernel
theorem dX9_depends_42 : decode cX9_depends 42 = .ok (.iload_n 2, 1) := by decide +kernel
theorem dX9_depends_43 : decode cX9_depends 43 = .ok (.iconst 1, 1) := by decide +kernel
theorem dX9_depends_44 : decode cX9_depends 44 = .ok (.iload_n 3, 1) := by decide +kernel
theorem dX9_depends_45 : decode cX9_depends 45 = .ok (.ishl, 1) := by decide +kernel
theorem dX9_depends_46 : decode cX9_depends 46 = .ok (.ior, 1) := by decide +kernel
theorem dX9_depends_47 : decode cX9_depends 47 = .ok (.istore_n 2, 1) := by decide +kernel
theorem dX9_depends_48 : decode cX9_depends 48 = .ok (.iinc 3 1, 3) := by decide +kernel
theorem dX9_depends_51 : decode cX9_depends 51 = .ok (.goto (-27), 3) := by decide +kernel
theorem dX9_depends_54 : decode cX9_depends 54 = .ok (.iload_n 2, 1) := by decide +kernel
theorem dX9_depends_55 : decode cX9_depends 55 = .ok (.ireturn, 1) := by decide +kernel
set_option maxRecDepth 20000 in
theorem ggX9_kinds_X9_isClaim : GoodIn wsX9_kinds wsX9_isClaim := goodIn_r _ [5] (by decide +kernel) (by decide +kernel)
set_option maxRecDepth 20000 in
theorem gX9_kinds_X9_isClaim : GoodIn wsX9_kinds (va_wsS RX9 94 yX9_isClaim wsX9_isClaim) := goodIn_app (goodIn_of _ (by decide +kernel)) ggX9_kinds_X9_isClaim
set_option maxRecDepth 20000 in
theorem ggX9_kinds_X9_isThere : GoodIn wsX9_kinds wsX9_isThere := goodIn_r _ [9, 1, 2, 3, 4, 5, 10, 11, 12, 13, 14, 15, 16, 17, 18, 19, 20, 21, 22, 23, 24, 25] (by decide +kernel) (by decide +kernel)
set_option maxRecDepth 20000 in
theorem gX9_kinds_X9_isThere : GoodIn wsX9_kinds (wsV RX9 129 RX9 yX9_isThere wsX9_isThere) := goodIn_app (goodIn_of _ (by decide +kernel)) ggX9_kinds_X9_isThere
set_option maxRecDepth 20000 in
theorem ggX9_kinds_X0_size : GoodIn wsX9_kinds wsX0_size := goodIn_r _ [14, 15, 23, 24, 25] (by decide +kernel) (by decide +kernel)
set_option maxRecDepth 20000 in
theorem gX9_kinds_X0_size : GoodIn wsX9_kinds (wsV RX9 136 RX0 yX0_size wsX0_size) := goodIn_app (goodIn_of _ (by decide +kernel)) ggX9_kinds_X0_size
theorem dX9_kinds_0 : decode cX9_kinds 0 = .ok (.iload_n 1, 1) := by decide +kernel
theorem dX9_kinds_1 : decode cX9_kinds 1 = .ok (.invokestatic 94, 3) := by decide +kernel
theorem dX9_kinds_4 : decode cX9_kinds 4 = .ok (.ifCond .ne 5, 3) := by decide +kernel
theorem dX9_kinds_7 : decode cX9_kinds 7 = .ok (.iconst (-1), 1) := by decide +kernel
theorem dX9_kinds_8 : decode cX9_kinds 8 = .ok (.ireturn, 1) := by decide +kernel
theorem dX9_kinds_9 : decode cX9_kinds 9 = .ok (.aload_n 0, 1) := by decide +kernel
theorem dX9_kinds_10 : decode cX9_kinds 10 = .ok (.iload_n 1, 1) := by decide +kernel
theorem dX9_kinds_11 : decode cX9_kinds 11 = .ok (.invokevirtual 129, 3) := by decide +kernel
theorem dX9_kinds_14 : decode cX9_kinds 14 = .ok (.ifCond .eq 15, 3) := by decide +kernel
theorem dX9_kinds_17 : decode cX9_kinds 17 = .ok (.aload_n 0, 1) := by decide +kernel
theorem dX9_kinds_18 : decode cX9_kinds 18 = .ok (.getfield 20, 3) := by decide +kernel
theorem dX9_kinds_21 : decode cX9_kinds 21 = .ok (.iload_n 1, 1) := by decide +kernel
theorem dX9_kinds_22 : decode cX9_kinds 22 = .ok (.aaload, 1) := by decide +kernel
theorem dX9_kinds_23 : decode cX9_kinds 23 = .ok (.invokevirtual 136, 3) := by decide +kernel
theorem dX9_kinds_26 : decode cX9_kinds 26 = .ok (.goto 5, 3) := by decide +kernel
theorem dX9_kinds_29 : decode cX9_kinds 29 = .ok (.bipush (-3), 2) := by decide +kernel
theorem dX9_kinds_31 : decode cX9_kinds 31 = .ok (.ireturn, 1) := by decide +kernel
set_option maxRecDepth 20000 in
theorem ggX9_below_X9_isClaim : GoodIn wsX9_below wsX9_isClaim := goodIn_r _ [7] (by decide +kernel) (by decide +kernel)
set_option maxRecDepth 20000 in
theorem gX9_below_X9_isClaim : GoodIn wsX9_below (va_wsS RX9 94 yX9_isClaim wsX9_isClaim) := goodIn_app (goodIn_of _ (by decide +kernel)) ggX9_below_X9_isClaim
set_option maxRecDepth 20000 in
theorem ggX9_below_X9_isThere : GoodIn wsX9_below wsX9_isThere := goodIn_r _ [11, 3, 4, 5, 6, 7, 12, 13, 14, 15, 16, 17, 54, 55, 56, 57, 58, 59, 60, 61, 62, 63] (by decide +kernel) (by decide +kernel)
set_option maxRecDepth 20000 in
theorem gX9_below_X9_isThere : GoodIn wsX9_below (wsV RX9 129 RX9 yX9_isThere wsX9_isThere) := goodIn_app (goodIn_of _ (by decide +kernel)) ggX9_below_X9_isThere
set_option maxRecDepth 20000 in
theorem ggX9_below_X8_countBelow : GoodIn wsX9_below wsX8_countBelow := goodIn_r _ [22, 23, 24, 25, 26, 27, 28, 29, 30, 31, 32, 33, 13, 14, 15, 16, 17, 34, 35, 36, 37, 38, 39, 40, 41, 42, 43, 44, 45, 21, 46, 47, 48, 49, 50, 51, 52, 6, 53, 64, 65, 66, 67, 61, 62, 63] (by decide +kernel) (by decide +kernel)
set_option maxRecDepth 20000 in
theorem gX9_below_X8_countBelow : GoodIn wsX9_below (wsV RX9 164 RX8 yX8_countBelow wsX8_countBelow) := goodIn_app (goodIn_of _ (by decide +kernel)) ggX9_below_X8_countBelow
theorem dX9_below_0 : decode cX9_below 0 = .ok (.iload_n 1, 1) := by decide +kernel
theorem dX9_below_1 : decode cX9_below 1 = .ok (.invokestatic 94, 3) := by decide +kernel
theorem dX9_below_4 : decode cX9_below 4 = .ok (.ifCond .eq 21, 3) := by decide +kernel
theorem dX9_below_7 : decode cX9_below 7 = .ok (.iload_n 2, 1) := by decide +kernel
theorem dX9_below_8 : decode cX9_below 8 = .ok (.ifCond .lt 17, 3) := by decide +kernel
theorem dX9_below_11 : decode cX9_below 11 = .ok (.iload_n 2, 1) := by decide +kernel
theorem dX9_below_12 : decode cX9_below 12 = .ok (.bipush 12, 2) := by decide +kernel
theorem dX9_below_14 : decode cX9_below 14 = .ok (.if_icmp .gt 11, 3) := by decide +kernel
theorem dX9_below_17 : decode cX9_below 17 = .ok (.aload_n 0, 1) := by decide +kernel
theorem dX9_below_18 : decode cX9_below 18 = .ok (.iload_n 1, 1) := by decide +kernel
theorem dX9_below_19 : decode cX9_below 19 = .ok (.invokevirtual 129, 3) := by decide +kernel
theorem dX9_below_22 : decode cX9_below 22 = .ok (.ifCond .ne 7, 3) := by decide +kernel
theorem dX9_below_25 : decode cX9_below 25 = .ok (.ldc2_w 162, 3) := by decide +kernel
theorem dX9_below_28 : decode cX9_below 28 = .ok (.lreturn, 1) := by decide +kernel
theorem dX9_below_29 : decode cX9_below 29 = .ok (.aload_n 0, 1) := by decide +kernel
theorem dX9_below_30 : decode cX9_below 30 = .ok (.getfield 65, 3) := by decide +kernel
theorem dX9_below_33 : decode cX9_below 33 = .ok (.aload_n 0, 1) := by decide +kernel
theorem dX9_below_34 : decode cX9_below 34 = .ok (.getfield 20, 3) := by decide +kernel
theorem dX9_below_37 : decode cX9_below 37 = .ok (.iload_n 1, 1) := by decide +kernel
theorem dX9_below_38 : decode cX9_below 38 = .ok (.aaload, 1) := by decide +kernel
theorem dX9_below_39 : decode cX9_below 39 = .ok (.iload_n 2, 1) := by decide +kernel
theorem dX9_below_40 : decode cX9_below 40 = .ok (.invokevirtual 164, 3) := by decide +kernel
theorem dX9_below_43 : decode cX9_below 43 = .ok (.lreturn, 1) := by decide +kernel
set_option maxRecDepth 20000 in
theorem ggX9_least_X9_isClaim : GoodIn wsX9_least wsX9_isClaim := goodIn_r _ [9] (by decide +kernel) (by decide +kernel)
set_option maxRecDepth 20000 in
theorem gX9_least_X9_isClaim : GoodIn wsX9_least (va_wsS RX9 94 yX9_isClaim wsX9_isClaim) := goodIn_app (goodIn_of _ (by decide +kernel)) ggX9_least_X9_isClaim
set_option maxRecDepth 20000 in
theorem ggX9_least_X9_isNumber : GoodIn wsX9_least wsX9_isNumber := goodIn_r _ [12] (by decide +kernel) (by decide +kernel)
set_option maxRecDepth 20000 in
theorem gX9_least_X9_isNumber : GoodIn wsX9_least (va_wsS RX9 111 yX9_isNumber wsX9_isNumber) := goodIn_app (goodIn_of _ (by decide +kernel)) ggX9_least_X9_isNumber
set_option maxRecDepth 20000 in
theorem ggX9_least_X9_isThere : GoodIn wsX9_least wsX9_isThere := goodIn_r _ [16, 3, 6, 7, 8, 9, 17, 18, 19, 20, 21, 22, 243, 244, 245, 246, 247, 248, 249, 250, 251, 252] (by decide +kernel) (by decide +kernel)
set_option maxRecDepth 20000 in
theorem gX9_least_X9_isThere : GoodIn wsX9_least (wsV RX9 129 RX9 yX9_isThere wsX9_isThere) := goodIn_app (goodIn_of _ (by decide +kernel)) ggX9_least_X9_isThere
set_option maxRecDepth 20000 in
theorem ggX9_least_X6_say : GoodIn wsX9_least wsX6_say := goodIn_r _ [27, 28, 29, 30, 31, 32, 33, 34, 26, 35, 36, 37, 18, 19, 20, 21, 22, 38, 39, 40, 41, 42, 43, 44, 45, 46, 47, 48, 49, 50, 51, 52, 8, 53, 54, 55, 56, 57, 58, 59, 60, 61, 62, 63, 64, 65, 66, 67, 68, 69, 70, 71, 72, 73, 74, 75, 76, 77, 78, 79, 80, 81, 82, 83, 84, 85, 86, 87, 88, 89, 90, 91, 92, 93, 94, 95, 96, 97, 98, 99, 100, 101, 102, 103, 104, 105, 106, 107, 108, 109, 110, 111, 112, 113, 114, 115, 116, 117, 118, 119, 120, 121, 122, 123, 124, 125, 126, 127, 128, 129, 130, 131, 132, 133, 134, 135, 136, 137, 138, 139, 140, 141, 142, 143, 144, 145, 146, 147, 148, 149, 150, 151, 152, 153, 154, 155, 156, 157, 158, 159, 160, 161, 162, 163, 164, 165, 166, 167, 168, 169, 170, 171, 172, 173, 174, 175, 176, 177, 178, 179, 180, 181, 182, 183, 184, 185, 186, 187, 188, 189, 190, 191, 192, 193, 194, 195, 196, 197, 198, 199, 200, 201, 202, 203, 204, 205, 206, 207, 208, 209, 210, 211, 212, 213, 214, 215, 216, 217, 218, 219, 253, 254, 255, 256, 250, 251, 252, 257, 258, 259, 260, 261, 262, 263, 264, 265, 266, 267, 268, 269, 270, 271, 272, 273] (by decide +kernel) (by decide +kernel)
set_option maxRecDepth 20000 in
theorem gX9_least_X6_say : GoodIn wsX9_least (wsV RX9 151 RX6 yX6_say wsX6_say) := goodIn_app (goodIn_of _ (by decide +kernel)) ggX9_least_X6_say
set_option maxRecDepth 20000 in
theorem ggX9_least_X8_leastOf : GoodIn wsX9_least wsX8_leastOf := goodIn_r _ [224, 225, 226, 227, 228, 229, 230, 231, 63, 232, 233, 234, 235, 223, 236, 237, 238, 239, 240, 241, 39, 40, 20, 41, 42, 43, 44, 45, 46, 22, 242, 48, 49, 50, 51, 52, 8, 53, 274, 275, 276, 277, 250, 251, 252] (by decide +kernel) (by decide +kernel)
set_option maxRecDepth 20000 in
theorem gX9_least_X8_leastOf : GoodIn wsX9_least (wsV RX9 168 RX8 yX8_leastOf wsX8_leastOf) := goodIn_app (goodIn_of _ (by decide +kernel)) ggX9_least_X8_leastOf
theorem dX9_least_0 : decode cX9_least 0 = .ok (.iload_n 1, 1) := by decide +kernel
theorem dX9_least_1 : decode cX9_least 1 = .ok (.invokestatic 94, 3) := by decide +kernel
theorem dX9_least_4 : decode cX9_least 4 = .ok (.ifCond .eq 10, 3) := by decide +kernel
theorem dX9_least_7 : decode cX9_least 7 = .ok (.iload_n 2, 1) := by decide +kernel
theorem dX9_least_8 : decode cX9_least 8 = .ok (.invokestatic 111, 3) := by decide +kernel
theorem dX9_least_11 : decode cX9_least 11 = .ok (.ifCond .ne 5, 3) := by decide +kernel
theorem dX9_least_14 : decode cX9_least 14 = .ok (.iconst (-1), 1) := by decide +kernel
theorem dX9_least_15 : decode cX9_least 15 = .ok (.ireturn, 1) := by decide +kernel
theorem dX9_least_16 : decode cX9_least 16 = .ok (.aload_n 0, 1) := by decide +kernel
theorem dX9_least_17 : decode cX9_least 17 = .ok (.iload_n 1, 1) := by decide +kernel
theorem dX9_least_18 : decode cX9_least 18 = .ok (.invokevirtual 129, 3) := by decide +kernel
theorem dX9_least_21 : decode cX9_least 21 = .ok (.ifCond .ne 6, 3) := by decide +kernel
theorem dX9_least_24 : decode cX9_least 24 = .ok (.bipush (-3), 2) := by decide +kernel
theorem dX9_least_26 : decode cX9_least 26 = .ok (.ireturn, 1) := by decide +kernel
theorem dX9_least_27 : decode cX9_least 27 = .ok (.iload_n 2, 1) := by decide +kernel
theorem dX9_least_28 : decode cX9_least 28 = .ok (.ifCond .ne 7, 3) := by decide +kernel
theorem dX9_least_31 : decode cX9_least 31 = .ok (.iconst 1, 1) := by decide +kernel
theorem dX9_least_32 : decode cX9_least 32 = .ok (.goto 4, 3) := by decide +kernel
theorem dX9_least_35 : decode cX9_least 35 = .ok (.iconst 0, 1) := by decide +kernel
theorem dX9_least_36 : decode cX9_least 36 = .ok (.istore_n 3, 1) := by decide +kernel
theorem dX9_least_37 : decode cX9_least 37 = .ok (.iconst 3, 1) := by decide +kernel
theorem dX9_least_38 : decode cX9_least 38 = .ok (.iload_n 2, 1) := by decide +kernel
theorem dX9_least_39 : decode cX9_least 39 = .ok (.isub, 1) := by decide +kernel
theorem dX9_least_40 : decode cX9_least 40 = .ok (.iload_n 3, 1) := by decide +kernel
theorem dX9_least_41 : decode cX9_least 41 = .ok (.isub, 1) := by decide +kernel
theorem dX9_least_42 : decode cX9_least 42 = .ok (.istore 4, 2) := by decide +kernel
theorem dX9_least_44 : decode cX9_least 44 = .ok (.aload_n 0, 1) := by decide +kernel
theorem dX9_least_45 : decode cX9_least 45 = .ok (.getfield 58, 3) := by decide +kernel
theorem dX9_least_48 : decode cX9_least 48 = .ok (.aload_n 0, 1) := by decide +kernel
theorem dX9_least_49 : decode cX9_least 49 = .ok (.getfield 25, 3) := by decide +kernel
theorem dX9_least_52 : decode cX9_least 52 = .ok (.aload_n 0, 1) := by decide +kernel
theorem dX9_least_53 : decode cX9_least 53 = .ok (.getfield 20, 3) := by decide +kernel
theorem dX9_least_56 : decode cX9_least 56 = .ok (.iload_n 1, 1) := by decide +kernel
theorem dX9_least_57 : decode cX9_least 57 = .ok (.aaload, 1) := by decide +kernel
theorem dX9_least_58 : decode cX9_least 58 = .ok (.iload_n 3, 1) := by decide +kernel
theorem dX9_least_59 : decode cX9_least 59 = .ok (.iconst 0, 1) := by decide +kernel
theorem dX9_least_60 : decode cX9_least 60 = .ok (.invokevirtual 151, 3) := by decide +kernel
theorem dX9_least_63 : decode cX9_least 63 = .ok (.bipush (-6), 2) := by decide +kernel
theorem dX9_least_65 : decode cX9_least 65 = .ok (.if_icmp .ne 6, 3) := by decide +kernel
theorem dX9_least_68 : decode cX9_least 68 = .ok (.bipush (-6), 2) := by decide +kernel
theorem dX9_least_70 : decode cX9_least 70 = .ok (.ireturn, 1) := by decide +kernel
theorem dX9_least_71 : decode cX9_least 71 = .ok (.aload_n 0, 1) := by decide +kernel
theorem dX9_least_72 : decode cX9_least 72 = .ok (.getfield 58, 3) := by decide +kernel
theorem dX9_least_75 : decode cX9_least 75 = .ok (.aload_n 0, 1) := by decide +kernel
theorem dX9_least_76 : decode cX9_least 76 = .ok (.getfield 25, 3) := by decide +kernel
theorem dX9_least_79 : decode cX9_least 79 = .ok (.aload_n 0, 1) := by decide +kernel
theorem dX9_least_80 : decode cX9_least 80 = .ok (.getfield 25, 3) := by decide +kernel
theorem dX9_least_83 : decode cX9_least 83 = .ok (.iload 4, 2) := by decide +kernel
theorem dX9_least_85 : decode cX9_least 85 = .ok (.iconst 0, 1) := by decide +kernel
theorem dX9_least_86 : decode cX9_least 86 = .ok (.invokevirtual 151, 3) := by decide +kernel
theorem dX9_least_89 : decode cX9_least 89 = .ok (.bipush (-6), 2) := by decide +kernel
theorem dX9_least_91 : decode cX9_least 91 = .ok (.if_icmp .ne 6, 3) := by decide +kernel
theorem dX9_least_94 : decode cX9_least 94 = .ok (.bipush (-6), 2) := by decide +kernel
theorem dX9_least_96 : decode cX9_least 96 = .ok (.ireturn, 1) := by decide +kernel
theorem dX9_least_97 : decode cX9_least 97 = .ok (.aload_n 0, 1) := by decide +kernel
theorem dX9_least_98 : decode cX9_least 98 = .ok (.getfield 65, 3) := by decide +kernel
theorem dX9_least_101 : decode cX9_least 101 = .ok (.aload_n 0, 1) := by decide +kernel
theorem dX9_least_102 : decode cX9_least 102 = .ok (.getfield 25, 3) := by decide +kernel
theorem dX9_least_105 : decode cX9_least 105 = .ok (.iload_n 2, 1) := by decide +kernel
theorem dX9_least_106 : decode cX9_least 106 = .ok (.invokevirtual 168, 3) := by decide +kernel
theorem dX9_least_109 : decode cX9_least 109 = .ok (.lstore 5, 2) := by decide +kernel
theorem dX9_least_111 : decode cX9_least 111 = .ok (.lload 5, 2) := by decide +kernel
theorem dX9_least_113 : decode cX9_least 113 = .ok (.ldc2_w 171, 3) := by decide +kernel
theorem dX9_least_116 : decode cX9_least 116 = .ok (.lcmp, 1) := by decide +kernel
theorem dX9_least_117 : decode cX9_least 117 = .ok (.ifCond .le 8, 3) := by decide +kernel
theorem dX9_least_120 : decode cX9_least 120 = .ok (.bipush (-5), 2) := by decide +kernel
theorem dX9_least_122 : decode cX9_least 122 = .ok (.goto 6, 3) := by decide +kernel
theorem dX9_least_125 : decode cX9_least 125 = .ok (.lload 5, 2) := by decide +kernel
theorem dX9_least_127 : decode cX9_least 127 = .ok (.l2i, 1) := by decide +kernel
theorem dX9_least_128 : decode cX9_least 128 = .ok (.ireturn, 1) := by decide +kernel
set_option maxRecDepth 20000 in
theorem ggX9_same_X9_isClaim : GoodIn wsX9_same wsX9_isClaim := goodIn_r _ [5] (by decide +kernel) (by decide +kernel)
set_option maxRecDepth 20000 in
theorem gX9_same_X9_isClaim : GoodIn wsX9_same (va_wsS RX9 94 yX9_isClaim wsX9_isClaim) := goodIn_app (goodIn_of _ (by decide +kernel)) ggX9_same_X9_isClaim
set_option maxRecDepth 20000 in
theorem ggX9_same_X9_isThere : GoodIn wsX9_same wsX9_isThere := goodIn_r _ [9, 1, 2, 3, 4, 5, 10, 11, 12, 13, 14, 15, 22, 23, 24, 25, 26, 27, 28, 29, 30, 31] (by decide +kernel) (by decide +kernel)
set_option maxRecDepth 20000 in
theorem gX9_same_X9_isThere : GoodIn wsX9_same (wsV RX9 129 RX9 yX9_isThere wsX9_isThere) := goodIn_app (goodIn_of _ (by decide +kernel)) ggX9_same_X9_isThere
set_option maxRecDepth 20000 in
theorem ggX9_same_X0_isAsOther : GoodIn wsX9_same wsX0_isAsOther := goodIn_r _ [19, 15, 20, 21, 29, 30, 31] (by decide +kernel) (by decide +kernel)
set_option maxRecDepth 20000 in
theorem gX9_same_X0_isAsOther : GoodIn wsX9_same (wsV RX9 173 RX0 yX0_isAsOther wsX0_isAsOther) := goodIn_app (goodIn_of _ (by decide +kernel)) ggX9_same_X0_isAsOther
theorem dX9_same_0 : decode cX9_same 0 = .ok (.iload_n 1, 1) := by decide +kernel
theorem dX9_same_1 : decode cX9_same 1 = .ok (.invokestatic 94, 3) := by decide +kernel
theorem dX9_same_4 : decode cX9_same 4 = .ok (.ifCond .eq 10, 3) := by decide +kernel
theorem dX9_same_7 : decode cX9_same 7 = .ok (.iload_n 2, 1) := by decide +kernel
theorem dX9_same_8 : decode cX9_same 8 = .ok (.invokestatic 94, 3) := by decide +kernel
theorem dX9_same_11 : decode cX9_same 11 = .ok (.ifCond .ne 5, 3) := by decide +kernel
theorem dX9_same_14 : decode cX9_same 14 = .ok (.iconst (-1), 1) := by decide +kernel
theorem dX9_same_15 : decode cX9_same 15 = .ok (.ireturn, 1) := by decide +kernel
theorem dX9_same_16 : decode cX9_same 16 = .ok (.aload_n 0, 1) := by decide +kernel
theorem dX9_same_17 : decode cX9_same 17 = .ok (.iload_n 1, 1) := by decide +kernel
theorem dX9_same_18 : decode cX9_same 18 = .ok (.invokevirtual 129, 3) := by decide +kernel
theorem dX9_same_21 : decode cX9_same 21 = .ok (.ifCond .eq 11, 3) := by decide +kernel
theorem dX9_same_24 : decode cX9_same 24 = .ok (.aload_n 0, 1) := by decide +kernel
theorem dX9_same_25 : decode cX9_same 25 = .ok (.iload_n 2, 1) := by decide +kernel
theorem dX9_same_26 : decode cX9_same 26 = .ok (.invokevirtual 129, 3) := by decide +kernel
theorem dX9_same_29 : decode cX9_same 29 = .ok (.ifCond .ne 6, 3) := by decide +kernel
theorem dX9_same_32 : decode cX9_same 32 = .ok (.bipush (-3), 2) := by decide +kernel
theorem dX9_same_34 : decode cX9_same 34 = .ok (.ireturn, 1) := by decide +kernel
theorem dX9_same_35 : decode cX9_same 35 = .ok (.aload_n 0, 1) := by decide +kernel
theorem dX9_same_36 : decode cX9_same 36 = .ok (.getfield 20, 3) := by decide +kernel
theorem dX9_same_39 : decode cX9_same 39 = .ok (.iload_n 1, 1) := by decide +kernel
theorem dX9_same_40 : decode cX9_same 40 = .ok (.aaload, 1) := by decide +kernel
theorem dX9_same_41 : decode cX9_same 41 = .ok (.aload_n 0, 1) := by decide +kernel
theorem dX9_same_42 : decode cX9_same 42 = .ok (.getfield 20, 3) := by decide +kernel
theorem dX9_same_45 : decode cX9_same 45 = .ok (.iload_n 2, 1) := by decide +kernel
theorem dX9_same_46 : decode cX9_same 46 = .ok (.aaload, 1) := by decide +kernel
theorem dX9_same_47 : decode cX9_same 47 = .ok (.invokevirtual 173, 3) := by decide +kernel
theorem dX9_same_50 : decode cX9_same 50 = .ok (.ifCond .eq 7, 3) := by decide +kernel
theorem dX9_same_53 : decode cX9_same 53 = .ok (.iconst 1, 1) := by decide +kernel
theorem dX9_same_54 : decode cX9_same 54 = .ok (.goto 4, 3) := by decide +kernel
theorem dX9_same_57 : decode cX9_same 57 = .ok (.iconst 0, 1) := by decide +kernel
theorem dX9_same_58 : decode cX9_same 58 = .ok (.ireturn, 1) := by decide +kernel
set_option maxRecDepth 20000 in
theorem ggX9_drop_X9_isClaim : GoodIn wsX9_drop wsX9_isClaim := goodIn_r _ [5] (by decide +kernel) (by decide +kernel)
set_option maxRecDepth 20000 in
theorem gX9_drop_X9_isClaim : GoodIn wsX9_drop (va_wsS RX9 94 yX9_isClaim wsX9_isClaim) := goodIn_app (goodIn_of _ (by decide +kernel)) ggX9_drop_X9_isClaim
set_option maxRecDepth 20000 in
theorem ggX9_drop_X9_isThere : GoodIn wsX9_drop wsX9_isThere := goodIn_r _ [9, 1, 2, 3, 4, 5, 10, 11, 12, 13, 14, 15, 27, 28, 29, 30, 31, 32, 33, 34, 35, 36] (by decide +kernel) (by decide +kernel)
set_option maxRecDepth 20000 in
theorem gX9_drop_X9_isThere : GoodIn wsX9_drop (wsV RX9 129 RX9 yX9_isThere wsX9_isThere) := goodIn_app (goodIn_of _ (by decide +kernel)) ggX9_drop_X9_isThere
set_option maxRecDepth 20000 in
theorem ggX9_drop_X0_size : GoodIn wsX9_drop wsX0_size := goodIn_r _ [14, 15, 34, 35, 36] (by decide +kernel) (by decide +kernel)
set_option maxRecDepth 20000 in
theorem gX9_drop_X0_size : GoodIn wsX9_drop (wsV RX9 136 RX0 yX0_size wsX0_size) := goodIn_app (goodIn_of _ (by decide +kernel)) ggX9_drop_X0_size
set_option maxRecDepth 20000 in
theorem ggX9_drop_X0_begin : GoodIn wsX9_drop wsX0_begin := goodIn_r _ [19, 20, 21, 22, 23, 24, 25, 26, 15, 34, 35, 36] (by decide +kernel) (by decide +kernel)
set_option maxRecDepth 20000 in
theorem gX9_drop_X0_begin : GoodIn wsX9_drop (wsV RX9 177 RX0 yX0_begin wsX0_begin) := goodIn_app (goodIn_of _ (by decide +kernel)) ggX9_drop_X0_begin
theorem dX9_drop_0 : decode cX9_drop 0 = .ok (.iload_n 1, 1) := by decide +kernel
theorem dX9_drop_1 : decode cX9_drop 1 = .ok (.invokestatic 94, 3) := by decide +kernel
theorem dX9_drop_4 : decode cX9_drop 4 = .ok (.ifCond .ne 5, 3) := by decide +kernel
theorem dX9_drop_7 : decode cX9_drop 7 = .ok (.iconst (-1), 1) := by decide +kernel
theorem dX9_drop_8 : decode cX9_drop 8 = .ok (.ireturn, 1) := by decide +kernel
theorem dX9_drop_9 : decode cX9_drop 9 = .ok (.aload_n 0, 1) := by decide +kernel
theorem dX9_drop_10 : decode cX9_drop 10 = .ok (.iload_n 1, 1) := by decide +kernel
theorem dX9_drop_11 : decode cX9_drop 11 = .ok (.invokevirtual 129, 3) := by decide +kernel
theorem dX9_drop_14 : decode cX9_drop 14 = .ok (.ifCond .ne 6, 3) := by decide +kernel
theorem dX9_drop_17 : decode cX9_drop 17 = .ok (.bipush (-3), 2) := by decide +kernel
theorem dX9_drop_19 : decode cX9_drop 19 = .ok (.ireturn, 1) := by decide +kernel
theorem dX9_drop_20 : decode cX9_drop 20 = .ok (.aload_n 0, 1) := by decide +kernel
theorem dX9_drop_21 : decode cX9_drop 21 = .ok (.getfield 20, 3) := by decide +kernel
theorem dX9_drop_24 : decode cX9_drop 24 = .ok (.iload_n 1, 1) := by decide +kernel
theorem dX9_drop_25 : decode cX9_drop 25 = .ok (.aaload, 1) := by decide +kernel
theorem dX9_drop_26 : decode cX9_drop 26 = .ok (.invokevirtual 136, 3) := by decide +kernel
theorem dX9_drop_29 : decode cX9_drop 29 = .ok (.istore_n 2, 1) := by decide +kernel
theorem dX9_drop_30 : decode cX9_drop 30 = .ok (.aload_n 0, 1) := by decide +kernel
theorem dX9_drop_31 : decode cX9_drop 31 = .ok (.getfield 20, 3) := by decide +kernel
theorem dX9_drop_34 : decode cX9_drop 34 = .ok (.iload_n 1, 1) := by decide +kernel
theorem dX9_drop_35 : decode cX9_drop 35 = .ok (.aaload, 1) := by decide +kernel
theorem dX9_drop_36 : decode cX9_drop 36 = .ok (.iconst 0, 1) := by decide +kernel
theorem dX9_drop_37 : decode cX9_drop 37 = .ok (.invokevirtual 177, 3) := by decide +kernel
theorem dX9_drop_40 : decode cX9_drop 40 = .ok (.iload_n 2, 1) := by decide +kernel
theorem dX9_drop_41 : decode cX9_drop 41 = .ok (.ireturn, 1) := by decide +kernel
set_option maxRecDepth 20000 in
theorem ggX9_many_X0_size : GoodIn wsX9_many wsX0_size := goodIn_r _ [6, 7, 23, 24, 25] (by decide +kernel) (by decide +kernel)
set_option maxRecDepth 20000 in
theorem gX9_many_X0_size : GoodIn wsX9_many (wsV RX9 136 RX0 yX0_size wsX0_size) := goodIn_app (goodIn_of _ (by decide +kernel)) ggX9_many_X0_size
set_option maxRecDepth 20000 in
theorem ggX9_many_X9_isThere : GoodIn wsX9_many wsX9_isThere := goodIn_r _ [12, 1, 13, 14, 11, 15, 2, 3, 4, 5, 6, 7, 16, 17, 18, 19, 20, 21, 22, 23, 24, 25] (by decide +kernel) (by decide +kernel)
set_option maxRecDepth 20000 in
theorem gX9_many_X9_isThere : GoodIn wsX9_many (wsV RX9 129 RX9 yX9_isThere wsX9_isThere) := goodIn_app (goodIn_of _ (by decide +kernel)) ggX9_many_X9_isThere
theorem dX9_many_0 : decode cX9_many 0 = .ok (.iload_n 1, 1) := by decide +kernel
theorem dX9_many_1 : decode cX9_many 1 = .ok (.ifCond .lt 8, 3) := by decide +kernel
theorem dX9_many_4 : decode cX9_many 4 = .ok (.iload_n 1, 1) := by decide +kernel
theorem dX9_many_5 : decode cX9_many 5 = .ok (.iconst 1, 1) := by decide +kernel
theorem dX9_many_6 : decode cX9_many 6 = .ok (.if_icmp .le 6, 3) := by decide +kernel
theorem dX9_many_9 : decode cX9_many 9 = .ok (.bipush (-2), 2) := by decide +kernel
theorem dX9_many_11 : decode cX9_many 11 = .ok (.ireturn, 1) := by decide +kernel
theorem dX9_many_12 : decode cX9_many 12 = .ok (.iconst 0, 1) := by decide +kernel
theorem dX9_many_13 : decode cX9_many 13 = .ok (.istore_n 2, 1) := by decide +kernel
theorem dX9_many_14 : decode cX9_many 14 = .ok (.iconst 0, 1) := by decide +kernel
theorem dX9_many_15 : decode cX9_many 15 = .ok (.istore_n 3, 1) := by decide +kernel
theorem dX9_many_16 : decode cX9_many 16 = .ok (.iload_n 3, 1) := by decide +kernel
theorem dX9_many_17 : decode cX9_many 17 = .ok (.bipush 6, 2) := by decide +kernel
theorem dX9_many_19 : decode cX9_many 19 = .ok (.if_icmp .ge 40, 3) := by decide +kernel
theorem dX9_many_22 : decode cX9_many 22 = .ok (.iload_n 1, 1) := by decide +kernel
theorem dX9_many_23 : decode cX9_many 23 = .ok (.iconst 1, 1) := by decide +kernel
theorem dX9_many_24 : decode cX9_many 24 = .ok (.if_icmp .ne 18, 3) := by decide +kernel
theorem dX9_many_27 : decode cX9_many 27 = .ok (.iload_n 2, 1) := by decide +kernel
theorem dX9_many_28 : decode cX9_many 28 = .ok (.aload_n 0, 1) := by decide +kernel
theorem dX9_many_29 : decode cX9_many 29 = .ok (.getfield 20, 3) := by decide +kernel
theorem dX9_many_32 : decode cX9_many 32 = .ok (.iload_n 3, 1) := by decide +kernel
theorem dX9_many_33 : decode cX9_many 33 = .ok (.aaload, 1) := by decide +kernel
theorem dX9_many_34 : decode cX9_many 34 = .ok (.invokevirtual 136, 3) := by decide +kernel
theorem dX9_many_37 : decode cX9_many 37 = .ok (.iadd, 1) := by decide +kernel
theorem dX9_many_38 : decode cX9_many 38 = .ok (.istore_n 2, 1) := by decide +kernel
theorem dX9_many_39 : decode cX9_many 39 = .ok (.goto 14, 3) := by decide +kernel
theorem dX9_many_42 : decode cX9_many 42 = .ok (.aload_n 0, 1) := by decide +kernel
theorem dX9_many_43 : decode cX9_many 43 = .ok (.iload_n 3, 1) := by decide +kernel
theorem dX9_many_44 : decode cX9_many 44 = .ok (.invokevirtual 129, 3) := by decide +kernel
theorem dX9_many_47 : decode cX9_many 47 = .ok (.ifCond .eq 6, 3) := by decide +kernel
theorem dX9_many_50 : decode cX9_many 50 = .ok (.iinc 2 1, 3) := by decide +kernel
theorem dX9_many_53 : decode cX9_many 53 = .ok (.iinc 3 1, 3) := by decide +kernel
theorem dX9_many_56 : decode cX9_many 56 = .ok (.goto (-40), 3) := by decide +kernel
theorem dX9_many_59 : decode cX9_many 59 = .ok (.iload_n 2, 1) := by decide +kernel
theorem dX9_many_60 : decode cX9_many 60 = .ok (.ireturn, 1) := by decide +kernel
set_option maxRecDepth 20000 in
theorem ggX9_isThere_X9_isClaim : GoodIn wsX9_isThere wsX9_isClaim := goodIn_r _ [5] (by decide +kernel) (by decide +kernel)
set_option maxRecDepth 20000 in
theorem gX9_isThere_X9_isClaim : GoodIn wsX9_isThere (va_wsS RX9 94 yX9_isClaim wsX9_isClaim) := goodIn_app (goodIn_of _ (by decide +kernel)) ggX9_isThere_X9_isClaim
set_option maxRecDepth 20000 in
theorem ggX9_isThere_X0_size : GoodIn wsX9_isThere wsX0_size := goodIn_r _ [10, 11, 19, 20, 21] (by decide +kernel) (by decide +kernel)
set_option maxRecDepth 20000 in
theorem gX9_isThere_X0_size : GoodIn wsX9_isThere (wsV RX9 136 RX0 yX0_size wsX0_size) := goodIn_app (goodIn_of _ (by decide +kernel)) ggX9_isThere_X0_size
theorem dX9_isThere_0 : decode cX9_isThere 0 = .ok (.iload_n 1, 1) := by decide +kernel
theorem dX9_isThere_1 : decode cX9_isThere 1 = .ok (.invokestatic 94, 3) := by decide +kernel
theorem dX9_isThere_4 : decode cX9_isThere 4 = .ok (.ifCond .eq 19, 3) := by decide +kernel
theorem dX9_isThere_7 : decode cX9_isThere 7 = .ok (.aload_n 0, 1) := by decide +kernel
theorem dX9_isThere_8 : decode cX9_isThere 8 = .ok (.getfield 20, 3) := by decide +kernel
theorem dX9_isThere_11 : decode cX9_isThere 11 = .ok (.iload_n 1, 1) := by decide +kernel
theorem dX9_isThere_12 : decode cX9_isThere 12 = .ok (.aaload, 1) := by decide +kernel
theorem dX9_isThere_13 : decode cX9_isThere 13 = .ok (.invokevirtual 136, 3) := by decide +kernel
theorem dX9_isThere_16 : decode cX9_isThere 16 = .ok (.ifCond .le 7, 3) := by decide +kernel
theorem dX9_isThere_19 : decode cX9_isThere 19 = .ok (.iconst 1, 1) := by decide +kernel
theorem dX9_isThere_20 : decode cX9_isThere 20 = .ok (.goto 4, 3) := by decide +kernel
theorem dX9_isThere_23 : decode cX9_isThere 23 = .ok (.iconst 0, 1) := by decide +kernel
theorem dX9_isThere_24 : decode cX9_isThere 24 = .ok (.ireturn, 1) := by decide +kernel
theorem dX9_isClaim_0 : decode cX9_isClaim 0 = .ok (.iload_n 0, 1) := by decide +kernel
theorem dX9_isClaim_1 : decode cX9_isClaim 1 = .ok (.ifCond .lt 13, 3) := by decide +kernel
theorem dX9_isClaim_4 : decode cX9_isClaim 4 = .ok (.iload_n 0, 1) := by decide +kernel
theorem dX9_isClaim_5 : decode cX9_isClaim 5 = .ok (.bipush 6, 2) := by decide +kernel
theorem dX9_isClaim_7 : decode cX9_isClaim 7 = .ok (.if_icmp .ge 7, 3) := by decide +kernel
theorem dX9_isClaim_10 : decode cX9_isClaim 10 = .ok (.iconst 1, 1) := by decide +kernel
theorem dX9_isClaim_11 : decode cX9_isClaim 11 = .ok (.goto 4, 3) := by decide +kernel
theorem dX9_isClaim_14 : decode cX9_isClaim 14 = .ok (.iconst 0, 1) := by decide +kernel
theorem dX9_isClaim_15 : decode cX9_isClaim 15 = .ok (.ireturn, 1) := by decide +kernel
theorem dX9_isNumber_0 : decode cX9_isNumber 0 = .ok (.iload_n 0, 1) := by decide +kernel
theorem dX9_isNumber_1 : decode cX9_isNumber 1 = .ok (.ifCond .lt 12, 3) := by decide +kernel
theorem dX9_isNumber_4 : decode cX9_isNumber 4 = .ok (.iload_n 0, 1) := by decide +kernel
theorem dX9_isNumber_5 : decode cX9_isNumber 5 = .ok (.iconst 3, 1) := by decide +kernel
theorem dX9_isNumber_6 : decode cX9_isNumber 6 = .ok (.if_icmp .ge 7, 3) := by decide +kernel
theorem dX9_isNumber_9 : decode cX9_isNumber 9 = .ok (.iconst 1, 1) := by decide +kernel
theorem dX9_isNumber_10 : decode cX9_isNumber 10 = .ok (.goto 4, 3) := by decide +kernel
theorem dX9_isNumber_13 : decode cX9_isNumber 13 = .ok (.iconst 0, 1) := by decide +kernel
theorem dX9_isNumber_14 : decode cX9_isNumber 14 = .ok (.ireturn, 1) := by decide +kernel
set_option maxRecDepth 20000 in
theorem ggX9_areTwoNumbers_X9_isNumber : GoodIn wsX9_areTwoNumbers wsX9_isNumber := goodIn_r _ [4] (by decide +kernel) (by decide +kernel)
set_option maxRecDepth 20000 in
theorem gX9_areTwoNumbers_X9_isNumber : GoodIn wsX9_areTwoNumbers (va_wsS RX9 111 yX9_isNumber wsX9_isNumber) := goodIn_app (goodIn_of _ (by decide +kernel)) ggX9_areTwoNumbers_X9_isNumber
theorem dX9_areTwoNumbers_0 : decode cX9_areTwoNumbers 0 = .ok (.iload_n 0, 1) := by decide +kernel
theorem dX9_areTwoNumbers_1 : decode cX9_areTwoNumbers 1 = .ok (.invokestatic 111, 3) := by decide +kernel
theorem dX9_areTwoNumbers_4 : decode cX9_areTwoNumbers 4 = .ok (.ifCond .eq 19, 3) := by decide +kernel
theorem dX9_areTwoNumbers_7 : decode cX9_areTwoNumbers 7 = .ok (.iload_n 1, 1) := by decide +kernel
theorem dX9_areTwoNumbers_8 : decode cX9_areTwoNumbers 8 = .ok (.invokestatic 111, 3) := by decide +kernel
theorem dX9_areTwoNumbers_11 : decode cX9_areTwoNumbers 11 = .ok (.ifCond .eq 12, 3) := by decide +kernel
theorem dX9_areTwoNumbers_14 : decode cX9_areTwoNumbers 14 = .ok (.iload_n 0, 1) := by decide +kernel
theorem dX9_areTwoNumbers_15 : decode cX9_areTwoNumbers 15 = .ok (.iload_n 1, 1) := by decide +kernel
theorem dX9_areTwoNumbers_16 : decode cX9_areTwoNumbers 16 = .ok (.if_icmp .eq 7, 3) := by decide +kernel
theorem dX9_areTwoNumbers_19 : decode cX9_areTwoNumbers 19 = .ok (.iconst 1, 1) := by decide +kernel
theorem dX9_areTwoNumbers_20 : decode cX9_areTwoNumbers 20 = .ok (.goto 4, 3) := by decide +kernel
theorem dX9_areTwoNumbers_23 : decode cX9_areTwoNumbers 23 = .ok (.iconst 0, 1) := by decide +kernel
theorem dX9_areTwoNumbers_24 : decode cX9_areTwoNumbers 24 = .ok (.ireturn, 1) := by decide +kernel
theorem dX9_isPlace_0 : decode cX9_isPlace 0 = .ok (.iload_n 0, 1) := by decide +kernel
theorem dX9_isPlace_1 : decode cX9_isPlace 1 = .ok (.ifCond .lt 12, 3) := by decide +kernel
theorem dX9_isPlace_4 : decode cX9_isPlace 4 = .ok (.iload_n 0, 1) := by decide +kernel
theorem dX9_isPlace_5 : decode cX9_isPlace 5 = .ok (.iconst 5, 1) := by decide +kernel
theorem dX9_isPlace_6 : decode cX9_isPlace 6 = .ok (.if_icmp .ge 7, 3) := by decide +kernel
theorem dX9_isPlace_9 : decode cX9_isPlace 9 = .ok (.iconst 1, 1) := by decide +kernel
theorem dX9_isPlace_10 : decode cX9_isPlace 10 = .ok (.goto 4, 3) := by decide +kernel
theorem dX9_isPlace_13 : decode cX9_isPlace 13 = .ok (.iconst 0, 1) := by decide +kernel
theorem dX9_isPlace_14 : decode cX9_isPlace 14 = .ok (.ireturn, 1) := by decide +kernel
theorem dX9_isTelling_0 : decode cX9_isTelling 0 = .ok (.iload_n 0, 1) := by decide +kernel
theorem dX9_isTelling_1 : decode cX9_isTelling 1 = .ok (.ifCond .lt 12, 3) := by decide +kernel
theorem dX9_isTelling_4 : decode cX9_isTelling 4 = .ok (.iload_n 0, 1) := by decide +kernel
theorem dX9_isTelling_5 : decode cX9_isTelling 5 = .ok (.iconst 3, 1) := by decide +kernel
theorem dX9_isTelling_6 : decode cX9_isTelling 6 = .ok (.if_icmp .ge 7, 3) := by decide +kernel
theorem dX9_isTelling_9 : decode cX9_isTelling 9 = .ok (.iconst 1, 1) := by decide +kernel
theorem dX9_isTelling_10 : decode cX9_isTelling 10 = .ok (.goto 4, 3) := by decide +kernel
theorem dX9_isTelling_13 : decode cX9_isTelling 13 = .ok (.iconst 0, 1) := by decide +kernel
theorem dX9_isTelling_14 : decode cX9_isTelling 14 = .ok (.ireturn, 1) := by decide +kernel
theorem dX9_isTold_0 : decode cX9_isTold 0 = .ok (.iload_n 0, 1) := by decide +kernel
theorem dX9_isTold_1 : decode cX9_isTold 1 = .ok (.ifCond .lt 13, 3) := by decide +kernel
theorem dX9_isTold_4 : decode cX9_isTold 4 = .ok (.iload_n 0, 1) := by decide +kernel
theorem dX9_isTold_5 : decode cX9_isTold 5 = .ok (.ldc 181, 2) := by decide +kernel
theorem dX9_isTold_7 : decode cX9_isTold 7 = .ok (.if_icmp .gt 7, 3) := by decide +kernel
theorem dX9_isTold_10 : decode cX9_isTold 10 = .ok (.iconst 1, 1) := by decide +kernel
theorem dX9_isTold_11 : decode cX9_isTold 11 = .ok (.goto 4, 3) := by decide +kernel
theorem dX9_isTold_14 : decode cX9_isTold 14 = .ok (.iconst 0, 1) := by decide +kernel
theorem dX9_isTold_15 : decode cX9_isTold 15 = .ok (.ireturn, 1) := by decide +kernel
theorem dX9_isColumn_0 : decode cX9_isColumn 0 = .ok (.iload_n 0, 1) := by decide +kernel
theorem dX9_isColumn_1 : decode cX9_isColumn 1 = .ok (.ifCond .lt 13, 3) := by decide +kernel
theorem dX9_isColumn_4 : decode cX9_isColumn 4 = .ok (.iload_n 0, 1) := by decide +kernel
theorem dX9_isColumn_5 : decode cX9_isColumn 5 = .ok (.bipush 8, 2) := by decide +kernel
theorem dX9_isColumn_7 : decode cX9_isColumn 7 = .ok (.if_icmp .ge 7, 3) := by decide +kernel
theorem dX9_isColumn_10 : decode cX9_isColumn 10 = .ok (.iconst 1, 1) := by decide +kernel
theorem dX9_isColumn_11 : decode cX9_isColumn 11 = .ok (.goto 4, 3) := by decide +kernel
theorem dX9_isColumn_14 : decode cX9_isColumn 14 = .ok (.iconst 0, 1) := by decide +kernel
theorem dX9_isColumn_15 : decode cX9_isColumn 15 = .ok (.ireturn, 1) := by decide +kernel
theorem dX9_digitOf_0 : decode cX9_digitOf 0 = .ok (.iload_n 0, 1) := by decide +kernel
theorem dX9_digitOf_1 : decode cX9_digitOf 1 = .ok (.iload_n 1, 1) := by decide +kernel
theorem dX9_digitOf_2 : decode cX9_digitOf 2 = .ok (.ishr, 1) := by decide +kernel
theorem dX9_digitOf_3 : decode cX9_digitOf 3 = .ok (.iconst 1, 1) := by decide +kernel
theorem dX9_digitOf_4 : decode cX9_digitOf 4 = .ok (.iand, 1) := by decide +kernel
theorem dX9_digitOf_5 : decode cX9_digitOf 5 = .ok (.ireturn, 1) := by decide +kernel
