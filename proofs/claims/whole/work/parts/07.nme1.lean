theorem dX10_init_0 : decode cX10_init 0 = .ok (.aload_n 0, 1) := by decide +kernel
theorem dX10_init_1 : decode cX10_init 1 = .ok (.invokespecial 1, 3) := by decide +kernel
theorem dX10_init_4 : decode cX10_init 4 = .ok (.aload_n 0, 1) := by decide +kernel
theorem dX10_init_5 : decode cX10_init 5 = .ok (.bipush 10, 2) := by decide +kernel
theorem dX10_init_7 : decode cX10_init 7 = .ok (.newarray .int, 2) := by decide +kernel
theorem dX10_init_9 : decode cX10_init 9 = .ok (.putfield 7, 3) := by decide +kernel
theorem dX10_init_12 : decode cX10_init 12 = .ok (.aload_n 0, 1) := by decide +kernel
theorem dX10_init_13 : decode cX10_init 13 = .ok (.iconst 5, 1) := by decide +kernel
theorem dX10_init_14 : decode cX10_init 14 = .ok (.newarray .int, 2) := by decide +kernel
theorem dX10_init_16 : decode cX10_init 16 = .ok (.putfield 13, 3) := by decide +kernel
theorem dX10_init_19 : decode cX10_init 19 = .ok (.aload_n 0, 1) := by decide +kernel
theorem dX10_init_20 : decode cX10_init 20 = .ok (.bipush 8, 2) := by decide +kernel
theorem dX10_init_22 : decode cX10_init 22 = .ok (.newarray .int, 2) := by decide +kernel
theorem dX10_init_24 : decode cX10_init 24 = .ok (.putfield 16, 3) := by decide +kernel
theorem dX10_init_27 : decode cX10_init 27 = .ok (.aload_n 0, 1) := by decide +kernel
theorem dX10_init_28 : decode cX10_init 28 = .ok (.sipush 3840, 3) := by decide +kernel
theorem dX10_init_31 : decode cX10_init 31 = .ok (.newarray .int, 2) := by decide +kernel
theorem dX10_init_33 : decode cX10_init 33 = .ok (.putfield 19, 3) := by decide +kernel
theorem dX10_init_36 : decode cX10_init 36 = .ok (.aload_n 0, 1) := by decide +kernel
theorem dX10_init_37 : decode cX10_init 37 = .ok (.sipush 480, 3) := by decide +kernel
theorem dX10_init_40 : decode cX10_init 40 = .ok (.newarray .boolean, 2) := by decide +kernel
theorem dX10_init_42 : decode cX10_init 42 = .ok (.putfield 22, 3) := by decide +kernel
theorem dX10_init_45 : decode cX10_init 45 = .ok (.aload_n 0, 1) := by decide +kernel
theorem dX10_init_46 : decode cX10_init 46 = .ok (.sipush 3600, 3) := by decide +kernel
theorem dX10_init_49 : decode cX10_init 49 = .ok (.newarray .int, 2) := by decide +kernel
theorem dX10_init_51 : decode cX10_init 51 = .ok (.putfield 26, 3) := by decide +kernel
theorem dX10_init_54 : decode cX10_init 54 = .ok (.aload_n 0, 1) := by decide +kernel
theorem dX10_init_55 : decode cX10_init 55 = .ok (.sipush 28800, 3) := by decide +kernel
theorem dX10_init_58 : decode cX10_init 58 = .ok (.newarray .int, 2) := by decide +kernel
theorem dX10_init_60 : decode cX10_init 60 = .ok (.putfield 29, 3) := by decide +kernel
theorem dX10_init_63 : decode cX10_init 63 = .ok (.aload_n 0, 1) := by decide +kernel
theorem dX10_init_64 : decode cX10_init 64 = .ok (.sipush 3600, 3) := by decide +kernel
theorem dX10_init_67 : decode cX10_init 67 = .ok (.newarray .boolean, 2) := by decide +kernel
theorem dX10_init_69 : decode cX10_init 69 = .ok (.putfield 32, 3) := by decide +kernel
theorem dX10_init_72 : decode cX10_init 72 = .ok (.aload_n 0, 1) := by decide +kernel
theorem dX10_init_73 : decode cX10_init 73 = .ok (.sipush 3600, 3) := by decide +kernel
theorem dX10_init_76 : decode cX10_init 76 = .ok (.newarray .int, 2) := by decide +kernel
theorem dX10_init_78 : decode cX10_init 78 = .ok (.putfield 35, 3) := by decide +kernel
theorem dX10_init_81 : decode cX10_init 81 = .ok (.aload_n 0, 1) := by decide +kernel
theorem dX10_init_82 : decode cX10_init 82 = .ok (.sipush 3600, 3) := by decide +kernel
theorem dX10_init_85 : decode cX10_init 85 = .ok (.newarray .int, 2) := by decide +kernel
theorem dX10_init_87 : decode cX10_init 87 = .ok (.putfield 38, 3) := by decide +kernel
theorem dX10_init_90 : decode cX10_init 90 = .ok (.aload_n 0, 1) := by decide +kernel
theorem dX10_init_91 : decode cX10_init 91 = .ok (.sipush 3600, 3) := by decide +kernel
theorem dX10_init_94 : decode cX10_init 94 = .ok (.newarray .int, 2) := by decide +kernel
theorem dX10_init_96 : decode cX10_init 96 = .ok (.putfield 41, 3) := by decide +kernel
theorem dX10_init_99 : decode cX10_init 99 = .ok (.aload_n 0, 1) := by decide +kernel
theorem dX10_init_100 : decode cX10_init 100 = .ok (.bipush 61, 2) := by decide +kernel
theorem dX10_init_102 : decode cX10_init 102 = .ok (.newarray .int, 2) := by decide +kernel
theorem dX10_init_104 : decode cX10_init 104 = .ok (.putfield 44, 3) := by decide +kernel
theorem dX10_init_107 : decode cX10_init 107 = .ok (.aload_n 0, 1) := by decide +kernel
theorem dX10_init_108 : decode cX10_init 108 = .ok (.bipush 61, 2) := by decide +kernel
theorem dX10_init_110 : decode cX10_init 110 = .ok (.newarray .int, 2) := by decide +kernel
theorem dX10_init_112 : decode cX10_init 112 = .ok (.putfield 47, 3) := by decide +kernel
theorem dX10_init_115 : decode cX10_init 115 = .ok (.aload_n 0, 1) := by decide +kernel
theorem dX10_init_116 : decode cX10_init 116 = .ok (.bipush 61, 2) := by decide +kernel
theorem dX10_init_118 : decode cX10_init 118 = .ok (.newarray .int, 2) := by decide +kernel
theorem dX10_init_120 : decode cX10_init 120 = .ok (.putfield 50, 3) := by decide +kernel
theorem dX10_init_123 : decode cX10_init 123 = .ok (.aload_n 0, 1) := by decide +kernel
theorem dX10_init_124 : decode cX10_init 124 = .ok (.sipush 300, 3) := by decide +kernel
theorem dX10_init_127 : decode cX10_init 127 = .ok (.newarray .long, 2) := by decide +kernel
theorem dX10_init_129 : decode cX10_init 129 = .ok (.putfield 53, 3) := by decide +kernel
theorem dX10_init_132 : decode cX10_init 132 = .ok (.aload_n 0, 1) := by decide +kernel
theorem dX10_init_133 : decode cX10_init 133 = .ok (.bipush 60, 2) := by decide +kernel
theorem dX10_init_135 : decode cX10_init 135 = .ok (.newarray .long, 2) := by decide +kernel
theorem dX10_init_137 : decode cX10_init 137 = .ok (.putfield 57, 3) := by decide +kernel
theorem dX10_init_140 : decode cX10_init 140 = .ok (.aload_n 0, 1) := by decide +kernel
theorem dX10_init_141 : decode cX10_init 141 = .ok (.bipush 60, 2) := by decide +kernel
theorem dX10_init_143 : decode cX10_init 143 = .ok (.newarray .long, 2) := by decide +kernel
theorem dX10_init_145 : decode cX10_init 145 = .ok (.putfield 60, 3) := by decide +kernel
theorem dX10_init_148 : decode cX10_init 148 = .ok (.aload_n 0, 1) := by decide +kernel
theorem dX10_init_149 : decode cX10_init 149 = .ok (.bipush 60, 2) := by decide +kernel
theorem dX10_init_151 : decode cX10_init 151 = .ok (.newarray .int, 2) := by decide +kernel
theorem dX10_init_153 : decode cX10_init 153 = .ok (.putfield 63, 3) := by decide +kernel
theorem dX10_init_156 : decode cX10_init 156 = .ok (.aload_n 0, 1) := by decide +kernel
theorem dX10_init_157 : decode cX10_init 157 = .ok (.bipush 60, 2) := by decide +kernel
theorem dX10_init_159 : decode cX10_init 159 = .ok (.newarray .long, 2) := by decide +kernel
theorem dX10_init_161 : decode cX10_init 161 = .ok (.putfield 66, 3) := by decide +kernel
theorem dX10_init_164 : decode cX10_init 164 = .ok (.return_, 1) := by decide +kernel
theorem dX10_within_0 : decode cX10_within 0 = .ok (.iload_n 0, 1) := by decide +kernel
theorem dX10_within_1 : decode cX10_within 1 = .ok (.iload_n 1, 1) := by decide +kernel
theorem dX10_within_2 : decode cX10_within 2 = .ok (.if_icmp .lt 12, 3) := by decide +kernel
theorem dX10_within_5 : decode cX10_within 5 = .ok (.iload_n 0, 1) := by decide +kernel
theorem dX10_within_6 : decode cX10_within 6 = .ok (.iload_n 2, 1) := by decide +kernel
theorem dX10_within_7 : decode cX10_within 7 = .ok (.if_icmp .gt 7, 3) := by decide +kernel
theorem dX10_within_10 : decode cX10_within 10 = .ok (.iconst 1, 1) := by decide +kernel
theorem dX10_within_11 : decode cX10_within 11 = .ok (.goto 4, 3) := by decide +kernel
theorem dX10_within_14 : decode cX10_within 14 = .ok (.iconst 0, 1) := by decide +kernel
theorem dX10_within_15 : decode cX10_within 15 = .ok (.ireturn, 1) := by decide +kernel
set_option maxRecDepth 20000 in
theorem ggX10_isClaim_X10_within : GoodIn wsX10_isClaim wsX10_within := goodIn_r _ [4] (by decide +kernel) (by decide +kernel)
set_option maxRecDepth 20000 in
theorem gX10_isClaim_X10_within : GoodIn wsX10_isClaim (va_wsS RX10 69 yX10_within wsX10_within) := goodIn_app (goodIn_of _ (by decide +kernel)) ggX10_isClaim_X10_within
theorem dX10_isClaim_0 : decode cX10_isClaim 0 = .ok (.iload_n 0, 1) := by decide +kernel
theorem dX10_isClaim_1 : decode cX10_isClaim 1 = .ok (.iconst 0, 1) := by decide +kernel
theorem dX10_isClaim_2 : decode cX10_isClaim 2 = .ok (.iconst 5, 1) := by decide +kernel
theorem dX10_isClaim_3 : decode cX10_isClaim 3 = .ok (.invokestatic 69, 3) := by decide +kernel
theorem dX10_isClaim_6 : decode cX10_isClaim 6 = .ok (.ireturn, 1) := by decide +kernel
set_option maxRecDepth 20000 in
theorem ggX10_isNumber_X10_within : GoodIn wsX10_isNumber wsX10_within := goodIn_r _ [4] (by decide +kernel) (by decide +kernel)
set_option maxRecDepth 20000 in
theorem gX10_isNumber_X10_within : GoodIn wsX10_isNumber (va_wsS RX10 69 yX10_within wsX10_within) := goodIn_app (goodIn_of _ (by decide +kernel)) ggX10_isNumber_X10_within
theorem dX10_isNumber_0 : decode cX10_isNumber 0 = .ok (.iload_n 0, 1) := by decide +kernel
theorem dX10_isNumber_1 : decode cX10_isNumber 1 = .ok (.iconst 0, 1) := by decide +kernel
theorem dX10_isNumber_2 : decode cX10_isNumber 2 = .ok (.iconst 2, 1) := by decide +kernel
theorem dX10_isNumber_3 : decode cX10_isNumber 3 = .ok (.invokestatic 69, 3) := by decide +kernel
theorem dX10_isNumber_6 : decode cX10_isNumber 6 = .ok (.ireturn, 1) := by decide +kernel
set_option maxRecDepth 20000 in
theorem ggX10_areTwo_X10_isNumber : GoodIn wsX10_areTwo wsX10_isNumber := goodIn_r _ [4, 5, 6, 3, 7] (by decide +kernel) (by decide +kernel)
set_option maxRecDepth 20000 in
theorem gX10_areTwo_X10_isNumber : GoodIn wsX10_areTwo (va_wsS RX10 73 yX10_isNumber wsX10_isNumber) := goodIn_app (goodIn_of _ (by decide +kernel)) ggX10_areTwo_X10_isNumber
theorem dX10_areTwo_0 : decode cX10_areTwo 0 = .ok (.iload_n 0, 1) := by decide +kernel
theorem dX10_areTwo_1 : decode cX10_areTwo 1 = .ok (.invokestatic 73, 3) := by decide +kernel
theorem dX10_areTwo_4 : decode cX10_areTwo 4 = .ok (.ifCond .eq 19, 3) := by decide +kernel
theorem dX10_areTwo_7 : decode cX10_areTwo 7 = .ok (.iload_n 1, 1) := by decide +kernel
theorem dX10_areTwo_8 : decode cX10_areTwo 8 = .ok (.invokestatic 73, 3) := by decide +kernel
theorem dX10_areTwo_11 : decode cX10_areTwo 11 = .ok (.ifCond .eq 12, 3) := by decide +kernel
theorem dX10_areTwo_14 : decode cX10_areTwo 14 = .ok (.iload_n 0, 1) := by decide +kernel
theorem dX10_areTwo_15 : decode cX10_areTwo 15 = .ok (.iload_n 1, 1) := by decide +kernel
theorem dX10_areTwo_16 : decode cX10_areTwo 16 = .ok (.if_icmp .eq 7, 3) := by decide +kernel
theorem dX10_areTwo_19 : decode cX10_areTwo 19 = .ok (.iconst 1, 1) := by decide +kernel
theorem dX10_areTwo_20 : decode cX10_areTwo 20 = .ok (.goto 4, 3) := by decide +kernel
theorem dX10_areTwo_23 : decode cX10_areTwo 23 = .ok (.iconst 0, 1) := by decide +kernel
theorem dX10_areTwo_24 : decode cX10_areTwo 24 = .ok (.ireturn, 1) := by decide +kernel
set_option maxRecDepth 20000 in
theorem ggX10_isPlace_X10_within : GoodIn wsX10_isPlace wsX10_within := goodIn_r _ [4] (by decide +kernel) (by decide +kernel)
set_option maxRecDepth 20000 in
theorem gX10_isPlace_X10_within : GoodIn wsX10_isPlace (va_wsS RX10 69 yX10_within wsX10_within) := goodIn_app (goodIn_of _ (by decide +kernel)) ggX10_isPlace_X10_within
theorem dX10_isPlace_0 : decode cX10_isPlace 0 = .ok (.iload_n 0, 1) := by decide +kernel
theorem dX10_isPlace_1 : decode cX10_isPlace 1 = .ok (.iconst 0, 1) := by decide +kernel
theorem dX10_isPlace_2 : decode cX10_isPlace 2 = .ok (.iconst 4, 1) := by decide +kernel
theorem dX10_isPlace_3 : decode cX10_isPlace 3 = .ok (.invokestatic 69, 3) := by decide +kernel
theorem dX10_isPlace_6 : decode cX10_isPlace 6 = .ok (.ireturn, 1) := by decide +kernel
set_option maxRecDepth 20000 in
theorem ggX10_place_X10_isPlace : GoodIn wsX10_place wsX10_isPlace := goodIn_r _ [6, 7, 8, 5, 9] (by decide +kernel) (by decide +kernel)
set_option maxRecDepth 20000 in
theorem gX10_place_X10_isPlace : GoodIn wsX10_place (va_wsS RX10 77 yX10_isPlace wsX10_isPlace) := goodIn_app (goodIn_of _ (by decide +kernel)) ggX10_place_X10_isPlace
set_option maxRecDepth 20000 in
theorem ggX10_place_X10_within : GoodIn wsX10_place wsX10_within := goodIn_r _ [9] (by decide +kernel) (by decide +kernel)
set_option maxRecDepth 20000 in
theorem gX10_place_X10_within : GoodIn wsX10_place (va_wsS RX10 69 yX10_within wsX10_within) := goodIn_app (goodIn_of _ (by decide +kernel)) ggX10_place_X10_within
theorem dX10_place_0 : decode cX10_place 0 = .ok (.iload_n 1, 1) := by decide +kernel
theorem dX10_place_1 : decode cX10_place 1 = .ok (.invokestatic 77, 3) := by decide +kernel
theorem dX10_place_4 : decode cX10_place 4 = .ok (.ifCond .eq 17, 3) := by decide +kernel
theorem dX10_place_7 : decode cX10_place 7 = .ok (.iload_n 2, 1) := by decide +kernel
theorem dX10_place_8 : decode cX10_place 8 = .ok (.invokestatic 77, 3) := by decide +kernel
theorem dX10_place_11 : decode cX10_place 11 = .ok (.ifCond .eq 10, 3) := by decide +kernel
theorem dX10_place_14 : decode cX10_place 14 = .ok (.iload_n 3, 1) := by decide +kernel
theorem dX10_place_15 : decode cX10_place 15 = .ok (.invokestatic 77, 3) := by decide +kernel
theorem dX10_place_18 : decode cX10_place 18 = .ok (.ifCond .ne 5, 3) := by decide +kernel
theorem dX10_place_21 : decode cX10_place 21 = .ok (.iconst (-1), 1) := by decide +kernel
theorem dX10_place_22 : decode cX10_place 22 = .ok (.ireturn, 1) := by decide +kernel
theorem dX10_place_23 : decode cX10_place 23 = .ok (.iload 4, 2) := by decide +kernel
theorem dX10_place_25 : decode cX10_place 25 = .ok (.iconst 0, 1) := by decide +kernel
theorem dX10_place_26 : decode cX10_place 26 = .ok (.iconst 2, 1) := by decide +kernel
theorem dX10_place_27 : decode cX10_place 27 = .ok (.invokestatic 69, 3) := by decide +kernel
theorem dX10_place_30 : decode cX10_place 30 = .ok (.ifCond .ne 6, 3) := by decide +kernel
theorem dX10_place_33 : decode cX10_place 33 = .ok (.bipush (-2), 2) := by decide +kernel
theorem dX10_place_35 : decode cX10_place 35 = .ok (.ireturn, 1) := by decide +kernel
theorem dX10_place_36 : decode cX10_place 36 = .ok (.iload_n 1, 1) := by decide +kernel
theorem dX10_place_37 : decode cX10_place 37 = .ok (.ifCond .ne 10, 3) := by decide +kernel
theorem dX10_place_40 : decode cX10_place 40 = .ok (.iload_n 2, 1) := by decide +kernel
theorem dX10_place_41 : decode cX10_place 41 = .ok (.ifCond .eq 6, 3) := by decide +kernel
theorem dX10_place_44 : decode cX10_place 44 = .ok (.bipush (-3), 2) := by decide +kernel
theorem dX10_place_46 : decode cX10_place 46 = .ok (.ireturn, 1) := by decide +kernel
theorem dX10_place_47 : decode cX10_place 47 = .ok (.aload_n 0, 1) := by decide +kernel
theorem dX10_place_48 : decode cX10_place 48 = .ok (.getfield 7, 3) := by decide +kernel
theorem dX10_place_51 : decode cX10_place 51 = .ok (.iconst 2, 1) := by decide +kernel
theorem dX10_place_52 : decode cX10_place 52 = .ok (.iload_n 1, 1) := by decide +kernel
theorem dX10_place_53 : decode cX10_place 53 = .ok (.imul, 1) := by decide +kernel
theorem dX10_place_54 : decode cX10_place 54 = .ok (.iload_n 2, 1) := by decide +kernel
theorem dX10_place_55 : decode cX10_place 55 = .ok (.iastore, 1) := by decide +kernel
theorem dX10_place_56 : decode cX10_place 56 = .ok (.aload_n 0, 1) := by decide +kernel
theorem dX10_place_57 : decode cX10_place 57 = .ok (.getfield 7, 3) := by decide +kernel
theorem dX10_place_60 : decode cX10_place 60 = .ok (.iconst 2, 1) := by decide +kernel
theorem dX10_place_61 : decode cX10_place 61 = .ok (.iload_n 1, 1) := by decide +kernel
theorem dX10_place_62 : decode cX10_place 62 = .ok (.imul, 1) := by decide +kernel
theorem dX10_place_63 : decode cX10_place 63 = .ok (.iconst 1, 1) := by decide +kernel
theorem dX10_place_64 : decode cX10_place 64 = .ok (.iadd, 1) := by decide +kernel
theorem dX10_place_65 : decode cX10_place 65 = .ok (.iload_n 3, 1) := by decide +kernel
theorem dX10_place_66 : decode cX10_place 66 = .ok (.iastore, 1) := by decide +kernel
theorem dX10_place_67 : decode cX10_place 67 = .ok (.aload_n 0, 1) := by decide +kernel
theorem dX10_place_68 : decode cX10_place 68 = .ok (.getfield 13, 3) := by decide +kernel
theorem dX10_place_71 : decode cX10_place 71 = .ok (.iload_n 1, 1) := by decide +kernel
theorem dX10_place_72 : decode cX10_place 72 = .ok (.iload 4, 2) := by decide +kernel
theorem dX10_place_74 : decode cX10_place 74 = .ok (.iastore, 1) := by decide +kernel
theorem dX10_place_75 : decode cX10_place 75 = .ok (.iconst 1, 1) := by decide +kernel
theorem dX10_place_76 : decode cX10_place 76 = .ok (.ireturn, 1) := by decide +kernel
set_option maxRecDepth 20000 in
theorem ggX10_ofPlace_X10_isPlace : GoodIn wsX10_ofPlace wsX10_isPlace := goodIn_r _ [6, 7, 8, 5, 9] (by decide +kernel) (by decide +kernel)
set_option maxRecDepth 20000 in
theorem gX10_ofPlace_X10_isPlace : GoodIn wsX10_ofPlace (va_wsS RX10 77 yX10_isPlace wsX10_isPlace) := goodIn_app (goodIn_of _ (by decide +kernel)) ggX10_ofPlace_X10_isPlace
set_option maxRecDepth 20000 in
theorem ggX10_ofPlace_X10_within : GoodIn wsX10_ofPlace wsX10_within := goodIn_r _ [9] (by decide +kernel) (by decide +kernel)
set_option maxRecDepth 20000 in
theorem gX10_ofPlace_X10_within : GoodIn wsX10_ofPlace (va_wsS RX10 69 yX10_within wsX10_within) := goodIn_app (goodIn_of _ (by decide +kernel)) ggX10_ofPlace_X10_within
theorem dX10_ofPlace_0 : decode cX10_ofPlace 0 = .ok (.iload_n 1, 1) := by decide +kernel
theorem dX10_ofPlace_1 : decode cX10_ofPlace 1 = .ok (.invokestatic 77, 3) := by decide +kernel
theorem dX10_ofPlace_4 : decode cX10_ofPlace 4 = .ok (.ifCond .ne 5, 3) := by decide +kernel
theorem dX10_ofPlace_7 : decode cX10_ofPlace 7 = .ok (.iconst (-1), 1) := by decide +kernel
theorem dX10_ofPlace_8 : decode cX10_ofPlace 8 = .ok (.ireturn, 1) := by decide +kernel
theorem dX10_ofPlace_9 : decode cX10_ofPlace 9 = .ok (.iload_n 2, 1) := by decide +kernel
theorem dX10_ofPlace_10 : decode cX10_ofPlace 10 = .ok (.iconst 0, 1) := by decide +kernel
theorem dX10_ofPlace_11 : decode cX10_ofPlace 11 = .ok (.iconst 2, 1) := by decide +kernel
theorem dX10_ofPlace_12 : decode cX10_ofPlace 12 = .ok (.invokestatic 69, 3) := by decide +kernel
theorem dX10_ofPlace_15 : decode cX10_ofPlace 15 = .ok (.ifCond .ne 6, 3) := by decide +kernel
theorem dX10_ofPlace_18 : decode cX10_ofPlace 18 = .ok (.bipush (-2), 2) := by decide +kernel
theorem dX10_ofPlace_20 : decode cX10_ofPlace 20 = .ok (.ireturn, 1) := by decide +kernel
theorem dX10_ofPlace_21 : decode cX10_ofPlace 21 = .ok (.iload_n 2, 1) := by decide +kernel
theorem dX10_ofPlace_22 : decode cX10_ofPlace 22 = .ok (.iconst 2, 1) := by decide +kernel
theorem dX10_ofPlace_23 : decode cX10_ofPlace 23 = .ok (.if_icmp .ne 12, 3) := by decide +kernel
theorem dX10_ofPlace_26 : decode cX10_ofPlace 26 = .ok (.aload_n 0, 1) := by decide +kernel
theorem dX10_ofPlace_27 : decode cX10_ofPlace 27 = .ok (.getfield 13, 3) := by decide +kernel
theorem dX10_ofPlace_30 : decode cX10_ofPlace 30 = .ok (.iload_n 1, 1) := by decide +kernel
theorem dX10_ofPlace_31 : decode cX10_ofPlace 31 = .ok (.iaload, 1) := by decide +kernel
theorem dX10_ofPlace_32 : decode cX10_ofPlace 32 = .ok (.goto 13, 3) := by decide +kernel
theorem dX10_ofPlace_35 : decode cX10_ofPlace 35 = .ok (.aload_n 0, 1) := by decide +kernel
theorem dX10_ofPlace_36 : decode cX10_ofPlace 36 = .ok (.getfield 7, 3) := by decide +kernel
theorem dX10_ofPlace_39 : decode cX10_ofPlace 39 = .ok (.iconst 2, 1) := by decide +kernel
theorem dX10_ofPlace_40 : decode cX10_ofPlace 40 = .ok (.iload_n 1, 1) := by decide +kernel
theorem dX10_ofPlace_41 : decode cX10_ofPlace 41 = .ok (.imul, 1) := by decide +kernel
theorem dX10_ofPlace_42 : decode cX10_ofPlace 42 = .ok (.iload_n 2, 1) := by decide +kernel
theorem dX10_ofPlace_43 : decode cX10_ofPlace 43 = .ok (.iadd, 1) := by decide +kernel
theorem dX10_ofPlace_44 : decode cX10_ofPlace 44 = .ok (.iaload, 1) := by decide +kernel
theorem dX10_ofPlace_45 : decode cX10_ofPlace 45 = .ok (.ireturn, 1) := by decide +kernel
set_option maxRecDepth 20000 in
theorem ggX10_row_X10_within : GoodIn wsX10_row wsX10_within := goodIn_r _ [7] (by decide +kernel) (by decide +kernel)
set_option maxRecDepth 20000 in
theorem gX10_row_X10_within : GoodIn wsX10_row (va_wsS RX10 69 yX10_within wsX10_within) := goodIn_app (goodIn_of _ (by decide +kernel)) ggX10_row_X10_within
theorem dX10_row_0 : decode cX10_row 0 = .ok (.iload_n 1, 1) := by decide +kernel
theorem dX10_row_1 : decode cX10_row 1 = .ok (.iconst 0, 1) := by decide +kernel
theorem dX10_row_2 : decode cX10_row 2 = .ok (.ldc 80, 2) := by decide +kernel
theorem dX10_row_4 : decode cX10_row 4 = .ok (.invokestatic 69, 3) := by decide +kernel
theorem dX10_row_7 : decode cX10_row 7 = .ok (.ifCond .ne 6, 3) := by decide +kernel
theorem dX10_row_10 : decode cX10_row 10 = .ok (.bipush (-2), 2) := by decide +kernel
theorem dX10_row_12 : decode cX10_row 12 = .ok (.ireturn, 1) := by decide +kernel
theorem dX10_row_13 : decode cX10_row 13 = .ok (.iconst 0, 1) := by decide +kernel
theorem dX10_row_14 : decode cX10_row 14 = .ok (.istore_n 2, 1) := by decide +kernel
theorem dX10_row_15 : decode cX10_row 15 = .ok (.bipush 29, 2) := by decide +kernel
theorem dX10_row_17 : decode cX10_row 17 = .ok (.istore_n 3, 1) := by decide +kernel
theorem dX10_row_18 : decode cX10_row 18 = .ok (.iload_n 3, 1) := by decide +kernel
theorem dX10_row_19 : decode cX10_row 19 = .ok (.ifCond .lt 24, 3) := by decide +kernel
theorem dX10_row_22 : decode cX10_row 22 = .ok (.aload_n 0, 1) := by decide +kernel
theorem dX10_row_23 : decode cX10_row 23 = .ok (.getfield 7, 3) := by decide +kernel
theorem dX10_row_26 : decode cX10_row 26 = .ok (.iconst 2, 1) := by decide +kernel
theorem dX10_row_27 : decode cX10_row 27 = .ok (.iload_n 2, 1) := by decide +kernel
theorem dX10_row_28 : decode cX10_row 28 = .ok (.imul, 1) := by decide +kernel
theorem dX10_row_29 : decode cX10_row 29 = .ok (.iload_n 1, 1) := by decide +kernel
theorem dX10_row_30 : decode cX10_row 30 = .ok (.iload_n 3, 1) := by decide +kernel
theorem dX10_row_31 : decode cX10_row 31 = .ok (.ishr, 1) := by decide +kernel
theorem dX10_row_32 : decode cX10_row 32 = .ok (.iconst 1, 1) := by decide +kernel
theorem dX10_row_33 : decode cX10_row 33 = .ok (.iand, 1) := by decide +kernel
theorem dX10_row_34 : decode cX10_row 34 = .ok (.iadd, 1) := by decide +kernel
theorem dX10_row_35 : decode cX10_row 35 = .ok (.iaload, 1) := by decide +kernel
theorem dX10_row_36 : decode cX10_row 36 = .ok (.istore_n 2, 1) := by decide +kernel
theorem dX10_row_37 : decode cX10_row 37 = .ok (.iinc 3 (-1), 3) := by decide +kernel
theorem dX10_row_40 : decode cX10_row 40 = .ok (.goto (-22), 3) := by decide +kernel
theorem dX10_row_43 : decode cX10_row 43 = .ok (.aload_n 0, 1) := by decide +kernel
theorem dX10_row_44 : decode cX10_row 44 = .ok (.getfield 13, 3) := by decide +kernel
theorem dX10_row_47 : decode cX10_row 47 = .ok (.iload_n 2, 1) := by decide +kernel
theorem dX10_row_48 : decode cX10_row 48 = .ok (.iaload, 1) := by decide +kernel
theorem dX10_row_49 : decode cX10_row 49 = .ok (.ireturn, 1) := by decide +kernel
theorem dX10_next_0 : decode cX10_next 0 = .ok (.aload_n 0, 1) := by decide +kernel
theorem dX10_next_1 : decode cX10_next 1 = .ok (.getfield 19, 3) := by decide +kernel
theorem dX10_next_4 : decode cX10_next 4 = .ok (.bipush 8, 2) := by decide +kernel
theorem dX10_next_6 : decode cX10_next 6 = .ok (.bipush 60, 2) := by decide +kernel
theorem dX10_next_8 : decode cX10_next 8 = .ok (.iload_n 1, 1) := by decide +kernel
theorem dX10_next_9 : decode cX10_next 9 = .ok (.imul, 1) := by decide +kernel
theorem dX10_next_10 : decode cX10_next 10 = .ok (.iload_n 2, 1) := by decide +kernel
theorem dX10_next_11 : decode cX10_next 11 = .ok (.iadd, 1) := by decide +kernel
theorem dX10_next_12 : decode cX10_next 12 = .ok (.imul, 1) := by decide +kernel
theorem dX10_next_13 : decode cX10_next 13 = .ok (.iload_n 3, 1) := by decide +kernel
theorem dX10_next_14 : decode cX10_next 14 = .ok (.iadd, 1) := by decide +kernel
theorem dX10_next_15 : decode cX10_next 15 = .ok (.iaload, 1) := by decide +kernel
theorem dX10_next_16 : decode cX10_next 16 = .ok (.ireturn, 1) := by decide +kernel
theorem dX10_holdsIn_0 : decode cX10_holdsIn 0 = .ok (.aload_n 0, 1) := by decide +kernel
theorem dX10_holdsIn_1 : decode cX10_holdsIn 1 = .ok (.getfield 22, 3) := by decide +kernel
theorem dX10_holdsIn_4 : decode cX10_holdsIn 4 = .ok (.bipush 60, 2) := by decide +kernel
theorem dX10_holdsIn_6 : decode cX10_holdsIn 6 = .ok (.iload_n 1, 1) := by decide +kernel
theorem dX10_holdsIn_7 : decode cX10_holdsIn 7 = .ok (.imul, 1) := by decide +kernel
theorem dX10_holdsIn_8 : decode cX10_holdsIn 8 = .ok (.iload_n 2, 1) := by decide +kernel
theorem dX10_holdsIn_9 : decode cX10_holdsIn 9 = .ok (.iadd, 1) := by decide +kernel
theorem dX10_holdsIn_10 : decode cX10_holdsIn 10 = .ok (.baload, 1) := by decide +kernel
theorem dX10_holdsIn_11 : decode cX10_holdsIn 11 = .ok (.ireturn, 1) := by decide +kernel
theorem dX10_begins_0 : decode cX10_begins 0 = .ok (.aload_n 0, 1) := by decide +kernel
theorem dX10_begins_1 : decode cX10_begins 1 = .ok (.iconst 0, 1) := by decide +kernel
theorem dX10_begins_2 : decode cX10_begins 2 = .ok (.putfield 81, 3) := by decide +kernel
theorem dX10_begins_5 : decode cX10_begins 5 = .ok (.iconst 0, 1) := by decide +kernel
theorem dX10_begins_6 : decode cX10_begins 6 = .ok (.istore_n 1, 1) := by decide +kernel
theorem dX10_begins_7 : decode cX10_begins 7 = .ok (.iload_n 1, 1) := by decide +kernel
theorem dX10_begins_8 : decode cX10_begins 8 = .ok (.sipush 3600, 3) := by decide +kernel
theorem dX10_begins_11 : decode cX10_begins 11 = .ok (.if_icmp .ge 17, 3) := by decide +kernel
theorem dX10_begins_14 : decode cX10_begins 14 = .ok (.aload_n 0, 1) := by decide +kernel
theorem dX10_begins_15 : decode cX10_begins 15 = .ok (.getfield 35, 3) := by decide +kernel
theorem dX10_begins_18 : decode cX10_begins 18 = .ok (.iload_n 1, 1) := by decide +kernel
theorem dX10_begins_19 : decode cX10_begins 19 = .ok (.bipush (-9), 2) := by decide +kernel
theorem dX10_begins_21 : decode cX10_begins 21 = .ok (.iastore, 1) := by decide +kernel
theorem dX10_begins_22 : decode cX10_begins 22 = .ok (.iinc 1 1, 3) := by decide +kernel
theorem dX10_begins_25 : decode cX10_begins 25 = .ok (.goto (-18), 3) := by decide +kernel
theorem dX10_begins_28 : decode cX10_begins 28 = .ok (.return_, 1) := by decide +kernel
theorem dX10_stateOf_0 : decode cX10_stateOf 0 = .ok (.aload_n 0, 1) := by decide +kernel
theorem dX10_stateOf_1 : decode cX10_stateOf 1 = .ok (.getfield 35, 3) := by decide +kernel
theorem dX10_stateOf_4 : decode cX10_stateOf 4 = .ok (.iload_n 1, 1) := by decide +kernel
theorem dX10_stateOf_5 : decode cX10_stateOf 5 = .ok (.iaload, 1) := by decide +kernel
theorem dX10_stateOf_6 : decode cX10_stateOf 6 = .ok (.bipush (-9), 2) := by decide +kernel
theorem dX10_stateOf_8 : decode cX10_stateOf 8 = .ok (.if_icmp .ne 33, 3) := by decide +kernel
theorem dX10_stateOf_11 : decode cX10_stateOf 11 = .ok (.aload_n 0, 1) := by decide +kernel
theorem dX10_stateOf_12 : decode cX10_stateOf 12 = .ok (.getfield 35, 3) := by decide +kernel
theorem dX10_stateOf_15 : decode cX10_stateOf 15 = .ok (.iload_n 1, 1) := by decide +kernel
theorem dX10_stateOf_16 : decode cX10_stateOf 16 = .ok (.aload_n 0, 1) := by decide +kernel
theorem dX10_stateOf_17 : decode cX10_stateOf 17 = .ok (.getfield 81, 3) := by decide +kernel
theorem dX10_stateOf_20 : decode cX10_stateOf 20 = .ok (.iastore, 1) := by decide +kernel
theorem dX10_stateOf_21 : decode cX10_stateOf 21 = .ok (.aload_n 0, 1) := by decide +kernel
theorem dX10_stateOf_22 : decode cX10_stateOf 22 = .ok (.getfield 26, 3) := by decide +kernel
theorem dX10_stateOf_25 : decode cX10_stateOf 25 = .ok (.aload_n 0, 1) := by decide +kernel
theorem dX10_stateOf_26 : decode cX10_stateOf 26 = .ok (.getfield 81, 3) := by decide +kernel
theorem dX10_stateOf_29 : decode cX10_stateOf 29 = .ok (.iload_n 1, 1) := by decide +kernel
theorem dX10_stateOf_30 : decode cX10_stateOf 30 = .ok (.iastore, 1) := by decide +kernel
theorem dX10_stateOf_31 : decode cX10_stateOf 31 = .ok (.aload_n 0, 1) := by decide +kernel
theorem dX10_stateOf_32 : decode cX10_stateOf 32 = .ok (.dup, 1) := by decide +kernel
theorem dX10_stateOf_33 : decode cX10_stateOf 33 = .ok (.getfield 81, 3) := by decide +kernel
theorem dX10_stateOf_36 : decode cX10_stateOf 36 = .ok (.iconst 1, 1) := by decide +kernel
theorem dX10_stateOf_37 : decode cX10_stateOf 37 = .ok (.iadd, 1) := by decide +kernel
theorem dX10_stateOf_38 : decode cX10_stateOf 38 = .ok (.putfield 81, 3) := by decide +kernel
theorem dX10_stateOf_41 : decode cX10_stateOf 41 = .ok (.aload_n 0, 1) := by decide +kernel
theorem dX10_stateOf_42 : decode cX10_stateOf 42 = .ok (.getfield 35, 3) := by decide +kernel
theorem dX10_stateOf_45 : decode cX10_stateOf 45 = .ok (.iload_n 1, 1) := by decide +kernel
theorem dX10_stateOf_46 : decode cX10_stateOf 46 = .ok (.iaload, 1) := by decide +kernel
theorem dX10_stateOf_47 : decode cX10_stateOf 47 = .ok (.ireturn, 1) := by decide +kernel
theorem dX10_areAlike_0 : decode cX10_areAlike 0 = .ok (.aload_n 0, 1) := by decide +kernel
theorem dX10_areAlike_1 : decode cX10_areAlike 1 = .ok (.getfield 38, 3) := by decide +kernel
theorem dX10_areAlike_4 : decode cX10_areAlike 4 = .ok (.iload_n 1, 1) := by decide +kernel
theorem dX10_areAlike_5 : decode cX10_areAlike 5 = .ok (.iaload, 1) := by decide +kernel
theorem dX10_areAlike_6 : decode cX10_areAlike 6 = .ok (.aload_n 0, 1) := by decide +kernel
theorem dX10_areAlike_7 : decode cX10_areAlike 7 = .ok (.getfield 38, 3) := by decide +kernel
theorem dX10_areAlike_10 : decode cX10_areAlike 10 = .ok (.iload_n 2, 1) := by decide +kernel
theorem dX10_areAlike_11 : decode cX10_areAlike 11 = .ok (.iaload, 1) := by decide +kernel
theorem dX10_areAlike_12 : decode cX10_areAlike 12 = .ok (.if_icmp .ne 7, 3) := by decide +kernel
theorem dX10_areAlike_15 : decode cX10_areAlike 15 = .ok (.iconst 1, 1) := by decide +kernel
theorem dX10_areAlike_16 : decode cX10_areAlike 16 = .ok (.goto 4, 3) := by decide +kernel
theorem dX10_areAlike_19 : decode cX10_areAlike 19 = .ok (.iconst 0, 1) := by decide +kernel
theorem dX10_areAlike_20 : decode cX10_areAlike 20 = .ok (.istore_n 3, 1) := by decide +kernel
theorem dX10_areAlike_21 : decode cX10_areAlike 21 = .ok (.iconst 0, 1) := by decide +kernel
theorem dX10_areAlike_22 : decode cX10_areAlike 22 = .ok (.istore 4, 2) := by decide +kernel
theorem dX10_areAlike_24 : decode cX10_areAlike 24 = .ok (.iload 4, 2) := by decide +kernel
theorem dX10_areAlike_26 : decode cX10_areAlike 26 = .ok (.bipush 8, 2) := by decide +kernel
theorem dX10_areAlike_28 : decode cX10_areAlike 28 = .ok (.if_icmp .ge 56, 3) := by decide +kernel
theorem dX10_areAlike_31 : decode cX10_areAlike 31 = .ok (.iload_n 3, 1) := by decide +kernel
theorem dX10_areAlike_32 : decode cX10_areAlike 32 = .ok (.ifCond .eq 52, 3) := by decide +kernel
theorem dX10_areAlike_35 : decode cX10_areAlike 35 = .ok (.aload_n 0, 1) := by decide +kernel
theorem dX10_areAlike_36 : decode cX10_areAlike 36 = .ok (.getfield 38, 3) := by decide +kernel
theorem dX10_areAlike_39 : decode cX10_areAlike 39 = .ok (.aload_n 0, 1) := by decide +kernel
theorem dX10_areAlike_40 : decode cX10_areAlike 40 = .ok (.getfield 29, 3) := by decide +kernel
theorem dX10_areAlike_43 : decode cX10_areAlike 43 = .ok (.bipush 8, 2) := by decide +kernel
theorem dX10_areAlike_45 : decode cX10_areAlike 45 = .ok (.iload_n 1, 1) := by decide +kernel
theorem dX10_areAlike_46 : decode cX10_areAlike 46 = .ok (.imul, 1) := by decide +kernel
theorem dX10_areAlike_47 : decode cX10_areAlike 47 = .ok (.iload 4, 2) := by decide +kernel
theorem dX10_areAlike_49 : decode cX10_areAlike 49 = .ok (.iadd, 1) := by decide +kernel
theorem dX10_areAlike_50 : decode cX10_areAlike 50 = .ok (.iaload, 1) := by decide +kernel
theorem dX10_areAlike_51 : decode cX10_areAlike 51 = .ok (.iaload, 1) := by decide +kernel
theorem dX10_areAlike_52 : decode cX10_areAlike 52 = .ok (.aload_n 0, 1) := by decide +kernel
theorem dX10_areAlike_53 : decode cX10_areAlike 53 = .ok (.getfield 38, 3) := by decide +kernel
theorem dX10_areAlike_56 : decode cX10_areAlike 56 = .ok (.aload_n 0, 1) := by decide +kernel
theorem dX10_areAlike_57 : decode cX10_areAlike 57 = .ok (.getfield 29, 3) := by decide +kernel
theorem dX10_areAlike_60 : decode cX10_areAlike 60 = .ok (.bipush 8, 2) := by decide +kernel
theorem dX10_areAlike_62 : decode cX10_areAlike 62 = .ok (.iload_n 2, 1) := by decide +kernel
theorem dX10_areAlike_63 : decode cX10_areAlike 63 = .ok (.imul, 1) := by decide +kernel
theorem dX10_areAlike_64 : decode cX10_areAlike 64 = .ok (.iload 4, 2) := by decide +kernel
theorem dX10_areAlike_66 : decode cX10_areAlike 66 = .ok (.iadd, 1) := by decide +kernel
theorem dX10_areAlike_67 : decode cX10_areAlike 67 = .ok (.iaload, 1) := by decide +kernel
theorem dX10_areAlike_68 : decode cX10_areAlike 68 = .ok (.iaload, 1) := by decide +kernel
theorem dX10_areAlike_69 : decode cX10_areAlike 69 = .ok (.if_icmp .ne 7, 3) := by decide +kernel
theorem dX10_areAlike_72 : decode cX10_areAlike 72 = .ok (.iconst 1, 1) := by decide +kernel
theorem dX10_areAlike_73 : decode cX10_areAlike 73 = .ok (.goto 4, 3) := by decide +kernel
theorem dX10_areAlike_76 : decode cX10_areAlike 76 = .ok (.iconst 0, 1) := by decide +kernel
theorem dX10_areAlike_77 : decode cX10_areAlike 77 = .ok (.istore_n 3, 1) := by decide +kernel
theorem dX10_areAlike_78 : decode cX10_areAlike 78 = .ok (.iinc 4 1, 3) := by decide +kernel
theorem dX10_areAlike_81 : decode cX10_areAlike 81 = .ok (.goto (-57), 3) := by decide +kernel
theorem dX10_areAlike_84 : decode cX10_areAlike 84 = .ok (.iload_n 3, 1) := by decide +kernel
theorem dX10_areAlike_85 : decode cX10_areAlike 85 = .ok (.ireturn, 1) := by decide +kernel
set_option maxRecDepth 20000 in
theorem ggX10_joins_X10_areAlike : GoodIn wsX10_joins wsX10_areAlike := goodIn_r _ [9, 4, 10, 11, 12, 13, 14, 15, 16, 17, 18, 19, 20, 21, 22, 23, 24, 25, 26, 27, 28, 29, 30] (by decide +kernel) (by decide +kernel)
set_option maxRecDepth 20000 in
theorem gX10_joins_X10_areAlike : GoodIn wsX10_joins (wsV RX10 85 RX10 yX10_areAlike wsX10_areAlike) := goodIn_app (goodIn_of _ (by decide +kernel)) ggX10_joins_X10_areAlike
theorem dX10_joins_0 : decode cX10_joins 0 = .ok (.iconst 0, 1) := by decide +kernel
theorem dX10_joins_1 : decode cX10_joins 1 = .ok (.istore_n 1, 1) := by decide +kernel
theorem dX10_joins_2 : decode cX10_joins 2 = .ok (.iconst 0, 1) := by decide +kernel
theorem dX10_joins_3 : decode cX10_joins 3 = .ok (.istore_n 2, 1) := by decide +kernel
theorem dX10_joins_4 : decode cX10_joins 4 = .ok (.iload_n 2, 1) := by decide +kernel
theorem dX10_joins_5 : decode cX10_joins 5 = .ok (.aload_n 0, 1) := by decide +kernel
theorem dX10_joins_6 : decode cX10_joins 6 = .ok (.getfield 81, 3) := by decide +kernel
theorem dX10_joins_9 : decode cX10_joins 9 = .ok (.if_icmp .ge 67, 3) := by decide +kernel
theorem dX10_joins_12 : decode cX10_joins 12 = .ok (.iconst 0, 1) := by decide +kernel
theorem dX10_joins_13 : decode cX10_joins 13 = .ok (.istore_n 3, 1) := by decide +kernel
theorem dX10_joins_14 : decode cX10_joins 14 = .ok (.iload_n 3, 1) := by decide +kernel
theorem dX10_joins_15 : decode cX10_joins 15 = .ok (.iload_n 1, 1) := by decide +kernel
theorem dX10_joins_16 : decode cX10_joins 16 = .ok (.if_icmp .ge 23, 3) := by decide +kernel
theorem dX10_joins_19 : decode cX10_joins 19 = .ok (.aload_n 0, 1) := by decide +kernel
theorem dX10_joins_20 : decode cX10_joins 20 = .ok (.aload_n 0, 1) := by decide +kernel
theorem dX10_joins_21 : decode cX10_joins 21 = .ok (.getfield 44, 3) := by decide +kernel
theorem dX10_joins_24 : decode cX10_joins 24 = .ok (.iload_n 3, 1) := by decide +kernel
theorem dX10_joins_25 : decode cX10_joins 25 = .ok (.iaload, 1) := by decide +kernel
theorem dX10_joins_26 : decode cX10_joins 26 = .ok (.iload_n 2, 1) := by decide +kernel
theorem dX10_joins_27 : decode cX10_joins 27 = .ok (.invokevirtual 85, 3) := by decide +kernel
theorem dX10_joins_30 : decode cX10_joins 30 = .ok (.ifCond .ne 9, 3) := by decide +kernel
theorem dX10_joins_33 : decode cX10_joins 33 = .ok (.iinc 3 1, 3) := by decide +kernel
theorem dX10_joins_36 : decode cX10_joins 36 = .ok (.goto (-22), 3) := by decide +kernel
theorem dX10_joins_39 : decode cX10_joins 39 = .ok (.iload_n 3, 1) := by decide +kernel
theorem dX10_joins_40 : decode cX10_joins 40 = .ok (.iload_n 1, 1) := by decide +kernel
theorem dX10_joins_41 : decode cX10_joins 41 = .ok (.if_icmp .ne 22, 3) := by decide +kernel
theorem dX10_joins_44 : decode cX10_joins 44 = .ok (.iload_n 1, 1) := by decide +kernel
theorem dX10_joins_45 : decode cX10_joins 45 = .ok (.bipush 60, 2) := by decide +kernel
theorem dX10_joins_47 : decode cX10_joins 47 = .ok (.if_icmp .ne 6, 3) := by decide +kernel
theorem dX10_joins_50 : decode cX10_joins 50 = .ok (.bipush 61, 2) := by decide +kernel
theorem dX10_joins_52 : decode cX10_joins 52 = .ok (.ireturn, 1) := by decide +kernel
theorem dX10_joins_53 : decode cX10_joins 53 = .ok (.aload_n 0, 1) := by decide +kernel
theorem dX10_joins_54 : decode cX10_joins 54 = .ok (.getfield 44, 3) := by decide +kernel
theorem dX10_joins_57 : decode cX10_joins 57 = .ok (.iload_n 1, 1) := by decide +kernel
theorem dX10_joins_58 : decode cX10_joins 58 = .ok (.iload_n 2, 1) := by decide +kernel
theorem dX10_joins_59 : decode cX10_joins 59 = .ok (.iastore, 1) := by decide +kernel
theorem dX10_joins_60 : decode cX10_joins 60 = .ok (.iinc 1 1, 3) := by decide +kernel
theorem dX10_joins_63 : decode cX10_joins 63 = .ok (.aload_n 0, 1) := by decide +kernel
theorem dX10_joins_64 : decode cX10_joins 64 = .ok (.getfield 41, 3) := by decide +kernel
theorem dX10_joins_67 : decode cX10_joins 67 = .ok (.iload_n 2, 1) := by decide +kernel
theorem dX10_joins_68 : decode cX10_joins 68 = .ok (.iload_n 3, 1) := by decide +kernel
theorem dX10_joins_69 : decode cX10_joins 69 = .ok (.iastore, 1) := by decide +kernel
theorem dX10_joins_70 : decode cX10_joins 70 = .ok (.iinc 2 1, 3) := by decide +kernel
theorem dX10_joins_73 : decode cX10_joins 73 = .ok (.goto (-69), 3) := by decide +kernel
theorem dX10_joins_76 : decode cX10_joins 76 = .ok (.iconst 0, 1) := by decide +kernel
theorem dX10_joins_77 : decode cX10_joins 77 = .ok (.istore_n 2, 1) := by decide +kernel
theorem dX10_joins_78 : decode cX10_joins 78 = .ok (.iload_n 2, 1) := by decide +kernel
theorem dX10_joins_79 : decode cX10_joins 79 = .ok (.aload_n 0, 1) := by decide +kernel
theorem dX10_joins_80 : decode cX10_joins 80 = .ok (.getfield 81, 3) := by decide +kernel
theorem dX10_joins_83 : decode cX10_joins 83 = .ok (.if_icmp .ge 21, 3) := by decide +kernel
theorem dX10_joins_86 : decode cX10_joins 86 = .ok (.aload_n 0, 1) := by decide +kernel
theorem dX10_joins_87 : decode cX10_joins 87 = .ok (.getfield 38, 3) := by decide +kernel
theorem dX10_joins_90 : decode cX10_joins 90 = .ok (.iload_n 2, 1) := by decide +kernel
theorem dX10_joins_91 : decode cX10_joins 91 = .ok (.aload_n 0, 1) := by decide +kernel
theorem dX10_joins_92 : decode cX10_joins 92 = .ok (.getfield 41, 3) := by decide +kernel
theorem dX10_joins_95 : decode cX10_joins 95 = .ok (.iload_n 2, 1) := by decide +kernel
theorem dX10_joins_96 : decode cX10_joins 96 = .ok (.iaload, 1) := by decide +kernel
theorem dX10_joins_97 : decode cX10_joins 97 = .ok (.iastore, 1) := by decide +kernel
theorem dX10_joins_98 : decode cX10_joins 98 = .ok (.iinc 2 1, 3) := by decide +kernel
theorem dX10_joins_101 : decode cX10_joins 101 = .ok (.goto (-23), 3) := by decide +kernel
theorem dX10_joins_104 : decode cX10_joins 104 = .ok (.iload_n 1, 1) := by decide +kernel
theorem dX10_joins_105 : decode cX10_joins 105 = .ok (.ireturn, 1) := by decide +kernel
set_option maxRecDepth 20000 in
theorem ggX10_becomes_X10_joins : GoodIn wsX10_becomes wsX10_joins := goodIn_r _ [15, 1, 6, 16, 2, 17, 18, 19, 14, 20, 7, 21, 22, 23, 24, 25, 26, 27, 28, 29, 30, 31, 32, 33, 34, 35, 36, 37, 38, 39, 40] (by decide +kernel) (by decide +kernel)
set_option maxRecDepth 20000 in
theorem gX10_becomes_X10_joins : GoodIn wsX10_becomes (wsV RX10 89 RX10 yX10_joins wsX10_joins) := goodIn_app (goodIn_of _ (by decide +kernel)) ggX10_becomes_X10_joins
theorem dX10_becomes_0 : decode cX10_becomes 0 = .ok (.iconst 0, 1) := by decide +kernel
theorem dX10_becomes_1 : decode cX10_becomes 1 = .ok (.istore_n 2, 1) := by decide +kernel
theorem dX10_becomes_2 : decode cX10_becomes 2 = .ok (.iconst (-1), 1) := by decide +kernel
theorem dX10_becomes_3 : decode cX10_becomes 3 = .ok (.istore_n 3, 1) := by decide +kernel
theorem dX10_becomes_4 : decode cX10_becomes 4 = .ok (.iconst 0, 1) := by decide +kernel
theorem dX10_becomes_5 : decode cX10_becomes 5 = .ok (.istore 4, 2) := by decide +kernel
theorem dX10_becomes_7 : decode cX10_becomes 7 = .ok (.iload 4, 2) := by decide +kernel
theorem dX10_becomes_9 : decode cX10_becomes 9 = .ok (.aload_n 0, 1) := by decide +kernel
theorem dX10_becomes_10 : decode cX10_becomes 10 = .ok (.getfield 81, 3) := by decide +kernel
theorem dX10_becomes_13 : decode cX10_becomes 13 = .ok (.if_icmp .ge 31, 3) := by decide +kernel
theorem dX10_becomes_16 : decode cX10_becomes 16 = .ok (.aload_n 0, 1) := by decide +kernel
theorem dX10_becomes_17 : decode cX10_becomes 17 = .ok (.getfield 38, 3) := by decide +kernel
theorem dX10_becomes_20 : decode cX10_becomes 20 = .ok (.iload 4, 2) := by decide +kernel
theorem dX10_becomes_22 : decode cX10_becomes 22 = .ok (.aload_n 0, 1) := by decide +kernel
theorem dX10_becomes_23 : decode cX10_becomes 23 = .ok (.getfield 32, 3) := by decide +kernel
theorem dX10_becomes_26 : decode cX10_becomes 26 = .ok (.iload 4, 2) := by decide +kernel
theorem dX10_becomes_28 : decode cX10_becomes 28 = .ok (.baload, 1) := by decide +kernel
theorem dX10_becomes_29 : decode cX10_becomes 29 = .ok (.ifCond .eq 7, 3) := by decide +kernel
theorem dX10_becomes_32 : decode cX10_becomes 32 = .ok (.iconst 1, 1) := by decide +kernel
theorem dX10_becomes_33 : decode cX10_becomes 33 = .ok (.goto 4, 3) := by decide +kernel
theorem dX10_becomes_36 : decode cX10_becomes 36 = .ok (.iconst 0, 1) := by decide +kernel
theorem dX10_becomes_37 : decode cX10_becomes 37 = .ok (.iastore, 1) := by decide +kernel
theorem dX10_becomes_38 : decode cX10_becomes 38 = .ok (.iinc 4 1, 3) := by decide +kernel
theorem dX10_becomes_41 : decode cX10_becomes 41 = .ok (.goto (-34), 3) := by decide +kernel
theorem dX10_becomes_44 : decode cX10_becomes 44 = .ok (.iload_n 3, 1) := by decide +kernel
theorem dX10_becomes_45 : decode cX10_becomes 45 = .ok (.iload_n 2, 1) := by decide +kernel
theorem dX10_becomes_46 : decode cX10_becomes 46 = .ok (.if_icmp .eq 18, 3) := by decide +kernel
theorem dX10_becomes_49 : decode cX10_becomes 49 = .ok (.iload_n 2, 1) := by decide +kernel
theorem dX10_becomes_50 : decode cX10_becomes 50 = .ok (.istore_n 3, 1) := by decide +kernel
theorem dX10_becomes_51 : decode cX10_becomes 51 = .ok (.aload_n 0, 1) := by decide +kernel
theorem dX10_becomes_52 : decode cX10_becomes 52 = .ok (.invokevirtual 89, 3) := by decide +kernel
theorem dX10_becomes_55 : decode cX10_becomes 55 = .ok (.istore_n 2, 1) := by decide +kernel
theorem dX10_becomes_56 : decode cX10_becomes 56 = .ok (.iload_n 2, 1) := by decide +kernel
theorem dX10_becomes_57 : decode cX10_becomes 57 = .ok (.bipush 60, 2) := by decide +kernel
theorem dX10_becomes_59 : decode cX10_becomes 59 = .ok (.if_icmp .le (-15), 3) := by decide +kernel
theorem dX10_becomes_62 : decode cX10_becomes 62 = .ok (.iconst 0, 1) := by decide +kernel
theorem dX10_becomes_63 : decode cX10_becomes 63 = .ok (.ireturn, 1) := by decide +kernel
theorem dX10_becomes_64 : decode cX10_becomes 64 = .ok (.iconst 0, 1) := by decide +kernel
theorem dX10_becomes_65 : decode cX10_becomes 65 = .ok (.istore 4, 2) := by decide +kernel
theorem dX10_becomes_67 : decode cX10_becomes 67 = .ok (.iload 4, 2) := by decide +kernel
theorem dX10_becomes_69 : decode cX10_becomes 69 = .ok (.iload_n 2, 1) := by decide +kernel
theorem dX10_becomes_70 : decode cX10_becomes 70 = .ok (.if_icmp .ge 18, 3) := by decide +kernel
theorem dX10_becomes_73 : decode cX10_becomes 73 = .ok (.aload_n 0, 1) := by decide +kernel
theorem dX10_becomes_74 : decode cX10_becomes 74 = .ok (.getfield 47, 3) := by decide +kernel
theorem dX10_becomes_77 : decode cX10_becomes 77 = .ok (.iload 4, 2) := by decide +kernel
theorem dX10_becomes_79 : decode cX10_becomes 79 = .ok (.bipush (-9), 2) := by decide +kernel
theorem dX10_becomes_81 : decode cX10_becomes 81 = .ok (.iastore, 1) := by decide +kernel
theorem dX10_becomes_82 : decode cX10_becomes 82 = .ok (.iinc 4 1, 3) := by decide +kernel
theorem dX10_becomes_85 : decode cX10_becomes 85 = .ok (.goto (-18), 3) := by decide +kernel
theorem dX10_becomes_88 : decode cX10_becomes 88 = .ok (.aload_n 0, 1) := by decide +kernel
theorem dX10_becomes_89 : decode cX10_becomes 89 = .ok (.getfield 47, 3) := by decide +kernel
theorem dX10_becomes_92 : decode cX10_becomes 92 = .ok (.aload_n 0, 1) := by decide +kernel
theorem dX10_becomes_93 : decode cX10_becomes 93 = .ok (.getfield 38, 3) := by decide +kernel
theorem dX10_becomes_96 : decode cX10_becomes 96 = .ok (.iconst 0, 1) := by decide +kernel
theorem dX10_becomes_97 : decode cX10_becomes 97 = .ok (.iaload, 1) := by decide +kernel
theorem dX10_becomes_98 : decode cX10_becomes 98 = .ok (.iconst 0, 1) := by decide +kernel
theorem dX10_becomes_99 : decode cX10_becomes 99 = .ok (.iastore, 1) := by decide +kernel
theorem dX10_becomes_100 : decode cX10_becomes 100 = .ok (.aload_n 0, 1) := by decide +kernel
theorem dX10_becomes_101 : decode cX10_becomes 101 = .ok (.getfield 50, 3) := by decide +kernel
theorem dX10_becomes_104 : decode cX10_becomes 104 = .ok (.iconst 0, 1) := by decide +kernel
theorem dX10_becomes_105 : decode cX10_becomes 105 = .ok (.aload_n 0, 1) := by decide +kernel
theorem dX10_becomes_106 : decode cX10_becomes 106 = .ok (.getfield 38, 3) := by decide +kernel
theorem dX10_becomes_109 : decode cX10_becomes 109 = .ok (.iconst 0, 1) := by decide +kernel
theorem dX10_becomes_110 : decode cX10_becomes 110 = .ok (.iaload, 1) := by decide +kernel
theorem dX10_becomes_111 : decode cX10_becomes 111 = .ok (.iastore, 1) := by decide +kernel
theorem dX10_becomes_112 : decode cX10_becomes 112 = .ok (.iconst 1, 1) := by decide +kernel
theorem dX10_becomes_113 : decode cX10_becomes 113 = .ok (.istore 4, 2) := by decide +kernel
theorem dX10_becomes_115 : decode cX10_becomes 115 = .ok (.iconst 0, 1) := by decide +kernel
theorem dX10_becomes_116 : decode cX10_becomes 116 = .ok (.istore 5, 2) := by decide +kernel
theorem dX10_becomes_118 : decode cX10_becomes 118 = .ok (.iload 5, 2) := by decide +kernel
theorem dX10_becomes_120 : decode cX10_becomes 120 = .ok (.iload 4, 2) := by decide +kernel
theorem dX10_becomes_122 : decode cX10_becomes 122 = .ok (.if_icmp .ge 136, 3) := by decide +kernel
theorem dX10_becomes_125 : decode cX10_becomes 125 = .ok (.aload_n 0, 1) := by decide +kernel
theorem dX10_becomes_126 : decode cX10_becomes 126 = .ok (.getfield 44, 3) := by decide +kernel
theorem dX10_becomes_129 : decode cX10_becomes 129 = .ok (.aload_n 0, 1) := by decide +kernel
theorem dX10_becomes_130 : decode cX10_becomes 130 = .ok (.getfield 50, 3) := by decide +kernel
theorem dX10_becomes_133 : decode cX10_becomes 133 = .ok (.iload 5, 2) := by decide +kernel
theorem dX10_becomes_135 : decode cX10_becomes 135 = .ok (.iaload, 1) := by decide +kernel
theorem dX10_becomes_136 : decode cX10_becomes 136 = .ok (.iaload, 1) := by decide +kernel
theorem dX10_becomes_137 : decode cX10_becomes 137 = .ok (.istore 6, 2) := by decide +kernel
theorem dX10_becomes_139 : decode cX10_becomes 139 = .ok (.iconst 0, 1) := by decide +kernel
theorem dX10_becomes_140 : decode cX10_becomes 140 = .ok (.istore 7, 2) := by decide +kernel
theorem dX10_becomes_142 : decode cX10_becomes 142 = .ok (.iload 7, 2) := by decide +kernel
theorem dX10_becomes_144 : decode cX10_becomes 144 = .ok (.bipush 8, 2) := by decide +kernel
theorem dX10_becomes_146 : decode cX10_becomes 146 = .ok (.if_icmp .ge 87, 3) := by decide +kernel
theorem dX10_becomes_149 : decode cX10_becomes 149 = .ok (.aload_n 0, 1) := by decide +kernel
theorem dX10_becomes_150 : decode cX10_becomes 150 = .ok (.getfield 38, 3) := by decide +kernel
theorem dX10_becomes_153 : decode cX10_becomes 153 = .ok (.aload_n 0, 1) := by decide +kernel
theorem dX10_becomes_154 : decode cX10_becomes 154 = .ok (.getfield 29, 3) := by decide +kernel
theorem dX10_becomes_157 : decode cX10_becomes 157 = .ok (.bipush 8, 2) := by decide +kernel
theorem dX10_becomes_159 : decode cX10_becomes 159 = .ok (.iload 6, 2) := by decide +kernel
theorem dX10_becomes_161 : decode cX10_becomes 161 = .ok (.imul, 1) := by decide +kernel
theorem dX10_becomes_162 : decode cX10_becomes 162 = .ok (.iload 7, 2) := by decide +kernel
theorem dX10_becomes_164 : decode cX10_becomes 164 = .ok (.iadd, 1) := by decide +kernel
theorem dX10_becomes_165 : decode cX10_becomes 165 = .ok (.iaload, 1) := by decide +kernel
theorem dX10_becomes_166 : decode cX10_becomes 166 = .ok (.iaload, 1) := by decide +kernel
theorem dX10_becomes_167 : decode cX10_becomes 167 = .ok (.istore 8, 2) := by decide +kernel
theorem dX10_becomes_169 : decode cX10_becomes 169 = .ok (.aload_n 0, 1) := by decide +kernel
theorem dX10_becomes_170 : decode cX10_becomes 170 = .ok (.getfield 47, 3) := by decide +kernel
theorem dX10_becomes_173 : decode cX10_becomes 173 = .ok (.iload 8, 2) := by decide +kernel
theorem dX10_becomes_175 : decode cX10_becomes 175 = .ok (.iaload, 1) := by decide +kernel
theorem dX10_becomes_176 : decode cX10_becomes 176 = .ok (.bipush (-9), 2) := by decide +kernel
theorem dX10_becomes_178 : decode cX10_becomes 178 = .ok (.if_icmp .ne 24, 3) := by decide +kernel
theorem dX10_becomes_181 : decode cX10_becomes 181 = .ok (.aload_n 0, 1) := by decide +kernel
theorem dX10_becomes_182 : decode cX10_becomes 182 = .ok (.getfield 47, 3) := by decide +kernel
theorem dX10_becomes_185 : decode cX10_becomes 185 = .ok (.iload 8, 2) := by decide +kernel
theorem dX10_becomes_187 : decode cX10_becomes 187 = .ok (.iload 4, 2) := by decide +kernel
theorem dX10_becomes_189 : decode cX10_becomes 189 = .ok (.iastore, 1) := by decide +kernel
theorem dX10_becomes_190 : decode cX10_becomes 190 = .ok (.aload_n 0, 1) := by decide +kernel
theorem dX10_becomes_191 : decode cX10_becomes 191 = .ok (.getfield 50, 3) := by decide +kernel
theorem dX10_becomes_194 : decode cX10_becomes 194 = .ok (.iload 4, 2) := by decide +kernel
theorem dX10_becomes_196 : decode cX10_becomes 196 = .ok (.iload 8, 2) := by decide +kernel
theorem dX10_becomes_198 : decode cX10_becomes 198 = .ok (.iastore, 1) := by decide +kernel
theorem dX10_becomes_199 : decode cX10_becomes 199 = .ok (.iinc 4 1, 3) := by decide +kernel
theorem dX10_becomes_202 : decode cX10_becomes 202 = .ok (.aload_n 0, 1) := by decide +kernel
theorem dX10_becomes_203 : decode cX10_becomes 203 = .ok (.getfield 19, 3) := by decide +kernel
theorem dX10_becomes_206 : decode cX10_becomes 206 = .ok (.bipush 8, 2) := by decide +kernel
theorem dX10_becomes_208 : decode cX10_becomes 208 = .ok (.bipush 60, 2) := by decide +kernel
theorem dX10_becomes_210 : decode cX10_becomes 210 = .ok (.iload_n 1, 1) := by decide +kernel
theorem dX10_becomes_211 : decode cX10_becomes 211 = .ok (.imul, 1) := by decide +kernel
theorem dX10_becomes_212 : decode cX10_becomes 212 = .ok (.iload 5, 2) := by decide +kernel
theorem dX10_becomes_214 : decode cX10_becomes 214 = .ok (.iadd, 1) := by decide +kernel
theorem dX10_becomes_215 : decode cX10_becomes 215 = .ok (.imul, 1) := by decide +kernel
theorem dX10_becomes_216 : decode cX10_becomes 216 = .ok (.iload 7, 2) := by decide +kernel
theorem dX10_becomes_218 : decode cX10_becomes 218 = .ok (.iadd, 1) := by decide +kernel
theorem dX10_becomes_219 : decode cX10_becomes 219 = .ok (.aload_n 0, 1) := by decide +kernel
theorem dX10_becomes_220 : decode cX10_becomes 220 = .ok (.getfield 47, 3) := by decide +kernel
theorem dX10_becomes_223 : decode cX10_becomes 223 = .ok (.iload 8, 2) := by decide +kernel
theorem dX10_becomes_225 : decode cX10_becomes 225 = .ok (.iaload, 1) := by decide +kernel
theorem dX10_becomes_226 : decode cX10_becomes 226 = .ok (.iastore, 1) := by decide +kernel
theorem dX10_becomes_227 : decode cX10_becomes 227 = .ok (.iinc 7 1, 3) := by decide +kernel
theorem dX10_becomes_230 : decode cX10_becomes 230 = .ok (.goto (-88), 3) := by decide +kernel
theorem dX10_becomes_233 : decode cX10_becomes 233 = .ok (.aload_n 0, 1) := by decide +kernel
theorem dX10_becomes_234 : decode cX10_becomes 234 = .ok (.getfield 22, 3) := by decide +kernel
theorem dX10_becomes_237 : decode cX10_becomes 237 = .ok (.bipush 60, 2) := by decide +kernel
theorem dX10_becomes_239 : decode cX10_becomes 239 = .ok (.iload_n 1, 1) := by decide +kernel
theorem dX10_becomes_240 : decode cX10_becomes 240 = .ok (.imul, 1) := by decide +kernel
theorem dX10_becomes_241 : decode cX10_becomes 241 = .ok (.iload 5, 2) := by decide +kernel
theorem dX10_becomes_243 : decode cX10_becomes 243 = .ok (.iadd, 1) := by decide +kernel
theorem dX10_becomes_244 : decode cX10_becomes 244 = .ok (.aload_n 0, 1) := by decide +kernel
theorem dX10_becomes_245 : decode cX10_becomes 245 = .ok (.getfield 32, 3) := by decide +kernel
theorem dX10_becomes_248 : decode cX10_becomes 248 = .ok (.iload 6, 2) := by decide +kernel
theorem dX10_becomes_250 : decode cX10_becomes 250 = .ok (.baload, 1) := by decide +kernel
theorem dX10_becomes_251 : decode cX10_becomes 251 = .ok (.bastore, 1) := by decide +kernel
theorem dX10_becomes_252 : decode cX10_becomes 252 = .ok (.iinc 5 1, 3) := by decide +kernel
theorem dX10_becomes_255 : decode cX10_becomes 255 = .ok (.goto (-137), 3) := by decide +kernel
theorem dX10_becomes_258 : decode cX10_becomes 258 = .ok (.aload_n 0, 1) := by decide +kernel
theorem dX10_becomes_259 : decode cX10_becomes 259 = .ok (.getfield 16, 3) := by decide +kernel
theorem dX10_becomes_262 : decode cX10_becomes 262 = .ok (.iload_n 1, 1) := by decide +kernel
theorem dX10_becomes_263 : decode cX10_becomes 263 = .ok (.iload 4, 2) := by decide +kernel
theorem dX10_becomes_265 : decode cX10_becomes 265 = .ok (.iastore, 1) := by decide +kernel
theorem dX10_becomes_266 : decode cX10_becomes 266 = .ok (.iconst 1, 1) := by decide +kernel
theorem dX10_becomes_267 : decode cX10_becomes 267 = .ok (.ireturn, 1) := by decide +kernel
set_option maxRecDepth 20000 in
theorem ggX10_comes_X10_becomes : GoodIn wsX10_comes wsX10_becomes := goodIn_r _ [6, 7, 8, 9, 10, 11, 12, 13, 14, 15, 1, 16, 17, 18, 5, 19, 20, 21, 22, 23, 24, 25, 26, 27, 28, 29, 30, 31, 32, 33, 34, 35, 36, 37, 38, 39, 40, 41, 42, 43, 44] (by decide +kernel) (by decide +kernel)
set_option maxRecDepth 20000 in
theorem gX10_comes_X10_becomes : GoodIn wsX10_comes (wsV RX10 93 RX10 yX10_becomes wsX10_becomes) := goodIn_app (goodIn_of _ (by decide +kernel)) ggX10_comes_X10_becomes
theorem dX10_comes_0 : decode cX10_comes 0 = .ok (.aload_n 0, 1) := by decide +kernel
theorem dX10_comes_1 : decode cX10_comes 1 = .ok (.iload_n 1, 1) := by decide +kernel
theorem dX10_comes_2 : decode cX10_comes 2 = .ok (.invokevirtual 93, 3) := by decide +kernel
theorem dX10_comes_5 : decode cX10_comes 5 = .ok (.ifCond .eq 12, 3) := by decide +kernel
theorem dX10_comes_8 : decode cX10_comes 8 = .ok (.aload_n 0, 1) := by decide +kernel
theorem dX10_comes_9 : decode cX10_comes 9 = .ok (.getfield 16, 3) := by decide +kernel
theorem dX10_comes_12 : decode cX10_comes 12 = .ok (.iload_n 1, 1) := by decide +kernel
theorem dX10_comes_13 : decode cX10_comes 13 = .ok (.iaload, 1) := by decide +kernel
theorem dX10_comes_14 : decode cX10_comes 14 = .ok (.goto 5, 3) := by decide +kernel
theorem dX10_comes_17 : decode cX10_comes 17 = .ok (.bipush (-6), 2) := by decide +kernel
theorem dX10_comes_19 : decode cX10_comes 19 = .ok (.ireturn, 1) := by decide +kernel
theorem dX10_digit_0 : decode cX10_digit 0 = .ok (.iload_n 0, 1) := by decide +kernel
theorem dX10_digit_1 : decode cX10_digit 1 = .ok (.iload_n 1, 1) := by decide +kernel
theorem dX10_digit_2 : decode cX10_digit 2 = .ok (.ishr, 1) := by decide +kernel
theorem dX10_digit_3 : decode cX10_digit 3 = .ok (.iconst 1, 1) := by decide +kernel
theorem dX10_digit_4 : decode cX10_digit 4 = .ok (.iand, 1) := by decide +kernel
theorem dX10_digit_5 : decode cX10_digit 5 = .ok (.ireturn, 1) := by decide +kernel
theorem dX10_leads_0 : decode cX10_leads 0 = .ok (.aload_n 0, 1) := by decide +kernel
theorem dX10_leads_1 : decode cX10_leads 1 = .ok (.getfield 29, 3) := by decide +kernel
theorem dX10_leads_4 : decode cX10_leads 4 = .ok (.bipush 8, 2) := by decide +kernel
theorem dX10_leads_6 : decode cX10_leads 6 = .ok (.iload_n 1, 1) := by decide +kernel
theorem dX10_leads_7 : decode cX10_leads 7 = .ok (.imul, 1) := by decide +kernel
theorem dX10_leads_8 : decode cX10_leads 8 = .ok (.iload_n 2, 1) := by decide +kernel
theorem dX10_leads_9 : decode cX10_leads 9 = .ok (.iadd, 1) := by decide +kernel
theorem dX10_leads_10 : decode cX10_leads 10 = .ok (.iload_n 3, 1) := by decide +kernel
theorem dX10_leads_11 : decode cX10_leads 11 = .ok (.iastore, 1) := by decide +kernel
theorem dX10_leads_12 : decode cX10_leads 12 = .ok (.return_, 1) := by decide +kernel
set_option maxRecDepth 20000 in
theorem ggX10_compares_X10_digit : GoodIn wsX10_compares wsX10_digit := goodIn_r _ [6] (by decide +kernel) (by decide +kernel)
set_option maxRecDepth 20000 in
theorem gX10_compares_X10_digit : GoodIn wsX10_compares (va_wsS RX10 96 yX10_digit wsX10_digit) := goodIn_app (goodIn_of _ (by decide +kernel)) ggX10_compares_X10_digit
set_option maxRecDepth 20000 in
theorem ggX10_compares_X10_leads : GoodIn wsX10_compares wsX10_leads := goodIn_r _ [10, 11, 36, 37, 38, 39, 40, 41, 42, 43, 44, 45, 46, 47, 48, 49, 50, 51, 52, 53, 54, 55] (by decide +kernel) (by decide +kernel)
set_option maxRecDepth 20000 in
theorem gX10_compares_X10_leads : GoodIn wsX10_compares (wsV RX10 100 RX10 yX10_leads wsX10_leads) := goodIn_app (goodIn_of _ (by decide +kernel)) ggX10_compares_X10_leads
set_option maxRecDepth 20000 in
theorem ggX10_compares_X10_comes : GoodIn wsX10_compares wsX10_comes := goodIn_r _ [15, 16, 17, 18, 19, 5, 20, 1, 21, 2, 22, 23, 24, 11, 25, 26, 27, 28, 29, 30, 31, 32, 33, 34, 35, 36, 37, 38, 39, 40, 41, 42, 43, 44, 45, 46, 47, 48, 49, 50, 51, 52, 53, 54, 55] (by decide +kernel) (by decide +kernel)
set_option maxRecDepth 20000 in
theorem gX10_compares_X10_comes : GoodIn wsX10_compares (wsV RX10 104 RX10 yX10_comes wsX10_comes) := goodIn_app (goodIn_of _ (by decide +kernel)) ggX10_compares_X10_comes
theorem dX10_compares_0 : decode cX10_compares 0 = .ok (.aload_n 0, 1) := by decide +kernel
theorem dX10_compares_1 : decode cX10_compares 1 = .ok (.iconst 3, 1) := by decide +kernel
theorem dX10_compares_2 : decode cX10_compares 2 = .ok (.putfield 81, 3) := by decide +kernel
theorem dX10_compares_5 : decode cX10_compares 5 = .ok (.iconst 0, 1) := by decide +kernel
theorem dX10_compares_6 : decode cX10_compares 6 = .ok (.istore 5, 2) := by decide +kernel
theorem dX10_compares_8 : decode cX10_compares 8 = .ok (.iload 5, 2) := by decide +kernel
theorem dX10_compares_10 : decode cX10_compares 10 = .ok (.bipush 8, 2) := by decide +kernel
theorem dX10_compares_12 : decode cX10_compares 12 = .ok (.if_icmp .ge 66, 3) := by decide +kernel
theorem dX10_compares_15 : decode cX10_compares 15 = .ok (.iload 5, 2) := by decide +kernel
theorem dX10_compares_17 : decode cX10_compares 17 = .ok (.iload_n 2, 1) := by decide +kernel
theorem dX10_compares_18 : decode cX10_compares 18 = .ok (.invokestatic 96, 3) := by decide +kernel
theorem dX10_compares_21 : decode cX10_compares 21 = .ok (.iload 5, 2) := by decide +kernel
theorem dX10_compares_23 : decode cX10_compares 23 = .ok (.iload_n 3, 1) := by decide +kernel
theorem dX10_compares_24 : decode cX10_compares 24 = .ok (.invokestatic 96, 3) := by decide +kernel
theorem dX10_compares_27 : decode cX10_compares 27 = .ok (.isub, 1) := by decide +kernel
theorem dX10_compares_28 : decode cX10_compares 28 = .ok (.istore 6, 2) := by decide +kernel
theorem dX10_compares_30 : decode cX10_compares 30 = .ok (.aload_n 0, 1) := by decide +kernel
theorem dX10_compares_31 : decode cX10_compares 31 = .ok (.iconst 0, 1) := by decide +kernel
theorem dX10_compares_32 : decode cX10_compares 32 = .ok (.iload 5, 2) := by decide +kernel
theorem dX10_compares_34 : decode cX10_compares 34 = .ok (.iload 6, 2) := by decide +kernel
theorem dX10_compares_36 : decode cX10_compares 36 = .ok (.ifCond .ne 7, 3) := by decide +kernel
theorem dX10_compares_39 : decode cX10_compares 39 = .ok (.iconst 0, 1) := by decide +kernel
theorem dX10_compares_40 : decode cX10_compares 40 = .ok (.goto 13, 3) := by decide +kernel
theorem dX10_compares_43 : decode cX10_compares 43 = .ok (.iload 6, 2) := by decide +kernel
theorem dX10_compares_45 : decode cX10_compares 45 = .ok (.ifCond .ge 7, 3) := by decide +kernel
theorem dX10_compares_48 : decode cX10_compares 48 = .ok (.iconst 1, 1) := by decide +kernel
theorem dX10_compares_49 : decode cX10_compares 49 = .ok (.goto 4, 3) := by decide +kernel
theorem dX10_compares_52 : decode cX10_compares 52 = .ok (.iconst 2, 1) := by decide +kernel
theorem dX10_compares_53 : decode cX10_compares 53 = .ok (.invokevirtual 100, 3) := by decide +kernel
theorem dX10_compares_56 : decode cX10_compares 56 = .ok (.aload_n 0, 1) := by decide +kernel
theorem dX10_compares_57 : decode cX10_compares 57 = .ok (.iconst 1, 1) := by decide +kernel
theorem dX10_compares_58 : decode cX10_compares 58 = .ok (.iload 5, 2) := by decide +kernel
theorem dX10_compares_60 : decode cX10_compares 60 = .ok (.iconst 1, 1) := by decide +kernel
theorem dX10_compares_61 : decode cX10_compares 61 = .ok (.invokevirtual 100, 3) := by decide +kernel
theorem dX10_compares_64 : decode cX10_compares 64 = .ok (.aload_n 0, 1) := by decide +kernel
theorem dX10_compares_65 : decode cX10_compares 65 = .ok (.iconst 2, 1) := by decide +kernel
theorem dX10_compares_66 : decode cX10_compares 66 = .ok (.iload 5, 2) := by decide +kernel
theorem dX10_compares_68 : decode cX10_compares 68 = .ok (.iconst 2, 1) := by decide +kernel
theorem dX10_compares_69 : decode cX10_compares 69 = .ok (.invokevirtual 100, 3) := by decide +kernel
theorem dX10_compares_72 : decode cX10_compares 72 = .ok (.iinc 5 1, 3) := by decide +kernel
theorem dX10_compares_75 : decode cX10_compares 75 = .ok (.goto (-67), 3) := by decide +kernel
theorem dX10_compares_78 : decode cX10_compares 78 = .ok (.iconst 0, 1) := by decide +kernel
theorem dX10_compares_79 : decode cX10_compares 79 = .ok (.istore 5, 2) := by decide +kernel
theorem dX10_compares_81 : decode cX10_compares 81 = .ok (.iload 5, 2) := by decide +kernel
theorem dX10_compares_83 : decode cX10_compares 83 = .ok (.iconst 3, 1) := by decide +kernel
theorem dX10_compares_84 : decode cX10_compares 84 = .ok (.if_icmp .ge 28, 3) := by decide +kernel
theorem dX10_compares_87 : decode cX10_compares 87 = .ok (.aload_n 0, 1) := by decide +kernel
theorem dX10_compares_88 : decode cX10_compares 88 = .ok (.getfield 32, 3) := by decide +kernel
theorem dX10_compares_91 : decode cX10_compares 91 = .ok (.iload 5, 2) := by decide +kernel
theorem dX10_compares_93 : decode cX10_compares 93 = .ok (.iload 5, 2) := by decide +kernel
theorem dX10_compares_95 : decode cX10_compares 95 = .ok (.iload 4, 2) := by decide +kernel
theorem dX10_compares_97 : decode cX10_compares 97 = .ok (.if_icmp .ne 7, 3) := by decide +kernel
theorem dX10_compares_100 : decode cX10_compares 100 = .ok (.iconst 1, 1) := by decide +kernel
theorem dX10_compares_101 : decode cX10_compares 101 = .ok (.goto 4, 3) := by decide +kernel
theorem dX10_compares_104 : decode cX10_compares 104 = .ok (.iconst 0, 1) := by decide +kernel
theorem dX10_compares_105 : decode cX10_compares 105 = .ok (.bastore, 1) := by decide +kernel
theorem dX10_compares_106 : decode cX10_compares 106 = .ok (.iinc 5 1, 3) := by decide +kernel
theorem dX10_compares_109 : decode cX10_compares 109 = .ok (.goto (-28), 3) := by decide +kernel
theorem dX10_compares_112 : decode cX10_compares 112 = .ok (.aload_n 0, 1) := by decide +kernel
theorem dX10_compares_113 : decode cX10_compares 113 = .ok (.iload_n 1, 1) := by decide +kernel
theorem dX10_compares_114 : decode cX10_compares 114 = .ok (.invokevirtual 104, 3) := by decide +kernel
theorem dX10_compares_117 : decode cX10_compares 117 = .ok (.ireturn, 1) := by decide +kernel
set_option maxRecDepth 20000 in
theorem ggX10_equal_X10_isClaim : GoodIn wsX10_equal wsX10_isClaim := goodIn_r _ [4, 5, 6, 3, 7] (by decide +kernel) (by decide +kernel)
set_option maxRecDepth 20000 in
theorem gX10_equal_X10_isClaim : GoodIn wsX10_equal (va_wsS RX10 108 yX10_isClaim wsX10_isClaim) := goodIn_app (goodIn_of _ (by decide +kernel)) ggX10_equal_X10_isClaim
set_option maxRecDepth 20000 in
theorem ggX10_equal_X10_areTwo : GoodIn wsX10_equal wsX10_areTwo := goodIn_r _ [10, 11, 12, 3, 13, 5, 6, 7] (by decide +kernel) (by decide +kernel)
set_option maxRecDepth 20000 in
theorem gX10_equal_X10_areTwo : GoodIn wsX10_equal (va_wsS RX10 111 yX10_areTwo wsX10_areTwo) := goodIn_app (goodIn_of _ (by decide +kernel)) ggX10_equal_X10_areTwo
set_option maxRecDepth 20000 in
theorem ggX10_equal_X10_compares : GoodIn wsX10_equal wsX10_compares := goodIn_r _ [17, 18, 19, 20, 21, 3, 22, 23, 24, 25, 26, 27, 28, 29, 30, 31, 32, 33, 34, 35, 36, 37, 38, 39, 40, 41, 42, 43, 44, 45, 46, 47, 48, 49, 50, 51, 52, 53, 54, 55, 56, 57, 58, 59, 60, 61, 62, 63, 64, 65, 66, 67, 68, 69, 70, 71] (by decide +kernel) (by decide +kernel)
set_option maxRecDepth 20000 in
theorem gX10_equal_X10_compares : GoodIn wsX10_equal (wsV RX10 114 RX10 yX10_compares wsX10_compares) := goodIn_app (goodIn_of _ (by decide +kernel)) ggX10_equal_X10_compares
theorem dX10_equal_0 : decode cX10_equal 0 = .ok (.iload_n 1, 1) := by decide +kernel
theorem dX10_equal_1 : decode cX10_equal 1 = .ok (.invokestatic 108, 3) := by decide +kernel
theorem dX10_equal_4 : decode cX10_equal 4 = .ok (.ifCond .eq 22, 3) := by decide +kernel
theorem dX10_equal_7 : decode cX10_equal 7 = .ok (.iload_n 2, 1) := by decide +kernel
theorem dX10_equal_8 : decode cX10_equal 8 = .ok (.iload_n 3, 1) := by decide +kernel
theorem dX10_equal_9 : decode cX10_equal 9 = .ok (.invokestatic 111, 3) := by decide +kernel
theorem dX10_equal_12 : decode cX10_equal 12 = .ok (.ifCond .eq 14, 3) := by decide +kernel
theorem dX10_equal_15 : decode cX10_equal 15 = .ok (.aload_n 0, 1) := by decide +kernel
theorem dX10_equal_16 : decode cX10_equal 16 = .ok (.iload_n 1, 1) := by decide +kernel
theorem dX10_equal_17 : decode cX10_equal 17 = .ok (.iload_n 2, 1) := by decide +kernel
theorem dX10_equal_18 : decode cX10_equal 18 = .ok (.iload_n 3, 1) := by decide +kernel
theorem dX10_equal_19 : decode cX10_equal 19 = .ok (.iconst 0, 1) := by decide +kernel
theorem dX10_equal_20 : decode cX10_equal 20 = .ok (.invokevirtual 114, 3) := by decide +kernel
theorem dX10_equal_23 : decode cX10_equal 23 = .ok (.goto 4, 3) := by decide +kernel
theorem dX10_equal_26 : decode cX10_equal 26 = .ok (.iconst (-1), 1) := by decide +kernel
theorem dX10_equal_27 : decode cX10_equal 27 = .ok (.ireturn, 1) := by decide +kernel
set_option maxRecDepth 20000 in
theorem ggX10_less_X10_isClaim : GoodIn wsX10_less wsX10_isClaim := goodIn_r _ [4, 5, 6, 3, 7] (by decide +kernel) (by decide +kernel)
set_option maxRecDepth 20000 in
theorem gX10_less_X10_isClaim : GoodIn wsX10_less (va_wsS RX10 108 yX10_isClaim wsX10_isClaim) := goodIn_app (goodIn_of _ (by decide +kernel)) ggX10_less_X10_isClaim
set_option maxRecDepth 20000 in
theorem ggX10_less_X10_areTwo : GoodIn wsX10_less wsX10_areTwo := goodIn_r _ [10, 11, 12, 3, 13, 5, 6, 7] (by decide +kernel) (by decide +kernel)
set_option maxRecDepth 20000 in
theorem gX10_less_X10_areTwo : GoodIn wsX10_less (va_wsS RX10 111 yX10_areTwo wsX10_areTwo) := goodIn_app (goodIn_of _ (by decide +kernel)) ggX10_less_X10_areTwo
set_option maxRecDepth 20000 in
theorem ggX10_less_X10_compares : GoodIn wsX10_less wsX10_compares := goodIn_r _ [17, 18, 19, 20, 21, 3, 22, 23, 24, 25, 26, 27, 28, 29, 30, 31, 32, 33, 34, 35, 36, 37, 38, 39, 40, 41, 42, 43, 44, 45, 46, 47, 48, 49, 50, 51, 52, 53, 54, 55, 56, 57, 58, 59, 60, 61, 62, 63, 64, 65, 66, 67, 68, 69, 70, 71] (by decide +kernel) (by decide +kernel)
set_option maxRecDepth 20000 in
theorem gX10_less_X10_compares : GoodIn wsX10_less (wsV RX10 114 RX10 yX10_compares wsX10_compares) := goodIn_app (goodIn_of _ (by decide +kernel)) ggX10_less_X10_compares
theorem dX10_less_0 : decode cX10_less 0 = .ok (.iload_n 1, 1) := by decide +kernel
theorem dX10_less_1 : decode cX10_less 1 = .ok (.invokestatic 108, 3) := by decide +kernel
theorem dX10_less_4 : decode cX10_less 4 = .ok (.ifCond .eq 22, 3) := by decide +kernel
theorem dX10_less_7 : decode cX10_less 7 = .ok (.iload_n 2, 1) := by decide +kernel
theorem dX10_less_8 : decode cX10_less 8 = .ok (.iload_n 3, 1) := by decide +kernel
theorem dX10_less_9 : decode cX10_less 9 = .ok (.invokestatic 111, 3) := by decide +kernel
theorem dX10_less_12 : decode cX10_less 12 = .ok (.ifCond .eq 14, 3) := by decide +kernel
theorem dX10_less_15 : decode cX10_less 15 = .ok (.aload_n 0, 1) := by decide +kernel
theorem dX10_less_16 : decode cX10_less 16 = .ok (.iload_n 1, 1) := by decide +kernel
theorem dX10_less_17 : decode cX10_less 17 = .ok (.iload_n 2, 1) := by decide +kernel
theorem dX10_less_18 : decode cX10_less 18 = .ok (.iload_n 3, 1) := by decide +kernel
theorem dX10_less_19 : decode cX10_less 19 = .ok (.iconst 1, 1) := by decide +kernel
theorem dX10_less_20 : decode cX10_less 20 = .ok (.invokevirtual 114, 3) := by decide +kernel
theorem dX10_less_23 : decode cX10_less 23 = .ok (.goto 4, 3) := by decide +kernel
theorem dX10_less_26 : decode cX10_less 26 = .ok (.iconst (-1), 1) := by decide +kernel
theorem dX10_less_27 : decode cX10_less 27 = .ok (.ireturn, 1) := by decide +kernel
set_option maxRecDepth 20000 in
theorem ggX10_sum_X10_isClaim : GoodIn wsX10_sum wsX10_isClaim := goodIn_r _ [6, 7, 8, 5, 9] (by decide +kernel) (by decide +kernel)
set_option maxRecDepth 20000 in
theorem gX10_sum_X10_isClaim : GoodIn wsX10_sum (va_wsS RX10 108 yX10_isClaim wsX10_isClaim) := goodIn_app (goodIn_of _ (by decide +kernel)) ggX10_sum_X10_isClaim
set_option maxRecDepth 20000 in
theorem ggX10_sum_X10_areTwo : GoodIn wsX10_sum wsX10_areTwo := goodIn_r _ [12, 13, 14, 5, 15, 7, 8, 9] (by decide +kernel) (by decide +kernel)
set_option maxRecDepth 20000 in
theorem gX10_sum_X10_areTwo : GoodIn wsX10_sum (va_wsS RX10 111 yX10_areTwo wsX10_areTwo) := goodIn_app (goodIn_of _ (by decide +kernel)) ggX10_sum_X10_areTwo
set_option maxRecDepth 20000 in
theorem ggX10_sum_X10_digit : GoodIn wsX10_sum wsX10_digit := goodIn_r _ [18] (by decide +kernel) (by decide +kernel)
set_option maxRecDepth 20000 in
theorem gX10_sum_X10_digit : GoodIn wsX10_sum (va_wsS RX10 96 yX10_digit wsX10_digit) := goodIn_app (goodIn_of _ (by decide +kernel)) ggX10_sum_X10_digit
set_option maxRecDepth 20000 in
theorem ggX10_sum_X10_within : GoodIn wsX10_sum wsX10_within := goodIn_r _ [9] (by decide +kernel) (by decide +kernel)
set_option maxRecDepth 20000 in
theorem gX10_sum_X10_within : GoodIn wsX10_sum (va_wsS RX10 69 yX10_within wsX10_within) := goodIn_app (goodIn_of _ (by decide +kernel)) ggX10_sum_X10_within
set_option maxRecDepth 20000 in
theorem ggX10_sum_X10_leads : GoodIn wsX10_sum wsX10_leads := goodIn_r _ [22, 23, 48, 49, 50, 51, 52, 53, 54, 55, 56, 57, 58, 59, 60, 61, 62, 63, 64, 65, 66, 67] (by decide +kernel) (by decide +kernel)
set_option maxRecDepth 20000 in
theorem gX10_sum_X10_leads : GoodIn wsX10_sum (wsV RX10 100 RX10 yX10_leads wsX10_leads) := goodIn_app (goodIn_of _ (by decide +kernel)) ggX10_sum_X10_leads
set_option maxRecDepth 20000 in
theorem ggX10_sum_X10_comes : GoodIn wsX10_sum wsX10_comes := goodIn_r _ [27, 28, 29, 30, 31, 5, 32, 1, 33, 2, 34, 35, 36, 23, 37, 38, 39, 40, 41, 42, 43, 44, 45, 46, 47, 48, 49, 50, 51, 52, 53, 54, 55, 56, 57, 58, 59, 60, 61, 62, 63, 64, 65, 66, 67] (by decide +kernel) (by decide +kernel)
set_option maxRecDepth 20000 in
theorem gX10_sum_X10_comes : GoodIn wsX10_sum (wsV RX10 104 RX10 yX10_comes wsX10_comes) := goodIn_app (goodIn_of _ (by decide +kernel)) ggX10_sum_X10_comes
theorem dX10_sum_0 : decode cX10_sum 0 = .ok (.iload_n 1, 1) := by decide +kernel
theorem dX10_sum_1 : decode cX10_sum 1 = .ok (.invokestatic 108, 3) := by decide +kernel
theorem dX10_sum_4 : decode cX10_sum 4 = .ok (.ifCond .eq 11, 3) := by decide +kernel
theorem dX10_sum_7 : decode cX10_sum 7 = .ok (.iload_n 2, 1) := by decide +kernel
theorem dX10_sum_8 : decode cX10_sum 8 = .ok (.iload_n 3, 1) := by decide +kernel
theorem dX10_sum_9 : decode cX10_sum 9 = .ok (.invokestatic 111, 3) := by decide +kernel
theorem dX10_sum_12 : decode cX10_sum 12 = .ok (.ifCond .ne 5, 3) := by decide +kernel
theorem dX10_sum_15 : decode cX10_sum 15 = .ok (.iconst (-1), 1) := by decide +kernel
theorem dX10_sum_16 : decode cX10_sum 16 = .ok (.ireturn, 1) := by decide +kernel
theorem dX10_sum_17 : decode cX10_sum 17 = .ok (.aload_n 0, 1) := by decide +kernel
theorem dX10_sum_18 : decode cX10_sum 18 = .ok (.iconst 3, 1) := by decide +kernel
theorem dX10_sum_19 : decode cX10_sum 19 = .ok (.putfield 81, 3) := by decide +kernel
theorem dX10_sum_22 : decode cX10_sum 22 = .ok (.iconst 0, 1) := by decide +kernel
theorem dX10_sum_23 : decode cX10_sum 23 = .ok (.istore 4, 2) := by decide +kernel
theorem dX10_sum_25 : decode cX10_sum 25 = .ok (.iload 4, 2) := by decide +kernel
theorem dX10_sum_27 : decode cX10_sum 27 = .ok (.iconst 3, 1) := by decide +kernel
theorem dX10_sum_28 : decode cX10_sum 28 = .ok (.if_icmp .ge 103, 3) := by decide +kernel
theorem dX10_sum_31 : decode cX10_sum 31 = .ok (.iconst 0, 1) := by decide +kernel
theorem dX10_sum_32 : decode cX10_sum 32 = .ok (.istore 5, 2) := by decide +kernel
theorem dX10_sum_34 : decode cX10_sum 34 = .ok (.iload 5, 2) := by decide +kernel
theorem dX10_sum_36 : decode cX10_sum 36 = .ok (.bipush 8, 2) := by decide +kernel
theorem dX10_sum_38 : decode cX10_sum 38 = .ok (.if_icmp .ge 70, 3) := by decide +kernel
theorem dX10_sum_41 : decode cX10_sum 41 = .ok (.iconst 2, 1) := by decide +kernel
theorem dX10_sum_42 : decode cX10_sum 42 = .ok (.iload 4, 2) := by decide +kernel
theorem dX10_sum_44 : decode cX10_sum 44 = .ok (.imul, 1) := by decide +kernel
theorem dX10_sum_45 : decode cX10_sum 45 = .ok (.iload 5, 2) := by decide +kernel
theorem dX10_sum_47 : decode cX10_sum 47 = .ok (.iconst 3, 1) := by decide +kernel
theorem dX10_sum_48 : decode cX10_sum 48 = .ok (.iload_n 2, 1) := by decide +kernel
theorem dX10_sum_49 : decode cX10_sum 49 = .ok (.isub, 1) := by decide +kernel
theorem dX10_sum_50 : decode cX10_sum 50 = .ok (.iload_n 3, 1) := by decide +kernel
theorem dX10_sum_51 : decode cX10_sum 51 = .ok (.isub, 1) := by decide +kernel
theorem dX10_sum_52 : decode cX10_sum 52 = .ok (.invokestatic 96, 3) := by decide +kernel
theorem dX10_sum_55 : decode cX10_sum 55 = .ok (.iadd, 1) := by decide +kernel
theorem dX10_sum_56 : decode cX10_sum 56 = .ok (.iload 5, 2) := by decide +kernel
theorem dX10_sum_58 : decode cX10_sum 58 = .ok (.iload_n 2, 1) := by decide +kernel
theorem dX10_sum_59 : decode cX10_sum 59 = .ok (.invokestatic 96, 3) := by decide +kernel
theorem dX10_sum_62 : decode cX10_sum 62 = .ok (.isub, 1) := by decide +kernel
theorem dX10_sum_63 : decode cX10_sum 63 = .ok (.iload 5, 2) := by decide +kernel
theorem dX10_sum_65 : decode cX10_sum 65 = .ok (.iload_n 3, 1) := by decide +kernel
theorem dX10_sum_66 : decode cX10_sum 66 = .ok (.invokestatic 96, 3) := by decide +kernel
theorem dX10_sum_69 : decode cX10_sum 69 = .ok (.isub, 1) := by decide +kernel
theorem dX10_sum_70 : decode cX10_sum 70 = .ok (.istore 6, 2) := by decide +kernel
theorem dX10_sum_72 : decode cX10_sum 72 = .ok (.aload_n 0, 1) := by decide +kernel
theorem dX10_sum_73 : decode cX10_sum 73 = .ok (.iload 4, 2) := by decide +kernel
theorem dX10_sum_75 : decode cX10_sum 75 = .ok (.iload 5, 2) := by decide +kernel
theorem dX10_sum_77 : decode cX10_sum 77 = .ok (.iload 4, 2) := by decide +kernel
theorem dX10_sum_79 : decode cX10_sum 79 = .ok (.iconst 2, 1) := by decide +kernel
theorem dX10_sum_80 : decode cX10_sum 80 = .ok (.if_icmp .eq 13, 3) := by decide +kernel
theorem dX10_sum_83 : decode cX10_sum 83 = .ok (.iload 6, 2) := by decide +kernel
theorem dX10_sum_85 : decode cX10_sum 85 = .ok (.iconst 0, 1) := by decide +kernel
theorem dX10_sum_86 : decode cX10_sum 86 = .ok (.iconst 1, 1) := by decide +kernel
theorem dX10_sum_87 : decode cX10_sum 87 = .ok (.invokestatic 69, 3) := by decide +kernel
theorem dX10_sum_90 : decode cX10_sum 90 = .ok (.ifCond .ne 7, 3) := by decide +kernel
theorem dX10_sum_93 : decode cX10_sum 93 = .ok (.iconst 2, 1) := by decide +kernel
theorem dX10_sum_94 : decode cX10_sum 94 = .ok (.goto 5, 3) := by decide +kernel
theorem dX10_sum_97 : decode cX10_sum 97 = .ok (.iload 6, 2) := by decide +kernel
theorem dX10_sum_99 : decode cX10_sum 99 = .ok (.invokevirtual 100, 3) := by decide +kernel
theorem dX10_sum_102 : decode cX10_sum 102 = .ok (.iinc 5 1, 3) := by decide +kernel
theorem dX10_sum_105 : decode cX10_sum 105 = .ok (.goto (-71), 3) := by decide +kernel
theorem dX10_sum_108 : decode cX10_sum 108 = .ok (.aload_n 0, 1) := by decide +kernel
theorem dX10_sum_109 : decode cX10_sum 109 = .ok (.getfield 32, 3) := by decide +kernel
theorem dX10_sum_112 : decode cX10_sum 112 = .ok (.iload 4, 2) := by decide +kernel
theorem dX10_sum_114 : decode cX10_sum 114 = .ok (.iload 4, 2) := by decide +kernel
theorem dX10_sum_116 : decode cX10_sum 116 = .ok (.ifCond .ne 7, 3) := by decide +kernel
theorem dX10_sum_119 : decode cX10_sum 119 = .ok (.iconst 1, 1) := by decide +kernel
theorem dX10_sum_120 : decode cX10_sum 120 = .ok (.goto 4, 3) := by decide +kernel
theorem dX10_sum_123 : decode cX10_sum 123 = .ok (.iconst 0, 1) := by decide +kernel
theorem dX10_sum_124 : decode cX10_sum 124 = .ok (.bastore, 1) := by decide +kernel
theorem dX10_sum_125 : decode cX10_sum 125 = .ok (.iinc 4 1, 3) := by decide +kernel
theorem dX10_sum_128 : decode cX10_sum 128 = .ok (.goto (-103), 3) := by decide +kernel
theorem dX10_sum_131 : decode cX10_sum 131 = .ok (.aload_n 0, 1) := by decide +kernel
theorem dX10_sum_132 : decode cX10_sum 132 = .ok (.iload_n 1, 1) := by decide +kernel
theorem dX10_sum_133 : decode cX10_sum 133 = .ok (.invokevirtual 104, 3) := by decide +kernel
theorem dX10_sum_136 : decode cX10_sum 136 = .ok (.ireturn, 1) := by decide +kernel
set_option maxRecDepth 20000 in
theorem ggX10_is_X10_isClaim : GoodIn wsX10_is wsX10_isClaim := goodIn_r _ [7, 8, 9, 6, 10] (by decide +kernel) (by decide +kernel)
set_option maxRecDepth 20000 in
theorem gX10_is_X10_isClaim : GoodIn wsX10_is (va_wsS RX10 108 yX10_isClaim wsX10_isClaim) := goodIn_app (goodIn_of _ (by decide +kernel)) ggX10_is_X10_isClaim
set_option maxRecDepth 20000 in
theorem ggX10_is_X10_isNumber : GoodIn wsX10_is wsX10_isNumber := goodIn_r _ [13, 8, 9, 6, 10] (by decide +kernel) (by decide +kernel)
set_option maxRecDepth 20000 in
theorem gX10_is_X10_isNumber : GoodIn wsX10_is (va_wsS RX10 73 yX10_isNumber wsX10_isNumber) := goodIn_app (goodIn_of _ (by decide +kernel)) ggX10_is_X10_isNumber
set_option maxRecDepth 20000 in
theorem ggX10_is_X10_within : GoodIn wsX10_is wsX10_within := goodIn_r _ [10] (by decide +kernel) (by decide +kernel)
set_option maxRecDepth 20000 in
theorem gX10_is_X10_within : GoodIn wsX10_is (va_wsS RX10 69 yX10_within wsX10_within) := goodIn_app (goodIn_of _ (by decide +kernel)) ggX10_is_X10_within
set_option maxRecDepth 20000 in
theorem ggX10_is_X10_digit : GoodIn wsX10_is wsX10_digit := goodIn_r _ [16] (by decide +kernel) (by decide +kernel)
set_option maxRecDepth 20000 in
theorem gX10_is_X10_digit : GoodIn wsX10_is (va_wsS RX10 96 yX10_digit wsX10_digit) := goodIn_app (goodIn_of _ (by decide +kernel)) ggX10_is_X10_digit
set_option maxRecDepth 20000 in
theorem ggX10_is_X10_leads : GoodIn wsX10_is wsX10_leads := goodIn_r _ [20, 21, 46, 47, 48, 49, 50, 51, 52, 53, 54, 55, 56, 57, 58, 59, 60, 61, 62, 63, 64, 65] (by decide +kernel) (by decide +kernel)
set_option maxRecDepth 20000 in
theorem gX10_is_X10_leads : GoodIn wsX10_is (wsV RX10 100 RX10 yX10_leads wsX10_leads) := goodIn_app (goodIn_of _ (by decide +kernel)) ggX10_is_X10_leads
set_option maxRecDepth 20000 in
theorem ggX10_is_X10_comes : GoodIn wsX10_is wsX10_comes := goodIn_r _ [25, 26, 27, 28, 29, 6, 30, 2, 31, 3, 32, 33, 34, 21, 35, 36, 37, 38, 39, 40, 41, 42, 43, 44, 45, 46, 47, 48, 49, 50, 51, 52, 53, 54, 55, 56, 57, 58, 59, 60, 61, 62, 63, 64, 65] (by decide +kernel) (by decide +kernel)
set_option maxRecDepth 20000 in
theorem gX10_is_X10_comes : GoodIn wsX10_is (wsV RX10 104 RX10 yX10_comes wsX10_comes) := goodIn_app (goodIn_of _ (by decide +kernel)) ggX10_is_X10_comes
theorem dX10_is_0 : decode cX10_is 0 = .ok (.iload_n 1, 1) := by decide +kernel
theorem dX10_is_1 : decode cX10_is 1 = .ok (.invokestatic 108, 3) := by decide +kernel
theorem dX10_is_4 : decode cX10_is 4 = .ok (.ifCond .eq 10, 3) := by decide +kernel
theorem dX10_is_7 : decode cX10_is 7 = .ok (.iload_n 2, 1) := by decide +kernel
theorem dX10_is_8 : decode cX10_is 8 = .ok (.invokestatic 73, 3) := by decide +kernel
theorem dX10_is_11 : decode cX10_is 11 = .ok (.ifCond .ne 5, 3) := by decide +kernel
theorem dX10_is_14 : decode cX10_is 14 = .ok (.iconst (-1), 1) := by decide +kernel
theorem dX10_is_15 : decode cX10_is 15 = .ok (.ireturn, 1) := by decide +kernel
theorem dX10_is_16 : decode cX10_is 16 = .ok (.iload_n 3, 1) := by decide +kernel
theorem dX10_is_17 : decode cX10_is 17 = .ok (.iconst 0, 1) := by decide +kernel
theorem dX10_is_18 : decode cX10_is 18 = .ok (.ldc 118, 2) := by decide +kernel
theorem dX10_is_20 : decode cX10_is 20 = .ok (.invokestatic 69, 3) := by decide +kernel
theorem dX10_is_23 : decode cX10_is 23 = .ok (.ifCond .ne 6, 3) := by decide +kernel
theorem dX10_is_26 : decode cX10_is 26 = .ok (.bipush (-2), 2) := by decide +kernel
theorem dX10_is_28 : decode cX10_is 28 = .ok (.ireturn, 1) := by decide +kernel
theorem dX10_is_29 : decode cX10_is 29 = .ok (.iconst 0, 1) := by decide +kernel
theorem dX10_is_30 : decode cX10_is 30 = .ok (.istore 4, 2) := by decide +kernel
theorem dX10_is_32 : decode cX10_is 32 = .ok (.iload_n 3, 1) := by decide +kernel
theorem dX10_is_33 : decode cX10_is 33 = .ok (.istore 5, 2) := by decide +kernel
theorem dX10_is_35 : decode cX10_is 35 = .ok (.iload 5, 2) := by decide +kernel
theorem dX10_is_37 : decode cX10_is 37 = .ok (.ifCond .le 15, 3) := by decide +kernel
theorem dX10_is_40 : decode cX10_is 40 = .ok (.iinc 4 1, 3) := by decide +kernel
theorem dX10_is_43 : decode cX10_is 43 = .ok (.iload 5, 2) := by decide +kernel
theorem dX10_is_45 : decode cX10_is 45 = .ok (.iconst 2, 1) := by decide +kernel
theorem dX10_is_46 : decode cX10_is 46 = .ok (.idiv, 1) := by decide +kernel
theorem dX10_is_47 : decode cX10_is 47 = .ok (.istore 5, 2) := by decide +kernel
theorem dX10_is_49 : decode cX10_is 49 = .ok (.goto (-14), 3) := by decide +kernel
theorem dX10_is_52 : decode cX10_is 52 = .ok (.aload_n 0, 1) := by decide +kernel
theorem dX10_is_53 : decode cX10_is 53 = .ok (.iload 4, 2) := by decide +kernel
theorem dX10_is_55 : decode cX10_is 55 = .ok (.iconst 2, 1) := by decide +kernel
theorem dX10_is_56 : decode cX10_is 56 = .ok (.iadd, 1) := by decide +kernel
theorem dX10_is_57 : decode cX10_is 57 = .ok (.putfield 81, 3) := by decide +kernel
theorem dX10_is_60 : decode cX10_is 60 = .ok (.iconst 0, 1) := by decide +kernel
theorem dX10_is_61 : decode cX10_is 61 = .ok (.istore 5, 2) := by decide +kernel
theorem dX10_is_63 : decode cX10_is 63 = .ok (.iload 5, 2) := by decide +kernel
theorem dX10_is_65 : decode cX10_is 65 = .ok (.aload_n 0, 1) := by decide +kernel
theorem dX10_is_66 : decode cX10_is 66 = .ok (.getfield 81, 3) := by decide +kernel
theorem dX10_is_69 : decode cX10_is 69 = .ok (.if_icmp .ge 132, 3) := by decide +kernel
theorem dX10_is_72 : decode cX10_is 72 = .ok (.iconst 0, 1) := by decide +kernel
theorem dX10_is_73 : decode cX10_is 73 = .ok (.istore 6, 2) := by decide +kernel
theorem dX10_is_75 : decode cX10_is 75 = .ok (.iload 6, 2) := by decide +kernel
theorem dX10_is_77 : decode cX10_is 77 = .ok (.bipush 8, 2) := by decide +kernel
theorem dX10_is_79 : decode cX10_is 79 = .ok (.if_icmp .ge 97, 3) := by decide +kernel
theorem dX10_is_82 : decode cX10_is 82 = .ok (.iload 6, 2) := by decide +kernel
theorem dX10_is_84 : decode cX10_is 84 = .ok (.iload_n 2, 1) := by decide +kernel
theorem dX10_is_85 : decode cX10_is 85 = .ok (.invokestatic 96, 3) := by decide +kernel
theorem dX10_is_88 : decode cX10_is 88 = .ok (.istore 7, 2) := by decide +kernel
theorem dX10_is_90 : decode cX10_is 90 = .ok (.iload 5, 2) := by decide +kernel
theorem dX10_is_92 : decode cX10_is 92 = .ok (.iload 4, 2) := by decide +kernel
theorem dX10_is_94 : decode cX10_is 94 = .ok (.if_icmp .ge 23, 3) := by decide +kernel
theorem dX10_is_97 : decode cX10_is 97 = .ok (.iload 7, 2) := by decide +kernel
theorem dX10_is_99 : decode cX10_is 99 = .ok (.iload_n 3, 1) := by decide +kernel
theorem dX10_is_100 : decode cX10_is 100 = .ok (.iload 4, 2) := by decide +kernel
theorem dX10_is_102 : decode cX10_is 102 = .ok (.iconst 1, 1) := by decide +kernel
theorem dX10_is_103 : decode cX10_is 103 = .ok (.isub, 1) := by decide +kernel
theorem dX10_is_104 : decode cX10_is 104 = .ok (.iload 5, 2) := by decide +kernel
theorem dX10_is_106 : decode cX10_is 106 = .ok (.isub, 1) := by decide +kernel
theorem dX10_is_107 : decode cX10_is 107 = .ok (.ishr, 1) := by decide +kernel
theorem dX10_is_108 : decode cX10_is 108 = .ok (.iconst 1, 1) := by decide +kernel
theorem dX10_is_109 : decode cX10_is 109 = .ok (.iand, 1) := by decide +kernel
theorem dX10_is_110 : decode cX10_is 110 = .ok (.if_icmp .ne 7, 3) := by decide +kernel
theorem dX10_is_113 : decode cX10_is 113 = .ok (.iconst 1, 1) := by decide +kernel
theorem dX10_is_114 : decode cX10_is 114 = .ok (.goto 4, 3) := by decide +kernel
theorem dX10_is_117 : decode cX10_is 117 = .ok (.iconst 0, 1) := by decide +kernel
theorem dX10_is_118 : decode cX10_is 118 = .ok (.istore 8, 2) := by decide +kernel
theorem dX10_is_120 : decode cX10_is 120 = .ok (.iload 5, 2) := by decide +kernel
theorem dX10_is_122 : decode cX10_is 122 = .ok (.ifCond .ne 12, 3) := by decide +kernel
theorem dX10_is_125 : decode cX10_is 125 = .ok (.iload 7, 2) := by decide +kernel
theorem dX10_is_127 : decode cX10_is 127 = .ok (.ifCond .ne 7, 3) := by decide +kernel
theorem dX10_is_130 : decode cX10_is 130 = .ok (.iconst 1, 1) := by decide +kernel
theorem dX10_is_131 : decode cX10_is 131 = .ok (.goto 4, 3) := by decide +kernel
theorem dX10_is_134 : decode cX10_is 134 = .ok (.iconst 0, 1) := by decide +kernel
theorem dX10_is_135 : decode cX10_is 135 = .ok (.istore 9, 2) := by decide +kernel
theorem dX10_is_137 : decode cX10_is 137 = .ok (.aload_n 0, 1) := by decide +kernel
theorem dX10_is_138 : decode cX10_is 138 = .ok (.iload 5, 2) := by decide +kernel
theorem dX10_is_140 : decode cX10_is 140 = .ok (.iload 6, 2) := by decide +kernel
theorem dX10_is_142 : decode cX10_is 142 = .ok (.iload 8, 2) := by decide +kernel
theorem dX10_is_144 : decode cX10_is 144 = .ok (.ifCond .eq 10, 3) := by decide +kernel
theorem dX10_is_147 : decode cX10_is 147 = .ok (.iload 5, 2) := by decide +kernel
theorem dX10_is_149 : decode cX10_is 149 = .ok (.iconst 1, 1) := by decide +kernel
theorem dX10_is_150 : decode cX10_is 150 = .ok (.iadd, 1) := by decide +kernel
theorem dX10_is_151 : decode cX10_is 151 = .ok (.goto 16, 3) := by decide +kernel
theorem dX10_is_154 : decode cX10_is 154 = .ok (.iload 9, 2) := by decide +kernel
theorem dX10_is_156 : decode cX10_is 156 = .ok (.ifCond .eq 7, 3) := by decide +kernel
theorem dX10_is_159 : decode cX10_is 159 = .ok (.iconst 0, 1) := by decide +kernel
theorem dX10_is_160 : decode cX10_is 160 = .ok (.goto 7, 3) := by decide +kernel
theorem dX10_is_163 : decode cX10_is 163 = .ok (.iload 4, 2) := by decide +kernel
theorem dX10_is_165 : decode cX10_is 165 = .ok (.iconst 1, 1) := by decide +kernel
theorem dX10_is_166 : decode cX10_is 166 = .ok (.iadd, 1) := by decide +kernel
theorem dX10_is_167 : decode cX10_is 167 = .ok (.invokevirtual 100, 3) := by decide +kernel
theorem dX10_is_170 : decode cX10_is 170 = .ok (.iinc 6 1, 3) := by decide +kernel
theorem dX10_is_173 : decode cX10_is 173 = .ok (.goto (-98), 3) := by decide +kernel
theorem dX10_is_176 : decode cX10_is 176 = .ok (.aload_n 0, 1) := by decide +kernel
theorem dX10_is_177 : decode cX10_is 177 = .ok (.getfield 32, 3) := by decide +kernel
theorem dX10_is_180 : decode cX10_is 180 = .ok (.iload 5, 2) := by decide +kernel
theorem dX10_is_182 : decode cX10_is 182 = .ok (.iload 5, 2) := by decide +kernel
theorem dX10_is_184 : decode cX10_is 184 = .ok (.iload 4, 2) := by decide +kernel
theorem dX10_is_186 : decode cX10_is 186 = .ok (.if_icmp .ne 7, 3) := by decide +kernel
theorem dX10_is_189 : decode cX10_is 189 = .ok (.iconst 1, 1) := by decide +kernel
theorem dX10_is_190 : decode cX10_is 190 = .ok (.goto 4, 3) := by decide +kernel
theorem dX10_is_193 : decode cX10_is 193 = .ok (.iconst 0, 1) := by decide +kernel
theorem dX10_is_194 : decode cX10_is 194 = .ok (.bastore, 1) := by decide +kernel
theorem dX10_is_195 : decode cX10_is 195 = .ok (.iinc 5 1, 3) := by decide +kernel
theorem dX10_is_198 : decode cX10_is 198 = .ok (.goto (-135), 3) := by decide +kernel
theorem dX10_is_201 : decode cX10_is 201 = .ok (.aload_n 0, 1) := by decide +kernel
theorem dX10_is_202 : decode cX10_is 202 = .ok (.iload_n 1, 1) := by decide +kernel
theorem dX10_is_203 : decode cX10_is 203 = .ok (.invokevirtual 104, 3) := by decide +kernel
theorem dX10_is_206 : decode cX10_is 206 = .ok (.ireturn, 1) := by decide +kernel
set_option maxRecDepth 20000 in
theorem ggX10_tells_X10_isClaim : GoodIn wsX10_tells wsX10_isClaim := goodIn_r _ [9, 10, 11, 8, 12] (by decide +kernel) (by decide +kernel)
set_option maxRecDepth 20000 in
theorem gX10_tells_X10_isClaim : GoodIn wsX10_tells (va_wsS RX10 108 yX10_isClaim wsX10_isClaim) := goodIn_app (goodIn_of _ (by decide +kernel)) ggX10_tells_X10_isClaim
set_option maxRecDepth 20000 in
theorem ggX10_tells_X10_isNumber : GoodIn wsX10_tells wsX10_isNumber := goodIn_r _ [15, 10, 11, 8, 12] (by decide +kernel) (by decide +kernel)
set_option maxRecDepth 20000 in
theorem gX10_tells_X10_isNumber : GoodIn wsX10_tells (va_wsS RX10 73 yX10_isNumber wsX10_isNumber) := goodIn_app (goodIn_of _ (by decide +kernel)) ggX10_tells_X10_isNumber
set_option maxRecDepth 20000 in
theorem ggX10_tells_X10_within : GoodIn wsX10_tells wsX10_within := goodIn_r _ [12] (by decide +kernel) (by decide +kernel)
set_option maxRecDepth 20000 in
theorem gX10_tells_X10_within : GoodIn wsX10_tells (va_wsS RX10 69 yX10_within wsX10_within) := goodIn_app (goodIn_of _ (by decide +kernel)) ggX10_tells_X10_within
set_option maxRecDepth 20000 in
theorem ggX10_tells_X10_begins : GoodIn wsX10_tells wsX10_begins := goodIn_r _ [19, 1, 20, 57, 58, 59, 60, 61, 62, 63, 64, 65, 66, 67, 68, 69, 70, 71, 72, 73, 74, 75, 76] (by decide +kernel) (by decide +kernel)
set_option maxRecDepth 20000 in
theorem gX10_tells_X10_begins : GoodIn wsX10_tells (wsV RX10 119 RX10 yX10_begins wsX10_begins) := goodIn_app (goodIn_of _ (by decide +kernel)) ggX10_tells_X10_begins
set_option maxRecDepth 20000 in
theorem ggX10_tells_X10_stateOf : GoodIn wsX10_tells wsX10_stateOf := goodIn_r _ [24, 20, 1, 3, 57, 58, 59, 60, 61, 62, 63, 64, 65, 66, 67, 68, 69, 70, 71, 72, 73, 74, 75, 76] (by decide +kernel) (by decide +kernel)
set_option maxRecDepth 20000 in
theorem gX10_tells_X10_stateOf : GoodIn wsX10_tells (wsV RX10 122 RX10 yX10_stateOf wsX10_stateOf) := goodIn_app (goodIn_of _ (by decide +kernel)) ggX10_tells_X10_stateOf
set_option maxRecDepth 20000 in
theorem ggX10_tells_X10_digit : GoodIn wsX10_tells wsX10_digit := goodIn_r _ [27] (by decide +kernel) (by decide +kernel)
set_option maxRecDepth 20000 in
theorem gX10_tells_X10_digit : GoodIn wsX10_tells (va_wsS RX10 96 yX10_digit wsX10_digit) := goodIn_app (goodIn_of _ (by decide +kernel)) ggX10_tells_X10_digit
set_option maxRecDepth 20000 in
theorem ggX10_tells_X10_leads : GoodIn wsX10_tells wsX10_leads := goodIn_r _ [31, 32, 57, 58, 59, 60, 61, 62, 63, 64, 65, 66, 67, 68, 69, 70, 71, 72, 73, 74, 75, 76] (by decide +kernel) (by decide +kernel)
set_option maxRecDepth 20000 in
theorem gX10_tells_X10_leads : GoodIn wsX10_tells (wsV RX10 100 RX10 yX10_leads wsX10_leads) := goodIn_app (goodIn_of _ (by decide +kernel)) ggX10_tells_X10_leads
set_option maxRecDepth 20000 in
theorem ggX10_tells_X10_comes : GoodIn wsX10_tells wsX10_comes := goodIn_r _ [36, 37, 38, 39, 40, 8, 41, 1, 42, 4, 43, 44, 45, 32, 46, 47, 48, 49, 50, 51, 52, 53, 54, 55, 56, 57, 58, 59, 60, 61, 62, 63, 64, 65, 66, 67, 68, 69, 70, 71, 72, 73, 74, 75, 76] (by decide +kernel) (by decide +kernel)
set_option maxRecDepth 20000 in
theorem gX10_tells_X10_comes : GoodIn wsX10_tells (wsV RX10 104 RX10 yX10_comes wsX10_comes) := goodIn_app (goodIn_of _ (by decide +kernel)) ggX10_tells_X10_comes
theorem dX10_tells_0 : decode cX10_tells 0 = .ok (.iload_n 1, 1) := by decide +kernel
theorem dX10_tells_1 : decode cX10_tells 1 = .ok (.invokestatic 108, 3) := by decide +kernel
theorem dX10_tells_4 : decode cX10_tells 4 = .ok (.ifCond .eq 10, 3) := by decide +kernel
theorem dX10_tells_7 : decode cX10_tells 7 = .ok (.iload_n 2, 1) := by decide +kernel
theorem dX10_tells_8 : decode cX10_tells 8 = .ok (.invokestatic 73, 3) := by decide +kernel
theorem dX10_tells_11 : decode cX10_tells 11 = .ok (.ifCond .ne 5, 3) := by decide +kernel
theorem dX10_tells_14 : decode cX10_tells 14 = .ok (.iconst (-1), 1) := by decide +kernel
theorem dX10_tells_15 : decode cX10_tells 15 = .ok (.ireturn, 1) := by decide +kernel
theorem dX10_tells_16 : decode cX10_tells 16 = .ok (.iload_n 3, 1) := by decide +kernel
theorem dX10_tells_17 : decode cX10_tells 17 = .ok (.iconst 0, 1) := by decide +kernel
theorem dX10_tells_18 : decode cX10_tells 18 = .ok (.iconst 2, 1) := by decide +kernel
theorem dX10_tells_19 : decode cX10_tells 19 = .ok (.invokestatic 69, 3) := by decide +kernel
theorem dX10_tells_22 : decode cX10_tells 22 = .ok (.ifCond .ne 6, 3) := by decide +kernel
theorem dX10_tells_25 : decode cX10_tells 25 = .ok (.bipush (-2), 2) := by decide +kernel
theorem dX10_tells_27 : decode cX10_tells 27 = .ok (.ireturn, 1) := by decide +kernel
theorem dX10_tells_28 : decode cX10_tells 28 = .ok (.aload_n 0, 1) := by decide +kernel
theorem dX10_tells_29 : decode cX10_tells 29 = .ok (.invokevirtual 119, 3) := by decide +kernel
theorem dX10_tells_32 : decode cX10_tells 32 = .ok (.aload_n 0, 1) := by decide +kernel
theorem dX10_tells_33 : decode cX10_tells 33 = .ok (.iconst 0, 1) := by decide +kernel
theorem dX10_tells_34 : decode cX10_tells 34 = .ok (.invokevirtual 122, 3) := by decide +kernel
theorem dX10_tells_37 : decode cX10_tells 37 = .ok (.pop, 1) := by decide +kernel
theorem dX10_tells_38 : decode cX10_tells 38 = .ok (.iconst 0, 1) := by decide +kernel
theorem dX10_tells_39 : decode cX10_tells 39 = .ok (.istore 4, 2) := by decide +kernel
theorem dX10_tells_41 : decode cX10_tells 41 = .ok (.iload 4, 2) := by decide +kernel
theorem dX10_tells_43 : decode cX10_tells 43 = .ok (.aload_n 0, 1) := by decide +kernel
theorem dX10_tells_44 : decode cX10_tells 44 = .ok (.getfield 81, 3) := by decide +kernel
theorem dX10_tells_47 : decode cX10_tells 47 = .ok (.if_icmp .ge 86, 3) := by decide +kernel
theorem dX10_tells_50 : decode cX10_tells 50 = .ok (.iconst 0, 1) := by decide +kernel
theorem dX10_tells_51 : decode cX10_tells 51 = .ok (.istore 5, 2) := by decide +kernel
theorem dX10_tells_53 : decode cX10_tells 53 = .ok (.iload 5, 2) := by decide +kernel
theorem dX10_tells_55 : decode cX10_tells 55 = .ok (.bipush 8, 2) := by decide +kernel
theorem dX10_tells_57 : decode cX10_tells 57 = .ok (.if_icmp .ge 42, 3) := by decide +kernel
theorem dX10_tells_60 : decode cX10_tells 60 = .ok (.aload_n 0, 1) := by decide +kernel
theorem dX10_tells_61 : decode cX10_tells 61 = .ok (.iload 4, 2) := by decide +kernel
theorem dX10_tells_63 : decode cX10_tells 63 = .ok (.iload 5, 2) := by decide +kernel
theorem dX10_tells_65 : decode cX10_tells 65 = .ok (.aload_n 0, 1) := by decide +kernel
theorem dX10_tells_66 : decode cX10_tells 66 = .ok (.aload_n 0, 1) := by decide +kernel
theorem dX10_tells_67 : decode cX10_tells 67 = .ok (.getfield 7, 3) := by decide +kernel
theorem dX10_tells_70 : decode cX10_tells 70 = .ok (.iconst 2, 1) := by decide +kernel
theorem dX10_tells_71 : decode cX10_tells 71 = .ok (.aload_n 0, 1) := by decide +kernel
theorem dX10_tells_72 : decode cX10_tells 72 = .ok (.getfield 26, 3) := by decide +kernel
theorem dX10_tells_75 : decode cX10_tells 75 = .ok (.iload 4, 2) := by decide +kernel
theorem dX10_tells_77 : decode cX10_tells 77 = .ok (.iaload, 1) := by decide +kernel
theorem dX10_tells_78 : decode cX10_tells 78 = .ok (.imul, 1) := by decide +kernel
theorem dX10_tells_79 : decode cX10_tells 79 = .ok (.iload 5, 2) := by decide +kernel
theorem dX10_tells_81 : decode cX10_tells 81 = .ok (.iload_n 2, 1) := by decide +kernel
theorem dX10_tells_82 : decode cX10_tells 82 = .ok (.invokestatic 96, 3) := by decide +kernel
theorem dX10_tells_85 : decode cX10_tells 85 = .ok (.iadd, 1) := by decide +kernel
theorem dX10_tells_86 : decode cX10_tells 86 = .ok (.iaload, 1) := by decide +kernel
theorem dX10_tells_87 : decode cX10_tells 87 = .ok (.invokevirtual 122, 3) := by decide +kernel
theorem dX10_tells_90 : decode cX10_tells 90 = .ok (.invokevirtual 100, 3) := by decide +kernel
theorem dX10_tells_93 : decode cX10_tells 93 = .ok (.iinc 5 1, 3) := by decide +kernel
theorem dX10_tells_96 : decode cX10_tells 96 = .ok (.goto (-43), 3) := by decide +kernel
theorem dX10_tells_99 : decode cX10_tells 99 = .ok (.aload_n 0, 1) := by decide +kernel
theorem dX10_tells_100 : decode cX10_tells 100 = .ok (.getfield 32, 3) := by decide +kernel
theorem dX10_tells_103 : decode cX10_tells 103 = .ok (.iload 4, 2) := by decide +kernel
theorem dX10_tells_105 : decode cX10_tells 105 = .ok (.aload_n 0, 1) := by decide +kernel
theorem dX10_tells_106 : decode cX10_tells 106 = .ok (.getfield 13, 3) := by decide +kernel
theorem dX10_tells_109 : decode cX10_tells 109 = .ok (.aload_n 0, 1) := by decide +kernel
theorem dX10_tells_110 : decode cX10_tells 110 = .ok (.getfield 26, 3) := by decide +kernel
theorem dX10_tells_113 : decode cX10_tells 113 = .ok (.iload 4, 2) := by decide +kernel
theorem dX10_tells_115 : decode cX10_tells 115 = .ok (.iaload, 1) := by decide +kernel
theorem dX10_tells_116 : decode cX10_tells 116 = .ok (.iaload, 1) := by decide +kernel
theorem dX10_tells_117 : decode cX10_tells 117 = .ok (.iload_n 3, 1) := by decide +kernel
theorem dX10_tells_118 : decode cX10_tells 118 = .ok (.if_icmp .ne 7, 3) := by decide +kernel
theorem dX10_tells_121 : decode cX10_tells 121 = .ok (.iconst 1, 1) := by decide +kernel
theorem dX10_tells_122 : decode cX10_tells 122 = .ok (.goto 4, 3) := by decide +kernel
theorem dX10_tells_125 : decode cX10_tells 125 = .ok (.iconst 0, 1) := by decide +kernel
theorem dX10_tells_126 : decode cX10_tells 126 = .ok (.bastore, 1) := by decide +kernel
theorem dX10_tells_127 : decode cX10_tells 127 = .ok (.iinc 4 1, 3) := by decide +kernel
theorem dX10_tells_130 : decode cX10_tells 130 = .ok (.goto (-89), 3) := by decide +kernel
theorem dX10_tells_133 : decode cX10_tells 133 = .ok (.aload_n 0, 1) := by decide +kernel
theorem dX10_tells_134 : decode cX10_tells 134 = .ok (.iload_n 1, 1) := by decide +kernel
theorem dX10_tells_135 : decode cX10_tells 135 = .ok (.invokevirtual 104, 3) := by decide +kernel
theorem dX10_tells_138 : decode cX10_tells 138 = .ok (.ireturn, 1) := by decide +kernel
set_option maxRecDepth 20000 in
theorem ggX10_alike_X10_isClaim : GoodIn wsX10_alike wsX10_isClaim := goodIn_r _ [9, 10, 11, 8, 12] (by decide +kernel) (by decide +kernel)
set_option maxRecDepth 20000 in
theorem gX10_alike_X10_isClaim : GoodIn wsX10_alike (va_wsS RX10 108 yX10_isClaim wsX10_isClaim) := goodIn_app (goodIn_of _ (by decide +kernel)) ggX10_alike_X10_isClaim
set_option maxRecDepth 20000 in
theorem ggX10_alike_X10_areTwo : GoodIn wsX10_alike wsX10_areTwo := goodIn_r _ [15, 16, 17, 8, 18, 10, 11, 12] (by decide +kernel) (by decide +kernel)
set_option maxRecDepth 20000 in
theorem gX10_alike_X10_areTwo : GoodIn wsX10_alike (va_wsS RX10 111 yX10_areTwo wsX10_areTwo) := goodIn_app (goodIn_of _ (by decide +kernel)) ggX10_alike_X10_areTwo
set_option maxRecDepth 20000 in
theorem ggX10_alike_X10_begins : GoodIn wsX10_alike wsX10_begins := goodIn_r _ [22, 1, 23, 60, 61, 62, 63, 64, 65, 66, 67, 68, 69, 70, 71, 72, 73, 74, 75, 76, 77, 78, 79] (by decide +kernel) (by decide +kernel)
set_option maxRecDepth 20000 in
theorem gX10_alike_X10_begins : GoodIn wsX10_alike (wsV RX10 119 RX10 yX10_begins wsX10_begins) := goodIn_app (goodIn_of _ (by decide +kernel)) ggX10_alike_X10_begins
set_option maxRecDepth 20000 in
theorem ggX10_alike_X10_stateOf : GoodIn wsX10_alike wsX10_stateOf := goodIn_r _ [27, 23, 1, 2, 60, 61, 62, 63, 64, 65, 66, 67, 68, 69, 70, 71, 72, 73, 74, 75, 76, 77, 78, 79] (by decide +kernel) (by decide +kernel)
set_option maxRecDepth 20000 in
theorem gX10_alike_X10_stateOf : GoodIn wsX10_alike (wsV RX10 122 RX10 yX10_stateOf wsX10_stateOf) := goodIn_app (goodIn_of _ (by decide +kernel)) ggX10_alike_X10_stateOf
set_option maxRecDepth 20000 in
theorem ggX10_alike_X10_digit : GoodIn wsX10_alike wsX10_digit := goodIn_r _ [30] (by decide +kernel) (by decide +kernel)
set_option maxRecDepth 20000 in
theorem gX10_alike_X10_digit : GoodIn wsX10_alike (va_wsS RX10 96 yX10_digit wsX10_digit) := goodIn_app (goodIn_of _ (by decide +kernel)) ggX10_alike_X10_digit
set_option maxRecDepth 20000 in
theorem ggX10_alike_X10_leads : GoodIn wsX10_alike wsX10_leads := goodIn_r _ [34, 35, 60, 61, 62, 63, 64, 65, 66, 67, 68, 69, 70, 71, 72, 73, 74, 75, 76, 77, 78, 79] (by decide +kernel) (by decide +kernel)
set_option maxRecDepth 20000 in
theorem gX10_alike_X10_leads : GoodIn wsX10_alike (wsV RX10 100 RX10 yX10_leads wsX10_leads) := goodIn_app (goodIn_of _ (by decide +kernel)) ggX10_alike_X10_leads
set_option maxRecDepth 20000 in
theorem ggX10_alike_X10_comes : GoodIn wsX10_alike wsX10_comes := goodIn_r _ [39, 40, 41, 42, 43, 8, 44, 1, 45, 4, 46, 47, 48, 35, 49, 50, 51, 52, 53, 54, 55, 56, 57, 58, 59, 60, 61, 62, 63, 64, 65, 66, 67, 68, 69, 70, 71, 72, 73, 74, 75, 76, 77, 78, 79] (by decide +kernel) (by decide +kernel)
set_option maxRecDepth 20000 in
theorem gX10_alike_X10_comes : GoodIn wsX10_alike (wsV RX10 104 RX10 yX10_comes wsX10_comes) := goodIn_app (goodIn_of _ (by decide +kernel)) ggX10_alike_X10_comes
theorem dX10_alike_0 : decode cX10_alike 0 = .ok (.iload_n 1, 1) := by decide +kernel
theorem dX10_alike_1 : decode cX10_alike 1 = .ok (.invokestatic 108, 3) := by decide +kernel
theorem dX10_alike_4 : decode cX10_alike 4 = .ok (.ifCond .eq 11, 3) := by decide +kernel
theorem dX10_alike_7 : decode cX10_alike 7 = .ok (.iload_n 2, 1) := by decide +kernel
theorem dX10_alike_8 : decode cX10_alike 8 = .ok (.iload_n 3, 1) := by decide +kernel
theorem dX10_alike_9 : decode cX10_alike 9 = .ok (.invokestatic 111, 3) := by decide +kernel
theorem dX10_alike_12 : decode cX10_alike 12 = .ok (.ifCond .ne 5, 3) := by decide +kernel
theorem dX10_alike_15 : decode cX10_alike 15 = .ok (.iconst (-1), 1) := by decide +kernel
theorem dX10_alike_16 : decode cX10_alike 16 = .ok (.ireturn, 1) := by decide +kernel
theorem dX10_alike_17 : decode cX10_alike 17 = .ok (.aload_n 0, 1) := by decide +kernel
theorem dX10_alike_18 : decode cX10_alike 18 = .ok (.invokevirtual 119, 3) := by decide +kernel
theorem dX10_alike_21 : decode cX10_alike 21 = .ok (.aload_n 0, 1) := by decide +kernel
theorem dX10_alike_22 : decode cX10_alike 22 = .ok (.iconst 0, 1) := by decide +kernel
theorem dX10_alike_23 : decode cX10_alike 23 = .ok (.invokevirtual 122, 3) := by decide +kernel
theorem dX10_alike_26 : decode cX10_alike 26 = .ok (.pop, 1) := by decide +kernel
theorem dX10_alike_27 : decode cX10_alike 27 = .ok (.iconst 0, 1) := by decide +kernel
theorem dX10_alike_28 : decode cX10_alike 28 = .ok (.istore 4, 2) := by decide +kernel
theorem dX10_alike_30 : decode cX10_alike 30 = .ok (.iload 4, 2) := by decide +kernel
theorem dX10_alike_32 : decode cX10_alike 32 = .ok (.aload_n 0, 1) := by decide +kernel
theorem dX10_alike_33 : decode cX10_alike 33 = .ok (.getfield 81, 3) := by decide +kernel
theorem dX10_alike_36 : decode cX10_alike 36 = .ok (.if_icmp .ge 123, 3) := by decide +kernel
theorem dX10_alike_39 : decode cX10_alike 39 = .ok (.aload_n 0, 1) := by decide +kernel
theorem dX10_alike_40 : decode cX10_alike 40 = .ok (.getfield 26, 3) := by decide +kernel
theorem dX10_alike_43 : decode cX10_alike 43 = .ok (.iload 4, 2) := by decide +kernel
theorem dX10_alike_45 : decode cX10_alike 45 = .ok (.iaload, 1) := by decide +kernel
theorem dX10_alike_46 : decode cX10_alike 46 = .ok (.iconst 5, 1) := by decide +kernel
theorem dX10_alike_47 : decode cX10_alike 47 = .ok (.idiv, 1) := by decide +kernel
theorem dX10_alike_48 : decode cX10_alike 48 = .ok (.istore 5, 2) := by decide +kernel
theorem dX10_alike_50 : decode cX10_alike 50 = .ok (.aload_n 0, 1) := by decide +kernel
theorem dX10_alike_51 : decode cX10_alike 51 = .ok (.getfield 26, 3) := by decide +kernel
theorem dX10_alike_54 : decode cX10_alike 54 = .ok (.iload 4, 2) := by decide +kernel
theorem dX10_alike_56 : decode cX10_alike 56 = .ok (.iaload, 1) := by decide +kernel
theorem dX10_alike_57 : decode cX10_alike 57 = .ok (.iconst 5, 1) := by decide +kernel
theorem dX10_alike_58 : decode cX10_alike 58 = .ok (.irem, 1) := by decide +kernel
theorem dX10_alike_59 : decode cX10_alike 59 = .ok (.istore 6, 2) := by decide +kernel
theorem dX10_alike_61 : decode cX10_alike 61 = .ok (.iconst 0, 1) := by decide +kernel
theorem dX10_alike_62 : decode cX10_alike 62 = .ok (.istore 7, 2) := by decide +kernel
theorem dX10_alike_64 : decode cX10_alike 64 = .ok (.iload 7, 2) := by decide +kernel
theorem dX10_alike_66 : decode cX10_alike 66 = .ok (.bipush 8, 2) := by decide +kernel
theorem dX10_alike_68 : decode cX10_alike 68 = .ok (.if_icmp .ge 56, 3) := by decide +kernel
theorem dX10_alike_71 : decode cX10_alike 71 = .ok (.aload_n 0, 1) := by decide +kernel
theorem dX10_alike_72 : decode cX10_alike 72 = .ok (.iload 4, 2) := by decide +kernel
theorem dX10_alike_74 : decode cX10_alike 74 = .ok (.iload 7, 2) := by decide +kernel
theorem dX10_alike_76 : decode cX10_alike 76 = .ok (.aload_n 0, 1) := by decide +kernel
theorem dX10_alike_77 : decode cX10_alike 77 = .ok (.iconst 5, 1) := by decide +kernel
theorem dX10_alike_78 : decode cX10_alike 78 = .ok (.aload_n 0, 1) := by decide +kernel
theorem dX10_alike_79 : decode cX10_alike 79 = .ok (.getfield 7, 3) := by decide +kernel
theorem dX10_alike_82 : decode cX10_alike 82 = .ok (.iconst 2, 1) := by decide +kernel
theorem dX10_alike_83 : decode cX10_alike 83 = .ok (.iload 5, 2) := by decide +kernel
theorem dX10_alike_85 : decode cX10_alike 85 = .ok (.imul, 1) := by decide +kernel
theorem dX10_alike_86 : decode cX10_alike 86 = .ok (.iload 7, 2) := by decide +kernel
theorem dX10_alike_88 : decode cX10_alike 88 = .ok (.iload_n 2, 1) := by decide +kernel
theorem dX10_alike_89 : decode cX10_alike 89 = .ok (.invokestatic 96, 3) := by decide +kernel
theorem dX10_alike_92 : decode cX10_alike 92 = .ok (.iadd, 1) := by decide +kernel
theorem dX10_alike_93 : decode cX10_alike 93 = .ok (.iaload, 1) := by decide +kernel
theorem dX10_alike_94 : decode cX10_alike 94 = .ok (.imul, 1) := by decide +kernel
theorem dX10_alike_95 : decode cX10_alike 95 = .ok (.aload_n 0, 1) := by decide +kernel
theorem dX10_alike_96 : decode cX10_alike 96 = .ok (.getfield 7, 3) := by decide +kernel
theorem dX10_alike_99 : decode cX10_alike 99 = .ok (.iconst 2, 1) := by decide +kernel
theorem dX10_alike_100 : decode cX10_alike 100 = .ok (.iload 6, 2) := by decide +kernel
theorem dX10_alike_102 : decode cX10_alike 102 = .ok (.imul, 1) := by decide +kernel
theorem dX10_alike_103 : decode cX10_alike 103 = .ok (.iload 7, 2) := by decide +kernel
theorem dX10_alike_105 : decode cX10_alike 105 = .ok (.iload_n 3, 1) := by decide +kernel
theorem dX10_alike_106 : decode cX10_alike 106 = .ok (.invokestatic 96, 3) := by decide +kernel
theorem dX10_alike_109 : decode cX10_alike 109 = .ok (.iadd, 1) := by decide +kernel
theorem dX10_alike_110 : decode cX10_alike 110 = .ok (.iaload, 1) := by decide +kernel
theorem dX10_alike_111 : decode cX10_alike 111 = .ok (.iadd, 1) := by decide +kernel
theorem dX10_alike_112 : decode cX10_alike 112 = .ok (.invokevirtual 122, 3) := by decide +kernel
theorem dX10_alike_115 : decode cX10_alike 115 = .ok (.invokevirtual 100, 3) := by decide +kernel
theorem dX10_alike_118 : decode cX10_alike 118 = .ok (.iinc 7 1, 3) := by decide +kernel
theorem dX10_alike_121 : decode cX10_alike 121 = .ok (.goto (-57), 3) := by decide +kernel
theorem dX10_alike_124 : decode cX10_alike 124 = .ok (.aload_n 0, 1) := by decide +kernel
theorem dX10_alike_125 : decode cX10_alike 125 = .ok (.getfield 32, 3) := by decide +kernel
theorem dX10_alike_128 : decode cX10_alike 128 = .ok (.iload 4, 2) := by decide +kernel
theorem dX10_alike_130 : decode cX10_alike 130 = .ok (.aload_n 0, 1) := by decide +kernel
theorem dX10_alike_131 : decode cX10_alike 131 = .ok (.getfield 13, 3) := by decide +kernel
theorem dX10_alike_134 : decode cX10_alike 134 = .ok (.iload 5, 2) := by decide +kernel
theorem dX10_alike_136 : decode cX10_alike 136 = .ok (.iaload, 1) := by decide +kernel
theorem dX10_alike_137 : decode cX10_alike 137 = .ok (.aload_n 0, 1) := by decide +kernel
theorem dX10_alike_138 : decode cX10_alike 138 = .ok (.getfield 13, 3) := by decide +kernel
theorem dX10_alike_141 : decode cX10_alike 141 = .ok (.iload 6, 2) := by decide +kernel
theorem dX10_alike_143 : decode cX10_alike 143 = .ok (.iaload, 1) := by decide +kernel
theorem dX10_alike_144 : decode cX10_alike 144 = .ok (.if_icmp .ne 7, 3) := by decide +kernel
theorem dX10_alike_147 : decode cX10_alike 147 = .ok (.iconst 1, 1) := by decide +kernel
theorem dX10_alike_148 : decode cX10_alike 148 = .ok (.goto 4, 3) := by decide +kernel
theorem dX10_alike_151 : decode cX10_alike 151 = .ok (.iconst 0, 1) := by decide +kernel
theorem dX10_alike_152 : decode cX10_alike 152 = .ok (.bastore, 1) := by decide +kernel
theorem dX10_alike_153 : decode cX10_alike 153 = .ok (.iinc 4 1, 3) := by decide +kernel
theorem dX10_alike_156 : decode cX10_alike 156 = .ok (.goto (-126), 3) := by decide +kernel
theorem dX10_alike_159 : decode cX10_alike 159 = .ok (.aload_n 0, 1) := by decide +kernel
theorem dX10_alike_160 : decode cX10_alike 160 = .ok (.iload_n 1, 1) := by decide +kernel
theorem dX10_alike_161 : decode cX10_alike 161 = .ok (.invokevirtual 104, 3) := by decide +kernel
theorem dX10_alike_164 : decode cX10_alike 164 = .ok (.ireturn, 1) := by decide +kernel
theorem dX10_isThere_0 : decode cX10_isThere 0 = .ok (.aload_n 0, 1) := by decide +kernel
theorem dX10_isThere_1 : decode cX10_isThere 1 = .ok (.getfield 16, 3) := by decide +kernel
theorem dX10_isThere_4 : decode cX10_isThere 4 = .ok (.iload_n 1, 1) := by decide +kernel
theorem dX10_isThere_5 : decode cX10_isThere 5 = .ok (.iaload, 1) := by decide +kernel
theorem dX10_isThere_6 : decode cX10_isThere 6 = .ok (.ifCond .le 7, 3) := by decide +kernel
theorem dX10_isThere_9 : decode cX10_isThere 9 = .ok (.iconst 1, 1) := by decide +kernel
theorem dX10_isThere_10 : decode cX10_isThere 10 = .ok (.goto 4, 3) := by decide +kernel
theorem dX10_isThere_13 : decode cX10_isThere 13 = .ok (.iconst 0, 1) := by decide +kernel
theorem dX10_isThere_14 : decode cX10_isThere 14 = .ok (.ireturn, 1) := by decide +kernel
set_option maxRecDepth 20000 in
theorem ggX10_joinsTwo_X10_begins : GoodIn wsX10_joinsTwo wsX10_begins := goodIn_r _ [8, 1, 9, 51, 52, 53, 54, 55, 56, 57, 58, 59, 60, 61, 62, 63, 64, 65, 66, 67, 68, 69, 70] (by decide +kernel) (by decide +kernel)
set_option maxRecDepth 20000 in
theorem gX10_joinsTwo_X10_begins : GoodIn wsX10_joinsTwo (wsV RX10 119 RX10 yX10_begins wsX10_begins) := goodIn_app (goodIn_of _ (by decide +kernel)) ggX10_joinsTwo_X10_begins
set_option maxRecDepth 20000 in
theorem ggX10_joinsTwo_X10_stateOf : GoodIn wsX10_joinsTwo wsX10_stateOf := goodIn_r _ [13, 9, 1, 2, 51, 52, 53, 54, 55, 56, 57, 58, 59, 60, 61, 62, 63, 64, 65, 66, 67, 68, 69, 70] (by decide +kernel) (by decide +kernel)
set_option maxRecDepth 20000 in
theorem gX10_joinsTwo_X10_stateOf : GoodIn wsX10_joinsTwo (wsV RX10 122 RX10 yX10_stateOf wsX10_stateOf) := goodIn_app (goodIn_of _ (by decide +kernel)) ggX10_joinsTwo_X10_stateOf
set_option maxRecDepth 20000 in
theorem ggX10_joinsTwo_X10_next : GoodIn wsX10_joinsTwo wsX10_next := goodIn_r _ [17, 18, 51, 52, 53, 54, 55, 56, 57, 58, 59, 60, 61, 62, 63, 64, 65, 66, 67, 68, 69, 70] (by decide +kernel) (by decide +kernel)
set_option maxRecDepth 20000 in
theorem gX10_joinsTwo_X10_next : GoodIn wsX10_joinsTwo (wsV RX10 125 RX10 yX10_next wsX10_next) := goodIn_app (goodIn_of _ (by decide +kernel)) ggX10_joinsTwo_X10_next
set_option maxRecDepth 20000 in
theorem ggX10_joinsTwo_X10_leads : GoodIn wsX10_joinsTwo wsX10_leads := goodIn_r _ [22, 23, 51, 52, 53, 54, 55, 56, 57, 58, 59, 60, 61, 62, 63, 64, 65, 66, 67, 68, 69, 70] (by decide +kernel) (by decide +kernel)
set_option maxRecDepth 20000 in
theorem gX10_joinsTwo_X10_leads : GoodIn wsX10_joinsTwo (wsV RX10 100 RX10 yX10_leads wsX10_leads) := goodIn_app (goodIn_of _ (by decide +kernel)) ggX10_joinsTwo_X10_leads
set_option maxRecDepth 20000 in
theorem ggX10_joinsTwo_X10_holdsIn : GoodIn wsX10_joinsTwo wsX10_holdsIn := goodIn_r _ [27, 28, 51, 52, 53, 54, 55, 56, 57, 58, 59, 60, 61, 62, 63, 64, 65, 66, 67, 68, 69, 70] (by decide +kernel) (by decide +kernel)
set_option maxRecDepth 20000 in
theorem gX10_joinsTwo_X10_holdsIn : GoodIn wsX10_joinsTwo (wsV RX10 129 RX10 yX10_holdsIn wsX10_holdsIn) := goodIn_app (goodIn_of _ (by decide +kernel)) ggX10_joinsTwo_X10_holdsIn
set_option maxRecDepth 20000 in
theorem ggX10_joinsTwo_X10_comes : GoodIn wsX10_joinsTwo wsX10_comes := goodIn_r _ [32, 33, 34, 35, 36, 7, 37, 1, 38, 3, 39, 40, 41, 23, 18, 28, 42, 43, 44, 45, 46, 47, 48, 49, 50, 51, 52, 53, 54, 55, 56, 57, 58, 59, 60, 61, 62, 63, 64, 65, 66, 67, 68, 69, 70] (by decide +kernel) (by decide +kernel)
set_option maxRecDepth 20000 in
theorem gX10_joinsTwo_X10_comes : GoodIn wsX10_joinsTwo (wsV RX10 104 RX10 yX10_comes wsX10_comes) := goodIn_app (goodIn_of _ (by decide +kernel)) ggX10_joinsTwo_X10_comes
theorem dX10_joinsTwo_0 : decode cX10_joinsTwo 0 = .ok (.aload_n 0, 1) := by decide +kernel
theorem dX10_joinsTwo_1 : decode cX10_joinsTwo 1 = .ok (.invokevirtual 119, 3) := by decide +kernel
theorem dX10_joinsTwo_4 : decode cX10_joinsTwo 4 = .ok (.aload_n 0, 1) := by decide +kernel
theorem dX10_joinsTwo_5 : decode cX10_joinsTwo 5 = .ok (.iconst 0, 1) := by decide +kernel
theorem dX10_joinsTwo_6 : decode cX10_joinsTwo 6 = .ok (.invokevirtual 122, 3) := by decide +kernel
theorem dX10_joinsTwo_9 : decode cX10_joinsTwo 9 = .ok (.pop, 1) := by decide +kernel
theorem dX10_joinsTwo_10 : decode cX10_joinsTwo 10 = .ok (.iconst 0, 1) := by decide +kernel
theorem dX10_joinsTwo_11 : decode cX10_joinsTwo 11 = .ok (.istore 5, 2) := by decide +kernel
theorem dX10_joinsTwo_13 : decode cX10_joinsTwo 13 = .ok (.iload 5, 2) := by decide +kernel
theorem dX10_joinsTwo_15 : decode cX10_joinsTwo 15 = .ok (.aload_n 0, 1) := by decide +kernel
theorem dX10_joinsTwo_16 : decode cX10_joinsTwo 16 = .ok (.getfield 81, 3) := by decide +kernel
theorem dX10_joinsTwo_19 : decode cX10_joinsTwo 19 = .ok (.if_icmp .ge 146, 3) := by decide +kernel
theorem dX10_joinsTwo_22 : decode cX10_joinsTwo 22 = .ok (.aload_n 0, 1) := by decide +kernel
theorem dX10_joinsTwo_23 : decode cX10_joinsTwo 23 = .ok (.getfield 26, 3) := by decide +kernel
theorem dX10_joinsTwo_26 : decode cX10_joinsTwo 26 = .ok (.iload 5, 2) := by decide +kernel
theorem dX10_joinsTwo_28 : decode cX10_joinsTwo 28 = .ok (.iaload, 1) := by decide +kernel
theorem dX10_joinsTwo_29 : decode cX10_joinsTwo 29 = .ok (.bipush 60, 2) := by decide +kernel
theorem dX10_joinsTwo_31 : decode cX10_joinsTwo 31 = .ok (.idiv, 1) := by decide +kernel
theorem dX10_joinsTwo_32 : decode cX10_joinsTwo 32 = .ok (.istore 6, 2) := by decide +kernel
theorem dX10_joinsTwo_34 : decode cX10_joinsTwo 34 = .ok (.aload_n 0, 1) := by decide +kernel
theorem dX10_joinsTwo_35 : decode cX10_joinsTwo 35 = .ok (.getfield 26, 3) := by decide +kernel
theorem dX10_joinsTwo_38 : decode cX10_joinsTwo 38 = .ok (.iload 5, 2) := by decide +kernel
theorem dX10_joinsTwo_40 : decode cX10_joinsTwo 40 = .ok (.iaload, 1) := by decide +kernel
theorem dX10_joinsTwo_41 : decode cX10_joinsTwo 41 = .ok (.bipush 60, 2) := by decide +kernel
theorem dX10_joinsTwo_43 : decode cX10_joinsTwo 43 = .ok (.irem, 1) := by decide +kernel
theorem dX10_joinsTwo_44 : decode cX10_joinsTwo 44 = .ok (.istore 7, 2) := by decide +kernel
theorem dX10_joinsTwo_46 : decode cX10_joinsTwo 46 = .ok (.iconst 0, 1) := by decide +kernel
theorem dX10_joinsTwo_47 : decode cX10_joinsTwo 47 = .ok (.istore 8, 2) := by decide +kernel
theorem dX10_joinsTwo_49 : decode cX10_joinsTwo 49 = .ok (.iload 8, 2) := by decide +kernel
theorem dX10_joinsTwo_51 : decode cX10_joinsTwo 51 = .ok (.bipush 8, 2) := by decide +kernel
theorem dX10_joinsTwo_53 : decode cX10_joinsTwo 53 = .ok (.if_icmp .ge 43, 3) := by decide +kernel
theorem dX10_joinsTwo_56 : decode cX10_joinsTwo 56 = .ok (.aload_n 0, 1) := by decide +kernel
theorem dX10_joinsTwo_57 : decode cX10_joinsTwo 57 = .ok (.iload 5, 2) := by decide +kernel
theorem dX10_joinsTwo_59 : decode cX10_joinsTwo 59 = .ok (.iload 8, 2) := by decide +kernel
theorem dX10_joinsTwo_61 : decode cX10_joinsTwo 61 = .ok (.aload_n 0, 1) := by decide +kernel
theorem dX10_joinsTwo_62 : decode cX10_joinsTwo 62 = .ok (.bipush 60, 2) := by decide +kernel
theorem dX10_joinsTwo_64 : decode cX10_joinsTwo 64 = .ok (.aload_n 0, 1) := by decide +kernel
theorem dX10_joinsTwo_65 : decode cX10_joinsTwo 65 = .ok (.iload_n 2, 1) := by decide +kernel
theorem dX10_joinsTwo_66 : decode cX10_joinsTwo 66 = .ok (.iload 6, 2) := by decide +kernel
theorem dX10_joinsTwo_68 : decode cX10_joinsTwo 68 = .ok (.iload 8, 2) := by decide +kernel
theorem dX10_joinsTwo_70 : decode cX10_joinsTwo 70 = .ok (.invokevirtual 125, 3) := by decide +kernel
theorem dX10_joinsTwo_73 : decode cX10_joinsTwo 73 = .ok (.imul, 1) := by decide +kernel
theorem dX10_joinsTwo_74 : decode cX10_joinsTwo 74 = .ok (.aload_n 0, 1) := by decide +kernel
theorem dX10_joinsTwo_75 : decode cX10_joinsTwo 75 = .ok (.iload_n 3, 1) := by decide +kernel
theorem dX10_joinsTwo_76 : decode cX10_joinsTwo 76 = .ok (.iload 7, 2) := by decide +kernel
theorem dX10_joinsTwo_78 : decode cX10_joinsTwo 78 = .ok (.iload 8, 2) := by decide +kernel
theorem dX10_joinsTwo_80 : decode cX10_joinsTwo 80 = .ok (.invokevirtual 125, 3) := by decide +kernel
theorem dX10_joinsTwo_83 : decode cX10_joinsTwo 83 = .ok (.iadd, 1) := by decide +kernel
theorem dX10_joinsTwo_84 : decode cX10_joinsTwo 84 = .ok (.invokevirtual 122, 3) := by decide +kernel
theorem dX10_joinsTwo_87 : decode cX10_joinsTwo 87 = .ok (.invokevirtual 100, 3) := by decide +kernel
theorem dX10_joinsTwo_90 : decode cX10_joinsTwo 90 = .ok (.iinc 8 1, 3) := by decide +kernel
theorem dX10_joinsTwo_93 : decode cX10_joinsTwo 93 = .ok (.goto (-44), 3) := by decide +kernel
theorem dX10_joinsTwo_96 : decode cX10_joinsTwo 96 = .ok (.aload_n 0, 1) := by decide +kernel
theorem dX10_joinsTwo_97 : decode cX10_joinsTwo 97 = .ok (.iload_n 2, 1) := by decide +kernel
theorem dX10_joinsTwo_98 : decode cX10_joinsTwo 98 = .ok (.iload 6, 2) := by decide +kernel
theorem dX10_joinsTwo_100 : decode cX10_joinsTwo 100 = .ok (.invokevirtual 129, 3) := by decide +kernel
theorem dX10_joinsTwo_103 : decode cX10_joinsTwo 103 = .ok (.istore 8, 2) := by decide +kernel
theorem dX10_joinsTwo_105 : decode cX10_joinsTwo 105 = .ok (.aload_n 0, 1) := by decide +kernel
theorem dX10_joinsTwo_106 : decode cX10_joinsTwo 106 = .ok (.iload_n 3, 1) := by decide +kernel
theorem dX10_joinsTwo_107 : decode cX10_joinsTwo 107 = .ok (.iload 7, 2) := by decide +kernel
theorem dX10_joinsTwo_109 : decode cX10_joinsTwo 109 = .ok (.invokevirtual 129, 3) := by decide +kernel
theorem dX10_joinsTwo_112 : decode cX10_joinsTwo 112 = .ok (.istore 9, 2) := by decide +kernel
theorem dX10_joinsTwo_114 : decode cX10_joinsTwo 114 = .ok (.aload_n 0, 1) := by decide +kernel
theorem dX10_joinsTwo_115 : decode cX10_joinsTwo 115 = .ok (.getfield 32, 3) := by decide +kernel
theorem dX10_joinsTwo_118 : decode cX10_joinsTwo 118 = .ok (.iload 5, 2) := by decide +kernel
theorem dX10_joinsTwo_120 : decode cX10_joinsTwo 120 = .ok (.iload 4, 2) := by decide +kernel
theorem dX10_joinsTwo_122 : decode cX10_joinsTwo 122 = .ok (.ifCond .eq 21, 3) := by decide +kernel
theorem dX10_joinsTwo_125 : decode cX10_joinsTwo 125 = .ok (.iload 8, 2) := by decide +kernel
theorem dX10_joinsTwo_127 : decode cX10_joinsTwo 127 = .ok (.ifCond .eq 12, 3) := by decide +kernel
theorem dX10_joinsTwo_130 : decode cX10_joinsTwo 130 = .ok (.iload 9, 2) := by decide +kernel
theorem dX10_joinsTwo_132 : decode cX10_joinsTwo 132 = .ok (.ifCond .eq 7, 3) := by decide +kernel
theorem dX10_joinsTwo_135 : decode cX10_joinsTwo 135 = .ok (.iconst 1, 1) := by decide +kernel
theorem dX10_joinsTwo_136 : decode cX10_joinsTwo 136 = .ok (.goto 22, 3) := by decide +kernel
theorem dX10_joinsTwo_139 : decode cX10_joinsTwo 139 = .ok (.iconst 0, 1) := by decide +kernel
theorem dX10_joinsTwo_140 : decode cX10_joinsTwo 140 = .ok (.goto 18, 3) := by decide +kernel
theorem dX10_joinsTwo_143 : decode cX10_joinsTwo 143 = .ok (.iload 8, 2) := by decide +kernel
theorem dX10_joinsTwo_145 : decode cX10_joinsTwo 145 = .ok (.ifCond .ne 8, 3) := by decide +kernel
theorem dX10_joinsTwo_148 : decode cX10_joinsTwo 148 = .ok (.iload 9, 2) := by decide +kernel
theorem dX10_joinsTwo_150 : decode cX10_joinsTwo 150 = .ok (.ifCond .eq 7, 3) := by decide +kernel
theorem dX10_joinsTwo_153 : decode cX10_joinsTwo 153 = .ok (.iconst 1, 1) := by decide +kernel
theorem dX10_joinsTwo_154 : decode cX10_joinsTwo 154 = .ok (.goto 4, 3) := by decide +kernel
theorem dX10_joinsTwo_157 : decode cX10_joinsTwo 157 = .ok (.iconst 0, 1) := by decide +kernel
theorem dX10_joinsTwo_158 : decode cX10_joinsTwo 158 = .ok (.bastore, 1) := by decide +kernel
theorem dX10_joinsTwo_159 : decode cX10_joinsTwo 159 = .ok (.iinc 5 1, 3) := by decide +kernel
theorem dX10_joinsTwo_162 : decode cX10_joinsTwo 162 = .ok (.goto (-149), 3) := by decide +kernel
theorem dX10_joinsTwo_165 : decode cX10_joinsTwo 165 = .ok (.aload_n 0, 1) := by decide +kernel
theorem dX10_joinsTwo_166 : decode cX10_joinsTwo 166 = .ok (.iload_n 1, 1) := by decide +kernel
theorem dX10_joinsTwo_167 : decode cX10_joinsTwo 167 = .ok (.invokevirtual 104, 3) := by decide +kernel
theorem dX10_joinsTwo_170 : decode cX10_joinsTwo 170 = .ok (.ireturn, 1) := by decide +kernel
set_option maxRecDepth 20000 in
theorem ggX10_both_X10_isClaim : GoodIn wsX10_both wsX10_isClaim := goodIn_r _ [4, 5, 6, 3, 7] (by decide +kernel) (by decide +kernel)
set_option maxRecDepth 20000 in
theorem gX10_both_X10_isClaim : GoodIn wsX10_both (va_wsS RX10 108 yX10_isClaim wsX10_isClaim) := goodIn_app (goodIn_of _ (by decide +kernel)) ggX10_both_X10_isClaim
set_option maxRecDepth 20000 in
theorem ggX10_both_X10_isThere : GoodIn wsX10_both wsX10_isThere := goodIn_r _ [11, 12, 65, 66, 67, 68, 69, 70, 71, 72, 73, 74, 75, 76, 77, 78, 79, 80, 81, 82, 83, 84] (by decide +kernel) (by decide +kernel)
set_option maxRecDepth 20000 in
theorem gX10_both_X10_isThere : GoodIn wsX10_both (wsV RX10 132 RX10 yX10_isThere wsX10_isThere) := goodIn_app (goodIn_of _ (by decide +kernel)) ggX10_both_X10_isThere
set_option maxRecDepth 20000 in
theorem ggX10_both_X10_joinsTwo : GoodIn wsX10_both wsX10_joinsTwo := goodIn_r _ [16, 17, 18, 19, 20, 21, 22, 3, 23, 24, 25, 26, 27, 28, 29, 30, 31, 32, 33, 34, 35, 36, 37, 38, 39, 40, 41, 42, 43, 44, 45, 46, 47, 12, 48, 49, 50, 51, 52, 53, 54, 55, 56, 57, 58, 59, 60, 61, 62, 63, 64, 65, 66, 67, 68, 69, 70, 71, 72, 73, 74, 75, 76, 77, 78, 79, 80, 81, 82, 83, 84] (by decide +kernel) (by decide +kernel)
set_option maxRecDepth 20000 in
theorem gX10_both_X10_joinsTwo : GoodIn wsX10_both (wsV RX10 135 RX10 yX10_joinsTwo wsX10_joinsTwo) := goodIn_app (goodIn_of _ (by decide +kernel)) ggX10_both_X10_joinsTwo
