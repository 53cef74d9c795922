theorem dX10_both_0 : decode cX10_both 0 = .ok (.iload_n 1, 1) := by decide +kernel
theorem dX10_both_1 : decode cX10_both 1 = .ok (.invokestatic 108, 3) := by decide +kernel
theorem dX10_both_4 : decode cX10_both 4 = .ok (.ifCond .eq 17, 3) := by decide +kernel
theorem dX10_both_7 : decode cX10_both 7 = .ok (.iload_n 2, 1) := by decide +kernel
theorem dX10_both_8 : decode cX10_both 8 = .ok (.invokestatic 108, 3) := by decide +kernel
theorem dX10_both_11 : decode cX10_both 11 = .ok (.ifCond .eq 10, 3) := by decide +kernel
theorem dX10_both_14 : decode cX10_both 14 = .ok (.iload_n 3, 1) := by decide +kernel
theorem dX10_both_15 : decode cX10_both 15 = .ok (.invokestatic 108, 3) := by decide +kernel
theorem dX10_both_18 : decode cX10_both 18 = .ok (.ifCond .ne 5, 3) := by decide +kernel
theorem dX10_both_21 : decode cX10_both 21 = .ok (.iconst (-1), 1) := by decide +kernel
theorem dX10_both_22 : decode cX10_both 22 = .ok (.ireturn, 1) := by decide +kernel
theorem dX10_both_23 : decode cX10_both 23 = .ok (.aload_n 0, 1) := by decide +kernel
theorem dX10_both_24 : decode cX10_both 24 = .ok (.iload_n 2, 1) := by decide +kernel
theorem dX10_both_25 : decode cX10_both 25 = .ok (.invokevirtual 132, 3) := by decide +kernel
theorem dX10_both_28 : decode cX10_both 28 = .ok (.ifCond .eq 22, 3) := by decide +kernel
theorem dX10_both_31 : decode cX10_both 31 = .ok (.aload_n 0, 1) := by decide +kernel
theorem dX10_both_32 : decode cX10_both 32 = .ok (.iload_n 3, 1) := by decide +kernel
theorem dX10_both_33 : decode cX10_both 33 = .ok (.invokevirtual 132, 3) := by decide +kernel
theorem dX10_both_36 : decode cX10_both 36 = .ok (.ifCond .eq 14, 3) := by decide +kernel
theorem dX10_both_39 : decode cX10_both 39 = .ok (.aload_n 0, 1) := by decide +kernel
theorem dX10_both_40 : decode cX10_both 40 = .ok (.iload_n 1, 1) := by decide +kernel
theorem dX10_both_41 : decode cX10_both 41 = .ok (.iload_n 2, 1) := by decide +kernel
theorem dX10_both_42 : decode cX10_both 42 = .ok (.iload_n 3, 1) := by decide +kernel
theorem dX10_both_43 : decode cX10_both 43 = .ok (.iconst 1, 1) := by decide +kernel
theorem dX10_both_44 : decode cX10_both 44 = .ok (.invokevirtual 135, 3) := by decide +kernel
theorem dX10_both_47 : decode cX10_both 47 = .ok (.goto 5, 3) := by decide +kernel
theorem dX10_both_50 : decode cX10_both 50 = .ok (.bipush (-3), 2) := by decide +kernel
theorem dX10_both_52 : decode cX10_both 52 = .ok (.ireturn, 1) := by decide +kernel
set_option maxRecDepth 20000 in
theorem ggX10_either_X10_isClaim : GoodIn wsX10_either wsX10_isClaim := goodIn_r _ [4, 5, 6, 3, 7] (by decide +kernel) (by decide +kernel)
set_option maxRecDepth 20000 in
theorem gX10_either_X10_isClaim : GoodIn wsX10_either (va_wsS RX10 108 yX10_isClaim wsX10_isClaim) := goodIn_app (goodIn_of _ (by decide +kernel)) ggX10_either_X10_isClaim
set_option maxRecDepth 20000 in
theorem ggX10_either_X10_isThere : GoodIn wsX10_either wsX10_isThere := goodIn_r _ [11, 12, 65, 66, 67, 68, 69, 70, 71, 72, 73, 74, 75, 76, 77, 78, 79, 80, 81, 82, 83, 84] (by decide +kernel) (by decide +kernel)
set_option maxRecDepth 20000 in
theorem gX10_either_X10_isThere : GoodIn wsX10_either (wsV RX10 132 RX10 yX10_isThere wsX10_isThere) := goodIn_app (goodIn_of _ (by decide +kernel)) ggX10_either_X10_isThere
set_option maxRecDepth 20000 in
theorem ggX10_either_X10_joinsTwo : GoodIn wsX10_either wsX10_joinsTwo := goodIn_r _ [16, 17, 18, 19, 20, 21, 22, 3, 23, 24, 25, 26, 27, 28, 29, 30, 31, 32, 33, 34, 35, 36, 37, 38, 39, 40, 41, 42, 43, 44, 45, 46, 47, 12, 48, 49, 50, 51, 52, 53, 54, 55, 56, 57, 58, 59, 60, 61, 62, 63, 64, 65, 66, 67, 68, 69, 70, 71, 72, 73, 74, 75, 76, 77, 78, 79, 80, 81, 82, 83, 84] (by decide +kernel) (by decide +kernel)
set_option maxRecDepth 20000 in
theorem gX10_either_X10_joinsTwo : GoodIn wsX10_either (wsV RX10 135 RX10 yX10_joinsTwo wsX10_joinsTwo) := goodIn_app (goodIn_of _ (by decide +kernel)) ggX10_either_X10_joinsTwo
theorem dX10_either_0 : decode cX10_either 0 = .ok (.iload_n 1, 1) := by decide +kernel
theorem dX10_either_1 : decode cX10_either 1 = .ok (.invokestatic 108, 3) := by decide +kernel
theorem dX10_either_4 : decode cX10_either 4 = .ok (.ifCond .eq 17, 3) := by decide +kernel
theorem dX10_either_7 : decode cX10_either 7 = .ok (.iload_n 2, 1) := by decide +kernel
theorem dX10_either_8 : decode cX10_either 8 = .ok (.invokestatic 108, 3) := by decide +kernel
theorem dX10_either_11 : decode cX10_either 11 = .ok (.ifCond .eq 10, 3) := by decide +kernel
theorem dX10_either_14 : decode cX10_either 14 = .ok (.iload_n 3, 1) := by decide +kernel
theorem dX10_either_15 : decode cX10_either 15 = .ok (.invokestatic 108, 3) := by decide +kernel
theorem dX10_either_18 : decode cX10_either 18 = .ok (.ifCond .ne 5, 3) := by decide +kernel
theorem dX10_either_21 : decode cX10_either 21 = .ok (.iconst (-1), 1) := by decide +kernel
theorem dX10_either_22 : decode cX10_either 22 = .ok (.ireturn, 1) := by decide +kernel
theorem dX10_either_23 : decode cX10_either 23 = .ok (.aload_n 0, 1) := by decide +kernel
theorem dX10_either_24 : decode cX10_either 24 = .ok (.iload_n 2, 1) := by decide +kernel
theorem dX10_either_25 : decode cX10_either 25 = .ok (.invokevirtual 132, 3) := by decide +kernel
theorem dX10_either_28 : decode cX10_either 28 = .ok (.ifCond .eq 22, 3) := by decide +kernel
theorem dX10_either_31 : decode cX10_either 31 = .ok (.aload_n 0, 1) := by decide +kernel
theorem dX10_either_32 : decode cX10_either 32 = .ok (.iload_n 3, 1) := by decide +kernel
theorem dX10_either_33 : decode cX10_either 33 = .ok (.invokevirtual 132, 3) := by decide +kernel
theorem dX10_either_36 : decode cX10_either 36 = .ok (.ifCond .eq 14, 3) := by decide +kernel
theorem dX10_either_39 : decode cX10_either 39 = .ok (.aload_n 0, 1) := by decide +kernel
theorem dX10_either_40 : decode cX10_either 40 = .ok (.iload_n 1, 1) := by decide +kernel
theorem dX10_either_41 : decode cX10_either 41 = .ok (.iload_n 2, 1) := by decide +kernel
theorem dX10_either_42 : decode cX10_either 42 = .ok (.iload_n 3, 1) := by decide +kernel
theorem dX10_either_43 : decode cX10_either 43 = .ok (.iconst 0, 1) := by decide +kernel
theorem dX10_either_44 : decode cX10_either 44 = .ok (.invokevirtual 135, 3) := by decide +kernel
theorem dX10_either_47 : decode cX10_either 47 = .ok (.goto 5, 3) := by decide +kernel
theorem dX10_either_50 : decode cX10_either 50 = .ok (.bipush (-3), 2) := by decide +kernel
theorem dX10_either_52 : decode cX10_either 52 = .ok (.ireturn, 1) := by decide +kernel
set_option maxRecDepth 20000 in
theorem ggX10_copies_X10_digit : GoodIn wsX10_copies wsX10_digit := goodIn_r _ [7] (by decide +kernel) (by decide +kernel)
set_option maxRecDepth 20000 in
theorem gX10_copies_X10_digit : GoodIn wsX10_copies (va_wsS RX10 96 yX10_digit wsX10_digit) := goodIn_app (goodIn_of _ (by decide +kernel)) ggX10_copies_X10_digit
set_option maxRecDepth 20000 in
theorem ggX10_copies_X10_next : GoodIn wsX10_copies wsX10_next := goodIn_r _ [11, 12, 44, 45, 46, 47, 48, 49, 50, 51, 52, 53, 54, 55, 56, 57, 58, 59, 60, 61, 62, 63] (by decide +kernel) (by decide +kernel)
set_option maxRecDepth 20000 in
theorem gX10_copies_X10_next : GoodIn wsX10_copies (wsV RX10 125 RX10 yX10_next wsX10_next) := goodIn_app (goodIn_of _ (by decide +kernel)) ggX10_copies_X10_next
set_option maxRecDepth 20000 in
theorem ggX10_copies_X10_leads : GoodIn wsX10_copies wsX10_leads := goodIn_r _ [16, 17, 44, 45, 46, 47, 48, 49, 50, 51, 52, 53, 54, 55, 56, 57, 58, 59, 60, 61, 62, 63] (by decide +kernel) (by decide +kernel)
set_option maxRecDepth 20000 in
theorem gX10_copies_X10_leads : GoodIn wsX10_copies (wsV RX10 100 RX10 yX10_leads wsX10_leads) := goodIn_app (goodIn_of _ (by decide +kernel)) ggX10_copies_X10_leads
set_option maxRecDepth 20000 in
theorem ggX10_copies_X10_holdsIn : GoodIn wsX10_copies wsX10_holdsIn := goodIn_r _ [21, 22, 44, 45, 46, 47, 48, 49, 50, 51, 52, 53, 54, 55, 56, 57, 58, 59, 60, 61, 62, 63] (by decide +kernel) (by decide +kernel)
set_option maxRecDepth 20000 in
theorem gX10_copies_X10_holdsIn : GoodIn wsX10_copies (wsV RX10 129 RX10 yX10_holdsIn wsX10_holdsIn) := goodIn_app (goodIn_of _ (by decide +kernel)) ggX10_copies_X10_holdsIn
set_option maxRecDepth 20000 in
theorem ggX10_copies_X10_comes : GoodIn wsX10_copies wsX10_comes := goodIn_r _ [26, 1, 27, 28, 29, 6, 30, 2, 31, 3, 32, 33, 34, 17, 12, 22, 35, 36, 37, 38, 39, 40, 41, 42, 43, 44, 45, 46, 47, 48, 49, 50, 51, 52, 53, 54, 55, 56, 57, 58, 59, 60, 61, 62, 63] (by decide +kernel) (by decide +kernel)
set_option maxRecDepth 20000 in
theorem gX10_copies_X10_comes : GoodIn wsX10_copies (wsV RX10 104 RX10 yX10_comes wsX10_comes) := goodIn_app (goodIn_of _ (by decide +kernel)) ggX10_copies_X10_comes
theorem dX10_copies_0 : decode cX10_copies 0 = .ok (.aload_n 0, 1) := by decide +kernel
theorem dX10_copies_1 : decode cX10_copies 1 = .ok (.aload_n 0, 1) := by decide +kernel
theorem dX10_copies_2 : decode cX10_copies 2 = .ok (.getfield 16, 3) := by decide +kernel
theorem dX10_copies_5 : decode cX10_copies 5 = .ok (.iload_n 2, 1) := by decide +kernel
theorem dX10_copies_6 : decode cX10_copies 6 = .ok (.iaload, 1) := by decide +kernel
theorem dX10_copies_7 : decode cX10_copies 7 = .ok (.putfield 81, 3) := by decide +kernel
theorem dX10_copies_10 : decode cX10_copies 10 = .ok (.iconst 0, 1) := by decide +kernel
theorem dX10_copies_11 : decode cX10_copies 11 = .ok (.istore 6, 2) := by decide +kernel
theorem dX10_copies_13 : decode cX10_copies 13 = .ok (.iload 6, 2) := by decide +kernel
theorem dX10_copies_15 : decode cX10_copies 15 = .ok (.aload_n 0, 1) := by decide +kernel
theorem dX10_copies_16 : decode cX10_copies 16 = .ok (.getfield 81, 3) := by decide +kernel
theorem dX10_copies_19 : decode cX10_copies 19 = .ok (.if_icmp .ge 103, 3) := by decide +kernel
theorem dX10_copies_22 : decode cX10_copies 22 = .ok (.iconst 0, 1) := by decide +kernel
theorem dX10_copies_23 : decode cX10_copies 23 = .ok (.istore 7, 2) := by decide +kernel
theorem dX10_copies_25 : decode cX10_copies 25 = .ok (.iload 7, 2) := by decide +kernel
theorem dX10_copies_27 : decode cX10_copies 27 = .ok (.bipush 8, 2) := by decide +kernel
theorem dX10_copies_29 : decode cX10_copies 29 = .ok (.if_icmp .ge 63, 3) := by decide +kernel
theorem dX10_copies_32 : decode cX10_copies 32 = .ok (.iload 7, 2) := by decide +kernel
theorem dX10_copies_34 : decode cX10_copies 34 = .ok (.iconst 1, 1) := by decide +kernel
theorem dX10_copies_35 : decode cX10_copies 35 = .ok (.iload_n 3, 1) := by decide +kernel
theorem dX10_copies_36 : decode cX10_copies 36 = .ok (.ishl, 1) := by decide +kernel
theorem dX10_copies_37 : decode cX10_copies 37 = .ok (.iconst (-1), 1) := by decide +kernel
theorem dX10_copies_38 : decode cX10_copies 38 = .ok (.ixor, 1) := by decide +kernel
theorem dX10_copies_39 : decode cX10_copies 39 = .ok (.iand, 1) := by decide +kernel
theorem dX10_copies_40 : decode cX10_copies 40 = .ok (.iconst 1, 1) := by decide +kernel
theorem dX10_copies_41 : decode cX10_copies 41 = .ok (.iload 4, 2) := by decide +kernel
theorem dX10_copies_43 : decode cX10_copies 43 = .ok (.ishl, 1) := by decide +kernel
theorem dX10_copies_44 : decode cX10_copies 44 = .ok (.iconst (-1), 1) := by decide +kernel
theorem dX10_copies_45 : decode cX10_copies 45 = .ok (.ixor, 1) := by decide +kernel
theorem dX10_copies_46 : decode cX10_copies 46 = .ok (.iand, 1) := by decide +kernel
theorem dX10_copies_47 : decode cX10_copies 47 = .ok (.iload 7, 2) := by decide +kernel
theorem dX10_copies_49 : decode cX10_copies 49 = .ok (.iload_n 3, 1) := by decide +kernel
theorem dX10_copies_50 : decode cX10_copies 50 = .ok (.invokestatic 96, 3) := by decide +kernel
theorem dX10_copies_53 : decode cX10_copies 53 = .ok (.iload 4, 2) := by decide +kernel
theorem dX10_copies_55 : decode cX10_copies 55 = .ok (.ishl, 1) := by decide +kernel
theorem dX10_copies_56 : decode cX10_copies 56 = .ok (.ior, 1) := by decide +kernel
theorem dX10_copies_57 : decode cX10_copies 57 = .ok (.iload 7, 2) := by decide +kernel
theorem dX10_copies_59 : decode cX10_copies 59 = .ok (.iload 4, 2) := by decide +kernel
theorem dX10_copies_61 : decode cX10_copies 61 = .ok (.invokestatic 96, 3) := by decide +kernel
theorem dX10_copies_64 : decode cX10_copies 64 = .ok (.iload_n 3, 1) := by decide +kernel
theorem dX10_copies_65 : decode cX10_copies 65 = .ok (.ishl, 1) := by decide +kernel
theorem dX10_copies_66 : decode cX10_copies 66 = .ok (.ior, 1) := by decide +kernel
theorem dX10_copies_67 : decode cX10_copies 67 = .ok (.istore 8, 2) := by decide +kernel
theorem dX10_copies_69 : decode cX10_copies 69 = .ok (.aload_n 0, 1) := by decide +kernel
theorem dX10_copies_70 : decode cX10_copies 70 = .ok (.iload 6, 2) := by decide +kernel
theorem dX10_copies_72 : decode cX10_copies 72 = .ok (.iload 7, 2) := by decide +kernel
theorem dX10_copies_74 : decode cX10_copies 74 = .ok (.aload_n 0, 1) := by decide +kernel
theorem dX10_copies_75 : decode cX10_copies 75 = .ok (.iload_n 2, 1) := by decide +kernel
theorem dX10_copies_76 : decode cX10_copies 76 = .ok (.iload 6, 2) := by decide +kernel
theorem dX10_copies_78 : decode cX10_copies 78 = .ok (.iload 8, 2) := by decide +kernel
theorem dX10_copies_80 : decode cX10_copies 80 = .ok (.invokevirtual 125, 3) := by decide +kernel
theorem dX10_copies_83 : decode cX10_copies 83 = .ok (.invokevirtual 100, 3) := by decide +kernel
theorem dX10_copies_86 : decode cX10_copies 86 = .ok (.iinc 7 1, 3) := by decide +kernel
theorem dX10_copies_89 : decode cX10_copies 89 = .ok (.goto (-64), 3) := by decide +kernel
theorem dX10_copies_92 : decode cX10_copies 92 = .ok (.aload_n 0, 1) := by decide +kernel
theorem dX10_copies_93 : decode cX10_copies 93 = .ok (.getfield 32, 3) := by decide +kernel
theorem dX10_copies_96 : decode cX10_copies 96 = .ok (.iload 6, 2) := by decide +kernel
theorem dX10_copies_98 : decode cX10_copies 98 = .ok (.aload_n 0, 1) := by decide +kernel
theorem dX10_copies_99 : decode cX10_copies 99 = .ok (.iload_n 2, 1) := by decide +kernel
theorem dX10_copies_100 : decode cX10_copies 100 = .ok (.iload 6, 2) := by decide +kernel
theorem dX10_copies_102 : decode cX10_copies 102 = .ok (.invokevirtual 129, 3) := by decide +kernel
theorem dX10_copies_105 : decode cX10_copies 105 = .ok (.iload 5, 2) := by decide +kernel
theorem dX10_copies_107 : decode cX10_copies 107 = .ok (.if_icmp .eq 7, 3) := by decide +kernel
theorem dX10_copies_110 : decode cX10_copies 110 = .ok (.iconst 1, 1) := by decide +kernel
theorem dX10_copies_111 : decode cX10_copies 111 = .ok (.goto 4, 3) := by decide +kernel
theorem dX10_copies_114 : decode cX10_copies 114 = .ok (.iconst 0, 1) := by decide +kernel
theorem dX10_copies_115 : decode cX10_copies 115 = .ok (.bastore, 1) := by decide +kernel
theorem dX10_copies_116 : decode cX10_copies 116 = .ok (.iinc 6 1, 3) := by decide +kernel
theorem dX10_copies_119 : decode cX10_copies 119 = .ok (.goto (-106), 3) := by decide +kernel
theorem dX10_copies_122 : decode cX10_copies 122 = .ok (.aload_n 0, 1) := by decide +kernel
theorem dX10_copies_123 : decode cX10_copies 123 = .ok (.iload_n 1, 1) := by decide +kernel
theorem dX10_copies_124 : decode cX10_copies 124 = .ok (.invokevirtual 104, 3) := by decide +kernel
theorem dX10_copies_127 : decode cX10_copies 127 = .ok (.ireturn, 1) := by decide +kernel
set_option maxRecDepth 20000 in
theorem ggX10_not_X10_isClaim : GoodIn wsX10_not wsX10_isClaim := goodIn_r _ [4, 5, 6, 3, 7] (by decide +kernel) (by decide +kernel)
set_option maxRecDepth 20000 in
theorem gX10_not_X10_isClaim : GoodIn wsX10_not (va_wsS RX10 108 yX10_isClaim wsX10_isClaim) := goodIn_app (goodIn_of _ (by decide +kernel)) ggX10_not_X10_isClaim
set_option maxRecDepth 20000 in
theorem ggX10_not_X10_isThere : GoodIn wsX10_not wsX10_isThere := goodIn_r _ [11, 12, 58, 59, 60, 61, 62, 63, 64, 65, 66, 67, 68, 69, 70, 71, 72, 73, 74, 75, 76, 77] (by decide +kernel) (by decide +kernel)
set_option maxRecDepth 20000 in
theorem gX10_not_X10_isThere : GoodIn wsX10_not (wsV RX10 132 RX10 yX10_isThere wsX10_isThere) := goodIn_app (goodIn_of _ (by decide +kernel)) ggX10_not_X10_isThere
set_option maxRecDepth 20000 in
theorem ggX10_not_X10_copies : GoodIn wsX10_not wsX10_copies := goodIn_r _ [16, 12, 17, 18, 19, 20, 3, 21, 22, 23, 24, 25, 26, 27, 28, 29, 30, 31, 32, 33, 34, 35, 36, 37, 38, 39, 40, 41, 42, 43, 44, 45, 46, 47, 48, 49, 50, 51, 52, 53, 54, 55, 56, 57, 58, 59, 60, 61, 62, 63, 64, 65, 66, 67, 68, 69, 70, 71, 72, 73, 74, 75, 76, 77] (by decide +kernel) (by decide +kernel)
set_option maxRecDepth 20000 in
theorem gX10_not_X10_copies : GoodIn wsX10_not (wsV RX10 139 RX10 yX10_copies wsX10_copies) := goodIn_app (goodIn_of _ (by decide +kernel)) ggX10_not_X10_copies
theorem dX10_not_0 : decode cX10_not 0 = .ok (.iload_n 1, 1) := by decide +kernel
theorem dX10_not_1 : decode cX10_not 1 = .ok (.invokestatic 108, 3) := by decide +kernel
theorem dX10_not_4 : decode cX10_not 4 = .ok (.ifCond .eq 10, 3) := by decide +kernel
theorem dX10_not_7 : decode cX10_not 7 = .ok (.iload_n 2, 1) := by decide +kernel
theorem dX10_not_8 : decode cX10_not 8 = .ok (.invokestatic 108, 3) := by decide +kernel
theorem dX10_not_11 : decode cX10_not 11 = .ok (.ifCond .ne 5, 3) := by decide +kernel
theorem dX10_not_14 : decode cX10_not 14 = .ok (.iconst (-1), 1) := by decide +kernel
theorem dX10_not_15 : decode cX10_not 15 = .ok (.ireturn, 1) := by decide +kernel
theorem dX10_not_16 : decode cX10_not 16 = .ok (.aload_n 0, 1) := by decide +kernel
theorem dX10_not_17 : decode cX10_not 17 = .ok (.iload_n 2, 1) := by decide +kernel
theorem dX10_not_18 : decode cX10_not 18 = .ok (.invokevirtual 132, 3) := by decide +kernel
theorem dX10_not_21 : decode cX10_not 21 = .ok (.ifCond .eq 15, 3) := by decide +kernel
theorem dX10_not_24 : decode cX10_not 24 = .ok (.aload_n 0, 1) := by decide +kernel
theorem dX10_not_25 : decode cX10_not 25 = .ok (.iload_n 1, 1) := by decide +kernel
theorem dX10_not_26 : decode cX10_not 26 = .ok (.iload_n 2, 1) := by decide +kernel
theorem dX10_not_27 : decode cX10_not 27 = .ok (.iconst 0, 1) := by decide +kernel
theorem dX10_not_28 : decode cX10_not 28 = .ok (.iconst 0, 1) := by decide +kernel
theorem dX10_not_29 : decode cX10_not 29 = .ok (.iconst 1, 1) := by decide +kernel
theorem dX10_not_30 : decode cX10_not 30 = .ok (.invokevirtual 139, 3) := by decide +kernel
theorem dX10_not_33 : decode cX10_not 33 = .ok (.goto 5, 3) := by decide +kernel
theorem dX10_not_36 : decode cX10_not 36 = .ok (.bipush (-3), 2) := by decide +kernel
theorem dX10_not_38 : decode cX10_not 38 = .ok (.ireturn, 1) := by decide +kernel
set_option maxRecDepth 20000 in
theorem ggX10_swap_X10_isClaim : GoodIn wsX10_swap wsX10_isClaim := goodIn_r _ [4, 5, 6, 3, 7] (by decide +kernel) (by decide +kernel)
set_option maxRecDepth 20000 in
theorem gX10_swap_X10_isClaim : GoodIn wsX10_swap (va_wsS RX10 108 yX10_isClaim wsX10_isClaim) := goodIn_app (goodIn_of _ (by decide +kernel)) ggX10_swap_X10_isClaim
set_option maxRecDepth 20000 in
theorem ggX10_swap_X10_areTwo : GoodIn wsX10_swap wsX10_areTwo := goodIn_r _ [10, 11, 12, 3, 13, 5, 6, 7] (by decide +kernel) (by decide +kernel)
set_option maxRecDepth 20000 in
theorem gX10_swap_X10_areTwo : GoodIn wsX10_swap (va_wsS RX10 111 yX10_areTwo wsX10_areTwo) := goodIn_app (goodIn_of _ (by decide +kernel)) ggX10_swap_X10_areTwo
set_option maxRecDepth 20000 in
theorem ggX10_swap_X10_isThere : GoodIn wsX10_swap wsX10_isThere := goodIn_r _ [17, 18, 64, 65, 66, 67, 68, 69, 70, 71, 72, 73, 74, 75, 76, 77, 78, 79, 80, 81, 82, 83] (by decide +kernel) (by decide +kernel)
set_option maxRecDepth 20000 in
theorem gX10_swap_X10_isThere : GoodIn wsX10_swap (wsV RX10 132 RX10 yX10_isThere wsX10_isThere) := goodIn_app (goodIn_of _ (by decide +kernel)) ggX10_swap_X10_isThere
set_option maxRecDepth 20000 in
theorem ggX10_swap_X10_copies : GoodIn wsX10_swap wsX10_copies := goodIn_r _ [22, 18, 23, 24, 25, 26, 3, 27, 28, 29, 30, 31, 32, 33, 34, 35, 36, 37, 38, 39, 40, 41, 42, 43, 44, 45, 46, 47, 48, 49, 50, 51, 52, 53, 54, 55, 56, 57, 58, 59, 60, 61, 62, 63, 64, 65, 66, 67, 68, 69, 70, 71, 72, 73, 74, 75, 76, 77, 78, 79, 80, 81, 82, 83] (by decide +kernel) (by decide +kernel)
set_option maxRecDepth 20000 in
theorem gX10_swap_X10_copies : GoodIn wsX10_swap (wsV RX10 139 RX10 yX10_copies wsX10_copies) := goodIn_app (goodIn_of _ (by decide +kernel)) ggX10_swap_X10_copies
theorem dX10_swap_0 : decode cX10_swap 0 = .ok (.iload_n 1, 1) := by decide +kernel
theorem dX10_swap_1 : decode cX10_swap 1 = .ok (.invokestatic 108, 3) := by decide +kernel
theorem dX10_swap_4 : decode cX10_swap 4 = .ok (.ifCond .eq 19, 3) := by decide +kernel
theorem dX10_swap_7 : decode cX10_swap 7 = .ok (.iload_n 2, 1) := by decide +kernel
theorem dX10_swap_8 : decode cX10_swap 8 = .ok (.invokestatic 108, 3) := by decide +kernel
theorem dX10_swap_11 : decode cX10_swap 11 = .ok (.ifCond .eq 12, 3) := by decide +kernel
theorem dX10_swap_14 : decode cX10_swap 14 = .ok (.iload_n 3, 1) := by decide +kernel
theorem dX10_swap_15 : decode cX10_swap 15 = .ok (.iload 4, 2) := by decide +kernel
theorem dX10_swap_17 : decode cX10_swap 17 = .ok (.invokestatic 111, 3) := by decide +kernel
theorem dX10_swap_20 : decode cX10_swap 20 = .ok (.ifCond .ne 5, 3) := by decide +kernel
theorem dX10_swap_23 : decode cX10_swap 23 = .ok (.iconst (-1), 1) := by decide +kernel
theorem dX10_swap_24 : decode cX10_swap 24 = .ok (.ireturn, 1) := by decide +kernel
theorem dX10_swap_25 : decode cX10_swap 25 = .ok (.aload_n 0, 1) := by decide +kernel
theorem dX10_swap_26 : decode cX10_swap 26 = .ok (.iload_n 2, 1) := by decide +kernel
theorem dX10_swap_27 : decode cX10_swap 27 = .ok (.invokevirtual 132, 3) := by decide +kernel
theorem dX10_swap_30 : decode cX10_swap 30 = .ok (.ifCond .eq 16, 3) := by decide +kernel
theorem dX10_swap_33 : decode cX10_swap 33 = .ok (.aload_n 0, 1) := by decide +kernel
theorem dX10_swap_34 : decode cX10_swap 34 = .ok (.iload_n 1, 1) := by decide +kernel
theorem dX10_swap_35 : decode cX10_swap 35 = .ok (.iload_n 2, 1) := by decide +kernel
theorem dX10_swap_36 : decode cX10_swap 36 = .ok (.iload_n 3, 1) := by decide +kernel
theorem dX10_swap_37 : decode cX10_swap 37 = .ok (.iload 4, 2) := by decide +kernel
theorem dX10_swap_39 : decode cX10_swap 39 = .ok (.iconst 0, 1) := by decide +kernel
theorem dX10_swap_40 : decode cX10_swap 40 = .ok (.invokevirtual 139, 3) := by decide +kernel
theorem dX10_swap_43 : decode cX10_swap 43 = .ok (.goto 5, 3) := by decide +kernel
theorem dX10_swap_46 : decode cX10_swap 46 = .ok (.bipush (-3), 2) := by decide +kernel
theorem dX10_swap_48 : decode cX10_swap 48 = .ok (.ireturn, 1) := by decide +kernel
theorem dX10_setOf_0 : decode cX10_setOf 0 = .ok (.iconst 0, 1) := by decide +kernel
theorem dX10_setOf_1 : decode cX10_setOf 1 = .ok (.istore_n 3, 1) := by decide +kernel
theorem dX10_setOf_2 : decode cX10_setOf 2 = .ok (.iload_n 3, 1) := by decide +kernel
theorem dX10_setOf_3 : decode cX10_setOf 3 = .ok (.aload_n 0, 1) := by decide +kernel
theorem dX10_setOf_4 : decode cX10_setOf 4 = .ok (.getfield 81, 3) := by decide +kernel
theorem dX10_setOf_7 : decode cX10_setOf 7 = .ok (.if_icmp .ge 22, 3) := by decide +kernel
theorem dX10_setOf_10 : decode cX10_setOf 10 = .ok (.aload_n 0, 1) := by decide +kernel
theorem dX10_setOf_11 : decode cX10_setOf 11 = .ok (.getfield 53, 3) := by decide +kernel
theorem dX10_setOf_14 : decode cX10_setOf 14 = .ok (.iload_n 3, 1) := by decide +kernel
theorem dX10_setOf_15 : decode cX10_setOf 15 = .ok (.laload, 1) := by decide +kernel
theorem dX10_setOf_16 : decode cX10_setOf 16 = .ok (.lload_n 1, 1) := by decide +kernel
theorem dX10_setOf_17 : decode cX10_setOf 17 = .ok (.lcmp, 1) := by decide +kernel
theorem dX10_setOf_18 : decode cX10_setOf 18 = .ok (.ifCond .ne 5, 3) := by decide +kernel
theorem dX10_setOf_21 : decode cX10_setOf 21 = .ok (.iload_n 3, 1) := by decide +kernel
theorem dX10_setOf_22 : decode cX10_setOf 22 = .ok (.ireturn, 1) := by decide +kernel
theorem dX10_setOf_23 : decode cX10_setOf 23 = .ok (.iinc 3 1, 3) := by decide +kernel
theorem dX10_setOf_26 : decode cX10_setOf 26 = .ok (.goto (-24), 3) := by decide +kernel
theorem dX10_setOf_29 : decode cX10_setOf 29 = .ok (.aload_n 0, 1) := by decide +kernel
theorem dX10_setOf_30 : decode cX10_setOf 30 = .ok (.getfield 81, 3) := by decide +kernel
theorem dX10_setOf_33 : decode cX10_setOf 33 = .ok (.sipush 300, 3) := by decide +kernel
theorem dX10_setOf_36 : decode cX10_setOf 36 = .ok (.if_icmp .ne 6, 3) := by decide +kernel
theorem dX10_setOf_39 : decode cX10_setOf 39 = .ok (.bipush (-9), 2) := by decide +kernel
theorem dX10_setOf_41 : decode cX10_setOf 41 = .ok (.ireturn, 1) := by decide +kernel
theorem dX10_setOf_42 : decode cX10_setOf 42 = .ok (.aload_n 0, 1) := by decide +kernel
theorem dX10_setOf_43 : decode cX10_setOf 43 = .ok (.getfield 53, 3) := by decide +kernel
theorem dX10_setOf_46 : decode cX10_setOf 46 = .ok (.aload_n 0, 1) := by decide +kernel
theorem dX10_setOf_47 : decode cX10_setOf 47 = .ok (.getfield 81, 3) := by decide +kernel
theorem dX10_setOf_50 : decode cX10_setOf 50 = .ok (.lload_n 1, 1) := by decide +kernel
theorem dX10_setOf_51 : decode cX10_setOf 51 = .ok (.lastore, 1) := by decide +kernel
theorem dX10_setOf_52 : decode cX10_setOf 52 = .ok (.aload_n 0, 1) := by decide +kernel
theorem dX10_setOf_53 : decode cX10_setOf 53 = .ok (.dup, 1) := by decide +kernel
theorem dX10_setOf_54 : decode cX10_setOf 54 = .ok (.getfield 81, 3) := by decide +kernel
theorem dX10_setOf_57 : decode cX10_setOf 57 = .ok (.iconst 1, 1) := by decide +kernel
theorem dX10_setOf_58 : decode cX10_setOf 58 = .ok (.iadd, 1) := by decide +kernel
theorem dX10_setOf_59 : decode cX10_setOf 59 = .ok (.putfield 81, 3) := by decide +kernel
theorem dX10_setOf_62 : decode cX10_setOf 62 = .ok (.aload_n 0, 1) := by decide +kernel
theorem dX10_setOf_63 : decode cX10_setOf 63 = .ok (.getfield 81, 3) := by decide +kernel
theorem dX10_setOf_66 : decode cX10_setOf 66 = .ok (.iconst 1, 1) := by decide +kernel
theorem dX10_setOf_67 : decode cX10_setOf 67 = .ok (.isub, 1) := by decide +kernel
theorem dX10_setOf_68 : decode cX10_setOf 68 = .ok (.ireturn, 1) := by decide +kernel
theorem dX10_isIn_0 : decode cX10_isIn 0 = .ok (.lload_n 0, 1) := by decide +kernel
theorem dX10_isIn_1 : decode cX10_isIn 1 = .ok (.iload_n 2, 1) := by decide +kernel
theorem dX10_isIn_2 : decode cX10_isIn 2 = .ok (.lshr, 1) := by decide +kernel
theorem dX10_isIn_3 : decode cX10_isIn 3 = .ok (.lconst 1, 1) := by decide +kernel
theorem dX10_isIn_4 : decode cX10_isIn 4 = .ok (.land, 1) := by decide +kernel
theorem dX10_isIn_5 : decode cX10_isIn 5 = .ok (.lconst 1, 1) := by decide +kernel
theorem dX10_isIn_6 : decode cX10_isIn 6 = .ok (.lcmp, 1) := by decide +kernel
theorem dX10_isIn_7 : decode cX10_isIn 7 = .ok (.ifCond .ne 7, 3) := by decide +kernel
theorem dX10_isIn_10 : decode cX10_isIn 10 = .ok (.iconst 1, 1) := by decide +kernel
theorem dX10_isIn_11 : decode cX10_isIn 11 = .ok (.goto 4, 3) := by decide +kernel
theorem dX10_isIn_14 : decode cX10_isIn 14 = .ok (.iconst 0, 1) := by decide +kernel
theorem dX10_isIn_15 : decode cX10_isIn 15 = .ok (.ireturn, 1) := by decide +kernel
set_option maxRecDepth 20000 in
theorem ggX10_goesOn_X10_isIn : GoodIn wsX10_goesOn wsX10_isIn := goodIn_r _ [5] (by decide +kernel) (by decide +kernel)
set_option maxRecDepth 20000 in
theorem gX10_goesOn_X10_isIn : GoodIn wsX10_goesOn (va_wsS RX10 143 yX10_isIn wsX10_isIn) := goodIn_app (goodIn_of _ (by decide +kernel)) ggX10_goesOn_X10_isIn
set_option maxRecDepth 20000 in
theorem ggX10_goesOn_X10_next : GoodIn wsX10_goesOn wsX10_next := goodIn_r _ [9, 10, 11, 12, 13, 14, 15, 16, 17, 18, 19, 20, 21, 22, 23, 24, 25, 26, 27, 28, 29, 30] (by decide +kernel) (by decide +kernel)
set_option maxRecDepth 20000 in
theorem gX10_goesOn_X10_next : GoodIn wsX10_goesOn (wsV RX10 125 RX10 yX10_next wsX10_next) := goodIn_app (goodIn_of _ (by decide +kernel)) ggX10_goesOn_X10_next
theorem dX10_goesOn_0 : decode cX10_goesOn 0 = .ok (.lconst 0, 1) := by decide +kernel
theorem dX10_goesOn_1 : decode cX10_goesOn 1 = .ok (.lstore 6, 2) := by decide +kernel
theorem dX10_goesOn_3 : decode cX10_goesOn 3 = .ok (.iconst 0, 1) := by decide +kernel
theorem dX10_goesOn_4 : decode cX10_goesOn 4 = .ok (.istore 8, 2) := by decide +kernel
theorem dX10_goesOn_6 : decode cX10_goesOn 6 = .ok (.iload 8, 2) := by decide +kernel
theorem dX10_goesOn_8 : decode cX10_goesOn 8 = .ok (.aload_n 0, 1) := by decide +kernel
theorem dX10_goesOn_9 : decode cX10_goesOn 9 = .ok (.getfield 16, 3) := by decide +kernel
theorem dX10_goesOn_12 : decode cX10_goesOn 12 = .ok (.iload_n 1, 1) := by decide +kernel
theorem dX10_goesOn_13 : decode cX10_goesOn 13 = .ok (.iaload, 1) := by decide +kernel
theorem dX10_goesOn_14 : decode cX10_goesOn 14 = .ok (.if_icmp .ge 55, 3) := by decide +kernel
theorem dX10_goesOn_17 : decode cX10_goesOn 17 = .ok (.lload_n 2, 1) := by decide +kernel
theorem dX10_goesOn_18 : decode cX10_goesOn 18 = .ok (.iload 8, 2) := by decide +kernel
theorem dX10_goesOn_20 : decode cX10_goesOn 20 = .ok (.invokestatic 143, 3) := by decide +kernel
theorem dX10_goesOn_23 : decode cX10_goesOn 23 = .ok (.ifCond .eq 40, 3) := by decide +kernel
theorem dX10_goesOn_26 : decode cX10_goesOn 26 = .ok (.lload 6, 2) := by decide +kernel
theorem dX10_goesOn_28 : decode cX10_goesOn 28 = .ok (.lconst 1, 1) := by decide +kernel
theorem dX10_goesOn_29 : decode cX10_goesOn 29 = .ok (.aload_n 0, 1) := by decide +kernel
theorem dX10_goesOn_30 : decode cX10_goesOn 30 = .ok (.iload_n 1, 1) := by decide +kernel
theorem dX10_goesOn_31 : decode cX10_goesOn 31 = .ok (.iload 8, 2) := by decide +kernel
theorem dX10_goesOn_33 : decode cX10_goesOn 33 = .ok (.iload 4, 2) := by decide +kernel
theorem dX10_goesOn_35 : decode cX10_goesOn 35 = .ok (.invokevirtual 125, 3) := by decide +kernel
theorem dX10_goesOn_38 : decode cX10_goesOn 38 = .ok (.lshl, 1) := by decide +kernel
theorem dX10_goesOn_39 : decode cX10_goesOn 39 = .ok (.lor, 1) := by decide +kernel
theorem dX10_goesOn_40 : decode cX10_goesOn 40 = .ok (.lstore 6, 2) := by decide +kernel
theorem dX10_goesOn_42 : decode cX10_goesOn 42 = .ok (.lload 6, 2) := by decide +kernel
theorem dX10_goesOn_44 : decode cX10_goesOn 44 = .ok (.lconst 1, 1) := by decide +kernel
theorem dX10_goesOn_45 : decode cX10_goesOn 45 = .ok (.aload_n 0, 1) := by decide +kernel
theorem dX10_goesOn_46 : decode cX10_goesOn 46 = .ok (.iload_n 1, 1) := by decide +kernel
theorem dX10_goesOn_47 : decode cX10_goesOn 47 = .ok (.iload 8, 2) := by decide +kernel
theorem dX10_goesOn_49 : decode cX10_goesOn 49 = .ok (.iload 4, 2) := by decide +kernel
theorem dX10_goesOn_51 : decode cX10_goesOn 51 = .ok (.iconst 1, 1) := by decide +kernel
theorem dX10_goesOn_52 : decode cX10_goesOn 52 = .ok (.iload 5, 2) := by decide +kernel
theorem dX10_goesOn_54 : decode cX10_goesOn 54 = .ok (.ishl, 1) := by decide +kernel
theorem dX10_goesOn_55 : decode cX10_goesOn 55 = .ok (.ixor, 1) := by decide +kernel
theorem dX10_goesOn_56 : decode cX10_goesOn 56 = .ok (.invokevirtual 125, 3) := by decide +kernel
theorem dX10_goesOn_59 : decode cX10_goesOn 59 = .ok (.lshl, 1) := by decide +kernel
theorem dX10_goesOn_60 : decode cX10_goesOn 60 = .ok (.lor, 1) := by decide +kernel
theorem dX10_goesOn_61 : decode cX10_goesOn 61 = .ok (.lstore 6, 2) := by decide +kernel
theorem dX10_goesOn_63 : decode cX10_goesOn 63 = .ok (.iinc 8 1, 3) := by decide +kernel
theorem dX10_goesOn_66 : decode cX10_goesOn 66 = .ok (.goto (-60), 3) := by decide +kernel
theorem dX10_goesOn_69 : decode cX10_goesOn 69 = .ok (.lload 6, 2) := by decide +kernel
theorem dX10_goesOn_71 : decode cX10_goesOn 71 = .ok (.lreturn, 1) := by decide +kernel
set_option maxRecDepth 20000 in
theorem ggX10_holdsInSet_X10_isIn : GoodIn wsX10_holdsInSet wsX10_isIn := goodIn_r _ [5] (by decide +kernel) (by decide +kernel)
set_option maxRecDepth 20000 in
theorem gX10_holdsInSet_X10_isIn : GoodIn wsX10_holdsInSet (va_wsS RX10 143 yX10_isIn wsX10_isIn) := goodIn_app (goodIn_of _ (by decide +kernel)) ggX10_holdsInSet_X10_isIn
set_option maxRecDepth 20000 in
theorem ggX10_holdsInSet_X10_holdsIn : GoodIn wsX10_holdsInSet wsX10_holdsIn := goodIn_r _ [9, 10, 11, 12, 13, 14, 15, 16, 17, 18, 19, 20, 21, 22, 23, 24, 25, 26, 27, 28, 29, 30] (by decide +kernel) (by decide +kernel)
set_option maxRecDepth 20000 in
theorem gX10_holdsInSet_X10_holdsIn : GoodIn wsX10_holdsInSet (wsV RX10 129 RX10 yX10_holdsIn wsX10_holdsIn) := goodIn_app (goodIn_of _ (by decide +kernel)) ggX10_holdsInSet_X10_holdsIn
theorem dX10_holdsInSet_0 : decode cX10_holdsInSet 0 = .ok (.iconst 0, 1) := by decide +kernel
theorem dX10_holdsInSet_1 : decode cX10_holdsInSet 1 = .ok (.istore 5, 2) := by decide +kernel
theorem dX10_holdsInSet_3 : decode cX10_holdsInSet 3 = .ok (.iconst 1, 1) := by decide +kernel
theorem dX10_holdsInSet_4 : decode cX10_holdsInSet 4 = .ok (.istore 6, 2) := by decide +kernel
theorem dX10_holdsInSet_6 : decode cX10_holdsInSet 6 = .ok (.iconst 0, 1) := by decide +kernel
theorem dX10_holdsInSet_7 : decode cX10_holdsInSet 7 = .ok (.istore 7, 2) := by decide +kernel
theorem dX10_holdsInSet_9 : decode cX10_holdsInSet 9 = .ok (.iload 7, 2) := by decide +kernel
theorem dX10_holdsInSet_11 : decode cX10_holdsInSet 11 = .ok (.aload_n 0, 1) := by decide +kernel
theorem dX10_holdsInSet_12 : decode cX10_holdsInSet 12 = .ok (.getfield 16, 3) := by decide +kernel
theorem dX10_holdsInSet_15 : decode cX10_holdsInSet 15 = .ok (.iload_n 1, 1) := by decide +kernel
theorem dX10_holdsInSet_16 : decode cX10_holdsInSet 16 = .ok (.iaload, 1) := by decide +kernel
theorem dX10_holdsInSet_17 : decode cX10_holdsInSet 17 = .ok (.if_icmp .ge 62, 3) := by decide +kernel
theorem dX10_holdsInSet_20 : decode cX10_holdsInSet 20 = .ok (.lload_n 2, 1) := by decide +kernel
theorem dX10_holdsInSet_21 : decode cX10_holdsInSet 21 = .ok (.iload 7, 2) := by decide +kernel
theorem dX10_holdsInSet_23 : decode cX10_holdsInSet 23 = .ok (.invokestatic 143, 3) := by decide +kernel
theorem dX10_holdsInSet_26 : decode cX10_holdsInSet 26 = .ok (.ifCond .eq 47, 3) := by decide +kernel
theorem dX10_holdsInSet_29 : decode cX10_holdsInSet 29 = .ok (.iload 5, 2) := by decide +kernel
theorem dX10_holdsInSet_31 : decode cX10_holdsInSet 31 = .ok (.ifCond .ne 13, 3) := by decide +kernel
theorem dX10_holdsInSet_34 : decode cX10_holdsInSet 34 = .ok (.aload_n 0, 1) := by decide +kernel
theorem dX10_holdsInSet_35 : decode cX10_holdsInSet 35 = .ok (.iload_n 1, 1) := by decide +kernel
theorem dX10_holdsInSet_36 : decode cX10_holdsInSet 36 = .ok (.iload 7, 2) := by decide +kernel
theorem dX10_holdsInSet_38 : decode cX10_holdsInSet 38 = .ok (.invokevirtual 129, 3) := by decide +kernel
theorem dX10_holdsInSet_41 : decode cX10_holdsInSet 41 = .ok (.ifCond .eq 7, 3) := by decide +kernel
theorem dX10_holdsInSet_44 : decode cX10_holdsInSet 44 = .ok (.iconst 1, 1) := by decide +kernel
theorem dX10_holdsInSet_45 : decode cX10_holdsInSet 45 = .ok (.goto 4, 3) := by decide +kernel
theorem dX10_holdsInSet_48 : decode cX10_holdsInSet 48 = .ok (.iconst 0, 1) := by decide +kernel
theorem dX10_holdsInSet_49 : decode cX10_holdsInSet 49 = .ok (.istore 5, 2) := by decide +kernel
theorem dX10_holdsInSet_51 : decode cX10_holdsInSet 51 = .ok (.iload 6, 2) := by decide +kernel
theorem dX10_holdsInSet_53 : decode cX10_holdsInSet 53 = .ok (.ifCond .eq 17, 3) := by decide +kernel
theorem dX10_holdsInSet_56 : decode cX10_holdsInSet 56 = .ok (.aload_n 0, 1) := by decide +kernel
theorem dX10_holdsInSet_57 : decode cX10_holdsInSet 57 = .ok (.iload_n 1, 1) := by decide +kernel
theorem dX10_holdsInSet_58 : decode cX10_holdsInSet 58 = .ok (.iload 7, 2) := by decide +kernel
theorem dX10_holdsInSet_60 : decode cX10_holdsInSet 60 = .ok (.invokevirtual 129, 3) := by decide +kernel
theorem dX10_holdsInSet_63 : decode cX10_holdsInSet 63 = .ok (.ifCond .eq 7, 3) := by decide +kernel
theorem dX10_holdsInSet_66 : decode cX10_holdsInSet 66 = .ok (.iconst 1, 1) := by decide +kernel
theorem dX10_holdsInSet_67 : decode cX10_holdsInSet 67 = .ok (.goto 4, 3) := by decide +kernel
theorem dX10_holdsInSet_70 : decode cX10_holdsInSet 70 = .ok (.iconst 0, 1) := by decide +kernel
theorem dX10_holdsInSet_71 : decode cX10_holdsInSet 71 = .ok (.istore 6, 2) := by decide +kernel
theorem dX10_holdsInSet_73 : decode cX10_holdsInSet 73 = .ok (.iinc 7 1, 3) := by decide +kernel
theorem dX10_holdsInSet_76 : decode cX10_holdsInSet 76 = .ok (.goto (-67), 3) := by decide +kernel
theorem dX10_holdsInSet_79 : decode cX10_holdsInSet 79 = .ok (.iload 4, 2) := by decide +kernel
theorem dX10_holdsInSet_81 : decode cX10_holdsInSet 81 = .ok (.ifCond .eq 8, 3) := by decide +kernel
theorem dX10_holdsInSet_84 : decode cX10_holdsInSet 84 = .ok (.iload 6, 2) := by decide +kernel
theorem dX10_holdsInSet_86 : decode cX10_holdsInSet 86 = .ok (.goto 5, 3) := by decide +kernel
theorem dX10_holdsInSet_89 : decode cX10_holdsInSet 89 = .ok (.iload 5, 2) := by decide +kernel
theorem dX10_holdsInSet_91 : decode cX10_holdsInSet 91 = .ok (.ireturn, 1) := by decide +kernel
set_option maxRecDepth 20000 in
theorem ggX10_quantifies_X10_goesOn : GoodIn wsX10_quantifies wsX10_goesOn := goodIn_r _ [9, 10, 11, 12, 8, 13, 14, 15, 16, 17, 18, 58, 59, 60, 61, 62, 63, 64, 65, 66, 67, 68, 69, 70, 71, 72, 73, 74, 75, 76, 77] (by decide +kernel) (by decide +kernel)
set_option maxRecDepth 20000 in
theorem gX10_quantifies_X10_goesOn : GoodIn wsX10_quantifies (wsV RX10 147 RX10 yX10_goesOn wsX10_goesOn) := goodIn_app (goodIn_of _ (by decide +kernel)) ggX10_quantifies_X10_goesOn
set_option maxRecDepth 20000 in
theorem ggX10_quantifies_X10_setOf : GoodIn wsX10_quantifies wsX10_setOf := goodIn_r _ [22, 1, 3, 58, 59, 60, 61, 62, 63, 64, 65, 66, 67, 68, 69, 70, 71, 72, 73, 74, 75, 76, 77] (by decide +kernel) (by decide +kernel)
set_option maxRecDepth 20000 in
theorem gX10_quantifies_X10_setOf : GoodIn wsX10_quantifies (wsV RX10 153 RX10 yX10_setOf wsX10_setOf) := goodIn_app (goodIn_of _ (by decide +kernel)) ggX10_quantifies_X10_setOf
set_option maxRecDepth 20000 in
theorem ggX10_quantifies_X10_leads : GoodIn wsX10_quantifies wsX10_leads := goodIn_r _ [26, 27, 58, 59, 60, 61, 62, 63, 64, 65, 66, 67, 68, 69, 70, 71, 72, 73, 74, 75, 76, 77] (by decide +kernel) (by decide +kernel)
set_option maxRecDepth 20000 in
theorem gX10_quantifies_X10_leads : GoodIn wsX10_quantifies (wsV RX10 100 RX10 yX10_leads wsX10_leads) := goodIn_app (goodIn_of _ (by decide +kernel)) ggX10_quantifies_X10_leads
set_option maxRecDepth 20000 in
theorem ggX10_quantifies_X10_holdsInSet : GoodIn wsX10_quantifies wsX10_holdsInSet := goodIn_r _ [31, 10, 11, 12, 8, 13, 32, 33, 34, 35, 36, 58, 59, 60, 61, 62, 63, 64, 65, 66, 67, 68, 69, 70, 71, 72, 73, 74, 75, 76, 77] (by decide +kernel) (by decide +kernel)
set_option maxRecDepth 20000 in
theorem gX10_quantifies_X10_holdsInSet : GoodIn wsX10_quantifies (wsV RX10 157 RX10 yX10_holdsInSet wsX10_holdsInSet) := goodIn_app (goodIn_of _ (by decide +kernel)) ggX10_quantifies_X10_holdsInSet
set_option maxRecDepth 20000 in
theorem ggX10_quantifies_X10_comes : GoodIn wsX10_quantifies wsX10_comes := goodIn_r _ [40, 10, 41, 42, 43, 8, 44, 1, 45, 4, 46, 47, 48, 27, 18, 36, 49, 50, 51, 52, 53, 54, 55, 56, 57, 58, 59, 60, 61, 62, 63, 64, 65, 66, 67, 68, 69, 70, 71, 72, 73, 74, 75, 76, 77] (by decide +kernel) (by decide +kernel)
set_option maxRecDepth 20000 in
theorem gX10_quantifies_X10_comes : GoodIn wsX10_quantifies (wsV RX10 104 RX10 yX10_comes wsX10_comes) := goodIn_app (goodIn_of _ (by decide +kernel)) ggX10_quantifies_X10_comes
theorem dX10_quantifies_0 : decode cX10_quantifies 0 = .ok (.aload_n 0, 1) := by decide +kernel
theorem dX10_quantifies_1 : decode cX10_quantifies 1 = .ok (.iconst 0, 1) := by decide +kernel
theorem dX10_quantifies_2 : decode cX10_quantifies 2 = .ok (.putfield 81, 3) := by decide +kernel
theorem dX10_quantifies_5 : decode cX10_quantifies 5 = .ok (.lconst 1, 1) := by decide +kernel
theorem dX10_quantifies_6 : decode cX10_quantifies 6 = .ok (.lstore 5, 2) := by decide +kernel
theorem dX10_quantifies_8 : decode cX10_quantifies 8 = .ok (.aload_n 0, 1) := by decide +kernel
theorem dX10_quantifies_9 : decode cX10_quantifies 9 = .ok (.iload_n 2, 1) := by decide +kernel
theorem dX10_quantifies_10 : decode cX10_quantifies 10 = .ok (.lload 5, 2) := by decide +kernel
theorem dX10_quantifies_12 : decode cX10_quantifies 12 = .ok (.iconst 0, 1) := by decide +kernel
theorem dX10_quantifies_13 : decode cX10_quantifies 13 = .ok (.iload_n 3, 1) := by decide +kernel
theorem dX10_quantifies_14 : decode cX10_quantifies 14 = .ok (.invokevirtual 147, 3) := by decide +kernel
theorem dX10_quantifies_17 : decode cX10_quantifies 17 = .ok (.lstore 7, 2) := by decide +kernel
theorem dX10_quantifies_19 : decode cX10_quantifies 19 = .ok (.lload 7, 2) := by decide +kernel
theorem dX10_quantifies_21 : decode cX10_quantifies 21 = .ok (.lload 5, 2) := by decide +kernel
theorem dX10_quantifies_23 : decode cX10_quantifies 23 = .ok (.ldc2_w 151, 3) := by decide +kernel
theorem dX10_quantifies_26 : decode cX10_quantifies 26 = .ok (.lxor, 1) := by decide +kernel
theorem dX10_quantifies_27 : decode cX10_quantifies 27 = .ok (.land, 1) := by decide +kernel
theorem dX10_quantifies_28 : decode cX10_quantifies 28 = .ok (.lconst 0, 1) := by decide +kernel
theorem dX10_quantifies_29 : decode cX10_quantifies 29 = .ok (.lcmp, 1) := by decide +kernel
theorem dX10_quantifies_30 : decode cX10_quantifies 30 = .ok (.ifCond .eq 24, 3) := by decide +kernel
theorem dX10_quantifies_33 : decode cX10_quantifies 33 = .ok (.lload 5, 2) := by decide +kernel
theorem dX10_quantifies_35 : decode cX10_quantifies 35 = .ok (.lload 7, 2) := by decide +kernel
theorem dX10_quantifies_37 : decode cX10_quantifies 37 = .ok (.lor, 1) := by decide +kernel
theorem dX10_quantifies_38 : decode cX10_quantifies 38 = .ok (.lstore 5, 2) := by decide +kernel
theorem dX10_quantifies_40 : decode cX10_quantifies 40 = .ok (.aload_n 0, 1) := by decide +kernel
theorem dX10_quantifies_41 : decode cX10_quantifies 41 = .ok (.iload_n 2, 1) := by decide +kernel
theorem dX10_quantifies_42 : decode cX10_quantifies 42 = .ok (.lload 5, 2) := by decide +kernel
theorem dX10_quantifies_44 : decode cX10_quantifies 44 = .ok (.iconst 0, 1) := by decide +kernel
theorem dX10_quantifies_45 : decode cX10_quantifies 45 = .ok (.iload_n 3, 1) := by decide +kernel
theorem dX10_quantifies_46 : decode cX10_quantifies 46 = .ok (.invokevirtual 147, 3) := by decide +kernel
theorem dX10_quantifies_49 : decode cX10_quantifies 49 = .ok (.lstore 7, 2) := by decide +kernel
theorem dX10_quantifies_51 : decode cX10_quantifies 51 = .ok (.goto (-32), 3) := by decide +kernel
theorem dX10_quantifies_54 : decode cX10_quantifies 54 = .ok (.aload_n 0, 1) := by decide +kernel
theorem dX10_quantifies_55 : decode cX10_quantifies 55 = .ok (.lload 5, 2) := by decide +kernel
theorem dX10_quantifies_57 : decode cX10_quantifies 57 = .ok (.invokevirtual 153, 3) := by decide +kernel
theorem dX10_quantifies_60 : decode cX10_quantifies 60 = .ok (.pop, 1) := by decide +kernel
theorem dX10_quantifies_61 : decode cX10_quantifies 61 = .ok (.iconst 0, 1) := by decide +kernel
theorem dX10_quantifies_62 : decode cX10_quantifies 62 = .ok (.istore 9, 2) := by decide +kernel
theorem dX10_quantifies_64 : decode cX10_quantifies 64 = .ok (.iload 9, 2) := by decide +kernel
theorem dX10_quantifies_66 : decode cX10_quantifies 66 = .ok (.aload_n 0, 1) := by decide +kernel
theorem dX10_quantifies_67 : decode cX10_quantifies 67 = .ok (.getfield 81, 3) := by decide +kernel
theorem dX10_quantifies_70 : decode cX10_quantifies 70 = .ok (.if_icmp .ge 66, 3) := by decide +kernel
theorem dX10_quantifies_73 : decode cX10_quantifies 73 = .ok (.iconst 0, 1) := by decide +kernel
theorem dX10_quantifies_74 : decode cX10_quantifies 74 = .ok (.istore 10, 2) := by decide +kernel
theorem dX10_quantifies_76 : decode cX10_quantifies 76 = .ok (.iload 10, 2) := by decide +kernel
theorem dX10_quantifies_78 : decode cX10_quantifies 78 = .ok (.bipush 8, 2) := by decide +kernel
theorem dX10_quantifies_80 : decode cX10_quantifies 80 = .ok (.if_icmp .ge 50, 3) := by decide +kernel
theorem dX10_quantifies_83 : decode cX10_quantifies 83 = .ok (.aload_n 0, 1) := by decide +kernel
theorem dX10_quantifies_84 : decode cX10_quantifies 84 = .ok (.aload_n 0, 1) := by decide +kernel
theorem dX10_quantifies_85 : decode cX10_quantifies 85 = .ok (.iload_n 2, 1) := by decide +kernel
theorem dX10_quantifies_86 : decode cX10_quantifies 86 = .ok (.aload_n 0, 1) := by decide +kernel
theorem dX10_quantifies_87 : decode cX10_quantifies 87 = .ok (.getfield 53, 3) := by decide +kernel
theorem dX10_quantifies_90 : decode cX10_quantifies 90 = .ok (.iload 9, 2) := by decide +kernel
theorem dX10_quantifies_92 : decode cX10_quantifies 92 = .ok (.laload, 1) := by decide +kernel
theorem dX10_quantifies_93 : decode cX10_quantifies 93 = .ok (.iload 10, 2) := by decide +kernel
theorem dX10_quantifies_95 : decode cX10_quantifies 95 = .ok (.iload_n 3, 1) := by decide +kernel
theorem dX10_quantifies_96 : decode cX10_quantifies 96 = .ok (.invokevirtual 147, 3) := by decide +kernel
theorem dX10_quantifies_99 : decode cX10_quantifies 99 = .ok (.invokevirtual 153, 3) := by decide +kernel
theorem dX10_quantifies_102 : decode cX10_quantifies 102 = .ok (.istore 11, 2) := by decide +kernel
theorem dX10_quantifies_104 : decode cX10_quantifies 104 = .ok (.iload 11, 2) := by decide +kernel
theorem dX10_quantifies_106 : decode cX10_quantifies 106 = .ok (.bipush (-9), 2) := by decide +kernel
theorem dX10_quantifies_108 : decode cX10_quantifies 108 = .ok (.if_icmp .ne 6, 3) := by decide +kernel
theorem dX10_quantifies_111 : decode cX10_quantifies 111 = .ok (.bipush (-6), 2) := by decide +kernel
theorem dX10_quantifies_113 : decode cX10_quantifies 113 = .ok (.ireturn, 1) := by decide +kernel
theorem dX10_quantifies_114 : decode cX10_quantifies 114 = .ok (.aload_n 0, 1) := by decide +kernel
theorem dX10_quantifies_115 : decode cX10_quantifies 115 = .ok (.iload 9, 2) := by decide +kernel
theorem dX10_quantifies_117 : decode cX10_quantifies 117 = .ok (.iload 10, 2) := by decide +kernel
theorem dX10_quantifies_119 : decode cX10_quantifies 119 = .ok (.iload 11, 2) := by decide +kernel
theorem dX10_quantifies_121 : decode cX10_quantifies 121 = .ok (.invokevirtual 100, 3) := by decide +kernel
theorem dX10_quantifies_124 : decode cX10_quantifies 124 = .ok (.iinc 10 1, 3) := by decide +kernel
theorem dX10_quantifies_127 : decode cX10_quantifies 127 = .ok (.goto (-51), 3) := by decide +kernel
theorem dX10_quantifies_130 : decode cX10_quantifies 130 = .ok (.iinc 9 1, 3) := by decide +kernel
theorem dX10_quantifies_133 : decode cX10_quantifies 133 = .ok (.goto (-69), 3) := by decide +kernel
theorem dX10_quantifies_136 : decode cX10_quantifies 136 = .ok (.iconst 0, 1) := by decide +kernel
theorem dX10_quantifies_137 : decode cX10_quantifies 137 = .ok (.istore 9, 2) := by decide +kernel
theorem dX10_quantifies_139 : decode cX10_quantifies 139 = .ok (.iload 9, 2) := by decide +kernel
theorem dX10_quantifies_141 : decode cX10_quantifies 141 = .ok (.aload_n 0, 1) := by decide +kernel
theorem dX10_quantifies_142 : decode cX10_quantifies 142 = .ok (.getfield 81, 3) := by decide +kernel
theorem dX10_quantifies_145 : decode cX10_quantifies 145 = .ok (.if_icmp .ge 30, 3) := by decide +kernel
theorem dX10_quantifies_148 : decode cX10_quantifies 148 = .ok (.aload_n 0, 1) := by decide +kernel
theorem dX10_quantifies_149 : decode cX10_quantifies 149 = .ok (.getfield 32, 3) := by decide +kernel
theorem dX10_quantifies_152 : decode cX10_quantifies 152 = .ok (.iload 9, 2) := by decide +kernel
theorem dX10_quantifies_154 : decode cX10_quantifies 154 = .ok (.aload_n 0, 1) := by decide +kernel
theorem dX10_quantifies_155 : decode cX10_quantifies 155 = .ok (.iload_n 2, 1) := by decide +kernel
theorem dX10_quantifies_156 : decode cX10_quantifies 156 = .ok (.aload_n 0, 1) := by decide +kernel
theorem dX10_quantifies_157 : decode cX10_quantifies 157 = .ok (.getfield 53, 3) := by decide +kernel
theorem dX10_quantifies_160 : decode cX10_quantifies 160 = .ok (.iload 9, 2) := by decide +kernel
theorem dX10_quantifies_162 : decode cX10_quantifies 162 = .ok (.laload, 1) := by decide +kernel
theorem dX10_quantifies_163 : decode cX10_quantifies 163 = .ok (.iload 4, 2) := by decide +kernel
theorem dX10_quantifies_165 : decode cX10_quantifies 165 = .ok (.invokevirtual 157, 3) := by decide +kernel
theorem dX10_quantifies_168 : decode cX10_quantifies 168 = .ok (.bastore, 1) := by decide +kernel
theorem dX10_quantifies_169 : decode cX10_quantifies 169 = .ok (.iinc 9 1, 3) := by decide +kernel
theorem dX10_quantifies_172 : decode cX10_quantifies 172 = .ok (.goto (-33), 3) := by decide +kernel
theorem dX10_quantifies_175 : decode cX10_quantifies 175 = .ok (.aload_n 0, 1) := by decide +kernel
theorem dX10_quantifies_176 : decode cX10_quantifies 176 = .ok (.iload_n 1, 1) := by decide +kernel
theorem dX10_quantifies_177 : decode cX10_quantifies 177 = .ok (.invokevirtual 104, 3) := by decide +kernel
theorem dX10_quantifies_180 : decode cX10_quantifies 180 = .ok (.ireturn, 1) := by decide +kernel
set_option maxRecDepth 20000 in
theorem ggX10_some_X10_isClaim : GoodIn wsX10_some wsX10_isClaim := goodIn_r _ [4, 5, 6, 3, 7] (by decide +kernel) (by decide +kernel)
set_option maxRecDepth 20000 in
theorem gX10_some_X10_isClaim : GoodIn wsX10_some (va_wsS RX10 108 yX10_isClaim wsX10_isClaim) := goodIn_app (goodIn_of _ (by decide +kernel)) ggX10_some_X10_isClaim
set_option maxRecDepth 20000 in
theorem ggX10_some_X10_isNumber : GoodIn wsX10_some wsX10_isNumber := goodIn_r _ [10, 5, 6, 3, 7] (by decide +kernel) (by decide +kernel)
set_option maxRecDepth 20000 in
theorem gX10_some_X10_isNumber : GoodIn wsX10_some (va_wsS RX10 73 yX10_isNumber wsX10_isNumber) := goodIn_app (goodIn_of _ (by decide +kernel)) ggX10_some_X10_isNumber
set_option maxRecDepth 20000 in
theorem ggX10_some_X10_isThere : GoodIn wsX10_some wsX10_isThere := goodIn_r _ [14, 15, 75, 76, 77, 78, 79, 80, 81, 82, 83, 84, 85, 86, 87, 88, 89, 90, 91, 92, 93, 94] (by decide +kernel) (by decide +kernel)
set_option maxRecDepth 20000 in
theorem gX10_some_X10_isThere : GoodIn wsX10_some (wsV RX10 132 RX10 yX10_isThere wsX10_isThere) := goodIn_app (goodIn_of _ (by decide +kernel)) ggX10_some_X10_isThere
set_option maxRecDepth 20000 in
theorem ggX10_some_X10_quantifies : GoodIn wsX10_some wsX10_quantifies := goodIn_r _ [19, 20, 21, 22, 23, 24, 25, 26, 3, 27, 15, 28, 29, 30, 31, 32, 33, 34, 35, 36, 37, 38, 39, 40, 41, 42, 43, 44, 45, 46, 47, 48, 49, 50, 51, 52, 53, 54, 55, 56, 57, 58, 59, 60, 61, 62, 63, 64, 65, 66, 67, 68, 69, 70, 71, 72, 73, 74, 75, 76, 77, 78, 79, 80, 81, 82, 83, 84, 85, 86, 87, 88, 89, 90, 91, 92, 93, 94] (by decide +kernel) (by decide +kernel)
set_option maxRecDepth 20000 in
theorem gX10_some_X10_quantifies : GoodIn wsX10_some (wsV RX10 161 RX10 yX10_quantifies wsX10_quantifies) := goodIn_app (goodIn_of _ (by decide +kernel)) ggX10_some_X10_quantifies
theorem dX10_some_0 : decode cX10_some 0 = .ok (.iload_n 1, 1) := by decide +kernel
theorem dX10_some_1 : decode cX10_some 1 = .ok (.invokestatic 108, 3) := by decide +kernel
theorem dX10_some_4 : decode cX10_some 4 = .ok (.ifCond .eq 17, 3) := by decide +kernel
theorem dX10_some_7 : decode cX10_some 7 = .ok (.iload_n 2, 1) := by decide +kernel
theorem dX10_some_8 : decode cX10_some 8 = .ok (.invokestatic 108, 3) := by decide +kernel
theorem dX10_some_11 : decode cX10_some 11 = .ok (.ifCond .eq 10, 3) := by decide +kernel
theorem dX10_some_14 : decode cX10_some 14 = .ok (.iload_n 3, 1) := by decide +kernel
theorem dX10_some_15 : decode cX10_some 15 = .ok (.invokestatic 73, 3) := by decide +kernel
theorem dX10_some_18 : decode cX10_some 18 = .ok (.ifCond .ne 5, 3) := by decide +kernel
theorem dX10_some_21 : decode cX10_some 21 = .ok (.iconst (-1), 1) := by decide +kernel
theorem dX10_some_22 : decode cX10_some 22 = .ok (.ireturn, 1) := by decide +kernel
theorem dX10_some_23 : decode cX10_some 23 = .ok (.aload_n 0, 1) := by decide +kernel
theorem dX10_some_24 : decode cX10_some 24 = .ok (.iload_n 2, 1) := by decide +kernel
theorem dX10_some_25 : decode cX10_some 25 = .ok (.invokevirtual 132, 3) := by decide +kernel
theorem dX10_some_28 : decode cX10_some 28 = .ok (.ifCond .eq 14, 3) := by decide +kernel
theorem dX10_some_31 : decode cX10_some 31 = .ok (.aload_n 0, 1) := by decide +kernel
theorem dX10_some_32 : decode cX10_some 32 = .ok (.iload_n 1, 1) := by decide +kernel
theorem dX10_some_33 : decode cX10_some 33 = .ok (.iload_n 2, 1) := by decide +kernel
theorem dX10_some_34 : decode cX10_some 34 = .ok (.iload_n 3, 1) := by decide +kernel
theorem dX10_some_35 : decode cX10_some 35 = .ok (.iconst 0, 1) := by decide +kernel
theorem dX10_some_36 : decode cX10_some 36 = .ok (.invokevirtual 161, 3) := by decide +kernel
theorem dX10_some_39 : decode cX10_some 39 = .ok (.goto 5, 3) := by decide +kernel
theorem dX10_some_42 : decode cX10_some 42 = .ok (.bipush (-3), 2) := by decide +kernel
theorem dX10_some_44 : decode cX10_some 44 = .ok (.ireturn, 1) := by decide +kernel
set_option maxRecDepth 20000 in
theorem ggX10_all_X10_isClaim : GoodIn wsX10_all wsX10_isClaim := goodIn_r _ [4, 5, 6, 3, 7] (by decide +kernel) (by decide +kernel)
set_option maxRecDepth 20000 in
theorem gX10_all_X10_isClaim : GoodIn wsX10_all (va_wsS RX10 108 yX10_isClaim wsX10_isClaim) := goodIn_app (goodIn_of _ (by decide +kernel)) ggX10_all_X10_isClaim
set_option maxRecDepth 20000 in
theorem ggX10_all_X10_isNumber : GoodIn wsX10_all wsX10_isNumber := goodIn_r _ [10, 5, 6, 3, 7] (by decide +kernel) (by decide +kernel)
set_option maxRecDepth 20000 in
theorem gX10_all_X10_isNumber : GoodIn wsX10_all (va_wsS RX10 73 yX10_isNumber wsX10_isNumber) := goodIn_app (goodIn_of _ (by decide +kernel)) ggX10_all_X10_isNumber
set_option maxRecDepth 20000 in
theorem ggX10_all_X10_isThere : GoodIn wsX10_all wsX10_isThere := goodIn_r _ [14, 15, 75, 76, 77, 78, 79, 80, 81, 82, 83, 84, 85, 86, 87, 88, 89, 90, 91, 92, 93, 94] (by decide +kernel) (by decide +kernel)
set_option maxRecDepth 20000 in
theorem gX10_all_X10_isThere : GoodIn wsX10_all (wsV RX10 132 RX10 yX10_isThere wsX10_isThere) := goodIn_app (goodIn_of _ (by decide +kernel)) ggX10_all_X10_isThere
set_option maxRecDepth 20000 in
theorem ggX10_all_X10_quantifies : GoodIn wsX10_all wsX10_quantifies := goodIn_r _ [19, 20, 21, 22, 23, 24, 25, 26, 3, 27, 15, 28, 29, 30, 31, 32, 33, 34, 35, 36, 37, 38, 39, 40, 41, 42, 43, 44, 45, 46, 47, 48, 49, 50, 51, 52, 53, 54, 55, 56, 57, 58, 59, 60, 61, 62, 63, 64, 65, 66, 67, 68, 69, 70, 71, 72, 73, 74, 75, 76, 77, 78, 79, 80, 81, 82, 83, 84, 85, 86, 87, 88, 89, 90, 91, 92, 93, 94] (by decide +kernel) (by decide +kernel)
set_option maxRecDepth 20000 in
theorem gX10_all_X10_quantifies : GoodIn wsX10_all (wsV RX10 161 RX10 yX10_quantifies wsX10_quantifies) := goodIn_app (goodIn_of _ (by decide +kernel)) ggX10_all_X10_quantifies
theorem dX10_all_0 : decode cX10_all 0 = .ok (.iload_n 1, 1) := by decide +kernel
theorem dX10_all_1 : decode cX10_all 1 = .ok (.invokestatic 108, 3) := by decide +kernel
theorem dX10_all_4 : decode cX10_all 4 = .ok (.ifCond .eq 17, 3) := by decide +kernel
theorem dX10_all_7 : decode cX10_all 7 = .ok (.iload_n 2, 1) := by decide +kernel
theorem dX10_all_8 : decode cX10_all 8 = .ok (.invokestatic 108, 3) := by decide +kernel
theorem dX10_all_11 : decode cX10_all 11 = .ok (.ifCond .eq 10, 3) := by decide +kernel
theorem dX10_all_14 : decode cX10_all 14 = .ok (.iload_n 3, 1) := by decide +kernel
theorem dX10_all_15 : decode cX10_all 15 = .ok (.invokestatic 73, 3) := by decide +kernel
theorem dX10_all_18 : decode cX10_all 18 = .ok (.ifCond .ne 5, 3) := by decide +kernel
theorem dX10_all_21 : decode cX10_all 21 = .ok (.iconst (-1), 1) := by decide +kernel
theorem dX10_all_22 : decode cX10_all 22 = .ok (.ireturn, 1) := by decide +kernel
theorem dX10_all_23 : decode cX10_all 23 = .ok (.aload_n 0, 1) := by decide +kernel
theorem dX10_all_24 : decode cX10_all 24 = .ok (.iload_n 2, 1) := by decide +kernel
theorem dX10_all_25 : decode cX10_all 25 = .ok (.invokevirtual 132, 3) := by decide +kernel
theorem dX10_all_28 : decode cX10_all 28 = .ok (.ifCond .eq 14, 3) := by decide +kernel
theorem dX10_all_31 : decode cX10_all 31 = .ok (.aload_n 0, 1) := by decide +kernel
theorem dX10_all_32 : decode cX10_all 32 = .ok (.iload_n 1, 1) := by decide +kernel
theorem dX10_all_33 : decode cX10_all 33 = .ok (.iload_n 2, 1) := by decide +kernel
theorem dX10_all_34 : decode cX10_all 34 = .ok (.iload_n 3, 1) := by decide +kernel
theorem dX10_all_35 : decode cX10_all 35 = .ok (.iconst 1, 1) := by decide +kernel
theorem dX10_all_36 : decode cX10_all 36 = .ok (.invokevirtual 161, 3) := by decide +kernel
theorem dX10_all_39 : decode cX10_all 39 = .ok (.goto 5, 3) := by decide +kernel
theorem dX10_all_42 : decode cX10_all 42 = .ok (.bipush (-3), 2) := by decide +kernel
theorem dX10_all_44 : decode cX10_all 44 = .ok (.ireturn, 1) := by decide +kernel
set_option maxRecDepth 20000 in
theorem ggX10_holds_X10_isClaim : GoodIn wsX10_holds wsX10_isClaim := goodIn_r _ [5, 6, 7, 4, 8] (by decide +kernel) (by decide +kernel)
set_option maxRecDepth 20000 in
theorem gX10_holds_X10_isClaim : GoodIn wsX10_holds (va_wsS RX10 108 yX10_isClaim wsX10_isClaim) := goodIn_app (goodIn_of _ (by decide +kernel)) ggX10_holds_X10_isClaim
set_option maxRecDepth 20000 in
theorem ggX10_holds_X10_within : GoodIn wsX10_holds wsX10_within := goodIn_r _ [8] (by decide +kernel) (by decide +kernel)
set_option maxRecDepth 20000 in
theorem gX10_holds_X10_within : GoodIn wsX10_holds (va_wsS RX10 69 yX10_within wsX10_within) := goodIn_app (goodIn_of _ (by decide +kernel)) ggX10_holds_X10_within
set_option maxRecDepth 20000 in
theorem ggX10_holds_X10_isThere : GoodIn wsX10_holds wsX10_isThere := goodIn_r _ [12, 13, 24, 25, 26, 27, 28, 29, 30, 31, 32, 33, 34, 35, 36, 37, 38, 39, 40, 41, 42, 43] (by decide +kernel) (by decide +kernel)
set_option maxRecDepth 20000 in
theorem gX10_holds_X10_isThere : GoodIn wsX10_holds (wsV RX10 132 RX10 yX10_isThere wsX10_isThere) := goodIn_app (goodIn_of _ (by decide +kernel)) ggX10_holds_X10_isThere
set_option maxRecDepth 20000 in
theorem ggX10_holds_X10_next : GoodIn wsX10_holds wsX10_next := goodIn_r _ [17, 18, 24, 25, 26, 27, 28, 29, 30, 31, 32, 33, 34, 35, 36, 37, 38, 39, 40, 41, 42, 43] (by decide +kernel) (by decide +kernel)
set_option maxRecDepth 20000 in
theorem gX10_holds_X10_next : GoodIn wsX10_holds (wsV RX10 125 RX10 yX10_next wsX10_next) := goodIn_app (goodIn_of _ (by decide +kernel)) ggX10_holds_X10_next
set_option maxRecDepth 20000 in
theorem ggX10_holds_X10_holdsIn : GoodIn wsX10_holds wsX10_holdsIn := goodIn_r _ [22, 23, 24, 25, 26, 27, 28, 29, 30, 31, 32, 33, 34, 35, 36, 37, 38, 39, 40, 41, 42, 43] (by decide +kernel) (by decide +kernel)
set_option maxRecDepth 20000 in
theorem gX10_holds_X10_holdsIn : GoodIn wsX10_holds (wsV RX10 129 RX10 yX10_holdsIn wsX10_holdsIn) := goodIn_app (goodIn_of _ (by decide +kernel)) ggX10_holds_X10_holdsIn
theorem dX10_holds_0 : decode cX10_holds 0 = .ok (.iload_n 1, 1) := by decide +kernel
theorem dX10_holds_1 : decode cX10_holds 1 = .ok (.invokestatic 108, 3) := by decide +kernel
theorem dX10_holds_4 : decode cX10_holds 4 = .ok (.ifCond .ne 5, 3) := by decide +kernel
theorem dX10_holds_7 : decode cX10_holds 7 = .ok (.iconst (-1), 1) := by decide +kernel
theorem dX10_holds_8 : decode cX10_holds 8 = .ok (.ireturn, 1) := by decide +kernel
theorem dX10_holds_9 : decode cX10_holds 9 = .ok (.iload_n 2, 1) := by decide +kernel
theorem dX10_holds_10 : decode cX10_holds 10 = .ok (.iconst 0, 1) := by decide +kernel
theorem dX10_holds_11 : decode cX10_holds 11 = .ok (.ldc 80, 2) := by decide +kernel
theorem dX10_holds_13 : decode cX10_holds 13 = .ok (.invokestatic 69, 3) := by decide +kernel
theorem dX10_holds_16 : decode cX10_holds 16 = .ok (.ifCond .eq 24, 3) := by decide +kernel
theorem dX10_holds_19 : decode cX10_holds 19 = .ok (.iload_n 3, 1) := by decide +kernel
theorem dX10_holds_20 : decode cX10_holds 20 = .ok (.iconst 0, 1) := by decide +kernel
theorem dX10_holds_21 : decode cX10_holds 21 = .ok (.ldc 80, 2) := by decide +kernel
theorem dX10_holds_23 : decode cX10_holds 23 = .ok (.invokestatic 69, 3) := by decide +kernel
theorem dX10_holds_26 : decode cX10_holds 26 = .ok (.ifCond .eq 14, 3) := by decide +kernel
theorem dX10_holds_29 : decode cX10_holds 29 = .ok (.iload 4, 2) := by decide +kernel
theorem dX10_holds_31 : decode cX10_holds 31 = .ok (.iconst 0, 1) := by decide +kernel
theorem dX10_holds_32 : decode cX10_holds 32 = .ok (.ldc 80, 2) := by decide +kernel
theorem dX10_holds_34 : decode cX10_holds 34 = .ok (.invokestatic 69, 3) := by decide +kernel
theorem dX10_holds_37 : decode cX10_holds 37 = .ok (.ifCond .ne 6, 3) := by decide +kernel
theorem dX10_holds_40 : decode cX10_holds 40 = .ok (.bipush (-2), 2) := by decide +kernel
theorem dX10_holds_42 : decode cX10_holds 42 = .ok (.ireturn, 1) := by decide +kernel
theorem dX10_holds_43 : decode cX10_holds 43 = .ok (.aload_n 0, 1) := by decide +kernel
theorem dX10_holds_44 : decode cX10_holds 44 = .ok (.iload_n 1, 1) := by decide +kernel
theorem dX10_holds_45 : decode cX10_holds 45 = .ok (.invokevirtual 132, 3) := by decide +kernel
theorem dX10_holds_48 : decode cX10_holds 48 = .ok (.ifCond .ne 6, 3) := by decide +kernel
theorem dX10_holds_51 : decode cX10_holds 51 = .ok (.bipush (-3), 2) := by decide +kernel
theorem dX10_holds_53 : decode cX10_holds 53 = .ok (.ireturn, 1) := by decide +kernel
theorem dX10_holds_54 : decode cX10_holds 54 = .ok (.iconst 0, 1) := by decide +kernel
theorem dX10_holds_55 : decode cX10_holds 55 = .ok (.istore 5, 2) := by decide +kernel
theorem dX10_holds_57 : decode cX10_holds 57 = .ok (.bipush 29, 2) := by decide +kernel
theorem dX10_holds_59 : decode cX10_holds 59 = .ok (.istore 6, 2) := by decide +kernel
theorem dX10_holds_61 : decode cX10_holds 61 = .ok (.iload 6, 2) := by decide +kernel
theorem dX10_holds_63 : decode cX10_holds 63 = .ok (.ifCond .lt 43, 3) := by decide +kernel
theorem dX10_holds_66 : decode cX10_holds 66 = .ok (.aload_n 0, 1) := by decide +kernel
theorem dX10_holds_67 : decode cX10_holds 67 = .ok (.iload_n 1, 1) := by decide +kernel
theorem dX10_holds_68 : decode cX10_holds 68 = .ok (.iload 5, 2) := by decide +kernel
theorem dX10_holds_70 : decode cX10_holds 70 = .ok (.iload_n 2, 1) := by decide +kernel
theorem dX10_holds_71 : decode cX10_holds 71 = .ok (.iload 6, 2) := by decide +kernel
theorem dX10_holds_73 : decode cX10_holds 73 = .ok (.ishr, 1) := by decide +kernel
theorem dX10_holds_74 : decode cX10_holds 74 = .ok (.iconst 1, 1) := by decide +kernel
theorem dX10_holds_75 : decode cX10_holds 75 = .ok (.iand, 1) := by decide +kernel
theorem dX10_holds_76 : decode cX10_holds 76 = .ok (.iload_n 3, 1) := by decide +kernel
theorem dX10_holds_77 : decode cX10_holds 77 = .ok (.iload 6, 2) := by decide +kernel
theorem dX10_holds_79 : decode cX10_holds 79 = .ok (.ishr, 1) := by decide +kernel
theorem dX10_holds_80 : decode cX10_holds 80 = .ok (.iconst 1, 1) := by decide +kernel
theorem dX10_holds_81 : decode cX10_holds 81 = .ok (.iand, 1) := by decide +kernel
theorem dX10_holds_82 : decode cX10_holds 82 = .ok (.iconst 1, 1) := by decide +kernel
theorem dX10_holds_83 : decode cX10_holds 83 = .ok (.ishl, 1) := by decide +kernel
theorem dX10_holds_84 : decode cX10_holds 84 = .ok (.ior, 1) := by decide +kernel
theorem dX10_holds_85 : decode cX10_holds 85 = .ok (.iload 4, 2) := by decide +kernel
theorem dX10_holds_87 : decode cX10_holds 87 = .ok (.iload 6, 2) := by decide +kernel
theorem dX10_holds_89 : decode cX10_holds 89 = .ok (.ishr, 1) := by decide +kernel
theorem dX10_holds_90 : decode cX10_holds 90 = .ok (.iconst 1, 1) := by decide +kernel
theorem dX10_holds_91 : decode cX10_holds 91 = .ok (.iand, 1) := by decide +kernel
theorem dX10_holds_92 : decode cX10_holds 92 = .ok (.iconst 2, 1) := by decide +kernel
theorem dX10_holds_93 : decode cX10_holds 93 = .ok (.ishl, 1) := by decide +kernel
theorem dX10_holds_94 : decode cX10_holds 94 = .ok (.ior, 1) := by decide +kernel
theorem dX10_holds_95 : decode cX10_holds 95 = .ok (.invokevirtual 125, 3) := by decide +kernel
theorem dX10_holds_98 : decode cX10_holds 98 = .ok (.istore 5, 2) := by decide +kernel
theorem dX10_holds_100 : decode cX10_holds 100 = .ok (.iinc 6 (-1), 3) := by decide +kernel
theorem dX10_holds_103 : decode cX10_holds 103 = .ok (.goto (-42), 3) := by decide +kernel
theorem dX10_holds_106 : decode cX10_holds 106 = .ok (.aload_n 0, 1) := by decide +kernel
theorem dX10_holds_107 : decode cX10_holds 107 = .ok (.iload_n 1, 1) := by decide +kernel
theorem dX10_holds_108 : decode cX10_holds 108 = .ok (.iload 5, 2) := by decide +kernel
theorem dX10_holds_110 : decode cX10_holds 110 = .ok (.invokevirtual 129, 3) := by decide +kernel
theorem dX10_holds_113 : decode cX10_holds 113 = .ok (.ifCond .eq 7, 3) := by decide +kernel
theorem dX10_holds_116 : decode cX10_holds 116 = .ok (.iconst 1, 1) := by decide +kernel
theorem dX10_holds_117 : decode cX10_holds 117 = .ok (.goto 4, 3) := by decide +kernel
theorem dX10_holds_120 : decode cX10_holds 120 = .ok (.iconst 0, 1) := by decide +kernel
theorem dX10_holds_121 : decode cX10_holds 121 = .ok (.ireturn, 1) := by decide +kernel
set_option maxRecDepth 20000 in
theorem ggX10_dependsOn_X10_begins : GoodIn wsX10_dependsOn wsX10_begins := goodIn_r _ [7, 1, 8, 23, 24, 25, 26, 27, 28, 29, 30, 31, 32, 33, 34, 35, 36, 37, 38, 39, 40, 41, 42] (by decide +kernel) (by decide +kernel)
set_option maxRecDepth 20000 in
theorem gX10_dependsOn_X10_begins : GoodIn wsX10_dependsOn (wsV RX10 119 RX10 yX10_begins wsX10_begins) := goodIn_app (goodIn_of _ (by decide +kernel)) ggX10_dependsOn_X10_begins
set_option maxRecDepth 20000 in
theorem ggX10_dependsOn_X10_stateOf : GoodIn wsX10_dependsOn wsX10_stateOf := goodIn_r _ [12, 8, 1, 2, 23, 24, 25, 26, 27, 28, 29, 30, 31, 32, 33, 34, 35, 36, 37, 38, 39, 40, 41, 42] (by decide +kernel) (by decide +kernel)
set_option maxRecDepth 20000 in
theorem gX10_dependsOn_X10_stateOf : GoodIn wsX10_dependsOn (wsV RX10 122 RX10 yX10_stateOf wsX10_stateOf) := goodIn_app (goodIn_of _ (by decide +kernel)) ggX10_dependsOn_X10_stateOf
set_option maxRecDepth 20000 in
theorem ggX10_dependsOn_X10_holdsIn : GoodIn wsX10_dependsOn wsX10_holdsIn := goodIn_r _ [16, 17, 23, 24, 25, 26, 27, 28, 29, 30, 31, 32, 33, 34, 35, 36, 37, 38, 39, 40, 41, 42] (by decide +kernel) (by decide +kernel)
set_option maxRecDepth 20000 in
theorem gX10_dependsOn_X10_holdsIn : GoodIn wsX10_dependsOn (wsV RX10 129 RX10 yX10_holdsIn wsX10_holdsIn) := goodIn_app (goodIn_of _ (by decide +kernel)) ggX10_dependsOn_X10_holdsIn
set_option maxRecDepth 20000 in
theorem ggX10_dependsOn_X10_next : GoodIn wsX10_dependsOn wsX10_next := goodIn_r _ [21, 22, 23, 24, 25, 26, 27, 28, 29, 30, 31, 32, 33, 34, 35, 36, 37, 38, 39, 40, 41, 42] (by decide +kernel) (by decide +kernel)
set_option maxRecDepth 20000 in
theorem gX10_dependsOn_X10_next : GoodIn wsX10_dependsOn (wsV RX10 125 RX10 yX10_next wsX10_next) := goodIn_app (goodIn_of _ (by decide +kernel)) ggX10_dependsOn_X10_next
theorem dX10_dependsOn_0 : decode cX10_dependsOn 0 = .ok (.aload_n 0, 1) := by decide +kernel
theorem dX10_dependsOn_1 : decode cX10_dependsOn 1 = .ok (.invokevirtual 119, 3) := by decide +kernel
theorem dX10_dependsOn_4 : decode cX10_dependsOn 4 = .ok (.aload_n 0, 1) := by decide +kernel
theorem dX10_dependsOn_5 : decode cX10_dependsOn 5 = .ok (.iconst 0, 1) := by decide +kernel
theorem dX10_dependsOn_6 : decode cX10_dependsOn 6 = .ok (.invokevirtual 122, 3) := by decide +kernel
theorem dX10_dependsOn_9 : decode cX10_dependsOn 9 = .ok (.pop, 1) := by decide +kernel
theorem dX10_dependsOn_10 : decode cX10_dependsOn 10 = .ok (.iconst 0, 1) := by decide +kernel
theorem dX10_dependsOn_11 : decode cX10_dependsOn 11 = .ok (.istore_n 3, 1) := by decide +kernel
theorem dX10_dependsOn_12 : decode cX10_dependsOn 12 = .ok (.iconst 0, 1) := by decide +kernel
theorem dX10_dependsOn_13 : decode cX10_dependsOn 13 = .ok (.istore 4, 2) := by decide +kernel
theorem dX10_dependsOn_15 : decode cX10_dependsOn 15 = .ok (.iload 4, 2) := by decide +kernel
theorem dX10_dependsOn_17 : decode cX10_dependsOn 17 = .ok (.aload_n 0, 1) := by decide +kernel
theorem dX10_dependsOn_18 : decode cX10_dependsOn 18 = .ok (.getfield 81, 3) := by decide +kernel
theorem dX10_dependsOn_21 : decode cX10_dependsOn 21 = .ok (.if_icmp .ge 134, 3) := by decide +kernel
theorem dX10_dependsOn_24 : decode cX10_dependsOn 24 = .ok (.iload_n 3, 1) := by decide +kernel
theorem dX10_dependsOn_25 : decode cX10_dependsOn 25 = .ok (.ifCond .ne 130, 3) := by decide +kernel
theorem dX10_dependsOn_28 : decode cX10_dependsOn 28 = .ok (.aload_n 0, 1) := by decide +kernel
theorem dX10_dependsOn_29 : decode cX10_dependsOn 29 = .ok (.getfield 26, 3) := by decide +kernel
theorem dX10_dependsOn_32 : decode cX10_dependsOn 32 = .ok (.iload 4, 2) := by decide +kernel
theorem dX10_dependsOn_34 : decode cX10_dependsOn 34 = .ok (.iaload, 1) := by decide +kernel
theorem dX10_dependsOn_35 : decode cX10_dependsOn 35 = .ok (.bipush 60, 2) := by decide +kernel
theorem dX10_dependsOn_37 : decode cX10_dependsOn 37 = .ok (.idiv, 1) := by decide +kernel
theorem dX10_dependsOn_38 : decode cX10_dependsOn 38 = .ok (.istore 5, 2) := by decide +kernel
theorem dX10_dependsOn_40 : decode cX10_dependsOn 40 = .ok (.aload_n 0, 1) := by decide +kernel
theorem dX10_dependsOn_41 : decode cX10_dependsOn 41 = .ok (.getfield 26, 3) := by decide +kernel
theorem dX10_dependsOn_44 : decode cX10_dependsOn 44 = .ok (.iload 4, 2) := by decide +kernel
theorem dX10_dependsOn_46 : decode cX10_dependsOn 46 = .ok (.iaload, 1) := by decide +kernel
theorem dX10_dependsOn_47 : decode cX10_dependsOn 47 = .ok (.bipush 60, 2) := by decide +kernel
theorem dX10_dependsOn_49 : decode cX10_dependsOn 49 = .ok (.irem, 1) := by decide +kernel
theorem dX10_dependsOn_50 : decode cX10_dependsOn 50 = .ok (.istore 6, 2) := by decide +kernel
theorem dX10_dependsOn_52 : decode cX10_dependsOn 52 = .ok (.aload_n 0, 1) := by decide +kernel
theorem dX10_dependsOn_53 : decode cX10_dependsOn 53 = .ok (.iload_n 1, 1) := by decide +kernel
theorem dX10_dependsOn_54 : decode cX10_dependsOn 54 = .ok (.iload 5, 2) := by decide +kernel
theorem dX10_dependsOn_56 : decode cX10_dependsOn 56 = .ok (.invokevirtual 129, 3) := by decide +kernel
theorem dX10_dependsOn_59 : decode cX10_dependsOn 59 = .ok (.aload_n 0, 1) := by decide +kernel
theorem dX10_dependsOn_60 : decode cX10_dependsOn 60 = .ok (.iload_n 1, 1) := by decide +kernel
theorem dX10_dependsOn_61 : decode cX10_dependsOn 61 = .ok (.iload 6, 2) := by decide +kernel
theorem dX10_dependsOn_63 : decode cX10_dependsOn 63 = .ok (.invokevirtual 129, 3) := by decide +kernel
theorem dX10_dependsOn_66 : decode cX10_dependsOn 66 = .ok (.if_icmp .eq 7, 3) := by decide +kernel
theorem dX10_dependsOn_69 : decode cX10_dependsOn 69 = .ok (.iconst 1, 1) := by decide +kernel
theorem dX10_dependsOn_70 : decode cX10_dependsOn 70 = .ok (.goto 4, 3) := by decide +kernel
theorem dX10_dependsOn_73 : decode cX10_dependsOn 73 = .ok (.iconst 0, 1) := by decide +kernel
theorem dX10_dependsOn_74 : decode cX10_dependsOn 74 = .ok (.istore_n 3, 1) := by decide +kernel
theorem dX10_dependsOn_75 : decode cX10_dependsOn 75 = .ok (.iconst 0, 1) := by decide +kernel
theorem dX10_dependsOn_76 : decode cX10_dependsOn 76 = .ok (.istore 7, 2) := by decide +kernel
theorem dX10_dependsOn_78 : decode cX10_dependsOn 78 = .ok (.iload 7, 2) := by decide +kernel
theorem dX10_dependsOn_80 : decode cX10_dependsOn 80 = .ok (.bipush 8, 2) := by decide +kernel
theorem dX10_dependsOn_82 : decode cX10_dependsOn 82 = .ok (.if_icmp .ge 67, 3) := by decide +kernel
theorem dX10_dependsOn_85 : decode cX10_dependsOn 85 = .ok (.aload_n 0, 1) := by decide +kernel
theorem dX10_dependsOn_86 : decode cX10_dependsOn 86 = .ok (.bipush 60, 2) := by decide +kernel
theorem dX10_dependsOn_88 : decode cX10_dependsOn 88 = .ok (.aload_n 0, 1) := by decide +kernel
theorem dX10_dependsOn_89 : decode cX10_dependsOn 89 = .ok (.iload_n 1, 1) := by decide +kernel
theorem dX10_dependsOn_90 : decode cX10_dependsOn 90 = .ok (.iload 5, 2) := by decide +kernel
theorem dX10_dependsOn_92 : decode cX10_dependsOn 92 = .ok (.iload 7, 2) := by decide +kernel
theorem dX10_dependsOn_94 : decode cX10_dependsOn 94 = .ok (.invokevirtual 125, 3) := by decide +kernel
theorem dX10_dependsOn_97 : decode cX10_dependsOn 97 = .ok (.imul, 1) := by decide +kernel
theorem dX10_dependsOn_98 : decode cX10_dependsOn 98 = .ok (.aload_n 0, 1) := by decide +kernel
theorem dX10_dependsOn_99 : decode cX10_dependsOn 99 = .ok (.iload_n 1, 1) := by decide +kernel
theorem dX10_dependsOn_100 : decode cX10_dependsOn 100 = .ok (.iload 6, 2) := by decide +kernel
theorem dX10_dependsOn_102 : decode cX10_dependsOn 102 = .ok (.iload 7, 2) := by decide +kernel
theorem dX10_dependsOn_104 : decode cX10_dependsOn 104 = .ok (.invokevirtual 125, 3) := by decide +kernel
theorem dX10_dependsOn_107 : decode cX10_dependsOn 107 = .ok (.iadd, 1) := by decide +kernel
theorem dX10_dependsOn_108 : decode cX10_dependsOn 108 = .ok (.invokevirtual 122, 3) := by decide +kernel
theorem dX10_dependsOn_111 : decode cX10_dependsOn 111 = .ok (.pop, 1) := by decide +kernel
theorem dX10_dependsOn_112 : decode cX10_dependsOn 112 = .ok (.aload_n 0, 1) := by decide +kernel
theorem dX10_dependsOn_113 : decode cX10_dependsOn 113 = .ok (.bipush 60, 2) := by decide +kernel
theorem dX10_dependsOn_115 : decode cX10_dependsOn 115 = .ok (.aload_n 0, 1) := by decide +kernel
theorem dX10_dependsOn_116 : decode cX10_dependsOn 116 = .ok (.iload_n 1, 1) := by decide +kernel
theorem dX10_dependsOn_117 : decode cX10_dependsOn 117 = .ok (.iload 5, 2) := by decide +kernel
theorem dX10_dependsOn_119 : decode cX10_dependsOn 119 = .ok (.iload 7, 2) := by decide +kernel
theorem dX10_dependsOn_121 : decode cX10_dependsOn 121 = .ok (.invokevirtual 125, 3) := by decide +kernel
theorem dX10_dependsOn_124 : decode cX10_dependsOn 124 = .ok (.imul, 1) := by decide +kernel
theorem dX10_dependsOn_125 : decode cX10_dependsOn 125 = .ok (.aload_n 0, 1) := by decide +kernel
theorem dX10_dependsOn_126 : decode cX10_dependsOn 126 = .ok (.iload_n 1, 1) := by decide +kernel
theorem dX10_dependsOn_127 : decode cX10_dependsOn 127 = .ok (.iload 6, 2) := by decide +kernel
theorem dX10_dependsOn_129 : decode cX10_dependsOn 129 = .ok (.iload 7, 2) := by decide +kernel
theorem dX10_dependsOn_131 : decode cX10_dependsOn 131 = .ok (.iconst 1, 1) := by decide +kernel
theorem dX10_dependsOn_132 : decode cX10_dependsOn 132 = .ok (.iload_n 2, 1) := by decide +kernel
theorem dX10_dependsOn_133 : decode cX10_dependsOn 133 = .ok (.ishl, 1) := by decide +kernel
theorem dX10_dependsOn_134 : decode cX10_dependsOn 134 = .ok (.ixor, 1) := by decide +kernel
theorem dX10_dependsOn_135 : decode cX10_dependsOn 135 = .ok (.invokevirtual 125, 3) := by decide +kernel
theorem dX10_dependsOn_138 : decode cX10_dependsOn 138 = .ok (.iadd, 1) := by decide +kernel
theorem dX10_dependsOn_139 : decode cX10_dependsOn 139 = .ok (.invokevirtual 122, 3) := by decide +kernel
theorem dX10_dependsOn_142 : decode cX10_dependsOn 142 = .ok (.pop, 1) := by decide +kernel
theorem dX10_dependsOn_143 : decode cX10_dependsOn 143 = .ok (.iinc 7 1, 3) := by decide +kernel
theorem dX10_dependsOn_146 : decode cX10_dependsOn 146 = .ok (.goto (-68), 3) := by decide +kernel
theorem dX10_dependsOn_149 : decode cX10_dependsOn 149 = .ok (.iinc 4 1, 3) := by decide +kernel
theorem dX10_dependsOn_152 : decode cX10_dependsOn 152 = .ok (.goto (-137), 3) := by decide +kernel
theorem dX10_dependsOn_155 : decode cX10_dependsOn 155 = .ok (.iload_n 3, 1) := by decide +kernel
theorem dX10_dependsOn_156 : decode cX10_dependsOn 156 = .ok (.ireturn, 1) := by decide +kernel
set_option maxRecDepth 20000 in
theorem ggX10_depends_X10_isClaim : GoodIn wsX10_depends wsX10_isClaim := goodIn_r _ [4, 5, 6, 3, 7] (by decide +kernel) (by decide +kernel)
set_option maxRecDepth 20000 in
theorem gX10_depends_X10_isClaim : GoodIn wsX10_depends (va_wsS RX10 108 yX10_isClaim wsX10_isClaim) := goodIn_app (goodIn_of _ (by decide +kernel)) ggX10_depends_X10_isClaim
set_option maxRecDepth 20000 in
theorem ggX10_depends_X10_isThere : GoodIn wsX10_depends wsX10_isThere := goodIn_r _ [11, 12, 38, 39, 40, 41, 42, 43, 44, 45, 46, 47, 48, 49, 50, 51, 52, 53, 54, 55, 56, 57] (by decide +kernel) (by decide +kernel)
set_option maxRecDepth 20000 in
theorem gX10_depends_X10_isThere : GoodIn wsX10_depends (wsV RX10 132 RX10 yX10_isThere wsX10_isThere) := goodIn_app (goodIn_of _ (by decide +kernel)) ggX10_depends_X10_isThere
set_option maxRecDepth 20000 in
theorem ggX10_depends_X10_dependsOn : GoodIn wsX10_depends wsX10_dependsOn := goodIn_r _ [16, 17, 18, 19, 20, 21, 3, 22, 23, 24, 25, 26, 27, 28, 29, 30, 31, 32, 33, 34, 35, 36, 37, 38, 39, 40, 41, 42, 43, 44, 45, 46, 47, 48, 49, 50, 51, 52, 53, 54, 55, 56, 57] (by decide +kernel) (by decide +kernel)
set_option maxRecDepth 20000 in
theorem gX10_depends_X10_dependsOn : GoodIn wsX10_depends (wsV RX10 164 RX10 yX10_dependsOn wsX10_dependsOn) := goodIn_app (goodIn_of _ (by decide +kernel)) ggX10_depends_X10_dependsOn
theorem dX10_depends_0 : decode cX10_depends 0 = .ok (.iload_n 1, 1) := by decide +kernel
theorem dX10_depends_1 : decode cX10_depends 1 = .ok (.invokestatic 108, 3) := by decide +kernel
theorem dX10_depends_4 : decode cX10_depends 4 = .ok (.ifCond .ne 5, 3) := by decide +kernel
theorem dX10_depends_7 : decode cX10_depends 7 = .ok (.iconst (-1), 1) := by decide +kernel
theorem dX10_depends_8 : decode cX10_depends 8 = .ok (.ireturn, 1) := by decide +kernel
theorem dX10_depends_9 : decode cX10_depends 9 = .ok (.aload_n 0, 1) := by decide +kernel
theorem dX10_depends_10 : decode cX10_depends 10 = .ok (.iload_n 1, 1) := by decide +kernel
theorem dX10_depends_11 : decode cX10_depends 11 = .ok (.invokevirtual 132, 3) := by decide +kernel
theorem dX10_depends_14 : decode cX10_depends 14 = .ok (.ifCond .ne 6, 3) := by decide +kernel
theorem dX10_depends_17 : decode cX10_depends 17 = .ok (.bipush (-3), 2) := by decide +kernel
theorem dX10_depends_19 : decode cX10_depends 19 = .ok (.ireturn, 1) := by decide +kernel
theorem dX10_depends_20 : decode cX10_depends 20 = .ok (.iconst 0, 1) := by decide +kernel
theorem dX10_depends_21 : decode cX10_depends 21 = .ok (.istore_n 2, 1) := by decide +kernel
theorem dX10_depends_22 : decode cX10_depends 22 = .ok (.iconst 0, 1) := by decide +kernel
theorem dX10_depends_23 : decode cX10_depends 23 = .ok (.istore_n 3, 1) := by decide +kernel
theorem dX10_depends_24 : decode cX10_depends 24 = .ok (.iload_n 3, 1) := by decide +kernel
theorem dX10_depends_25 : decode cX10_depends 25 = .ok (.iconst 3, 1) := by decide +kernel
theorem dX10_depends_26 : decode cX10_depends 26 = .ok (.if_icmp .ge 28, 3) := by decide +kernel
theorem dX10_depends_29 : decode cX10_depends 29 = .ok (.iload_n 2, 1) := by decide +kernel
theorem dX10_depends_30 : decode cX10_depends 30 = .ok (.aload_n 0, 1) := by decide +kernel
theorem dX10_depends_31 : decode cX10_depends 31 = .ok (.iload_n 1, 1) := by decide +kernel
theorem dX10_depends_32 : decode cX10_depends 32 = .ok (.iload_n 3, 1) := by decide +kernel
theorem dX10_depends_33 : decode cX10_depends 33 = .ok (.invokevirtual 164, 3) := by decide +kernel
theorem dX10_depends_36 : decode cX10_depends 36 = .ok (.ifCond .eq 9, 3) := by decide +kernel
theorem dX10_depends_39 : decode cX10_depends 39 = .ok (.iconst 1, 1) := by decide +kernel
theorem dX10_depends_40 : decode cX10_depends 40 = .ok (.iload_n 3, 1) := by decide +kernel
theorem dX10_depends_41 : decode cX10_depends 41 = .ok (.ishl, 1) := by decide +kernel
theorem dX10_depends_42 : decode cX10_depends 42 = .ok (.goto 4, 3) := by decide +kernel
theorem dX10_depends_45 : decode cX10_depends 45 = .ok (.iconst 0, 1) := by decide +kernel
theorem dX10_depends_46 : decode cX10_depends 46 = .ok (.ior, 1) := by decide +kernel
theorem dX10_depends_47 : decode cX10_depends 47 = .ok (.istore_n 2, 1) := by decide +kernel
theorem dX10_depends_48 : decode cX10_depends 48 = .ok (.iinc 3 1, 3) := by decide +kernel
theorem dX10_depends_51 : decode cX10_depends 51 = .ok (.goto (-27), 3) := by decide +kernel
theorem dX10_depends_54 : decode cX10_depends 54 = .ok (.iload_n 2, 1) := by decide +kernel
theorem dX10_depends_55 : decode cX10_depends 55 = .ok (.ireturn, 1) := by decide +kernel
set_option maxRecDepth 20000 in
theorem ggX10_kinds_X10_isClaim : GoodIn wsX10_kinds wsX10_isClaim := goodIn_r _ [5, 6, 7, 4, 8] (by decide +kernel) (by decide +kernel)
set_option maxRecDepth 20000 in
theorem gX10_kinds_X10_isClaim : GoodIn wsX10_kinds (va_wsS RX10 108 yX10_isClaim wsX10_isClaim) := goodIn_app (goodIn_of _ (by decide +kernel)) ggX10_kinds_X10_isClaim
set_option maxRecDepth 20000 in
theorem ggX10_kinds_X10_isThere : GoodIn wsX10_kinds wsX10_isThere := goodIn_r _ [12, 1, 13, 14, 15, 16, 17, 18, 19, 20, 21, 22, 23, 24, 25, 26, 27, 28, 29, 30, 31, 32] (by decide +kernel) (by decide +kernel)
set_option maxRecDepth 20000 in
theorem gX10_kinds_X10_isThere : GoodIn wsX10_kinds (wsV RX10 132 RX10 yX10_isThere wsX10_isThere) := goodIn_app (goodIn_of _ (by decide +kernel)) ggX10_kinds_X10_isThere
theorem dX10_kinds_0 : decode cX10_kinds 0 = .ok (.iload_n 1, 1) := by decide +kernel
theorem dX10_kinds_1 : decode cX10_kinds 1 = .ok (.invokestatic 108, 3) := by decide +kernel
theorem dX10_kinds_4 : decode cX10_kinds 4 = .ok (.ifCond .ne 5, 3) := by decide +kernel
theorem dX10_kinds_7 : decode cX10_kinds 7 = .ok (.iconst (-1), 1) := by decide +kernel
theorem dX10_kinds_8 : decode cX10_kinds 8 = .ok (.ireturn, 1) := by decide +kernel
theorem dX10_kinds_9 : decode cX10_kinds 9 = .ok (.aload_n 0, 1) := by decide +kernel
theorem dX10_kinds_10 : decode cX10_kinds 10 = .ok (.iload_n 1, 1) := by decide +kernel
theorem dX10_kinds_11 : decode cX10_kinds 11 = .ok (.invokevirtual 132, 3) := by decide +kernel
theorem dX10_kinds_14 : decode cX10_kinds 14 = .ok (.ifCond .eq 12, 3) := by decide +kernel
theorem dX10_kinds_17 : decode cX10_kinds 17 = .ok (.aload_n 0, 1) := by decide +kernel
theorem dX10_kinds_18 : decode cX10_kinds 18 = .ok (.getfield 16, 3) := by decide +kernel
theorem dX10_kinds_21 : decode cX10_kinds 21 = .ok (.iload_n 1, 1) := by decide +kernel
theorem dX10_kinds_22 : decode cX10_kinds 22 = .ok (.iaload, 1) := by decide +kernel
theorem dX10_kinds_23 : decode cX10_kinds 23 = .ok (.goto 5, 3) := by decide +kernel
theorem dX10_kinds_26 : decode cX10_kinds 26 = .ok (.bipush (-3), 2) := by decide +kernel
theorem dX10_kinds_28 : decode cX10_kinds 28 = .ok (.ireturn, 1) := by decide +kernel
set_option maxRecDepth 20000 in
theorem ggX10_below_X10_isClaim : GoodIn wsX10_below wsX10_isClaim := goodIn_r _ [8, 9, 10, 7, 11] (by decide +kernel) (by decide +kernel)
set_option maxRecDepth 20000 in
theorem gX10_below_X10_isClaim : GoodIn wsX10_below (va_wsS RX10 108 yX10_isClaim wsX10_isClaim) := goodIn_app (goodIn_of _ (by decide +kernel)) ggX10_below_X10_isClaim
set_option maxRecDepth 20000 in
theorem ggX10_below_X10_within : GoodIn wsX10_below wsX10_within := goodIn_r _ [11] (by decide +kernel) (by decide +kernel)
set_option maxRecDepth 20000 in
theorem gX10_below_X10_within : GoodIn wsX10_below (va_wsS RX10 69 yX10_within wsX10_within) := goodIn_app (goodIn_of _ (by decide +kernel)) ggX10_below_X10_within
set_option maxRecDepth 20000 in
theorem ggX10_below_X10_isThere : GoodIn wsX10_below wsX10_isThere := goodIn_r _ [15, 4, 26, 27, 28, 29, 30, 31, 32, 33, 34, 35, 36, 37, 38, 39, 40, 41, 42, 43, 44, 45] (by decide +kernel) (by decide +kernel)
set_option maxRecDepth 20000 in
theorem gX10_below_X10_isThere : GoodIn wsX10_below (wsV RX10 132 RX10 yX10_isThere wsX10_isThere) := goodIn_app (goodIn_of _ (by decide +kernel)) ggX10_below_X10_isThere
set_option maxRecDepth 20000 in
theorem ggX10_below_X10_next : GoodIn wsX10_below wsX10_next := goodIn_r _ [19, 20, 26, 27, 28, 29, 30, 31, 32, 33, 34, 35, 36, 37, 38, 39, 40, 41, 42, 43, 44, 45] (by decide +kernel) (by decide +kernel)
set_option maxRecDepth 20000 in
theorem gX10_below_X10_next : GoodIn wsX10_below (wsV RX10 125 RX10 yX10_next wsX10_next) := goodIn_app (goodIn_of _ (by decide +kernel)) ggX10_below_X10_next
set_option maxRecDepth 20000 in
theorem ggX10_below_X10_holdsIn : GoodIn wsX10_below wsX10_holdsIn := goodIn_r _ [24, 25, 26, 27, 28, 29, 30, 31, 32, 33, 34, 35, 36, 37, 38, 39, 40, 41, 42, 43, 44, 45] (by decide +kernel) (by decide +kernel)
set_option maxRecDepth 20000 in
theorem gX10_below_X10_holdsIn : GoodIn wsX10_below (wsV RX10 129 RX10 yX10_holdsIn wsX10_holdsIn) := goodIn_app (goodIn_of _ (by decide +kernel)) ggX10_below_X10_holdsIn
theorem dX10_below_0 : decode cX10_below 0 = .ok (.iload_n 1, 1) := by decide +kernel
theorem dX10_below_1 : decode cX10_below 1 = .ok (.invokestatic 108, 3) := by decide +kernel
theorem dX10_below_4 : decode cX10_below 4 = .ok (.ifCond .eq 21, 3) := by decide +kernel
theorem dX10_below_7 : decode cX10_below 7 = .ok (.iload_n 2, 1) := by decide +kernel
theorem dX10_below_8 : decode cX10_below 8 = .ok (.iconst 0, 1) := by decide +kernel
theorem dX10_below_9 : decode cX10_below 9 = .ok (.bipush 12, 2) := by decide +kernel
theorem dX10_below_11 : decode cX10_below 11 = .ok (.invokestatic 69, 3) := by decide +kernel
theorem dX10_below_14 : decode cX10_below 14 = .ok (.ifCond .eq 11, 3) := by decide +kernel
theorem dX10_below_17 : decode cX10_below 17 = .ok (.aload_n 0, 1) := by decide +kernel
theorem dX10_below_18 : decode cX10_below 18 = .ok (.iload_n 1, 1) := by decide +kernel
theorem dX10_below_19 : decode cX10_below 19 = .ok (.invokevirtual 132, 3) := by decide +kernel
theorem dX10_below_22 : decode cX10_below 22 = .ok (.ifCond .ne 7, 3) := by decide +kernel
theorem dX10_below_25 : decode cX10_below 25 = .ok (.ldc2_w 167, 3) := by decide +kernel
theorem dX10_below_28 : decode cX10_below 28 = .ok (.lreturn, 1) := by decide +kernel
theorem dX10_below_29 : decode cX10_below 29 = .ok (.iconst 0, 1) := by decide +kernel
theorem dX10_below_30 : decode cX10_below 30 = .ok (.istore_n 3, 1) := by decide +kernel
theorem dX10_below_31 : decode cX10_below 31 = .ok (.iload_n 3, 1) := by decide +kernel
theorem dX10_below_32 : decode cX10_below 32 = .ok (.bipush 60, 2) := by decide +kernel
theorem dX10_below_34 : decode cX10_below 34 = .ok (.if_icmp .ge 24, 3) := by decide +kernel
theorem dX10_below_37 : decode cX10_below 37 = .ok (.aload_n 0, 1) := by decide +kernel
theorem dX10_below_38 : decode cX10_below 38 = .ok (.getfield 57, 3) := by decide +kernel
theorem dX10_below_41 : decode cX10_below 41 = .ok (.iload_n 3, 1) := by decide +kernel
theorem dX10_below_42 : decode cX10_below 42 = .ok (.iload_n 3, 1) := by decide +kernel
theorem dX10_below_43 : decode cX10_below 43 = .ok (.ifCond .ne 7, 3) := by decide +kernel
theorem dX10_below_46 : decode cX10_below 46 = .ok (.lconst 1, 1) := by decide +kernel
theorem dX10_below_47 : decode cX10_below 47 = .ok (.goto 4, 3) := by decide +kernel
theorem dX10_below_50 : decode cX10_below 50 = .ok (.lconst 0, 1) := by decide +kernel
theorem dX10_below_51 : decode cX10_below 51 = .ok (.lastore, 1) := by decide +kernel
theorem dX10_below_52 : decode cX10_below 52 = .ok (.iinc 3 1, 3) := by decide +kernel
theorem dX10_below_55 : decode cX10_below 55 = .ok (.goto (-24), 3) := by decide +kernel
theorem dX10_below_58 : decode cX10_below 58 = .ok (.iconst 0, 1) := by decide +kernel
theorem dX10_below_59 : decode cX10_below 59 = .ok (.istore_n 3, 1) := by decide +kernel
theorem dX10_below_60 : decode cX10_below 60 = .ok (.iload_n 3, 1) := by decide +kernel
theorem dX10_below_61 : decode cX10_below 61 = .ok (.iload_n 2, 1) := by decide +kernel
theorem dX10_below_62 : decode cX10_below 62 = .ok (.if_icmp .ge 119, 3) := by decide +kernel
theorem dX10_below_65 : decode cX10_below 65 = .ok (.iconst 0, 1) := by decide +kernel
theorem dX10_below_66 : decode cX10_below 66 = .ok (.istore 4, 2) := by decide +kernel
theorem dX10_below_68 : decode cX10_below 68 = .ok (.iload 4, 2) := by decide +kernel
theorem dX10_below_70 : decode cX10_below 70 = .ok (.bipush 60, 2) := by decide +kernel
theorem dX10_below_72 : decode cX10_below 72 = .ok (.if_icmp .ge 17, 3) := by decide +kernel
theorem dX10_below_75 : decode cX10_below 75 = .ok (.aload_n 0, 1) := by decide +kernel
theorem dX10_below_76 : decode cX10_below 76 = .ok (.getfield 60, 3) := by decide +kernel
theorem dX10_below_79 : decode cX10_below 79 = .ok (.iload 4, 2) := by decide +kernel
theorem dX10_below_81 : decode cX10_below 81 = .ok (.lconst 0, 1) := by decide +kernel
theorem dX10_below_82 : decode cX10_below 82 = .ok (.lastore, 1) := by decide +kernel
theorem dX10_below_83 : decode cX10_below 83 = .ok (.iinc 4 1, 3) := by decide +kernel
theorem dX10_below_86 : decode cX10_below 86 = .ok (.goto (-18), 3) := by decide +kernel
theorem dX10_below_89 : decode cX10_below 89 = .ok (.iconst 0, 1) := by decide +kernel
theorem dX10_below_90 : decode cX10_below 90 = .ok (.istore 4, 2) := by decide +kernel
theorem dX10_below_92 : decode cX10_below 92 = .ok (.iload 4, 2) := by decide +kernel
theorem dX10_below_94 : decode cX10_below 94 = .ok (.bipush 8, 2) := by decide +kernel
theorem dX10_below_96 : decode cX10_below 96 = .ok (.aload_n 0, 1) := by decide +kernel
theorem dX10_below_97 : decode cX10_below 97 = .ok (.getfield 16, 3) := by decide +kernel
theorem dX10_below_100 : decode cX10_below 100 = .ok (.iload_n 1, 1) := by decide +kernel
theorem dX10_below_101 : decode cX10_below 101 = .ok (.iaload, 1) := by decide +kernel
theorem dX10_below_102 : decode cX10_below 102 = .ok (.imul, 1) := by decide +kernel
theorem dX10_below_103 : decode cX10_below 103 = .ok (.if_icmp .ge 42, 3) := by decide +kernel
theorem dX10_below_106 : decode cX10_below 106 = .ok (.aload_n 0, 1) := by decide +kernel
theorem dX10_below_107 : decode cX10_below 107 = .ok (.getfield 60, 3) := by decide +kernel
theorem dX10_below_110 : decode cX10_below 110 = .ok (.aload_n 0, 1) := by decide +kernel
theorem dX10_below_111 : decode cX10_below 111 = .ok (.iload_n 1, 1) := by decide +kernel
theorem dX10_below_112 : decode cX10_below 112 = .ok (.iload 4, 2) := by decide +kernel
theorem dX10_below_114 : decode cX10_below 114 = .ok (.bipush 8, 2) := by decide +kernel
theorem dX10_below_116 : decode cX10_below 116 = .ok (.idiv, 1) := by decide +kernel
theorem dX10_below_117 : decode cX10_below 117 = .ok (.iload 4, 2) := by decide +kernel
theorem dX10_below_119 : decode cX10_below 119 = .ok (.bipush 8, 2) := by decide +kernel
theorem dX10_below_121 : decode cX10_below 121 = .ok (.irem, 1) := by decide +kernel
theorem dX10_below_122 : decode cX10_below 122 = .ok (.invokevirtual 125, 3) := by decide +kernel
theorem dX10_below_125 : decode cX10_below 125 = .ok (.dup2, 1) := by decide +kernel
theorem dX10_below_126 : decode cX10_below 126 = .ok (.laload, 1) := by decide +kernel
theorem dX10_below_127 : decode cX10_below 127 = .ok (.aload_n 0, 1) := by decide +kernel
theorem dX10_below_128 : decode cX10_below 128 = .ok (.getfield 57, 3) := by decide +kernel
theorem dX10_below_131 : decode cX10_below 131 = .ok (.iload 4, 2) := by decide +kernel
theorem dX10_below_133 : decode cX10_below 133 = .ok (.bipush 8, 2) := by decide +kernel
theorem dX10_below_135 : decode cX10_below 135 = .ok (.idiv, 1) := by decide +kernel
theorem dX10_below_136 : decode cX10_below 136 = .ok (.laload, 1) := by decide +kernel
theorem dX10_below_137 : decode cX10_below 137 = .ok (.ladd, 1) := by decide +kernel
theorem dX10_below_138 : decode cX10_below 138 = .ok (.lastore, 1) := by decide +kernel
theorem dX10_below_139 : decode cX10_below 139 = .ok (.iinc 4 1, 3) := by decide +kernel
theorem dX10_below_142 : decode cX10_below 142 = .ok (.goto (-50), 3) := by decide +kernel
theorem dX10_below_145 : decode cX10_below 145 = .ok (.iconst 0, 1) := by decide +kernel
theorem dX10_below_146 : decode cX10_below 146 = .ok (.istore 4, 2) := by decide +kernel
theorem dX10_below_148 : decode cX10_below 148 = .ok (.iload 4, 2) := by decide +kernel
theorem dX10_below_150 : decode cX10_below 150 = .ok (.bipush 60, 2) := by decide +kernel
theorem dX10_below_152 : decode cX10_below 152 = .ok (.if_icmp .ge 23, 3) := by decide +kernel
theorem dX10_below_155 : decode cX10_below 155 = .ok (.aload_n 0, 1) := by decide +kernel
theorem dX10_below_156 : decode cX10_below 156 = .ok (.getfield 57, 3) := by decide +kernel
theorem dX10_below_159 : decode cX10_below 159 = .ok (.iload 4, 2) := by decide +kernel
theorem dX10_below_161 : decode cX10_below 161 = .ok (.aload_n 0, 1) := by decide +kernel
theorem dX10_below_162 : decode cX10_below 162 = .ok (.getfield 60, 3) := by decide +kernel
theorem dX10_below_165 : decode cX10_below 165 = .ok (.iload 4, 2) := by decide +kernel
theorem dX10_below_167 : decode cX10_below 167 = .ok (.laload, 1) := by decide +kernel
theorem dX10_below_168 : decode cX10_below 168 = .ok (.lastore, 1) := by decide +kernel
theorem dX10_below_169 : decode cX10_below 169 = .ok (.iinc 4 1, 3) := by decide +kernel
theorem dX10_below_172 : decode cX10_below 172 = .ok (.goto (-24), 3) := by decide +kernel
theorem dX10_below_175 : decode cX10_below 175 = .ok (.iinc 3 1, 3) := by decide +kernel
theorem dX10_below_178 : decode cX10_below 178 = .ok (.goto (-118), 3) := by decide +kernel
theorem dX10_below_181 : decode cX10_below 181 = .ok (.lconst 0, 1) := by decide +kernel
theorem dX10_below_182 : decode cX10_below 182 = .ok (.lstore_n 3, 1) := by decide +kernel
theorem dX10_below_183 : decode cX10_below 183 = .ok (.iconst 0, 1) := by decide +kernel
theorem dX10_below_184 : decode cX10_below 184 = .ok (.istore 5, 2) := by decide +kernel
theorem dX10_below_186 : decode cX10_below 186 = .ok (.iload 5, 2) := by decide +kernel
theorem dX10_below_188 : decode cX10_below 188 = .ok (.aload_n 0, 1) := by decide +kernel
theorem dX10_below_189 : decode cX10_below 189 = .ok (.getfield 16, 3) := by decide +kernel
theorem dX10_below_192 : decode cX10_below 192 = .ok (.iload_n 1, 1) := by decide +kernel
theorem dX10_below_193 : decode cX10_below 193 = .ok (.iaload, 1) := by decide +kernel
theorem dX10_below_194 : decode cX10_below 194 = .ok (.if_icmp .ge 33, 3) := by decide +kernel
theorem dX10_below_197 : decode cX10_below 197 = .ok (.lload_n 3, 1) := by decide +kernel
theorem dX10_below_198 : decode cX10_below 198 = .ok (.aload_n 0, 1) := by decide +kernel
theorem dX10_below_199 : decode cX10_below 199 = .ok (.iload_n 1, 1) := by decide +kernel
theorem dX10_below_200 : decode cX10_below 200 = .ok (.iload 5, 2) := by decide +kernel
theorem dX10_below_202 : decode cX10_below 202 = .ok (.invokevirtual 129, 3) := by decide +kernel
theorem dX10_below_205 : decode cX10_below 205 = .ok (.ifCond .eq 13, 3) := by decide +kernel
theorem dX10_below_208 : decode cX10_below 208 = .ok (.aload_n 0, 1) := by decide +kernel
theorem dX10_below_209 : decode cX10_below 209 = .ok (.getfield 57, 3) := by decide +kernel
theorem dX10_below_212 : decode cX10_below 212 = .ok (.iload 5, 2) := by decide +kernel
theorem dX10_below_214 : decode cX10_below 214 = .ok (.laload, 1) := by decide +kernel
theorem dX10_below_215 : decode cX10_below 215 = .ok (.goto 4, 3) := by decide +kernel
theorem dX10_below_218 : decode cX10_below 218 = .ok (.lconst 0, 1) := by decide +kernel
theorem dX10_below_219 : decode cX10_below 219 = .ok (.ladd, 1) := by decide +kernel
theorem dX10_below_220 : decode cX10_below 220 = .ok (.lstore_n 3, 1) := by decide +kernel
theorem dX10_below_221 : decode cX10_below 221 = .ok (.iinc 5 1, 3) := by decide +kernel
theorem dX10_below_224 : decode cX10_below 224 = .ok (.goto (-38), 3) := by decide +kernel
theorem dX10_below_227 : decode cX10_below 227 = .ok (.lload_n 3, 1) := by decide +kernel
theorem dX10_below_228 : decode cX10_below 228 = .ok (.lreturn, 1) := by decide +kernel
set_option maxRecDepth 20000 in
theorem ggX10_leastBy_X10_holdsIn : GoodIn wsX10_leastBy wsX10_holdsIn := goodIn_r _ [9, 10, 16, 17, 18, 19, 20, 21, 22, 23, 24, 25, 26, 27, 28, 29, 30, 31, 32, 33, 34, 35] (by decide +kernel) (by decide +kernel)
set_option maxRecDepth 20000 in
theorem gX10_leastBy_X10_holdsIn : GoodIn wsX10_leastBy (wsV RX10 129 RX10 yX10_holdsIn wsX10_holdsIn) := goodIn_app (goodIn_of _ (by decide +kernel)) ggX10_leastBy_X10_holdsIn
set_option maxRecDepth 20000 in
theorem ggX10_leastBy_X10_next : GoodIn wsX10_leastBy wsX10_next := goodIn_r _ [14, 15, 16, 17, 18, 19, 20, 21, 22, 23, 24, 25, 26, 27, 28, 29, 30, 31, 32, 33, 34, 35] (by decide +kernel) (by decide +kernel)
set_option maxRecDepth 20000 in
theorem gX10_leastBy_X10_next : GoodIn wsX10_leastBy (wsV RX10 125 RX10 yX10_next wsX10_next) := goodIn_app (goodIn_of _ (by decide +kernel)) ggX10_leastBy_X10_next
theorem dX10_leastBy_0 : decode cX10_leastBy 0 = .ok (.iconst 0, 1) := by decide +kernel
theorem dX10_leastBy_1 : decode cX10_leastBy 1 = .ok (.istore_n 3, 1) := by decide +kernel
theorem dX10_leastBy_2 : decode cX10_leastBy 2 = .ok (.iload_n 3, 1) := by decide +kernel
theorem dX10_leastBy_3 : decode cX10_leastBy 3 = .ok (.bipush 60, 2) := by decide +kernel
theorem dX10_leastBy_5 : decode cX10_leastBy 5 = .ok (.if_icmp .ge 18, 3) := by decide +kernel
theorem dX10_leastBy_8 : decode cX10_leastBy 8 = .ok (.aload_n 0, 1) := by decide +kernel
theorem dX10_leastBy_9 : decode cX10_leastBy 9 = .ok (.getfield 66, 3) := by decide +kernel
theorem dX10_leastBy_12 : decode cX10_leastBy 12 = .ok (.iload_n 3, 1) := by decide +kernel
theorem dX10_leastBy_13 : decode cX10_leastBy 13 = .ok (.ldc2_w 169, 3) := by decide +kernel
theorem dX10_leastBy_16 : decode cX10_leastBy 16 = .ok (.lastore, 1) := by decide +kernel
theorem dX10_leastBy_17 : decode cX10_leastBy 17 = .ok (.iinc 3 1, 3) := by decide +kernel
theorem dX10_leastBy_20 : decode cX10_leastBy 20 = .ok (.goto (-18), 3) := by decide +kernel
theorem dX10_leastBy_23 : decode cX10_leastBy 23 = .ok (.aload_n 0, 1) := by decide +kernel
theorem dX10_leastBy_24 : decode cX10_leastBy 24 = .ok (.getfield 66, 3) := by decide +kernel
theorem dX10_leastBy_27 : decode cX10_leastBy 27 = .ok (.iconst 0, 1) := by decide +kernel
theorem dX10_leastBy_28 : decode cX10_leastBy 28 = .ok (.lconst 0, 1) := by decide +kernel
theorem dX10_leastBy_29 : decode cX10_leastBy 29 = .ok (.lastore, 1) := by decide +kernel
theorem dX10_leastBy_30 : decode cX10_leastBy 30 = .ok (.aload_n 0, 1) := by decide +kernel
theorem dX10_leastBy_31 : decode cX10_leastBy 31 = .ok (.getfield 63, 3) := by decide +kernel
theorem dX10_leastBy_34 : decode cX10_leastBy 34 = .ok (.iconst 0, 1) := by decide +kernel
theorem dX10_leastBy_35 : decode cX10_leastBy 35 = .ok (.iconst 0, 1) := by decide +kernel
theorem dX10_leastBy_36 : decode cX10_leastBy 36 = .ok (.iastore, 1) := by decide +kernel
theorem dX10_leastBy_37 : decode cX10_leastBy 37 = .ok (.iconst 1, 1) := by decide +kernel
theorem dX10_leastBy_38 : decode cX10_leastBy 38 = .ok (.istore_n 3, 1) := by decide +kernel
theorem dX10_leastBy_39 : decode cX10_leastBy 39 = .ok (.iconst 0, 1) := by decide +kernel
theorem dX10_leastBy_40 : decode cX10_leastBy 40 = .ok (.istore 4, 2) := by decide +kernel
theorem dX10_leastBy_42 : decode cX10_leastBy 42 = .ok (.iload 4, 2) := by decide +kernel
theorem dX10_leastBy_44 : decode cX10_leastBy 44 = .ok (.iload_n 3, 1) := by decide +kernel
theorem dX10_leastBy_45 : decode cX10_leastBy 45 = .ok (.if_icmp .ge 111, 3) := by decide +kernel
theorem dX10_leastBy_48 : decode cX10_leastBy 48 = .ok (.aload_n 0, 1) := by decide +kernel
theorem dX10_leastBy_49 : decode cX10_leastBy 49 = .ok (.getfield 63, 3) := by decide +kernel
theorem dX10_leastBy_52 : decode cX10_leastBy 52 = .ok (.iload 4, 2) := by decide +kernel
theorem dX10_leastBy_54 : decode cX10_leastBy 54 = .ok (.iaload, 1) := by decide +kernel
theorem dX10_leastBy_55 : decode cX10_leastBy 55 = .ok (.istore 5, 2) := by decide +kernel
theorem dX10_leastBy_57 : decode cX10_leastBy 57 = .ok (.aload_n 0, 1) := by decide +kernel
theorem dX10_leastBy_58 : decode cX10_leastBy 58 = .ok (.iload_n 1, 1) := by decide +kernel
theorem dX10_leastBy_59 : decode cX10_leastBy 59 = .ok (.iload 5, 2) := by decide +kernel
theorem dX10_leastBy_61 : decode cX10_leastBy 61 = .ok (.invokevirtual 129, 3) := by decide +kernel
theorem dX10_leastBy_64 : decode cX10_leastBy 64 = .ok (.ifCond .eq 11, 3) := by decide +kernel
theorem dX10_leastBy_67 : decode cX10_leastBy 67 = .ok (.aload_n 0, 1) := by decide +kernel
theorem dX10_leastBy_68 : decode cX10_leastBy 68 = .ok (.getfield 66, 3) := by decide +kernel
theorem dX10_leastBy_71 : decode cX10_leastBy 71 = .ok (.iload 5, 2) := by decide +kernel
theorem dX10_leastBy_73 : decode cX10_leastBy 73 = .ok (.laload, 1) := by decide +kernel
theorem dX10_leastBy_74 : decode cX10_leastBy 74 = .ok (.lreturn, 1) := by decide +kernel
theorem dX10_leastBy_75 : decode cX10_leastBy 75 = .ok (.iconst 0, 1) := by decide +kernel
theorem dX10_leastBy_76 : decode cX10_leastBy 76 = .ok (.istore 6, 2) := by decide +kernel
theorem dX10_leastBy_78 : decode cX10_leastBy 78 = .ok (.iload 6, 2) := by decide +kernel
theorem dX10_leastBy_80 : decode cX10_leastBy 80 = .ok (.iconst 2, 1) := by decide +kernel
theorem dX10_leastBy_81 : decode cX10_leastBy 81 = .ok (.if_icmp .ge 69, 3) := by decide +kernel
theorem dX10_leastBy_84 : decode cX10_leastBy 84 = .ok (.aload_n 0, 1) := by decide +kernel
theorem dX10_leastBy_85 : decode cX10_leastBy 85 = .ok (.iload_n 1, 1) := by decide +kernel
theorem dX10_leastBy_86 : decode cX10_leastBy 86 = .ok (.iload 5, 2) := by decide +kernel
theorem dX10_leastBy_88 : decode cX10_leastBy 88 = .ok (.iload 6, 2) := by decide +kernel
theorem dX10_leastBy_90 : decode cX10_leastBy 90 = .ok (.iload_n 2, 1) := by decide +kernel
theorem dX10_leastBy_91 : decode cX10_leastBy 91 = .ok (.ishl, 1) := by decide +kernel
theorem dX10_leastBy_92 : decode cX10_leastBy 92 = .ok (.invokevirtual 125, 3) := by decide +kernel
theorem dX10_leastBy_95 : decode cX10_leastBy 95 = .ok (.istore 7, 2) := by decide +kernel
theorem dX10_leastBy_97 : decode cX10_leastBy 97 = .ok (.aload_n 0, 1) := by decide +kernel
theorem dX10_leastBy_98 : decode cX10_leastBy 98 = .ok (.getfield 66, 3) := by decide +kernel
theorem dX10_leastBy_101 : decode cX10_leastBy 101 = .ok (.iload 7, 2) := by decide +kernel
theorem dX10_leastBy_103 : decode cX10_leastBy 103 = .ok (.laload, 1) := by decide +kernel
theorem dX10_leastBy_104 : decode cX10_leastBy 104 = .ok (.ldc2_w 169, 3) := by decide +kernel
theorem dX10_leastBy_107 : decode cX10_leastBy 107 = .ok (.lcmp, 1) := by decide +kernel
theorem dX10_leastBy_108 : decode cX10_leastBy 108 = .ok (.ifCond .ne 36, 3) := by decide +kernel
theorem dX10_leastBy_111 : decode cX10_leastBy 111 = .ok (.aload_n 0, 1) := by decide +kernel
theorem dX10_leastBy_112 : decode cX10_leastBy 112 = .ok (.getfield 66, 3) := by decide +kernel
theorem dX10_leastBy_115 : decode cX10_leastBy 115 = .ok (.iload 7, 2) := by decide +kernel
theorem dX10_leastBy_117 : decode cX10_leastBy 117 = .ok (.ldc2_w 171, 3) := by decide +kernel
theorem dX10_leastBy_120 : decode cX10_leastBy 120 = .ok (.aload_n 0, 1) := by decide +kernel
theorem dX10_leastBy_121 : decode cX10_leastBy 121 = .ok (.getfield 66, 3) := by decide +kernel
theorem dX10_leastBy_124 : decode cX10_leastBy 124 = .ok (.iload 5, 2) := by decide +kernel
theorem dX10_leastBy_126 : decode cX10_leastBy 126 = .ok (.laload, 1) := by decide +kernel
theorem dX10_leastBy_127 : decode cX10_leastBy 127 = .ok (.lmul, 1) := by decide +kernel
theorem dX10_leastBy_128 : decode cX10_leastBy 128 = .ok (.iload 6, 2) := by decide +kernel
theorem dX10_leastBy_130 : decode cX10_leastBy 130 = .ok (.i2l, 1) := by decide +kernel
theorem dX10_leastBy_131 : decode cX10_leastBy 131 = .ok (.ladd, 1) := by decide +kernel
theorem dX10_leastBy_132 : decode cX10_leastBy 132 = .ok (.lastore, 1) := by decide +kernel
theorem dX10_leastBy_133 : decode cX10_leastBy 133 = .ok (.aload_n 0, 1) := by decide +kernel
theorem dX10_leastBy_134 : decode cX10_leastBy 134 = .ok (.getfield 63, 3) := by decide +kernel
theorem dX10_leastBy_137 : decode cX10_leastBy 137 = .ok (.iload_n 3, 1) := by decide +kernel
theorem dX10_leastBy_138 : decode cX10_leastBy 138 = .ok (.iload 7, 2) := by decide +kernel
theorem dX10_leastBy_140 : decode cX10_leastBy 140 = .ok (.iastore, 1) := by decide +kernel
theorem dX10_leastBy_141 : decode cX10_leastBy 141 = .ok (.iinc 3 1, 3) := by decide +kernel
theorem dX10_leastBy_144 : decode cX10_leastBy 144 = .ok (.iinc 6 1, 3) := by decide +kernel
theorem dX10_leastBy_147 : decode cX10_leastBy 147 = .ok (.goto (-69), 3) := by decide +kernel
theorem dX10_leastBy_150 : decode cX10_leastBy 150 = .ok (.iinc 4 1, 3) := by decide +kernel
theorem dX10_leastBy_153 : decode cX10_leastBy 153 = .ok (.goto (-111), 3) := by decide +kernel
theorem dX10_leastBy_156 : decode cX10_leastBy 156 = .ok (.ldc2_w 169, 3) := by decide +kernel
theorem dX10_leastBy_159 : decode cX10_leastBy 159 = .ok (.lreturn, 1) := by decide +kernel
set_option maxRecDepth 20000 in
theorem ggX10_least_X10_isClaim : GoodIn wsX10_least wsX10_isClaim := goodIn_r _ [5, 6, 7, 4, 8] (by decide +kernel) (by decide +kernel)
set_option maxRecDepth 20000 in
theorem gX10_least_X10_isClaim : GoodIn wsX10_least (va_wsS RX10 108 yX10_isClaim wsX10_isClaim) := goodIn_app (goodIn_of _ (by decide +kernel)) ggX10_least_X10_isClaim
set_option maxRecDepth 20000 in
theorem ggX10_least_X10_isNumber : GoodIn wsX10_least wsX10_isNumber := goodIn_r _ [11, 6, 7, 4, 8] (by decide +kernel) (by decide +kernel)
set_option maxRecDepth 20000 in
theorem gX10_least_X10_isNumber : GoodIn wsX10_least (va_wsS RX10 73 yX10_isNumber wsX10_isNumber) := goodIn_app (goodIn_of _ (by decide +kernel)) ggX10_least_X10_isNumber
set_option maxRecDepth 20000 in
theorem ggX10_least_X10_isThere : GoodIn wsX10_least wsX10_isThere := goodIn_r _ [15, 16, 84, 85, 86, 87, 88, 89, 90, 91, 92, 93, 94, 95, 96, 97, 98, 99, 100, 101, 102, 103] (by decide +kernel) (by decide +kernel)
set_option maxRecDepth 20000 in
theorem gX10_least_X10_isThere : GoodIn wsX10_least (wsV RX10 132 RX10 yX10_isThere wsX10_isThere) := goodIn_app (goodIn_of _ (by decide +kernel)) ggX10_least_X10_isThere
set_option maxRecDepth 20000 in
theorem ggX10_least_X10_quantifies : GoodIn wsX10_least wsX10_quantifies := goodIn_r _ [20, 21, 22, 23, 24, 25, 26, 27, 4, 28, 16, 29, 30, 31, 32, 33, 34, 35, 36, 37, 38, 39, 40, 41, 42, 43, 44, 45, 46, 47, 48, 49, 50, 51, 52, 53, 54, 55, 56, 57, 58, 59, 60, 61, 62, 63, 64, 65, 66, 67, 68, 69, 70, 71, 72, 73, 74, 75, 84, 85, 86, 87, 88, 89, 90, 91, 92, 93, 94, 95, 96, 97, 98, 99, 100, 101, 102, 103] (by decide +kernel) (by decide +kernel)
set_option maxRecDepth 20000 in
theorem gX10_least_X10_quantifies : GoodIn wsX10_least (wsV RX10 161 RX10 yX10_quantifies wsX10_quantifies) := goodIn_app (goodIn_of _ (by decide +kernel)) ggX10_least_X10_quantifies
set_option maxRecDepth 20000 in
theorem ggX10_least_X10_leastBy : GoodIn wsX10_least wsX10_leastBy := goodIn_r _ [79, 80, 81, 82, 83, 50, 51, 52, 4, 53, 54, 32, 33, 34, 35, 36, 84, 85, 86, 87, 88, 89, 90, 91, 92, 93, 94, 95, 96, 97, 98, 99, 100, 101, 102, 103] (by decide +kernel) (by decide +kernel)
set_option maxRecDepth 20000 in
theorem gX10_least_X10_leastBy : GoodIn wsX10_least (wsV RX10 173 RX10 yX10_leastBy wsX10_leastBy) := goodIn_app (goodIn_of _ (by decide +kernel)) ggX10_least_X10_leastBy
theorem dX10_least_0 : decode cX10_least 0 = .ok (.iload_n 1, 1) := by decide +kernel
theorem dX10_least_1 : decode cX10_least 1 = .ok (.invokestatic 108, 3) := by decide +kernel
theorem dX10_least_4 : decode cX10_least 4 = .ok (.ifCond .eq 10, 3) := by decide +kernel
theorem dX10_least_7 : decode cX10_least 7 = .ok (.iload_n 2, 1) := by decide +kernel
theorem dX10_least_8 : decode cX10_least 8 = .ok (.invokestatic 73, 3) := by decide +kernel
theorem dX10_least_11 : decode cX10_least 11 = .ok (.ifCond .ne 5, 3) := by decide +kernel
theorem dX10_least_14 : decode cX10_least 14 = .ok (.iconst (-1), 1) := by decide +kernel
theorem dX10_least_15 : decode cX10_least 15 = .ok (.ireturn, 1) := by decide +kernel
theorem dX10_least_16 : decode cX10_least 16 = .ok (.aload_n 0, 1) := by decide +kernel
theorem dX10_least_17 : decode cX10_least 17 = .ok (.iload_n 1, 1) := by decide +kernel
theorem dX10_least_18 : decode cX10_least 18 = .ok (.invokevirtual 132, 3) := by decide +kernel
theorem dX10_least_21 : decode cX10_least 21 = .ok (.ifCond .ne 6, 3) := by decide +kernel
theorem dX10_least_24 : decode cX10_least 24 = .ok (.bipush (-3), 2) := by decide +kernel
theorem dX10_least_26 : decode cX10_least 26 = .ok (.ireturn, 1) := by decide +kernel
theorem dX10_least_27 : decode cX10_least 27 = .ok (.iload_n 2, 1) := by decide +kernel
theorem dX10_least_28 : decode cX10_least 28 = .ok (.ifCond .ne 7, 3) := by decide +kernel
theorem dX10_least_31 : decode cX10_least 31 = .ok (.iconst 1, 1) := by decide +kernel
theorem dX10_least_32 : decode cX10_least 32 = .ok (.goto 4, 3) := by decide +kernel
theorem dX10_least_35 : decode cX10_least 35 = .ok (.iconst 0, 1) := by decide +kernel
theorem dX10_least_36 : decode cX10_least 36 = .ok (.istore_n 3, 1) := by decide +kernel
theorem dX10_least_37 : decode cX10_least 37 = .ok (.iload_n 2, 1) := by decide +kernel
theorem dX10_least_38 : decode cX10_least 38 = .ok (.iconst 2, 1) := by decide +kernel
theorem dX10_least_39 : decode cX10_least 39 = .ok (.if_icmp .ne 7, 3) := by decide +kernel
theorem dX10_least_42 : decode cX10_least 42 = .ok (.iconst 1, 1) := by decide +kernel
theorem dX10_least_43 : decode cX10_least 43 = .ok (.goto 4, 3) := by decide +kernel
theorem dX10_least_46 : decode cX10_least 46 = .ok (.iconst 2, 1) := by decide +kernel
theorem dX10_least_47 : decode cX10_least 47 = .ok (.istore 4, 2) := by decide +kernel
theorem dX10_least_49 : decode cX10_least 49 = .ok (.aload_n 0, 1) := by decide +kernel
theorem dX10_least_50 : decode cX10_least 50 = .ok (.bipush 6, 2) := by decide +kernel
theorem dX10_least_52 : decode cX10_least 52 = .ok (.iload_n 1, 1) := by decide +kernel
theorem dX10_least_53 : decode cX10_least 53 = .ok (.iload_n 3, 1) := by decide +kernel
theorem dX10_least_54 : decode cX10_least 54 = .ok (.iconst 0, 1) := by decide +kernel
theorem dX10_least_55 : decode cX10_least 55 = .ok (.invokevirtual 161, 3) := by decide +kernel
theorem dX10_least_58 : decode cX10_least 58 = .ok (.bipush (-6), 2) := by decide +kernel
theorem dX10_least_60 : decode cX10_least 60 = .ok (.if_icmp .eq 19, 3) := by decide +kernel
theorem dX10_least_63 : decode cX10_least 63 = .ok (.aload_n 0, 1) := by decide +kernel
theorem dX10_least_64 : decode cX10_least 64 = .ok (.bipush 7, 2) := by decide +kernel
theorem dX10_least_66 : decode cX10_least 66 = .ok (.bipush 6, 2) := by decide +kernel
theorem dX10_least_68 : decode cX10_least 68 = .ok (.iload 4, 2) := by decide +kernel
theorem dX10_least_70 : decode cX10_least 70 = .ok (.iconst 0, 1) := by decide +kernel
theorem dX10_least_71 : decode cX10_least 71 = .ok (.invokevirtual 161, 3) := by decide +kernel
theorem dX10_least_74 : decode cX10_least 74 = .ok (.bipush (-6), 2) := by decide +kernel
theorem dX10_least_76 : decode cX10_least 76 = .ok (.if_icmp .ne 6, 3) := by decide +kernel
theorem dX10_least_79 : decode cX10_least 79 = .ok (.bipush (-6), 2) := by decide +kernel
theorem dX10_least_81 : decode cX10_least 81 = .ok (.ireturn, 1) := by decide +kernel
theorem dX10_least_82 : decode cX10_least 82 = .ok (.aload_n 0, 1) := by decide +kernel
theorem dX10_least_83 : decode cX10_least 83 = .ok (.bipush 7, 2) := by decide +kernel
theorem dX10_least_85 : decode cX10_least 85 = .ok (.iload_n 2, 1) := by decide +kernel
theorem dX10_least_86 : decode cX10_least 86 = .ok (.invokevirtual 173, 3) := by decide +kernel
theorem dX10_least_89 : decode cX10_least 89 = .ok (.lstore 5, 2) := by decide +kernel
theorem dX10_least_91 : decode cX10_least 91 = .ok (.lload 5, 2) := by decide +kernel
theorem dX10_least_93 : decode cX10_least 93 = .ok (.ldc2_w 177, 3) := by decide +kernel
theorem dX10_least_96 : decode cX10_least 96 = .ok (.lcmp, 1) := by decide +kernel
theorem dX10_least_97 : decode cX10_least 97 = .ok (.ifCond .le 8, 3) := by decide +kernel
theorem dX10_least_100 : decode cX10_least 100 = .ok (.bipush (-5), 2) := by decide +kernel
theorem dX10_least_102 : decode cX10_least 102 = .ok (.goto 6, 3) := by decide +kernel
theorem dX10_least_105 : decode cX10_least 105 = .ok (.lload 5, 2) := by decide +kernel
theorem dX10_least_107 : decode cX10_least 107 = .ok (.l2i, 1) := by decide +kernel
theorem dX10_least_108 : decode cX10_least 108 = .ok (.ireturn, 1) := by decide +kernel
set_option maxRecDepth 20000 in
theorem ggX10_same_X10_isClaim : GoodIn wsX10_same wsX10_isClaim := goodIn_r _ [5, 6, 7, 4, 8] (by decide +kernel) (by decide +kernel)
set_option maxRecDepth 20000 in
theorem gX10_same_X10_isClaim : GoodIn wsX10_same (va_wsS RX10 108 yX10_isClaim wsX10_isClaim) := goodIn_app (goodIn_of _ (by decide +kernel)) ggX10_same_X10_isClaim
set_option maxRecDepth 20000 in
theorem ggX10_same_X10_isThere : GoodIn wsX10_same wsX10_isThere := goodIn_r _ [12, 1, 23, 24, 25, 26, 27, 28, 29, 30, 31, 32, 33, 34, 35, 36, 37, 38, 39, 40, 41, 42] (by decide +kernel) (by decide +kernel)
set_option maxRecDepth 20000 in
theorem gX10_same_X10_isThere : GoodIn wsX10_same (wsV RX10 132 RX10 yX10_isThere wsX10_isThere) := goodIn_app (goodIn_of _ (by decide +kernel)) ggX10_same_X10_isThere
set_option maxRecDepth 20000 in
theorem ggX10_same_X10_holdsIn : GoodIn wsX10_same wsX10_holdsIn := goodIn_r _ [16, 17, 23, 24, 25, 26, 27, 28, 29, 30, 31, 32, 33, 34, 35, 36, 37, 38, 39, 40, 41, 42] (by decide +kernel) (by decide +kernel)
set_option maxRecDepth 20000 in
theorem gX10_same_X10_holdsIn : GoodIn wsX10_same (wsV RX10 129 RX10 yX10_holdsIn wsX10_holdsIn) := goodIn_app (goodIn_of _ (by decide +kernel)) ggX10_same_X10_holdsIn
set_option maxRecDepth 20000 in
theorem ggX10_same_X10_next : GoodIn wsX10_same wsX10_next := goodIn_r _ [21, 22, 23, 24, 25, 26, 27, 28, 29, 30, 31, 32, 33, 34, 35, 36, 37, 38, 39, 40, 41, 42] (by decide +kernel) (by decide +kernel)
set_option maxRecDepth 20000 in
theorem gX10_same_X10_next : GoodIn wsX10_same (wsV RX10 125 RX10 yX10_next wsX10_next) := goodIn_app (goodIn_of _ (by decide +kernel)) ggX10_same_X10_next
theorem dX10_same_0 : decode cX10_same 0 = .ok (.iload_n 1, 1) := by decide +kernel
theorem dX10_same_1 : decode cX10_same 1 = .ok (.invokestatic 108, 3) := by decide +kernel
theorem dX10_same_4 : decode cX10_same 4 = .ok (.ifCond .eq 10, 3) := by decide +kernel
theorem dX10_same_7 : decode cX10_same 7 = .ok (.iload_n 2, 1) := by decide +kernel
theorem dX10_same_8 : decode cX10_same 8 = .ok (.invokestatic 108, 3) := by decide +kernel
theorem dX10_same_11 : decode cX10_same 11 = .ok (.ifCond .ne 5, 3) := by decide +kernel
theorem dX10_same_14 : decode cX10_same 14 = .ok (.iconst (-1), 1) := by decide +kernel
theorem dX10_same_15 : decode cX10_same 15 = .ok (.ireturn, 1) := by decide +kernel
theorem dX10_same_16 : decode cX10_same 16 = .ok (.aload_n 0, 1) := by decide +kernel
theorem dX10_same_17 : decode cX10_same 17 = .ok (.iload_n 1, 1) := by decide +kernel
theorem dX10_same_18 : decode cX10_same 18 = .ok (.invokevirtual 132, 3) := by decide +kernel
theorem dX10_same_21 : decode cX10_same 21 = .ok (.ifCond .eq 11, 3) := by decide +kernel
theorem dX10_same_24 : decode cX10_same 24 = .ok (.aload_n 0, 1) := by decide +kernel
theorem dX10_same_25 : decode cX10_same 25 = .ok (.iload_n 2, 1) := by decide +kernel
theorem dX10_same_26 : decode cX10_same 26 = .ok (.invokevirtual 132, 3) := by decide +kernel
theorem dX10_same_29 : decode cX10_same 29 = .ok (.ifCond .ne 6, 3) := by decide +kernel
theorem dX10_same_32 : decode cX10_same 32 = .ok (.bipush (-3), 2) := by decide +kernel
theorem dX10_same_34 : decode cX10_same 34 = .ok (.ireturn, 1) := by decide +kernel
theorem dX10_same_35 : decode cX10_same 35 = .ok (.aload_n 0, 1) := by decide +kernel
theorem dX10_same_36 : decode cX10_same 36 = .ok (.getfield 16, 3) := by decide +kernel
theorem dX10_same_39 : decode cX10_same 39 = .ok (.iload_n 1, 1) := by decide +kernel
theorem dX10_same_40 : decode cX10_same 40 = .ok (.iaload, 1) := by decide +kernel
theorem dX10_same_41 : decode cX10_same 41 = .ok (.aload_n 0, 1) := by decide +kernel
theorem dX10_same_42 : decode cX10_same 42 = .ok (.getfield 16, 3) := by decide +kernel
theorem dX10_same_45 : decode cX10_same 45 = .ok (.iload_n 2, 1) := by decide +kernel
theorem dX10_same_46 : decode cX10_same 46 = .ok (.iaload, 1) := by decide +kernel
theorem dX10_same_47 : decode cX10_same 47 = .ok (.if_icmp .ne 7, 3) := by decide +kernel
theorem dX10_same_50 : decode cX10_same 50 = .ok (.iconst 1, 1) := by decide +kernel
theorem dX10_same_51 : decode cX10_same 51 = .ok (.goto 4, 3) := by decide +kernel
theorem dX10_same_54 : decode cX10_same 54 = .ok (.iconst 0, 1) := by decide +kernel
theorem dX10_same_55 : decode cX10_same 55 = .ok (.istore_n 3, 1) := by decide +kernel
theorem dX10_same_56 : decode cX10_same 56 = .ok (.iconst 0, 1) := by decide +kernel
theorem dX10_same_57 : decode cX10_same 57 = .ok (.istore 4, 2) := by decide +kernel
theorem dX10_same_59 : decode cX10_same 59 = .ok (.iload 4, 2) := by decide +kernel
theorem dX10_same_61 : decode cX10_same 61 = .ok (.aload_n 0, 1) := by decide +kernel
theorem dX10_same_62 : decode cX10_same 62 = .ok (.getfield 16, 3) := by decide +kernel
theorem dX10_same_65 : decode cX10_same 65 = .ok (.iload_n 1, 1) := by decide +kernel
theorem dX10_same_66 : decode cX10_same 66 = .ok (.iaload, 1) := by decide +kernel
theorem dX10_same_67 : decode cX10_same 67 = .ok (.if_icmp .ge 83, 3) := by decide +kernel
theorem dX10_same_70 : decode cX10_same 70 = .ok (.iload_n 3, 1) := by decide +kernel
theorem dX10_same_71 : decode cX10_same 71 = .ok (.ifCond .eq 79, 3) := by decide +kernel
theorem dX10_same_74 : decode cX10_same 74 = .ok (.aload_n 0, 1) := by decide +kernel
theorem dX10_same_75 : decode cX10_same 75 = .ok (.iload_n 1, 1) := by decide +kernel
theorem dX10_same_76 : decode cX10_same 76 = .ok (.iload 4, 2) := by decide +kernel
theorem dX10_same_78 : decode cX10_same 78 = .ok (.invokevirtual 129, 3) := by decide +kernel
theorem dX10_same_81 : decode cX10_same 81 = .ok (.aload_n 0, 1) := by decide +kernel
theorem dX10_same_82 : decode cX10_same 82 = .ok (.iload_n 2, 1) := by decide +kernel
theorem dX10_same_83 : decode cX10_same 83 = .ok (.iload 4, 2) := by decide +kernel
theorem dX10_same_85 : decode cX10_same 85 = .ok (.invokevirtual 129, 3) := by decide +kernel
theorem dX10_same_88 : decode cX10_same 88 = .ok (.if_icmp .ne 7, 3) := by decide +kernel
theorem dX10_same_91 : decode cX10_same 91 = .ok (.iconst 1, 1) := by decide +kernel
theorem dX10_same_92 : decode cX10_same 92 = .ok (.goto 4, 3) := by decide +kernel
theorem dX10_same_95 : decode cX10_same 95 = .ok (.iconst 0, 1) := by decide +kernel
theorem dX10_same_96 : decode cX10_same 96 = .ok (.istore_n 3, 1) := by decide +kernel
theorem dX10_same_97 : decode cX10_same 97 = .ok (.iconst 0, 1) := by decide +kernel
theorem dX10_same_98 : decode cX10_same 98 = .ok (.istore 5, 2) := by decide +kernel
theorem dX10_same_100 : decode cX10_same 100 = .ok (.iload 5, 2) := by decide +kernel
theorem dX10_same_102 : decode cX10_same 102 = .ok (.bipush 8, 2) := by decide +kernel
theorem dX10_same_104 : decode cX10_same 104 = .ok (.if_icmp .ge 40, 3) := by decide +kernel
theorem dX10_same_107 : decode cX10_same 107 = .ok (.iload_n 3, 1) := by decide +kernel
theorem dX10_same_108 : decode cX10_same 108 = .ok (.ifCond .eq 28, 3) := by decide +kernel
theorem dX10_same_111 : decode cX10_same 111 = .ok (.aload_n 0, 1) := by decide +kernel
theorem dX10_same_112 : decode cX10_same 112 = .ok (.iload_n 1, 1) := by decide +kernel
theorem dX10_same_113 : decode cX10_same 113 = .ok (.iload 4, 2) := by decide +kernel
theorem dX10_same_115 : decode cX10_same 115 = .ok (.iload 5, 2) := by decide +kernel
theorem dX10_same_117 : decode cX10_same 117 = .ok (.invokevirtual 125, 3) := by decide +kernel
theorem dX10_same_120 : decode cX10_same 120 = .ok (.aload_n 0, 1) := by decide +kernel
theorem dX10_same_121 : decode cX10_same 121 = .ok (.iload_n 2, 1) := by decide +kernel
theorem dX10_same_122 : decode cX10_same 122 = .ok (.iload 4, 2) := by decide +kernel
theorem dX10_same_124 : decode cX10_same 124 = .ok (.iload 5, 2) := by decide +kernel
theorem dX10_same_126 : decode cX10_same 126 = .ok (.invokevirtual 125, 3) := by decide +kernel
theorem dX10_same_129 : decode cX10_same 129 = .ok (.if_icmp .ne 7, 3) := by decide +kernel
theorem dX10_same_132 : decode cX10_same 132 = .ok (.iconst 1, 1) := by decide +kernel
theorem dX10_same_133 : decode cX10_same 133 = .ok (.goto 4, 3) := by decide +kernel
theorem dX10_same_136 : decode cX10_same 136 = .ok (.iconst 0, 1) := by decide +kernel
theorem dX10_same_137 : decode cX10_same 137 = .ok (.istore_n 3, 1) := by decide +kernel
theorem dX10_same_138 : decode cX10_same 138 = .ok (.iinc 5 1, 3) := by decide +kernel
theorem dX10_same_141 : decode cX10_same 141 = .ok (.goto (-41), 3) := by decide +kernel
theorem dX10_same_144 : decode cX10_same 144 = .ok (.iinc 4 1, 3) := by decide +kernel
theorem dX10_same_147 : decode cX10_same 147 = .ok (.goto (-88), 3) := by decide +kernel
theorem dX10_same_150 : decode cX10_same 150 = .ok (.iload_n 3, 1) := by decide +kernel
theorem dX10_same_151 : decode cX10_same 151 = .ok (.ifCond .eq 7, 3) := by decide +kernel
theorem dX10_same_154 : decode cX10_same 154 = .ok (.iconst 1, 1) := by decide +kernel
theorem dX10_same_155 : decode cX10_same 155 = .ok (.goto 4, 3) := by decide +kernel
theorem dX10_same_158 : decode cX10_same 158 = .ok (.iconst 0, 1) := by decide +kernel
theorem dX10_same_159 : decode cX10_same 159 = .ok (.ireturn, 1) := by decide +kernel
set_option maxRecDepth 20000 in
theorem ggX10_drop_X10_isClaim : GoodIn wsX10_drop wsX10_isClaim := goodIn_r _ [5, 6, 7, 4, 8] (by decide +kernel) (by decide +kernel)
set_option maxRecDepth 20000 in
theorem gX10_drop_X10_isClaim : GoodIn wsX10_drop (va_wsS RX10 108 yX10_isClaim wsX10_isClaim) := goodIn_app (goodIn_of _ (by decide +kernel)) ggX10_drop_X10_isClaim
set_option maxRecDepth 20000 in
theorem ggX10_drop_X10_isThere : GoodIn wsX10_drop wsX10_isThere := goodIn_r _ [12, 1, 13, 14, 15, 16, 17, 18, 19, 20, 21, 22, 23, 24, 25, 26, 27, 28, 29, 30, 31, 32] (by decide +kernel) (by decide +kernel)
set_option maxRecDepth 20000 in
theorem gX10_drop_X10_isThere : GoodIn wsX10_drop (wsV RX10 132 RX10 yX10_isThere wsX10_isThere) := goodIn_app (goodIn_of _ (by decide +kernel)) ggX10_drop_X10_isThere
theorem dX10_drop_0 : decode cX10_drop 0 = .ok (.iload_n 1, 1) := by decide +kernel
theorem dX10_drop_1 : decode cX10_drop 1 = .ok (.invokestatic 108, 3) := by decide +kernel
theorem dX10_drop_4 : decode cX10_drop 4 = .ok (.ifCond .ne 5, 3) := by decide +kernel
theorem dX10_drop_7 : decode cX10_drop 7 = .ok (.iconst (-1), 1) := by decide +kernel
theorem dX10_drop_8 : decode cX10_drop 8 = .ok (.ireturn, 1) := by decide +kernel
theorem dX10_drop_9 : decode cX10_drop 9 = .ok (.aload_n 0, 1) := by decide +kernel
theorem dX10_drop_10 : decode cX10_drop 10 = .ok (.iload_n 1, 1) := by decide +kernel
theorem dX10_drop_11 : decode cX10_drop 11 = .ok (.invokevirtual 132, 3) := by decide +kernel
theorem dX10_drop_14 : decode cX10_drop 14 = .ok (.ifCond .ne 6, 3) := by decide +kernel
theorem dX10_drop_17 : decode cX10_drop 17 = .ok (.bipush (-3), 2) := by decide +kernel
theorem dX10_drop_19 : decode cX10_drop 19 = .ok (.ireturn, 1) := by decide +kernel
theorem dX10_drop_20 : decode cX10_drop 20 = .ok (.aload_n 0, 1) := by decide +kernel
theorem dX10_drop_21 : decode cX10_drop 21 = .ok (.getfield 16, 3) := by decide +kernel
theorem dX10_drop_24 : decode cX10_drop 24 = .ok (.iload_n 1, 1) := by decide +kernel
theorem dX10_drop_25 : decode cX10_drop 25 = .ok (.iaload, 1) := by decide +kernel
theorem dX10_drop_26 : decode cX10_drop 26 = .ok (.istore_n 2, 1) := by decide +kernel
theorem dX10_drop_27 : decode cX10_drop 27 = .ok (.aload_n 0, 1) := by decide +kernel
theorem dX10_drop_28 : decode cX10_drop 28 = .ok (.getfield 16, 3) := by decide +kernel
theorem dX10_drop_31 : decode cX10_drop 31 = .ok (.iload_n 1, 1) := by decide +kernel
theorem dX10_drop_32 : decode cX10_drop 32 = .ok (.iconst 0, 1) := by decide +kernel
theorem dX10_drop_33 : decode cX10_drop 33 = .ok (.iastore, 1) := by decide +kernel
theorem dX10_drop_34 : decode cX10_drop 34 = .ok (.iload_n 2, 1) := by decide +kernel
theorem dX10_drop_35 : decode cX10_drop 35 = .ok (.ireturn, 1) := by decide +kernel
set_option maxRecDepth 20000 in
theorem ggX10_many_X10_within : GoodIn wsX10_many wsX10_within := goodIn_r _ [5] (by decide +kernel) (by decide +kernel)
set_option maxRecDepth 20000 in
theorem gX10_many_X10_within : GoodIn wsX10_many (va_wsS RX10 69 yX10_within wsX10_within) := goodIn_app (goodIn_of _ (by decide +kernel)) ggX10_many_X10_within
set_option maxRecDepth 20000 in
theorem ggX10_many_X10_isThere : GoodIn wsX10_many wsX10_isThere := goodIn_r _ [9, 1, 10, 11, 12, 13, 14, 15, 16, 17, 18, 19, 20, 21, 22, 23, 24, 25, 26, 27, 28, 29] (by decide +kernel) (by decide +kernel)
set_option maxRecDepth 20000 in
theorem gX10_many_X10_isThere : GoodIn wsX10_many (wsV RX10 132 RX10 yX10_isThere wsX10_isThere) := goodIn_app (goodIn_of _ (by decide +kernel)) ggX10_many_X10_isThere
theorem dX10_many_0 : decode cX10_many 0 = .ok (.iload_n 1, 1) := by decide +kernel
theorem dX10_many_1 : decode cX10_many 1 = .ok (.iconst 0, 1) := by decide +kernel
theorem dX10_many_2 : decode cX10_many 2 = .ok (.iconst 1, 1) := by decide +kernel
theorem dX10_many_3 : decode cX10_many 3 = .ok (.invokestatic 69, 3) := by decide +kernel
theorem dX10_many_6 : decode cX10_many 6 = .ok (.ifCond .ne 6, 3) := by decide +kernel
theorem dX10_many_9 : decode cX10_many 9 = .ok (.bipush (-2), 2) := by decide +kernel
theorem dX10_many_11 : decode cX10_many 11 = .ok (.ireturn, 1) := by decide +kernel
theorem dX10_many_12 : decode cX10_many 12 = .ok (.iconst 0, 1) := by decide +kernel
theorem dX10_many_13 : decode cX10_many 13 = .ok (.istore_n 2, 1) := by decide +kernel
theorem dX10_many_14 : decode cX10_many 14 = .ok (.iconst 0, 1) := by decide +kernel
theorem dX10_many_15 : decode cX10_many 15 = .ok (.istore_n 3, 1) := by decide +kernel
theorem dX10_many_16 : decode cX10_many 16 = .ok (.iload_n 3, 1) := by decide +kernel
theorem dX10_many_17 : decode cX10_many 17 = .ok (.bipush 6, 2) := by decide +kernel
theorem dX10_many_19 : decode cX10_many 19 = .ok (.if_icmp .ge 39, 3) := by decide +kernel
theorem dX10_many_22 : decode cX10_many 22 = .ok (.iload_n 2, 1) := by decide +kernel
theorem dX10_many_23 : decode cX10_many 23 = .ok (.iload_n 1, 1) := by decide +kernel
theorem dX10_many_24 : decode cX10_many 24 = .ok (.iconst 1, 1) := by decide +kernel
theorem dX10_many_25 : decode cX10_many 25 = .ok (.if_icmp .ne 12, 3) := by decide +kernel
theorem dX10_many_28 : decode cX10_many 28 = .ok (.aload_n 0, 1) := by decide +kernel
theorem dX10_many_29 : decode cX10_many 29 = .ok (.getfield 16, 3) := by decide +kernel
theorem dX10_many_32 : decode cX10_many 32 = .ok (.iload_n 3, 1) := by decide +kernel
theorem dX10_many_33 : decode cX10_many 33 = .ok (.iaload, 1) := by decide +kernel
theorem dX10_many_34 : decode cX10_many 34 = .ok (.goto 16, 3) := by decide +kernel
theorem dX10_many_37 : decode cX10_many 37 = .ok (.aload_n 0, 1) := by decide +kernel
theorem dX10_many_38 : decode cX10_many 38 = .ok (.iload_n 3, 1) := by decide +kernel
theorem dX10_many_39 : decode cX10_many 39 = .ok (.invokevirtual 132, 3) := by decide +kernel
theorem dX10_many_42 : decode cX10_many 42 = .ok (.ifCond .eq 7, 3) := by decide +kernel
theorem dX10_many_45 : decode cX10_many 45 = .ok (.iconst 1, 1) := by decide +kernel
theorem dX10_many_46 : decode cX10_many 46 = .ok (.goto 4, 3) := by decide +kernel
theorem dX10_many_49 : decode cX10_many 49 = .ok (.iconst 0, 1) := by decide +kernel
theorem dX10_many_50 : decode cX10_many 50 = .ok (.iadd, 1) := by decide +kernel
theorem dX10_many_51 : decode cX10_many 51 = .ok (.istore_n 2, 1) := by decide +kernel
theorem dX10_many_52 : decode cX10_many 52 = .ok (.iinc 3 1, 3) := by decide +kernel
theorem dX10_many_55 : decode cX10_many 55 = .ok (.goto (-39), 3) := by decide +kernel
theorem dX10_many_58 : decode cX10_many 58 = .ok (.iload_n 2, 1) := by decide +kernel
theorem dX10_many_59 : decode cX10_many 59 = .ok (.ireturn, 1) := by decide +kernel
