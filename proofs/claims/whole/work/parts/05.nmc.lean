theorem dX4_init_0 : decode cX4_init 0 = .ok (.aload_n 0, 1) := by decide +kernel
theorem dX4_init_1 : decode cX4_init 1 = .ok (.invokespecial 3, 3) := by decide +kernel
theorem dX4_init_4 : decode cX4_init 4 = .ok (.aload_n 0, 1) := by decide +kernel
theorem dX4_init_5 : decode cX4_init 5 = .ok (.aload_n 1, 1) := by decide +kernel
theorem dX4_init_6 : decode cX4_init 6 = .ok (.putfield 9, 3) := by decide +kernel
theorem dX4_init_9 : decode cX4_init 9 = .ok (.return_, 1) := by decide +kernel
set_option maxRecDepth 20000 in
theorem ggX4_start_X1_begin : GoodIn wsX4_start wsX1_begin := goodIn_r _ [6, 7, 8, 9, 10, 11, 12, 13, 14, 15, 16, 17, 18, 5, 19, 20, 21, 22, 23, 24, 25, 26, 28, 29, 30, 31, 32, 33, 34, 35, 36, 37, 38] (by decide +kernel) (by decide +kernel)
set_option maxRecDepth 20000 in
theorem gX4_start_X1_begin : GoodIn wsX4_start (wsV RX4 15 RX1 yX1_begin wsX1_begin) := goodIn_app (goodIn_of _ (by decide +kernel)) ggX4_start_X1_begin
theorem dX4_start_0 : decode cX4_start 0 = .ok (.aload_n 0, 1) := by decide +kernel
theorem dX4_start_1 : decode cX4_start 1 = .ok (.getfield 9, 3) := by decide +kernel
theorem dX4_start_4 : decode cX4_start 4 = .ok (.iload_n 1, 1) := by decide +kernel
theorem dX4_start_5 : decode cX4_start 5 = .ok (.iload_n 1, 1) := by decide +kernel
theorem dX4_start_6 : decode cX4_start 6 = .ok (.invokevirtual 15, 3) := by decide +kernel
theorem dX4_start_9 : decode cX4_start 9 = .ok (.return_, 1) := by decide +kernel
set_option maxRecDepth 20000 in
theorem ggX4_makeEqual_X4_start : GoodIn wsX4_makeEqual wsX4_start := goodIn_r _ [6, 1, 7, 8, 9, 10, 11, 12, 13, 14, 15, 16, 17, 18, 19, 20, 21, 22, 23, 24, 25, 26, 27, 28, 29, 30, 31, 137, 138, 139, 140, 141, 142, 143, 144, 145, 146, 147, 148] (by decide +kernel) (by decide +kernel)
set_option maxRecDepth 20000 in
theorem gX4_makeEqual_X4_start : GoodIn wsX4_makeEqual (wsV RX4 21 RX4 yX4_start wsX4_start) := goodIn_app (goodIn_of _ (by decide +kernel)) ggX4_makeEqual_X4_start
set_option maxRecDepth 20000 in
theorem ggX4_makeEqual_X9_digitOf : GoodIn wsX4_makeEqual wsX9_digitOf := goodIn_r _ [34] (by decide +kernel) (by decide +kernel)
set_option maxRecDepth 20000 in
theorem gX4_makeEqual_X9_digitOf_n25 : GoodIn wsX4_makeEqual (wsX9_digitOf) := ggX4_makeEqual_X9_digitOf
set_option maxRecDepth 20000 in
theorem ggX4_makeEqual_X1_write : GoodIn wsX4_makeEqual wsX1_write := goodIn_r _ [38, 26, 39, 40, 41, 10, 42, 20, 43, 33, 44, 138, 139, 140, 141, 142, 143, 144, 145, 146, 147, 148] (by decide +kernel) (by decide +kernel)
set_option maxRecDepth 20000 in
theorem gX4_makeEqual_X1_write : GoodIn wsX4_makeEqual (wsV RX4 29 RX1 yX1_write wsX1_write) := goodIn_app (goodIn_of _ (by decide +kernel)) ggX4_makeEqual_X1_write
set_option maxRecDepth 20000 in
theorem ggX4_makeEqual_X1_writeSays : GoodIn wsX4_makeEqual wsX1_writeSays := goodIn_r _ [48, 28, 39, 40, 41, 10, 42, 20, 138, 139, 140, 141, 142, 143, 144, 145, 146, 147, 148] (by decide +kernel) (by decide +kernel)
set_option maxRecDepth 20000 in
theorem gX4_makeEqual_X1_writeSays : GoodIn wsX4_makeEqual (wsV RX4 33 RX1 yX1_writeSays wsX1_writeSays) := goodIn_app (goodIn_of _ (by decide +kernel)) ggX4_makeEqual_X1_writeSays
set_option maxRecDepth 20000 in
theorem ggX4_makeEqual_X1_reduceInto : GoodIn wsX4_makeEqual wsX1_reduceInto := goodIn_r _ [52, 53, 54, 55, 10, 56, 57, 58, 59, 60, 61, 20, 30, 28, 62, 63, 64, 65, 66, 67, 68, 69, 70, 71, 72, 73, 74, 75, 76, 77, 78, 79, 80, 81, 82, 83, 84, 85, 86, 31, 87, 88, 89, 90, 26, 91, 92, 93, 94, 95, 96, 97, 98, 99, 100, 101, 102, 103, 104, 105, 106, 107, 108, 109, 110, 111, 112, 113, 114, 115, 116, 14, 15, 16, 117, 18, 19, 118, 39, 40, 41, 42, 119, 120, 121, 122, 123, 124, 125, 126, 127, 128, 129, 130, 131, 132, 133, 134, 135, 136, 43, 33, 44, 138, 139, 140, 141, 142, 143, 144, 145, 146, 147, 148, 149, 150, 151, 152, 153, 154] (by decide +kernel) (by decide +kernel)
set_option maxRecDepth 20000 in
theorem gX4_makeEqual_X1_reduceInto : GoodIn wsX4_makeEqual (wsV RX4 37 RX1 yX1_reduceInto wsX1_reduceInto) := goodIn_app (goodIn_of _ (by decide +kernel)) ggX4_makeEqual_X1_reduceInto
theorem dX4_makeEqual_0 : decode cX4_makeEqual 0 = .ok (.aload_n 0, 1) := by decide +kernel
theorem dX4_makeEqual_1 : decode cX4_makeEqual 1 = .ok (.iconst 2, 1) := by decide +kernel
theorem dX4_makeEqual_2 : decode cX4_makeEqual 2 = .ok (.invokevirtual 21, 3) := by decide +kernel
theorem dX4_makeEqual_5 : decode cX4_makeEqual 5 = .ok (.iconst 0, 1) := by decide +kernel
theorem dX4_makeEqual_6 : decode cX4_makeEqual 6 = .ok (.istore 4, 2) := by decide +kernel
theorem dX4_makeEqual_8 : decode cX4_makeEqual 8 = .ok (.iload 4, 2) := by decide +kernel
theorem dX4_makeEqual_10 : decode cX4_makeEqual 10 = .ok (.bipush 8, 2) := by decide +kernel
theorem dX4_makeEqual_12 : decode cX4_makeEqual 12 = .ok (.if_icmp .ge 50, 3) := by decide +kernel
theorem dX4_makeEqual_15 : decode cX4_makeEqual 15 = .ok (.aload_n 0, 1) := by decide +kernel
theorem dX4_makeEqual_16 : decode cX4_makeEqual 16 = .ok (.getfield 9, 3) := by decide +kernel
theorem dX4_makeEqual_19 : decode cX4_makeEqual 19 = .ok (.iconst 0, 1) := by decide +kernel
theorem dX4_makeEqual_20 : decode cX4_makeEqual 20 = .ok (.iload 4, 2) := by decide +kernel
theorem dX4_makeEqual_22 : decode cX4_makeEqual 22 = .ok (.iload 4, 2) := by decide +kernel
theorem dX4_makeEqual_24 : decode cX4_makeEqual 24 = .ok (.iload_n 2, 1) := by decide +kernel
theorem dX4_makeEqual_25 : decode cX4_makeEqual 25 = .ok (.invokestatic 25, 3) := by decide +kernel
theorem dX4_makeEqual_28 : decode cX4_makeEqual 28 = .ok (.iload 4, 2) := by decide +kernel
theorem dX4_makeEqual_30 : decode cX4_makeEqual 30 = .ok (.iload_n 3, 1) := by decide +kernel
theorem dX4_makeEqual_31 : decode cX4_makeEqual 31 = .ok (.invokestatic 25, 3) := by decide +kernel
theorem dX4_makeEqual_34 : decode cX4_makeEqual 34 = .ok (.if_icmp .ne 7, 3) := by decide +kernel
theorem dX4_makeEqual_37 : decode cX4_makeEqual 37 = .ok (.iconst 0, 1) := by decide +kernel
theorem dX4_makeEqual_38 : decode cX4_makeEqual 38 = .ok (.goto 4, 3) := by decide +kernel
theorem dX4_makeEqual_41 : decode cX4_makeEqual 41 = .ok (.iconst 1, 1) := by decide +kernel
theorem dX4_makeEqual_42 : decode cX4_makeEqual 42 = .ok (.invokevirtual 29, 3) := by decide +kernel
theorem dX4_makeEqual_45 : decode cX4_makeEqual 45 = .ok (.aload_n 0, 1) := by decide +kernel
theorem dX4_makeEqual_46 : decode cX4_makeEqual 46 = .ok (.getfield 9, 3) := by decide +kernel
theorem dX4_makeEqual_49 : decode cX4_makeEqual 49 = .ok (.iconst 1, 1) := by decide +kernel
theorem dX4_makeEqual_50 : decode cX4_makeEqual 50 = .ok (.iload 4, 2) := by decide +kernel
theorem dX4_makeEqual_52 : decode cX4_makeEqual 52 = .ok (.iconst 1, 1) := by decide +kernel
theorem dX4_makeEqual_53 : decode cX4_makeEqual 53 = .ok (.invokevirtual 29, 3) := by decide +kernel
theorem dX4_makeEqual_56 : decode cX4_makeEqual 56 = .ok (.iinc 4 1, 3) := by decide +kernel
theorem dX4_makeEqual_59 : decode cX4_makeEqual 59 = .ok (.goto (-51), 3) := by decide +kernel
theorem dX4_makeEqual_62 : decode cX4_makeEqual 62 = .ok (.aload_n 0, 1) := by decide +kernel
theorem dX4_makeEqual_63 : decode cX4_makeEqual 63 = .ok (.getfield 9, 3) := by decide +kernel
theorem dX4_makeEqual_66 : decode cX4_makeEqual 66 = .ok (.iconst 0, 1) := by decide +kernel
theorem dX4_makeEqual_67 : decode cX4_makeEqual 67 = .ok (.iconst 1, 1) := by decide +kernel
theorem dX4_makeEqual_68 : decode cX4_makeEqual 68 = .ok (.invokevirtual 33, 3) := by decide +kernel
theorem dX4_makeEqual_71 : decode cX4_makeEqual 71 = .ok (.aload_n 0, 1) := by decide +kernel
theorem dX4_makeEqual_72 : decode cX4_makeEqual 72 = .ok (.getfield 9, 3) := by decide +kernel
theorem dX4_makeEqual_75 : decode cX4_makeEqual 75 = .ok (.iconst 1, 1) := by decide +kernel
theorem dX4_makeEqual_76 : decode cX4_makeEqual 76 = .ok (.iconst 0, 1) := by decide +kernel
theorem dX4_makeEqual_77 : decode cX4_makeEqual 77 = .ok (.invokevirtual 33, 3) := by decide +kernel
theorem dX4_makeEqual_80 : decode cX4_makeEqual 80 = .ok (.aload_n 0, 1) := by decide +kernel
theorem dX4_makeEqual_81 : decode cX4_makeEqual 81 = .ok (.getfield 9, 3) := by decide +kernel
theorem dX4_makeEqual_84 : decode cX4_makeEqual 84 = .ok (.aload_n 1, 1) := by decide +kernel
theorem dX4_makeEqual_85 : decode cX4_makeEqual 85 = .ok (.invokevirtual 37, 3) := by decide +kernel
theorem dX4_makeEqual_88 : decode cX4_makeEqual 88 = .ok (.ireturn, 1) := by decide +kernel
set_option maxRecDepth 20000 in
theorem ggX4_makeLess_X4_start : GoodIn wsX4_makeLess wsX4_start := goodIn_r _ [6, 1, 7, 8, 9, 10, 11, 12, 13, 14, 15, 16, 17, 18, 19, 20, 21, 22, 23, 24, 25, 26, 27, 28, 29, 30, 31, 137, 138, 139, 140, 141, 142, 143, 144, 145, 146, 147, 148] (by decide +kernel) (by decide +kernel)
set_option maxRecDepth 20000 in
theorem gX4_makeLess_X4_start : GoodIn wsX4_makeLess (wsV RX4 21 RX4 yX4_start wsX4_start) := goodIn_app (goodIn_of _ (by decide +kernel)) ggX4_makeLess_X4_start
set_option maxRecDepth 20000 in
theorem ggX4_makeLess_X9_digitOf : GoodIn wsX4_makeLess wsX9_digitOf := goodIn_r _ [34] (by decide +kernel) (by decide +kernel)
set_option maxRecDepth 20000 in
theorem gX4_makeLess_X9_digitOf_n25 : GoodIn wsX4_makeLess (wsX9_digitOf) := ggX4_makeLess_X9_digitOf
set_option maxRecDepth 20000 in
theorem ggX4_makeLess_X1_write : GoodIn wsX4_makeLess wsX1_write := goodIn_r _ [38, 26, 39, 40, 41, 10, 42, 20, 43, 33, 44, 138, 139, 140, 141, 142, 143, 144, 145, 146, 147, 148] (by decide +kernel) (by decide +kernel)
set_option maxRecDepth 20000 in
theorem gX4_makeLess_X1_write : GoodIn wsX4_makeLess (wsV RX4 29 RX1 yX1_write wsX1_write) := goodIn_app (goodIn_of _ (by decide +kernel)) ggX4_makeLess_X1_write
set_option maxRecDepth 20000 in
theorem ggX4_makeLess_X1_writeSays : GoodIn wsX4_makeLess wsX1_writeSays := goodIn_r _ [48, 28, 39, 40, 41, 10, 42, 20, 138, 139, 140, 141, 142, 143, 144, 145, 146, 147, 148] (by decide +kernel) (by decide +kernel)
set_option maxRecDepth 20000 in
theorem gX4_makeLess_X1_writeSays : GoodIn wsX4_makeLess (wsV RX4 33 RX1 yX1_writeSays wsX1_writeSays) := goodIn_app (goodIn_of _ (by decide +kernel)) ggX4_makeLess_X1_writeSays
set_option maxRecDepth 20000 in
theorem ggX4_makeLess_X1_reduceInto : GoodIn wsX4_makeLess wsX1_reduceInto := goodIn_r _ [52, 53, 54, 55, 10, 56, 57, 58, 59, 60, 61, 20, 30, 28, 62, 63, 64, 65, 66, 67, 68, 69, 70, 71, 72, 73, 74, 75, 76, 77, 78, 79, 80, 81, 82, 83, 84, 85, 86, 31, 87, 88, 89, 90, 26, 91, 92, 93, 94, 95, 96, 97, 98, 99, 100, 101, 102, 103, 104, 105, 106, 107, 108, 109, 110, 111, 112, 113, 114, 115, 116, 14, 15, 16, 117, 18, 19, 118, 39, 40, 41, 42, 119, 120, 121, 122, 123, 124, 125, 126, 127, 128, 129, 130, 131, 132, 133, 134, 135, 136, 43, 33, 44, 138, 139, 140, 141, 142, 143, 144, 145, 146, 147, 148, 149, 150, 151, 152, 153, 154] (by decide +kernel) (by decide +kernel)
set_option maxRecDepth 20000 in
theorem gX4_makeLess_X1_reduceInto : GoodIn wsX4_makeLess (wsV RX4 37 RX1 yX1_reduceInto wsX1_reduceInto) := goodIn_app (goodIn_of _ (by decide +kernel)) ggX4_makeLess_X1_reduceInto
theorem dX4_makeLess_0 : decode cX4_makeLess 0 = .ok (.aload_n 0, 1) := by decide +kernel
theorem dX4_makeLess_1 : decode cX4_makeLess 1 = .ok (.iconst 3, 1) := by decide +kernel
theorem dX4_makeLess_2 : decode cX4_makeLess 2 = .ok (.invokevirtual 21, 3) := by decide +kernel
theorem dX4_makeLess_5 : decode cX4_makeLess 5 = .ok (.iconst 0, 1) := by decide +kernel
theorem dX4_makeLess_6 : decode cX4_makeLess 6 = .ok (.istore 4, 2) := by decide +kernel
theorem dX4_makeLess_8 : decode cX4_makeLess 8 = .ok (.iload 4, 2) := by decide +kernel
theorem dX4_makeLess_10 : decode cX4_makeLess 10 = .ok (.bipush 8, 2) := by decide +kernel
theorem dX4_makeLess_12 : decode cX4_makeLess 12 = .ok (.if_icmp .ge 75, 3) := by decide +kernel
theorem dX4_makeLess_15 : decode cX4_makeLess 15 = .ok (.iload 4, 2) := by decide +kernel
theorem dX4_makeLess_17 : decode cX4_makeLess 17 = .ok (.iload_n 2, 1) := by decide +kernel
theorem dX4_makeLess_18 : decode cX4_makeLess 18 = .ok (.invokestatic 25, 3) := by decide +kernel
theorem dX4_makeLess_21 : decode cX4_makeLess 21 = .ok (.iload 4, 2) := by decide +kernel
theorem dX4_makeLess_23 : decode cX4_makeLess 23 = .ok (.iload_n 3, 1) := by decide +kernel
theorem dX4_makeLess_24 : decode cX4_makeLess 24 = .ok (.invokestatic 25, 3) := by decide +kernel
theorem dX4_makeLess_27 : decode cX4_makeLess 27 = .ok (.isub, 1) := by decide +kernel
theorem dX4_makeLess_28 : decode cX4_makeLess 28 = .ok (.istore 5, 2) := by decide +kernel
theorem dX4_makeLess_30 : decode cX4_makeLess 30 = .ok (.aload_n 0, 1) := by decide +kernel
theorem dX4_makeLess_31 : decode cX4_makeLess 31 = .ok (.getfield 9, 3) := by decide +kernel
theorem dX4_makeLess_34 : decode cX4_makeLess 34 = .ok (.iconst 0, 1) := by decide +kernel
theorem dX4_makeLess_35 : decode cX4_makeLess 35 = .ok (.iload 4, 2) := by decide +kernel
theorem dX4_makeLess_37 : decode cX4_makeLess 37 = .ok (.iload 5, 2) := by decide +kernel
theorem dX4_makeLess_39 : decode cX4_makeLess 39 = .ok (.ifCond .ne 7, 3) := by decide +kernel
theorem dX4_makeLess_42 : decode cX4_makeLess 42 = .ok (.iconst 0, 1) := by decide +kernel
theorem dX4_makeLess_43 : decode cX4_makeLess 43 = .ok (.goto 13, 3) := by decide +kernel
theorem dX4_makeLess_46 : decode cX4_makeLess 46 = .ok (.iload 5, 2) := by decide +kernel
theorem dX4_makeLess_48 : decode cX4_makeLess 48 = .ok (.ifCond .ge 7, 3) := by decide +kernel
theorem dX4_makeLess_51 : decode cX4_makeLess 51 = .ok (.iconst 1, 1) := by decide +kernel
theorem dX4_makeLess_52 : decode cX4_makeLess 52 = .ok (.goto 4, 3) := by decide +kernel
theorem dX4_makeLess_55 : decode cX4_makeLess 55 = .ok (.iconst 2, 1) := by decide +kernel
theorem dX4_makeLess_56 : decode cX4_makeLess 56 = .ok (.invokevirtual 29, 3) := by decide +kernel
theorem dX4_makeLess_59 : decode cX4_makeLess 59 = .ok (.aload_n 0, 1) := by decide +kernel
theorem dX4_makeLess_60 : decode cX4_makeLess 60 = .ok (.getfield 9, 3) := by decide +kernel
theorem dX4_makeLess_63 : decode cX4_makeLess 63 = .ok (.iconst 1, 1) := by decide +kernel
theorem dX4_makeLess_64 : decode cX4_makeLess 64 = .ok (.iload 4, 2) := by decide +kernel
theorem dX4_makeLess_66 : decode cX4_makeLess 66 = .ok (.iconst 1, 1) := by decide +kernel
theorem dX4_makeLess_67 : decode cX4_makeLess 67 = .ok (.invokevirtual 29, 3) := by decide +kernel
theorem dX4_makeLess_70 : decode cX4_makeLess 70 = .ok (.aload_n 0, 1) := by decide +kernel
theorem dX4_makeLess_71 : decode cX4_makeLess 71 = .ok (.getfield 9, 3) := by decide +kernel
theorem dX4_makeLess_74 : decode cX4_makeLess 74 = .ok (.iconst 2, 1) := by decide +kernel
theorem dX4_makeLess_75 : decode cX4_makeLess 75 = .ok (.iload 4, 2) := by decide +kernel
theorem dX4_makeLess_77 : decode cX4_makeLess 77 = .ok (.iconst 2, 1) := by decide +kernel
theorem dX4_makeLess_78 : decode cX4_makeLess 78 = .ok (.invokevirtual 29, 3) := by decide +kernel
theorem dX4_makeLess_81 : decode cX4_makeLess 81 = .ok (.iinc 4 1, 3) := by decide +kernel
theorem dX4_makeLess_84 : decode cX4_makeLess 84 = .ok (.goto (-76), 3) := by decide +kernel
theorem dX4_makeLess_87 : decode cX4_makeLess 87 = .ok (.iconst 0, 1) := by decide +kernel
theorem dX4_makeLess_88 : decode cX4_makeLess 88 = .ok (.istore 4, 2) := by decide +kernel
theorem dX4_makeLess_90 : decode cX4_makeLess 90 = .ok (.iload 4, 2) := by decide +kernel
theorem dX4_makeLess_92 : decode cX4_makeLess 92 = .ok (.iconst 3, 1) := by decide +kernel
theorem dX4_makeLess_93 : decode cX4_makeLess 93 = .ok (.if_icmp .ge 29, 3) := by decide +kernel
theorem dX4_makeLess_96 : decode cX4_makeLess 96 = .ok (.aload_n 0, 1) := by decide +kernel
theorem dX4_makeLess_97 : decode cX4_makeLess 97 = .ok (.getfield 9, 3) := by decide +kernel
theorem dX4_makeLess_100 : decode cX4_makeLess 100 = .ok (.iload 4, 2) := by decide +kernel
theorem dX4_makeLess_102 : decode cX4_makeLess 102 = .ok (.iload 4, 2) := by decide +kernel
theorem dX4_makeLess_104 : decode cX4_makeLess 104 = .ok (.iconst 1, 1) := by decide +kernel
theorem dX4_makeLess_105 : decode cX4_makeLess 105 = .ok (.if_icmp .ne 7, 3) := by decide +kernel
theorem dX4_makeLess_108 : decode cX4_makeLess 108 = .ok (.iconst 1, 1) := by decide +kernel
theorem dX4_makeLess_109 : decode cX4_makeLess 109 = .ok (.goto 4, 3) := by decide +kernel
theorem dX4_makeLess_112 : decode cX4_makeLess 112 = .ok (.iconst 0, 1) := by decide +kernel
theorem dX4_makeLess_113 : decode cX4_makeLess 113 = .ok (.invokevirtual 33, 3) := by decide +kernel
theorem dX4_makeLess_116 : decode cX4_makeLess 116 = .ok (.iinc 4 1, 3) := by decide +kernel
theorem dX4_makeLess_119 : decode cX4_makeLess 119 = .ok (.goto (-29), 3) := by decide +kernel
theorem dX4_makeLess_122 : decode cX4_makeLess 122 = .ok (.aload_n 0, 1) := by decide +kernel
theorem dX4_makeLess_123 : decode cX4_makeLess 123 = .ok (.getfield 9, 3) := by decide +kernel
theorem dX4_makeLess_126 : decode cX4_makeLess 126 = .ok (.aload_n 1, 1) := by decide +kernel
theorem dX4_makeLess_127 : decode cX4_makeLess 127 = .ok (.invokevirtual 37, 3) := by decide +kernel
theorem dX4_makeLess_130 : decode cX4_makeLess 130 = .ok (.ireturn, 1) := by decide +kernel
set_option maxRecDepth 20000 in
theorem ggX4_makeSum_X4_start : GoodIn wsX4_makeSum wsX4_start := goodIn_r _ [6, 1, 7, 8, 9, 10, 11, 12, 13, 14, 15, 16, 17, 18, 19, 20, 21, 22, 23, 24, 25, 26, 27, 28, 29, 30, 31, 137, 138, 139, 140, 141, 142, 143, 144, 145, 146, 147, 148] (by decide +kernel) (by decide +kernel)
set_option maxRecDepth 20000 in
theorem gX4_makeSum_X4_start : GoodIn wsX4_makeSum (wsV RX4 21 RX4 yX4_start wsX4_start) := goodIn_app (goodIn_of _ (by decide +kernel)) ggX4_makeSum_X4_start
set_option maxRecDepth 20000 in
theorem ggX4_makeSum_X9_digitOf : GoodIn wsX4_makeSum wsX9_digitOf := goodIn_r _ [34] (by decide +kernel) (by decide +kernel)
set_option maxRecDepth 20000 in
theorem gX4_makeSum_X9_digitOf_n25 : GoodIn wsX4_makeSum (wsX9_digitOf) := ggX4_makeSum_X9_digitOf
set_option maxRecDepth 20000 in
theorem ggX4_makeSum_X1_write : GoodIn wsX4_makeSum wsX1_write := goodIn_r _ [38, 26, 39, 40, 41, 10, 42, 20, 43, 33, 44, 138, 139, 140, 141, 142, 143, 144, 145, 146, 147, 148] (by decide +kernel) (by decide +kernel)
set_option maxRecDepth 20000 in
theorem gX4_makeSum_X1_write : GoodIn wsX4_makeSum (wsV RX4 29 RX1 yX1_write wsX1_write) := goodIn_app (goodIn_of _ (by decide +kernel)) ggX4_makeSum_X1_write
set_option maxRecDepth 20000 in
theorem ggX4_makeSum_X1_writeSays : GoodIn wsX4_makeSum wsX1_writeSays := goodIn_r _ [48, 28, 39, 40, 41, 10, 42, 20, 138, 139, 140, 141, 142, 143, 144, 145, 146, 147, 148] (by decide +kernel) (by decide +kernel)
set_option maxRecDepth 20000 in
theorem gX4_makeSum_X1_writeSays : GoodIn wsX4_makeSum (wsV RX4 33 RX1 yX1_writeSays wsX1_writeSays) := goodIn_app (goodIn_of _ (by decide +kernel)) ggX4_makeSum_X1_writeSays
set_option maxRecDepth 20000 in
theorem ggX4_makeSum_X1_reduceInto : GoodIn wsX4_makeSum wsX1_reduceInto := goodIn_r _ [52, 53, 54, 55, 10, 56, 57, 58, 59, 60, 61, 20, 30, 28, 62, 63, 64, 65, 66, 67, 68, 69, 70, 71, 72, 73, 74, 75, 76, 77, 78, 79, 80, 81, 82, 83, 84, 85, 86, 31, 87, 88, 89, 90, 26, 91, 92, 93, 94, 95, 96, 97, 98, 99, 100, 101, 102, 103, 104, 105, 106, 107, 108, 109, 110, 111, 112, 113, 114, 115, 116, 14, 15, 16, 117, 18, 19, 118, 39, 40, 41, 42, 119, 120, 121, 122, 123, 124, 125, 126, 127, 128, 129, 130, 131, 132, 133, 134, 135, 136, 43, 33, 44, 138, 139, 140, 141, 142, 143, 144, 145, 146, 147, 148, 149, 150, 151, 152, 153, 154] (by decide +kernel) (by decide +kernel)
set_option maxRecDepth 20000 in
theorem gX4_makeSum_X1_reduceInto : GoodIn wsX4_makeSum (wsV RX4 37 RX1 yX1_reduceInto wsX1_reduceInto) := goodIn_app (goodIn_of _ (by decide +kernel)) ggX4_makeSum_X1_reduceInto
theorem dX4_makeSum_0 : decode cX4_makeSum 0 = .ok (.aload_n 0, 1) := by decide +kernel
theorem dX4_makeSum_1 : decode cX4_makeSum 1 = .ok (.iconst 3, 1) := by decide +kernel
theorem dX4_makeSum_2 : decode cX4_makeSum 2 = .ok (.invokevirtual 21, 3) := by decide +kernel
theorem dX4_makeSum_5 : decode cX4_makeSum 5 = .ok (.iconst 3, 1) := by decide +kernel
theorem dX4_makeSum_6 : decode cX4_makeSum 6 = .ok (.iload_n 2, 1) := by decide +kernel
theorem dX4_makeSum_7 : decode cX4_makeSum 7 = .ok (.isub, 1) := by decide +kernel
theorem dX4_makeSum_8 : decode cX4_makeSum 8 = .ok (.iload_n 3, 1) := by decide +kernel
theorem dX4_makeSum_9 : decode cX4_makeSum 9 = .ok (.isub, 1) := by decide +kernel
theorem dX4_makeSum_10 : decode cX4_makeSum 10 = .ok (.istore 4, 2) := by decide +kernel
theorem dX4_makeSum_12 : decode cX4_makeSum 12 = .ok (.iconst 0, 1) := by decide +kernel
theorem dX4_makeSum_13 : decode cX4_makeSum 13 = .ok (.istore 5, 2) := by decide +kernel
theorem dX4_makeSum_15 : decode cX4_makeSum 15 = .ok (.iload 5, 2) := by decide +kernel
theorem dX4_makeSum_17 : decode cX4_makeSum 17 = .ok (.bipush 8, 2) := by decide +kernel
theorem dX4_makeSum_19 : decode cX4_makeSum 19 = .ok (.if_icmp .ge 95, 3) := by decide +kernel
theorem dX4_makeSum_22 : decode cX4_makeSum 22 = .ok (.iload 5, 2) := by decide +kernel
theorem dX4_makeSum_24 : decode cX4_makeSum 24 = .ok (.iload 4, 2) := by decide +kernel
theorem dX4_makeSum_26 : decode cX4_makeSum 26 = .ok (.invokestatic 25, 3) := by decide +kernel
theorem dX4_makeSum_29 : decode cX4_makeSum 29 = .ok (.iload 5, 2) := by decide +kernel
theorem dX4_makeSum_31 : decode cX4_makeSum 31 = .ok (.iload_n 2, 1) := by decide +kernel
theorem dX4_makeSum_32 : decode cX4_makeSum 32 = .ok (.invokestatic 25, 3) := by decide +kernel
theorem dX4_makeSum_35 : decode cX4_makeSum 35 = .ok (.isub, 1) := by decide +kernel
theorem dX4_makeSum_36 : decode cX4_makeSum 36 = .ok (.iload 5, 2) := by decide +kernel
theorem dX4_makeSum_38 : decode cX4_makeSum 38 = .ok (.iload_n 3, 1) := by decide +kernel
theorem dX4_makeSum_39 : decode cX4_makeSum 39 = .ok (.invokestatic 25, 3) := by decide +kernel
theorem dX4_makeSum_42 : decode cX4_makeSum 42 = .ok (.isub, 1) := by decide +kernel
theorem dX4_makeSum_43 : decode cX4_makeSum 43 = .ok (.istore 6, 2) := by decide +kernel
theorem dX4_makeSum_45 : decode cX4_makeSum 45 = .ok (.iconst 0, 1) := by decide +kernel
theorem dX4_makeSum_46 : decode cX4_makeSum 46 = .ok (.istore 7, 2) := by decide +kernel
theorem dX4_makeSum_48 : decode cX4_makeSum 48 = .ok (.iload 7, 2) := by decide +kernel
theorem dX4_makeSum_50 : decode cX4_makeSum 50 = .ok (.iconst 2, 1) := by decide +kernel
theorem dX4_makeSum_51 : decode cX4_makeSum 51 = .ok (.if_icmp .ge 46, 3) := by decide +kernel
theorem dX4_makeSum_54 : decode cX4_makeSum 54 = .ok (.iconst 2, 1) := by decide +kernel
theorem dX4_makeSum_55 : decode cX4_makeSum 55 = .ok (.iload 7, 2) := by decide +kernel
theorem dX4_makeSum_57 : decode cX4_makeSum 57 = .ok (.imul, 1) := by decide +kernel
theorem dX4_makeSum_58 : decode cX4_makeSum 58 = .ok (.iload 6, 2) := by decide +kernel
theorem dX4_makeSum_60 : decode cX4_makeSum 60 = .ok (.iadd, 1) := by decide +kernel
theorem dX4_makeSum_61 : decode cX4_makeSum 61 = .ok (.istore 8, 2) := by decide +kernel
theorem dX4_makeSum_63 : decode cX4_makeSum 63 = .ok (.aload_n 0, 1) := by decide +kernel
theorem dX4_makeSum_64 : decode cX4_makeSum 64 = .ok (.getfield 9, 3) := by decide +kernel
theorem dX4_makeSum_67 : decode cX4_makeSum 67 = .ok (.iload 7, 2) := by decide +kernel
theorem dX4_makeSum_69 : decode cX4_makeSum 69 = .ok (.iload 5, 2) := by decide +kernel
theorem dX4_makeSum_71 : decode cX4_makeSum 71 = .ok (.iload 8, 2) := by decide +kernel
theorem dX4_makeSum_73 : decode cX4_makeSum 73 = .ok (.ifCond .eq 9, 3) := by decide +kernel
theorem dX4_makeSum_76 : decode cX4_makeSum 76 = .ok (.iload 8, 2) := by decide +kernel
theorem dX4_makeSum_78 : decode cX4_makeSum 78 = .ok (.iconst 1, 1) := by decide +kernel
theorem dX4_makeSum_79 : decode cX4_makeSum 79 = .ok (.if_icmp .ne 8, 3) := by decide +kernel
theorem dX4_makeSum_82 : decode cX4_makeSum 82 = .ok (.iload 8, 2) := by decide +kernel
theorem dX4_makeSum_84 : decode cX4_makeSum 84 = .ok (.goto 4, 3) := by decide +kernel
theorem dX4_makeSum_87 : decode cX4_makeSum 87 = .ok (.iconst 2, 1) := by decide +kernel
theorem dX4_makeSum_88 : decode cX4_makeSum 88 = .ok (.invokevirtual 29, 3) := by decide +kernel
theorem dX4_makeSum_91 : decode cX4_makeSum 91 = .ok (.iinc 7 1, 3) := by decide +kernel
theorem dX4_makeSum_94 : decode cX4_makeSum 94 = .ok (.goto (-46), 3) := by decide +kernel
theorem dX4_makeSum_97 : decode cX4_makeSum 97 = .ok (.aload_n 0, 1) := by decide +kernel
theorem dX4_makeSum_98 : decode cX4_makeSum 98 = .ok (.getfield 9, 3) := by decide +kernel
theorem dX4_makeSum_101 : decode cX4_makeSum 101 = .ok (.iconst 2, 1) := by decide +kernel
theorem dX4_makeSum_102 : decode cX4_makeSum 102 = .ok (.iload 5, 2) := by decide +kernel
theorem dX4_makeSum_104 : decode cX4_makeSum 104 = .ok (.iconst 2, 1) := by decide +kernel
theorem dX4_makeSum_105 : decode cX4_makeSum 105 = .ok (.invokevirtual 29, 3) := by decide +kernel
theorem dX4_makeSum_108 : decode cX4_makeSum 108 = .ok (.iinc 5 1, 3) := by decide +kernel
theorem dX4_makeSum_111 : decode cX4_makeSum 111 = .ok (.goto (-96), 3) := by decide +kernel
theorem dX4_makeSum_114 : decode cX4_makeSum 114 = .ok (.iconst 0, 1) := by decide +kernel
theorem dX4_makeSum_115 : decode cX4_makeSum 115 = .ok (.istore 5, 2) := by decide +kernel
theorem dX4_makeSum_117 : decode cX4_makeSum 117 = .ok (.iload 5, 2) := by decide +kernel
theorem dX4_makeSum_119 : decode cX4_makeSum 119 = .ok (.iconst 3, 1) := by decide +kernel
theorem dX4_makeSum_120 : decode cX4_makeSum 120 = .ok (.if_icmp .ge 28, 3) := by decide +kernel
theorem dX4_makeSum_123 : decode cX4_makeSum 123 = .ok (.aload_n 0, 1) := by decide +kernel
theorem dX4_makeSum_124 : decode cX4_makeSum 124 = .ok (.getfield 9, 3) := by decide +kernel
theorem dX4_makeSum_127 : decode cX4_makeSum 127 = .ok (.iload 5, 2) := by decide +kernel
theorem dX4_makeSum_129 : decode cX4_makeSum 129 = .ok (.iload 5, 2) := by decide +kernel
theorem dX4_makeSum_131 : decode cX4_makeSum 131 = .ok (.ifCond .ne 7, 3) := by decide +kernel
theorem dX4_makeSum_134 : decode cX4_makeSum 134 = .ok (.iconst 1, 1) := by decide +kernel
theorem dX4_makeSum_135 : decode cX4_makeSum 135 = .ok (.goto 4, 3) := by decide +kernel
theorem dX4_makeSum_138 : decode cX4_makeSum 138 = .ok (.iconst 0, 1) := by decide +kernel
theorem dX4_makeSum_139 : decode cX4_makeSum 139 = .ok (.invokevirtual 33, 3) := by decide +kernel
theorem dX4_makeSum_142 : decode cX4_makeSum 142 = .ok (.iinc 5 1, 3) := by decide +kernel
theorem dX4_makeSum_145 : decode cX4_makeSum 145 = .ok (.goto (-28), 3) := by decide +kernel
theorem dX4_makeSum_148 : decode cX4_makeSum 148 = .ok (.aload_n 0, 1) := by decide +kernel
theorem dX4_makeSum_149 : decode cX4_makeSum 149 = .ok (.getfield 9, 3) := by decide +kernel
theorem dX4_makeSum_152 : decode cX4_makeSum 152 = .ok (.aload_n 1, 1) := by decide +kernel
theorem dX4_makeSum_153 : decode cX4_makeSum 153 = .ok (.invokevirtual 37, 3) := by decide +kernel
theorem dX4_makeSum_156 : decode cX4_makeSum 156 = .ok (.ireturn, 1) := by decide +kernel
set_option maxRecDepth 20000 in
theorem ggX4_makeFixed_X4_digitsOf : GoodIn wsX4_makeFixed wsX4_digitsOf := goodIn_r _ [5] (by decide +kernel) (by decide +kernel)
set_option maxRecDepth 20000 in
theorem gX4_makeFixed_X4_digitsOf : GoodIn wsX4_makeFixed (va_wsS RX4 41 yX4_digitsOf wsX4_digitsOf) := goodIn_app (goodIn_of _ (by decide +kernel)) ggX4_makeFixed_X4_digitsOf
set_option maxRecDepth 20000 in
theorem ggX4_makeFixed_X4_start : GoodIn wsX4_makeFixed wsX4_start := goodIn_r _ [9, 1, 10, 11, 12, 13, 14, 15, 16, 17, 18, 19, 20, 21, 22, 23, 24, 25, 26, 27, 28, 29, 30, 31, 32, 33, 34, 143, 144, 145, 146, 147, 148, 149, 150, 151, 152, 153, 154] (by decide +kernel) (by decide +kernel)
set_option maxRecDepth 20000 in
theorem gX4_makeFixed_X4_start : GoodIn wsX4_makeFixed (wsV RX4 21 RX4 yX4_start wsX4_start) := goodIn_app (goodIn_of _ (by decide +kernel)) ggX4_makeFixed_X4_start
set_option maxRecDepth 20000 in
theorem ggX4_makeFixed_X9_digitOf : GoodIn wsX4_makeFixed wsX9_digitOf := goodIn_r _ [37] (by decide +kernel) (by decide +kernel)
set_option maxRecDepth 20000 in
theorem gX4_makeFixed_X9_digitOf_n25 : GoodIn wsX4_makeFixed (wsX9_digitOf) := ggX4_makeFixed_X9_digitOf
set_option maxRecDepth 20000 in
theorem ggX4_makeFixed_X4_afterDigit : GoodIn wsX4_makeFixed wsX4_afterDigit := goodIn_r _ [40] (by decide +kernel) (by decide +kernel)
set_option maxRecDepth 20000 in
theorem gX4_makeFixed_X4_afterDigit : GoodIn wsX4_makeFixed (va_wsS RX4 45 yX4_afterDigit wsX4_afterDigit) := goodIn_app (goodIn_of _ (by decide +kernel)) ggX4_makeFixed_X4_afterDigit
set_option maxRecDepth 20000 in
theorem ggX4_makeFixed_X1_write : GoodIn wsX4_makeFixed wsX1_write := goodIn_r _ [44, 29, 45, 46, 47, 13, 48, 23, 49, 36, 50, 144, 145, 146, 147, 148, 149, 150, 151, 152, 153, 154] (by decide +kernel) (by decide +kernel)
set_option maxRecDepth 20000 in
theorem gX4_makeFixed_X1_write : GoodIn wsX4_makeFixed (wsV RX4 29 RX1 yX1_write wsX1_write) := goodIn_app (goodIn_of _ (by decide +kernel)) ggX4_makeFixed_X1_write
set_option maxRecDepth 20000 in
theorem ggX4_makeFixed_X1_writeSays : GoodIn wsX4_makeFixed wsX1_writeSays := goodIn_r _ [54, 31, 45, 46, 47, 13, 48, 23, 144, 145, 146, 147, 148, 149, 150, 151, 152, 153, 154] (by decide +kernel) (by decide +kernel)
set_option maxRecDepth 20000 in
theorem gX4_makeFixed_X1_writeSays : GoodIn wsX4_makeFixed (wsV RX4 33 RX1 yX1_writeSays wsX1_writeSays) := goodIn_app (goodIn_of _ (by decide +kernel)) ggX4_makeFixed_X1_writeSays
set_option maxRecDepth 20000 in
theorem ggX4_makeFixed_X1_reduceInto : GoodIn wsX4_makeFixed wsX1_reduceInto := goodIn_r _ [58, 59, 60, 61, 13, 62, 63, 64, 65, 66, 67, 23, 33, 31, 68, 69, 70, 71, 72, 73, 74, 75, 76, 77, 78, 79, 80, 81, 82, 83, 84, 85, 86, 87, 88, 89, 90, 91, 92, 34, 93, 94, 95, 96, 29, 97, 98, 99, 100, 101, 102, 103, 104, 105, 106, 107, 108, 109, 110, 111, 112, 113, 114, 115, 116, 117, 118, 119, 120, 121, 122, 17, 18, 19, 123, 21, 22, 124, 45, 46, 47, 48, 125, 126, 127, 128, 129, 130, 131, 132, 133, 134, 135, 136, 137, 138, 139, 140, 141, 142, 49, 36, 50, 144, 145, 146, 147, 148, 149, 150, 151, 152, 153, 154, 155, 156, 157, 158, 159, 160] (by decide +kernel) (by decide +kernel)
set_option maxRecDepth 20000 in
theorem gX4_makeFixed_X1_reduceInto : GoodIn wsX4_makeFixed (wsV RX4 37 RX1 yX1_reduceInto wsX1_reduceInto) := goodIn_app (goodIn_of _ (by decide +kernel)) ggX4_makeFixed_X1_reduceInto
theorem dX4_makeFixed_0 : decode cX4_makeFixed 0 = .ok (.iload_n 3, 1) := by decide +kernel
theorem dX4_makeFixed_1 : decode cX4_makeFixed 1 = .ok (.invokestatic 41, 3) := by decide +kernel
theorem dX4_makeFixed_4 : decode cX4_makeFixed 4 = .ok (.istore 4, 2) := by decide +kernel
theorem dX4_makeFixed_6 : decode cX4_makeFixed 6 = .ok (.iload 4, 2) := by decide +kernel
theorem dX4_makeFixed_8 : decode cX4_makeFixed 8 = .ok (.iconst 1, 1) := by decide +kernel
theorem dX4_makeFixed_9 : decode cX4_makeFixed 9 = .ok (.iadd, 1) := by decide +kernel
theorem dX4_makeFixed_10 : decode cX4_makeFixed 10 = .ok (.istore 5, 2) := by decide +kernel
theorem dX4_makeFixed_12 : decode cX4_makeFixed 12 = .ok (.aload_n 0, 1) := by decide +kernel
theorem dX4_makeFixed_13 : decode cX4_makeFixed 13 = .ok (.iload 4, 2) := by decide +kernel
theorem dX4_makeFixed_15 : decode cX4_makeFixed 15 = .ok (.iconst 2, 1) := by decide +kernel
theorem dX4_makeFixed_16 : decode cX4_makeFixed 16 = .ok (.iadd, 1) := by decide +kernel
theorem dX4_makeFixed_17 : decode cX4_makeFixed 17 = .ok (.invokevirtual 21, 3) := by decide +kernel
theorem dX4_makeFixed_20 : decode cX4_makeFixed 20 = .ok (.iconst 0, 1) := by decide +kernel
theorem dX4_makeFixed_21 : decode cX4_makeFixed 21 = .ok (.istore 6, 2) := by decide +kernel
theorem dX4_makeFixed_23 : decode cX4_makeFixed 23 = .ok (.iload 6, 2) := by decide +kernel
theorem dX4_makeFixed_25 : decode cX4_makeFixed 25 = .ok (.iload 4, 2) := by decide +kernel
theorem dX4_makeFixed_27 : decode cX4_makeFixed 27 = .ok (.if_icmp .gt 71, 3) := by decide +kernel
theorem dX4_makeFixed_30 : decode cX4_makeFixed 30 = .ok (.iconst 0, 1) := by decide +kernel
theorem dX4_makeFixed_31 : decode cX4_makeFixed 31 = .ok (.istore 7, 2) := by decide +kernel
theorem dX4_makeFixed_33 : decode cX4_makeFixed 33 = .ok (.iload 7, 2) := by decide +kernel
theorem dX4_makeFixed_35 : decode cX4_makeFixed 35 = .ok (.bipush 8, 2) := by decide +kernel
theorem dX4_makeFixed_37 : decode cX4_makeFixed 37 = .ok (.if_icmp .ge 34, 3) := by decide +kernel
theorem dX4_makeFixed_40 : decode cX4_makeFixed 40 = .ok (.aload_n 0, 1) := by decide +kernel
theorem dX4_makeFixed_41 : decode cX4_makeFixed 41 = .ok (.getfield 9, 3) := by decide +kernel
theorem dX4_makeFixed_44 : decode cX4_makeFixed 44 = .ok (.iload 6, 2) := by decide +kernel
theorem dX4_makeFixed_46 : decode cX4_makeFixed 46 = .ok (.iload 7, 2) := by decide +kernel
theorem dX4_makeFixed_48 : decode cX4_makeFixed 48 = .ok (.iload 6, 2) := by decide +kernel
theorem dX4_makeFixed_50 : decode cX4_makeFixed 50 = .ok (.iload 7, 2) := by decide +kernel
theorem dX4_makeFixed_52 : decode cX4_makeFixed 52 = .ok (.iload_n 2, 1) := by decide +kernel
theorem dX4_makeFixed_53 : decode cX4_makeFixed 53 = .ok (.invokestatic 25, 3) := by decide +kernel
theorem dX4_makeFixed_56 : decode cX4_makeFixed 56 = .ok (.iload_n 3, 1) := by decide +kernel
theorem dX4_makeFixed_57 : decode cX4_makeFixed 57 = .ok (.iload 4, 2) := by decide +kernel
theorem dX4_makeFixed_59 : decode cX4_makeFixed 59 = .ok (.invokestatic 45, 3) := by decide +kernel
theorem dX4_makeFixed_62 : decode cX4_makeFixed 62 = .ok (.invokevirtual 29, 3) := by decide +kernel
theorem dX4_makeFixed_65 : decode cX4_makeFixed 65 = .ok (.iinc 7 1, 3) := by decide +kernel
theorem dX4_makeFixed_68 : decode cX4_makeFixed 68 = .ok (.goto (-35), 3) := by decide +kernel
theorem dX4_makeFixed_71 : decode cX4_makeFixed 71 = .ok (.aload_n 0, 1) := by decide +kernel
theorem dX4_makeFixed_72 : decode cX4_makeFixed 72 = .ok (.getfield 9, 3) := by decide +kernel
theorem dX4_makeFixed_75 : decode cX4_makeFixed 75 = .ok (.iload 6, 2) := by decide +kernel
theorem dX4_makeFixed_77 : decode cX4_makeFixed 77 = .ok (.iload 6, 2) := by decide +kernel
theorem dX4_makeFixed_79 : decode cX4_makeFixed 79 = .ok (.iload 4, 2) := by decide +kernel
theorem dX4_makeFixed_81 : decode cX4_makeFixed 81 = .ok (.if_icmp .ne 7, 3) := by decide +kernel
theorem dX4_makeFixed_84 : decode cX4_makeFixed 84 = .ok (.iconst 1, 1) := by decide +kernel
theorem dX4_makeFixed_85 : decode cX4_makeFixed 85 = .ok (.goto 4, 3) := by decide +kernel
theorem dX4_makeFixed_88 : decode cX4_makeFixed 88 = .ok (.iconst 0, 1) := by decide +kernel
theorem dX4_makeFixed_89 : decode cX4_makeFixed 89 = .ok (.invokevirtual 33, 3) := by decide +kernel
theorem dX4_makeFixed_92 : decode cX4_makeFixed 92 = .ok (.iinc 6 1, 3) := by decide +kernel
theorem dX4_makeFixed_95 : decode cX4_makeFixed 95 = .ok (.goto (-72), 3) := by decide +kernel
theorem dX4_makeFixed_98 : decode cX4_makeFixed 98 = .ok (.iconst 0, 1) := by decide +kernel
theorem dX4_makeFixed_99 : decode cX4_makeFixed 99 = .ok (.istore 6, 2) := by decide +kernel
theorem dX4_makeFixed_101 : decode cX4_makeFixed 101 = .ok (.iload 6, 2) := by decide +kernel
theorem dX4_makeFixed_103 : decode cX4_makeFixed 103 = .ok (.bipush 8, 2) := by decide +kernel
theorem dX4_makeFixed_105 : decode cX4_makeFixed 105 = .ok (.if_icmp .ge 22, 3) := by decide +kernel
theorem dX4_makeFixed_108 : decode cX4_makeFixed 108 = .ok (.aload_n 0, 1) := by decide +kernel
theorem dX4_makeFixed_109 : decode cX4_makeFixed 109 = .ok (.getfield 9, 3) := by decide +kernel
theorem dX4_makeFixed_112 : decode cX4_makeFixed 112 = .ok (.iload 5, 2) := by decide +kernel
theorem dX4_makeFixed_114 : decode cX4_makeFixed 114 = .ok (.iload 6, 2) := by decide +kernel
theorem dX4_makeFixed_116 : decode cX4_makeFixed 116 = .ok (.iload 5, 2) := by decide +kernel
theorem dX4_makeFixed_118 : decode cX4_makeFixed 118 = .ok (.invokevirtual 29, 3) := by decide +kernel
theorem dX4_makeFixed_121 : decode cX4_makeFixed 121 = .ok (.iinc 6 1, 3) := by decide +kernel
theorem dX4_makeFixed_124 : decode cX4_makeFixed 124 = .ok (.goto (-23), 3) := by decide +kernel
theorem dX4_makeFixed_127 : decode cX4_makeFixed 127 = .ok (.aload_n 0, 1) := by decide +kernel
theorem dX4_makeFixed_128 : decode cX4_makeFixed 128 = .ok (.getfield 9, 3) := by decide +kernel
theorem dX4_makeFixed_131 : decode cX4_makeFixed 131 = .ok (.iload 5, 2) := by decide +kernel
theorem dX4_makeFixed_133 : decode cX4_makeFixed 133 = .ok (.iconst 0, 1) := by decide +kernel
theorem dX4_makeFixed_134 : decode cX4_makeFixed 134 = .ok (.invokevirtual 33, 3) := by decide +kernel
theorem dX4_makeFixed_137 : decode cX4_makeFixed 137 = .ok (.aload_n 0, 1) := by decide +kernel
theorem dX4_makeFixed_138 : decode cX4_makeFixed 138 = .ok (.getfield 9, 3) := by decide +kernel
theorem dX4_makeFixed_141 : decode cX4_makeFixed 141 = .ok (.aload_n 1, 1) := by decide +kernel
theorem dX4_makeFixed_142 : decode cX4_makeFixed 142 = .ok (.invokevirtual 37, 3) := by decide +kernel
theorem dX4_makeFixed_145 : decode cX4_makeFixed 145 = .ok (.ireturn, 1) := by decide +kernel
theorem dX4_digitsOf_0 : decode cX4_digitsOf 0 = .ok (.iconst 0, 1) := by decide +kernel
theorem dX4_digitsOf_1 : decode cX4_digitsOf 1 = .ok (.istore_n 1, 1) := by decide +kernel
theorem dX4_digitsOf_2 : decode cX4_digitsOf 2 = .ok (.iload_n 1, 1) := by decide +kernel
theorem dX4_digitsOf_3 : decode cX4_digitsOf 3 = .ok (.bipush 20, 2) := by decide +kernel
theorem dX4_digitsOf_5 : decode cX4_digitsOf 5 = .ok (.if_icmp .ge 15, 3) := by decide +kernel
theorem dX4_digitsOf_8 : decode cX4_digitsOf 8 = .ok (.iload_n 0, 1) := by decide +kernel
theorem dX4_digitsOf_9 : decode cX4_digitsOf 9 = .ok (.iload_n 1, 1) := by decide +kernel
theorem dX4_digitsOf_10 : decode cX4_digitsOf 10 = .ok (.ishr, 1) := by decide +kernel
theorem dX4_digitsOf_11 : decode cX4_digitsOf 11 = .ok (.ifCond .eq 9, 3) := by decide +kernel
theorem dX4_digitsOf_14 : decode cX4_digitsOf 14 = .ok (.iinc 1 1, 3) := by decide +kernel
theorem dX4_digitsOf_17 : decode cX4_digitsOf 17 = .ok (.goto (-15), 3) := by decide +kernel
theorem dX4_digitsOf_20 : decode cX4_digitsOf 20 = .ok (.iload_n 1, 1) := by decide +kernel
theorem dX4_digitsOf_21 : decode cX4_digitsOf 21 = .ok (.ireturn, 1) := by decide +kernel
theorem dX4_afterDigit_0 : decode cX4_afterDigit 0 = .ok (.iload_n 0, 1) := by decide +kernel
theorem dX4_afterDigit_1 : decode cX4_afterDigit 1 = .ok (.ifCond .ne 9, 3) := by decide +kernel
theorem dX4_afterDigit_4 : decode cX4_afterDigit 4 = .ok (.iload_n 1, 1) := by decide +kernel
theorem dX4_afterDigit_5 : decode cX4_afterDigit 5 = .ok (.ifCond .ne 5, 3) := by decide +kernel
theorem dX4_afterDigit_8 : decode cX4_afterDigit 8 = .ok (.iconst 0, 1) := by decide +kernel
theorem dX4_afterDigit_9 : decode cX4_afterDigit 9 = .ok (.ireturn, 1) := by decide +kernel
theorem dX4_afterDigit_10 : decode cX4_afterDigit 10 = .ok (.iload_n 0, 1) := by decide +kernel
theorem dX4_afterDigit_11 : decode cX4_afterDigit 11 = .ok (.iload_n 3, 1) := by decide +kernel
theorem dX4_afterDigit_12 : decode cX4_afterDigit 12 = .ok (.if_icmp .ge 20, 3) := by decide +kernel
theorem dX4_afterDigit_15 : decode cX4_afterDigit 15 = .ok (.iload_n 2, 1) := by decide +kernel
theorem dX4_afterDigit_16 : decode cX4_afterDigit 16 = .ok (.iload_n 3, 1) := by decide +kernel
theorem dX4_afterDigit_17 : decode cX4_afterDigit 17 = .ok (.iconst 1, 1) := by decide +kernel
theorem dX4_afterDigit_18 : decode cX4_afterDigit 18 = .ok (.isub, 1) := by decide +kernel
theorem dX4_afterDigit_19 : decode cX4_afterDigit 19 = .ok (.iload_n 0, 1) := by decide +kernel
theorem dX4_afterDigit_20 : decode cX4_afterDigit 20 = .ok (.isub, 1) := by decide +kernel
theorem dX4_afterDigit_21 : decode cX4_afterDigit 21 = .ok (.ishr, 1) := by decide +kernel
theorem dX4_afterDigit_22 : decode cX4_afterDigit 22 = .ok (.iconst 1, 1) := by decide +kernel
theorem dX4_afterDigit_23 : decode cX4_afterDigit 23 = .ok (.iand, 1) := by decide +kernel
theorem dX4_afterDigit_24 : decode cX4_afterDigit 24 = .ok (.iload_n 1, 1) := by decide +kernel
theorem dX4_afterDigit_25 : decode cX4_afterDigit 25 = .ok (.if_icmp .ne 7, 3) := by decide +kernel
theorem dX4_afterDigit_28 : decode cX4_afterDigit 28 = .ok (.iconst 1, 1) := by decide +kernel
theorem dX4_afterDigit_29 : decode cX4_afterDigit 29 = .ok (.goto 4, 3) := by decide +kernel
theorem dX4_afterDigit_32 : decode cX4_afterDigit 32 = .ok (.iconst 0, 1) := by decide +kernel
theorem dX4_afterDigit_33 : decode cX4_afterDigit 33 = .ok (.istore 4, 2) := by decide +kernel
theorem dX4_afterDigit_35 : decode cX4_afterDigit 35 = .ok (.iload 4, 2) := by decide +kernel
theorem dX4_afterDigit_37 : decode cX4_afterDigit 37 = .ok (.ifCond .eq 9, 3) := by decide +kernel
theorem dX4_afterDigit_40 : decode cX4_afterDigit 40 = .ok (.iload_n 0, 1) := by decide +kernel
theorem dX4_afterDigit_41 : decode cX4_afterDigit 41 = .ok (.iconst 1, 1) := by decide +kernel
theorem dX4_afterDigit_42 : decode cX4_afterDigit 42 = .ok (.iadd, 1) := by decide +kernel
theorem dX4_afterDigit_43 : decode cX4_afterDigit 43 = .ok (.goto 6, 3) := by decide +kernel
theorem dX4_afterDigit_46 : decode cX4_afterDigit 46 = .ok (.iload_n 3, 1) := by decide +kernel
theorem dX4_afterDigit_47 : decode cX4_afterDigit 47 = .ok (.iconst 1, 1) := by decide +kernel
theorem dX4_afterDigit_48 : decode cX4_afterDigit 48 = .ok (.iadd, 1) := by decide +kernel
theorem dX4_afterDigit_49 : decode cX4_afterDigit 49 = .ok (.ireturn, 1) := by decide +kernel
set_option maxRecDepth 20000 in
theorem ggX4_makeTells_X4_start : GoodIn wsX4_makeTells wsX4_start := goodIn_r _ [6, 1, 7, 8, 9, 10, 11, 12, 13, 14, 15, 16, 17, 18, 19, 20, 21, 22, 23, 24, 25, 26, 27, 28, 29, 30, 31, 150, 151, 152, 153, 154, 155, 156, 157, 158, 159, 160, 161] (by decide +kernel) (by decide +kernel)
set_option maxRecDepth 20000 in
theorem gX4_makeTells_X4_start : GoodIn wsX4_makeTells (wsV RX4 21 RX4 yX4_start wsX4_start) := goodIn_app (goodIn_of _ (by decide +kernel)) ggX4_makeTells_X4_start
set_option maxRecDepth 20000 in
theorem ggX4_makeTells_X9_digitOf : GoodIn wsX4_makeTells wsX9_digitOf := goodIn_r _ [34] (by decide +kernel) (by decide +kernel)
set_option maxRecDepth 20000 in
theorem gX4_makeTells_X9_digitOf_n25 : GoodIn wsX4_makeTells (wsX9_digitOf) := ggX4_makeTells_X9_digitOf
set_option maxRecDepth 20000 in
theorem ggX4_makeTells_X5_goesOn : GoodIn wsX4_makeTells wsX5_goesOn := goodIn_r _ [39, 40, 41, 33, 42, 162, 163] (by decide +kernel) (by decide +kernel)
set_option maxRecDepth 20000 in
theorem gX4_makeTells_X5_goesOn : GoodIn wsX4_makeTells (wsV RX4 49 RX5 yX5_goesOn wsX5_goesOn) := goodIn_app (goodIn_of _ (by decide +kernel)) ggX4_makeTells_X5_goesOn
set_option maxRecDepth 20000 in
theorem ggX4_makeTells_X1_write : GoodIn wsX4_makeTells wsX1_write := goodIn_r _ [46, 26, 47, 48, 49, 10, 50, 20, 51, 33, 52, 151, 152, 153, 154, 155, 156, 157, 158, 159, 160, 161] (by decide +kernel) (by decide +kernel)
set_option maxRecDepth 20000 in
theorem gX4_makeTells_X1_write : GoodIn wsX4_makeTells (wsV RX4 29 RX1 yX1_write wsX1_write) := goodIn_app (goodIn_of _ (by decide +kernel)) ggX4_makeTells_X1_write
set_option maxRecDepth 20000 in
theorem ggX4_makeTells_X5_toldAt : GoodIn wsX4_makeTells wsX5_toldAt := goodIn_r _ [56, 57, 41, 33, 42, 162, 163] (by decide +kernel) (by decide +kernel)
set_option maxRecDepth 20000 in
theorem gX4_makeTells_X5_toldAt : GoodIn wsX4_makeTells (wsV RX4 54 RX5 yX5_toldAt wsX5_toldAt) := goodIn_app (goodIn_of _ (by decide +kernel)) ggX4_makeTells_X5_toldAt
set_option maxRecDepth 20000 in
theorem ggX4_makeTells_X1_writeSays : GoodIn wsX4_makeTells wsX1_writeSays := goodIn_r _ [61, 28, 47, 48, 49, 10, 50, 20, 151, 152, 153, 154, 155, 156, 157, 158, 159, 160, 161] (by decide +kernel) (by decide +kernel)
set_option maxRecDepth 20000 in
theorem gX4_makeTells_X1_writeSays : GoodIn wsX4_makeTells (wsV RX4 33 RX1 yX1_writeSays wsX1_writeSays) := goodIn_app (goodIn_of _ (by decide +kernel)) ggX4_makeTells_X1_writeSays
set_option maxRecDepth 20000 in
theorem ggX4_makeTells_X1_reduceInto : GoodIn wsX4_makeTells wsX1_reduceInto := goodIn_r _ [65, 66, 67, 68, 10, 69, 70, 71, 72, 73, 74, 20, 30, 28, 75, 76, 77, 78, 79, 80, 81, 82, 83, 84, 85, 86, 87, 88, 89, 90, 91, 92, 93, 94, 95, 96, 97, 98, 99, 31, 100, 101, 102, 103, 26, 104, 105, 106, 107, 108, 109, 110, 111, 112, 113, 114, 115, 116, 117, 118, 119, 120, 121, 122, 123, 124, 125, 126, 127, 128, 129, 14, 15, 16, 130, 18, 19, 131, 47, 48, 49, 50, 132, 133, 134, 135, 136, 137, 138, 139, 140, 141, 142, 143, 144, 145, 146, 147, 148, 149, 51, 33, 52, 151, 152, 153, 154, 155, 156, 157, 158, 159, 160, 161, 164, 165, 166, 167, 168, 169] (by decide +kernel) (by decide +kernel)
set_option maxRecDepth 20000 in
theorem gX4_makeTells_X1_reduceInto : GoodIn wsX4_makeTells (wsV RX4 37 RX1 yX1_reduceInto wsX1_reduceInto) := goodIn_app (goodIn_of _ (by decide +kernel)) ggX4_makeTells_X1_reduceInto
theorem dX4_makeTells_0 : decode cX4_makeTells 0 = .ok (.aload_n 0, 1) := by decide +kernel
theorem dX4_makeTells_1 : decode cX4_makeTells 1 = .ok (.iconst 5, 1) := by decide +kernel
theorem dX4_makeTells_2 : decode cX4_makeTells 2 = .ok (.invokevirtual 21, 3) := by decide +kernel
theorem dX4_makeTells_5 : decode cX4_makeTells 5 = .ok (.iconst 0, 1) := by decide +kernel
theorem dX4_makeTells_6 : decode cX4_makeTells 6 = .ok (.istore 5, 2) := by decide +kernel
theorem dX4_makeTells_8 : decode cX4_makeTells 8 = .ok (.iload 5, 2) := by decide +kernel
theorem dX4_makeTells_10 : decode cX4_makeTells 10 = .ok (.iconst 5, 1) := by decide +kernel
theorem dX4_makeTells_11 : decode cX4_makeTells 11 = .ok (.if_icmp .ge 73, 3) := by decide +kernel
theorem dX4_makeTells_14 : decode cX4_makeTells 14 = .ok (.iconst 0, 1) := by decide +kernel
theorem dX4_makeTells_15 : decode cX4_makeTells 15 = .ok (.istore 6, 2) := by decide +kernel
theorem dX4_makeTells_17 : decode cX4_makeTells 17 = .ok (.iload 6, 2) := by decide +kernel
theorem dX4_makeTells_19 : decode cX4_makeTells 19 = .ok (.bipush 8, 2) := by decide +kernel
theorem dX4_makeTells_21 : decode cX4_makeTells 21 = .ok (.if_icmp .ge 32, 3) := by decide +kernel
theorem dX4_makeTells_24 : decode cX4_makeTells 24 = .ok (.aload_n 0, 1) := by decide +kernel
theorem dX4_makeTells_25 : decode cX4_makeTells 25 = .ok (.getfield 9, 3) := by decide +kernel
theorem dX4_makeTells_28 : decode cX4_makeTells 28 = .ok (.iload 5, 2) := by decide +kernel
theorem dX4_makeTells_30 : decode cX4_makeTells 30 = .ok (.iload 6, 2) := by decide +kernel
theorem dX4_makeTells_32 : decode cX4_makeTells 32 = .ok (.aload_n 2, 1) := by decide +kernel
theorem dX4_makeTells_33 : decode cX4_makeTells 33 = .ok (.iload 5, 2) := by decide +kernel
theorem dX4_makeTells_35 : decode cX4_makeTells 35 = .ok (.iload 6, 2) := by decide +kernel
theorem dX4_makeTells_37 : decode cX4_makeTells 37 = .ok (.iload_n 3, 1) := by decide +kernel
theorem dX4_makeTells_38 : decode cX4_makeTells 38 = .ok (.invokestatic 25, 3) := by decide +kernel
theorem dX4_makeTells_41 : decode cX4_makeTells 41 = .ok (.invokevirtual 49, 3) := by decide +kernel
theorem dX4_makeTells_44 : decode cX4_makeTells 44 = .ok (.invokevirtual 29, 3) := by decide +kernel
theorem dX4_makeTells_47 : decode cX4_makeTells 47 = .ok (.iinc 6 1, 3) := by decide +kernel
theorem dX4_makeTells_50 : decode cX4_makeTells 50 = .ok (.goto (-33), 3) := by decide +kernel
theorem dX4_makeTells_53 : decode cX4_makeTells 53 = .ok (.aload_n 0, 1) := by decide +kernel
theorem dX4_makeTells_54 : decode cX4_makeTells 54 = .ok (.getfield 9, 3) := by decide +kernel
theorem dX4_makeTells_57 : decode cX4_makeTells 57 = .ok (.iload 5, 2) := by decide +kernel
theorem dX4_makeTells_59 : decode cX4_makeTells 59 = .ok (.aload_n 2, 1) := by decide +kernel
theorem dX4_makeTells_60 : decode cX4_makeTells 60 = .ok (.iload 5, 2) := by decide +kernel
theorem dX4_makeTells_62 : decode cX4_makeTells 62 = .ok (.invokevirtual 54, 3) := by decide +kernel
theorem dX4_makeTells_65 : decode cX4_makeTells 65 = .ok (.iload 4, 2) := by decide +kernel
theorem dX4_makeTells_67 : decode cX4_makeTells 67 = .ok (.if_icmp .ne 7, 3) := by decide +kernel
theorem dX4_makeTells_70 : decode cX4_makeTells 70 = .ok (.iconst 1, 1) := by decide +kernel
theorem dX4_makeTells_71 : decode cX4_makeTells 71 = .ok (.goto 4, 3) := by decide +kernel
theorem dX4_makeTells_74 : decode cX4_makeTells 74 = .ok (.iconst 0, 1) := by decide +kernel
theorem dX4_makeTells_75 : decode cX4_makeTells 75 = .ok (.invokevirtual 33, 3) := by decide +kernel
theorem dX4_makeTells_78 : decode cX4_makeTells 78 = .ok (.iinc 5 1, 3) := by decide +kernel
theorem dX4_makeTells_81 : decode cX4_makeTells 81 = .ok (.goto (-73), 3) := by decide +kernel
theorem dX4_makeTells_84 : decode cX4_makeTells 84 = .ok (.aload_n 0, 1) := by decide +kernel
theorem dX4_makeTells_85 : decode cX4_makeTells 85 = .ok (.getfield 9, 3) := by decide +kernel
theorem dX4_makeTells_88 : decode cX4_makeTells 88 = .ok (.aload_n 1, 1) := by decide +kernel
theorem dX4_makeTells_89 : decode cX4_makeTells 89 = .ok (.invokevirtual 37, 3) := by decide +kernel
theorem dX4_makeTells_92 : decode cX4_makeTells 92 = .ok (.ireturn, 1) := by decide +kernel
set_option maxRecDepth 20000 in
theorem ggX4_makeAlike_X4_start : GoodIn wsX4_makeAlike wsX4_start := goodIn_r _ [6, 1, 7, 8, 9, 10, 11, 12, 13, 14, 15, 16, 17, 18, 19, 20, 21, 22, 23, 24, 25, 26, 27, 28, 29, 30, 31, 150, 151, 152, 153, 154, 155, 156, 157, 158, 159, 160, 161] (by decide +kernel) (by decide +kernel)
set_option maxRecDepth 20000 in
theorem gX4_makeAlike_X4_start : GoodIn wsX4_makeAlike (wsV RX4 21 RX4 yX4_start wsX4_start) := goodIn_app (goodIn_of _ (by decide +kernel)) ggX4_makeAlike_X4_start
set_option maxRecDepth 20000 in
theorem ggX4_makeAlike_X9_digitOf : GoodIn wsX4_makeAlike wsX9_digitOf := goodIn_r _ [34] (by decide +kernel) (by decide +kernel)
set_option maxRecDepth 20000 in
theorem gX4_makeAlike_X9_digitOf_n25 : GoodIn wsX4_makeAlike (wsX9_digitOf) := ggX4_makeAlike_X9_digitOf
set_option maxRecDepth 20000 in
theorem ggX4_makeAlike_X5_goesOn : GoodIn wsX4_makeAlike wsX5_goesOn := goodIn_r _ [39, 40, 41, 33, 42, 162, 163] (by decide +kernel) (by decide +kernel)
set_option maxRecDepth 20000 in
theorem gX4_makeAlike_X5_goesOn : GoodIn wsX4_makeAlike (wsV RX4 49 RX5 yX5_goesOn wsX5_goesOn) := goodIn_app (goodIn_of _ (by decide +kernel)) ggX4_makeAlike_X5_goesOn
set_option maxRecDepth 20000 in
theorem ggX4_makeAlike_X1_write : GoodIn wsX4_makeAlike wsX1_write := goodIn_r _ [46, 26, 47, 48, 49, 10, 50, 20, 51, 33, 52, 151, 152, 153, 154, 155, 156, 157, 158, 159, 160, 161] (by decide +kernel) (by decide +kernel)
set_option maxRecDepth 20000 in
theorem gX4_makeAlike_X1_write : GoodIn wsX4_makeAlike (wsV RX4 29 RX1 yX1_write wsX1_write) := goodIn_app (goodIn_of _ (by decide +kernel)) ggX4_makeAlike_X1_write
set_option maxRecDepth 20000 in
theorem ggX4_makeAlike_X5_toldAt : GoodIn wsX4_makeAlike wsX5_toldAt := goodIn_r _ [56, 57, 41, 33, 42, 162, 163] (by decide +kernel) (by decide +kernel)
set_option maxRecDepth 20000 in
theorem gX4_makeAlike_X5_toldAt : GoodIn wsX4_makeAlike (wsV RX4 54 RX5 yX5_toldAt wsX5_toldAt) := goodIn_app (goodIn_of _ (by decide +kernel)) ggX4_makeAlike_X5_toldAt
set_option maxRecDepth 20000 in
theorem ggX4_makeAlike_X1_writeSays : GoodIn wsX4_makeAlike wsX1_writeSays := goodIn_r _ [61, 28, 47, 48, 49, 10, 50, 20, 151, 152, 153, 154, 155, 156, 157, 158, 159, 160, 161] (by decide +kernel) (by decide +kernel)
set_option maxRecDepth 20000 in
theorem gX4_makeAlike_X1_writeSays : GoodIn wsX4_makeAlike (wsV RX4 33 RX1 yX1_writeSays wsX1_writeSays) := goodIn_app (goodIn_of _ (by decide +kernel)) ggX4_makeAlike_X1_writeSays
set_option maxRecDepth 20000 in
theorem ggX4_makeAlike_X1_reduceInto : GoodIn wsX4_makeAlike wsX1_reduceInto := goodIn_r _ [65, 66, 67, 68, 10, 69, 70, 71, 72, 73, 74, 20, 30, 28, 75, 76, 77, 78, 79, 80, 81, 82, 83, 84, 85, 86, 87, 88, 89, 90, 91, 92, 93, 94, 95, 96, 97, 98, 99, 31, 100, 101, 102, 103, 26, 104, 105, 106, 107, 108, 109, 110, 111, 112, 113, 114, 115, 116, 117, 118, 119, 120, 121, 122, 123, 124, 125, 126, 127, 128, 129, 14, 15, 16, 130, 18, 19, 131, 47, 48, 49, 50, 132, 133, 134, 135, 136, 137, 138, 139, 140, 141, 142, 143, 144, 145, 146, 147, 148, 149, 51, 33, 52, 151, 152, 153, 154, 155, 156, 157, 158, 159, 160, 161, 164, 165, 166, 167, 168, 169] (by decide +kernel) (by decide +kernel)
set_option maxRecDepth 20000 in
theorem gX4_makeAlike_X1_reduceInto : GoodIn wsX4_makeAlike (wsV RX4 37 RX1 yX1_reduceInto wsX1_reduceInto) := goodIn_app (goodIn_of _ (by decide +kernel)) ggX4_makeAlike_X1_reduceInto
theorem dX4_makeAlike_0 : decode cX4_makeAlike 0 = .ok (.aload_n 0, 1) := by decide +kernel
theorem dX4_makeAlike_1 : decode cX4_makeAlike 1 = .ok (.bipush 25, 2) := by decide +kernel
theorem dX4_makeAlike_3 : decode cX4_makeAlike 3 = .ok (.invokevirtual 21, 3) := by decide +kernel
theorem dX4_makeAlike_6 : decode cX4_makeAlike 6 = .ok (.iconst 0, 1) := by decide +kernel
theorem dX4_makeAlike_7 : decode cX4_makeAlike 7 = .ok (.istore 5, 2) := by decide +kernel
theorem dX4_makeAlike_9 : decode cX4_makeAlike 9 = .ok (.iload 5, 2) := by decide +kernel
theorem dX4_makeAlike_11 : decode cX4_makeAlike 11 = .ok (.iconst 5, 1) := by decide +kernel
theorem dX4_makeAlike_12 : decode cX4_makeAlike 12 = .ok (.if_icmp .ge 125, 3) := by decide +kernel
theorem dX4_makeAlike_15 : decode cX4_makeAlike 15 = .ok (.iconst 0, 1) := by decide +kernel
theorem dX4_makeAlike_16 : decode cX4_makeAlike 16 = .ok (.istore 6, 2) := by decide +kernel
theorem dX4_makeAlike_18 : decode cX4_makeAlike 18 = .ok (.iload 6, 2) := by decide +kernel
theorem dX4_makeAlike_20 : decode cX4_makeAlike 20 = .ok (.iconst 5, 1) := by decide +kernel
theorem dX4_makeAlike_21 : decode cX4_makeAlike 21 = .ok (.if_icmp .ge 110, 3) := by decide +kernel
theorem dX4_makeAlike_24 : decode cX4_makeAlike 24 = .ok (.iload 5, 2) := by decide +kernel
theorem dX4_makeAlike_26 : decode cX4_makeAlike 26 = .ok (.iconst 5, 1) := by decide +kernel
theorem dX4_makeAlike_27 : decode cX4_makeAlike 27 = .ok (.imul, 1) := by decide +kernel
theorem dX4_makeAlike_28 : decode cX4_makeAlike 28 = .ok (.iload 6, 2) := by decide +kernel
theorem dX4_makeAlike_30 : decode cX4_makeAlike 30 = .ok (.iadd, 1) := by decide +kernel
theorem dX4_makeAlike_31 : decode cX4_makeAlike 31 = .ok (.istore 7, 2) := by decide +kernel
theorem dX4_makeAlike_33 : decode cX4_makeAlike 33 = .ok (.iconst 0, 1) := by decide +kernel
theorem dX4_makeAlike_34 : decode cX4_makeAlike 34 = .ok (.istore 8, 2) := by decide +kernel
theorem dX4_makeAlike_36 : decode cX4_makeAlike 36 = .ok (.iload 8, 2) := by decide +kernel
theorem dX4_makeAlike_38 : decode cX4_makeAlike 38 = .ok (.bipush 8, 2) := by decide +kernel
theorem dX4_makeAlike_40 : decode cX4_makeAlike 40 = .ok (.if_icmp .ge 56, 3) := by decide +kernel
theorem dX4_makeAlike_43 : decode cX4_makeAlike 43 = .ok (.aload_n 2, 1) := by decide +kernel
theorem dX4_makeAlike_44 : decode cX4_makeAlike 44 = .ok (.iload 5, 2) := by decide +kernel
theorem dX4_makeAlike_46 : decode cX4_makeAlike 46 = .ok (.iload 8, 2) := by decide +kernel
theorem dX4_makeAlike_48 : decode cX4_makeAlike 48 = .ok (.iload_n 3, 1) := by decide +kernel
theorem dX4_makeAlike_49 : decode cX4_makeAlike 49 = .ok (.invokestatic 25, 3) := by decide +kernel
theorem dX4_makeAlike_52 : decode cX4_makeAlike 52 = .ok (.invokevirtual 49, 3) := by decide +kernel
theorem dX4_makeAlike_55 : decode cX4_makeAlike 55 = .ok (.istore 9, 2) := by decide +kernel
theorem dX4_makeAlike_57 : decode cX4_makeAlike 57 = .ok (.aload_n 2, 1) := by decide +kernel
theorem dX4_makeAlike_58 : decode cX4_makeAlike 58 = .ok (.iload 6, 2) := by decide +kernel
theorem dX4_makeAlike_60 : decode cX4_makeAlike 60 = .ok (.iload 8, 2) := by decide +kernel
theorem dX4_makeAlike_62 : decode cX4_makeAlike 62 = .ok (.iload 4, 2) := by decide +kernel
theorem dX4_makeAlike_64 : decode cX4_makeAlike 64 = .ok (.invokestatic 25, 3) := by decide +kernel
theorem dX4_makeAlike_67 : decode cX4_makeAlike 67 = .ok (.invokevirtual 49, 3) := by decide +kernel
theorem dX4_makeAlike_70 : decode cX4_makeAlike 70 = .ok (.istore 10, 2) := by decide +kernel
theorem dX4_makeAlike_72 : decode cX4_makeAlike 72 = .ok (.aload_n 0, 1) := by decide +kernel
theorem dX4_makeAlike_73 : decode cX4_makeAlike 73 = .ok (.getfield 9, 3) := by decide +kernel
theorem dX4_makeAlike_76 : decode cX4_makeAlike 76 = .ok (.iload 7, 2) := by decide +kernel
theorem dX4_makeAlike_78 : decode cX4_makeAlike 78 = .ok (.iload 8, 2) := by decide +kernel
theorem dX4_makeAlike_80 : decode cX4_makeAlike 80 = .ok (.iload 9, 2) := by decide +kernel
theorem dX4_makeAlike_82 : decode cX4_makeAlike 82 = .ok (.iconst 5, 1) := by decide +kernel
theorem dX4_makeAlike_83 : decode cX4_makeAlike 83 = .ok (.imul, 1) := by decide +kernel
theorem dX4_makeAlike_84 : decode cX4_makeAlike 84 = .ok (.iload 10, 2) := by decide +kernel
theorem dX4_makeAlike_86 : decode cX4_makeAlike 86 = .ok (.iadd, 1) := by decide +kernel
theorem dX4_makeAlike_87 : decode cX4_makeAlike 87 = .ok (.invokevirtual 29, 3) := by decide +kernel
theorem dX4_makeAlike_90 : decode cX4_makeAlike 90 = .ok (.iinc 8 1, 3) := by decide +kernel
theorem dX4_makeAlike_93 : decode cX4_makeAlike 93 = .ok (.goto (-57), 3) := by decide +kernel
theorem dX4_makeAlike_96 : decode cX4_makeAlike 96 = .ok (.aload_n 0, 1) := by decide +kernel
theorem dX4_makeAlike_97 : decode cX4_makeAlike 97 = .ok (.getfield 9, 3) := by decide +kernel
theorem dX4_makeAlike_100 : decode cX4_makeAlike 100 = .ok (.iload 7, 2) := by decide +kernel
theorem dX4_makeAlike_102 : decode cX4_makeAlike 102 = .ok (.aload_n 2, 1) := by decide +kernel
theorem dX4_makeAlike_103 : decode cX4_makeAlike 103 = .ok (.iload 5, 2) := by decide +kernel
theorem dX4_makeAlike_105 : decode cX4_makeAlike 105 = .ok (.invokevirtual 54, 3) := by decide +kernel
theorem dX4_makeAlike_108 : decode cX4_makeAlike 108 = .ok (.aload_n 2, 1) := by decide +kernel
theorem dX4_makeAlike_109 : decode cX4_makeAlike 109 = .ok (.iload 6, 2) := by decide +kernel
theorem dX4_makeAlike_111 : decode cX4_makeAlike 111 = .ok (.invokevirtual 54, 3) := by decide +kernel
theorem dX4_makeAlike_114 : decode cX4_makeAlike 114 = .ok (.if_icmp .ne 7, 3) := by decide +kernel
theorem dX4_makeAlike_117 : decode cX4_makeAlike 117 = .ok (.iconst 1, 1) := by decide +kernel
theorem dX4_makeAlike_118 : decode cX4_makeAlike 118 = .ok (.goto 4, 3) := by decide +kernel
theorem dX4_makeAlike_121 : decode cX4_makeAlike 121 = .ok (.iconst 0, 1) := by decide +kernel
theorem dX4_makeAlike_122 : decode cX4_makeAlike 122 = .ok (.invokevirtual 33, 3) := by decide +kernel
theorem dX4_makeAlike_125 : decode cX4_makeAlike 125 = .ok (.iinc 6 1, 3) := by decide +kernel
theorem dX4_makeAlike_128 : decode cX4_makeAlike 128 = .ok (.goto (-110), 3) := by decide +kernel
theorem dX4_makeAlike_131 : decode cX4_makeAlike 131 = .ok (.iinc 5 1, 3) := by decide +kernel
theorem dX4_makeAlike_134 : decode cX4_makeAlike 134 = .ok (.goto (-125), 3) := by decide +kernel
theorem dX4_makeAlike_137 : decode cX4_makeAlike 137 = .ok (.aload_n 0, 1) := by decide +kernel
theorem dX4_makeAlike_138 : decode cX4_makeAlike 138 = .ok (.getfield 9, 3) := by decide +kernel
theorem dX4_makeAlike_141 : decode cX4_makeAlike 141 = .ok (.aload_n 1, 1) := by decide +kernel
theorem dX4_makeAlike_142 : decode cX4_makeAlike 142 = .ok (.invokevirtual 37, 3) := by decide +kernel
theorem dX4_makeAlike_145 : decode cX4_makeAlike 145 = .ok (.ireturn, 1) := by decide +kernel
set_option maxRecDepth 20000 in
theorem ggX6_init_X7_init : GoodIn wsX6_init wsX7_init := goodIn_r _ [13, 14, 2, 3, 8, 15, 16, 17, 18, 19, 20, 21] (by decide +kernel) (by decide +kernel)
set_option maxRecDepth 20000 in
theorem gX6_init_X7_init_n11 : GoodIn wsX6_init (wsX7_init) := ggX6_init_X7_init
theorem dX6_init_0 : decode cX6_init 0 = .ok (.aload_n 0, 1) := by decide +kernel
theorem dX6_init_1 : decode cX6_init 1 = .ok (.invokespecial 3, 3) := by decide +kernel
theorem dX6_init_4 : decode cX6_init 4 = .ok (.aload_n 0, 1) := by decide +kernel
theorem dX6_init_5 : decode cX6_init 5 = .ok (.new 9, 3) := by decide +kernel
theorem dX6_init_8 : decode cX6_init 8 = .ok (.dup, 1) := by decide +kernel
theorem dX6_init_9 : decode cX6_init 9 = .ok (.invokespecial 11, 3) := by decide +kernel
theorem dX6_init_12 : decode cX6_init 12 = .ok (.putfield 12, 3) := by decide +kernel
theorem dX6_init_15 : decode cX6_init 15 = .ok (.aload_n 0, 1) := by decide +kernel
theorem dX6_init_16 : decode cX6_init 16 = .ok (.sipush 480, 3) := by decide +kernel
theorem dX6_init_19 : decode cX6_init 19 = .ok (.newarray .long, 2) := by decide +kernel
theorem dX6_init_21 : decode cX6_init 21 = .ok (.putfield 18, 3) := by decide +kernel
theorem dX6_init_24 : decode cX6_init 24 = .ok (.aload_n 0, 1) := by decide +kernel
theorem dX6_init_25 : decode cX6_init 25 = .ok (.lconst 0, 1) := by decide +kernel
theorem dX6_init_26 : decode cX6_init 26 = .ok (.putfield 22, 3) := by decide +kernel
theorem dX6_init_29 : decode cX6_init 29 = .ok (.aload_n 0, 1) := by decide +kernel
theorem dX6_init_30 : decode cX6_init 30 = .ok (.aload_n 1, 1) := by decide +kernel
theorem dX6_init_31 : decode cX6_init 31 = .ok (.putfield 26, 3) := by decide +kernel
theorem dX6_init_34 : decode cX6_init 34 = .ok (.return_, 1) := by decide +kernel
set_option maxRecDepth 20000 in
theorem ggX6_say_X6_prepare : GoodIn wsX6_say wsX6_prepare := goodIn_r _ [9, 3, 10, 11, 12, 13, 14, 15, 16, 17, 18, 19, 20, 21, 22, 23, 24, 25, 26, 27, 28, 29, 30, 31, 32, 33, 200, 201, 202, 203, 204, 205, 206] (by decide +kernel) (by decide +kernel)
set_option maxRecDepth 20000 in
theorem gX6_say_X6_prepare : GoodIn wsX6_say (wsV RX6 30 RX6 yX6_prepare wsX6_prepare) := goodIn_app (goodIn_of _ (by decide +kernel)) ggX6_say_X6_prepare
set_option maxRecDepth 20000 in
theorem ggX6_say_X7_forget : GoodIn wsX6_say wsX7_forget := goodIn_r _ [38, 39, 40, 41, 42, 43, 44, 207, 208, 209] (by decide +kernel) (by decide +kernel)
set_option maxRecDepth 20000 in
theorem gX6_say_X7_forget : GoodIn wsX6_say (wsV RX6 34 RX7 yX7_forget wsX7_forget) := goodIn_app (goodIn_of _ (by decide +kernel)) ggX6_say_X7_forget
set_option maxRecDepth 20000 in
theorem ggX6_say_X1_begin : GoodIn wsX6_say wsX1_begin := goodIn_r _ [49, 50, 51, 52, 53, 54, 55, 56, 57, 58, 59, 60, 61, 48, 62, 63, 64, 65, 66, 67, 68, 69, 210, 211, 212, 213, 214, 215, 216, 217, 218, 219, 220] (by decide +kernel) (by decide +kernel)
set_option maxRecDepth 20000 in
theorem gX6_say_X1_begin : GoodIn wsX6_say (wsV RX6 37 RX1 yX1_begin wsX1_begin) := goodIn_app (goodIn_of _ (by decide +kernel)) ggX6_say_X1_begin
set_option maxRecDepth 20000 in
theorem ggX6_say_X0_size : GoodIn wsX6_say wsX0_size := goodIn_r _ [15, 16, 204, 205, 206] (by decide +kernel) (by decide +kernel)
set_option maxRecDepth 20000 in
theorem gX6_say_X0_size : GoodIn wsX6_say (wsV RX6 43 RX0 yX0_size wsX0_size) := goodIn_app (goodIn_of _ (by decide +kernel)) ggX6_say_X0_size
set_option maxRecDepth 20000 in
theorem ggX6_say_X6_firstSet : GoodIn wsX6_say wsX6_firstSet := goodIn_r _ [73, 74, 75, 76, 8, 77, 10, 31, 32, 33, 200, 201, 202, 203] (by decide +kernel) (by decide +kernel)
set_option maxRecDepth 20000 in
theorem gX6_say_X6_firstSet : GoodIn wsX6_say (wsV RX6 49 RX6 yX6_firstSet wsX6_firstSet) := goodIn_app (goodIn_of _ (by decide +kernel)) ggX6_say_X6_firstSet
set_option maxRecDepth 20000 in
theorem ggX6_say_X6_stateFor : GoodIn wsX6_say wsX6_stateFor := goodIn_r _ [81, 1, 2, 82, 83, 84, 37, 85, 86, 39, 87, 88, 89, 90, 40, 91, 92, 93, 94, 95, 96, 97, 98, 48, 99, 58, 100, 101, 102, 103, 50, 200, 201, 202, 203, 207, 208, 209, 210, 211, 212, 213, 214, 215, 216, 217, 218, 219, 220] (by decide +kernel) (by decide +kernel)
set_option maxRecDepth 20000 in
theorem gX6_say_X6_stateFor : GoodIn wsX6_say (wsV RX6 53 RX6 yX6_stateFor wsX6_stateFor) := goodIn_app (goodIn_of _ (by decide +kernel)) ggX6_say_X6_stateFor
set_option maxRecDepth 20000 in
theorem ggX6_say_X1_count : GoodIn wsX6_say wsX1_count := goodIn_r _ [99, 58, 210, 211, 212, 213, 214, 215, 216, 217, 218, 219, 220] (by decide +kernel) (by decide +kernel)
set_option maxRecDepth 20000 in
theorem gX6_say_X1_count : GoodIn wsX6_say (wsV RX6 57 RX1 yX1_count wsX1_count) := goodIn_app (goodIn_of _ (by decide +kernel)) ggX6_say_X1_count
set_option maxRecDepth 20000 in
theorem ggX6_say_X7_setOf : GoodIn wsX6_say wsX7_setOf := goodIn_r _ [95, 40, 91, 207, 208, 209] (by decide +kernel) (by decide +kernel)
set_option maxRecDepth 20000 in
theorem gX6_say_X7_setOf : GoodIn wsX6_say (wsV RX6 60 RX7 yX7_setOf wsX7_setOf) := goodIn_app (goodIn_of _ (by decide +kernel)) ggX6_say_X7_setOf
set_option maxRecDepth 20000 in
theorem ggX6_say_X1_writeSays : GoodIn wsX6_say wsX1_writeSays := goodIn_r _ [108, 66, 109, 110, 111, 48, 112, 58, 210, 211, 212, 213, 214, 215, 216, 217, 218, 219, 220] (by decide +kernel) (by decide +kernel)
set_option maxRecDepth 20000 in
theorem gX6_say_X1_writeSays : GoodIn wsX6_say (wsV RX6 65 RX1 yX1_writeSays wsX1_writeSays) := goodIn_app (goodIn_of _ (by decide +kernel)) ggX6_say_X1_writeSays
set_option maxRecDepth 20000 in
theorem ggX6_say_X6_stepOn : GoodIn wsX6_say wsX6_stepOn := goodIn_r _ [116, 1, 2, 104, 93, 94, 37, 95, 40, 91, 117, 32, 118, 74, 75, 76, 8, 77, 10, 31, 33, 78, 79, 80, 81, 82, 83, 84, 85, 86, 39, 87, 88, 89, 90, 92, 96, 97, 98, 48, 99, 58, 100, 101, 102, 103, 50, 119, 120, 121, 122, 64, 109, 110, 111, 112, 200, 201, 202, 203, 207, 208, 209, 210, 211, 212, 213, 214, 215, 216, 217, 218, 219, 220] (by decide +kernel) (by decide +kernel)
set_option maxRecDepth 20000 in
theorem gX6_say_X6_stepOn : GoodIn wsX6_say (wsV RX6 69 RX6 yX6_stepOn wsX6_stepOn) := goodIn_app (goodIn_of _ (by decide +kernel)) ggX6_say_X6_stepOn
set_option maxRecDepth 20000 in
theorem ggX6_say_X1_reduceInto : GoodIn wsX6_say wsX1_reduceInto := goodIn_r _ [126, 127, 128, 129, 48, 130, 131, 132, 133, 134, 135, 58, 68, 66, 136, 137, 138, 139, 140, 141, 142, 143, 144, 145, 42, 43, 44, 146, 147, 148, 149, 150, 151, 152, 153, 154, 155, 156, 157, 69, 158, 159, 160, 161, 64, 162, 163, 164, 165, 166, 167, 168, 169, 170, 171, 172, 173, 174, 175, 176, 177, 178, 179, 180, 181, 182, 183, 184, 14, 185, 186, 52, 53, 54, 187, 56, 57, 16, 109, 110, 111, 112, 188, 189, 190, 191, 21, 22, 23, 24, 25, 192, 193, 194, 195, 196, 197, 198, 199, 30, 31, 32, 33, 210, 211, 212, 213, 214, 215, 216, 217, 218, 219, 220, 221, 222, 223, 204, 205, 206] (by decide +kernel) (by decide +kernel)
set_option maxRecDepth 20000 in
theorem gX6_say_X1_reduceInto : GoodIn wsX6_say (wsV RX6 73 RX1 yX1_reduceInto wsX1_reduceInto) := goodIn_app (goodIn_of _ (by decide +kernel)) ggX6_say_X1_reduceInto
theorem dX6_say_0 : decode cX6_say 0 = .ok (.aload_n 0, 1) := by decide +kernel
theorem dX6_say_1 : decode cX6_say 1 = .ok (.aload_n 2, 1) := by decide +kernel
theorem dX6_say_2 : decode cX6_say 2 = .ok (.iload_n 3, 1) := by decide +kernel
theorem dX6_say_3 : decode cX6_say 3 = .ok (.invokevirtual 30, 3) := by decide +kernel
theorem dX6_say_6 : decode cX6_say 6 = .ok (.aload_n 0, 1) := by decide +kernel
theorem dX6_say_7 : decode cX6_say 7 = .ok (.getfield 12, 3) := by decide +kernel
theorem dX6_say_10 : decode cX6_say 10 = .ok (.invokevirtual 34, 3) := by decide +kernel
theorem dX6_say_13 : decode cX6_say 13 = .ok (.aload_n 0, 1) := by decide +kernel
theorem dX6_say_14 : decode cX6_say 14 = .ok (.getfield 26, 3) := by decide +kernel
theorem dX6_say_17 : decode cX6_say 17 = .ok (.iconst 0, 1) := by decide +kernel
theorem dX6_say_18 : decode cX6_say 18 = .ok (.sipush 300, 3) := by decide +kernel
theorem dX6_say_21 : decode cX6_say 21 = .ok (.invokevirtual 37, 3) := by decide +kernel
theorem dX6_say_24 : decode cX6_say 24 = .ok (.aload_n 0, 1) := by decide +kernel
theorem dX6_say_25 : decode cX6_say 25 = .ok (.aload_n 0, 1) := by decide +kernel
theorem dX6_say_26 : decode cX6_say 26 = .ok (.aload_n 2, 1) := by decide +kernel
theorem dX6_say_27 : decode cX6_say 27 = .ok (.invokevirtual 43, 3) := by decide +kernel
theorem dX6_say_30 : decode cX6_say 30 = .ok (.invokevirtual 49, 3) := by decide +kernel
theorem dX6_say_33 : decode cX6_say 33 = .ok (.invokevirtual 53, 3) := by decide +kernel
theorem dX6_say_36 : decode cX6_say 36 = .ok (.pop, 1) := by decide +kernel
theorem dX6_say_37 : decode cX6_say 37 = .ok (.iconst 0, 1) := by decide +kernel
theorem dX6_say_38 : decode cX6_say 38 = .ok (.istore 5, 2) := by decide +kernel
theorem dX6_say_40 : decode cX6_say 40 = .ok (.iload 5, 2) := by decide +kernel
theorem dX6_say_42 : decode cX6_say 42 = .ok (.aload_n 0, 1) := by decide +kernel
theorem dX6_say_43 : decode cX6_say 43 = .ok (.getfield 26, 3) := by decide +kernel
theorem dX6_say_46 : decode cX6_say 46 = .ok (.invokevirtual 57, 3) := by decide +kernel
theorem dX6_say_49 : decode cX6_say 49 = .ok (.if_icmp .ge 100, 3) := by decide +kernel
theorem dX6_say_52 : decode cX6_say 52 = .ok (.iload 5, 2) := by decide +kernel
theorem dX6_say_54 : decode cX6_say 54 = .ok (.sipush 300, 3) := by decide +kernel
theorem dX6_say_57 : decode cX6_say 57 = .ok (.if_icmp .ge 92, 3) := by decide +kernel
theorem dX6_say_60 : decode cX6_say 60 = .ok (.aload_n 0, 1) := by decide +kernel
theorem dX6_say_61 : decode cX6_say 61 = .ok (.getfield 12, 3) := by decide +kernel
theorem dX6_say_64 : decode cX6_say 64 = .ok (.iload 5, 2) := by decide +kernel
theorem dX6_say_66 : decode cX6_say 66 = .ok (.invokevirtual 60, 3) := by decide +kernel
theorem dX6_say_69 : decode cX6_say 69 = .ok (.lstore 6, 2) := by decide +kernel
theorem dX6_say_71 : decode cX6_say 71 = .ok (.aload_n 0, 1) := by decide +kernel
theorem dX6_say_72 : decode cX6_say 72 = .ok (.getfield 26, 3) := by decide +kernel
theorem dX6_say_75 : decode cX6_say 75 = .ok (.iload 5, 2) := by decide +kernel
theorem dX6_say_77 : decode cX6_say 77 = .ok (.iload 4, 2) := by decide +kernel
theorem dX6_say_79 : decode cX6_say 79 = .ok (.ifCond .eq 27, 3) := by decide +kernel
theorem dX6_say_82 : decode cX6_say 82 = .ok (.lload 6, 2) := by decide +kernel
theorem dX6_say_84 : decode cX6_say 84 = .ok (.aload_n 0, 1) := by decide +kernel
theorem dX6_say_85 : decode cX6_say 85 = .ok (.getfield 22, 3) := by decide +kernel
theorem dX6_say_88 : decode cX6_say 88 = .ok (.ldc2_w 63, 3) := by decide +kernel
theorem dX6_say_91 : decode cX6_say 91 = .ok (.lxor, 1) := by decide +kernel
theorem dX6_say_92 : decode cX6_say 92 = .ok (.land, 1) := by decide +kernel
theorem dX6_say_93 : decode cX6_say 93 = .ok (.lconst 0, 1) := by decide +kernel
theorem dX6_say_94 : decode cX6_say 94 = .ok (.lcmp, 1) := by decide +kernel
theorem dX6_say_95 : decode cX6_say 95 = .ok (.ifCond .ne 7, 3) := by decide +kernel
theorem dX6_say_98 : decode cX6_say 98 = .ok (.iconst 1, 1) := by decide +kernel
theorem dX6_say_99 : decode cX6_say 99 = .ok (.goto 24, 3) := by decide +kernel
theorem dX6_say_102 : decode cX6_say 102 = .ok (.iconst 0, 1) := by decide +kernel
theorem dX6_say_103 : decode cX6_say 103 = .ok (.goto 20, 3) := by decide +kernel
theorem dX6_say_106 : decode cX6_say 106 = .ok (.lload 6, 2) := by decide +kernel
theorem dX6_say_108 : decode cX6_say 108 = .ok (.aload_n 0, 1) := by decide +kernel
theorem dX6_say_109 : decode cX6_say 109 = .ok (.getfield 22, 3) := by decide +kernel
theorem dX6_say_112 : decode cX6_say 112 = .ok (.land, 1) := by decide +kernel
theorem dX6_say_113 : decode cX6_say 113 = .ok (.lconst 0, 1) := by decide +kernel
theorem dX6_say_114 : decode cX6_say 114 = .ok (.lcmp, 1) := by decide +kernel
theorem dX6_say_115 : decode cX6_say 115 = .ok (.ifCond .eq 7, 3) := by decide +kernel
theorem dX6_say_118 : decode cX6_say 118 = .ok (.iconst 1, 1) := by decide +kernel
theorem dX6_say_119 : decode cX6_say 119 = .ok (.goto 4, 3) := by decide +kernel
theorem dX6_say_122 : decode cX6_say 122 = .ok (.iconst 0, 1) := by decide +kernel
theorem dX6_say_123 : decode cX6_say 123 = .ok (.invokevirtual 65, 3) := by decide +kernel
theorem dX6_say_126 : decode cX6_say 126 = .ok (.aload_n 0, 1) := by decide +kernel
theorem dX6_say_127 : decode cX6_say 127 = .ok (.iload 5, 2) := by decide +kernel
theorem dX6_say_129 : decode cX6_say 129 = .ok (.aload_n 2, 1) := by decide +kernel
theorem dX6_say_130 : decode cX6_say 130 = .ok (.invokevirtual 43, 3) := by decide +kernel
theorem dX6_say_133 : decode cX6_say 133 = .ok (.iload_n 3, 1) := by decide +kernel
theorem dX6_say_134 : decode cX6_say 134 = .ok (.invokevirtual 69, 3) := by decide +kernel
theorem dX6_say_137 : decode cX6_say 137 = .ok (.ifCond .ne 6, 3) := by decide +kernel
theorem dX6_say_140 : decode cX6_say 140 = .ok (.bipush (-6), 2) := by decide +kernel
theorem dX6_say_142 : decode cX6_say 142 = .ok (.ireturn, 1) := by decide +kernel
theorem dX6_say_143 : decode cX6_say 143 = .ok (.iinc 5 1, 3) := by decide +kernel
theorem dX6_say_146 : decode cX6_say 146 = .ok (.goto (-106), 3) := by decide +kernel
theorem dX6_say_149 : decode cX6_say 149 = .ok (.aload_n 0, 1) := by decide +kernel
theorem dX6_say_150 : decode cX6_say 150 = .ok (.getfield 26, 3) := by decide +kernel
theorem dX6_say_153 : decode cX6_say 153 = .ok (.aload_n 1, 1) := by decide +kernel
theorem dX6_say_154 : decode cX6_say 154 = .ok (.invokevirtual 73, 3) := by decide +kernel
theorem dX6_say_157 : decode cX6_say 157 = .ok (.ireturn, 1) := by decide +kernel
set_option maxRecDepth 20000 in
theorem ggX6_prepare_X0_size : GoodIn wsX6_prepare wsX0_size := goodIn_r _ [7, 8, 30, 31, 32] (by decide +kernel) (by decide +kernel)
set_option maxRecDepth 20000 in
theorem gX6_prepare_X0_size : GoodIn wsX6_prepare (wsV RX6 43 RX0 yX0_size wsX0_size) := goodIn_app (goodIn_of _ (by decide +kernel)) ggX6_prepare_X0_size
set_option maxRecDepth 20000 in
theorem ggX6_prepare_X0_saysAt : GoodIn wsX6_prepare wsX0_saysAt := goodIn_r _ [12, 13, 14, 15, 16, 6, 17, 8, 30, 31, 32] (by decide +kernel) (by decide +kernel)
set_option maxRecDepth 20000 in
theorem gX6_prepare_X0_saysAt : GoodIn wsX6_prepare (wsV RX6 77 RX0 yX0_saysAt wsX0_saysAt) := goodIn_app (goodIn_of _ (by decide +kernel)) ggX6_prepare_X0_saysAt
set_option maxRecDepth 20000 in
theorem ggX6_prepare_X0_after : GoodIn wsX6_prepare wsX0_after := goodIn_r _ [21, 22, 14, 15, 16, 6, 17, 8, 23, 24, 25, 30, 31, 32] (by decide +kernel) (by decide +kernel)
set_option maxRecDepth 20000 in
theorem gX6_prepare_X0_after : GoodIn wsX6_prepare (wsV RX6 81 RX0 yX0_after wsX0_after) := goodIn_app (goodIn_of _ (by decide +kernel)) ggX6_prepare_X0_after
theorem dX6_prepare_0 : decode cX6_prepare 0 = .ok (.aload_n 0, 1) := by decide +kernel
theorem dX6_prepare_1 : decode cX6_prepare 1 = .ok (.lconst 0, 1) := by decide +kernel
theorem dX6_prepare_2 : decode cX6_prepare 2 = .ok (.putfield 22, 3) := by decide +kernel
theorem dX6_prepare_5 : decode cX6_prepare 5 = .ok (.iconst 0, 1) := by decide +kernel
theorem dX6_prepare_6 : decode cX6_prepare 6 = .ok (.istore_n 3, 1) := by decide +kernel
theorem dX6_prepare_7 : decode cX6_prepare 7 = .ok (.iload_n 3, 1) := by decide +kernel
theorem dX6_prepare_8 : decode cX6_prepare 8 = .ok (.aload_n 1, 1) := by decide +kernel
theorem dX6_prepare_9 : decode cX6_prepare 9 = .ok (.invokevirtual 43, 3) := by decide +kernel
theorem dX6_prepare_12 : decode cX6_prepare 12 = .ok (.if_icmp .ge 94, 3) := by decide +kernel
theorem dX6_prepare_15 : decode cX6_prepare 15 = .ok (.iload_n 3, 1) := by decide +kernel
theorem dX6_prepare_16 : decode cX6_prepare 16 = .ok (.bipush 60, 2) := by decide +kernel
theorem dX6_prepare_18 : decode cX6_prepare 18 = .ok (.if_icmp .ge 88, 3) := by decide +kernel
theorem dX6_prepare_21 : decode cX6_prepare 21 = .ok (.aload_n 1, 1) := by decide +kernel
theorem dX6_prepare_22 : decode cX6_prepare 22 = .ok (.iload_n 3, 1) := by decide +kernel
theorem dX6_prepare_23 : decode cX6_prepare 23 = .ok (.invokevirtual 77, 3) := by decide +kernel
theorem dX6_prepare_26 : decode cX6_prepare 26 = .ok (.ifCond .eq 15, 3) := by decide +kernel
theorem dX6_prepare_29 : decode cX6_prepare 29 = .ok (.aload_n 0, 1) := by decide +kernel
theorem dX6_prepare_30 : decode cX6_prepare 30 = .ok (.dup, 1) := by decide +kernel
theorem dX6_prepare_31 : decode cX6_prepare 31 = .ok (.getfield 22, 3) := by decide +kernel
theorem dX6_prepare_34 : decode cX6_prepare 34 = .ok (.lconst 1, 1) := by decide +kernel
theorem dX6_prepare_35 : decode cX6_prepare 35 = .ok (.iload_n 3, 1) := by decide +kernel
theorem dX6_prepare_36 : decode cX6_prepare 36 = .ok (.lshl, 1) := by decide +kernel
theorem dX6_prepare_37 : decode cX6_prepare 37 = .ok (.lor, 1) := by decide +kernel
theorem dX6_prepare_38 : decode cX6_prepare 38 = .ok (.putfield 22, 3) := by decide +kernel
theorem dX6_prepare_41 : decode cX6_prepare 41 = .ok (.iconst 0, 1) := by decide +kernel
theorem dX6_prepare_42 : decode cX6_prepare 42 = .ok (.istore 4, 2) := by decide +kernel
theorem dX6_prepare_44 : decode cX6_prepare 44 = .ok (.iload 4, 2) := by decide +kernel
theorem dX6_prepare_46 : decode cX6_prepare 46 = .ok (.bipush 8, 2) := by decide +kernel
theorem dX6_prepare_48 : decode cX6_prepare 48 = .ok (.if_icmp .ge 52, 3) := by decide +kernel
theorem dX6_prepare_51 : decode cX6_prepare 51 = .ok (.lconst 1, 1) := by decide +kernel
theorem dX6_prepare_52 : decode cX6_prepare 52 = .ok (.aload_n 1, 1) := by decide +kernel
theorem dX6_prepare_53 : decode cX6_prepare 53 = .ok (.iload_n 3, 1) := by decide +kernel
theorem dX6_prepare_54 : decode cX6_prepare 54 = .ok (.iload 4, 2) := by decide +kernel
theorem dX6_prepare_56 : decode cX6_prepare 56 = .ok (.invokevirtual 81, 3) := by decide +kernel
theorem dX6_prepare_59 : decode cX6_prepare 59 = .ok (.lshl, 1) := by decide +kernel
theorem dX6_prepare_60 : decode cX6_prepare 60 = .ok (.lstore 5, 2) := by decide +kernel
theorem dX6_prepare_62 : decode cX6_prepare 62 = .ok (.lconst 1, 1) := by decide +kernel
theorem dX6_prepare_63 : decode cX6_prepare 63 = .ok (.aload_n 1, 1) := by decide +kernel
theorem dX6_prepare_64 : decode cX6_prepare 64 = .ok (.iload_n 3, 1) := by decide +kernel
theorem dX6_prepare_65 : decode cX6_prepare 65 = .ok (.iload 4, 2) := by decide +kernel
theorem dX6_prepare_67 : decode cX6_prepare 67 = .ok (.iconst 1, 1) := by decide +kernel
theorem dX6_prepare_68 : decode cX6_prepare 68 = .ok (.iload_n 2, 1) := by decide +kernel
theorem dX6_prepare_69 : decode cX6_prepare 69 = .ok (.ishl, 1) := by decide +kernel
theorem dX6_prepare_70 : decode cX6_prepare 70 = .ok (.ixor, 1) := by decide +kernel
theorem dX6_prepare_71 : decode cX6_prepare 71 = .ok (.invokevirtual 81, 3) := by decide +kernel
theorem dX6_prepare_74 : decode cX6_prepare 74 = .ok (.lshl, 1) := by decide +kernel
theorem dX6_prepare_75 : decode cX6_prepare 75 = .ok (.lstore 7, 2) := by decide +kernel
theorem dX6_prepare_77 : decode cX6_prepare 77 = .ok (.aload_n 0, 1) := by decide +kernel
theorem dX6_prepare_78 : decode cX6_prepare 78 = .ok (.getfield 18, 3) := by decide +kernel
theorem dX6_prepare_81 : decode cX6_prepare 81 = .ok (.iload_n 3, 1) := by decide +kernel
theorem dX6_prepare_82 : decode cX6_prepare 82 = .ok (.bipush 8, 2) := by decide +kernel
theorem dX6_prepare_84 : decode cX6_prepare 84 = .ok (.imul, 1) := by decide +kernel
theorem dX6_prepare_85 : decode cX6_prepare 85 = .ok (.iload 4, 2) := by decide +kernel
theorem dX6_prepare_87 : decode cX6_prepare 87 = .ok (.iadd, 1) := by decide +kernel
theorem dX6_prepare_88 : decode cX6_prepare 88 = .ok (.lload 5, 2) := by decide +kernel
theorem dX6_prepare_90 : decode cX6_prepare 90 = .ok (.lload 7, 2) := by decide +kernel
theorem dX6_prepare_92 : decode cX6_prepare 92 = .ok (.lor, 1) := by decide +kernel
theorem dX6_prepare_93 : decode cX6_prepare 93 = .ok (.lastore, 1) := by decide +kernel
theorem dX6_prepare_94 : decode cX6_prepare 94 = .ok (.iinc 4 1, 3) := by decide +kernel
theorem dX6_prepare_97 : decode cX6_prepare 97 = .ok (.goto (-53), 3) := by decide +kernel
theorem dX6_prepare_100 : decode cX6_prepare 100 = .ok (.iinc 3 1, 3) := by decide +kernel
theorem dX6_prepare_103 : decode cX6_prepare 103 = .ok (.goto (-96), 3) := by decide +kernel
theorem dX6_prepare_106 : decode cX6_prepare 106 = .ok (.return_, 1) := by decide +kernel
set_option maxRecDepth 20000 in
theorem ggX6_firstSet_X6_afterSet : GoodIn wsX6_firstSet wsX6_afterSet := goodIn_r _ [5, 6, 7, 8, 9, 10, 11, 12, 13] (by decide +kernel) (by decide +kernel)
set_option maxRecDepth 20000 in
theorem gX6_firstSet_X6_afterSet : GoodIn wsX6_firstSet (wsV RX6 85 RX6 yX6_afterSet wsX6_afterSet) := goodIn_app (goodIn_of _ (by decide +kernel)) ggX6_firstSet_X6_afterSet
theorem dX6_firstSet_0 : decode cX6_firstSet 0 = .ok (.lconst 1, 1) := by decide +kernel
theorem dX6_firstSet_1 : decode cX6_firstSet 1 = .ok (.lstore_n 2, 1) := by decide +kernel
theorem dX6_firstSet_2 : decode cX6_firstSet 2 = .ok (.iconst 0, 1) := by decide +kernel
theorem dX6_firstSet_3 : decode cX6_firstSet 3 = .ok (.istore 4, 2) := by decide +kernel
theorem dX6_firstSet_5 : decode cX6_firstSet 5 = .ok (.iload 4, 2) := by decide +kernel
theorem dX6_firstSet_7 : decode cX6_firstSet 7 = .ok (.bipush 60, 2) := by decide +kernel
theorem dX6_firstSet_9 : decode cX6_firstSet 9 = .ok (.if_icmp .ge 33, 3) := by decide +kernel
theorem dX6_firstSet_12 : decode cX6_firstSet 12 = .ok (.lload_n 2, 1) := by decide +kernel
theorem dX6_firstSet_13 : decode cX6_firstSet 13 = .ok (.aload_n 0, 1) := by decide +kernel
theorem dX6_firstSet_14 : decode cX6_firstSet 14 = .ok (.lload_n 2, 1) := by decide +kernel
theorem dX6_firstSet_15 : decode cX6_firstSet 15 = .ok (.iload_n 1, 1) := by decide +kernel
theorem dX6_firstSet_16 : decode cX6_firstSet 16 = .ok (.iconst 0, 1) := by decide +kernel
theorem dX6_firstSet_17 : decode cX6_firstSet 17 = .ok (.invokevirtual 85, 3) := by decide +kernel
theorem dX6_firstSet_20 : decode cX6_firstSet 20 = .ok (.lor, 1) := by decide +kernel
theorem dX6_firstSet_21 : decode cX6_firstSet 21 = .ok (.lstore 5, 2) := by decide +kernel
theorem dX6_firstSet_23 : decode cX6_firstSet 23 = .ok (.lload 5, 2) := by decide +kernel
theorem dX6_firstSet_25 : decode cX6_firstSet 25 = .ok (.lload_n 2, 1) := by decide +kernel
theorem dX6_firstSet_26 : decode cX6_firstSet 26 = .ok (.lcmp, 1) := by decide +kernel
theorem dX6_firstSet_27 : decode cX6_firstSet 27 = .ok (.ifCond .ne 6, 3) := by decide +kernel
theorem dX6_firstSet_30 : decode cX6_firstSet 30 = .ok (.goto 12, 3) := by decide +kernel
theorem dX6_firstSet_33 : decode cX6_firstSet 33 = .ok (.lload 5, 2) := by decide +kernel
theorem dX6_firstSet_35 : decode cX6_firstSet 35 = .ok (.lstore_n 2, 1) := by decide +kernel
theorem dX6_firstSet_36 : decode cX6_firstSet 36 = .ok (.iinc 4 1, 3) := by decide +kernel
theorem dX6_firstSet_39 : decode cX6_firstSet 39 = .ok (.goto (-34), 3) := by decide +kernel
theorem dX6_firstSet_42 : decode cX6_firstSet 42 = .ok (.lload_n 2, 1) := by decide +kernel
theorem dX6_firstSet_43 : decode cX6_firstSet 43 = .ok (.lreturn, 1) := by decide +kernel
set_option maxRecDepth 20000 in
theorem ggX6_afterSet_X9_isColumn : GoodIn wsX6_afterSet wsX9_isColumn := goodIn_r _ [4] (by decide +kernel) (by decide +kernel)
set_option maxRecDepth 20000 in
theorem gX6_afterSet_X9_isColumn_n89 : GoodIn wsX6_afterSet (wsX9_isColumn) := ggX6_afterSet_X9_isColumn
theorem dX6_afterSet_0 : decode cX6_afterSet 0 = .ok (.lconst 0, 1) := by decide +kernel
theorem dX6_afterSet_1 : decode cX6_afterSet 1 = .ok (.lstore 5, 2) := by decide +kernel
theorem dX6_afterSet_3 : decode cX6_afterSet 3 = .ok (.iconst 0, 1) := by decide +kernel
theorem dX6_afterSet_4 : decode cX6_afterSet 4 = .ok (.istore 7, 2) := by decide +kernel
theorem dX6_afterSet_6 : decode cX6_afterSet 6 = .ok (.iload 7, 2) := by decide +kernel
theorem dX6_afterSet_8 : decode cX6_afterSet 8 = .ok (.iload_n 3, 1) := by decide +kernel
theorem dX6_afterSet_9 : decode cX6_afterSet 9 = .ok (.if_icmp .ge 53, 3) := by decide +kernel
theorem dX6_afterSet_12 : decode cX6_afterSet 12 = .ok (.iload 7, 2) := by decide +kernel
theorem dX6_afterSet_14 : decode cX6_afterSet 14 = .ok (.bipush 60, 2) := by decide +kernel
theorem dX6_afterSet_16 : decode cX6_afterSet 16 = .ok (.if_icmp .ge 46, 3) := by decide +kernel
theorem dX6_afterSet_19 : decode cX6_afterSet 19 = .ok (.lload_n 1, 1) := by decide +kernel
theorem dX6_afterSet_20 : decode cX6_afterSet 20 = .ok (.iload 7, 2) := by decide +kernel
theorem dX6_afterSet_22 : decode cX6_afterSet 22 = .ok (.lshr, 1) := by decide +kernel
theorem dX6_afterSet_23 : decode cX6_afterSet 23 = .ok (.lconst 1, 1) := by decide +kernel
theorem dX6_afterSet_24 : decode cX6_afterSet 24 = .ok (.land, 1) := by decide +kernel
theorem dX6_afterSet_25 : decode cX6_afterSet 25 = .ok (.lconst 0, 1) := by decide +kernel
theorem dX6_afterSet_26 : decode cX6_afterSet 26 = .ok (.lcmp, 1) := by decide +kernel
theorem dX6_afterSet_27 : decode cX6_afterSet 27 = .ok (.ifCond .eq 29, 3) := by decide +kernel
theorem dX6_afterSet_30 : decode cX6_afterSet 30 = .ok (.iload 4, 2) := by decide +kernel
theorem dX6_afterSet_32 : decode cX6_afterSet 32 = .ok (.invokestatic 89, 3) := by decide +kernel
theorem dX6_afterSet_35 : decode cX6_afterSet 35 = .ok (.ifCond .eq 21, 3) := by decide +kernel
theorem dX6_afterSet_38 : decode cX6_afterSet 38 = .ok (.lload 5, 2) := by decide +kernel
theorem dX6_afterSet_40 : decode cX6_afterSet 40 = .ok (.aload_n 0, 1) := by decide +kernel
theorem dX6_afterSet_41 : decode cX6_afterSet 41 = .ok (.getfield 18, 3) := by decide +kernel
theorem dX6_afterSet_44 : decode cX6_afterSet 44 = .ok (.iload 7, 2) := by decide +kernel
theorem dX6_afterSet_46 : decode cX6_afterSet 46 = .ok (.bipush 8, 2) := by decide +kernel
theorem dX6_afterSet_48 : decode cX6_afterSet 48 = .ok (.imul, 1) := by decide +kernel
theorem dX6_afterSet_49 : decode cX6_afterSet 49 = .ok (.iload 4, 2) := by decide +kernel
theorem dX6_afterSet_51 : decode cX6_afterSet 51 = .ok (.iadd, 1) := by decide +kernel
theorem dX6_afterSet_52 : decode cX6_afterSet 52 = .ok (.laload, 1) := by decide +kernel
theorem dX6_afterSet_53 : decode cX6_afterSet 53 = .ok (.lor, 1) := by decide +kernel
theorem dX6_afterSet_54 : decode cX6_afterSet 54 = .ok (.lstore 5, 2) := by decide +kernel
theorem dX6_afterSet_56 : decode cX6_afterSet 56 = .ok (.iinc 7 1, 3) := by decide +kernel
theorem dX6_afterSet_59 : decode cX6_afterSet 59 = .ok (.goto (-53), 3) := by decide +kernel
theorem dX6_afterSet_62 : decode cX6_afterSet 62 = .ok (.lload 5, 2) := by decide +kernel
theorem dX6_afterSet_64 : decode cX6_afterSet 64 = .ok (.lreturn, 1) := by decide +kernel
set_option maxRecDepth 20000 in
theorem ggX6_stepOn_X7_setOf : GoodIn wsX6_stepOn wsX7_setOf := goodIn_r _ [7, 8, 9, 60, 61, 62] (by decide +kernel) (by decide +kernel)
set_option maxRecDepth 20000 in
theorem gX6_stepOn_X7_setOf : GoodIn wsX6_stepOn (wsV RX6 60 RX7 yX7_setOf wsX7_setOf) := goodIn_app (goodIn_of _ (by decide +kernel)) ggX6_stepOn_X7_setOf
set_option maxRecDepth 20000 in
theorem ggX6_stepOn_X9_digitOf : GoodIn wsX6_stepOn wsX9_digitOf := goodIn_r _ [12] (by decide +kernel) (by decide +kernel)
set_option maxRecDepth 20000 in
theorem gX6_stepOn_X9_digitOf_n92 : GoodIn wsX6_stepOn (wsX9_digitOf) := ggX6_stepOn_X9_digitOf
set_option maxRecDepth 20000 in
theorem ggX6_stepOn_X6_afterSet : GoodIn wsX6_stepOn wsX6_afterSet := goodIn_r _ [17, 18, 19, 11, 20, 56, 57, 58, 59] (by decide +kernel) (by decide +kernel)
set_option maxRecDepth 20000 in
theorem gX6_stepOn_X6_afterSet : GoodIn wsX6_stepOn (wsV RX6 85 RX6 yX6_afterSet wsX6_afterSet) := goodIn_app (goodIn_of _ (by decide +kernel)) ggX6_stepOn_X6_afterSet
set_option maxRecDepth 20000 in
theorem ggX6_stepOn_X6_stateFor : GoodIn wsX6_stepOn wsX6_stateFor := goodIn_r _ [24, 1, 2, 25, 26, 27, 6, 28, 29, 30, 31, 32, 33, 34, 8, 9, 35, 4, 5, 7, 36, 37, 38, 39, 40, 41, 42, 43, 44, 45, 46, 56, 57, 58, 59, 60, 61, 62, 63, 64, 65, 66, 67, 68, 69, 70, 71, 72, 73] (by decide +kernel) (by decide +kernel)
set_option maxRecDepth 20000 in
theorem gX6_stepOn_X6_stateFor : GoodIn wsX6_stepOn (wsV RX6 53 RX6 yX6_stateFor wsX6_stateFor) := goodIn_app (goodIn_of _ (by decide +kernel)) ggX6_stepOn_X6_stateFor
set_option maxRecDepth 20000 in
theorem ggX6_stepOn_X1_write : GoodIn wsX6_stepOn wsX1_write := goodIn_r _ [50, 51, 52, 53, 54, 39, 55, 41, 19, 11, 20, 63, 64, 65, 66, 67, 68, 69, 70, 71, 72, 73] (by decide +kernel) (by decide +kernel)
set_option maxRecDepth 20000 in
theorem gX6_stepOn_X1_write : GoodIn wsX6_stepOn (wsV RX6 95 RX1 yX1_write wsX1_write) := goodIn_app (goodIn_of _ (by decide +kernel)) ggX6_stepOn_X1_write
theorem dX6_stepOn_0 : decode cX6_stepOn 0 = .ok (.aload_n 0, 1) := by decide +kernel
theorem dX6_stepOn_1 : decode cX6_stepOn 1 = .ok (.getfield 12, 3) := by decide +kernel
theorem dX6_stepOn_4 : decode cX6_stepOn 4 = .ok (.iload_n 1, 1) := by decide +kernel
theorem dX6_stepOn_5 : decode cX6_stepOn 5 = .ok (.invokevirtual 60, 3) := by decide +kernel
theorem dX6_stepOn_8 : decode cX6_stepOn 8 = .ok (.lstore 4, 2) := by decide +kernel
theorem dX6_stepOn_10 : decode cX6_stepOn 10 = .ok (.iconst 0, 1) := by decide +kernel
theorem dX6_stepOn_11 : decode cX6_stepOn 11 = .ok (.istore 6, 2) := by decide +kernel
theorem dX6_stepOn_13 : decode cX6_stepOn 13 = .ok (.iload 6, 2) := by decide +kernel
theorem dX6_stepOn_15 : decode cX6_stepOn 15 = .ok (.bipush 8, 2) := by decide +kernel
theorem dX6_stepOn_17 : decode cX6_stepOn 17 = .ok (.if_icmp .ge 70, 3) := by decide +kernel
theorem dX6_stepOn_20 : decode cX6_stepOn 20 = .ok (.iload 6, 2) := by decide +kernel
theorem dX6_stepOn_22 : decode cX6_stepOn 22 = .ok (.iload_n 3, 1) := by decide +kernel
theorem dX6_stepOn_23 : decode cX6_stepOn 23 = .ok (.invokestatic 92, 3) := by decide +kernel
theorem dX6_stepOn_26 : decode cX6_stepOn 26 = .ok (.ifCond .ne 55, 3) := by decide +kernel
theorem dX6_stepOn_29 : decode cX6_stepOn 29 = .ok (.aload_n 0, 1) := by decide +kernel
theorem dX6_stepOn_30 : decode cX6_stepOn 30 = .ok (.aload_n 0, 1) := by decide +kernel
theorem dX6_stepOn_31 : decode cX6_stepOn 31 = .ok (.lload 4, 2) := by decide +kernel
theorem dX6_stepOn_33 : decode cX6_stepOn 33 = .ok (.iload_n 2, 1) := by decide +kernel
theorem dX6_stepOn_34 : decode cX6_stepOn 34 = .ok (.iload 6, 2) := by decide +kernel
theorem dX6_stepOn_36 : decode cX6_stepOn 36 = .ok (.invokevirtual 85, 3) := by decide +kernel
theorem dX6_stepOn_39 : decode cX6_stepOn 39 = .ok (.invokevirtual 53, 3) := by decide +kernel
theorem dX6_stepOn_42 : decode cX6_stepOn 42 = .ok (.istore 7, 2) := by decide +kernel
theorem dX6_stepOn_44 : decode cX6_stepOn 44 = .ok (.iload 7, 2) := by decide +kernel
theorem dX6_stepOn_46 : decode cX6_stepOn 46 = .ok (.bipush (-6), 2) := by decide +kernel
theorem dX6_stepOn_48 : decode cX6_stepOn 48 = .ok (.if_icmp .ne 5, 3) := by decide +kernel
theorem dX6_stepOn_51 : decode cX6_stepOn 51 = .ok (.iconst 0, 1) := by decide +kernel
theorem dX6_stepOn_52 : decode cX6_stepOn 52 = .ok (.ireturn, 1) := by decide +kernel
theorem dX6_stepOn_53 : decode cX6_stepOn 53 = .ok (.aload_n 0, 1) := by decide +kernel
theorem dX6_stepOn_54 : decode cX6_stepOn 54 = .ok (.getfield 26, 3) := by decide +kernel
theorem dX6_stepOn_57 : decode cX6_stepOn 57 = .ok (.iload_n 1, 1) := by decide +kernel
theorem dX6_stepOn_58 : decode cX6_stepOn 58 = .ok (.iload 6, 2) := by decide +kernel
theorem dX6_stepOn_60 : decode cX6_stepOn 60 = .ok (.iload 7, 2) := by decide +kernel
theorem dX6_stepOn_62 : decode cX6_stepOn 62 = .ok (.invokevirtual 95, 3) := by decide +kernel
theorem dX6_stepOn_65 : decode cX6_stepOn 65 = .ok (.aload_n 0, 1) := by decide +kernel
theorem dX6_stepOn_66 : decode cX6_stepOn 66 = .ok (.getfield 26, 3) := by decide +kernel
theorem dX6_stepOn_69 : decode cX6_stepOn 69 = .ok (.iload_n 1, 1) := by decide +kernel
theorem dX6_stepOn_70 : decode cX6_stepOn 70 = .ok (.iload 6, 2) := by decide +kernel
theorem dX6_stepOn_72 : decode cX6_stepOn 72 = .ok (.iconst 1, 1) := by decide +kernel
theorem dX6_stepOn_73 : decode cX6_stepOn 73 = .ok (.iload_n 3, 1) := by decide +kernel
theorem dX6_stepOn_74 : decode cX6_stepOn 74 = .ok (.ishl, 1) := by decide +kernel
theorem dX6_stepOn_75 : decode cX6_stepOn 75 = .ok (.ixor, 1) := by decide +kernel
theorem dX6_stepOn_76 : decode cX6_stepOn 76 = .ok (.iload 7, 2) := by decide +kernel
theorem dX6_stepOn_78 : decode cX6_stepOn 78 = .ok (.invokevirtual 95, 3) := by decide +kernel
theorem dX6_stepOn_81 : decode cX6_stepOn 81 = .ok (.iinc 6 1, 3) := by decide +kernel
theorem dX6_stepOn_84 : decode cX6_stepOn 84 = .ok (.goto (-71), 3) := by decide +kernel
theorem dX6_stepOn_87 : decode cX6_stepOn 87 = .ok (.iconst 1, 1) := by decide +kernel
theorem dX6_stepOn_88 : decode cX6_stepOn 88 = .ok (.ireturn, 1) := by decide +kernel
set_option maxRecDepth 20000 in
theorem ggX6_stateFor_X7_numberOf : GoodIn wsX6_stateFor wsX7_numberOf := goodIn_r _ [7, 8, 9, 10, 11, 12, 6, 13, 14, 15, 16, 17, 18, 19, 35, 36, 37] (by decide +kernel) (by decide +kernel)
set_option maxRecDepth 20000 in
theorem gX6_stateFor_X7_numberOf : GoodIn wsX6_stateFor (wsV RX6 99 RX7 yX7_numberOf wsX7_numberOf) := goodIn_app (goodIn_of _ (by decide +kernel)) ggX6_stateFor_X7_numberOf
set_option maxRecDepth 20000 in
theorem ggX6_stateFor_X1_count : GoodIn wsX6_stateFor wsX1_count := goodIn_r _ [24, 25, 38, 39, 40, 41, 42, 43, 44, 45, 46, 47, 48] (by decide +kernel) (by decide +kernel)
set_option maxRecDepth 20000 in
theorem gX6_stateFor_X1_count : GoodIn wsX6_stateFor (wsV RX6 57 RX1 yX1_count wsX1_count) := goodIn_app (goodIn_of _ (by decide +kernel)) ggX6_stateFor_X1_count
set_option maxRecDepth 20000 in
theorem ggX6_stateFor_X1_add : GoodIn wsX6_stateFor wsX1_add := goodIn_r _ [29, 25, 30, 38, 39, 40, 41, 42, 43, 44, 45, 46, 47, 48] (by decide +kernel) (by decide +kernel)
set_option maxRecDepth 20000 in
theorem gX6_stateFor_X1_add : GoodIn wsX6_stateFor (wsV RX6 102 RX1 yX1_add wsX1_add) := goodIn_app (goodIn_of _ (by decide +kernel)) ggX6_stateFor_X1_add
theorem dX6_stateFor_0 : decode cX6_stateFor 0 = .ok (.aload_n 0, 1) := by decide +kernel
theorem dX6_stateFor_1 : decode cX6_stateFor 1 = .ok (.getfield 12, 3) := by decide +kernel
theorem dX6_stateFor_4 : decode cX6_stateFor 4 = .ok (.lload_n 1, 1) := by decide +kernel
theorem dX6_stateFor_5 : decode cX6_stateFor 5 = .ok (.invokevirtual 99, 3) := by decide +kernel
theorem dX6_stateFor_8 : decode cX6_stateFor 8 = .ok (.istore_n 3, 1) := by decide +kernel
theorem dX6_stateFor_9 : decode cX6_stateFor 9 = .ok (.iload_n 3, 1) := by decide +kernel
theorem dX6_stateFor_10 : decode cX6_stateFor 10 = .ok (.aload_n 0, 1) := by decide +kernel
theorem dX6_stateFor_11 : decode cX6_stateFor 11 = .ok (.getfield 26, 3) := by decide +kernel
theorem dX6_stateFor_14 : decode cX6_stateFor 14 = .ok (.invokevirtual 57, 3) := by decide +kernel
theorem dX6_stateFor_17 : decode cX6_stateFor 17 = .ok (.if_icmp .ne 10, 3) := by decide +kernel
theorem dX6_stateFor_20 : decode cX6_stateFor 20 = .ok (.aload_n 0, 1) := by decide +kernel
theorem dX6_stateFor_21 : decode cX6_stateFor 21 = .ok (.getfield 26, 3) := by decide +kernel
theorem dX6_stateFor_24 : decode cX6_stateFor 24 = .ok (.invokevirtual 102, 3) := by decide +kernel
theorem dX6_stateFor_27 : decode cX6_stateFor 27 = .ok (.iload_n 3, 1) := by decide +kernel
theorem dX6_stateFor_28 : decode cX6_stateFor 28 = .ok (.ireturn, 1) := by decide +kernel
