theorem dX0_init_0 : decode cX0_init 0 = .ok (.aload_n 0, 1) := by decide +kernel
theorem dX0_init_1 : decode cX0_init 1 = .ok (.invokespecial 3, 3) := by decide +kernel
theorem dX0_init_4 : decode cX0_init 4 = .ok (.aload_n 0, 1) := by decide +kernel
theorem dX0_init_5 : decode cX0_init 5 = .ok (.sipush 480, 3) := by decide +kernel
theorem dX0_init_8 : decode cX0_init 8 = .ok (.newarray .int, 2) := by decide +kernel
theorem dX0_init_10 : decode cX0_init 10 = .ok (.putfield 9, 3) := by decide +kernel
theorem dX0_init_13 : decode cX0_init 13 = .ok (.aload_n 0, 1) := by decide +kernel
theorem dX0_init_14 : decode cX0_init 14 = .ok (.bipush 60, 2) := by decide +kernel
theorem dX0_init_16 : decode cX0_init 16 = .ok (.newarray .boolean, 2) := by decide +kernel
theorem dX0_init_18 : decode cX0_init 18 = .ok (.putfield 15, 3) := by decide +kernel
theorem dX0_init_21 : decode cX0_init 21 = .ok (.aload_n 0, 1) := by decide +kernel
theorem dX0_init_22 : decode cX0_init 22 = .ok (.iconst 0, 1) := by decide +kernel
theorem dX0_init_23 : decode cX0_init 23 = .ok (.putfield 19, 3) := by decide +kernel
theorem dX0_init_26 : decode cX0_init 26 = .ok (.return_, 1) := by decide +kernel
theorem dX0_size_0 : decode cX0_size 0 = .ok (.aload_n 0, 1) := by decide +kernel
theorem dX0_size_1 : decode cX0_size 1 = .ok (.getfield 19, 3) := by decide +kernel
theorem dX0_size_4 : decode cX0_size 4 = .ok (.ireturn, 1) := by decide +kernel
theorem dX0_begin_0 : decode cX0_begin 0 = .ok (.aload_n 0, 1) := by decide +kernel
theorem dX0_begin_1 : decode cX0_begin 1 = .ok (.iconst 0, 1) := by decide +kernel
theorem dX0_begin_2 : decode cX0_begin 2 = .ok (.iload_n 1, 1) := by decide +kernel
theorem dX0_begin_3 : decode cX0_begin 3 = .ok (.bipush 60, 2) := by decide +kernel
theorem dX0_begin_5 : decode cX0_begin 5 = .ok (.invokestatic 23, 3) := by decide +kernel
theorem dX0_begin_8 : decode cX0_begin 8 = .ok (.invokestatic 29, 3) := by decide +kernel
theorem dX0_begin_11 : decode cX0_begin 11 = .ok (.putfield 19, 3) := by decide +kernel
theorem dX0_begin_14 : decode cX0_begin 14 = .ok (.return_, 1) := by decide +kernel
theorem dX0_isKind_0 : decode cX0_isKind 0 = .ok (.iload_n 1, 1) := by decide +kernel
theorem dX0_isKind_1 : decode cX0_isKind 1 = .ok (.ifCond .lt 15, 3) := by decide +kernel
theorem dX0_isKind_4 : decode cX0_isKind 4 = .ok (.iload_n 1, 1) := by decide +kernel
theorem dX0_isKind_5 : decode cX0_isKind 5 = .ok (.aload_n 0, 1) := by decide +kernel
theorem dX0_isKind_6 : decode cX0_isKind 6 = .ok (.getfield 19, 3) := by decide +kernel
theorem dX0_isKind_9 : decode cX0_isKind 9 = .ok (.if_icmp .ge 7, 3) := by decide +kernel
theorem dX0_isKind_12 : decode cX0_isKind 12 = .ok (.iconst 1, 1) := by decide +kernel
theorem dX0_isKind_13 : decode cX0_isKind 13 = .ok (.goto 4, 3) := by decide +kernel
theorem dX0_isKind_16 : decode cX0_isKind 16 = .ok (.iconst 0, 1) := by decide +kernel
theorem dX0_isKind_17 : decode cX0_isKind 17 = .ok (.ireturn, 1) := by decide +kernel
set_option maxRecDepth 20000 in
theorem ggX0_write_X0_isKind : GoodIn wsX0_write wsX0_isKind := goodIn_r _ [6, 7, 11, 12, 13] (by decide +kernel) (by decide +kernel)
set_option maxRecDepth 20000 in
theorem gX0_write_X0_isKind : GoodIn wsX0_write (wsV RX0 32 RX0 yX0_isKind wsX0_isKind) := goodIn_app (goodIn_of _ (by decide +kernel)) ggX0_write_X0_isKind
set_option maxRecDepth 20000 in
theorem ggX0_write_X9_isColumn : GoodIn wsX0_write wsX9_isColumn := goodIn_r _ [10] (by decide +kernel) (by decide +kernel)
set_option maxRecDepth 20000 in
theorem gX0_write_X9_isColumn_n36 : GoodIn wsX0_write (wsX9_isColumn) := ggX0_write_X9_isColumn
theorem dX0_write_0 : decode cX0_write 0 = .ok (.aload_n 0, 1) := by decide +kernel
theorem dX0_write_1 : decode cX0_write 1 = .ok (.iload_n 1, 1) := by decide +kernel
theorem dX0_write_2 : decode cX0_write 2 = .ok (.invokevirtual 32, 3) := by decide +kernel
theorem dX0_write_5 : decode cX0_write 5 = .ok (.ifCond .eq 30, 3) := by decide +kernel
theorem dX0_write_8 : decode cX0_write 8 = .ok (.iload_n 2, 1) := by decide +kernel
theorem dX0_write_9 : decode cX0_write 9 = .ok (.invokestatic 36, 3) := by decide +kernel
theorem dX0_write_12 : decode cX0_write 12 = .ok (.ifCond .eq 23, 3) := by decide +kernel
theorem dX0_write_15 : decode cX0_write 15 = .ok (.aload_n 0, 1) := by decide +kernel
theorem dX0_write_16 : decode cX0_write 16 = .ok (.iload_n 3, 1) := by decide +kernel
theorem dX0_write_17 : decode cX0_write 17 = .ok (.invokevirtual 32, 3) := by decide +kernel
theorem dX0_write_20 : decode cX0_write 20 = .ok (.ifCond .eq 15, 3) := by decide +kernel
theorem dX0_write_23 : decode cX0_write 23 = .ok (.aload_n 0, 1) := by decide +kernel
theorem dX0_write_24 : decode cX0_write 24 = .ok (.getfield 9, 3) := by decide +kernel
theorem dX0_write_27 : decode cX0_write 27 = .ok (.iload_n 1, 1) := by decide +kernel
theorem dX0_write_28 : decode cX0_write 28 = .ok (.bipush 8, 2) := by decide +kernel
theorem dX0_write_30 : decode cX0_write 30 = .ok (.imul, 1) := by decide +kernel
theorem dX0_write_31 : decode cX0_write 31 = .ok (.iload_n 2, 1) := by decide +kernel
theorem dX0_write_32 : decode cX0_write 32 = .ok (.iadd, 1) := by decide +kernel
theorem dX0_write_33 : decode cX0_write 33 = .ok (.iload_n 3, 1) := by decide +kernel
theorem dX0_write_34 : decode cX0_write 34 = .ok (.iastore, 1) := by decide +kernel
theorem dX0_write_35 : decode cX0_write 35 = .ok (.return_, 1) := by decide +kernel
set_option maxRecDepth 20000 in
theorem ggX0_writeSays_X0_isKind : GoodIn wsX0_writeSays wsX0_isKind := goodIn_r _ [6, 7, 8, 9, 10] (by decide +kernel) (by decide +kernel)
set_option maxRecDepth 20000 in
theorem gX0_writeSays_X0_isKind : GoodIn wsX0_writeSays (wsV RX0 32 RX0 yX0_isKind wsX0_isKind) := goodIn_app (goodIn_of _ (by decide +kernel)) ggX0_writeSays_X0_isKind
theorem dX0_writeSays_0 : decode cX0_writeSays 0 = .ok (.aload_n 0, 1) := by decide +kernel
theorem dX0_writeSays_1 : decode cX0_writeSays 1 = .ok (.iload_n 1, 1) := by decide +kernel
theorem dX0_writeSays_2 : decode cX0_writeSays 2 = .ok (.invokevirtual 32, 3) := by decide +kernel
theorem dX0_writeSays_5 : decode cX0_writeSays 5 = .ok (.ifCond .eq 10, 3) := by decide +kernel
theorem dX0_writeSays_8 : decode cX0_writeSays 8 = .ok (.aload_n 0, 1) := by decide +kernel
theorem dX0_writeSays_9 : decode cX0_writeSays 9 = .ok (.getfield 15, 3) := by decide +kernel
theorem dX0_writeSays_12 : decode cX0_writeSays 12 = .ok (.iload_n 1, 1) := by decide +kernel
theorem dX0_writeSays_13 : decode cX0_writeSays 13 = .ok (.iload_n 2, 1) := by decide +kernel
theorem dX0_writeSays_14 : decode cX0_writeSays 14 = .ok (.bastore, 1) := by decide +kernel
theorem dX0_writeSays_15 : decode cX0_writeSays 15 = .ok (.return_, 1) := by decide +kernel
set_option maxRecDepth 20000 in
theorem ggX0_after_X0_isKind : GoodIn wsX0_after wsX0_isKind := goodIn_r _ [6, 7, 11, 12, 13] (by decide +kernel) (by decide +kernel)
set_option maxRecDepth 20000 in
theorem gX0_after_X0_isKind : GoodIn wsX0_after (wsV RX0 32 RX0 yX0_isKind wsX0_isKind) := goodIn_app (goodIn_of _ (by decide +kernel)) ggX0_after_X0_isKind
set_option maxRecDepth 20000 in
theorem ggX0_after_X9_isColumn : GoodIn wsX0_after wsX9_isColumn := goodIn_r _ [10] (by decide +kernel) (by decide +kernel)
set_option maxRecDepth 20000 in
theorem gX0_after_X9_isColumn_n36 : GoodIn wsX0_after (wsX9_isColumn) := ggX0_after_X9_isColumn
theorem dX0_after_0 : decode cX0_after 0 = .ok (.aload_n 0, 1) := by decide +kernel
theorem dX0_after_1 : decode cX0_after 1 = .ok (.iload_n 1, 1) := by decide +kernel
theorem dX0_after_2 : decode cX0_after 2 = .ok (.invokevirtual 32, 3) := by decide +kernel
theorem dX0_after_5 : decode cX0_after 5 = .ok (.ifCond .eq 24, 3) := by decide +kernel
theorem dX0_after_8 : decode cX0_after 8 = .ok (.iload_n 2, 1) := by decide +kernel
theorem dX0_after_9 : decode cX0_after 9 = .ok (.invokestatic 36, 3) := by decide +kernel
theorem dX0_after_12 : decode cX0_after 12 = .ok (.ifCond .eq 17, 3) := by decide +kernel
theorem dX0_after_15 : decode cX0_after 15 = .ok (.aload_n 0, 1) := by decide +kernel
theorem dX0_after_16 : decode cX0_after 16 = .ok (.getfield 9, 3) := by decide +kernel
theorem dX0_after_19 : decode cX0_after 19 = .ok (.iload_n 1, 1) := by decide +kernel
theorem dX0_after_20 : decode cX0_after 20 = .ok (.bipush 8, 2) := by decide +kernel
theorem dX0_after_22 : decode cX0_after 22 = .ok (.imul, 1) := by decide +kernel
theorem dX0_after_23 : decode cX0_after 23 = .ok (.iload_n 2, 1) := by decide +kernel
theorem dX0_after_24 : decode cX0_after 24 = .ok (.iadd, 1) := by decide +kernel
theorem dX0_after_25 : decode cX0_after 25 = .ok (.iaload, 1) := by decide +kernel
theorem dX0_after_26 : decode cX0_after 26 = .ok (.goto 4, 3) := by decide +kernel
theorem dX0_after_29 : decode cX0_after 29 = .ok (.iconst 0, 1) := by decide +kernel
theorem dX0_after_30 : decode cX0_after 30 = .ok (.ireturn, 1) := by decide +kernel
set_option maxRecDepth 20000 in
theorem ggX0_saysAt_X0_isKind : GoodIn wsX0_saysAt wsX0_isKind := goodIn_r _ [6, 7, 8, 9, 10] (by decide +kernel) (by decide +kernel)
set_option maxRecDepth 20000 in
theorem gX0_saysAt_X0_isKind : GoodIn wsX0_saysAt (wsV RX0 32 RX0 yX0_isKind wsX0_isKind) := goodIn_app (goodIn_of _ (by decide +kernel)) ggX0_saysAt_X0_isKind
theorem dX0_saysAt_0 : decode cX0_saysAt 0 = .ok (.aload_n 0, 1) := by decide +kernel
theorem dX0_saysAt_1 : decode cX0_saysAt 1 = .ok (.iload_n 1, 1) := by decide +kernel
theorem dX0_saysAt_2 : decode cX0_saysAt 2 = .ok (.invokevirtual 32, 3) := by decide +kernel
theorem dX0_saysAt_5 : decode cX0_saysAt 5 = .ok (.ifCond .eq 16, 3) := by decide +kernel
theorem dX0_saysAt_8 : decode cX0_saysAt 8 = .ok (.aload_n 0, 1) := by decide +kernel
theorem dX0_saysAt_9 : decode cX0_saysAt 9 = .ok (.getfield 15, 3) := by decide +kernel
theorem dX0_saysAt_12 : decode cX0_saysAt 12 = .ok (.iload_n 1, 1) := by decide +kernel
theorem dX0_saysAt_13 : decode cX0_saysAt 13 = .ok (.baload, 1) := by decide +kernel
theorem dX0_saysAt_14 : decode cX0_saysAt 14 = .ok (.ifCond .eq 7, 3) := by decide +kernel
theorem dX0_saysAt_17 : decode cX0_saysAt 17 = .ok (.iconst 1, 1) := by decide +kernel
theorem dX0_saysAt_18 : decode cX0_saysAt 18 = .ok (.goto 4, 3) := by decide +kernel
theorem dX0_saysAt_21 : decode cX0_saysAt 21 = .ok (.iconst 0, 1) := by decide +kernel
theorem dX0_saysAt_22 : decode cX0_saysAt 22 = .ok (.ireturn, 1) := by decide +kernel
theorem dX0_becomeNot_0 : decode cX0_becomeNot 0 = .ok (.aload_n 0, 1) := by decide +kernel
theorem dX0_becomeNot_1 : decode cX0_becomeNot 1 = .ok (.aload_n 1, 1) := by decide +kernel
theorem dX0_becomeNot_2 : decode cX0_becomeNot 2 = .ok (.getfield 19, 3) := by decide +kernel
theorem dX0_becomeNot_5 : decode cX0_becomeNot 5 = .ok (.putfield 19, 3) := by decide +kernel
theorem dX0_becomeNot_8 : decode cX0_becomeNot 8 = .ok (.aload_n 1, 1) := by decide +kernel
theorem dX0_becomeNot_9 : decode cX0_becomeNot 9 = .ok (.getfield 9, 3) := by decide +kernel
theorem dX0_becomeNot_12 : decode cX0_becomeNot 12 = .ok (.iconst 0, 1) := by decide +kernel
theorem dX0_becomeNot_13 : decode cX0_becomeNot 13 = .ok (.aload_n 0, 1) := by decide +kernel
theorem dX0_becomeNot_14 : decode cX0_becomeNot 14 = .ok (.getfield 9, 3) := by decide +kernel
theorem dX0_becomeNot_17 : decode cX0_becomeNot 17 = .ok (.iconst 0, 1) := by decide +kernel
theorem dX0_becomeNot_18 : decode cX0_becomeNot 18 = .ok (.aload_n 0, 1) := by decide +kernel
theorem dX0_becomeNot_19 : decode cX0_becomeNot 19 = .ok (.getfield 19, 3) := by decide +kernel
theorem dX0_becomeNot_22 : decode cX0_becomeNot 22 = .ok (.bipush 8, 2) := by decide +kernel
theorem dX0_becomeNot_24 : decode cX0_becomeNot 24 = .ok (.imul, 1) := by decide +kernel
theorem dX0_becomeNot_25 : decode cX0_becomeNot 25 = .ok (.invokestatic 39, 3) := by decide +kernel
theorem dX0_becomeNot_28 : decode cX0_becomeNot 28 = .ok (.iconst 0, 1) := by decide +kernel
theorem dX0_becomeNot_29 : decode cX0_becomeNot 29 = .ok (.istore_n 2, 1) := by decide +kernel
theorem dX0_becomeNot_30 : decode cX0_becomeNot 30 = .ok (.iload_n 2, 1) := by decide +kernel
theorem dX0_becomeNot_31 : decode cX0_becomeNot 31 = .ok (.aload_n 0, 1) := by decide +kernel
theorem dX0_becomeNot_32 : decode cX0_becomeNot 32 = .ok (.getfield 19, 3) := by decide +kernel
theorem dX0_becomeNot_35 : decode cX0_becomeNot 35 = .ok (.if_icmp .ge 29, 3) := by decide +kernel
theorem dX0_becomeNot_38 : decode cX0_becomeNot 38 = .ok (.aload_n 0, 1) := by decide +kernel
theorem dX0_becomeNot_39 : decode cX0_becomeNot 39 = .ok (.getfield 15, 3) := by decide +kernel
theorem dX0_becomeNot_42 : decode cX0_becomeNot 42 = .ok (.iload_n 2, 1) := by decide +kernel
theorem dX0_becomeNot_43 : decode cX0_becomeNot 43 = .ok (.aload_n 1, 1) := by decide +kernel
theorem dX0_becomeNot_44 : decode cX0_becomeNot 44 = .ok (.getfield 15, 3) := by decide +kernel
theorem dX0_becomeNot_47 : decode cX0_becomeNot 47 = .ok (.iload_n 2, 1) := by decide +kernel
theorem dX0_becomeNot_48 : decode cX0_becomeNot 48 = .ok (.baload, 1) := by decide +kernel
theorem dX0_becomeNot_49 : decode cX0_becomeNot 49 = .ok (.ifCond .ne 7, 3) := by decide +kernel
theorem dX0_becomeNot_52 : decode cX0_becomeNot 52 = .ok (.iconst 1, 1) := by decide +kernel
theorem dX0_becomeNot_53 : decode cX0_becomeNot 53 = .ok (.goto 4, 3) := by decide +kernel
theorem dX0_becomeNot_56 : decode cX0_becomeNot 56 = .ok (.iconst 0, 1) := by decide +kernel
theorem dX0_becomeNot_57 : decode cX0_becomeNot 57 = .ok (.bastore, 1) := by decide +kernel
theorem dX0_becomeNot_58 : decode cX0_becomeNot 58 = .ok (.iinc 2 1, 3) := by decide +kernel
theorem dX0_becomeNot_61 : decode cX0_becomeNot 61 = .ok (.goto (-31), 3) := by decide +kernel
theorem dX0_becomeNot_64 : decode cX0_becomeNot 64 = .ok (.return_, 1) := by decide +kernel
set_option maxRecDepth 20000 in
theorem ggX0_saysOf_X0_after : GoodIn wsX0_saysOf wsX0_after := goodIn_r _ [5, 6, 7, 8, 9, 4, 10, 11, 12, 13, 14, 20, 21, 22] (by decide +kernel) (by decide +kernel)
set_option maxRecDepth 20000 in
theorem gX0_saysOf_X0_after : GoodIn wsX0_saysOf (wsV RX0 45 RX0 yX0_after wsX0_after) := goodIn_app (goodIn_of _ (by decide +kernel)) ggX0_saysOf_X0_after
set_option maxRecDepth 20000 in
theorem ggX0_saysOf_X0_saysAt : GoodIn wsX0_saysOf wsX0_saysAt := goodIn_r _ [18, 19, 7, 8, 9, 4, 10, 11, 20, 21, 22] (by decide +kernel) (by decide +kernel)
set_option maxRecDepth 20000 in
theorem gX0_saysOf_X0_saysAt : GoodIn wsX0_saysOf (wsV RX0 48 RX0 yX0_saysAt wsX0_saysAt) := goodIn_app (goodIn_of _ (by decide +kernel)) ggX0_saysOf_X0_saysAt
theorem dX0_saysOf_0 : decode cX0_saysOf 0 = .ok (.iconst 0, 1) := by decide +kernel
theorem dX0_saysOf_1 : decode cX0_saysOf 1 = .ok (.istore 4, 2) := by decide +kernel
theorem dX0_saysOf_3 : decode cX0_saysOf 3 = .ok (.bipush 29, 2) := by decide +kernel
theorem dX0_saysOf_5 : decode cX0_saysOf 5 = .ok (.istore 5, 2) := by decide +kernel
theorem dX0_saysOf_7 : decode cX0_saysOf 7 = .ok (.iload 5, 2) := by decide +kernel
theorem dX0_saysOf_9 : decode cX0_saysOf 9 = .ok (.ifCond .lt 45, 3) := by decide +kernel
theorem dX0_saysOf_12 : decode cX0_saysOf 12 = .ok (.iload_n 1, 1) := by decide +kernel
theorem dX0_saysOf_13 : decode cX0_saysOf 13 = .ok (.iload 5, 2) := by decide +kernel
theorem dX0_saysOf_15 : decode cX0_saysOf 15 = .ok (.ishr, 1) := by decide +kernel
theorem dX0_saysOf_16 : decode cX0_saysOf 16 = .ok (.iconst 1, 1) := by decide +kernel
theorem dX0_saysOf_17 : decode cX0_saysOf 17 = .ok (.iand, 1) := by decide +kernel
theorem dX0_saysOf_18 : decode cX0_saysOf 18 = .ok (.iload_n 2, 1) := by decide +kernel
theorem dX0_saysOf_19 : decode cX0_saysOf 19 = .ok (.iload 5, 2) := by decide +kernel
theorem dX0_saysOf_21 : decode cX0_saysOf 21 = .ok (.ishr, 1) := by decide +kernel
theorem dX0_saysOf_22 : decode cX0_saysOf 22 = .ok (.iconst 1, 1) := by decide +kernel
theorem dX0_saysOf_23 : decode cX0_saysOf 23 = .ok (.iand, 1) := by decide +kernel
theorem dX0_saysOf_24 : decode cX0_saysOf 24 = .ok (.iconst 1, 1) := by decide +kernel
theorem dX0_saysOf_25 : decode cX0_saysOf 25 = .ok (.ishl, 1) := by decide +kernel
theorem dX0_saysOf_26 : decode cX0_saysOf 26 = .ok (.ior, 1) := by decide +kernel
theorem dX0_saysOf_27 : decode cX0_saysOf 27 = .ok (.iload_n 3, 1) := by decide +kernel
theorem dX0_saysOf_28 : decode cX0_saysOf 28 = .ok (.iload 5, 2) := by decide +kernel
theorem dX0_saysOf_30 : decode cX0_saysOf 30 = .ok (.ishr, 1) := by decide +kernel
theorem dX0_saysOf_31 : decode cX0_saysOf 31 = .ok (.iconst 1, 1) := by decide +kernel
theorem dX0_saysOf_32 : decode cX0_saysOf 32 = .ok (.iand, 1) := by decide +kernel
theorem dX0_saysOf_33 : decode cX0_saysOf 33 = .ok (.iconst 2, 1) := by decide +kernel
theorem dX0_saysOf_34 : decode cX0_saysOf 34 = .ok (.ishl, 1) := by decide +kernel
theorem dX0_saysOf_35 : decode cX0_saysOf 35 = .ok (.ior, 1) := by decide +kernel
theorem dX0_saysOf_36 : decode cX0_saysOf 36 = .ok (.istore 6, 2) := by decide +kernel
theorem dX0_saysOf_38 : decode cX0_saysOf 38 = .ok (.aload_n 0, 1) := by decide +kernel
theorem dX0_saysOf_39 : decode cX0_saysOf 39 = .ok (.iload 4, 2) := by decide +kernel
theorem dX0_saysOf_41 : decode cX0_saysOf 41 = .ok (.iload 6, 2) := by decide +kernel
theorem dX0_saysOf_43 : decode cX0_saysOf 43 = .ok (.invokevirtual 45, 3) := by decide +kernel
theorem dX0_saysOf_46 : decode cX0_saysOf 46 = .ok (.istore 4, 2) := by decide +kernel
theorem dX0_saysOf_48 : decode cX0_saysOf 48 = .ok (.iinc 5 (-1), 3) := by decide +kernel
theorem dX0_saysOf_51 : decode cX0_saysOf 51 = .ok (.goto (-44), 3) := by decide +kernel
theorem dX0_saysOf_54 : decode cX0_saysOf 54 = .ok (.aload_n 0, 1) := by decide +kernel
theorem dX0_saysOf_55 : decode cX0_saysOf 55 = .ok (.iload 4, 2) := by decide +kernel
theorem dX0_saysOf_57 : decode cX0_saysOf 57 = .ok (.invokevirtual 48, 3) := by decide +kernel
theorem dX0_saysOf_60 : decode cX0_saysOf 60 = .ok (.ireturn, 1) := by decide +kernel
set_option maxRecDepth 20000 in
theorem ggX0_heeds_X0_after : GoodIn wsX0_heeds wsX0_after := goodIn_r _ [6, 7, 8, 9, 10, 5, 11, 1, 12, 13, 14, 15, 16, 17] (by decide +kernel) (by decide +kernel)
set_option maxRecDepth 20000 in
theorem gX0_heeds_X0_after : GoodIn wsX0_heeds (wsV RX0 45 RX0 yX0_after wsX0_after) := goodIn_app (goodIn_of _ (by decide +kernel)) ggX0_heeds_X0_after
theorem dX0_heeds_0 : decode cX0_heeds 0 = .ok (.iconst 0, 1) := by decide +kernel
theorem dX0_heeds_1 : decode cX0_heeds 1 = .ok (.istore_n 2, 1) := by decide +kernel
theorem dX0_heeds_2 : decode cX0_heeds 2 = .ok (.iload_n 2, 1) := by decide +kernel
theorem dX0_heeds_3 : decode cX0_heeds 3 = .ok (.aload_n 0, 1) := by decide +kernel
theorem dX0_heeds_4 : decode cX0_heeds 4 = .ok (.getfield 19, 3) := by decide +kernel
theorem dX0_heeds_7 : decode cX0_heeds 7 = .ok (.if_icmp .ge 44, 3) := by decide +kernel
theorem dX0_heeds_10 : decode cX0_heeds 10 = .ok (.iconst 0, 1) := by decide +kernel
theorem dX0_heeds_11 : decode cX0_heeds 11 = .ok (.istore_n 3, 1) := by decide +kernel
theorem dX0_heeds_12 : decode cX0_heeds 12 = .ok (.iload_n 3, 1) := by decide +kernel
theorem dX0_heeds_13 : decode cX0_heeds 13 = .ok (.bipush 8, 2) := by decide +kernel
theorem dX0_heeds_15 : decode cX0_heeds 15 = .ok (.if_icmp .ge 30, 3) := by decide +kernel
theorem dX0_heeds_18 : decode cX0_heeds 18 = .ok (.aload_n 0, 1) := by decide +kernel
theorem dX0_heeds_19 : decode cX0_heeds 19 = .ok (.iload_n 2, 1) := by decide +kernel
theorem dX0_heeds_20 : decode cX0_heeds 20 = .ok (.iload_n 3, 1) := by decide +kernel
theorem dX0_heeds_21 : decode cX0_heeds 21 = .ok (.invokevirtual 45, 3) := by decide +kernel
theorem dX0_heeds_24 : decode cX0_heeds 24 = .ok (.aload_n 0, 1) := by decide +kernel
theorem dX0_heeds_25 : decode cX0_heeds 25 = .ok (.iload_n 2, 1) := by decide +kernel
theorem dX0_heeds_26 : decode cX0_heeds 26 = .ok (.iload_n 3, 1) := by decide +kernel
theorem dX0_heeds_27 : decode cX0_heeds 27 = .ok (.iconst 1, 1) := by decide +kernel
theorem dX0_heeds_28 : decode cX0_heeds 28 = .ok (.iload_n 1, 1) := by decide +kernel
theorem dX0_heeds_29 : decode cX0_heeds 29 = .ok (.ishl, 1) := by decide +kernel
theorem dX0_heeds_30 : decode cX0_heeds 30 = .ok (.ixor, 1) := by decide +kernel
theorem dX0_heeds_31 : decode cX0_heeds 31 = .ok (.invokevirtual 45, 3) := by decide +kernel
theorem dX0_heeds_34 : decode cX0_heeds 34 = .ok (.if_icmp .eq 5, 3) := by decide +kernel
theorem dX0_heeds_37 : decode cX0_heeds 37 = .ok (.iconst 1, 1) := by decide +kernel
theorem dX0_heeds_38 : decode cX0_heeds 38 = .ok (.ireturn, 1) := by decide +kernel
theorem dX0_heeds_39 : decode cX0_heeds 39 = .ok (.iinc 3 1, 3) := by decide +kernel
theorem dX0_heeds_42 : decode cX0_heeds 42 = .ok (.goto (-30), 3) := by decide +kernel
theorem dX0_heeds_45 : decode cX0_heeds 45 = .ok (.iinc 2 1, 3) := by decide +kernel
theorem dX0_heeds_48 : decode cX0_heeds 48 = .ok (.goto (-46), 3) := by decide +kernel
theorem dX0_heeds_51 : decode cX0_heeds 51 = .ok (.iconst 0, 1) := by decide +kernel
theorem dX0_heeds_52 : decode cX0_heeds 52 = .ok (.ireturn, 1) := by decide +kernel
theorem dX0_isAsOther_0 : decode cX0_isAsOther 0 = .ok (.aload_n 0, 1) := by decide +kernel
theorem dX0_isAsOther_1 : decode cX0_isAsOther 1 = .ok (.getfield 19, 3) := by decide +kernel
theorem dX0_isAsOther_4 : decode cX0_isAsOther 4 = .ok (.aload_n 1, 1) := by decide +kernel
theorem dX0_isAsOther_5 : decode cX0_isAsOther 5 = .ok (.getfield 19, 3) := by decide +kernel
theorem dX0_isAsOther_8 : decode cX0_isAsOther 8 = .ok (.if_icmp .eq 5, 3) := by decide +kernel
theorem dX0_isAsOther_11 : decode cX0_isAsOther 11 = .ok (.iconst 0, 1) := by decide +kernel
theorem dX0_isAsOther_12 : decode cX0_isAsOther 12 = .ok (.ireturn, 1) := by decide +kernel
theorem dX0_isAsOther_13 : decode cX0_isAsOther 13 = .ok (.iconst 0, 1) := by decide +kernel
theorem dX0_isAsOther_14 : decode cX0_isAsOther 14 = .ok (.istore_n 2, 1) := by decide +kernel
theorem dX0_isAsOther_15 : decode cX0_isAsOther 15 = .ok (.iload_n 2, 1) := by decide +kernel
theorem dX0_isAsOther_16 : decode cX0_isAsOther 16 = .ok (.aload_n 0, 1) := by decide +kernel
theorem dX0_isAsOther_17 : decode cX0_isAsOther 17 = .ok (.getfield 19, 3) := by decide +kernel
theorem dX0_isAsOther_20 : decode cX0_isAsOther 20 = .ok (.if_icmp .ge 26, 3) := by decide +kernel
theorem dX0_isAsOther_23 : decode cX0_isAsOther 23 = .ok (.aload_n 0, 1) := by decide +kernel
theorem dX0_isAsOther_24 : decode cX0_isAsOther 24 = .ok (.getfield 15, 3) := by decide +kernel
theorem dX0_isAsOther_27 : decode cX0_isAsOther 27 = .ok (.iload_n 2, 1) := by decide +kernel
theorem dX0_isAsOther_28 : decode cX0_isAsOther 28 = .ok (.baload, 1) := by decide +kernel
theorem dX0_isAsOther_29 : decode cX0_isAsOther 29 = .ok (.aload_n 1, 1) := by decide +kernel
theorem dX0_isAsOther_30 : decode cX0_isAsOther 30 = .ok (.getfield 15, 3) := by decide +kernel
theorem dX0_isAsOther_33 : decode cX0_isAsOther 33 = .ok (.iload_n 2, 1) := by decide +kernel
theorem dX0_isAsOther_34 : decode cX0_isAsOther 34 = .ok (.baload, 1) := by decide +kernel
theorem dX0_isAsOther_35 : decode cX0_isAsOther 35 = .ok (.if_icmp .eq 5, 3) := by decide +kernel
theorem dX0_isAsOther_38 : decode cX0_isAsOther 38 = .ok (.iconst 0, 1) := by decide +kernel
theorem dX0_isAsOther_39 : decode cX0_isAsOther 39 = .ok (.ireturn, 1) := by decide +kernel
theorem dX0_isAsOther_40 : decode cX0_isAsOther 40 = .ok (.iinc 2 1, 3) := by decide +kernel
theorem dX0_isAsOther_43 : decode cX0_isAsOther 43 = .ok (.goto (-28), 3) := by decide +kernel
theorem dX0_isAsOther_46 : decode cX0_isAsOther 46 = .ok (.iconst 0, 1) := by decide +kernel
theorem dX0_isAsOther_47 : decode cX0_isAsOther 47 = .ok (.istore_n 2, 1) := by decide +kernel
theorem dX0_isAsOther_48 : decode cX0_isAsOther 48 = .ok (.iload_n 2, 1) := by decide +kernel
theorem dX0_isAsOther_49 : decode cX0_isAsOther 49 = .ok (.aload_n 0, 1) := by decide +kernel
theorem dX0_isAsOther_50 : decode cX0_isAsOther 50 = .ok (.getfield 19, 3) := by decide +kernel
theorem dX0_isAsOther_53 : decode cX0_isAsOther 53 = .ok (.bipush 8, 2) := by decide +kernel
theorem dX0_isAsOther_55 : decode cX0_isAsOther 55 = .ok (.imul, 1) := by decide +kernel
theorem dX0_isAsOther_56 : decode cX0_isAsOther 56 = .ok (.if_icmp .ge 26, 3) := by decide +kernel
theorem dX0_isAsOther_59 : decode cX0_isAsOther 59 = .ok (.aload_n 0, 1) := by decide +kernel
theorem dX0_isAsOther_60 : decode cX0_isAsOther 60 = .ok (.getfield 9, 3) := by decide +kernel
theorem dX0_isAsOther_63 : decode cX0_isAsOther 63 = .ok (.iload_n 2, 1) := by decide +kernel
theorem dX0_isAsOther_64 : decode cX0_isAsOther 64 = .ok (.iaload, 1) := by decide +kernel
theorem dX0_isAsOther_65 : decode cX0_isAsOther 65 = .ok (.aload_n 1, 1) := by decide +kernel
theorem dX0_isAsOther_66 : decode cX0_isAsOther 66 = .ok (.getfield 9, 3) := by decide +kernel
theorem dX0_isAsOther_69 : decode cX0_isAsOther 69 = .ok (.iload_n 2, 1) := by decide +kernel
theorem dX0_isAsOther_70 : decode cX0_isAsOther 70 = .ok (.iaload, 1) := by decide +kernel
theorem dX0_isAsOther_71 : decode cX0_isAsOther 71 = .ok (.if_icmp .eq 5, 3) := by decide +kernel
theorem dX0_isAsOther_74 : decode cX0_isAsOther 74 = .ok (.iconst 0, 1) := by decide +kernel
theorem dX0_isAsOther_75 : decode cX0_isAsOther 75 = .ok (.ireturn, 1) := by decide +kernel
theorem dX0_isAsOther_76 : decode cX0_isAsOther 76 = .ok (.iinc 2 1, 3) := by decide +kernel
theorem dX0_isAsOther_79 : decode cX0_isAsOther 79 = .ok (.goto (-31), 3) := by decide +kernel
theorem dX0_isAsOther_82 : decode cX0_isAsOther 82 = .ok (.iconst 1, 1) := by decide +kernel
theorem dX0_isAsOther_83 : decode cX0_isAsOther 83 = .ok (.ireturn, 1) := by decide +kernel
theorem dX3_init_0 : decode cX3_init 0 = .ok (.aload_n 0, 1) := by decide +kernel
theorem dX3_init_1 : decode cX3_init 1 = .ok (.invokespecial 3, 3) := by decide +kernel
theorem dX3_init_4 : decode cX3_init 4 = .ok (.aload_n 0, 1) := by decide +kernel
theorem dX3_init_5 : decode cX3_init 5 = .ok (.sipush 4096, 3) := by decide +kernel
theorem dX3_init_8 : decode cX3_init 8 = .ok (.newarray .int, 2) := by decide +kernel
theorem dX3_init_10 : decode cX3_init 10 = .ok (.putfield 9, 3) := by decide +kernel
theorem dX3_init_13 : decode cX3_init 13 = .ok (.aload_n 0, 1) := by decide +kernel
theorem dX3_init_14 : decode cX3_init 14 = .ok (.iconst 1, 1) := by decide +kernel
theorem dX3_init_15 : decode cX3_init 15 = .ok (.putfield 13, 3) := by decide +kernel
theorem dX3_init_18 : decode cX3_init 18 = .ok (.aload_n 0, 1) := by decide +kernel
theorem dX3_init_19 : decode cX3_init 19 = .ok (.iconst 0, 1) := by decide +kernel
theorem dX3_init_20 : decode cX3_init 20 = .ok (.putfield 17, 3) := by decide +kernel
theorem dX3_init_23 : decode cX3_init 23 = .ok (.return_, 1) := by decide +kernel
theorem dX3_count_0 : decode cX3_count 0 = .ok (.aload_n 0, 1) := by decide +kernel
theorem dX3_count_1 : decode cX3_count 1 = .ok (.getfield 17, 3) := by decide +kernel
theorem dX3_count_4 : decode cX3_count 4 = .ok (.ireturn, 1) := by decide +kernel
set_option maxRecDepth 20000 in
theorem ggX3_forget_J7_fill_53178 : GoodIn wsX3_forget wsJ7_fill_53178 := goodIn_r _ [8] (by decide +kernel) (by decide +kernel)
set_option maxRecDepth 20000 in
theorem gX3_forget_J7_fill_53178 : GoodIn wsX3_forget (va_wsS RX3 21 yJ7_fill_53178 wsJ7_fill_53178) := goodIn_app (goodIn_of _ (by decide +kernel)) ggX3_forget_J7_fill_53178
theorem dX3_forget_0 : decode cX3_forget 0 = .ok (.aload_n 0, 1) := by decide +kernel
theorem dX3_forget_1 : decode cX3_forget 1 = .ok (.getfield 13, 3) := by decide +kernel
theorem dX3_forget_4 : decode cX3_forget 4 = .ok (.ldc 20, 2) := by decide +kernel
theorem dX3_forget_6 : decode cX3_forget 6 = .ok (.if_icmp .lt 16, 3) := by decide +kernel
theorem dX3_forget_9 : decode cX3_forget 9 = .ok (.aload_n 0, 1) := by decide +kernel
theorem dX3_forget_10 : decode cX3_forget 10 = .ok (.getfield 9, 3) := by decide +kernel
theorem dX3_forget_13 : decode cX3_forget 13 = .ok (.iconst 0, 1) := by decide +kernel
theorem dX3_forget_14 : decode cX3_forget 14 = .ok (.invokestatic 21, 3) := by decide +kernel
theorem dX3_forget_17 : decode cX3_forget 17 = .ok (.aload_n 0, 1) := by decide +kernel
theorem dX3_forget_18 : decode cX3_forget 18 = .ok (.iconst 0, 1) := by decide +kernel
theorem dX3_forget_19 : decode cX3_forget 19 = .ok (.putfield 13, 3) := by decide +kernel
theorem dX3_forget_22 : decode cX3_forget 22 = .ok (.aload_n 0, 1) := by decide +kernel
theorem dX3_forget_23 : decode cX3_forget 23 = .ok (.dup, 1) := by decide +kernel
theorem dX3_forget_24 : decode cX3_forget 24 = .ok (.getfield 13, 3) := by decide +kernel
theorem dX3_forget_27 : decode cX3_forget 27 = .ok (.iconst 1, 1) := by decide +kernel
theorem dX3_forget_28 : decode cX3_forget 28 = .ok (.iadd, 1) := by decide +kernel
theorem dX3_forget_29 : decode cX3_forget 29 = .ok (.putfield 13, 3) := by decide +kernel
theorem dX3_forget_32 : decode cX3_forget 32 = .ok (.aload_n 0, 1) := by decide +kernel
theorem dX3_forget_33 : decode cX3_forget 33 = .ok (.iconst 0, 1) := by decide +kernel
theorem dX3_forget_34 : decode cX3_forget 34 = .ok (.putfield 17, 3) := by decide +kernel
theorem dX3_forget_37 : decode cX3_forget 37 = .ok (.return_, 1) := by decide +kernel
theorem dX3_numberOf_0 : decode cX3_numberOf 0 = .ok (.iload_n 1, 1) := by decide +kernel
theorem dX3_numberOf_1 : decode cX3_numberOf 1 = .ok (.ifCond .lt 19, 3) := by decide +kernel
theorem dX3_numberOf_4 : decode cX3_numberOf 4 = .ok (.iload_n 1, 1) := by decide +kernel
theorem dX3_numberOf_5 : decode cX3_numberOf 5 = .ok (.bipush 64, 2) := by decide +kernel
theorem dX3_numberOf_7 : decode cX3_numberOf 7 = .ok (.if_icmp .ge 13, 3) := by decide +kernel
theorem dX3_numberOf_10 : decode cX3_numberOf 10 = .ok (.iload_n 2, 1) := by decide +kernel
theorem dX3_numberOf_11 : decode cX3_numberOf 11 = .ok (.ifCond .lt 9, 3) := by decide +kernel
theorem dX3_numberOf_14 : decode cX3_numberOf 14 = .ok (.iload_n 2, 1) := by decide +kernel
theorem dX3_numberOf_15 : decode cX3_numberOf 15 = .ok (.bipush 64, 2) := by decide +kernel
theorem dX3_numberOf_17 : decode cX3_numberOf 17 = .ok (.if_icmp .lt 5, 3) := by decide +kernel
theorem dX3_numberOf_20 : decode cX3_numberOf 20 = .ok (.iconst 0, 1) := by decide +kernel
theorem dX3_numberOf_21 : decode cX3_numberOf 21 = .ok (.ireturn, 1) := by decide +kernel
theorem dX3_numberOf_22 : decode cX3_numberOf 22 = .ok (.iload_n 1, 1) := by decide +kernel
theorem dX3_numberOf_23 : decode cX3_numberOf 23 = .ok (.bipush 64, 2) := by decide +kernel
theorem dX3_numberOf_25 : decode cX3_numberOf 25 = .ok (.imul, 1) := by decide +kernel
theorem dX3_numberOf_26 : decode cX3_numberOf 26 = .ok (.iload_n 2, 1) := by decide +kernel
theorem dX3_numberOf_27 : decode cX3_numberOf 27 = .ok (.iadd, 1) := by decide +kernel
theorem dX3_numberOf_28 : decode cX3_numberOf 28 = .ok (.istore_n 3, 1) := by decide +kernel
theorem dX3_numberOf_29 : decode cX3_numberOf 29 = .ok (.aload_n 0, 1) := by decide +kernel
theorem dX3_numberOf_30 : decode cX3_numberOf 30 = .ok (.getfield 9, 3) := by decide +kernel
theorem dX3_numberOf_33 : decode cX3_numberOf 33 = .ok (.iload_n 3, 1) := by decide +kernel
theorem dX3_numberOf_34 : decode cX3_numberOf 34 = .ok (.iaload, 1) := by decide +kernel
theorem dX3_numberOf_35 : decode cX3_numberOf 35 = .ok (.bipush 12, 2) := by decide +kernel
theorem dX3_numberOf_37 : decode cX3_numberOf 37 = .ok (.ishr, 1) := by decide +kernel
theorem dX3_numberOf_38 : decode cX3_numberOf 38 = .ok (.aload_n 0, 1) := by decide +kernel
theorem dX3_numberOf_39 : decode cX3_numberOf 39 = .ok (.getfield 13, 3) := by decide +kernel
theorem dX3_numberOf_42 : decode cX3_numberOf 42 = .ok (.if_icmp .eq 31, 3) := by decide +kernel
theorem dX3_numberOf_45 : decode cX3_numberOf 45 = .ok (.aload_n 0, 1) := by decide +kernel
theorem dX3_numberOf_46 : decode cX3_numberOf 46 = .ok (.getfield 9, 3) := by decide +kernel
theorem dX3_numberOf_49 : decode cX3_numberOf 49 = .ok (.iload_n 3, 1) := by decide +kernel
theorem dX3_numberOf_50 : decode cX3_numberOf 50 = .ok (.aload_n 0, 1) := by decide +kernel
theorem dX3_numberOf_51 : decode cX3_numberOf 51 = .ok (.getfield 13, 3) := by decide +kernel
theorem dX3_numberOf_54 : decode cX3_numberOf 54 = .ok (.bipush 12, 2) := by decide +kernel
theorem dX3_numberOf_56 : decode cX3_numberOf 56 = .ok (.ishl, 1) := by decide +kernel
theorem dX3_numberOf_57 : decode cX3_numberOf 57 = .ok (.aload_n 0, 1) := by decide +kernel
theorem dX3_numberOf_58 : decode cX3_numberOf 58 = .ok (.getfield 17, 3) := by decide +kernel
theorem dX3_numberOf_61 : decode cX3_numberOf 61 = .ok (.ior, 1) := by decide +kernel
theorem dX3_numberOf_62 : decode cX3_numberOf 62 = .ok (.iastore, 1) := by decide +kernel
theorem dX3_numberOf_63 : decode cX3_numberOf 63 = .ok (.aload_n 0, 1) := by decide +kernel
theorem dX3_numberOf_64 : decode cX3_numberOf 64 = .ok (.dup, 1) := by decide +kernel
theorem dX3_numberOf_65 : decode cX3_numberOf 65 = .ok (.getfield 17, 3) := by decide +kernel
theorem dX3_numberOf_68 : decode cX3_numberOf 68 = .ok (.iconst 1, 1) := by decide +kernel
theorem dX3_numberOf_69 : decode cX3_numberOf 69 = .ok (.iadd, 1) := by decide +kernel
theorem dX3_numberOf_70 : decode cX3_numberOf 70 = .ok (.putfield 17, 3) := by decide +kernel
theorem dX3_numberOf_73 : decode cX3_numberOf 73 = .ok (.aload_n 0, 1) := by decide +kernel
theorem dX3_numberOf_74 : decode cX3_numberOf 74 = .ok (.getfield 9, 3) := by decide +kernel
theorem dX3_numberOf_77 : decode cX3_numberOf 77 = .ok (.iload_n 3, 1) := by decide +kernel
theorem dX3_numberOf_78 : decode cX3_numberOf 78 = .ok (.iaload, 1) := by decide +kernel
theorem dX3_numberOf_79 : decode cX3_numberOf 79 = .ok (.sipush 4095, 3) := by decide +kernel
theorem dX3_numberOf_82 : decode cX3_numberOf 82 = .ok (.iand, 1) := by decide +kernel
theorem dX3_numberOf_83 : decode cX3_numberOf 83 = .ok (.ireturn, 1) := by decide +kernel
theorem dX7_init_0 : decode cX7_init 0 = .ok (.aload_n 0, 1) := by decide +kernel
theorem dX7_init_1 : decode cX7_init 1 = .ok (.invokespecial 5, 3) := by decide +kernel
theorem dX7_init_4 : decode cX7_init 4 = .ok (.aload_n 0, 1) := by decide +kernel
theorem dX7_init_5 : decode cX7_init 5 = .ok (.sipush 300, 3) := by decide +kernel
theorem dX7_init_8 : decode cX7_init 8 = .ok (.newarray .long, 2) := by decide +kernel
theorem dX7_init_10 : decode cX7_init 10 = .ok (.putfield 11, 3) := by decide +kernel
theorem dX7_init_13 : decode cX7_init 13 = .ok (.aload_n 0, 1) := by decide +kernel
theorem dX7_init_14 : decode cX7_init 14 = .ok (.sipush 1024, 3) := by decide +kernel
theorem dX7_init_17 : decode cX7_init 17 = .ok (.newarray .int, 2) := by decide +kernel
theorem dX7_init_19 : decode cX7_init 19 = .ok (.putfield 15, 3) := by decide +kernel
theorem dX7_init_22 : decode cX7_init 22 = .ok (.aload_n 0, 1) := by decide +kernel
theorem dX7_init_23 : decode cX7_init 23 = .ok (.iconst 0, 1) := by decide +kernel
theorem dX7_init_24 : decode cX7_init 24 = .ok (.putfield 19, 3) := by decide +kernel
theorem dX7_init_27 : decode cX7_init 27 = .ok (.return_, 1) := by decide +kernel
theorem dX7_setOf_0 : decode cX7_setOf 0 = .ok (.iload_n 1, 1) := by decide +kernel
theorem dX7_setOf_1 : decode cX7_setOf 1 = .ok (.ifCond .lt 20, 3) := by decide +kernel
theorem dX7_setOf_4 : decode cX7_setOf 4 = .ok (.iload_n 1, 1) := by decide +kernel
theorem dX7_setOf_5 : decode cX7_setOf 5 = .ok (.aload_n 0, 1) := by decide +kernel
theorem dX7_setOf_6 : decode cX7_setOf 6 = .ok (.getfield 19, 3) := by decide +kernel
theorem dX7_setOf_9 : decode cX7_setOf 9 = .ok (.if_icmp .ge 12, 3) := by decide +kernel
theorem dX7_setOf_12 : decode cX7_setOf 12 = .ok (.aload_n 0, 1) := by decide +kernel
theorem dX7_setOf_13 : decode cX7_setOf 13 = .ok (.getfield 11, 3) := by decide +kernel
theorem dX7_setOf_16 : decode cX7_setOf 16 = .ok (.iload_n 1, 1) := by decide +kernel
theorem dX7_setOf_17 : decode cX7_setOf 17 = .ok (.laload, 1) := by decide +kernel
theorem dX7_setOf_18 : decode cX7_setOf 18 = .ok (.goto 4, 3) := by decide +kernel
theorem dX7_setOf_21 : decode cX7_setOf 21 = .ok (.lconst 0, 1) := by decide +kernel
theorem dX7_setOf_22 : decode cX7_setOf 22 = .ok (.lreturn, 1) := by decide +kernel
set_option maxRecDepth 20000 in
theorem ggX7_forget_J7_fill_53178 : GoodIn wsX7_forget wsJ7_fill_53178 := goodIn_r _ [6] (by decide +kernel) (by decide +kernel)
set_option maxRecDepth 20000 in
theorem gX7_forget_J7_fill_53178 : GoodIn wsX7_forget (va_wsS RX7 23 yJ7_fill_53178 wsJ7_fill_53178) := goodIn_app (goodIn_of _ (by decide +kernel)) ggX7_forget_J7_fill_53178
theorem dX7_forget_0 : decode cX7_forget 0 = .ok (.aload_n 0, 1) := by decide +kernel
theorem dX7_forget_1 : decode cX7_forget 1 = .ok (.getfield 15, 3) := by decide +kernel
theorem dX7_forget_4 : decode cX7_forget 4 = .ok (.iconst 0, 1) := by decide +kernel
theorem dX7_forget_5 : decode cX7_forget 5 = .ok (.invokestatic 23, 3) := by decide +kernel
theorem dX7_forget_8 : decode cX7_forget 8 = .ok (.aload_n 0, 1) := by decide +kernel
theorem dX7_forget_9 : decode cX7_forget 9 = .ok (.iconst 0, 1) := by decide +kernel
theorem dX7_forget_10 : decode cX7_forget 10 = .ok (.putfield 19, 3) := by decide +kernel
theorem dX7_forget_13 : decode cX7_forget 13 = .ok (.return_, 1) := by decide +kernel
set_option maxRecDepth 20000 in
theorem ggX7_numberOf_X7_add : GoodIn wsX7_numberOf wsX7_add := goodIn_r _ [7, 8, 9, 2, 14, 15, 16] (by decide +kernel) (by decide +kernel)
set_option maxRecDepth 20000 in
theorem gX7_numberOf_X7_add : GoodIn wsX7_numberOf (wsV RX7 31 RX7 yX7_add wsX7_add) := goodIn_app (goodIn_of _ (by decide +kernel)) ggX7_numberOf_X7_add
set_option maxRecDepth 20000 in
theorem ggX7_numberOf_X7_setOf : GoodIn wsX7_numberOf wsX7_setOf := goodIn_r _ [13, 8, 9, 14, 15, 16] (by decide +kernel) (by decide +kernel)
set_option maxRecDepth 20000 in
theorem gX7_numberOf_X7_setOf : GoodIn wsX7_numberOf (wsV RX7 35 RX7 yX7_setOf wsX7_setOf) := goodIn_app (goodIn_of _ (by decide +kernel)) ggX7_numberOf_X7_setOf
theorem dX7_numberOf_0 : decode cX7_numberOf 0 = .ok (.lload_n 1, 1) := by decide +kernel
theorem dX7_numberOf_1 : decode cX7_numberOf 1 = .ok (.ldc2_w 29, 3) := by decide +kernel
theorem dX7_numberOf_4 : decode cX7_numberOf 4 = .ok (.lmul, 1) := by decide +kernel
theorem dX7_numberOf_5 : decode cX7_numberOf 5 = .ok (.bipush 54, 2) := by decide +kernel
theorem dX7_numberOf_7 : decode cX7_numberOf 7 = .ok (.lushr, 1) := by decide +kernel
theorem dX7_numberOf_8 : decode cX7_numberOf 8 = .ok (.l2i, 1) := by decide +kernel
theorem dX7_numberOf_9 : decode cX7_numberOf 9 = .ok (.istore_n 3, 1) := by decide +kernel
theorem dX7_numberOf_10 : decode cX7_numberOf 10 = .ok (.iconst 0, 1) := by decide +kernel
theorem dX7_numberOf_11 : decode cX7_numberOf 11 = .ok (.istore 4, 2) := by decide +kernel
theorem dX7_numberOf_13 : decode cX7_numberOf 13 = .ok (.iload 4, 2) := by decide +kernel
theorem dX7_numberOf_15 : decode cX7_numberOf 15 = .ok (.sipush 1024, 3) := by decide +kernel
theorem dX7_numberOf_18 : decode cX7_numberOf 18 = .ok (.if_icmp .ge 59, 3) := by decide +kernel
theorem dX7_numberOf_21 : decode cX7_numberOf 21 = .ok (.aload_n 0, 1) := by decide +kernel
theorem dX7_numberOf_22 : decode cX7_numberOf 22 = .ok (.getfield 15, 3) := by decide +kernel
theorem dX7_numberOf_25 : decode cX7_numberOf 25 = .ok (.iload_n 3, 1) := by decide +kernel
theorem dX7_numberOf_26 : decode cX7_numberOf 26 = .ok (.iaload, 1) := by decide +kernel
theorem dX7_numberOf_27 : decode cX7_numberOf 27 = .ok (.ifCond .ne 10, 3) := by decide +kernel
theorem dX7_numberOf_30 : decode cX7_numberOf 30 = .ok (.aload_n 0, 1) := by decide +kernel
theorem dX7_numberOf_31 : decode cX7_numberOf 31 = .ok (.lload_n 1, 1) := by decide +kernel
theorem dX7_numberOf_32 : decode cX7_numberOf 32 = .ok (.iload_n 3, 1) := by decide +kernel
theorem dX7_numberOf_33 : decode cX7_numberOf 33 = .ok (.invokevirtual 31, 3) := by decide +kernel
theorem dX7_numberOf_36 : decode cX7_numberOf 36 = .ok (.ireturn, 1) := by decide +kernel
theorem dX7_numberOf_37 : decode cX7_numberOf 37 = .ok (.aload_n 0, 1) := by decide +kernel
theorem dX7_numberOf_38 : decode cX7_numberOf 38 = .ok (.aload_n 0, 1) := by decide +kernel
theorem dX7_numberOf_39 : decode cX7_numberOf 39 = .ok (.getfield 15, 3) := by decide +kernel
theorem dX7_numberOf_42 : decode cX7_numberOf 42 = .ok (.iload_n 3, 1) := by decide +kernel
theorem dX7_numberOf_43 : decode cX7_numberOf 43 = .ok (.iaload, 1) := by decide +kernel
theorem dX7_numberOf_44 : decode cX7_numberOf 44 = .ok (.iconst 1, 1) := by decide +kernel
theorem dX7_numberOf_45 : decode cX7_numberOf 45 = .ok (.isub, 1) := by decide +kernel
theorem dX7_numberOf_46 : decode cX7_numberOf 46 = .ok (.invokevirtual 35, 3) := by decide +kernel
theorem dX7_numberOf_49 : decode cX7_numberOf 49 = .ok (.lload_n 1, 1) := by decide +kernel
theorem dX7_numberOf_50 : decode cX7_numberOf 50 = .ok (.lcmp, 1) := by decide +kernel
theorem dX7_numberOf_51 : decode cX7_numberOf 51 = .ok (.ifCond .ne 12, 3) := by decide +kernel
theorem dX7_numberOf_54 : decode cX7_numberOf 54 = .ok (.aload_n 0, 1) := by decide +kernel
theorem dX7_numberOf_55 : decode cX7_numberOf 55 = .ok (.getfield 15, 3) := by decide +kernel
theorem dX7_numberOf_58 : decode cX7_numberOf 58 = .ok (.iload_n 3, 1) := by decide +kernel
theorem dX7_numberOf_59 : decode cX7_numberOf 59 = .ok (.iaload, 1) := by decide +kernel
theorem dX7_numberOf_60 : decode cX7_numberOf 60 = .ok (.iconst 1, 1) := by decide +kernel
theorem dX7_numberOf_61 : decode cX7_numberOf 61 = .ok (.isub, 1) := by decide +kernel
theorem dX7_numberOf_62 : decode cX7_numberOf 62 = .ok (.ireturn, 1) := by decide +kernel
theorem dX7_numberOf_63 : decode cX7_numberOf 63 = .ok (.iload_n 3, 1) := by decide +kernel
theorem dX7_numberOf_64 : decode cX7_numberOf 64 = .ok (.iconst 1, 1) := by decide +kernel
theorem dX7_numberOf_65 : decode cX7_numberOf 65 = .ok (.iadd, 1) := by decide +kernel
theorem dX7_numberOf_66 : decode cX7_numberOf 66 = .ok (.sipush 1023, 3) := by decide +kernel
theorem dX7_numberOf_69 : decode cX7_numberOf 69 = .ok (.iand, 1) := by decide +kernel
theorem dX7_numberOf_70 : decode cX7_numberOf 70 = .ok (.istore_n 3, 1) := by decide +kernel
theorem dX7_numberOf_71 : decode cX7_numberOf 71 = .ok (.iinc 4 1, 3) := by decide +kernel
theorem dX7_numberOf_74 : decode cX7_numberOf 74 = .ok (.goto (-61), 3) := by decide +kernel
theorem dX7_numberOf_77 : decode cX7_numberOf 77 = .ok (.bipush (-6), 2) := by decide +kernel
theorem dX7_numberOf_79 : decode cX7_numberOf 79 = .ok (.ireturn, 1) := by decide +kernel
theorem dX7_add_0 : decode cX7_add 0 = .ok (.aload_n 0, 1) := by decide +kernel
theorem dX7_add_1 : decode cX7_add 1 = .ok (.getfield 19, 3) := by decide +kernel
theorem dX7_add_4 : decode cX7_add 4 = .ok (.sipush 300, 3) := by decide +kernel
theorem dX7_add_7 : decode cX7_add 7 = .ok (.if_icmp .ge 14, 3) := by decide +kernel
theorem dX7_add_10 : decode cX7_add 10 = .ok (.iload_n 3, 1) := by decide +kernel
theorem dX7_add_11 : decode cX7_add 11 = .ok (.ifCond .lt 10, 3) := by decide +kernel
theorem dX7_add_14 : decode cX7_add 14 = .ok (.iload_n 3, 1) := by decide +kernel
theorem dX7_add_15 : decode cX7_add 15 = .ok (.sipush 1024, 3) := by decide +kernel
theorem dX7_add_18 : decode cX7_add 18 = .ok (.if_icmp .lt 6, 3) := by decide +kernel
theorem dX7_add_21 : decode cX7_add 21 = .ok (.bipush (-6), 2) := by decide +kernel
theorem dX7_add_23 : decode cX7_add 23 = .ok (.ireturn, 1) := by decide +kernel
theorem dX7_add_24 : decode cX7_add 24 = .ok (.aload_n 0, 1) := by decide +kernel
theorem dX7_add_25 : decode cX7_add 25 = .ok (.getfield 11, 3) := by decide +kernel
theorem dX7_add_28 : decode cX7_add 28 = .ok (.aload_n 0, 1) := by decide +kernel
theorem dX7_add_29 : decode cX7_add 29 = .ok (.getfield 19, 3) := by decide +kernel
theorem dX7_add_32 : decode cX7_add 32 = .ok (.lload_n 1, 1) := by decide +kernel
theorem dX7_add_33 : decode cX7_add 33 = .ok (.lastore, 1) := by decide +kernel
theorem dX7_add_34 : decode cX7_add 34 = .ok (.aload_n 0, 1) := by decide +kernel
theorem dX7_add_35 : decode cX7_add 35 = .ok (.dup, 1) := by decide +kernel
theorem dX7_add_36 : decode cX7_add 36 = .ok (.getfield 19, 3) := by decide +kernel
theorem dX7_add_39 : decode cX7_add 39 = .ok (.iconst 1, 1) := by decide +kernel
theorem dX7_add_40 : decode cX7_add 40 = .ok (.iadd, 1) := by decide +kernel
theorem dX7_add_41 : decode cX7_add 41 = .ok (.putfield 19, 3) := by decide +kernel
theorem dX7_add_44 : decode cX7_add 44 = .ok (.aload_n 0, 1) := by decide +kernel
theorem dX7_add_45 : decode cX7_add 45 = .ok (.getfield 15, 3) := by decide +kernel
theorem dX7_add_48 : decode cX7_add 48 = .ok (.iload_n 3, 1) := by decide +kernel
theorem dX7_add_49 : decode cX7_add 49 = .ok (.aload_n 0, 1) := by decide +kernel
theorem dX7_add_50 : decode cX7_add 50 = .ok (.getfield 19, 3) := by decide +kernel
theorem dX7_add_53 : decode cX7_add 53 = .ok (.iastore, 1) := by decide +kernel
theorem dX7_add_54 : decode cX7_add 54 = .ok (.aload_n 0, 1) := by decide +kernel
theorem dX7_add_55 : decode cX7_add 55 = .ok (.getfield 19, 3) := by decide +kernel
theorem dX7_add_58 : decode cX7_add 58 = .ok (.iconst 1, 1) := by decide +kernel
theorem dX7_add_59 : decode cX7_add 59 = .ok (.isub, 1) := by decide +kernel
theorem dX7_add_60 : decode cX7_add 60 = .ok (.ireturn, 1) := by decide +kernel
theorem dX5_init_0 : decode cX5_init 0 = .ok (.aload_n 0, 1) := by decide +kernel
theorem dX5_init_1 : decode cX5_init 1 = .ok (.invokespecial 3, 3) := by decide +kernel
theorem dX5_init_4 : decode cX5_init 4 = .ok (.aload_n 0, 1) := by decide +kernel
theorem dX5_init_5 : decode cX5_init 5 = .ok (.bipush 10, 2) := by decide +kernel
theorem dX5_init_7 : decode cX5_init 7 = .ok (.newarray .int, 2) := by decide +kernel
theorem dX5_init_9 : decode cX5_init 9 = .ok (.putfield 9, 3) := by decide +kernel
theorem dX5_init_12 : decode cX5_init 12 = .ok (.aload_n 0, 1) := by decide +kernel
theorem dX5_init_13 : decode cX5_init 13 = .ok (.iconst 5, 1) := by decide +kernel
theorem dX5_init_14 : decode cX5_init 14 = .ok (.newarray .int, 2) := by decide +kernel
theorem dX5_init_16 : decode cX5_init 16 = .ok (.putfield 15, 3) := by decide +kernel
theorem dX5_init_19 : decode cX5_init 19 = .ok (.return_, 1) := by decide +kernel
set_option maxRecDepth 20000 in
theorem ggX5_put_X9_isPlace : GoodIn wsX5_put wsX9_isPlace := goodIn_r _ [5] (by decide +kernel) (by decide +kernel)
set_option maxRecDepth 20000 in
theorem gX5_put_X9_isPlace_n18 : GoodIn wsX5_put (wsX9_isPlace) := ggX5_put_X9_isPlace
theorem dX5_put_0 : decode cX5_put 0 = .ok (.iload_n 1, 1) := by decide +kernel
theorem dX5_put_1 : decode cX5_put 1 = .ok (.invokestatic 18, 3) := by decide +kernel
theorem dX5_put_4 : decode cX5_put 4 = .ok (.ifCond .ne 4, 3) := by decide +kernel
theorem dX5_put_7 : decode cX5_put 7 = .ok (.return_, 1) := by decide +kernel
theorem dX5_put_8 : decode cX5_put 8 = .ok (.aload_n 0, 1) := by decide +kernel
theorem dX5_put_9 : decode cX5_put 9 = .ok (.getfield 9, 3) := by decide +kernel
theorem dX5_put_12 : decode cX5_put 12 = .ok (.iload_n 1, 1) := by decide +kernel
theorem dX5_put_13 : decode cX5_put 13 = .ok (.iconst 2, 1) := by decide +kernel
theorem dX5_put_14 : decode cX5_put 14 = .ok (.imul, 1) := by decide +kernel
theorem dX5_put_15 : decode cX5_put 15 = .ok (.iload_n 2, 1) := by decide +kernel
theorem dX5_put_16 : decode cX5_put 16 = .ok (.iastore, 1) := by decide +kernel
theorem dX5_put_17 : decode cX5_put 17 = .ok (.aload_n 0, 1) := by decide +kernel
theorem dX5_put_18 : decode cX5_put 18 = .ok (.getfield 9, 3) := by decide +kernel
theorem dX5_put_21 : decode cX5_put 21 = .ok (.iload_n 1, 1) := by decide +kernel
theorem dX5_put_22 : decode cX5_put 22 = .ok (.iconst 2, 1) := by decide +kernel
theorem dX5_put_23 : decode cX5_put 23 = .ok (.imul, 1) := by decide +kernel
theorem dX5_put_24 : decode cX5_put 24 = .ok (.iconst 1, 1) := by decide +kernel
theorem dX5_put_25 : decode cX5_put 25 = .ok (.iadd, 1) := by decide +kernel
theorem dX5_put_26 : decode cX5_put 26 = .ok (.iload_n 3, 1) := by decide +kernel
theorem dX5_put_27 : decode cX5_put 27 = .ok (.iastore, 1) := by decide +kernel
theorem dX5_put_28 : decode cX5_put 28 = .ok (.aload_n 0, 1) := by decide +kernel
theorem dX5_put_29 : decode cX5_put 29 = .ok (.getfield 15, 3) := by decide +kernel
theorem dX5_put_32 : decode cX5_put 32 = .ok (.iload_n 1, 1) := by decide +kernel
theorem dX5_put_33 : decode cX5_put 33 = .ok (.iload 4, 2) := by decide +kernel
theorem dX5_put_35 : decode cX5_put 35 = .ok (.iastore, 1) := by decide +kernel
theorem dX5_put_36 : decode cX5_put 36 = .ok (.return_, 1) := by decide +kernel
set_option maxRecDepth 20000 in
theorem ggX5_goesOn_X9_isPlace : GoodIn wsX5_goesOn wsX9_isPlace := goodIn_r _ [4] (by decide +kernel) (by decide +kernel)
set_option maxRecDepth 20000 in
theorem gX5_goesOn_X9_isPlace_n18 : GoodIn wsX5_goesOn (wsX9_isPlace) := ggX5_goesOn_X9_isPlace
theorem dX5_goesOn_0 : decode cX5_goesOn 0 = .ok (.iload_n 1, 1) := by decide +kernel
theorem dX5_goesOn_1 : decode cX5_goesOn 1 = .ok (.invokestatic 18, 3) := by decide +kernel
theorem dX5_goesOn_4 : decode cX5_goesOn 4 = .ok (.ifCond .eq 25, 3) := by decide +kernel
theorem dX5_goesOn_7 : decode cX5_goesOn 7 = .ok (.iload_n 2, 1) := by decide +kernel
theorem dX5_goesOn_8 : decode cX5_goesOn 8 = .ok (.ifCond .eq 8, 3) := by decide +kernel
theorem dX5_goesOn_11 : decode cX5_goesOn 11 = .ok (.iload_n 2, 1) := by decide +kernel
theorem dX5_goesOn_12 : decode cX5_goesOn 12 = .ok (.iconst 1, 1) := by decide +kernel
theorem dX5_goesOn_13 : decode cX5_goesOn 13 = .ok (.if_icmp .ne 16, 3) := by decide +kernel
theorem dX5_goesOn_16 : decode cX5_goesOn 16 = .ok (.aload_n 0, 1) := by decide +kernel
theorem dX5_goesOn_17 : decode cX5_goesOn 17 = .ok (.getfield 9, 3) := by decide +kernel
theorem dX5_goesOn_20 : decode cX5_goesOn 20 = .ok (.iload_n 1, 1) := by decide +kernel
theorem dX5_goesOn_21 : decode cX5_goesOn 21 = .ok (.iconst 2, 1) := by decide +kernel
theorem dX5_goesOn_22 : decode cX5_goesOn 22 = .ok (.imul, 1) := by decide +kernel
theorem dX5_goesOn_23 : decode cX5_goesOn 23 = .ok (.iload_n 2, 1) := by decide +kernel
theorem dX5_goesOn_24 : decode cX5_goesOn 24 = .ok (.iadd, 1) := by decide +kernel
theorem dX5_goesOn_25 : decode cX5_goesOn 25 = .ok (.iaload, 1) := by decide +kernel
theorem dX5_goesOn_26 : decode cX5_goesOn 26 = .ok (.goto 4, 3) := by decide +kernel
theorem dX5_goesOn_29 : decode cX5_goesOn 29 = .ok (.iconst 0, 1) := by decide +kernel
theorem dX5_goesOn_30 : decode cX5_goesOn 30 = .ok (.ireturn, 1) := by decide +kernel
set_option maxRecDepth 20000 in
theorem ggX5_toldAt_X9_isPlace : GoodIn wsX5_toldAt wsX9_isPlace := goodIn_r _ [4] (by decide +kernel) (by decide +kernel)
set_option maxRecDepth 20000 in
theorem gX5_toldAt_X9_isPlace_n18 : GoodIn wsX5_toldAt (wsX9_isPlace) := ggX5_toldAt_X9_isPlace
theorem dX5_toldAt_0 : decode cX5_toldAt 0 = .ok (.iload_n 1, 1) := by decide +kernel
theorem dX5_toldAt_1 : decode cX5_toldAt 1 = .ok (.invokestatic 18, 3) := by decide +kernel
theorem dX5_toldAt_4 : decode cX5_toldAt 4 = .ok (.ifCond .eq 12, 3) := by decide +kernel
theorem dX5_toldAt_7 : decode cX5_toldAt 7 = .ok (.aload_n 0, 1) := by decide +kernel
theorem dX5_toldAt_8 : decode cX5_toldAt 8 = .ok (.getfield 15, 3) := by decide +kernel
theorem dX5_toldAt_11 : decode cX5_toldAt 11 = .ok (.iload_n 1, 1) := by decide +kernel
theorem dX5_toldAt_12 : decode cX5_toldAt 12 = .ok (.iaload, 1) := by decide +kernel
theorem dX5_toldAt_13 : decode cX5_toldAt 13 = .ok (.goto 4, 3) := by decide +kernel
theorem dX5_toldAt_16 : decode cX5_toldAt 16 = .ok (.iconst 0, 1) := by decide +kernel
theorem dX5_toldAt_17 : decode cX5_toldAt 17 = .ok (.ireturn, 1) := by decide +kernel
set_option maxRecDepth 20000 in
theorem ggX5_toldOf_X5_goesOn : GoodIn wsX5_toldOf wsX5_goesOn := goodIn_r _ [5, 6, 7, 8, 9, 15, 16] (by decide +kernel) (by decide +kernel)
set_option maxRecDepth 20000 in
theorem gX5_toldOf_X5_goesOn : GoodIn wsX5_toldOf (wsV RX5 22 RX5 yX5_goesOn wsX5_goesOn) := goodIn_app (goodIn_of _ (by decide +kernel)) ggX5_toldOf_X5_goesOn
set_option maxRecDepth 20000 in
theorem ggX5_toldOf_X5_toldAt : GoodIn wsX5_toldOf wsX5_toldAt := goodIn_r _ [13, 14, 7, 8, 9, 15, 16] (by decide +kernel) (by decide +kernel)
set_option maxRecDepth 20000 in
theorem gX5_toldOf_X5_toldAt : GoodIn wsX5_toldOf (wsV RX5 26 RX5 yX5_toldAt wsX5_toldAt) := goodIn_app (goodIn_of _ (by decide +kernel)) ggX5_toldOf_X5_toldAt
theorem dX5_toldOf_0 : decode cX5_toldOf 0 = .ok (.iconst 0, 1) := by decide +kernel
theorem dX5_toldOf_1 : decode cX5_toldOf 1 = .ok (.istore_n 2, 1) := by decide +kernel
theorem dX5_toldOf_2 : decode cX5_toldOf 2 = .ok (.bipush 29, 2) := by decide +kernel
theorem dX5_toldOf_4 : decode cX5_toldOf 4 = .ok (.istore_n 3, 1) := by decide +kernel
theorem dX5_toldOf_5 : decode cX5_toldOf 5 = .ok (.iload_n 3, 1) := by decide +kernel
theorem dX5_toldOf_6 : decode cX5_toldOf 6 = .ok (.ifCond .lt 20, 3) := by decide +kernel
theorem dX5_toldOf_9 : decode cX5_toldOf 9 = .ok (.aload_n 0, 1) := by decide +kernel
theorem dX5_toldOf_10 : decode cX5_toldOf 10 = .ok (.iload_n 2, 1) := by decide +kernel
theorem dX5_toldOf_11 : decode cX5_toldOf 11 = .ok (.iload_n 1, 1) := by decide +kernel
theorem dX5_toldOf_12 : decode cX5_toldOf 12 = .ok (.iload_n 3, 1) := by decide +kernel
theorem dX5_toldOf_13 : decode cX5_toldOf 13 = .ok (.ishr, 1) := by decide +kernel
theorem dX5_toldOf_14 : decode cX5_toldOf 14 = .ok (.iconst 1, 1) := by decide +kernel
theorem dX5_toldOf_15 : decode cX5_toldOf 15 = .ok (.iand, 1) := by decide +kernel
theorem dX5_toldOf_16 : decode cX5_toldOf 16 = .ok (.invokevirtual 22, 3) := by decide +kernel
theorem dX5_toldOf_19 : decode cX5_toldOf 19 = .ok (.istore_n 2, 1) := by decide +kernel
theorem dX5_toldOf_20 : decode cX5_toldOf 20 = .ok (.iinc 3 (-1), 3) := by decide +kernel
theorem dX5_toldOf_23 : decode cX5_toldOf 23 = .ok (.goto (-18), 3) := by decide +kernel
theorem dX5_toldOf_26 : decode cX5_toldOf 26 = .ok (.aload_n 0, 1) := by decide +kernel
theorem dX5_toldOf_27 : decode cX5_toldOf 27 = .ok (.iload_n 2, 1) := by decide +kernel
theorem dX5_toldOf_28 : decode cX5_toldOf 28 = .ok (.invokevirtual 26, 3) := by decide +kernel
theorem dX5_toldOf_31 : decode cX5_toldOf 31 = .ok (.ireturn, 1) := by decide +kernel
theorem dX8_init_0 : decode cX8_init 0 = .ok (.aload_n 0, 1) := by decide +kernel
theorem dX8_init_1 : decode cX8_init 1 = .ok (.invokespecial 3, 3) := by decide +kernel
theorem dX8_init_4 : decode cX8_init 4 = .ok (.aload_n 0, 1) := by decide +kernel
theorem dX8_init_5 : decode cX8_init 5 = .ok (.bipush 60, 2) := by decide +kernel
theorem dX8_init_7 : decode cX8_init 7 = .ok (.newarray .long, 2) := by decide +kernel
theorem dX8_init_9 : decode cX8_init 9 = .ok (.putfield 9, 3) := by decide +kernel
theorem dX8_init_12 : decode cX8_init 12 = .ok (.aload_n 0, 1) := by decide +kernel
theorem dX8_init_13 : decode cX8_init 13 = .ok (.bipush 60, 2) := by decide +kernel
theorem dX8_init_15 : decode cX8_init 15 = .ok (.newarray .long, 2) := by decide +kernel
theorem dX8_init_17 : decode cX8_init 17 = .ok (.putfield 15, 3) := by decide +kernel
theorem dX8_init_20 : decode cX8_init 20 = .ok (.aload_n 0, 1) := by decide +kernel
theorem dX8_init_21 : decode cX8_init 21 = .ok (.bipush 60, 2) := by decide +kernel
theorem dX8_init_23 : decode cX8_init 23 = .ok (.newarray .long, 2) := by decide +kernel
theorem dX8_init_25 : decode cX8_init 25 = .ok (.putfield 18, 3) := by decide +kernel
theorem dX8_init_28 : decode cX8_init 28 = .ok (.aload_n 0, 1) := by decide +kernel
theorem dX8_init_29 : decode cX8_init 29 = .ok (.bipush 60, 2) := by decide +kernel
theorem dX8_init_31 : decode cX8_init 31 = .ok (.newarray .int, 2) := by decide +kernel
theorem dX8_init_33 : decode cX8_init 33 = .ok (.putfield 21, 3) := by decide +kernel
theorem dX8_init_36 : decode cX8_init 36 = .ok (.return_, 1) := by decide +kernel
set_option maxRecDepth 20000 in
theorem ggX8_countBelow_X0_size : GoodIn wsX8_countBelow wsX0_size := goodIn_r _ [15, 16, 43, 44, 45] (by decide +kernel) (by decide +kernel)
set_option maxRecDepth 20000 in
theorem gX8_countBelow_X0_size : GoodIn wsX8_countBelow (wsV RX8 25 RX0 yX0_size wsX0_size) := goodIn_app (goodIn_of _ (by decide +kernel)) ggX8_countBelow_X0_size
set_option maxRecDepth 20000 in
theorem ggX8_countBelow_X0_saysAt : GoodIn wsX8_countBelow wsX0_saysAt := goodIn_r _ [20, 21, 22, 23, 24, 14, 25, 16, 43, 44, 45] (by decide +kernel) (by decide +kernel)
set_option maxRecDepth 20000 in
theorem gX8_countBelow_X0_saysAt : GoodIn wsX8_countBelow (wsV RX8 37 RX0 yX0_saysAt wsX0_saysAt) := goodIn_app (goodIn_of _ (by decide +kernel)) ggX8_countBelow_X0_saysAt
set_option maxRecDepth 20000 in
theorem ggX8_countBelow_X8_waysOn : GoodIn wsX8_countBelow wsX8_waysOn := goodIn_r _ [30, 5, 31, 32, 33, 14, 34, 35, 22, 23, 24, 25, 16, 36, 37, 38, 39, 40, 41, 42, 43, 44, 45] (by decide +kernel) (by decide +kernel)
set_option maxRecDepth 20000 in
theorem gX8_countBelow_X8_waysOn : GoodIn wsX8_countBelow (wsV RX8 41 RX8 yX8_waysOn wsX8_waysOn) := goodIn_app (goodIn_of _ (by decide +kernel)) ggX8_countBelow_X8_waysOn
theorem dX8_countBelow_0 : decode cX8_countBelow 0 = .ok (.aload_n 1, 1) := by decide +kernel
theorem dX8_countBelow_1 : decode cX8_countBelow 1 = .ok (.invokevirtual 25, 3) := by decide +kernel
theorem dX8_countBelow_4 : decode cX8_countBelow 4 = .ok (.bipush 60, 2) := by decide +kernel
theorem dX8_countBelow_6 : decode cX8_countBelow 6 = .ok (.invokestatic 31, 3) := by decide +kernel
theorem dX8_countBelow_9 : decode cX8_countBelow 9 = .ok (.istore_n 3, 1) := by decide +kernel
theorem dX8_countBelow_10 : decode cX8_countBelow 10 = .ok (.iconst 0, 1) := by decide +kernel
theorem dX8_countBelow_11 : decode cX8_countBelow 11 = .ok (.istore 4, 2) := by decide +kernel
theorem dX8_countBelow_13 : decode cX8_countBelow 13 = .ok (.iload 4, 2) := by decide +kernel
theorem dX8_countBelow_15 : decode cX8_countBelow 15 = .ok (.iload_n 3, 1) := by decide +kernel
theorem dX8_countBelow_16 : decode cX8_countBelow 16 = .ok (.if_icmp .ge 30, 3) := by decide +kernel
theorem dX8_countBelow_19 : decode cX8_countBelow 19 = .ok (.aload_n 0, 1) := by decide +kernel
theorem dX8_countBelow_20 : decode cX8_countBelow 20 = .ok (.getfield 9, 3) := by decide +kernel
theorem dX8_countBelow_23 : decode cX8_countBelow 23 = .ok (.iload 4, 2) := by decide +kernel
theorem dX8_countBelow_25 : decode cX8_countBelow 25 = .ok (.aload_n 1, 1) := by decide +kernel
theorem dX8_countBelow_26 : decode cX8_countBelow 26 = .ok (.iload 4, 2) := by decide +kernel
theorem dX8_countBelow_28 : decode cX8_countBelow 28 = .ok (.invokevirtual 37, 3) := by decide +kernel
theorem dX8_countBelow_31 : decode cX8_countBelow 31 = .ok (.ifCond .eq 7, 3) := by decide +kernel
theorem dX8_countBelow_34 : decode cX8_countBelow 34 = .ok (.lconst 1, 1) := by decide +kernel
theorem dX8_countBelow_35 : decode cX8_countBelow 35 = .ok (.goto 4, 3) := by decide +kernel
theorem dX8_countBelow_38 : decode cX8_countBelow 38 = .ok (.lconst 0, 1) := by decide +kernel
theorem dX8_countBelow_39 : decode cX8_countBelow 39 = .ok (.lastore, 1) := by decide +kernel
theorem dX8_countBelow_40 : decode cX8_countBelow 40 = .ok (.iinc 4 1, 3) := by decide +kernel
theorem dX8_countBelow_43 : decode cX8_countBelow 43 = .ok (.goto (-30), 3) := by decide +kernel
theorem dX8_countBelow_46 : decode cX8_countBelow 46 = .ok (.iconst 0, 1) := by decide +kernel
theorem dX8_countBelow_47 : decode cX8_countBelow 47 = .ok (.istore 4, 2) := by decide +kernel
theorem dX8_countBelow_49 : decode cX8_countBelow 49 = .ok (.iload 4, 2) := by decide +kernel
theorem dX8_countBelow_51 : decode cX8_countBelow 51 = .ok (.iload_n 2, 1) := by decide +kernel
theorem dX8_countBelow_52 : decode cX8_countBelow 52 = .ok (.if_icmp .ge 52, 3) := by decide +kernel
theorem dX8_countBelow_55 : decode cX8_countBelow 55 = .ok (.iconst 0, 1) := by decide +kernel
theorem dX8_countBelow_56 : decode cX8_countBelow 56 = .ok (.istore 5, 2) := by decide +kernel
theorem dX8_countBelow_58 : decode cX8_countBelow 58 = .ok (.iload 5, 2) := by decide +kernel
theorem dX8_countBelow_60 : decode cX8_countBelow 60 = .ok (.iload_n 3, 1) := by decide +kernel
theorem dX8_countBelow_61 : decode cX8_countBelow 61 = .ok (.if_icmp .ge 23, 3) := by decide +kernel
theorem dX8_countBelow_64 : decode cX8_countBelow 64 = .ok (.aload_n 0, 1) := by decide +kernel
theorem dX8_countBelow_65 : decode cX8_countBelow 65 = .ok (.getfield 15, 3) := by decide +kernel
theorem dX8_countBelow_68 : decode cX8_countBelow 68 = .ok (.iload 5, 2) := by decide +kernel
theorem dX8_countBelow_70 : decode cX8_countBelow 70 = .ok (.aload_n 0, 1) := by decide +kernel
theorem dX8_countBelow_71 : decode cX8_countBelow 71 = .ok (.aload_n 1, 1) := by decide +kernel
theorem dX8_countBelow_72 : decode cX8_countBelow 72 = .ok (.iload 5, 2) := by decide +kernel
theorem dX8_countBelow_74 : decode cX8_countBelow 74 = .ok (.invokevirtual 41, 3) := by decide +kernel
theorem dX8_countBelow_77 : decode cX8_countBelow 77 = .ok (.lastore, 1) := by decide +kernel
theorem dX8_countBelow_78 : decode cX8_countBelow 78 = .ok (.iinc 5 1, 3) := by decide +kernel
theorem dX8_countBelow_81 : decode cX8_countBelow 81 = .ok (.goto (-23), 3) := by decide +kernel
theorem dX8_countBelow_84 : decode cX8_countBelow 84 = .ok (.aload_n 0, 1) := by decide +kernel
theorem dX8_countBelow_85 : decode cX8_countBelow 85 = .ok (.getfield 15, 3) := by decide +kernel
theorem dX8_countBelow_88 : decode cX8_countBelow 88 = .ok (.iconst 0, 1) := by decide +kernel
theorem dX8_countBelow_89 : decode cX8_countBelow 89 = .ok (.aload_n 0, 1) := by decide +kernel
theorem dX8_countBelow_90 : decode cX8_countBelow 90 = .ok (.getfield 9, 3) := by decide +kernel
theorem dX8_countBelow_93 : decode cX8_countBelow 93 = .ok (.iconst 0, 1) := by decide +kernel
theorem dX8_countBelow_94 : decode cX8_countBelow 94 = .ok (.iload_n 3, 1) := by decide +kernel
theorem dX8_countBelow_95 : decode cX8_countBelow 95 = .ok (.invokestatic 45, 3) := by decide +kernel
theorem dX8_countBelow_98 : decode cX8_countBelow 98 = .ok (.iinc 4 1, 3) := by decide +kernel
theorem dX8_countBelow_101 : decode cX8_countBelow 101 = .ok (.goto (-52), 3) := by decide +kernel
theorem dX8_countBelow_104 : decode cX8_countBelow 104 = .ok (.aload_n 0, 1) := by decide +kernel
theorem dX8_countBelow_105 : decode cX8_countBelow 105 = .ok (.getfield 9, 3) := by decide +kernel
theorem dX8_countBelow_108 : decode cX8_countBelow 108 = .ok (.iconst 0, 1) := by decide +kernel
theorem dX8_countBelow_109 : decode cX8_countBelow 109 = .ok (.laload, 1) := by decide +kernel
theorem dX8_countBelow_110 : decode cX8_countBelow 110 = .ok (.lreturn, 1) := by decide +kernel
set_option maxRecDepth 20000 in
theorem ggX8_waysOn_X0_after : GoodIn wsX8_waysOn wsX0_after := goodIn_r _ [6, 7, 8, 9, 10, 5, 11, 12, 13, 14, 15, 20, 21, 22] (by decide +kernel) (by decide +kernel)
set_option maxRecDepth 20000 in
theorem gX8_waysOn_X0_after : GoodIn wsX8_waysOn (wsV RX8 51 RX0 yX0_after wsX0_after) := goodIn_app (goodIn_of _ (by decide +kernel)) ggX8_waysOn_X0_after
theorem dX8_waysOn_0 : decode cX8_waysOn 0 = .ok (.lconst 0, 1) := by decide +kernel
theorem dX8_waysOn_1 : decode cX8_waysOn 1 = .ok (.lstore_n 3, 1) := by decide +kernel
theorem dX8_waysOn_2 : decode cX8_waysOn 2 = .ok (.iconst 0, 1) := by decide +kernel
theorem dX8_waysOn_3 : decode cX8_waysOn 3 = .ok (.istore 5, 2) := by decide +kernel
theorem dX8_waysOn_5 : decode cX8_waysOn 5 = .ok (.iload 5, 2) := by decide +kernel
theorem dX8_waysOn_7 : decode cX8_waysOn 7 = .ok (.bipush 8, 2) := by decide +kernel
theorem dX8_waysOn_9 : decode cX8_waysOn 9 = .ok (.if_icmp .ge 40, 3) := by decide +kernel
theorem dX8_waysOn_12 : decode cX8_waysOn 12 = .ok (.aload_n 1, 1) := by decide +kernel
theorem dX8_waysOn_13 : decode cX8_waysOn 13 = .ok (.iload_n 2, 1) := by decide +kernel
theorem dX8_waysOn_14 : decode cX8_waysOn 14 = .ok (.iload 5, 2) := by decide +kernel
theorem dX8_waysOn_16 : decode cX8_waysOn 16 = .ok (.invokevirtual 51, 3) := by decide +kernel
theorem dX8_waysOn_19 : decode cX8_waysOn 19 = .ok (.istore 6, 2) := by decide +kernel
theorem dX8_waysOn_21 : decode cX8_waysOn 21 = .ok (.iload 6, 2) := by decide +kernel
theorem dX8_waysOn_23 : decode cX8_waysOn 23 = .ok (.ifCond .lt 20, 3) := by decide +kernel
theorem dX8_waysOn_26 : decode cX8_waysOn 26 = .ok (.iload 6, 2) := by decide +kernel
theorem dX8_waysOn_28 : decode cX8_waysOn 28 = .ok (.bipush 60, 2) := by decide +kernel
theorem dX8_waysOn_30 : decode cX8_waysOn 30 = .ok (.if_icmp .ge 13, 3) := by decide +kernel
theorem dX8_waysOn_33 : decode cX8_waysOn 33 = .ok (.lload_n 3, 1) := by decide +kernel
theorem dX8_waysOn_34 : decode cX8_waysOn 34 = .ok (.aload_n 0, 1) := by decide +kernel
theorem dX8_waysOn_35 : decode cX8_waysOn 35 = .ok (.getfield 9, 3) := by decide +kernel
theorem dX8_waysOn_38 : decode cX8_waysOn 38 = .ok (.iload 6, 2) := by decide +kernel
theorem dX8_waysOn_40 : decode cX8_waysOn 40 = .ok (.laload, 1) := by decide +kernel
theorem dX8_waysOn_41 : decode cX8_waysOn 41 = .ok (.ladd, 1) := by decide +kernel
theorem dX8_waysOn_42 : decode cX8_waysOn 42 = .ok (.lstore_n 3, 1) := by decide +kernel
theorem dX8_waysOn_43 : decode cX8_waysOn 43 = .ok (.iinc 5 1, 3) := by decide +kernel
theorem dX8_waysOn_46 : decode cX8_waysOn 46 = .ok (.goto (-41), 3) := by decide +kernel
theorem dX8_waysOn_49 : decode cX8_waysOn 49 = .ok (.lload_n 3, 1) := by decide +kernel
theorem dX8_waysOn_50 : decode cX8_waysOn 50 = .ok (.lreturn, 1) := by decide +kernel
set_option maxRecDepth 20000 in
theorem ggX8_leastOf_J7_fill_d0a16 : GoodIn wsX8_leastOf wsJ7_fill_d0a16 := goodIn_r _ [9] (by decide +kernel) (by decide +kernel)
set_option maxRecDepth 20000 in
theorem gX8_leastOf_J7_fill_d0a16 : GoodIn wsX8_leastOf (va_wsS RX8 56 yJ7_fill_d0a16 wsJ7_fill_d0a16) := goodIn_app (goodIn_of _ (by decide +kernel)) ggX8_leastOf_J7_fill_d0a16
set_option maxRecDepth 20000 in
theorem ggX8_leastOf_X8_comeTo : GoodIn wsX8_leastOf wsX8_comeTo := goodIn_r _ [14, 1, 3, 38, 39, 40, 41] (by decide +kernel) (by decide +kernel)
set_option maxRecDepth 20000 in
theorem gX8_leastOf_X8_comeTo : GoodIn wsX8_leastOf (wsV RX8 62 RX8 yX8_comeTo wsX8_comeTo) := goodIn_app (goodIn_of _ (by decide +kernel)) ggX8_leastOf_X8_comeTo
set_option maxRecDepth 20000 in
theorem ggX8_leastOf_X8_leastNumberTo : GoodIn wsX8_leastOf wsX8_leastNumberTo := goodIn_r _ [18, 1, 38, 39, 40, 41] (by decide +kernel) (by decide +kernel)
set_option maxRecDepth 20000 in
theorem gX8_leastOf_X8_leastNumberTo : GoodIn wsX8_leastOf (wsV RX8 66 RX8 yX8_leastNumberTo wsX8_leastNumberTo) := goodIn_app (goodIn_of _ (by decide +kernel)) ggX8_leastOf_X8_leastNumberTo
set_option maxRecDepth 20000 in
theorem ggX8_leastOf_X0_saysAt : GoodIn wsX8_leastOf wsX0_saysAt := goodIn_r _ [23, 24, 25, 26, 27, 22, 28, 29, 42, 43, 44] (by decide +kernel) (by decide +kernel)
set_option maxRecDepth 20000 in
theorem gX8_leastOf_X0_saysAt : GoodIn wsX8_leastOf (wsV RX8 37 RX0 yX0_saysAt wsX0_saysAt) := goodIn_app (goodIn_of _ (by decide +kernel)) ggX8_leastOf_X0_saysAt
set_option maxRecDepth 20000 in
theorem ggX8_leastOf_X0_after : GoodIn wsX8_leastOf wsX0_after := goodIn_r _ [33, 34, 25, 26, 27, 22, 28, 29, 35, 36, 37, 42, 43, 44] (by decide +kernel) (by decide +kernel)
set_option maxRecDepth 20000 in
theorem gX8_leastOf_X0_after : GoodIn wsX8_leastOf (wsV RX8 51 RX0 yX0_after wsX0_after) := goodIn_app (goodIn_of _ (by decide +kernel)) ggX8_leastOf_X0_after
theorem dX8_leastOf_0 : decode cX8_leastOf 0 = .ok (.aload_n 0, 1) := by decide +kernel
theorem dX8_leastOf_1 : decode cX8_leastOf 1 = .ok (.getfield 18, 3) := by decide +kernel
theorem dX8_leastOf_4 : decode cX8_leastOf 4 = .ok (.ldc2_w 54, 3) := by decide +kernel
theorem dX8_leastOf_7 : decode cX8_leastOf 7 = .ok (.invokestatic 56, 3) := by decide +kernel
theorem dX8_leastOf_10 : decode cX8_leastOf 10 = .ok (.aload_n 0, 1) := by decide +kernel
theorem dX8_leastOf_11 : decode cX8_leastOf 11 = .ok (.iconst 0, 1) := by decide +kernel
theorem dX8_leastOf_12 : decode cX8_leastOf 12 = .ok (.lconst 0, 1) := by decide +kernel
theorem dX8_leastOf_13 : decode cX8_leastOf 13 = .ok (.iconst 0, 1) := by decide +kernel
theorem dX8_leastOf_14 : decode cX8_leastOf 14 = .ok (.invokevirtual 62, 3) := by decide +kernel
theorem dX8_leastOf_17 : decode cX8_leastOf 17 = .ok (.istore_n 3, 1) := by decide +kernel
theorem dX8_leastOf_18 : decode cX8_leastOf 18 = .ok (.iconst 0, 1) := by decide +kernel
theorem dX8_leastOf_19 : decode cX8_leastOf 19 = .ok (.istore 4, 2) := by decide +kernel
theorem dX8_leastOf_21 : decode cX8_leastOf 21 = .ok (.iload 4, 2) := by decide +kernel
theorem dX8_leastOf_23 : decode cX8_leastOf 23 = .ok (.iload_n 3, 1) := by decide +kernel
theorem dX8_leastOf_24 : decode cX8_leastOf 24 = .ok (.if_icmp .ge 87, 3) := by decide +kernel
theorem dX8_leastOf_27 : decode cX8_leastOf 27 = .ok (.iload 4, 2) := by decide +kernel
theorem dX8_leastOf_29 : decode cX8_leastOf 29 = .ok (.bipush 60, 2) := by decide +kernel
theorem dX8_leastOf_31 : decode cX8_leastOf 31 = .ok (.if_icmp .ge 80, 3) := by decide +kernel
theorem dX8_leastOf_34 : decode cX8_leastOf 34 = .ok (.aload_n 0, 1) := by decide +kernel
theorem dX8_leastOf_35 : decode cX8_leastOf 35 = .ok (.getfield 21, 3) := by decide +kernel
theorem dX8_leastOf_38 : decode cX8_leastOf 38 = .ok (.iload 4, 2) := by decide +kernel
theorem dX8_leastOf_40 : decode cX8_leastOf 40 = .ok (.iaload, 1) := by decide +kernel
theorem dX8_leastOf_41 : decode cX8_leastOf 41 = .ok (.istore 5, 2) := by decide +kernel
theorem dX8_leastOf_43 : decode cX8_leastOf 43 = .ok (.aload_n 0, 1) := by decide +kernel
theorem dX8_leastOf_44 : decode cX8_leastOf 44 = .ok (.iload 5, 2) := by decide +kernel
theorem dX8_leastOf_46 : decode cX8_leastOf 46 = .ok (.invokevirtual 66, 3) := by decide +kernel
theorem dX8_leastOf_49 : decode cX8_leastOf 49 = .ok (.lstore 6, 2) := by decide +kernel
theorem dX8_leastOf_51 : decode cX8_leastOf 51 = .ok (.aload_n 1, 1) := by decide +kernel
theorem dX8_leastOf_52 : decode cX8_leastOf 52 = .ok (.iload 5, 2) := by decide +kernel
theorem dX8_leastOf_54 : decode cX8_leastOf 54 = .ok (.invokevirtual 37, 3) := by decide +kernel
theorem dX8_leastOf_57 : decode cX8_leastOf 57 = .ok (.ifCond .eq 6, 3) := by decide +kernel
theorem dX8_leastOf_60 : decode cX8_leastOf 60 = .ok (.lload 6, 2) := by decide +kernel
theorem dX8_leastOf_62 : decode cX8_leastOf 62 = .ok (.lreturn, 1) := by decide +kernel
theorem dX8_leastOf_63 : decode cX8_leastOf 63 = .ok (.aload_n 0, 1) := by decide +kernel
theorem dX8_leastOf_64 : decode cX8_leastOf 64 = .ok (.aload_n 1, 1) := by decide +kernel
theorem dX8_leastOf_65 : decode cX8_leastOf 65 = .ok (.iload 5, 2) := by decide +kernel
theorem dX8_leastOf_67 : decode cX8_leastOf 67 = .ok (.iconst 0, 1) := by decide +kernel
theorem dX8_leastOf_68 : decode cX8_leastOf 68 = .ok (.invokevirtual 51, 3) := by decide +kernel
theorem dX8_leastOf_71 : decode cX8_leastOf 71 = .ok (.ldc2_w 70, 3) := by decide +kernel
theorem dX8_leastOf_74 : decode cX8_leastOf 74 = .ok (.lload 6, 2) := by decide +kernel
theorem dX8_leastOf_76 : decode cX8_leastOf 76 = .ok (.lmul, 1) := by decide +kernel
theorem dX8_leastOf_77 : decode cX8_leastOf 77 = .ok (.iload_n 3, 1) := by decide +kernel
theorem dX8_leastOf_78 : decode cX8_leastOf 78 = .ok (.invokevirtual 62, 3) := by decide +kernel
theorem dX8_leastOf_81 : decode cX8_leastOf 81 = .ok (.istore_n 3, 1) := by decide +kernel
theorem dX8_leastOf_82 : decode cX8_leastOf 82 = .ok (.aload_n 0, 1) := by decide +kernel
theorem dX8_leastOf_83 : decode cX8_leastOf 83 = .ok (.aload_n 1, 1) := by decide +kernel
theorem dX8_leastOf_84 : decode cX8_leastOf 84 = .ok (.iload 5, 2) := by decide +kernel
theorem dX8_leastOf_86 : decode cX8_leastOf 86 = .ok (.iconst 1, 1) := by decide +kernel
theorem dX8_leastOf_87 : decode cX8_leastOf 87 = .ok (.iload_n 2, 1) := by decide +kernel
theorem dX8_leastOf_88 : decode cX8_leastOf 88 = .ok (.ishl, 1) := by decide +kernel
theorem dX8_leastOf_89 : decode cX8_leastOf 89 = .ok (.invokevirtual 51, 3) := by decide +kernel
theorem dX8_leastOf_92 : decode cX8_leastOf 92 = .ok (.ldc2_w 70, 3) := by decide +kernel
theorem dX8_leastOf_95 : decode cX8_leastOf 95 = .ok (.lload 6, 2) := by decide +kernel
theorem dX8_leastOf_97 : decode cX8_leastOf 97 = .ok (.lmul, 1) := by decide +kernel
theorem dX8_leastOf_98 : decode cX8_leastOf 98 = .ok (.lconst 1, 1) := by decide +kernel
theorem dX8_leastOf_99 : decode cX8_leastOf 99 = .ok (.ladd, 1) := by decide +kernel
theorem dX8_leastOf_100 : decode cX8_leastOf 100 = .ok (.iload_n 3, 1) := by decide +kernel
theorem dX8_leastOf_101 : decode cX8_leastOf 101 = .ok (.invokevirtual 62, 3) := by decide +kernel
theorem dX8_leastOf_104 : decode cX8_leastOf 104 = .ok (.istore_n 3, 1) := by decide +kernel
theorem dX8_leastOf_105 : decode cX8_leastOf 105 = .ok (.iinc 4 1, 3) := by decide +kernel
theorem dX8_leastOf_108 : decode cX8_leastOf 108 = .ok (.goto (-87), 3) := by decide +kernel
theorem dX8_leastOf_111 : decode cX8_leastOf 111 = .ok (.ldc2_w 72, 3) := by decide +kernel
theorem dX8_leastOf_114 : decode cX8_leastOf 114 = .ok (.lreturn, 1) := by decide +kernel
theorem dX8_leastNumberTo_0 : decode cX8_leastNumberTo 0 = .ok (.iload_n 1, 1) := by decide +kernel
theorem dX8_leastNumberTo_1 : decode cX8_leastNumberTo 1 = .ok (.ifCond .lt 18, 3) := by decide +kernel
theorem dX8_leastNumberTo_4 : decode cX8_leastNumberTo 4 = .ok (.iload_n 1, 1) := by decide +kernel
theorem dX8_leastNumberTo_5 : decode cX8_leastNumberTo 5 = .ok (.bipush 60, 2) := by decide +kernel
theorem dX8_leastNumberTo_7 : decode cX8_leastNumberTo 7 = .ok (.if_icmp .ge 12, 3) := by decide +kernel
theorem dX8_leastNumberTo_10 : decode cX8_leastNumberTo 10 = .ok (.aload_n 0, 1) := by decide +kernel
theorem dX8_leastNumberTo_11 : decode cX8_leastNumberTo 11 = .ok (.getfield 18, 3) := by decide +kernel
theorem dX8_leastNumberTo_14 : decode cX8_leastNumberTo 14 = .ok (.iload_n 1, 1) := by decide +kernel
theorem dX8_leastNumberTo_15 : decode cX8_leastNumberTo 15 = .ok (.laload, 1) := by decide +kernel
theorem dX8_leastNumberTo_16 : decode cX8_leastNumberTo 16 = .ok (.goto 4, 3) := by decide +kernel
theorem dX8_leastNumberTo_19 : decode cX8_leastNumberTo 19 = .ok (.lconst 0, 1) := by decide +kernel
theorem dX8_leastNumberTo_20 : decode cX8_leastNumberTo 20 = .ok (.lreturn, 1) := by decide +kernel
theorem dX8_comeTo_0 : decode cX8_comeTo 0 = .ok (.iload_n 1, 1) := by decide +kernel
theorem dX8_comeTo_1 : decode cX8_comeTo 1 = .ok (.ifCond .lt 32, 3) := by decide +kernel
theorem dX8_comeTo_4 : decode cX8_comeTo 4 = .ok (.iload_n 1, 1) := by decide +kernel
theorem dX8_comeTo_5 : decode cX8_comeTo 5 = .ok (.bipush 60, 2) := by decide +kernel
theorem dX8_comeTo_7 : decode cX8_comeTo 7 = .ok (.if_icmp .ge 26, 3) := by decide +kernel
theorem dX8_comeTo_10 : decode cX8_comeTo 10 = .ok (.iload 4, 2) := by decide +kernel
theorem dX8_comeTo_12 : decode cX8_comeTo 12 = .ok (.ifCond .lt 21, 3) := by decide +kernel
theorem dX8_comeTo_15 : decode cX8_comeTo 15 = .ok (.iload 4, 2) := by decide +kernel
theorem dX8_comeTo_17 : decode cX8_comeTo 17 = .ok (.bipush 60, 2) := by decide +kernel
theorem dX8_comeTo_19 : decode cX8_comeTo 19 = .ok (.if_icmp .ge 14, 3) := by decide +kernel
theorem dX8_comeTo_22 : decode cX8_comeTo 22 = .ok (.aload_n 0, 1) := by decide +kernel
theorem dX8_comeTo_23 : decode cX8_comeTo 23 = .ok (.getfield 18, 3) := by decide +kernel
theorem dX8_comeTo_26 : decode cX8_comeTo 26 = .ok (.iload_n 1, 1) := by decide +kernel
theorem dX8_comeTo_27 : decode cX8_comeTo 27 = .ok (.laload, 1) := by decide +kernel
theorem dX8_comeTo_28 : decode cX8_comeTo 28 = .ok (.lconst 0, 1) := by decide +kernel
theorem dX8_comeTo_29 : decode cX8_comeTo 29 = .ok (.lcmp, 1) := by decide +kernel
theorem dX8_comeTo_30 : decode cX8_comeTo 30 = .ok (.ifCond .lt 6, 3) := by decide +kernel
theorem dX8_comeTo_33 : decode cX8_comeTo 33 = .ok (.iload 4, 2) := by decide +kernel
theorem dX8_comeTo_35 : decode cX8_comeTo 35 = .ok (.ireturn, 1) := by decide +kernel
theorem dX8_comeTo_36 : decode cX8_comeTo 36 = .ok (.aload_n 0, 1) := by decide +kernel
theorem dX8_comeTo_37 : decode cX8_comeTo 37 = .ok (.getfield 18, 3) := by decide +kernel
theorem dX8_comeTo_40 : decode cX8_comeTo 40 = .ok (.iload_n 1, 1) := by decide +kernel
theorem dX8_comeTo_41 : decode cX8_comeTo 41 = .ok (.lload_n 2, 1) := by decide +kernel
theorem dX8_comeTo_42 : decode cX8_comeTo 42 = .ok (.lastore, 1) := by decide +kernel
theorem dX8_comeTo_43 : decode cX8_comeTo 43 = .ok (.aload_n 0, 1) := by decide +kernel
theorem dX8_comeTo_44 : decode cX8_comeTo 44 = .ok (.getfield 21, 3) := by decide +kernel
theorem dX8_comeTo_47 : decode cX8_comeTo 47 = .ok (.iload 4, 2) := by decide +kernel
theorem dX8_comeTo_49 : decode cX8_comeTo 49 = .ok (.iload_n 1, 1) := by decide +kernel
theorem dX8_comeTo_50 : decode cX8_comeTo 50 = .ok (.iastore, 1) := by decide +kernel
theorem dX8_comeTo_51 : decode cX8_comeTo 51 = .ok (.iload 4, 2) := by decide +kernel
theorem dX8_comeTo_53 : decode cX8_comeTo 53 = .ok (.iconst 1, 1) := by decide +kernel
theorem dX8_comeTo_54 : decode cX8_comeTo 54 = .ok (.iadd, 1) := by decide +kernel
theorem dX8_comeTo_55 : decode cX8_comeTo 55 = .ok (.ireturn, 1) := by decide +kernel
theorem dJ7_fill_d0a16_0 : decode cJ7_fill_d0a16 0 = .ok (.iconst 0, 1) := by decide +kernel
theorem dJ7_fill_d0a16_1 : decode cJ7_fill_d0a16 1 = .ok (.istore_n 3, 1) := by decide +kernel
theorem dJ7_fill_d0a16_2 : decode cJ7_fill_d0a16 2 = .ok (.aload_n 0, 1) := by decide +kernel
theorem dJ7_fill_d0a16_3 : decode cJ7_fill_d0a16 3 = .ok (.arraylength, 1) := by decide +kernel
theorem dJ7_fill_d0a16_4 : decode cJ7_fill_d0a16 4 = .ok (.istore 4, 2) := by decide +kernel
theorem dJ7_fill_d0a16_6 : decode cJ7_fill_d0a16 6 = .ok (.iload_n 3, 1) := by decide +kernel
theorem dJ7_fill_d0a16_7 : decode cJ7_fill_d0a16 7 = .ok (.iload 4, 2) := by decide +kernel
theorem dJ7_fill_d0a16_9 : decode cJ7_fill_d0a16 9 = .ok (.if_icmp .ge 13, 3) := by decide +kernel
theorem dJ7_fill_d0a16_12 : decode cJ7_fill_d0a16 12 = .ok (.aload_n 0, 1) := by decide +kernel
theorem dJ7_fill_d0a16_13 : decode cJ7_fill_d0a16 13 = .ok (.iload_n 3, 1) := by decide +kernel
theorem dJ7_fill_d0a16_14 : decode cJ7_fill_d0a16 14 = .ok (.lload_n 1, 1) := by decide +kernel
theorem dJ7_fill_d0a16_15 : decode cJ7_fill_d0a16 15 = .ok (.lastore, 1) := by decide +kernel
theorem dJ7_fill_d0a16_16 : decode cJ7_fill_d0a16 16 = .ok (.iinc 3 1, 3) := by decide +kernel
theorem dJ7_fill_d0a16_19 : decode cJ7_fill_d0a16 19 = .ok (.goto (-13), 3) := by decide +kernel
theorem dJ7_fill_d0a16_22 : decode cJ7_fill_d0a16 22 = .ok (.return_, 1) := by decide +kernel
theorem dJ7_fill_53178_0 : decode cJ7_fill_53178 0 = .ok (.iconst 0, 1) := by decide +kernel
theorem dJ7_fill_53178_1 : decode cJ7_fill_53178 1 = .ok (.istore_n 2, 1) := by decide +kernel
theorem dJ7_fill_53178_2 : decode cJ7_fill_53178 2 = .ok (.aload_n 0, 1) := by decide +kernel
theorem dJ7_fill_53178_3 : decode cJ7_fill_53178 3 = .ok (.arraylength, 1) := by decide +kernel
theorem dJ7_fill_53178_4 : decode cJ7_fill_53178 4 = .ok (.istore_n 3, 1) := by decide +kernel
theorem dJ7_fill_53178_5 : decode cJ7_fill_53178 5 = .ok (.iload_n 2, 1) := by decide +kernel
theorem dJ7_fill_53178_6 : decode cJ7_fill_53178 6 = .ok (.iload_n 3, 1) := by decide +kernel
theorem dJ7_fill_53178_7 : decode cJ7_fill_53178 7 = .ok (.if_icmp .ge 13, 3) := by decide +kernel
theorem dJ7_fill_53178_10 : decode cJ7_fill_53178 10 = .ok (.aload_n 0, 1) := by decide +kernel
theorem dJ7_fill_53178_11 : decode cJ7_fill_53178 11 = .ok (.iload_n 2, 1) := by decide +kernel
theorem dJ7_fill_53178_12 : decode cJ7_fill_53178 12 = .ok (.iload_n 1, 1) := by decide +kernel
theorem dJ7_fill_53178_13 : decode cJ7_fill_53178 13 = .ok (.iastore, 1) := by decide +kernel
theorem dJ7_fill_53178_14 : decode cJ7_fill_53178 14 = .ok (.iinc 2 1, 3) := by decide +kernel
theorem dJ7_fill_53178_17 : decode cJ7_fill_53178 17 = .ok (.goto (-12), 3) := by decide +kernel
theorem dJ7_fill_53178_20 : decode cJ7_fill_53178 20 = .ok (.return_, 1) := by decide +kernel
theorem dJ9_max_7cf53_0 : decode cJ9_max_7cf53 0 = .ok (.iload_n 0, 1) := by decide +kernel
theorem dJ9_max_7cf53_1 : decode cJ9_max_7cf53 1 = .ok (.iload_n 1, 1) := by decide +kernel
theorem dJ9_max_7cf53_2 : decode cJ9_max_7cf53 2 = .ok (.if_icmp .lt 7, 3) := by decide +kernel
theorem dJ9_max_7cf53_5 : decode cJ9_max_7cf53 5 = .ok (.iload_n 0, 1) := by decide +kernel
theorem dJ9_max_7cf53_6 : decode cJ9_max_7cf53 6 = .ok (.goto 4, 3) := by decide +kernel
theorem dJ9_max_7cf53_9 : decode cJ9_max_7cf53 9 = .ok (.iload_n 1, 1) := by decide +kernel
theorem dJ9_max_7cf53_10 : decode cJ9_max_7cf53 10 = .ok (.ireturn, 1) := by decide +kernel
theorem dJ9_min_7cf53_0 : decode cJ9_min_7cf53 0 = .ok (.iload_n 0, 1) := by decide +kernel
theorem dJ9_min_7cf53_1 : decode cJ9_min_7cf53 1 = .ok (.iload_n 1, 1) := by decide +kernel
theorem dJ9_min_7cf53_2 : decode cJ9_min_7cf53 2 = .ok (.if_icmp .gt 7, 3) := by decide +kernel
theorem dJ9_min_7cf53_5 : decode cJ9_min_7cf53 5 = .ok (.iload_n 0, 1) := by decide +kernel
theorem dJ9_min_7cf53_6 : decode cJ9_min_7cf53 6 = .ok (.goto 4, 3) := by decide +kernel
theorem dJ9_min_7cf53_9 : decode cJ9_min_7cf53 9 = .ok (.iload_n 1, 1) := by decide +kernel
theorem dJ9_min_7cf53_10 : decode cJ9_min_7cf53 10 = .ok (.ireturn, 1) := by decide +kernel
