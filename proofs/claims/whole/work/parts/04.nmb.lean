theorem dX1_init_0 : decode cX1_init 0 = .ok (.aload_n 0, 1) := by decide +kernel
theorem dX1_init_1 : decode cX1_init 1 = .ok (.invokespecial 3, 3) := by decide +kernel
theorem dX1_init_4 : decode cX1_init 4 = .ok (.aload_n 0, 1) := by decide +kernel
theorem dX1_init_5 : decode cX1_init 5 = .ok (.bipush 60, 2) := by decide +kernel
theorem dX1_init_7 : decode cX1_init 7 = .ok (.newarray .int, 2) := by decide +kernel
theorem dX1_init_9 : decode cX1_init 9 = .ok (.putfield 9, 3) := by decide +kernel
theorem dX1_init_12 : decode cX1_init 12 = .ok (.aload_n 0, 1) := by decide +kernel
theorem dX1_init_13 : decode cX1_init 13 = .ok (.bipush 60, 2) := by decide +kernel
theorem dX1_init_15 : decode cX1_init 15 = .ok (.newarray .int, 2) := by decide +kernel
theorem dX1_init_17 : decode cX1_init 17 = .ok (.putfield 15, 3) := by decide +kernel
theorem dX1_init_20 : decode cX1_init 20 = .ok (.aload_n 0, 1) := by decide +kernel
theorem dX1_init_21 : decode cX1_init 21 = .ok (.bipush 60, 2) := by decide +kernel
theorem dX1_init_23 : decode cX1_init 23 = .ok (.newarray .int, 2) := by decide +kernel
theorem dX1_init_25 : decode cX1_init 25 = .ok (.putfield 18, 3) := by decide +kernel
theorem dX1_init_28 : decode cX1_init 28 = .ok (.aload_n 0, 1) := by decide +kernel
theorem dX1_init_29 : decode cX1_init 29 = .ok (.bipush 32, 2) := by decide +kernel
theorem dX1_init_31 : decode cX1_init 31 = .ok (.putfield 21, 3) := by decide +kernel
theorem dX1_init_34 : decode cX1_init 34 = .ok (.aload_n 0, 1) := by decide +kernel
theorem dX1_init_35 : decode cX1_init 35 = .ok (.iconst 0, 1) := by decide +kernel
theorem dX1_init_36 : decode cX1_init 36 = .ok (.putfield 25, 3) := by decide +kernel
theorem dX1_init_39 : decode cX1_init 39 = .ok (.aload_n 0, 1) := by decide +kernel
theorem dX1_init_40 : decode cX1_init 40 = .ok (.sipush 256, 3) := by decide +kernel
theorem dX1_init_43 : decode cX1_init 43 = .ok (.newarray .int, 2) := by decide +kernel
theorem dX1_init_45 : decode cX1_init 45 = .ok (.putfield 28, 3) := by decide +kernel
theorem dX1_init_48 : decode cX1_init 48 = .ok (.aload_n 0, 1) := by decide +kernel
theorem dX1_init_49 : decode cX1_init 49 = .ok (.bipush 32, 2) := by decide +kernel
theorem dX1_init_51 : decode cX1_init 51 = .ok (.newarray .boolean, 2) := by decide +kernel
theorem dX1_init_53 : decode cX1_init 53 = .ok (.putfield 31, 3) := by decide +kernel
theorem dX1_init_56 : decode cX1_init 56 = .ok (.aload_n 0, 1) := by decide +kernel
theorem dX1_init_57 : decode cX1_init 57 = .ok (.bipush 32, 2) := by decide +kernel
theorem dX1_init_59 : decode cX1_init 59 = .ok (.newarray .int, 2) := by decide +kernel
theorem dX1_init_61 : decode cX1_init 61 = .ok (.putfield 35, 3) := by decide +kernel
theorem dX1_init_64 : decode cX1_init 64 = .ok (.aload_n 0, 1) := by decide +kernel
theorem dX1_init_65 : decode cX1_init 65 = .ok (.bipush 32, 2) := by decide +kernel
theorem dX1_init_67 : decode cX1_init 67 = .ok (.newarray .int, 2) := by decide +kernel
theorem dX1_init_69 : decode cX1_init 69 = .ok (.putfield 38, 3) := by decide +kernel
theorem dX1_init_72 : decode cX1_init 72 = .ok (.aload_n 0, 1) := by decide +kernel
theorem dX1_init_73 : decode cX1_init 73 = .ok (.bipush 32, 2) := by decide +kernel
theorem dX1_init_75 : decode cX1_init 75 = .ok (.newarray .int, 2) := by decide +kernel
theorem dX1_init_77 : decode cX1_init 77 = .ok (.putfield 41, 3) := by decide +kernel
theorem dX1_init_80 : decode cX1_init 80 = .ok (.aload_n 0, 1) := by decide +kernel
theorem dX1_init_81 : decode cX1_init 81 = .ok (.aload_n 1, 1) := by decide +kernel
theorem dX1_init_82 : decode cX1_init 82 = .ok (.putfield 44, 3) := by decide +kernel
theorem dX1_init_85 : decode cX1_init 85 = .ok (.return_, 1) := by decide +kernel
theorem dX1_makeRoom_0 : decode cX1_makeRoom 0 = .ok (.iload_n 1, 1) := by decide +kernel
theorem dX1_makeRoom_1 : decode cX1_makeRoom 1 = .ok (.aload_n 0, 1) := by decide +kernel
theorem dX1_makeRoom_2 : decode cX1_makeRoom 2 = .ok (.getfield 21, 3) := by decide +kernel
theorem dX1_makeRoom_5 : decode cX1_makeRoom 5 = .ok (.if_icmp .gt 4, 3) := by decide +kernel
theorem dX1_makeRoom_8 : decode cX1_makeRoom 8 = .ok (.return_, 1) := by decide +kernel
theorem dX1_makeRoom_9 : decode cX1_makeRoom 9 = .ok (.aload_n 0, 1) := by decide +kernel
theorem dX1_makeRoom_10 : decode cX1_makeRoom 10 = .ok (.sipush 3600, 3) := by decide +kernel
theorem dX1_makeRoom_13 : decode cX1_makeRoom 13 = .ok (.iload_n 1, 1) := by decide +kernel
theorem dX1_makeRoom_14 : decode cX1_makeRoom 14 = .ok (.iconst 2, 1) := by decide +kernel
theorem dX1_makeRoom_15 : decode cX1_makeRoom 15 = .ok (.aload_n 0, 1) := by decide +kernel
theorem dX1_makeRoom_16 : decode cX1_makeRoom 16 = .ok (.getfield 21, 3) := by decide +kernel
theorem dX1_makeRoom_19 : decode cX1_makeRoom 19 = .ok (.imul, 1) := by decide +kernel
theorem dX1_makeRoom_20 : decode cX1_makeRoom 20 = .ok (.invokestatic 48, 3) := by decide +kernel
theorem dX1_makeRoom_23 : decode cX1_makeRoom 23 = .ok (.invokestatic 54, 3) := by decide +kernel
theorem dX1_makeRoom_26 : decode cX1_makeRoom 26 = .ok (.putfield 21, 3) := by decide +kernel
theorem dX1_makeRoom_29 : decode cX1_makeRoom 29 = .ok (.aload_n 0, 1) := by decide +kernel
theorem dX1_makeRoom_30 : decode cX1_makeRoom 30 = .ok (.aload_n 0, 1) := by decide +kernel
theorem dX1_makeRoom_31 : decode cX1_makeRoom 31 = .ok (.getfield 21, 3) := by decide +kernel
theorem dX1_makeRoom_34 : decode cX1_makeRoom 34 = .ok (.bipush 8, 2) := by decide +kernel
theorem dX1_makeRoom_36 : decode cX1_makeRoom 36 = .ok (.imul, 1) := by decide +kernel
theorem dX1_makeRoom_37 : decode cX1_makeRoom 37 = .ok (.newarray .int, 2) := by decide +kernel
theorem dX1_makeRoom_39 : decode cX1_makeRoom 39 = .ok (.putfield 28, 3) := by decide +kernel
theorem dX1_makeRoom_42 : decode cX1_makeRoom 42 = .ok (.aload_n 0, 1) := by decide +kernel
theorem dX1_makeRoom_43 : decode cX1_makeRoom 43 = .ok (.aload_n 0, 1) := by decide +kernel
theorem dX1_makeRoom_44 : decode cX1_makeRoom 44 = .ok (.getfield 21, 3) := by decide +kernel
theorem dX1_makeRoom_47 : decode cX1_makeRoom 47 = .ok (.newarray .boolean, 2) := by decide +kernel
theorem dX1_makeRoom_49 : decode cX1_makeRoom 49 = .ok (.putfield 31, 3) := by decide +kernel
theorem dX1_makeRoom_52 : decode cX1_makeRoom 52 = .ok (.aload_n 0, 1) := by decide +kernel
theorem dX1_makeRoom_53 : decode cX1_makeRoom 53 = .ok (.aload_n 0, 1) := by decide +kernel
theorem dX1_makeRoom_54 : decode cX1_makeRoom 54 = .ok (.getfield 21, 3) := by decide +kernel
theorem dX1_makeRoom_57 : decode cX1_makeRoom 57 = .ok (.newarray .int, 2) := by decide +kernel
theorem dX1_makeRoom_59 : decode cX1_makeRoom 59 = .ok (.putfield 35, 3) := by decide +kernel
theorem dX1_makeRoom_62 : decode cX1_makeRoom 62 = .ok (.aload_n 0, 1) := by decide +kernel
theorem dX1_makeRoom_63 : decode cX1_makeRoom 63 = .ok (.aload_n 0, 1) := by decide +kernel
theorem dX1_makeRoom_64 : decode cX1_makeRoom 64 = .ok (.getfield 21, 3) := by decide +kernel
theorem dX1_makeRoom_67 : decode cX1_makeRoom 67 = .ok (.newarray .int, 2) := by decide +kernel
theorem dX1_makeRoom_69 : decode cX1_makeRoom 69 = .ok (.putfield 38, 3) := by decide +kernel
theorem dX1_makeRoom_72 : decode cX1_makeRoom 72 = .ok (.aload_n 0, 1) := by decide +kernel
theorem dX1_makeRoom_73 : decode cX1_makeRoom 73 = .ok (.aload_n 0, 1) := by decide +kernel
theorem dX1_makeRoom_74 : decode cX1_makeRoom 74 = .ok (.getfield 21, 3) := by decide +kernel
theorem dX1_makeRoom_77 : decode cX1_makeRoom 77 = .ok (.newarray .int, 2) := by decide +kernel
theorem dX1_makeRoom_79 : decode cX1_makeRoom 79 = .ok (.putfield 41, 3) := by decide +kernel
theorem dX1_makeRoom_82 : decode cX1_makeRoom 82 = .ok (.return_, 1) := by decide +kernel
set_option maxRecDepth 20000 in
theorem ggX1_begin_X1_makeRoom : GoodIn wsX1_begin wsX1_makeRoom := goodIn_r _ [14, 1, 6, 7, 4, 8, 2, 3, 5, 15, 16, 17, 18, 19, 20, 21, 22, 23, 24, 25, 26, 27, 28, 29, 30, 31, 32] (by decide +kernel) (by decide +kernel)
set_option maxRecDepth 20000 in
theorem gX1_begin_X1_makeRoom : GoodIn wsX1_begin (wsV RX1 57 RX1 yX1_makeRoom wsX1_makeRoom) := goodIn_app (goodIn_of _ (by decide +kernel)) ggX1_begin_X1_makeRoom
theorem dX1_begin_0 : decode cX1_begin 0 = .ok (.aload_n 0, 1) := by decide +kernel
theorem dX1_begin_1 : decode cX1_begin 1 = .ok (.iload_n 2, 1) := by decide +kernel
theorem dX1_begin_2 : decode cX1_begin 2 = .ok (.invokevirtual 57, 3) := by decide +kernel
theorem dX1_begin_5 : decode cX1_begin 5 = .ok (.aload_n 0, 1) := by decide +kernel
theorem dX1_begin_6 : decode cX1_begin 6 = .ok (.iconst 0, 1) := by decide +kernel
theorem dX1_begin_7 : decode cX1_begin 7 = .ok (.iload_n 1, 1) := by decide +kernel
theorem dX1_begin_8 : decode cX1_begin 8 = .ok (.aload_n 0, 1) := by decide +kernel
theorem dX1_begin_9 : decode cX1_begin 9 = .ok (.getfield 21, 3) := by decide +kernel
theorem dX1_begin_12 : decode cX1_begin 12 = .ok (.invokestatic 54, 3) := by decide +kernel
theorem dX1_begin_15 : decode cX1_begin 15 = .ok (.invokestatic 48, 3) := by decide +kernel
theorem dX1_begin_18 : decode cX1_begin 18 = .ok (.putfield 25, 3) := by decide +kernel
theorem dX1_begin_21 : decode cX1_begin 21 = .ok (.return_, 1) := by decide +kernel
theorem dX1_count_0 : decode cX1_count 0 = .ok (.aload_n 0, 1) := by decide +kernel
theorem dX1_count_1 : decode cX1_count 1 = .ok (.getfield 25, 3) := by decide +kernel
theorem dX1_count_4 : decode cX1_count 4 = .ok (.ireturn, 1) := by decide +kernel
theorem dX1_isState_0 : decode cX1_isState 0 = .ok (.iload_n 1, 1) := by decide +kernel
theorem dX1_isState_1 : decode cX1_isState 1 = .ok (.ifCond .lt 15, 3) := by decide +kernel
theorem dX1_isState_4 : decode cX1_isState 4 = .ok (.iload_n 1, 1) := by decide +kernel
theorem dX1_isState_5 : decode cX1_isState 5 = .ok (.aload_n 0, 1) := by decide +kernel
theorem dX1_isState_6 : decode cX1_isState 6 = .ok (.getfield 25, 3) := by decide +kernel
theorem dX1_isState_9 : decode cX1_isState 9 = .ok (.if_icmp .ge 7, 3) := by decide +kernel
theorem dX1_isState_12 : decode cX1_isState 12 = .ok (.iconst 1, 1) := by decide +kernel
theorem dX1_isState_13 : decode cX1_isState 13 = .ok (.goto 4, 3) := by decide +kernel
theorem dX1_isState_16 : decode cX1_isState 16 = .ok (.iconst 0, 1) := by decide +kernel
theorem dX1_isState_17 : decode cX1_isState 17 = .ok (.ireturn, 1) := by decide +kernel
theorem dX1_add_0 : decode cX1_add 0 = .ok (.aload_n 0, 1) := by decide +kernel
theorem dX1_add_1 : decode cX1_add 1 = .ok (.getfield 25, 3) := by decide +kernel
theorem dX1_add_4 : decode cX1_add 4 = .ok (.aload_n 0, 1) := by decide +kernel
theorem dX1_add_5 : decode cX1_add 5 = .ok (.getfield 21, 3) := by decide +kernel
theorem dX1_add_8 : decode cX1_add 8 = .ok (.if_icmp .ge 13, 3) := by decide +kernel
theorem dX1_add_11 : decode cX1_add 11 = .ok (.aload_n 0, 1) := by decide +kernel
theorem dX1_add_12 : decode cX1_add 12 = .ok (.dup, 1) := by decide +kernel
theorem dX1_add_13 : decode cX1_add 13 = .ok (.getfield 25, 3) := by decide +kernel
theorem dX1_add_16 : decode cX1_add 16 = .ok (.iconst 1, 1) := by decide +kernel
theorem dX1_add_17 : decode cX1_add 17 = .ok (.iadd, 1) := by decide +kernel
theorem dX1_add_18 : decode cX1_add 18 = .ok (.putfield 25, 3) := by decide +kernel
theorem dX1_add_21 : decode cX1_add 21 = .ok (.return_, 1) := by decide +kernel
set_option maxRecDepth 20000 in
theorem ggX1_write_X1_isState : GoodIn wsX1_write wsX1_isState := goodIn_r _ [6, 7, 11, 12, 13, 14, 15, 16, 17, 18, 19, 20, 21] (by decide +kernel) (by decide +kernel)
set_option maxRecDepth 20000 in
theorem gX1_write_X1_isState : GoodIn wsX1_write (wsV RX1 61 RX1 yX1_isState wsX1_isState) := goodIn_app (goodIn_of _ (by decide +kernel)) ggX1_write_X1_isState
set_option maxRecDepth 20000 in
theorem ggX1_write_X9_isColumn : GoodIn wsX1_write wsX9_isColumn := goodIn_r _ [10] (by decide +kernel) (by decide +kernel)
set_option maxRecDepth 20000 in
theorem gX1_write_X9_isColumn_n65 : GoodIn wsX1_write (wsX9_isColumn) := ggX1_write_X9_isColumn
theorem dX1_write_0 : decode cX1_write 0 = .ok (.aload_n 0, 1) := by decide +kernel
theorem dX1_write_1 : decode cX1_write 1 = .ok (.iload_n 1, 1) := by decide +kernel
theorem dX1_write_2 : decode cX1_write 2 = .ok (.invokevirtual 61, 3) := by decide +kernel
theorem dX1_write_5 : decode cX1_write 5 = .ok (.ifCond .eq 22, 3) := by decide +kernel
theorem dX1_write_8 : decode cX1_write 8 = .ok (.iload_n 2, 1) := by decide +kernel
theorem dX1_write_9 : decode cX1_write 9 = .ok (.invokestatic 65, 3) := by decide +kernel
theorem dX1_write_12 : decode cX1_write 12 = .ok (.ifCond .eq 15, 3) := by decide +kernel
theorem dX1_write_15 : decode cX1_write 15 = .ok (.aload_n 0, 1) := by decide +kernel
theorem dX1_write_16 : decode cX1_write 16 = .ok (.getfield 28, 3) := by decide +kernel
theorem dX1_write_19 : decode cX1_write 19 = .ok (.iload_n 1, 1) := by decide +kernel
theorem dX1_write_20 : decode cX1_write 20 = .ok (.bipush 8, 2) := by decide +kernel
theorem dX1_write_22 : decode cX1_write 22 = .ok (.imul, 1) := by decide +kernel
theorem dX1_write_23 : decode cX1_write 23 = .ok (.iload_n 2, 1) := by decide +kernel
theorem dX1_write_24 : decode cX1_write 24 = .ok (.iadd, 1) := by decide +kernel
theorem dX1_write_25 : decode cX1_write 25 = .ok (.iload_n 3, 1) := by decide +kernel
theorem dX1_write_26 : decode cX1_write 26 = .ok (.iastore, 1) := by decide +kernel
theorem dX1_write_27 : decode cX1_write 27 = .ok (.return_, 1) := by decide +kernel
set_option maxRecDepth 20000 in
theorem ggX1_writeSays_X1_isState : GoodIn wsX1_writeSays wsX1_isState := goodIn_r _ [6, 7, 8, 9, 10, 11, 12, 13, 14, 15, 16, 17, 18] (by decide +kernel) (by decide +kernel)
set_option maxRecDepth 20000 in
theorem gX1_writeSays_X1_isState : GoodIn wsX1_writeSays (wsV RX1 61 RX1 yX1_isState wsX1_isState) := goodIn_app (goodIn_of _ (by decide +kernel)) ggX1_writeSays_X1_isState
theorem dX1_writeSays_0 : decode cX1_writeSays 0 = .ok (.aload_n 0, 1) := by decide +kernel
theorem dX1_writeSays_1 : decode cX1_writeSays 1 = .ok (.iload_n 1, 1) := by decide +kernel
theorem dX1_writeSays_2 : decode cX1_writeSays 2 = .ok (.invokevirtual 61, 3) := by decide +kernel
theorem dX1_writeSays_5 : decode cX1_writeSays 5 = .ok (.ifCond .eq 10, 3) := by decide +kernel
theorem dX1_writeSays_8 : decode cX1_writeSays 8 = .ok (.aload_n 0, 1) := by decide +kernel
theorem dX1_writeSays_9 : decode cX1_writeSays 9 = .ok (.getfield 31, 3) := by decide +kernel
theorem dX1_writeSays_12 : decode cX1_writeSays 12 = .ok (.iload_n 1, 1) := by decide +kernel
theorem dX1_writeSays_13 : decode cX1_writeSays 13 = .ok (.iload_n 2, 1) := by decide +kernel
theorem dX1_writeSays_14 : decode cX1_writeSays 14 = .ok (.bastore, 1) := by decide +kernel
theorem dX1_writeSays_15 : decode cX1_writeSays 15 = .ok (.return_, 1) := by decide +kernel
set_option maxRecDepth 20000 in
theorem ggX1_writeNote_X1_isState : GoodIn wsX1_writeNote wsX1_isState := goodIn_r _ [6, 7, 8, 9, 10, 11, 12, 13, 14, 15, 16, 17, 18] (by decide +kernel) (by decide +kernel)
set_option maxRecDepth 20000 in
theorem gX1_writeNote_X1_isState : GoodIn wsX1_writeNote (wsV RX1 61 RX1 yX1_isState wsX1_isState) := goodIn_app (goodIn_of _ (by decide +kernel)) ggX1_writeNote_X1_isState
theorem dX1_writeNote_0 : decode cX1_writeNote 0 = .ok (.aload_n 0, 1) := by decide +kernel
theorem dX1_writeNote_1 : decode cX1_writeNote 1 = .ok (.iload_n 1, 1) := by decide +kernel
theorem dX1_writeNote_2 : decode cX1_writeNote 2 = .ok (.invokevirtual 61, 3) := by decide +kernel
theorem dX1_writeNote_5 : decode cX1_writeNote 5 = .ok (.ifCond .eq 10, 3) := by decide +kernel
theorem dX1_writeNote_8 : decode cX1_writeNote 8 = .ok (.aload_n 0, 1) := by decide +kernel
theorem dX1_writeNote_9 : decode cX1_writeNote 9 = .ok (.getfield 35, 3) := by decide +kernel
theorem dX1_writeNote_12 : decode cX1_writeNote 12 = .ok (.iload_n 1, 1) := by decide +kernel
theorem dX1_writeNote_13 : decode cX1_writeNote 13 = .ok (.iload_n 2, 1) := by decide +kernel
theorem dX1_writeNote_14 : decode cX1_writeNote 14 = .ok (.iastore, 1) := by decide +kernel
theorem dX1_writeNote_15 : decode cX1_writeNote 15 = .ok (.return_, 1) := by decide +kernel
set_option maxRecDepth 20000 in
theorem ggX1_noteOf_X1_isState : GoodIn wsX1_noteOf wsX1_isState := goodIn_r _ [6, 7, 8, 9, 10, 11, 12, 13, 14, 15, 16, 17, 18] (by decide +kernel) (by decide +kernel)
set_option maxRecDepth 20000 in
theorem gX1_noteOf_X1_isState : GoodIn wsX1_noteOf (wsV RX1 61 RX1 yX1_isState wsX1_isState) := goodIn_app (goodIn_of _ (by decide +kernel)) ggX1_noteOf_X1_isState
theorem dX1_noteOf_0 : decode cX1_noteOf 0 = .ok (.aload_n 0, 1) := by decide +kernel
theorem dX1_noteOf_1 : decode cX1_noteOf 1 = .ok (.iload_n 1, 1) := by decide +kernel
theorem dX1_noteOf_2 : decode cX1_noteOf 2 = .ok (.invokevirtual 61, 3) := by decide +kernel
theorem dX1_noteOf_5 : decode cX1_noteOf 5 = .ok (.ifCond .eq 12, 3) := by decide +kernel
theorem dX1_noteOf_8 : decode cX1_noteOf 8 = .ok (.aload_n 0, 1) := by decide +kernel
theorem dX1_noteOf_9 : decode cX1_noteOf 9 = .ok (.getfield 35, 3) := by decide +kernel
theorem dX1_noteOf_12 : decode cX1_noteOf 12 = .ok (.iload_n 1, 1) := by decide +kernel
theorem dX1_noteOf_13 : decode cX1_noteOf 13 = .ok (.iaload, 1) := by decide +kernel
theorem dX1_noteOf_14 : decode cX1_noteOf 14 = .ok (.goto 4, 3) := by decide +kernel
theorem dX1_noteOf_17 : decode cX1_noteOf 17 = .ok (.iconst 0, 1) := by decide +kernel
theorem dX1_noteOf_18 : decode cX1_noteOf 18 = .ok (.ireturn, 1) := by decide +kernel
theorem dX1_sortAfter_0 : decode cX1_sortAfter 0 = .ok (.iload_n 1, 1) := by decide +kernel
theorem dX1_sortAfter_1 : decode cX1_sortAfter 1 = .ok (.ifCond .lt 21, 3) := by decide +kernel
theorem dX1_sortAfter_4 : decode cX1_sortAfter 4 = .ok (.iload_n 1, 1) := by decide +kernel
theorem dX1_sortAfter_5 : decode cX1_sortAfter 5 = .ok (.aload_n 0, 1) := by decide +kernel
theorem dX1_sortAfter_6 : decode cX1_sortAfter 6 = .ok (.getfield 25, 3) := by decide +kernel
theorem dX1_sortAfter_9 : decode cX1_sortAfter 9 = .ok (.if_icmp .ge 13, 3) := by decide +kernel
theorem dX1_sortAfter_12 : decode cX1_sortAfter 12 = .ok (.iload_n 2, 1) := by decide +kernel
theorem dX1_sortAfter_13 : decode cX1_sortAfter 13 = .ok (.ifCond .lt 9, 3) := by decide +kernel
theorem dX1_sortAfter_16 : decode cX1_sortAfter 16 = .ok (.iload_n 2, 1) := by decide +kernel
theorem dX1_sortAfter_17 : decode cX1_sortAfter 17 = .ok (.bipush 8, 2) := by decide +kernel
theorem dX1_sortAfter_19 : decode cX1_sortAfter 19 = .ok (.if_icmp .lt 5, 3) := by decide +kernel
theorem dX1_sortAfter_22 : decode cX1_sortAfter 22 = .ok (.iconst 0, 1) := by decide +kernel
theorem dX1_sortAfter_23 : decode cX1_sortAfter 23 = .ok (.ireturn, 1) := by decide +kernel
theorem dX1_sortAfter_24 : decode cX1_sortAfter 24 = .ok (.aload_n 0, 1) := by decide +kernel
theorem dX1_sortAfter_25 : decode cX1_sortAfter 25 = .ok (.getfield 28, 3) := by decide +kernel
theorem dX1_sortAfter_28 : decode cX1_sortAfter 28 = .ok (.iload_n 1, 1) := by decide +kernel
theorem dX1_sortAfter_29 : decode cX1_sortAfter 29 = .ok (.bipush 8, 2) := by decide +kernel
theorem dX1_sortAfter_31 : decode cX1_sortAfter 31 = .ok (.imul, 1) := by decide +kernel
theorem dX1_sortAfter_32 : decode cX1_sortAfter 32 = .ok (.iload_n 2, 1) := by decide +kernel
theorem dX1_sortAfter_33 : decode cX1_sortAfter 33 = .ok (.iadd, 1) := by decide +kernel
theorem dX1_sortAfter_34 : decode cX1_sortAfter 34 = .ok (.iaload, 1) := by decide +kernel
theorem dX1_sortAfter_35 : decode cX1_sortAfter 35 = .ok (.istore_n 3, 1) := by decide +kernel
theorem dX1_sortAfter_36 : decode cX1_sortAfter 36 = .ok (.iload_n 3, 1) := by decide +kernel
theorem dX1_sortAfter_37 : decode cX1_sortAfter 37 = .ok (.ifCond .lt 20, 3) := by decide +kernel
theorem dX1_sortAfter_40 : decode cX1_sortAfter 40 = .ok (.iload_n 3, 1) := by decide +kernel
theorem dX1_sortAfter_41 : decode cX1_sortAfter 41 = .ok (.aload_n 0, 1) := by decide +kernel
theorem dX1_sortAfter_42 : decode cX1_sortAfter 42 = .ok (.getfield 25, 3) := by decide +kernel
theorem dX1_sortAfter_45 : decode cX1_sortAfter 45 = .ok (.if_icmp .ge 12, 3) := by decide +kernel
theorem dX1_sortAfter_48 : decode cX1_sortAfter 48 = .ok (.aload_n 0, 1) := by decide +kernel
theorem dX1_sortAfter_49 : decode cX1_sortAfter 49 = .ok (.getfield 38, 3) := by decide +kernel
theorem dX1_sortAfter_52 : decode cX1_sortAfter 52 = .ok (.iload_n 3, 1) := by decide +kernel
theorem dX1_sortAfter_53 : decode cX1_sortAfter 53 = .ok (.iaload, 1) := by decide +kernel
theorem dX1_sortAfter_54 : decode cX1_sortAfter 54 = .ok (.goto 4, 3) := by decide +kernel
theorem dX1_sortAfter_57 : decode cX1_sortAfter 57 = .ok (.iconst 0, 1) := by decide +kernel
theorem dX1_sortAfter_58 : decode cX1_sortAfter 58 = .ok (.ireturn, 1) := by decide +kernel
set_option maxRecDepth 20000 in
theorem ggX1_reduceInto_X1_tellApart : GoodIn wsX1_reduceInto wsX1_tellApart := goodIn_r _ [5, 6, 7, 8, 4, 9, 10, 11, 12, 13, 14, 15, 16, 17, 18, 19, 20, 21, 22, 23, 24, 25, 26, 27, 28, 29, 30, 31, 32, 33, 34, 35, 36, 37, 38, 39, 40, 41, 42, 43, 44, 103, 104, 105, 106, 107, 108, 109, 110, 111, 112, 113, 114, 115, 116] (by decide +kernel) (by decide +kernel)
set_option maxRecDepth 20000 in
theorem gX1_reduceInto_X1_tellApart : GoodIn wsX1_reduceInto (wsV RX1 68 RX1 yX1_tellApart wsX1_tellApart) := goodIn_app (goodIn_of _ (by decide +kernel)) ggX1_reduceInto_X1_tellApart
set_option maxRecDepth 20000 in
theorem ggX1_reduceInto_X1_putInOrder : GoodIn wsX1_reduceInto wsX1_putInOrder := goodIn_r _ [48, 11, 12, 49, 50, 51, 52, 24, 25, 26, 53, 54, 55, 4, 56, 57, 58, 59, 60, 40, 41, 42, 43, 44, 103, 104, 105, 106, 107, 108, 109, 110, 111, 112, 113] (by decide +kernel) (by decide +kernel)
set_option maxRecDepth 20000 in
theorem gX1_reduceInto_X1_putInOrder : GoodIn wsX1_reduceInto (wsV RX1 72 RX1 yX1_putInOrder wsX1_putInOrder) := goodIn_app (goodIn_of _ (by decide +kernel)) ggX1_reduceInto_X1_putInOrder
set_option maxRecDepth 20000 in
theorem ggX1_reduceInto_X1_copyInto : GoodIn wsX1_reduceInto wsX1_copyInto := goodIn_r _ [64, 51, 13, 65, 66, 67, 68, 69, 70, 71, 72, 73, 74, 75, 76, 77, 57, 58, 59, 4, 60, 49, 78, 79, 80, 81, 11, 82, 83, 84, 85, 86, 87, 88, 89, 90, 40, 41, 42, 43, 44, 12, 91, 92, 93, 94, 50, 95, 96, 97, 98, 99, 100, 101, 102, 103, 104, 105, 106, 107, 108, 109, 110, 111, 112, 113, 117, 118, 119] (by decide +kernel) (by decide +kernel)
set_option maxRecDepth 20000 in
theorem gX1_reduceInto_X1_copyInto : GoodIn wsX1_reduceInto (wsV RX1 76 RX1 yX1_copyInto wsX1_copyInto) := goodIn_app (goodIn_of _ (by decide +kernel)) ggX1_reduceInto_X1_copyInto
theorem dX1_reduceInto_0 : decode cX1_reduceInto 0 = .ok (.aload_n 0, 1) := by decide +kernel
theorem dX1_reduceInto_1 : decode cX1_reduceInto 1 = .ok (.invokevirtual 68, 3) := by decide +kernel
theorem dX1_reduceInto_4 : decode cX1_reduceInto 4 = .ok (.ifCond .ne 6, 3) := by decide +kernel
theorem dX1_reduceInto_7 : decode cX1_reduceInto 7 = .ok (.bipush (-6), 2) := by decide +kernel
theorem dX1_reduceInto_9 : decode cX1_reduceInto 9 = .ok (.ireturn, 1) := by decide +kernel
theorem dX1_reduceInto_10 : decode cX1_reduceInto 10 = .ok (.aload_n 0, 1) := by decide +kernel
theorem dX1_reduceInto_11 : decode cX1_reduceInto 11 = .ok (.invokevirtual 72, 3) := by decide +kernel
theorem dX1_reduceInto_14 : decode cX1_reduceInto 14 = .ok (.istore_n 2, 1) := by decide +kernel
theorem dX1_reduceInto_15 : decode cX1_reduceInto 15 = .ok (.aload_n 0, 1) := by decide +kernel
theorem dX1_reduceInto_16 : decode cX1_reduceInto 16 = .ok (.aload_n 1, 1) := by decide +kernel
theorem dX1_reduceInto_17 : decode cX1_reduceInto 17 = .ok (.iload_n 2, 1) := by decide +kernel
theorem dX1_reduceInto_18 : decode cX1_reduceInto 18 = .ok (.invokevirtual 76, 3) := by decide +kernel
theorem dX1_reduceInto_21 : decode cX1_reduceInto 21 = .ok (.iload_n 2, 1) := by decide +kernel
theorem dX1_reduceInto_22 : decode cX1_reduceInto 22 = .ok (.ireturn, 1) := by decide +kernel
set_option maxRecDepth 20000 in
theorem ggX1_tellApart_X1_sortBySays : GoodIn wsX1_tellApart wsX1_sortBySays := goodIn_r _ [5, 6, 7, 8, 9, 10, 11, 12, 13, 14, 15, 16, 17, 18, 19, 20, 21, 22, 23, 24, 25, 26, 27, 28, 29, 30, 41, 42, 43, 44, 45, 46, 47, 48, 49, 50, 51, 52, 53, 54] (by decide +kernel) (by decide +kernel)
set_option maxRecDepth 20000 in
theorem gX1_tellApart_X1_sortBySays : GoodIn wsX1_tellApart (wsV RX1 80 RX1 yX1_sortBySays wsX1_sortBySays) := goodIn_app (goodIn_of _ (by decide +kernel)) ggX1_tellApart_X1_sortBySays
set_option maxRecDepth 20000 in
theorem ggX1_tellApart_X1_splitBy : GoodIn wsX1_tellApart wsX1_splitBy := goodIn_r _ [34, 6, 7, 35, 8, 10, 11, 12, 13, 14, 15, 16, 17, 18, 19, 20, 21, 22, 27, 28, 29, 30, 36, 37, 38, 4, 39, 40, 23, 24, 25, 26, 41, 42, 43, 44, 45, 46, 47, 48, 49, 50, 51, 52, 53, 54] (by decide +kernel) (by decide +kernel)
set_option maxRecDepth 20000 in
theorem gX1_tellApart_X1_splitBy : GoodIn wsX1_tellApart (wsV RX1 83 RX1 yX1_splitBy wsX1_splitBy) := goodIn_app (goodIn_of _ (by decide +kernel)) ggX1_tellApart_X1_splitBy
theorem dX1_tellApart_0 : decode cX1_tellApart 0 = .ok (.aload_n 0, 1) := by decide +kernel
theorem dX1_tellApart_1 : decode cX1_tellApart 1 = .ok (.invokevirtual 80, 3) := by decide +kernel
theorem dX1_tellApart_4 : decode cX1_tellApart 4 = .ok (.istore_n 1, 1) := by decide +kernel
theorem dX1_tellApart_5 : decode cX1_tellApart 5 = .ok (.iconst 0, 1) := by decide +kernel
theorem dX1_tellApart_6 : decode cX1_tellApart 6 = .ok (.istore_n 2, 1) := by decide +kernel
theorem dX1_tellApart_7 : decode cX1_tellApart 7 = .ok (.iload_n 2, 1) := by decide +kernel
theorem dX1_tellApart_8 : decode cX1_tellApart 8 = .ok (.bipush 60, 2) := by decide +kernel
theorem dX1_tellApart_10 : decode cX1_tellApart 10 = .ok (.if_icmp .gt 54, 3) := by decide +kernel
theorem dX1_tellApart_13 : decode cX1_tellApart 13 = .ok (.iload_n 1, 1) := by decide +kernel
theorem dX1_tellApart_14 : decode cX1_tellApart 14 = .ok (.istore_n 3, 1) := by decide +kernel
theorem dX1_tellApart_15 : decode cX1_tellApart 15 = .ok (.iconst 0, 1) := by decide +kernel
theorem dX1_tellApart_16 : decode cX1_tellApart 16 = .ok (.istore 4, 2) := by decide +kernel
theorem dX1_tellApart_18 : decode cX1_tellApart 18 = .ok (.iload 4, 2) := by decide +kernel
theorem dX1_tellApart_20 : decode cX1_tellApart 20 = .ok (.bipush 8, 2) := by decide +kernel
theorem dX1_tellApart_22 : decode cX1_tellApart 22 = .ok (.if_icmp .ge 22, 3) := by decide +kernel
theorem dX1_tellApart_25 : decode cX1_tellApart 25 = .ok (.iload_n 1, 1) := by decide +kernel
theorem dX1_tellApart_26 : decode cX1_tellApart 26 = .ok (.bipush 60, 2) := by decide +kernel
theorem dX1_tellApart_28 : decode cX1_tellApart 28 = .ok (.if_icmp .gt 16, 3) := by decide +kernel
theorem dX1_tellApart_31 : decode cX1_tellApart 31 = .ok (.aload_n 0, 1) := by decide +kernel
theorem dX1_tellApart_32 : decode cX1_tellApart 32 = .ok (.iload 4, 2) := by decide +kernel
theorem dX1_tellApart_34 : decode cX1_tellApart 34 = .ok (.invokevirtual 83, 3) := by decide +kernel
theorem dX1_tellApart_37 : decode cX1_tellApart 37 = .ok (.istore_n 1, 1) := by decide +kernel
theorem dX1_tellApart_38 : decode cX1_tellApart 38 = .ok (.iinc 4 1, 3) := by decide +kernel
theorem dX1_tellApart_41 : decode cX1_tellApart 41 = .ok (.goto (-23), 3) := by decide +kernel
theorem dX1_tellApart_44 : decode cX1_tellApart 44 = .ok (.iload_n 1, 1) := by decide +kernel
theorem dX1_tellApart_45 : decode cX1_tellApart 45 = .ok (.iload_n 3, 1) := by decide +kernel
theorem dX1_tellApart_46 : decode cX1_tellApart 46 = .ok (.if_icmp .eq 18, 3) := by decide +kernel
theorem dX1_tellApart_49 : decode cX1_tellApart 49 = .ok (.iload_n 1, 1) := by decide +kernel
theorem dX1_tellApart_50 : decode cX1_tellApart 50 = .ok (.bipush 60, 2) := by decide +kernel
theorem dX1_tellApart_52 : decode cX1_tellApart 52 = .ok (.if_icmp .le 6, 3) := by decide +kernel
theorem dX1_tellApart_55 : decode cX1_tellApart 55 = .ok (.goto 9, 3) := by decide +kernel
theorem dX1_tellApart_58 : decode cX1_tellApart 58 = .ok (.iinc 2 1, 3) := by decide +kernel
theorem dX1_tellApart_61 : decode cX1_tellApart 61 = .ok (.goto (-54), 3) := by decide +kernel
theorem dX1_tellApart_64 : decode cX1_tellApart 64 = .ok (.iload_n 1, 1) := by decide +kernel
theorem dX1_tellApart_65 : decode cX1_tellApart 65 = .ok (.bipush 60, 2) := by decide +kernel
theorem dX1_tellApart_67 : decode cX1_tellApart 67 = .ok (.if_icmp .gt 7, 3) := by decide +kernel
theorem dX1_tellApart_70 : decode cX1_tellApart 70 = .ok (.iconst 1, 1) := by decide +kernel
theorem dX1_tellApart_71 : decode cX1_tellApart 71 = .ok (.goto 4, 3) := by decide +kernel
theorem dX1_tellApart_74 : decode cX1_tellApart 74 = .ok (.iconst 0, 1) := by decide +kernel
theorem dX1_tellApart_75 : decode cX1_tellApart 75 = .ok (.ireturn, 1) := by decide +kernel
set_option maxRecDepth 20000 in
theorem ggX1_sortBySays_X3_forget : GoodIn wsX1_sortBySays wsX3_forget := goodIn_r _ [9, 10, 11, 12, 13, 14, 15, 16, 17, 37, 38, 39] (by decide +kernel) (by decide +kernel)
set_option maxRecDepth 20000 in
theorem gX1_sortBySays_X3_forget : GoodIn wsX1_sortBySays (wsV RX1 87 RX3 yX3_forget wsX3_forget) := goodIn_app (goodIn_of _ (by decide +kernel)) ggX1_sortBySays_X3_forget
set_option maxRecDepth 20000 in
theorem ggX1_sortBySays_X3_numberOf : GoodIn wsX1_sortBySays wsX3_numberOf := goodIn_r _ [21, 12, 10, 13, 37, 38, 39] (by decide +kernel) (by decide +kernel)
set_option maxRecDepth 20000 in
theorem gX1_sortBySays_X3_numberOf : GoodIn wsX1_sortBySays (wsV RX1 92 RX3 yX3_numberOf wsX3_numberOf) := goodIn_app (goodIn_of _ (by decide +kernel)) ggX1_sortBySays_X3_numberOf
set_option maxRecDepth 20000 in
theorem ggX1_sortBySays_X3_count : GoodIn wsX1_sortBySays wsX3_count := goodIn_r _ [25, 13, 37, 38, 39] (by decide +kernel) (by decide +kernel)
set_option maxRecDepth 20000 in
theorem gX1_sortBySays_X3_count : GoodIn wsX1_sortBySays (wsV RX1 95 RX3 yX3_count wsX3_count) := goodIn_app (goodIn_of _ (by decide +kernel)) ggX1_sortBySays_X3_count
theorem dX1_sortBySays_0 : decode cX1_sortBySays 0 = .ok (.aload_n 0, 1) := by decide +kernel
theorem dX1_sortBySays_1 : decode cX1_sortBySays 1 = .ok (.getfield 44, 3) := by decide +kernel
theorem dX1_sortBySays_4 : decode cX1_sortBySays 4 = .ok (.invokevirtual 87, 3) := by decide +kernel
theorem dX1_sortBySays_7 : decode cX1_sortBySays 7 = .ok (.iconst 0, 1) := by decide +kernel
theorem dX1_sortBySays_8 : decode cX1_sortBySays 8 = .ok (.istore_n 1, 1) := by decide +kernel
theorem dX1_sortBySays_9 : decode cX1_sortBySays 9 = .ok (.iload_n 1, 1) := by decide +kernel
theorem dX1_sortBySays_10 : decode cX1_sortBySays 10 = .ok (.aload_n 0, 1) := by decide +kernel
theorem dX1_sortBySays_11 : decode cX1_sortBySays 11 = .ok (.getfield 25, 3) := by decide +kernel
theorem dX1_sortBySays_14 : decode cX1_sortBySays 14 = .ok (.if_icmp .ge 37, 3) := by decide +kernel
theorem dX1_sortBySays_17 : decode cX1_sortBySays 17 = .ok (.aload_n 0, 1) := by decide +kernel
theorem dX1_sortBySays_18 : decode cX1_sortBySays 18 = .ok (.getfield 38, 3) := by decide +kernel
theorem dX1_sortBySays_21 : decode cX1_sortBySays 21 = .ok (.iload_n 1, 1) := by decide +kernel
theorem dX1_sortBySays_22 : decode cX1_sortBySays 22 = .ok (.aload_n 0, 1) := by decide +kernel
theorem dX1_sortBySays_23 : decode cX1_sortBySays 23 = .ok (.getfield 44, 3) := by decide +kernel
theorem dX1_sortBySays_26 : decode cX1_sortBySays 26 = .ok (.iconst 0, 1) := by decide +kernel
theorem dX1_sortBySays_27 : decode cX1_sortBySays 27 = .ok (.aload_n 0, 1) := by decide +kernel
theorem dX1_sortBySays_28 : decode cX1_sortBySays 28 = .ok (.getfield 31, 3) := by decide +kernel
theorem dX1_sortBySays_31 : decode cX1_sortBySays 31 = .ok (.iload_n 1, 1) := by decide +kernel
theorem dX1_sortBySays_32 : decode cX1_sortBySays 32 = .ok (.baload, 1) := by decide +kernel
theorem dX1_sortBySays_33 : decode cX1_sortBySays 33 = .ok (.ifCond .eq 7, 3) := by decide +kernel
theorem dX1_sortBySays_36 : decode cX1_sortBySays 36 = .ok (.iconst 1, 1) := by decide +kernel
theorem dX1_sortBySays_37 : decode cX1_sortBySays 37 = .ok (.goto 4, 3) := by decide +kernel
theorem dX1_sortBySays_40 : decode cX1_sortBySays 40 = .ok (.iconst 0, 1) := by decide +kernel
theorem dX1_sortBySays_41 : decode cX1_sortBySays 41 = .ok (.invokevirtual 92, 3) := by decide +kernel
theorem dX1_sortBySays_44 : decode cX1_sortBySays 44 = .ok (.iastore, 1) := by decide +kernel
theorem dX1_sortBySays_45 : decode cX1_sortBySays 45 = .ok (.iinc 1 1, 3) := by decide +kernel
theorem dX1_sortBySays_48 : decode cX1_sortBySays 48 = .ok (.goto (-39), 3) := by decide +kernel
theorem dX1_sortBySays_51 : decode cX1_sortBySays 51 = .ok (.aload_n 0, 1) := by decide +kernel
theorem dX1_sortBySays_52 : decode cX1_sortBySays 52 = .ok (.getfield 44, 3) := by decide +kernel
theorem dX1_sortBySays_55 : decode cX1_sortBySays 55 = .ok (.invokevirtual 95, 3) := by decide +kernel
theorem dX1_sortBySays_58 : decode cX1_sortBySays 58 = .ok (.ireturn, 1) := by decide +kernel
set_option maxRecDepth 20000 in
theorem ggX1_splitBy_X3_forget : GoodIn wsX1_splitBy wsX3_forget := goodIn_r _ [9, 10, 11, 12, 13, 14, 15, 16, 17, 43, 44, 45] (by decide +kernel) (by decide +kernel)
set_option maxRecDepth 20000 in
theorem gX1_splitBy_X3_forget : GoodIn wsX1_splitBy (wsV RX1 87 RX3 yX3_forget wsX3_forget) := goodIn_app (goodIn_of _ (by decide +kernel)) ggX1_splitBy_X3_forget
set_option maxRecDepth 20000 in
theorem ggX1_splitBy_X3_count : GoodIn wsX1_splitBy wsX3_count := goodIn_r _ [21, 13, 43, 44, 45] (by decide +kernel) (by decide +kernel)
set_option maxRecDepth 20000 in
theorem gX1_splitBy_X3_count : GoodIn wsX1_splitBy (wsV RX1 95 RX3 yX3_count wsX3_count) := goodIn_app (goodIn_of _ (by decide +kernel)) ggX1_splitBy_X3_count
set_option maxRecDepth 20000 in
theorem ggX1_splitBy_X1_sortAfter : GoodIn wsX1_splitBy wsX1_sortAfter := goodIn_r _ [26, 2, 27, 4, 32, 33, 34, 35, 36, 37, 38, 39, 40, 41, 42] (by decide +kernel) (by decide +kernel)
set_option maxRecDepth 20000 in
theorem gX1_splitBy_X1_sortAfter : GoodIn wsX1_splitBy (wsV RX1 97 RX1 yX1_sortAfter wsX1_sortAfter) := goodIn_app (goodIn_of _ (by decide +kernel)) ggX1_splitBy_X1_sortAfter
set_option maxRecDepth 20000 in
theorem ggX1_splitBy_X3_numberOf : GoodIn wsX1_splitBy wsX3_numberOf := goodIn_r _ [31, 12, 10, 13, 43, 44, 45] (by decide +kernel) (by decide +kernel)
set_option maxRecDepth 20000 in
theorem gX1_splitBy_X3_numberOf : GoodIn wsX1_splitBy (wsV RX1 92 RX3 yX3_numberOf wsX3_numberOf) := goodIn_app (goodIn_of _ (by decide +kernel)) ggX1_splitBy_X3_numberOf
theorem dX1_splitBy_0 : decode cX1_splitBy 0 = .ok (.aload_n 0, 1) := by decide +kernel
theorem dX1_splitBy_1 : decode cX1_splitBy 1 = .ok (.getfield 44, 3) := by decide +kernel
theorem dX1_splitBy_4 : decode cX1_splitBy 4 = .ok (.invokevirtual 87, 3) := by decide +kernel
theorem dX1_splitBy_7 : decode cX1_splitBy 7 = .ok (.iconst 0, 1) := by decide +kernel
theorem dX1_splitBy_8 : decode cX1_splitBy 8 = .ok (.istore_n 2, 1) := by decide +kernel
theorem dX1_splitBy_9 : decode cX1_splitBy 9 = .ok (.iload_n 2, 1) := by decide +kernel
theorem dX1_splitBy_10 : decode cX1_splitBy 10 = .ok (.aload_n 0, 1) := by decide +kernel
theorem dX1_splitBy_11 : decode cX1_splitBy 11 = .ok (.getfield 25, 3) := by decide +kernel
theorem dX1_splitBy_14 : decode cX1_splitBy 14 = .ok (.if_icmp .ge 46, 3) := by decide +kernel
theorem dX1_splitBy_17 : decode cX1_splitBy 17 = .ok (.aload_n 0, 1) := by decide +kernel
theorem dX1_splitBy_18 : decode cX1_splitBy 18 = .ok (.getfield 44, 3) := by decide +kernel
theorem dX1_splitBy_21 : decode cX1_splitBy 21 = .ok (.invokevirtual 95, 3) := by decide +kernel
theorem dX1_splitBy_24 : decode cX1_splitBy 24 = .ok (.bipush 60, 2) := by decide +kernel
theorem dX1_splitBy_26 : decode cX1_splitBy 26 = .ok (.if_icmp .gt 34, 3) := by decide +kernel
theorem dX1_splitBy_29 : decode cX1_splitBy 29 = .ok (.aload_n 0, 1) := by decide +kernel
theorem dX1_splitBy_30 : decode cX1_splitBy 30 = .ok (.getfield 41, 3) := by decide +kernel
theorem dX1_splitBy_33 : decode cX1_splitBy 33 = .ok (.iload_n 2, 1) := by decide +kernel
theorem dX1_splitBy_34 : decode cX1_splitBy 34 = .ok (.aload_n 0, 1) := by decide +kernel
theorem dX1_splitBy_35 : decode cX1_splitBy 35 = .ok (.getfield 44, 3) := by decide +kernel
theorem dX1_splitBy_38 : decode cX1_splitBy 38 = .ok (.aload_n 0, 1) := by decide +kernel
theorem dX1_splitBy_39 : decode cX1_splitBy 39 = .ok (.getfield 38, 3) := by decide +kernel
theorem dX1_splitBy_42 : decode cX1_splitBy 42 = .ok (.iload_n 2, 1) := by decide +kernel
theorem dX1_splitBy_43 : decode cX1_splitBy 43 = .ok (.iaload, 1) := by decide +kernel
theorem dX1_splitBy_44 : decode cX1_splitBy 44 = .ok (.aload_n 0, 1) := by decide +kernel
theorem dX1_splitBy_45 : decode cX1_splitBy 45 = .ok (.iload_n 2, 1) := by decide +kernel
theorem dX1_splitBy_46 : decode cX1_splitBy 46 = .ok (.iload_n 1, 1) := by decide +kernel
theorem dX1_splitBy_47 : decode cX1_splitBy 47 = .ok (.invokevirtual 97, 3) := by decide +kernel
theorem dX1_splitBy_50 : decode cX1_splitBy 50 = .ok (.invokevirtual 92, 3) := by decide +kernel
theorem dX1_splitBy_53 : decode cX1_splitBy 53 = .ok (.iastore, 1) := by decide +kernel
theorem dX1_splitBy_54 : decode cX1_splitBy 54 = .ok (.iinc 2 1, 3) := by decide +kernel
theorem dX1_splitBy_57 : decode cX1_splitBy 57 = .ok (.goto (-48), 3) := by decide +kernel
theorem dX1_splitBy_60 : decode cX1_splitBy 60 = .ok (.aload_n 0, 1) := by decide +kernel
theorem dX1_splitBy_61 : decode cX1_splitBy 61 = .ok (.getfield 38, 3) := by decide +kernel
theorem dX1_splitBy_64 : decode cX1_splitBy 64 = .ok (.astore_n 2, 1) := by decide +kernel
theorem dX1_splitBy_65 : decode cX1_splitBy 65 = .ok (.aload_n 0, 1) := by decide +kernel
theorem dX1_splitBy_66 : decode cX1_splitBy 66 = .ok (.aload_n 0, 1) := by decide +kernel
theorem dX1_splitBy_67 : decode cX1_splitBy 67 = .ok (.getfield 41, 3) := by decide +kernel
theorem dX1_splitBy_70 : decode cX1_splitBy 70 = .ok (.putfield 38, 3) := by decide +kernel
theorem dX1_splitBy_73 : decode cX1_splitBy 73 = .ok (.aload_n 0, 1) := by decide +kernel
theorem dX1_splitBy_74 : decode cX1_splitBy 74 = .ok (.aload_n 2, 1) := by decide +kernel
theorem dX1_splitBy_75 : decode cX1_splitBy 75 = .ok (.putfield 41, 3) := by decide +kernel
theorem dX1_splitBy_78 : decode cX1_splitBy 78 = .ok (.aload_n 0, 1) := by decide +kernel
theorem dX1_splitBy_79 : decode cX1_splitBy 79 = .ok (.getfield 44, 3) := by decide +kernel
theorem dX1_splitBy_82 : decode cX1_splitBy 82 = .ok (.invokevirtual 95, 3) := by decide +kernel
theorem dX1_splitBy_85 : decode cX1_splitBy 85 = .ok (.ireturn, 1) := by decide +kernel
set_option maxRecDepth 20000 in
theorem ggX1_putInOrder_J7_fill_53178 : GoodIn wsX1_putInOrder wsJ7_fill_53178 := goodIn_r _ [9] (by decide +kernel) (by decide +kernel)
set_option maxRecDepth 20000 in
theorem gX1_putInOrder_J7_fill_53178 : GoodIn wsX1_putInOrder (va_wsS RX1 100 yJ7_fill_53178 wsJ7_fill_53178) := goodIn_app (goodIn_of _ (by decide +kernel)) ggX1_putInOrder_J7_fill_53178
set_option maxRecDepth 20000 in
theorem ggX1_putInOrder_X1_meet : GoodIn wsX1_putInOrder wsX1_meet := goodIn_r _ [14, 4, 5, 24, 25, 26, 27, 28, 29, 30, 31, 32, 33, 34] (by decide +kernel) (by decide +kernel)
set_option maxRecDepth 20000 in
theorem gX1_putInOrder_X1_meet : GoodIn wsX1_putInOrder (wsV RX1 106 RX1 yX1_meet wsX1_meet) := goodIn_app (goodIn_of _ (by decide +kernel)) ggX1_putInOrder_X1_meet
set_option maxRecDepth 20000 in
theorem ggX1_putInOrder_X1_stateOfSort : GoodIn wsX1_putInOrder wsX1_stateOfSort := goodIn_r _ [18, 3, 24, 25, 26, 27, 28, 29, 30, 31, 32, 33, 34] (by decide +kernel) (by decide +kernel)
set_option maxRecDepth 20000 in
theorem gX1_putInOrder_X1_stateOfSort : GoodIn wsX1_putInOrder (wsV RX1 109 RX1 yX1_stateOfSort wsX1_stateOfSort) := goodIn_app (goodIn_of _ (by decide +kernel)) ggX1_putInOrder_X1_stateOfSort
set_option maxRecDepth 20000 in
theorem ggX1_putInOrder_X1_sortAfter : GoodIn wsX1_putInOrder wsX1_sortAfter := goodIn_r _ [22, 1, 23, 2, 24, 25, 26, 27, 28, 29, 30, 31, 32, 33, 34] (by decide +kernel) (by decide +kernel)
set_option maxRecDepth 20000 in
theorem gX1_putInOrder_X1_sortAfter : GoodIn wsX1_putInOrder (wsV RX1 97 RX1 yX1_sortAfter wsX1_sortAfter) := goodIn_app (goodIn_of _ (by decide +kernel)) ggX1_putInOrder_X1_sortAfter
theorem dX1_putInOrder_0 : decode cX1_putInOrder 0 = .ok (.iconst 0, 1) := by decide +kernel
theorem dX1_putInOrder_1 : decode cX1_putInOrder 1 = .ok (.istore_n 1, 1) := by decide +kernel
theorem dX1_putInOrder_2 : decode cX1_putInOrder 2 = .ok (.iload_n 1, 1) := by decide +kernel
theorem dX1_putInOrder_3 : decode cX1_putInOrder 3 = .ok (.aload_n 0, 1) := by decide +kernel
theorem dX1_putInOrder_4 : decode cX1_putInOrder 4 = .ok (.getfield 25, 3) := by decide +kernel
theorem dX1_putInOrder_7 : decode cX1_putInOrder 7 = .ok (.if_icmp .ge 41, 3) := by decide +kernel
theorem dX1_putInOrder_10 : decode cX1_putInOrder 10 = .ok (.aload_n 0, 1) := by decide +kernel
theorem dX1_putInOrder_11 : decode cX1_putInOrder 11 = .ok (.getfield 38, 3) := by decide +kernel
theorem dX1_putInOrder_14 : decode cX1_putInOrder 14 = .ok (.iload_n 1, 1) := by decide +kernel
theorem dX1_putInOrder_15 : decode cX1_putInOrder 15 = .ok (.iaload, 1) := by decide +kernel
theorem dX1_putInOrder_16 : decode cX1_putInOrder 16 = .ok (.ifCond .lt 26, 3) := by decide +kernel
theorem dX1_putInOrder_19 : decode cX1_putInOrder 19 = .ok (.aload_n 0, 1) := by decide +kernel
theorem dX1_putInOrder_20 : decode cX1_putInOrder 20 = .ok (.getfield 38, 3) := by decide +kernel
theorem dX1_putInOrder_23 : decode cX1_putInOrder 23 = .ok (.iload_n 1, 1) := by decide +kernel
theorem dX1_putInOrder_24 : decode cX1_putInOrder 24 = .ok (.iaload, 1) := by decide +kernel
theorem dX1_putInOrder_25 : decode cX1_putInOrder 25 = .ok (.bipush 60, 2) := by decide +kernel
theorem dX1_putInOrder_27 : decode cX1_putInOrder 27 = .ok (.if_icmp .ge 15, 3) := by decide +kernel
theorem dX1_putInOrder_30 : decode cX1_putInOrder 30 = .ok (.aload_n 0, 1) := by decide +kernel
theorem dX1_putInOrder_31 : decode cX1_putInOrder 31 = .ok (.getfield 9, 3) := by decide +kernel
theorem dX1_putInOrder_34 : decode cX1_putInOrder 34 = .ok (.aload_n 0, 1) := by decide +kernel
theorem dX1_putInOrder_35 : decode cX1_putInOrder 35 = .ok (.getfield 38, 3) := by decide +kernel
theorem dX1_putInOrder_38 : decode cX1_putInOrder 38 = .ok (.iload_n 1, 1) := by decide +kernel
theorem dX1_putInOrder_39 : decode cX1_putInOrder 39 = .ok (.iaload, 1) := by decide +kernel
theorem dX1_putInOrder_40 : decode cX1_putInOrder 40 = .ok (.iload_n 1, 1) := by decide +kernel
theorem dX1_putInOrder_41 : decode cX1_putInOrder 41 = .ok (.iastore, 1) := by decide +kernel
theorem dX1_putInOrder_42 : decode cX1_putInOrder 42 = .ok (.iinc 1 1, 3) := by decide +kernel
theorem dX1_putInOrder_45 : decode cX1_putInOrder 45 = .ok (.goto (-43), 3) := by decide +kernel
theorem dX1_putInOrder_48 : decode cX1_putInOrder 48 = .ok (.aload_n 0, 1) := by decide +kernel
theorem dX1_putInOrder_49 : decode cX1_putInOrder 49 = .ok (.getfield 15, 3) := by decide +kernel
theorem dX1_putInOrder_52 : decode cX1_putInOrder 52 = .ok (.iconst (-1), 1) := by decide +kernel
theorem dX1_putInOrder_53 : decode cX1_putInOrder 53 = .ok (.invokestatic 100, 3) := by decide +kernel
theorem dX1_putInOrder_56 : decode cX1_putInOrder 56 = .ok (.aload_n 0, 1) := by decide +kernel
theorem dX1_putInOrder_57 : decode cX1_putInOrder 57 = .ok (.aload_n 0, 1) := by decide +kernel
theorem dX1_putInOrder_58 : decode cX1_putInOrder 58 = .ok (.getfield 38, 3) := by decide +kernel
theorem dX1_putInOrder_61 : decode cX1_putInOrder 61 = .ok (.iconst 0, 1) := by decide +kernel
theorem dX1_putInOrder_62 : decode cX1_putInOrder 62 = .ok (.iaload, 1) := by decide +kernel
theorem dX1_putInOrder_63 : decode cX1_putInOrder 63 = .ok (.iconst 0, 1) := by decide +kernel
theorem dX1_putInOrder_64 : decode cX1_putInOrder 64 = .ok (.invokevirtual 106, 3) := by decide +kernel
theorem dX1_putInOrder_67 : decode cX1_putInOrder 67 = .ok (.istore_n 1, 1) := by decide +kernel
theorem dX1_putInOrder_68 : decode cX1_putInOrder 68 = .ok (.iconst 0, 1) := by decide +kernel
theorem dX1_putInOrder_69 : decode cX1_putInOrder 69 = .ok (.istore_n 2, 1) := by decide +kernel
theorem dX1_putInOrder_70 : decode cX1_putInOrder 70 = .ok (.iload_n 2, 1) := by decide +kernel
theorem dX1_putInOrder_71 : decode cX1_putInOrder 71 = .ok (.iload_n 1, 1) := by decide +kernel
theorem dX1_putInOrder_72 : decode cX1_putInOrder 72 = .ok (.if_icmp .ge 55, 3) := by decide +kernel
theorem dX1_putInOrder_75 : decode cX1_putInOrder 75 = .ok (.iload_n 2, 1) := by decide +kernel
theorem dX1_putInOrder_76 : decode cX1_putInOrder 76 = .ok (.bipush 60, 2) := by decide +kernel
theorem dX1_putInOrder_78 : decode cX1_putInOrder 78 = .ok (.if_icmp .ge 49, 3) := by decide +kernel
theorem dX1_putInOrder_81 : decode cX1_putInOrder 81 = .ok (.aload_n 0, 1) := by decide +kernel
theorem dX1_putInOrder_82 : decode cX1_putInOrder 82 = .ok (.aload_n 0, 1) := by decide +kernel
theorem dX1_putInOrder_83 : decode cX1_putInOrder 83 = .ok (.getfield 18, 3) := by decide +kernel
theorem dX1_putInOrder_86 : decode cX1_putInOrder 86 = .ok (.iload_n 2, 1) := by decide +kernel
theorem dX1_putInOrder_87 : decode cX1_putInOrder 87 = .ok (.iaload, 1) := by decide +kernel
theorem dX1_putInOrder_88 : decode cX1_putInOrder 88 = .ok (.invokevirtual 109, 3) := by decide +kernel
theorem dX1_putInOrder_91 : decode cX1_putInOrder 91 = .ok (.istore_n 3, 1) := by decide +kernel
theorem dX1_putInOrder_92 : decode cX1_putInOrder 92 = .ok (.iconst 0, 1) := by decide +kernel
theorem dX1_putInOrder_93 : decode cX1_putInOrder 93 = .ok (.istore 4, 2) := by decide +kernel
theorem dX1_putInOrder_95 : decode cX1_putInOrder 95 = .ok (.iload 4, 2) := by decide +kernel
theorem dX1_putInOrder_97 : decode cX1_putInOrder 97 = .ok (.bipush 8, 2) := by decide +kernel
theorem dX1_putInOrder_99 : decode cX1_putInOrder 99 = .ok (.if_icmp .ge 22, 3) := by decide +kernel
theorem dX1_putInOrder_102 : decode cX1_putInOrder 102 = .ok (.aload_n 0, 1) := by decide +kernel
theorem dX1_putInOrder_103 : decode cX1_putInOrder 103 = .ok (.aload_n 0, 1) := by decide +kernel
theorem dX1_putInOrder_104 : decode cX1_putInOrder 104 = .ok (.iload_n 3, 1) := by decide +kernel
theorem dX1_putInOrder_105 : decode cX1_putInOrder 105 = .ok (.iload 4, 2) := by decide +kernel
theorem dX1_putInOrder_107 : decode cX1_putInOrder 107 = .ok (.invokevirtual 97, 3) := by decide +kernel
theorem dX1_putInOrder_110 : decode cX1_putInOrder 110 = .ok (.iload_n 1, 1) := by decide +kernel
theorem dX1_putInOrder_111 : decode cX1_putInOrder 111 = .ok (.invokevirtual 106, 3) := by decide +kernel
theorem dX1_putInOrder_114 : decode cX1_putInOrder 114 = .ok (.istore_n 1, 1) := by decide +kernel
theorem dX1_putInOrder_115 : decode cX1_putInOrder 115 = .ok (.iinc 4 1, 3) := by decide +kernel
theorem dX1_putInOrder_118 : decode cX1_putInOrder 118 = .ok (.goto (-23), 3) := by decide +kernel
theorem dX1_putInOrder_121 : decode cX1_putInOrder 121 = .ok (.iinc 2 1, 3) := by decide +kernel
theorem dX1_putInOrder_124 : decode cX1_putInOrder 124 = .ok (.goto (-54), 3) := by decide +kernel
theorem dX1_putInOrder_127 : decode cX1_putInOrder 127 = .ok (.iload_n 1, 1) := by decide +kernel
theorem dX1_putInOrder_128 : decode cX1_putInOrder 128 = .ok (.ireturn, 1) := by decide +kernel
set_option maxRecDepth 20000 in
theorem ggX1_copyInto_X0_begin : GoodIn wsX1_copyInto wsX0_begin := goodIn_r _ [7, 8, 9, 10, 11, 12, 13, 14, 15, 66, 67, 68] (by decide +kernel) (by decide +kernel)
set_option maxRecDepth 20000 in
theorem gX1_copyInto_X0_begin : GoodIn wsX1_copyInto (wsV RX1 112 RX0 yX0_begin wsX0_begin) := goodIn_app (goodIn_of _ (by decide +kernel)) ggX1_copyInto_X0_begin
set_option maxRecDepth 20000 in
theorem ggX1_copyInto_X1_stateOfSort : GoodIn wsX1_copyInto wsX1_stateOfSort := goodIn_r _ [20, 21, 55, 56, 57, 58, 59, 60, 61, 62, 63, 64, 65] (by decide +kernel) (by decide +kernel)
set_option maxRecDepth 20000 in
theorem gX1_copyInto_X1_stateOfSort : GoodIn wsX1_copyInto (wsV RX1 109 RX1 yX1_stateOfSort wsX1_stateOfSort) := goodIn_app (goodIn_of _ (by decide +kernel)) ggX1_copyInto_X1_stateOfSort
set_option maxRecDepth 20000 in
theorem ggX1_copyInto_X1_isState : GoodIn wsX1_copyInto wsX1_isState := goodIn_r _ [25, 26, 55, 56, 57, 58, 59, 60, 61, 62, 63, 64, 65] (by decide +kernel) (by decide +kernel)
set_option maxRecDepth 20000 in
theorem gX1_copyInto_X1_isState : GoodIn wsX1_copyInto (wsV RX1 61 RX1 yX1_isState wsX1_isState) := goodIn_app (goodIn_of _ (by decide +kernel)) ggX1_copyInto_X1_isState
set_option maxRecDepth 20000 in
theorem ggX1_copyInto_X0_writeSays : GoodIn wsX1_copyInto wsX0_writeSays := goodIn_r _ [30, 31, 32, 33, 34, 6, 35, 15, 66, 67, 68] (by decide +kernel) (by decide +kernel)
set_option maxRecDepth 20000 in
theorem gX1_copyInto_X0_writeSays : GoodIn wsX1_copyInto (wsV RX1 117 RX0 yX0_writeSays wsX0_writeSays) := goodIn_app (goodIn_of _ (by decide +kernel)) ggX1_copyInto_X0_writeSays
set_option maxRecDepth 20000 in
theorem ggX1_copyInto_X1_sortAfter : GoodIn wsX1_copyInto wsX1_sortAfter := goodIn_r _ [39, 26, 40, 41, 55, 56, 57, 58, 59, 60, 61, 62, 63, 64, 65] (by decide +kernel) (by decide +kernel)
set_option maxRecDepth 20000 in
theorem gX1_copyInto_X1_sortAfter : GoodIn wsX1_copyInto (wsV RX1 97 RX1 yX1_sortAfter wsX1_sortAfter) := goodIn_app (goodIn_of _ (by decide +kernel)) ggX1_copyInto_X1_sortAfter
set_option maxRecDepth 20000 in
theorem ggX1_copyInto_X1_kindOfSort : GoodIn wsX1_copyInto wsX1_kindOfSort := goodIn_r _ [45, 46, 55, 56, 57, 58, 59, 60, 61, 62, 63, 64, 65] (by decide +kernel) (by decide +kernel)
set_option maxRecDepth 20000 in
theorem gX1_copyInto_X1_kindOfSort : GoodIn wsX1_copyInto (wsV RX1 121 RX1 yX1_kindOfSort wsX1_kindOfSort) := goodIn_app (goodIn_of _ (by decide +kernel)) ggX1_copyInto_X1_kindOfSort
set_option maxRecDepth 20000 in
theorem ggX1_copyInto_X0_write : GoodIn wsX1_copyInto wsX0_write := goodIn_r _ [50, 51, 32, 33, 34, 6, 35, 15, 52, 53, 54, 66, 67, 68] (by decide +kernel) (by decide +kernel)
set_option maxRecDepth 20000 in
theorem gX1_copyInto_X0_write : GoodIn wsX1_copyInto (wsV RX1 124 RX0 yX0_write wsX0_write) := goodIn_app (goodIn_of _ (by decide +kernel)) ggX1_copyInto_X0_write
theorem dX1_copyInto_0 : decode cX1_copyInto 0 = .ok (.aload_n 1, 1) := by decide +kernel
theorem dX1_copyInto_1 : decode cX1_copyInto 1 = .ok (.iload_n 2, 1) := by decide +kernel
theorem dX1_copyInto_2 : decode cX1_copyInto 2 = .ok (.invokevirtual 112, 3) := by decide +kernel
theorem dX1_copyInto_5 : decode cX1_copyInto 5 = .ok (.iconst 0, 1) := by decide +kernel
theorem dX1_copyInto_6 : decode cX1_copyInto 6 = .ok (.istore_n 3, 1) := by decide +kernel
theorem dX1_copyInto_7 : decode cX1_copyInto 7 = .ok (.iload_n 3, 1) := by decide +kernel
theorem dX1_copyInto_8 : decode cX1_copyInto 8 = .ok (.iload_n 2, 1) := by decide +kernel
theorem dX1_copyInto_9 : decode cX1_copyInto 9 = .ok (.if_icmp .ge 91, 3) := by decide +kernel
theorem dX1_copyInto_12 : decode cX1_copyInto 12 = .ok (.iload_n 3, 1) := by decide +kernel
theorem dX1_copyInto_13 : decode cX1_copyInto 13 = .ok (.bipush 60, 2) := by decide +kernel
theorem dX1_copyInto_15 : decode cX1_copyInto 15 = .ok (.if_icmp .ge 85, 3) := by decide +kernel
theorem dX1_copyInto_18 : decode cX1_copyInto 18 = .ok (.aload_n 0, 1) := by decide +kernel
theorem dX1_copyInto_19 : decode cX1_copyInto 19 = .ok (.aload_n 0, 1) := by decide +kernel
theorem dX1_copyInto_20 : decode cX1_copyInto 20 = .ok (.getfield 18, 3) := by decide +kernel
theorem dX1_copyInto_23 : decode cX1_copyInto 23 = .ok (.iload_n 3, 1) := by decide +kernel
theorem dX1_copyInto_24 : decode cX1_copyInto 24 = .ok (.iaload, 1) := by decide +kernel
theorem dX1_copyInto_25 : decode cX1_copyInto 25 = .ok (.invokevirtual 109, 3) := by decide +kernel
theorem dX1_copyInto_28 : decode cX1_copyInto 28 = .ok (.istore 4, 2) := by decide +kernel
theorem dX1_copyInto_30 : decode cX1_copyInto 30 = .ok (.aload_n 1, 1) := by decide +kernel
theorem dX1_copyInto_31 : decode cX1_copyInto 31 = .ok (.iload_n 3, 1) := by decide +kernel
theorem dX1_copyInto_32 : decode cX1_copyInto 32 = .ok (.aload_n 0, 1) := by decide +kernel
theorem dX1_copyInto_33 : decode cX1_copyInto 33 = .ok (.iload 4, 2) := by decide +kernel
theorem dX1_copyInto_35 : decode cX1_copyInto 35 = .ok (.invokevirtual 61, 3) := by decide +kernel
theorem dX1_copyInto_38 : decode cX1_copyInto 38 = .ok (.ifCond .eq 17, 3) := by decide +kernel
theorem dX1_copyInto_41 : decode cX1_copyInto 41 = .ok (.aload_n 0, 1) := by decide +kernel
theorem dX1_copyInto_42 : decode cX1_copyInto 42 = .ok (.getfield 31, 3) := by decide +kernel
theorem dX1_copyInto_45 : decode cX1_copyInto 45 = .ok (.iload 4, 2) := by decide +kernel
theorem dX1_copyInto_47 : decode cX1_copyInto 47 = .ok (.baload, 1) := by decide +kernel
theorem dX1_copyInto_48 : decode cX1_copyInto 48 = .ok (.ifCond .eq 7, 3) := by decide +kernel
theorem dX1_copyInto_51 : decode cX1_copyInto 51 = .ok (.iconst 1, 1) := by decide +kernel
theorem dX1_copyInto_52 : decode cX1_copyInto 52 = .ok (.goto 4, 3) := by decide +kernel
theorem dX1_copyInto_55 : decode cX1_copyInto 55 = .ok (.iconst 0, 1) := by decide +kernel
theorem dX1_copyInto_56 : decode cX1_copyInto 56 = .ok (.invokevirtual 117, 3) := by decide +kernel
theorem dX1_copyInto_59 : decode cX1_copyInto 59 = .ok (.iconst 0, 1) := by decide +kernel
theorem dX1_copyInto_60 : decode cX1_copyInto 60 = .ok (.istore 5, 2) := by decide +kernel
theorem dX1_copyInto_62 : decode cX1_copyInto 62 = .ok (.iload 5, 2) := by decide +kernel
theorem dX1_copyInto_64 : decode cX1_copyInto 64 = .ok (.bipush 8, 2) := by decide +kernel
theorem dX1_copyInto_66 : decode cX1_copyInto 66 = .ok (.if_icmp .ge 28, 3) := by decide +kernel
theorem dX1_copyInto_69 : decode cX1_copyInto 69 = .ok (.aload_n 1, 1) := by decide +kernel
theorem dX1_copyInto_70 : decode cX1_copyInto 70 = .ok (.iload_n 3, 1) := by decide +kernel
theorem dX1_copyInto_71 : decode cX1_copyInto 71 = .ok (.iload 5, 2) := by decide +kernel
theorem dX1_copyInto_73 : decode cX1_copyInto 73 = .ok (.aload_n 0, 1) := by decide +kernel
theorem dX1_copyInto_74 : decode cX1_copyInto 74 = .ok (.aload_n 0, 1) := by decide +kernel
theorem dX1_copyInto_75 : decode cX1_copyInto 75 = .ok (.iload 4, 2) := by decide +kernel
theorem dX1_copyInto_77 : decode cX1_copyInto 77 = .ok (.iload 5, 2) := by decide +kernel
theorem dX1_copyInto_79 : decode cX1_copyInto 79 = .ok (.invokevirtual 97, 3) := by decide +kernel
theorem dX1_copyInto_82 : decode cX1_copyInto 82 = .ok (.invokevirtual 121, 3) := by decide +kernel
theorem dX1_copyInto_85 : decode cX1_copyInto 85 = .ok (.invokevirtual 124, 3) := by decide +kernel
theorem dX1_copyInto_88 : decode cX1_copyInto 88 = .ok (.iinc 5 1, 3) := by decide +kernel
theorem dX1_copyInto_91 : decode cX1_copyInto 91 = .ok (.goto (-29), 3) := by decide +kernel
theorem dX1_copyInto_94 : decode cX1_copyInto 94 = .ok (.iinc 3 1, 3) := by decide +kernel
theorem dX1_copyInto_97 : decode cX1_copyInto 97 = .ok (.goto (-90), 3) := by decide +kernel
theorem dX1_copyInto_100 : decode cX1_copyInto 100 = .ok (.return_, 1) := by decide +kernel
theorem dX1_meet_0 : decode cX1_meet 0 = .ok (.iload_n 1, 1) := by decide +kernel
theorem dX1_meet_1 : decode cX1_meet 1 = .ok (.ifCond .lt 28, 3) := by decide +kernel
theorem dX1_meet_4 : decode cX1_meet 4 = .ok (.iload_n 1, 1) := by decide +kernel
theorem dX1_meet_5 : decode cX1_meet 5 = .ok (.bipush 60, 2) := by decide +kernel
theorem dX1_meet_7 : decode cX1_meet 7 = .ok (.if_icmp .ge 22, 3) := by decide +kernel
theorem dX1_meet_10 : decode cX1_meet 10 = .ok (.iload_n 2, 1) := by decide +kernel
theorem dX1_meet_11 : decode cX1_meet 11 = .ok (.ifCond .lt 18, 3) := by decide +kernel
theorem dX1_meet_14 : decode cX1_meet 14 = .ok (.iload_n 2, 1) := by decide +kernel
theorem dX1_meet_15 : decode cX1_meet 15 = .ok (.bipush 60, 2) := by decide +kernel
theorem dX1_meet_17 : decode cX1_meet 17 = .ok (.if_icmp .ge 12, 3) := by decide +kernel
theorem dX1_meet_20 : decode cX1_meet 20 = .ok (.aload_n 0, 1) := by decide +kernel
theorem dX1_meet_21 : decode cX1_meet 21 = .ok (.getfield 15, 3) := by decide +kernel
theorem dX1_meet_24 : decode cX1_meet 24 = .ok (.iload_n 1, 1) := by decide +kernel
theorem dX1_meet_25 : decode cX1_meet 25 = .ok (.iaload, 1) := by decide +kernel
theorem dX1_meet_26 : decode cX1_meet 26 = .ok (.ifCond .lt 5, 3) := by decide +kernel
theorem dX1_meet_29 : decode cX1_meet 29 = .ok (.iload_n 2, 1) := by decide +kernel
theorem dX1_meet_30 : decode cX1_meet 30 = .ok (.ireturn, 1) := by decide +kernel
theorem dX1_meet_31 : decode cX1_meet 31 = .ok (.aload_n 0, 1) := by decide +kernel
theorem dX1_meet_32 : decode cX1_meet 32 = .ok (.getfield 15, 3) := by decide +kernel
theorem dX1_meet_35 : decode cX1_meet 35 = .ok (.iload_n 1, 1) := by decide +kernel
theorem dX1_meet_36 : decode cX1_meet 36 = .ok (.iload_n 2, 1) := by decide +kernel
theorem dX1_meet_37 : decode cX1_meet 37 = .ok (.iastore, 1) := by decide +kernel
theorem dX1_meet_38 : decode cX1_meet 38 = .ok (.aload_n 0, 1) := by decide +kernel
theorem dX1_meet_39 : decode cX1_meet 39 = .ok (.getfield 18, 3) := by decide +kernel
theorem dX1_meet_42 : decode cX1_meet 42 = .ok (.iload_n 2, 1) := by decide +kernel
theorem dX1_meet_43 : decode cX1_meet 43 = .ok (.iload_n 1, 1) := by decide +kernel
theorem dX1_meet_44 : decode cX1_meet 44 = .ok (.iastore, 1) := by decide +kernel
theorem dX1_meet_45 : decode cX1_meet 45 = .ok (.iload_n 2, 1) := by decide +kernel
theorem dX1_meet_46 : decode cX1_meet 46 = .ok (.iconst 1, 1) := by decide +kernel
theorem dX1_meet_47 : decode cX1_meet 47 = .ok (.iadd, 1) := by decide +kernel
theorem dX1_meet_48 : decode cX1_meet 48 = .ok (.ireturn, 1) := by decide +kernel
theorem dX1_stateOfSort_0 : decode cX1_stateOfSort 0 = .ok (.iload_n 1, 1) := by decide +kernel
theorem dX1_stateOfSort_1 : decode cX1_stateOfSort 1 = .ok (.ifCond .lt 18, 3) := by decide +kernel
theorem dX1_stateOfSort_4 : decode cX1_stateOfSort 4 = .ok (.iload_n 1, 1) := by decide +kernel
theorem dX1_stateOfSort_5 : decode cX1_stateOfSort 5 = .ok (.bipush 60, 2) := by decide +kernel
theorem dX1_stateOfSort_7 : decode cX1_stateOfSort 7 = .ok (.if_icmp .ge 12, 3) := by decide +kernel
theorem dX1_stateOfSort_10 : decode cX1_stateOfSort 10 = .ok (.aload_n 0, 1) := by decide +kernel
theorem dX1_stateOfSort_11 : decode cX1_stateOfSort 11 = .ok (.getfield 9, 3) := by decide +kernel
theorem dX1_stateOfSort_14 : decode cX1_stateOfSort 14 = .ok (.iload_n 1, 1) := by decide +kernel
theorem dX1_stateOfSort_15 : decode cX1_stateOfSort 15 = .ok (.iaload, 1) := by decide +kernel
theorem dX1_stateOfSort_16 : decode cX1_stateOfSort 16 = .ok (.goto 4, 3) := by decide +kernel
theorem dX1_stateOfSort_19 : decode cX1_stateOfSort 19 = .ok (.iconst 0, 1) := by decide +kernel
theorem dX1_stateOfSort_20 : decode cX1_stateOfSort 20 = .ok (.ireturn, 1) := by decide +kernel
theorem dX1_kindOfSort_0 : decode cX1_kindOfSort 0 = .ok (.iload_n 1, 1) := by decide +kernel
theorem dX1_kindOfSort_1 : decode cX1_kindOfSort 1 = .ok (.ifCond .lt 18, 3) := by decide +kernel
theorem dX1_kindOfSort_4 : decode cX1_kindOfSort 4 = .ok (.iload_n 1, 1) := by decide +kernel
theorem dX1_kindOfSort_5 : decode cX1_kindOfSort 5 = .ok (.bipush 60, 2) := by decide +kernel
theorem dX1_kindOfSort_7 : decode cX1_kindOfSort 7 = .ok (.if_icmp .ge 12, 3) := by decide +kernel
theorem dX1_kindOfSort_10 : decode cX1_kindOfSort 10 = .ok (.aload_n 0, 1) := by decide +kernel
theorem dX1_kindOfSort_11 : decode cX1_kindOfSort 11 = .ok (.getfield 15, 3) := by decide +kernel
theorem dX1_kindOfSort_14 : decode cX1_kindOfSort 14 = .ok (.iload_n 1, 1) := by decide +kernel
theorem dX1_kindOfSort_15 : decode cX1_kindOfSort 15 = .ok (.iaload, 1) := by decide +kernel
theorem dX1_kindOfSort_16 : decode cX1_kindOfSort 16 = .ok (.goto 4, 3) := by decide +kernel
theorem dX1_kindOfSort_19 : decode cX1_kindOfSort 19 = .ok (.iconst 0, 1) := by decide +kernel
theorem dX1_kindOfSort_20 : decode cX1_kindOfSort 20 = .ok (.ireturn, 1) := by decide +kernel
theorem dX2_init_0 : decode cX2_init 0 = .ok (.aload_n 0, 1) := by decide +kernel
theorem dX2_init_1 : decode cX2_init 1 = .ok (.invokespecial 5, 3) := by decide +kernel
theorem dX2_init_4 : decode cX2_init 4 = .ok (.aload_n 0, 1) := by decide +kernel
theorem dX2_init_5 : decode cX2_init 5 = .ok (.aload_n 1, 1) := by decide +kernel
theorem dX2_init_6 : decode cX2_init 6 = .ok (.putfield 11, 3) := by decide +kernel
theorem dX2_init_9 : decode cX2_init 9 = .ok (.aload_n 0, 1) := by decide +kernel
theorem dX2_init_10 : decode cX2_init 10 = .ok (.aload_n 2, 1) := by decide +kernel
theorem dX2_init_11 : decode cX2_init 11 = .ok (.putfield 15, 3) := by decide +kernel
theorem dX2_init_14 : decode cX2_init 14 = .ok (.return_, 1) := by decide +kernel
set_option maxRecDepth 20000 in
theorem ggX2_join_X0_size : GoodIn wsX2_join wsX0_size := goodIn_r _ [7, 8, 168, 169, 170] (by decide +kernel) (by decide +kernel)
set_option maxRecDepth 20000 in
theorem gX2_join_X0_size : GoodIn wsX2_join (wsV RX2 19 RX0 yX0_size wsX0_size) := goodIn_app (goodIn_of _ (by decide +kernel)) ggX2_join_X0_size
set_option maxRecDepth 20000 in
theorem ggX2_join_X1_begin : GoodIn wsX2_join wsX1_begin := goodIn_r _ [13, 14, 15, 16, 17, 18, 19, 20, 21, 22, 23, 24, 25, 12, 26, 27, 28, 29, 30, 31, 32, 33, 171, 172, 173, 174, 175, 176, 177, 178, 179, 180, 181] (by decide +kernel) (by decide +kernel)
set_option maxRecDepth 20000 in
theorem gX2_join_X1_begin : GoodIn wsX2_join (wsV RX2 25 RX1 yX1_begin wsX1_begin) := goodIn_app (goodIn_of _ (by decide +kernel)) ggX2_join_X1_begin
set_option maxRecDepth 20000 in
theorem ggX2_join_X3_forget : GoodIn wsX2_join wsX3_forget := goodIn_r _ [38, 39, 40, 41, 42, 43, 44, 45, 46, 182, 183, 184] (by decide +kernel) (by decide +kernel)
set_option maxRecDepth 20000 in
theorem gX2_join_X3_forget : GoodIn wsX2_join (wsV RX2 31 RX3 yX3_forget wsX3_forget) := goodIn_app (goodIn_of _ (by decide +kernel)) ggX2_join_X3_forget
set_option maxRecDepth 20000 in
theorem ggX2_join_X2_stateFor : GoodIn wsX2_join wsX2_stateFor := goodIn_r _ [51, 2, 1, 52, 53, 54, 37, 55, 41, 39, 42, 56, 57, 58, 12, 59, 22, 60, 61, 62, 63, 14, 64, 65, 66, 67, 31, 68, 69, 70, 71, 166, 167, 182, 183, 184, 171, 172, 173, 174, 175, 176, 177, 178, 179, 180, 181] (by decide +kernel) (by decide +kernel)
set_option maxRecDepth 20000 in
theorem gX2_join_X2_stateFor : GoodIn wsX2_join (wsV RX2 36 RX2 yX2_stateFor wsX2_stateFor) := goodIn_app (goodIn_of _ (by decide +kernel)) ggX2_join_X2_stateFor
set_option maxRecDepth 20000 in
theorem ggX2_join_X1_count : GoodIn wsX2_join wsX1_count := goodIn_r _ [59, 22, 171, 172, 173, 174, 175, 176, 177, 178, 179, 180, 181] (by decide +kernel) (by decide +kernel)
set_option maxRecDepth 20000 in
theorem gX2_join_X1_count : GoodIn wsX2_join (wsV RX2 40 RX1 yX1_count wsX1_count) := goodIn_app (goodIn_of _ (by decide +kernel)) ggX2_join_X1_count
set_option maxRecDepth 20000 in
theorem ggX2_join_X1_noteOf : GoodIn wsX2_join wsX1_noteOf := goodIn_r _ [75, 31, 68, 69, 70, 12, 71, 22, 171, 172, 173, 174, 175, 176, 177, 178, 179, 180, 181] (by decide +kernel) (by decide +kernel)
set_option maxRecDepth 20000 in
theorem gX2_join_X1_noteOf : GoodIn wsX2_join (wsV RX2 43 RX1 yX1_noteOf wsX1_noteOf) := goodIn_app (goodIn_of _ (by decide +kernel)) ggX2_join_X1_noteOf
set_option maxRecDepth 20000 in
theorem ggX2_join_X0_after : GoodIn wsX2_join wsX0_after := goodIn_r _ [79, 80, 81, 82, 83, 6, 84, 8, 85, 86, 87, 168, 169, 170] (by decide +kernel) (by decide +kernel)
set_option maxRecDepth 20000 in
theorem gX2_join_X0_after : GoodIn wsX2_join (wsV RX2 47 RX0 yX0_after wsX0_after) := goodIn_app (goodIn_of _ (by decide +kernel)) ggX2_join_X0_after
set_option maxRecDepth 20000 in
theorem ggX2_join_X1_write : GoodIn wsX2_join wsX1_write := goodIn_r _ [91, 28, 68, 69, 70, 12, 71, 22, 85, 86, 87, 171, 172, 173, 174, 175, 176, 177, 178, 179, 180, 181] (by decide +kernel) (by decide +kernel)
set_option maxRecDepth 20000 in
theorem gX2_join_X1_write : GoodIn wsX2_join (wsV RX2 50 RX1 yX1_write wsX1_write) := goodIn_app (goodIn_of _ (by decide +kernel)) ggX2_join_X1_write
set_option maxRecDepth 20000 in
theorem ggX2_join_X0_saysAt : GoodIn wsX2_join wsX0_saysAt := goodIn_r _ [95, 96, 81, 82, 83, 6, 84, 8, 168, 169, 170] (by decide +kernel) (by decide +kernel)
set_option maxRecDepth 20000 in
theorem gX2_join_X0_saysAt : GoodIn wsX2_join (wsV RX2 54 RX0 yX0_saysAt wsX0_saysAt) := goodIn_app (goodIn_of _ (by decide +kernel)) ggX2_join_X0_saysAt
set_option maxRecDepth 20000 in
theorem ggX2_join_X1_writeSays : GoodIn wsX2_join wsX1_writeSays := goodIn_r _ [100, 30, 68, 69, 70, 12, 71, 22, 171, 172, 173, 174, 175, 176, 177, 178, 179, 180, 181] (by decide +kernel) (by decide +kernel)
set_option maxRecDepth 20000 in
theorem gX2_join_X1_writeSays : GoodIn wsX2_join (wsV RX2 58 RX1 yX1_writeSays wsX1_writeSays) := goodIn_app (goodIn_of _ (by decide +kernel)) ggX2_join_X1_writeSays
set_option maxRecDepth 20000 in
theorem ggX2_join_X1_reduceInto : GoodIn wsX2_join wsX1_reduceInto := goodIn_r _ [104, 105, 106, 107, 12, 108, 109, 110, 111, 112, 113, 22, 32, 30, 114, 35, 36, 37, 38, 39, 40, 41, 42, 43, 44, 45, 46, 115, 53, 54, 55, 116, 117, 118, 119, 120, 121, 122, 123, 33, 124, 125, 126, 127, 28, 128, 129, 130, 131, 132, 133, 134, 135, 136, 137, 138, 139, 140, 141, 142, 143, 144, 145, 146, 147, 148, 149, 150, 6, 151, 152, 16, 17, 18, 153, 20, 21, 8, 68, 69, 70, 71, 154, 155, 156, 157, 96, 81, 82, 83, 84, 158, 159, 160, 161, 162, 163, 164, 165, 80, 85, 86, 87, 171, 172, 173, 174, 175, 176, 177, 178, 179, 180, 181, 182, 183, 184, 168, 169, 170] (by decide +kernel) (by decide +kernel)
set_option maxRecDepth 20000 in
theorem gX2_join_X1_reduceInto : GoodIn wsX2_join (wsV RX2 62 RX1 yX1_reduceInto wsX1_reduceInto) := goodIn_app (goodIn_of _ (by decide +kernel)) ggX2_join_X1_reduceInto
theorem dX2_join_0 : decode cX2_join 0 = .ok (.aload_n 0, 1) := by decide +kernel
theorem dX2_join_1 : decode cX2_join 1 = .ok (.getfield 11, 3) := by decide +kernel
theorem dX2_join_4 : decode cX2_join 4 = .ok (.iconst 0, 1) := by decide +kernel
theorem dX2_join_5 : decode cX2_join 5 = .ok (.aload_n 2, 1) := by decide +kernel
theorem dX2_join_6 : decode cX2_join 6 = .ok (.invokevirtual 19, 3) := by decide +kernel
theorem dX2_join_9 : decode cX2_join 9 = .ok (.aload_n 3, 1) := by decide +kernel
theorem dX2_join_10 : decode cX2_join 10 = .ok (.invokevirtual 19, 3) := by decide +kernel
theorem dX2_join_13 : decode cX2_join 13 = .ok (.imul, 1) := by decide +kernel
theorem dX2_join_14 : decode cX2_join 14 = .ok (.invokevirtual 25, 3) := by decide +kernel
theorem dX2_join_17 : decode cX2_join 17 = .ok (.aload_n 0, 1) := by decide +kernel
theorem dX2_join_18 : decode cX2_join 18 = .ok (.getfield 15, 3) := by decide +kernel
theorem dX2_join_21 : decode cX2_join 21 = .ok (.invokevirtual 31, 3) := by decide +kernel
theorem dX2_join_24 : decode cX2_join 24 = .ok (.aload_n 0, 1) := by decide +kernel
theorem dX2_join_25 : decode cX2_join 25 = .ok (.iconst 0, 1) := by decide +kernel
theorem dX2_join_26 : decode cX2_join 26 = .ok (.iconst 0, 1) := by decide +kernel
theorem dX2_join_27 : decode cX2_join 27 = .ok (.invokevirtual 36, 3) := by decide +kernel
theorem dX2_join_30 : decode cX2_join 30 = .ok (.pop, 1) := by decide +kernel
theorem dX2_join_31 : decode cX2_join 31 = .ok (.iconst 0, 1) := by decide +kernel
theorem dX2_join_32 : decode cX2_join 32 = .ok (.istore 5, 2) := by decide +kernel
theorem dX2_join_34 : decode cX2_join 34 = .ok (.iload 5, 2) := by decide +kernel
theorem dX2_join_36 : decode cX2_join 36 = .ok (.aload_n 0, 1) := by decide +kernel
theorem dX2_join_37 : decode cX2_join 37 = .ok (.getfield 11, 3) := by decide +kernel
theorem dX2_join_40 : decode cX2_join 40 = .ok (.invokevirtual 40, 3) := by decide +kernel
theorem dX2_join_43 : decode cX2_join 43 = .ok (.if_icmp .ge 155, 3) := by decide +kernel
theorem dX2_join_46 : decode cX2_join 46 = .ok (.iload 5, 2) := by decide +kernel
theorem dX2_join_48 : decode cX2_join 48 = .ok (.sipush 3600, 3) := by decide +kernel
theorem dX2_join_51 : decode cX2_join 51 = .ok (.if_icmp .ge 147, 3) := by decide +kernel
theorem dX2_join_54 : decode cX2_join 54 = .ok (.aload_n 0, 1) := by decide +kernel
theorem dX2_join_55 : decode cX2_join 55 = .ok (.getfield 11, 3) := by decide +kernel
theorem dX2_join_58 : decode cX2_join 58 = .ok (.iload 5, 2) := by decide +kernel
theorem dX2_join_60 : decode cX2_join 60 = .ok (.invokevirtual 43, 3) := by decide +kernel
theorem dX2_join_63 : decode cX2_join 63 = .ok (.bipush 6, 2) := by decide +kernel
theorem dX2_join_65 : decode cX2_join 65 = .ok (.ishr, 1) := by decide +kernel
theorem dX2_join_66 : decode cX2_join 66 = .ok (.istore 6, 2) := by decide +kernel
theorem dX2_join_68 : decode cX2_join 68 = .ok (.aload_n 0, 1) := by decide +kernel
theorem dX2_join_69 : decode cX2_join 69 = .ok (.getfield 11, 3) := by decide +kernel
theorem dX2_join_72 : decode cX2_join 72 = .ok (.iload 5, 2) := by decide +kernel
theorem dX2_join_74 : decode cX2_join 74 = .ok (.invokevirtual 43, 3) := by decide +kernel
theorem dX2_join_77 : decode cX2_join 77 = .ok (.bipush 63, 2) := by decide +kernel
theorem dX2_join_79 : decode cX2_join 79 = .ok (.iand, 1) := by decide +kernel
theorem dX2_join_80 : decode cX2_join 80 = .ok (.istore 7, 2) := by decide +kernel
theorem dX2_join_82 : decode cX2_join 82 = .ok (.iconst 0, 1) := by decide +kernel
theorem dX2_join_83 : decode cX2_join 83 = .ok (.istore 8, 2) := by decide +kernel
theorem dX2_join_85 : decode cX2_join 85 = .ok (.iload 8, 2) := by decide +kernel
theorem dX2_join_87 : decode cX2_join 87 = .ok (.bipush 8, 2) := by decide +kernel
theorem dX2_join_89 : decode cX2_join 89 = .ok (.if_icmp .ge 40, 3) := by decide +kernel
theorem dX2_join_92 : decode cX2_join 92 = .ok (.aload_n 0, 1) := by decide +kernel
theorem dX2_join_93 : decode cX2_join 93 = .ok (.getfield 11, 3) := by decide +kernel
theorem dX2_join_96 : decode cX2_join 96 = .ok (.iload 5, 2) := by decide +kernel
theorem dX2_join_98 : decode cX2_join 98 = .ok (.iload 8, 2) := by decide +kernel
theorem dX2_join_100 : decode cX2_join 100 = .ok (.aload_n 0, 1) := by decide +kernel
theorem dX2_join_101 : decode cX2_join 101 = .ok (.aload_n 2, 1) := by decide +kernel
theorem dX2_join_102 : decode cX2_join 102 = .ok (.iload 6, 2) := by decide +kernel
theorem dX2_join_104 : decode cX2_join 104 = .ok (.iload 8, 2) := by decide +kernel
theorem dX2_join_106 : decode cX2_join 106 = .ok (.invokevirtual 47, 3) := by decide +kernel
theorem dX2_join_109 : decode cX2_join 109 = .ok (.aload_n 3, 1) := by decide +kernel
theorem dX2_join_110 : decode cX2_join 110 = .ok (.iload 7, 2) := by decide +kernel
theorem dX2_join_112 : decode cX2_join 112 = .ok (.iload 8, 2) := by decide +kernel
theorem dX2_join_114 : decode cX2_join 114 = .ok (.invokevirtual 47, 3) := by decide +kernel
theorem dX2_join_117 : decode cX2_join 117 = .ok (.invokevirtual 36, 3) := by decide +kernel
theorem dX2_join_120 : decode cX2_join 120 = .ok (.invokevirtual 50, 3) := by decide +kernel
theorem dX2_join_123 : decode cX2_join 123 = .ok (.iinc 8 1, 3) := by decide +kernel
theorem dX2_join_126 : decode cX2_join 126 = .ok (.goto (-41), 3) := by decide +kernel
theorem dX2_join_129 : decode cX2_join 129 = .ok (.aload_n 2, 1) := by decide +kernel
theorem dX2_join_130 : decode cX2_join 130 = .ok (.iload 6, 2) := by decide +kernel
theorem dX2_join_132 : decode cX2_join 132 = .ok (.invokevirtual 54, 3) := by decide +kernel
theorem dX2_join_135 : decode cX2_join 135 = .ok (.istore 8, 2) := by decide +kernel
theorem dX2_join_137 : decode cX2_join 137 = .ok (.aload_n 3, 1) := by decide +kernel
theorem dX2_join_138 : decode cX2_join 138 = .ok (.iload 7, 2) := by decide +kernel
theorem dX2_join_140 : decode cX2_join 140 = .ok (.invokevirtual 54, 3) := by decide +kernel
theorem dX2_join_143 : decode cX2_join 143 = .ok (.istore 9, 2) := by decide +kernel
theorem dX2_join_145 : decode cX2_join 145 = .ok (.aload_n 0, 1) := by decide +kernel
theorem dX2_join_146 : decode cX2_join 146 = .ok (.getfield 11, 3) := by decide +kernel
theorem dX2_join_149 : decode cX2_join 149 = .ok (.iload 5, 2) := by decide +kernel
theorem dX2_join_151 : decode cX2_join 151 = .ok (.iload 4, 2) := by decide +kernel
theorem dX2_join_153 : decode cX2_join 153 = .ok (.ifCond .eq 21, 3) := by decide +kernel
theorem dX2_join_156 : decode cX2_join 156 = .ok (.iload 8, 2) := by decide +kernel
theorem dX2_join_158 : decode cX2_join 158 = .ok (.ifCond .eq 12, 3) := by decide +kernel
theorem dX2_join_161 : decode cX2_join 161 = .ok (.iload 9, 2) := by decide +kernel
theorem dX2_join_163 : decode cX2_join 163 = .ok (.ifCond .eq 7, 3) := by decide +kernel
theorem dX2_join_166 : decode cX2_join 166 = .ok (.iconst 1, 1) := by decide +kernel
theorem dX2_join_167 : decode cX2_join 167 = .ok (.goto 22, 3) := by decide +kernel
theorem dX2_join_170 : decode cX2_join 170 = .ok (.iconst 0, 1) := by decide +kernel
theorem dX2_join_171 : decode cX2_join 171 = .ok (.goto 18, 3) := by decide +kernel
theorem dX2_join_174 : decode cX2_join 174 = .ok (.iload 8, 2) := by decide +kernel
theorem dX2_join_176 : decode cX2_join 176 = .ok (.ifCond .ne 8, 3) := by decide +kernel
theorem dX2_join_179 : decode cX2_join 179 = .ok (.iload 9, 2) := by decide +kernel
theorem dX2_join_181 : decode cX2_join 181 = .ok (.ifCond .eq 7, 3) := by decide +kernel
theorem dX2_join_184 : decode cX2_join 184 = .ok (.iconst 1, 1) := by decide +kernel
theorem dX2_join_185 : decode cX2_join 185 = .ok (.goto 4, 3) := by decide +kernel
theorem dX2_join_188 : decode cX2_join 188 = .ok (.iconst 0, 1) := by decide +kernel
theorem dX2_join_189 : decode cX2_join 189 = .ok (.invokevirtual 58, 3) := by decide +kernel
theorem dX2_join_192 : decode cX2_join 192 = .ok (.iinc 5 1, 3) := by decide +kernel
theorem dX2_join_195 : decode cX2_join 195 = .ok (.goto (-161), 3) := by decide +kernel
theorem dX2_join_198 : decode cX2_join 198 = .ok (.aload_n 0, 1) := by decide +kernel
theorem dX2_join_199 : decode cX2_join 199 = .ok (.getfield 11, 3) := by decide +kernel
theorem dX2_join_202 : decode cX2_join 202 = .ok (.aload_n 1, 1) := by decide +kernel
theorem dX2_join_203 : decode cX2_join 203 = .ok (.invokevirtual 62, 3) := by decide +kernel
theorem dX2_join_206 : decode cX2_join 206 = .ok (.ireturn, 1) := by decide +kernel
set_option maxRecDepth 20000 in
theorem ggX2_stateFor_X3_numberOf : GoodIn wsX2_stateFor wsX3_numberOf := goodIn_r _ [7, 8, 9, 10, 33, 34, 35] (by decide +kernel) (by decide +kernel)
set_option maxRecDepth 20000 in
theorem gX2_stateFor_X3_numberOf : GoodIn wsX2_stateFor (wsV RX2 66 RX3 yX3_numberOf wsX3_numberOf) := goodIn_app (goodIn_of _ (by decide +kernel)) ggX2_stateFor_X3_numberOf
set_option maxRecDepth 20000 in
theorem ggX2_stateFor_X1_count : GoodIn wsX2_stateFor wsX1_count := goodIn_r _ [15, 16, 36, 37, 38, 39, 40, 41, 42, 43, 44, 45, 46] (by decide +kernel) (by decide +kernel)
set_option maxRecDepth 20000 in
theorem gX2_stateFor_X1_count : GoodIn wsX2_stateFor (wsV RX2 40 RX1 yX1_count wsX1_count) := goodIn_app (goodIn_of _ (by decide +kernel)) ggX2_stateFor_X1_count
set_option maxRecDepth 20000 in
theorem ggX2_stateFor_X1_add : GoodIn wsX2_stateFor wsX1_add := goodIn_r _ [20, 16, 21, 36, 37, 38, 39, 40, 41, 42, 43, 44, 45, 46] (by decide +kernel) (by decide +kernel)
set_option maxRecDepth 20000 in
theorem gX2_stateFor_X1_add : GoodIn wsX2_stateFor (wsV RX2 69 RX1 yX1_add wsX1_add) := goodIn_app (goodIn_of _ (by decide +kernel)) ggX2_stateFor_X1_add
set_option maxRecDepth 20000 in
theorem ggX2_stateFor_X1_writeNote : GoodIn wsX2_stateFor wsX1_writeNote := goodIn_r _ [25, 26, 27, 28, 29, 14, 30, 16, 36, 37, 38, 39, 40, 41, 42, 43, 44, 45, 46] (by decide +kernel) (by decide +kernel)
set_option maxRecDepth 20000 in
theorem gX2_stateFor_X1_writeNote : GoodIn wsX2_stateFor (wsV RX2 72 RX1 yX1_writeNote wsX1_writeNote) := goodIn_app (goodIn_of _ (by decide +kernel)) ggX2_stateFor_X1_writeNote
theorem dX2_stateFor_0 : decode cX2_stateFor 0 = .ok (.aload_n 0, 1) := by decide +kernel
theorem dX2_stateFor_1 : decode cX2_stateFor 1 = .ok (.getfield 15, 3) := by decide +kernel
theorem dX2_stateFor_4 : decode cX2_stateFor 4 = .ok (.iload_n 1, 1) := by decide +kernel
theorem dX2_stateFor_5 : decode cX2_stateFor 5 = .ok (.iload_n 2, 1) := by decide +kernel
theorem dX2_stateFor_6 : decode cX2_stateFor 6 = .ok (.invokevirtual 66, 3) := by decide +kernel
theorem dX2_stateFor_9 : decode cX2_stateFor 9 = .ok (.istore_n 3, 1) := by decide +kernel
theorem dX2_stateFor_10 : decode cX2_stateFor 10 = .ok (.iload_n 3, 1) := by decide +kernel
theorem dX2_stateFor_11 : decode cX2_stateFor 11 = .ok (.aload_n 0, 1) := by decide +kernel
theorem dX2_stateFor_12 : decode cX2_stateFor 12 = .ok (.getfield 11, 3) := by decide +kernel
theorem dX2_stateFor_15 : decode cX2_stateFor 15 = .ok (.invokevirtual 40, 3) := by decide +kernel
theorem dX2_stateFor_18 : decode cX2_stateFor 18 = .ok (.if_icmp .ne 24, 3) := by decide +kernel
theorem dX2_stateFor_21 : decode cX2_stateFor 21 = .ok (.aload_n 0, 1) := by decide +kernel
theorem dX2_stateFor_22 : decode cX2_stateFor 22 = .ok (.getfield 11, 3) := by decide +kernel
theorem dX2_stateFor_25 : decode cX2_stateFor 25 = .ok (.invokevirtual 69, 3) := by decide +kernel
theorem dX2_stateFor_28 : decode cX2_stateFor 28 = .ok (.aload_n 0, 1) := by decide +kernel
theorem dX2_stateFor_29 : decode cX2_stateFor 29 = .ok (.getfield 11, 3) := by decide +kernel
theorem dX2_stateFor_32 : decode cX2_stateFor 32 = .ok (.iload_n 3, 1) := by decide +kernel
theorem dX2_stateFor_33 : decode cX2_stateFor 33 = .ok (.iload_n 1, 1) := by decide +kernel
theorem dX2_stateFor_34 : decode cX2_stateFor 34 = .ok (.bipush 6, 2) := by decide +kernel
theorem dX2_stateFor_36 : decode cX2_stateFor 36 = .ok (.ishl, 1) := by decide +kernel
theorem dX2_stateFor_37 : decode cX2_stateFor 37 = .ok (.iload_n 2, 1) := by decide +kernel
theorem dX2_stateFor_38 : decode cX2_stateFor 38 = .ok (.ior, 1) := by decide +kernel
theorem dX2_stateFor_39 : decode cX2_stateFor 39 = .ok (.invokevirtual 72, 3) := by decide +kernel
theorem dX2_stateFor_42 : decode cX2_stateFor 42 = .ok (.iload_n 3, 1) := by decide +kernel
theorem dX2_stateFor_43 : decode cX2_stateFor 43 = .ok (.ireturn, 1) := by decide +kernel
set_option maxRecDepth 20000 in
theorem ggX2_exchange_X0_size : GoodIn wsX2_exchange wsX0_size := goodIn_r _ [6, 7, 150, 151, 152] (by decide +kernel) (by decide +kernel)
set_option maxRecDepth 20000 in
theorem gX2_exchange_X0_size : GoodIn wsX2_exchange (wsV RX2 19 RX0 yX0_size wsX0_size) := goodIn_app (goodIn_of _ (by decide +kernel)) ggX2_exchange_X0_size
set_option maxRecDepth 20000 in
theorem ggX2_exchange_X1_begin : GoodIn wsX2_exchange wsX1_begin := goodIn_r _ [12, 13, 14, 15, 16, 17, 18, 19, 20, 21, 22, 23, 24, 11, 25, 26, 27, 28, 29, 30, 31, 32, 153, 154, 155, 156, 157, 158, 159, 160, 161, 162, 163] (by decide +kernel) (by decide +kernel)
set_option maxRecDepth 20000 in
theorem gX2_exchange_X1_begin : GoodIn wsX2_exchange (wsV RX2 25 RX1 yX1_begin wsX1_begin) := goodIn_app (goodIn_of _ (by decide +kernel)) ggX2_exchange_X1_begin
set_option maxRecDepth 20000 in
theorem ggX2_exchange_X2_exchanged : GoodIn wsX2_exchange wsX2_exchanged := goodIn_r _ [36, 37, 38, 39] (by decide +kernel) (by decide +kernel)
set_option maxRecDepth 20000 in
theorem gX2_exchange_X2_exchanged : GoodIn wsX2_exchange (va_wsS RX2 75 yX2_exchanged wsX2_exchanged) := goodIn_app (goodIn_of _ (by decide +kernel)) ggX2_exchange_X2_exchanged
set_option maxRecDepth 20000 in
theorem ggX2_exchange_X0_after : GoodIn wsX2_exchange wsX0_after := goodIn_r _ [43, 44, 45, 46, 47, 5, 48, 7, 49, 38, 50, 150, 151, 152] (by decide +kernel) (by decide +kernel)
set_option maxRecDepth 20000 in
theorem gX2_exchange_X0_after : GoodIn wsX2_exchange (wsV RX2 47 RX0 yX0_after wsX0_after) := goodIn_app (goodIn_of _ (by decide +kernel)) ggX2_exchange_X0_after
set_option maxRecDepth 20000 in
theorem ggX2_exchange_X1_write : GoodIn wsX2_exchange wsX1_write := goodIn_r _ [54, 27, 55, 56, 57, 11, 58, 21, 49, 38, 50, 153, 154, 155, 156, 157, 158, 159, 160, 161, 162, 163] (by decide +kernel) (by decide +kernel)
set_option maxRecDepth 20000 in
theorem gX2_exchange_X1_write : GoodIn wsX2_exchange (wsV RX2 50 RX1 yX1_write wsX1_write) := goodIn_app (goodIn_of _ (by decide +kernel)) ggX2_exchange_X1_write
set_option maxRecDepth 20000 in
theorem ggX2_exchange_X0_saysAt : GoodIn wsX2_exchange wsX0_saysAt := goodIn_r _ [62, 63, 45, 46, 47, 5, 48, 7, 150, 151, 152] (by decide +kernel) (by decide +kernel)
set_option maxRecDepth 20000 in
theorem gX2_exchange_X0_saysAt : GoodIn wsX2_exchange (wsV RX2 54 RX0 yX0_saysAt wsX0_saysAt) := goodIn_app (goodIn_of _ (by decide +kernel)) ggX2_exchange_X0_saysAt
set_option maxRecDepth 20000 in
theorem ggX2_exchange_X1_writeSays : GoodIn wsX2_exchange wsX1_writeSays := goodIn_r _ [67, 29, 55, 56, 57, 11, 58, 21, 153, 154, 155, 156, 157, 158, 159, 160, 161, 162, 163] (by decide +kernel) (by decide +kernel)
set_option maxRecDepth 20000 in
theorem gX2_exchange_X1_writeSays : GoodIn wsX2_exchange (wsV RX2 58 RX1 yX1_writeSays wsX1_writeSays) := goodIn_app (goodIn_of _ (by decide +kernel)) ggX2_exchange_X1_writeSays
set_option maxRecDepth 20000 in
theorem ggX2_exchange_X1_reduceInto : GoodIn wsX2_exchange wsX1_reduceInto := goodIn_r _ [71, 72, 73, 74, 11, 75, 76, 77, 78, 79, 80, 21, 31, 29, 81, 82, 83, 84, 85, 86, 87, 88, 89, 90, 91, 92, 93, 94, 95, 96, 97, 98, 99, 100, 101, 102, 103, 104, 105, 32, 106, 107, 108, 109, 27, 110, 111, 112, 113, 114, 115, 116, 117, 118, 119, 120, 121, 122, 123, 124, 125, 126, 127, 128, 129, 130, 131, 132, 5, 133, 134, 15, 16, 17, 135, 19, 20, 7, 55, 56, 57, 58, 136, 137, 138, 139, 63, 45, 46, 47, 48, 140, 141, 142, 143, 144, 145, 146, 147, 44, 49, 38, 50, 153, 154, 155, 156, 157, 158, 159, 160, 161, 162, 163, 164, 165, 166, 150, 151, 152] (by decide +kernel) (by decide +kernel)
set_option maxRecDepth 20000 in
theorem gX2_exchange_X1_reduceInto : GoodIn wsX2_exchange (wsV RX2 62 RX1 yX1_reduceInto wsX1_reduceInto) := goodIn_app (goodIn_of _ (by decide +kernel)) ggX2_exchange_X1_reduceInto
theorem dX2_exchange_0 : decode cX2_exchange 0 = .ok (.aload_n 0, 1) := by decide +kernel
theorem dX2_exchange_1 : decode cX2_exchange 1 = .ok (.getfield 11, 3) := by decide +kernel
theorem dX2_exchange_4 : decode cX2_exchange 4 = .ok (.aload_n 2, 1) := by decide +kernel
theorem dX2_exchange_5 : decode cX2_exchange 5 = .ok (.invokevirtual 19, 3) := by decide +kernel
theorem dX2_exchange_8 : decode cX2_exchange 8 = .ok (.aload_n 2, 1) := by decide +kernel
theorem dX2_exchange_9 : decode cX2_exchange 9 = .ok (.invokevirtual 19, 3) := by decide +kernel
theorem dX2_exchange_12 : decode cX2_exchange 12 = .ok (.invokevirtual 25, 3) := by decide +kernel
theorem dX2_exchange_15 : decode cX2_exchange 15 = .ok (.iconst 0, 1) := by decide +kernel
theorem dX2_exchange_16 : decode cX2_exchange 16 = .ok (.istore 5, 2) := by decide +kernel
theorem dX2_exchange_18 : decode cX2_exchange 18 = .ok (.iload 5, 2) := by decide +kernel
theorem dX2_exchange_20 : decode cX2_exchange 20 = .ok (.aload_n 2, 1) := by decide +kernel
theorem dX2_exchange_21 : decode cX2_exchange 21 = .ok (.invokevirtual 19, 3) := by decide +kernel
theorem dX2_exchange_24 : decode cX2_exchange 24 = .ok (.if_icmp .ge 65, 3) := by decide +kernel
theorem dX2_exchange_27 : decode cX2_exchange 27 = .ok (.iconst 0, 1) := by decide +kernel
theorem dX2_exchange_28 : decode cX2_exchange 28 = .ok (.istore 6, 2) := by decide +kernel
theorem dX2_exchange_30 : decode cX2_exchange 30 = .ok (.iload 6, 2) := by decide +kernel
theorem dX2_exchange_32 : decode cX2_exchange 32 = .ok (.bipush 8, 2) := by decide +kernel
theorem dX2_exchange_34 : decode cX2_exchange 34 = .ok (.if_icmp .ge 34, 3) := by decide +kernel
theorem dX2_exchange_37 : decode cX2_exchange 37 = .ok (.aload_n 0, 1) := by decide +kernel
theorem dX2_exchange_38 : decode cX2_exchange 38 = .ok (.getfield 11, 3) := by decide +kernel
theorem dX2_exchange_41 : decode cX2_exchange 41 = .ok (.iload 5, 2) := by decide +kernel
theorem dX2_exchange_43 : decode cX2_exchange 43 = .ok (.iload 6, 2) := by decide +kernel
theorem dX2_exchange_45 : decode cX2_exchange 45 = .ok (.iload_n 3, 1) := by decide +kernel
theorem dX2_exchange_46 : decode cX2_exchange 46 = .ok (.iload 4, 2) := by decide +kernel
theorem dX2_exchange_48 : decode cX2_exchange 48 = .ok (.invokestatic 75, 3) := by decide +kernel
theorem dX2_exchange_51 : decode cX2_exchange 51 = .ok (.aload_n 2, 1) := by decide +kernel
theorem dX2_exchange_52 : decode cX2_exchange 52 = .ok (.iload 5, 2) := by decide +kernel
theorem dX2_exchange_54 : decode cX2_exchange 54 = .ok (.iload 6, 2) := by decide +kernel
theorem dX2_exchange_56 : decode cX2_exchange 56 = .ok (.invokevirtual 47, 3) := by decide +kernel
theorem dX2_exchange_59 : decode cX2_exchange 59 = .ok (.invokevirtual 50, 3) := by decide +kernel
theorem dX2_exchange_62 : decode cX2_exchange 62 = .ok (.iinc 6 1, 3) := by decide +kernel
theorem dX2_exchange_65 : decode cX2_exchange 65 = .ok (.goto (-35), 3) := by decide +kernel
theorem dX2_exchange_68 : decode cX2_exchange 68 = .ok (.aload_n 0, 1) := by decide +kernel
theorem dX2_exchange_69 : decode cX2_exchange 69 = .ok (.getfield 11, 3) := by decide +kernel
theorem dX2_exchange_72 : decode cX2_exchange 72 = .ok (.iload 5, 2) := by decide +kernel
theorem dX2_exchange_74 : decode cX2_exchange 74 = .ok (.aload_n 2, 1) := by decide +kernel
theorem dX2_exchange_75 : decode cX2_exchange 75 = .ok (.iload 5, 2) := by decide +kernel
theorem dX2_exchange_77 : decode cX2_exchange 77 = .ok (.invokevirtual 54, 3) := by decide +kernel
theorem dX2_exchange_80 : decode cX2_exchange 80 = .ok (.invokevirtual 58, 3) := by decide +kernel
theorem dX2_exchange_83 : decode cX2_exchange 83 = .ok (.iinc 5 1, 3) := by decide +kernel
theorem dX2_exchange_86 : decode cX2_exchange 86 = .ok (.goto (-68), 3) := by decide +kernel
theorem dX2_exchange_89 : decode cX2_exchange 89 = .ok (.aload_n 0, 1) := by decide +kernel
theorem dX2_exchange_90 : decode cX2_exchange 90 = .ok (.getfield 11, 3) := by decide +kernel
theorem dX2_exchange_93 : decode cX2_exchange 93 = .ok (.aload_n 1, 1) := by decide +kernel
theorem dX2_exchange_94 : decode cX2_exchange 94 = .ok (.invokevirtual 62, 3) := by decide +kernel
theorem dX2_exchange_97 : decode cX2_exchange 97 = .ok (.ireturn, 1) := by decide +kernel
set_option maxRecDepth 20000 in
theorem ggX2_exchanged_X9_digitOf : GoodIn wsX2_exchanged wsX9_digitOf := goodIn_r _ [3] (by decide +kernel) (by decide +kernel)
set_option maxRecDepth 20000 in
theorem gX2_exchanged_X9_digitOf_n79 : GoodIn wsX2_exchanged (wsX9_digitOf) := ggX2_exchanged_X9_digitOf
theorem dX2_exchanged_0 : decode cX2_exchanged 0 = .ok (.iload_n 0, 1) := by decide +kernel
theorem dX2_exchanged_1 : decode cX2_exchanged 1 = .ok (.iload_n 1, 1) := by decide +kernel
theorem dX2_exchanged_2 : decode cX2_exchanged 2 = .ok (.invokestatic 79, 3) := by decide +kernel
theorem dX2_exchanged_5 : decode cX2_exchanged 5 = .ok (.iload_n 0, 1) := by decide +kernel
theorem dX2_exchanged_6 : decode cX2_exchanged 6 = .ok (.iload_n 2, 1) := by decide +kernel
theorem dX2_exchanged_7 : decode cX2_exchanged 7 = .ok (.invokestatic 79, 3) := by decide +kernel
theorem dX2_exchanged_10 : decode cX2_exchanged 10 = .ok (.if_icmp .ne 7, 3) := by decide +kernel
theorem dX2_exchanged_13 : decode cX2_exchanged 13 = .ok (.iload_n 0, 1) := by decide +kernel
theorem dX2_exchanged_14 : decode cX2_exchanged 14 = .ok (.goto 12, 3) := by decide +kernel
theorem dX2_exchanged_17 : decode cX2_exchanged 17 = .ok (.iload_n 0, 1) := by decide +kernel
theorem dX2_exchanged_18 : decode cX2_exchanged 18 = .ok (.iconst 1, 1) := by decide +kernel
theorem dX2_exchanged_19 : decode cX2_exchanged 19 = .ok (.iload_n 1, 1) := by decide +kernel
theorem dX2_exchanged_20 : decode cX2_exchanged 20 = .ok (.ishl, 1) := by decide +kernel
theorem dX2_exchanged_21 : decode cX2_exchanged 21 = .ok (.ixor, 1) := by decide +kernel
theorem dX2_exchanged_22 : decode cX2_exchanged 22 = .ok (.iconst 1, 1) := by decide +kernel
theorem dX2_exchanged_23 : decode cX2_exchanged 23 = .ok (.iload_n 2, 1) := by decide +kernel
theorem dX2_exchanged_24 : decode cX2_exchanged 24 = .ok (.ishl, 1) := by decide +kernel
theorem dX2_exchanged_25 : decode cX2_exchanged 25 = .ok (.ixor, 1) := by decide +kernel
theorem dX2_exchanged_26 : decode cX2_exchanged 26 = .ok (.ireturn, 1) := by decide +kernel
