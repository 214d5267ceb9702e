set_option maxRecDepth 20000 in
theorem ggX0_init_X5_init : GoodIn wsX0_init wsX5_init := goodIn_r _ [9, 10, 2, 3] (by decide +kernel) (by decide +kernel)
set_option maxRecDepth 20000 in
theorem gX0_init_X5_init_n17 : GoodIn wsX0_init (wsX5_init) := ggX0_init_X5_init
theorem dX0_init_0 : decode cX0_init 0 = .ok (.aload_n 0, 1) := by decide +kernel
theorem dX0_init_1 : decode cX0_init 1 = .ok (.invokespecial 3, 3) := by decide +kernel
theorem dX0_init_4 : decode cX0_init 4 = .ok (.aload_n 0, 1) := by decide +kernel
theorem dX0_init_5 : decode cX0_init 5 = .ok (.iconst 4, 1) := by decide +kernel
theorem dX0_init_6 : decode cX0_init 6 = .ok (.anewarray 9, 3) := by decide +kernel
theorem dX0_init_9 : decode cX0_init 9 = .ok (.putfield 11, 3) := by decide +kernel
theorem dX0_init_12 : decode cX0_init 12 = .ok (.iconst 0, 1) := by decide +kernel
theorem dX0_init_13 : decode cX0_init 13 = .ok (.istore_n 1, 1) := by decide +kernel
theorem dX0_init_14 : decode cX0_init 14 = .ok (.iload_n 1, 1) := by decide +kernel
theorem dX0_init_15 : decode cX0_init 15 = .ok (.iconst 4, 1) := by decide +kernel
theorem dX0_init_16 : decode cX0_init 16 = .ok (.if_icmp .ge 22, 3) := by decide +kernel
theorem dX0_init_19 : decode cX0_init 19 = .ok (.aload_n 0, 1) := by decide +kernel
theorem dX0_init_20 : decode cX0_init 20 = .ok (.getfield 11, 3) := by decide +kernel
theorem dX0_init_23 : decode cX0_init 23 = .ok (.iload_n 1, 1) := by decide +kernel
theorem dX0_init_24 : decode cX0_init 24 = .ok (.new 9, 3) := by decide +kernel
theorem dX0_init_27 : decode cX0_init 27 = .ok (.dup, 1) := by decide +kernel
theorem dX0_init_28 : decode cX0_init 28 = .ok (.invokespecial 17, 3) := by decide +kernel
theorem dX0_init_31 : decode cX0_init 31 = .ok (.aastore, 1) := by decide +kernel
theorem dX0_init_32 : decode cX0_init 32 = .ok (.iinc 1 1, 3) := by decide +kernel
theorem dX0_init_35 : decode cX0_init 35 = .ok (.goto (-21), 3) := by decide +kernel
theorem dX0_init_38 : decode cX0_init 38 = .ok (.return_, 1) := by decide +kernel
set_option maxRecDepth 20000 in
theorem ggX0_begin_X5_put : GoodIn wsX0_begin wsX5_put := goodIn_r _ [20, 21, 22, 23, 24, 38, 39, 40, 41] (by decide +kernel) (by decide +kernel)
set_option maxRecDepth 20000 in
theorem gX0_begin_X5_put : GoodIn wsX0_begin (wsV RX0 40 RX5 yX5_put wsX5_put) := goodIn_app (goodIn_of _ (by decide +kernel)) ggX0_begin_X5_put
theorem dX0_begin_0 : decode cX0_begin 0 = .ok (.aload_n 0, 1) := by decide +kernel
theorem dX0_begin_1 : decode cX0_begin 1 = .ok (.aload_n 1, 1) := by decide +kernel
theorem dX0_begin_2 : decode cX0_begin 2 = .ok (.getfield 18, 3) := by decide +kernel
theorem dX0_begin_5 : decode cX0_begin 5 = .ok (.iconst 4, 1) := by decide +kernel
theorem dX0_begin_6 : decode cX0_begin 6 = .ok (.invokestatic 24, 3) := by decide +kernel
theorem dX0_begin_9 : decode cX0_begin 9 = .ok (.putfield 30, 3) := by decide +kernel
theorem dX0_begin_12 : decode cX0_begin 12 = .ok (.iconst 0, 1) := by decide +kernel
theorem dX0_begin_13 : decode cX0_begin 13 = .ok (.istore_n 2, 1) := by decide +kernel
theorem dX0_begin_14 : decode cX0_begin 14 = .ok (.iload_n 2, 1) := by decide +kernel
theorem dX0_begin_15 : decode cX0_begin 15 = .ok (.aload_n 0, 1) := by decide +kernel
theorem dX0_begin_16 : decode cX0_begin 16 = .ok (.getfield 30, 3) := by decide +kernel
theorem dX0_begin_19 : decode cX0_begin 19 = .ok (.if_icmp .ge 30, 3) := by decide +kernel
theorem dX0_begin_22 : decode cX0_begin 22 = .ok (.aload_n 0, 1) := by decide +kernel
theorem dX0_begin_23 : decode cX0_begin 23 = .ok (.getfield 11, 3) := by decide +kernel
theorem dX0_begin_26 : decode cX0_begin 26 = .ok (.iload_n 2, 1) := by decide +kernel
theorem dX0_begin_27 : decode cX0_begin 27 = .ok (.aaload, 1) := by decide +kernel
theorem dX0_begin_28 : decode cX0_begin 28 = .ok (.aload_n 1, 1) := by decide +kernel
theorem dX0_begin_29 : decode cX0_begin 29 = .ok (.getfield 33, 3) := by decide +kernel
theorem dX0_begin_32 : decode cX0_begin 32 = .ok (.iload_n 2, 1) := by decide +kernel
theorem dX0_begin_33 : decode cX0_begin 33 = .ok (.iaload, 1) := by decide +kernel
theorem dX0_begin_34 : decode cX0_begin 34 = .ok (.aload_n 1, 1) := by decide +kernel
theorem dX0_begin_35 : decode cX0_begin 35 = .ok (.getfield 37, 3) := by decide +kernel
theorem dX0_begin_38 : decode cX0_begin 38 = .ok (.iload_n 2, 1) := by decide +kernel
theorem dX0_begin_39 : decode cX0_begin 39 = .ok (.iaload, 1) := by decide +kernel
theorem dX0_begin_40 : decode cX0_begin 40 = .ok (.invokevirtual 40, 3) := by decide +kernel
theorem dX0_begin_43 : decode cX0_begin 43 = .ok (.iinc 2 1, 3) := by decide +kernel
theorem dX0_begin_46 : decode cX0_begin 46 = .ok (.goto (-32), 3) := by decide +kernel
theorem dX0_begin_49 : decode cX0_begin 49 = .ok (.aload_n 0, 1) := by decide +kernel
theorem dX0_begin_50 : decode cX0_begin 50 = .ok (.iconst 0, 1) := by decide +kernel
theorem dX0_begin_51 : decode cX0_begin 51 = .ok (.putfield 44, 3) := by decide +kernel
theorem dX0_begin_54 : decode cX0_begin 54 = .ok (.aload_n 0, 1) := by decide +kernel
theorem dX0_begin_55 : decode cX0_begin 55 = .ok (.iconst 0, 1) := by decide +kernel
theorem dX0_begin_56 : decode cX0_begin 56 = .ok (.putfield 47, 3) := by decide +kernel
theorem dX0_begin_59 : decode cX0_begin 59 = .ok (.aload_n 0, 1) := by decide +kernel
theorem dX0_begin_60 : decode cX0_begin 60 = .ok (.iconst (-1), 1) := by decide +kernel
theorem dX0_begin_61 : decode cX0_begin 61 = .ok (.putfield 50, 3) := by decide +kernel
theorem dX0_begin_64 : decode cX0_begin 64 = .ok (.aload_n 0, 1) := by decide +kernel
theorem dX0_begin_65 : decode cX0_begin 65 = .ok (.iconst 0, 1) := by decide +kernel
theorem dX0_begin_66 : decode cX0_begin 66 = .ok (.putfield 53, 3) := by decide +kernel
theorem dX0_begin_69 : decode cX0_begin 69 = .ok (.aload_n 0, 1) := by decide +kernel
theorem dX0_begin_70 : decode cX0_begin 70 = .ok (.iconst 0, 1) := by decide +kernel
theorem dX0_begin_71 : decode cX0_begin 71 = .ok (.putfield 56, 3) := by decide +kernel
theorem dX0_begin_74 : decode cX0_begin 74 = .ok (.aload_n 0, 1) := by decide +kernel
theorem dX0_begin_75 : decode cX0_begin 75 = .ok (.iconst 0, 1) := by decide +kernel
theorem dX0_begin_76 : decode cX0_begin 76 = .ok (.putfield 59, 3) := by decide +kernel
theorem dX0_begin_79 : decode cX0_begin 79 = .ok (.return_, 1) := by decide +kernel
set_option maxRecDepth 20000 in
theorem ggX0_play_X0_tried : GoodIn wsX0_play wsX0_tried := goodIn_r _ [12, 13, 14, 15, 16, 17, 18, 19, 11, 20, 21, 22, 23, 24, 25, 26, 6, 27, 28, 29, 30, 31, 32, 33, 34, 35, 36, 37, 38, 39, 40, 41, 42, 43, 44, 45, 46, 47, 48, 53, 54, 55, 56, 57, 58, 59, 60, 61, 62, 63, 64, 65] (by decide +kernel) (by decide +kernel)
set_option maxRecDepth 20000 in
theorem gX0_play_X0_tried : GoodIn wsX0_play (wsV RX0 62 RX0 yX0_tried wsX0_tried) := goodIn_app (goodIn_of _ (by decide +kernel)) ggX0_play_X0_tried
theorem dX0_play_0 : decode cX0_play 0 = .ok (.iconst 0, 1) := by decide +kernel
theorem dX0_play_1 : decode cX0_play 1 = .ok (.istore_n 3, 1) := by decide +kernel
theorem dX0_play_2 : decode cX0_play 2 = .ok (.iload_n 3, 1) := by decide +kernel
theorem dX0_play_3 : decode cX0_play 3 = .ok (.iload_n 2, 1) := by decide +kernel
theorem dX0_play_4 : decode cX0_play 4 = .ok (.if_icmp .ge 38, 3) := by decide +kernel
theorem dX0_play_7 : decode cX0_play 7 = .ok (.iload_n 3, 1) := by decide +kernel
theorem dX0_play_8 : decode cX0_play 8 = .ok (.aload_n 1, 1) := by decide +kernel
theorem dX0_play_9 : decode cX0_play 9 = .ok (.getfield 18, 3) := by decide +kernel
theorem dX0_play_12 : decode cX0_play 12 = .ok (.if_icmp .ge 30, 3) := by decide +kernel
theorem dX0_play_15 : decode cX0_play 15 = .ok (.aload_n 0, 1) := by decide +kernel
theorem dX0_play_16 : decode cX0_play 16 = .ok (.aload_n 1, 1) := by decide +kernel
theorem dX0_play_17 : decode cX0_play 17 = .ok (.getfield 33, 3) := by decide +kernel
theorem dX0_play_20 : decode cX0_play 20 = .ok (.iload_n 3, 1) := by decide +kernel
theorem dX0_play_21 : decode cX0_play 21 = .ok (.iaload, 1) := by decide +kernel
theorem dX0_play_22 : decode cX0_play 22 = .ok (.aload_n 1, 1) := by decide +kernel
theorem dX0_play_23 : decode cX0_play 23 = .ok (.getfield 37, 3) := by decide +kernel
theorem dX0_play_26 : decode cX0_play 26 = .ok (.iload_n 3, 1) := by decide +kernel
theorem dX0_play_27 : decode cX0_play 27 = .ok (.iaload, 1) := by decide +kernel
theorem dX0_play_28 : decode cX0_play 28 = .ok (.invokevirtual 62, 3) := by decide +kernel
theorem dX0_play_31 : decode cX0_play 31 = .ok (.ifCond .ne 5, 3) := by decide +kernel
theorem dX0_play_34 : decode cX0_play 34 = .ok (.iload_n 3, 1) := by decide +kernel
theorem dX0_play_35 : decode cX0_play 35 = .ok (.ireturn, 1) := by decide +kernel
theorem dX0_play_36 : decode cX0_play 36 = .ok (.iinc 3 1, 3) := by decide +kernel
theorem dX0_play_39 : decode cX0_play 39 = .ok (.goto (-37), 3) := by decide +kernel
theorem dX0_play_42 : decode cX0_play 42 = .ok (.iload_n 2, 1) := by decide +kernel
theorem dX0_play_43 : decode cX0_play 43 = .ok (.aload_n 1, 1) := by decide +kernel
theorem dX0_play_44 : decode cX0_play 44 = .ok (.getfield 18, 3) := by decide +kernel
theorem dX0_play_47 : decode cX0_play 47 = .ok (.invokestatic 24, 3) := by decide +kernel
theorem dX0_play_50 : decode cX0_play 50 = .ok (.ireturn, 1) := by decide +kernel
set_option maxRecDepth 20000 in
theorem ggX0_playDrawn_X0_draw : GoodIn wsX0_playDrawn wsX0_draw := goodIn_r _ [7, 1, 8, 9, 10, 11, 12, 52, 53, 54, 55, 56, 57, 58, 59, 60] (by decide +kernel) (by decide +kernel)
set_option maxRecDepth 20000 in
theorem gX0_playDrawn_X0_draw : GoodIn wsX0_playDrawn (wsV RX0 69 RX0 yX0_draw wsX0_draw) := goodIn_app (goodIn_of _ (by decide +kernel)) ggX0_playDrawn_X0_draw
set_option maxRecDepth 20000 in
theorem ggX0_playDrawn_X0_drawnKind : GoodIn wsX0_playDrawn wsX0_drawnKind := goodIn_r _ [15] (by decide +kernel) (by decide +kernel)
set_option maxRecDepth 20000 in
theorem gX0_playDrawn_X0_drawnKind : GoodIn wsX0_playDrawn (va_wsS RX0 73 yX0_drawnKind wsX0_drawnKind) := goodIn_app (goodIn_of _ (by decide +kernel)) ggX0_playDrawn_X0_drawnKind
set_option maxRecDepth 20000 in
theorem ggX0_playDrawn_X0_tried : GoodIn wsX0_playDrawn wsX0_tried := goodIn_r _ [19, 20, 2, 21, 22, 23, 24, 25, 6, 26, 27, 28, 29, 30, 9, 10, 11, 12, 31, 32, 33, 34, 35, 36, 37, 38, 39, 40, 41, 42, 43, 44, 45, 46, 47, 48, 49, 50, 51, 52, 53, 54, 55, 56, 57, 58, 59, 60, 61, 62, 63, 64] (by decide +kernel) (by decide +kernel)
set_option maxRecDepth 20000 in
theorem gX0_playDrawn_X0_tried : GoodIn wsX0_playDrawn (wsV RX0 62 RX0 yX0_tried wsX0_tried) := goodIn_app (goodIn_of _ (by decide +kernel)) ggX0_playDrawn_X0_tried
theorem dX0_playDrawn_0 : decode cX0_playDrawn 0 = .ok (.aload_n 0, 1) := by decide +kernel
theorem dX0_playDrawn_1 : decode cX0_playDrawn 1 = .ok (.iload_n 1, 1) := by decide +kernel
theorem dX0_playDrawn_2 : decode cX0_playDrawn 2 = .ok (.putfield 66, 3) := by decide +kernel
theorem dX0_playDrawn_5 : decode cX0_playDrawn 5 = .ok (.iconst 0, 1) := by decide +kernel
theorem dX0_playDrawn_6 : decode cX0_playDrawn 6 = .ok (.istore_n 3, 1) := by decide +kernel
theorem dX0_playDrawn_7 : decode cX0_playDrawn 7 = .ok (.iload_n 3, 1) := by decide +kernel
theorem dX0_playDrawn_8 : decode cX0_playDrawn 8 = .ok (.iload_n 2, 1) := by decide +kernel
theorem dX0_playDrawn_9 : decode cX0_playDrawn 9 = .ok (.if_icmp .ge 70, 3) := by decide +kernel
theorem dX0_playDrawn_12 : decode cX0_playDrawn 12 = .ok (.iload_n 3, 1) := by decide +kernel
theorem dX0_playDrawn_13 : decode cX0_playDrawn 13 = .ok (.bipush 60, 2) := by decide +kernel
theorem dX0_playDrawn_15 : decode cX0_playDrawn 15 = .ok (.if_icmp .ge 64, 3) := by decide +kernel
theorem dX0_playDrawn_18 : decode cX0_playDrawn 18 = .ok (.aload_n 0, 1) := by decide +kernel
theorem dX0_playDrawn_19 : decode cX0_playDrawn 19 = .ok (.bipush 10, 2) := by decide +kernel
theorem dX0_playDrawn_21 : decode cX0_playDrawn 21 = .ok (.invokevirtual 69, 3) := by decide +kernel
theorem dX0_playDrawn_24 : decode cX0_playDrawn 24 = .ok (.invokestatic 73, 3) := by decide +kernel
theorem dX0_playDrawn_27 : decode cX0_playDrawn 27 = .ok (.istore 4, 2) := by decide +kernel
theorem dX0_playDrawn_29 : decode cX0_playDrawn 29 = .ok (.iload 4, 2) := by decide +kernel
theorem dX0_playDrawn_31 : decode cX0_playDrawn 31 = .ok (.ifCond .ne 20, 3) := by decide +kernel
theorem dX0_playDrawn_34 : decode cX0_playDrawn 34 = .ok (.aload_n 0, 1) := by decide +kernel
theorem dX0_playDrawn_35 : decode cX0_playDrawn 35 = .ok (.iconst 0, 1) := by decide +kernel
theorem dX0_playDrawn_36 : decode cX0_playDrawn 36 = .ok (.iconst 1, 1) := by decide +kernel
theorem dX0_playDrawn_37 : decode cX0_playDrawn 37 = .ok (.aload_n 0, 1) := by decide +kernel
theorem dX0_playDrawn_38 : decode cX0_playDrawn 38 = .ok (.bipush 9, 2) := by decide +kernel
theorem dX0_playDrawn_40 : decode cX0_playDrawn 40 = .ok (.invokevirtual 69, 3) := by decide +kernel
theorem dX0_playDrawn_43 : decode cX0_playDrawn 43 = .ok (.iadd, 1) := by decide +kernel
theorem dX0_playDrawn_44 : decode cX0_playDrawn 44 = .ok (.invokevirtual 62, 3) := by decide +kernel
theorem dX0_playDrawn_47 : decode cX0_playDrawn 47 = .ok (.pop, 1) := by decide +kernel
theorem dX0_playDrawn_48 : decode cX0_playDrawn 48 = .ok (.goto 25, 3) := by decide +kernel
theorem dX0_playDrawn_51 : decode cX0_playDrawn 51 = .ok (.aload_n 0, 1) := by decide +kernel
theorem dX0_playDrawn_52 : decode cX0_playDrawn 52 = .ok (.getfield 30, 3) := by decide +kernel
theorem dX0_playDrawn_55 : decode cX0_playDrawn 55 = .ok (.ifCond .le 18, 3) := by decide +kernel
theorem dX0_playDrawn_58 : decode cX0_playDrawn 58 = .ok (.aload_n 0, 1) := by decide +kernel
theorem dX0_playDrawn_59 : decode cX0_playDrawn 59 = .ok (.iload 4, 2) := by decide +kernel
theorem dX0_playDrawn_61 : decode cX0_playDrawn 61 = .ok (.aload_n 0, 1) := by decide +kernel
theorem dX0_playDrawn_62 : decode cX0_playDrawn 62 = .ok (.aload_n 0, 1) := by decide +kernel
theorem dX0_playDrawn_63 : decode cX0_playDrawn 63 = .ok (.getfield 30, 3) := by decide +kernel
theorem dX0_playDrawn_66 : decode cX0_playDrawn 66 = .ok (.invokevirtual 69, 3) := by decide +kernel
theorem dX0_playDrawn_69 : decode cX0_playDrawn 69 = .ok (.invokevirtual 62, 3) := by decide +kernel
theorem dX0_playDrawn_72 : decode cX0_playDrawn 72 = .ok (.pop, 1) := by decide +kernel
theorem dX0_playDrawn_73 : decode cX0_playDrawn 73 = .ok (.iinc 3 1, 3) := by decide +kernel
theorem dX0_playDrawn_76 : decode cX0_playDrawn 76 = .ok (.goto (-69), 3) := by decide +kernel
theorem dX0_playDrawn_79 : decode cX0_playDrawn 79 = .ok (.return_, 1) := by decide +kernel
theorem dX0_drawnKind_0 : decode cX0_drawnKind 0 = .ok (.iload_n 0, 1) := by decide +kernel
theorem dX0_drawnKind_1 : decode cX0_drawnKind 1 = .ok (.iconst 2, 1) := by decide +kernel
theorem dX0_drawnKind_2 : decode cX0_drawnKind 2 = .ok (.if_icmp .gt 5, 3) := by decide +kernel
theorem dX0_drawnKind_5 : decode cX0_drawnKind 5 = .ok (.iconst 0, 1) := by decide +kernel
theorem dX0_drawnKind_6 : decode cX0_drawnKind 6 = .ok (.ireturn, 1) := by decide +kernel
theorem dX0_drawnKind_7 : decode cX0_drawnKind 7 = .ok (.iload_n 0, 1) := by decide +kernel
theorem dX0_drawnKind_8 : decode cX0_drawnKind 8 = .ok (.iconst 5, 1) := by decide +kernel
theorem dX0_drawnKind_9 : decode cX0_drawnKind 9 = .ok (.if_icmp .gt 5, 3) := by decide +kernel
theorem dX0_drawnKind_12 : decode cX0_drawnKind 12 = .ok (.iconst 1, 1) := by decide +kernel
theorem dX0_drawnKind_13 : decode cX0_drawnKind 13 = .ok (.ireturn, 1) := by decide +kernel
theorem dX0_drawnKind_14 : decode cX0_drawnKind 14 = .ok (.iload_n 0, 1) := by decide +kernel
theorem dX0_drawnKind_15 : decode cX0_drawnKind 15 = .ok (.bipush 6, 2) := by decide +kernel
theorem dX0_drawnKind_17 : decode cX0_drawnKind 17 = .ok (.if_icmp .ne 5, 3) := by decide +kernel
theorem dX0_drawnKind_20 : decode cX0_drawnKind 20 = .ok (.iconst 2, 1) := by decide +kernel
theorem dX0_drawnKind_21 : decode cX0_drawnKind 21 = .ok (.ireturn, 1) := by decide +kernel
theorem dX0_drawnKind_22 : decode cX0_drawnKind 22 = .ok (.iload_n 0, 1) := by decide +kernel
theorem dX0_drawnKind_23 : decode cX0_drawnKind 23 = .ok (.bipush 8, 2) := by decide +kernel
theorem dX0_drawnKind_25 : decode cX0_drawnKind 25 = .ok (.if_icmp .gt 7, 3) := by decide +kernel
theorem dX0_drawnKind_28 : decode cX0_drawnKind 28 = .ok (.iconst 3, 1) := by decide +kernel
theorem dX0_drawnKind_29 : decode cX0_drawnKind 29 = .ok (.goto 4, 3) := by decide +kernel
theorem dX0_drawnKind_32 : decode cX0_drawnKind 32 = .ok (.iconst 4, 1) := by decide +kernel
theorem dX0_drawnKind_33 : decode cX0_drawnKind 33 = .ok (.ireturn, 1) := by decide +kernel
theorem dX0_draw_0 : decode cX0_draw 0 = .ok (.aload_n 0, 1) := by decide +kernel
theorem dX0_draw_1 : decode cX0_draw 1 = .ok (.aload_n 0, 1) := by decide +kernel
theorem dX0_draw_2 : decode cX0_draw 2 = .ok (.getfield 66, 3) := by decide +kernel
theorem dX0_draw_5 : decode cX0_draw 5 = .ok (.ldc 76, 2) := by decide +kernel
theorem dX0_draw_7 : decode cX0_draw 7 = .ok (.imul, 1) := by decide +kernel
theorem dX0_draw_8 : decode cX0_draw 8 = .ok (.sipush 12345, 3) := by decide +kernel
theorem dX0_draw_11 : decode cX0_draw 11 = .ok (.iadd, 1) := by decide +kernel
theorem dX0_draw_12 : decode cX0_draw 12 = .ok (.putfield 66, 3) := by decide +kernel
theorem dX0_draw_15 : decode cX0_draw 15 = .ok (.aload_n 0, 1) := by decide +kernel
theorem dX0_draw_16 : decode cX0_draw 16 = .ok (.getfield 66, 3) := by decide +kernel
theorem dX0_draw_19 : decode cX0_draw 19 = .ok (.bipush 16, 2) := by decide +kernel
theorem dX0_draw_21 : decode cX0_draw 21 = .ok (.iushr, 1) := by decide +kernel
theorem dX0_draw_22 : decode cX0_draw 22 = .ok (.iconst 1, 1) := by decide +kernel
theorem dX0_draw_23 : decode cX0_draw 23 = .ok (.iload_n 1, 1) := by decide +kernel
theorem dX0_draw_24 : decode cX0_draw 24 = .ok (.invokestatic 77, 3) := by decide +kernel
theorem dX0_draw_27 : decode cX0_draw 27 = .ok (.irem, 1) := by decide +kernel
theorem dX0_draw_28 : decode cX0_draw 28 = .ok (.ireturn, 1) := by decide +kernel
set_option maxRecDepth 20000 in
theorem ggX0_tried_X0_passMinute : GoodIn wsX0_tried wsX0_passMinute := goodIn_r _ [9, 1, 2, 3, 10, 11, 12, 13, 14, 15, 16, 17, 18, 19, 20, 21, 22, 23, 24, 25, 26, 27, 28, 29, 39, 40, 41, 42, 43, 44, 45, 46, 47, 48, 49, 50, 51] (by decide +kernel) (by decide +kernel)
set_option maxRecDepth 20000 in
theorem gX0_tried_X0_passMinute : GoodIn wsX0_tried (wsV RX0 80 RX0 yX0_passMinute wsX0_passMinute) := goodIn_app (goodIn_of _ (by decide +kernel)) ggX0_tried_X0_passMinute
set_option maxRecDepth 20000 in
theorem ggX0_tried_X5_may : GoodIn wsX0_tried wsX5_may := goodIn_r _ [33, 23, 34, 24, 48, 49, 50, 51] (by decide +kernel) (by decide +kernel)
set_option maxRecDepth 20000 in
theorem gX0_tried_X5_may : GoodIn wsX0_tried (wsV RX0 83 RX5 yX5_may wsX5_may) := goodIn_app (goodIn_of _ (by decide +kernel)) ggX0_tried_X5_may
set_option maxRecDepth 20000 in
theorem ggX0_tried_X5_act : GoodIn wsX0_tried wsX5_act := goodIn_r _ [38, 34, 24, 23, 48, 49, 50, 51] (by decide +kernel) (by decide +kernel)
set_option maxRecDepth 20000 in
theorem gX0_tried_X5_act : GoodIn wsX0_tried (wsV RX0 87 RX5 yX5_act wsX5_act) := goodIn_app (goodIn_of _ (by decide +kernel)) ggX0_tried_X5_act
theorem dX0_tried_0 : decode cX0_tried 0 = .ok (.iload_n 1, 1) := by decide +kernel
theorem dX0_tried_1 : decode cX0_tried 1 = .ok (.ifCond .ne 35, 3) := by decide +kernel
theorem dX0_tried_4 : decode cX0_tried 4 = .ok (.aload_n 0, 1) := by decide +kernel
theorem dX0_tried_5 : decode cX0_tried 5 = .ok (.getfield 44, 3) := by decide +kernel
theorem dX0_tried_8 : decode cX0_tried 8 = .ok (.iload_n 2, 1) := by decide +kernel
theorem dX0_tried_9 : decode cX0_tried 9 = .ok (.iadd, 1) := by decide +kernel
theorem dX0_tried_10 : decode cX0_tried 10 = .ok (.bipush 99, 2) := by decide +kernel
theorem dX0_tried_12 : decode cX0_tried 12 = .ok (.if_icmp .le 5, 3) := by decide +kernel
theorem dX0_tried_15 : decode cX0_tried 15 = .ok (.iconst 0, 1) := by decide +kernel
theorem dX0_tried_16 : decode cX0_tried 16 = .ok (.ireturn, 1) := by decide +kernel
theorem dX0_tried_17 : decode cX0_tried 17 = .ok (.iconst 0, 1) := by decide +kernel
theorem dX0_tried_18 : decode cX0_tried 18 = .ok (.istore_n 3, 1) := by decide +kernel
theorem dX0_tried_19 : decode cX0_tried 19 = .ok (.iload_n 3, 1) := by decide +kernel
theorem dX0_tried_20 : decode cX0_tried 20 = .ok (.iload_n 2, 1) := by decide +kernel
theorem dX0_tried_21 : decode cX0_tried 21 = .ok (.if_icmp .ge 13, 3) := by decide +kernel
theorem dX0_tried_24 : decode cX0_tried 24 = .ok (.aload_n 0, 1) := by decide +kernel
theorem dX0_tried_25 : decode cX0_tried 25 = .ok (.invokevirtual 80, 3) := by decide +kernel
theorem dX0_tried_28 : decode cX0_tried 28 = .ok (.iinc 3 1, 3) := by decide +kernel
theorem dX0_tried_31 : decode cX0_tried 31 = .ok (.goto (-12), 3) := by decide +kernel
theorem dX0_tried_34 : decode cX0_tried 34 = .ok (.iconst 1, 1) := by decide +kernel
theorem dX0_tried_35 : decode cX0_tried 35 = .ok (.ireturn, 1) := by decide +kernel
theorem dX0_tried_36 : decode cX0_tried 36 = .ok (.iload_n 2, 1) := by decide +kernel
theorem dX0_tried_37 : decode cX0_tried 37 = .ok (.ifCond .lt 24, 3) := by decide +kernel
theorem dX0_tried_40 : decode cX0_tried 40 = .ok (.iload_n 2, 1) := by decide +kernel
theorem dX0_tried_41 : decode cX0_tried 41 = .ok (.aload_n 0, 1) := by decide +kernel
theorem dX0_tried_42 : decode cX0_tried 42 = .ok (.getfield 30, 3) := by decide +kernel
theorem dX0_tried_45 : decode cX0_tried 45 = .ok (.if_icmp .ge 16, 3) := by decide +kernel
theorem dX0_tried_48 : decode cX0_tried 48 = .ok (.aload_n 0, 1) := by decide +kernel
theorem dX0_tried_49 : decode cX0_tried 49 = .ok (.getfield 11, 3) := by decide +kernel
theorem dX0_tried_52 : decode cX0_tried 52 = .ok (.iload_n 2, 1) := by decide +kernel
theorem dX0_tried_53 : decode cX0_tried 53 = .ok (.aaload, 1) := by decide +kernel
theorem dX0_tried_54 : decode cX0_tried 54 = .ok (.iload_n 1, 1) := by decide +kernel
theorem dX0_tried_55 : decode cX0_tried 55 = .ok (.invokevirtual 83, 3) := by decide +kernel
theorem dX0_tried_58 : decode cX0_tried 58 = .ok (.ifCond .ne 5, 3) := by decide +kernel
theorem dX0_tried_61 : decode cX0_tried 61 = .ok (.iconst 0, 1) := by decide +kernel
theorem dX0_tried_62 : decode cX0_tried 62 = .ok (.ireturn, 1) := by decide +kernel
theorem dX0_tried_63 : decode cX0_tried 63 = .ok (.aload_n 0, 1) := by decide +kernel
theorem dX0_tried_64 : decode cX0_tried 64 = .ok (.getfield 11, 3) := by decide +kernel
theorem dX0_tried_67 : decode cX0_tried 67 = .ok (.iload_n 2, 1) := by decide +kernel
theorem dX0_tried_68 : decode cX0_tried 68 = .ok (.aaload, 1) := by decide +kernel
theorem dX0_tried_69 : decode cX0_tried 69 = .ok (.iload_n 1, 1) := by decide +kernel
theorem dX0_tried_70 : decode cX0_tried 70 = .ok (.invokevirtual 87, 3) := by decide +kernel
theorem dX0_tried_73 : decode cX0_tried 73 = .ok (.iload_n 1, 1) := by decide +kernel
theorem dX0_tried_74 : decode cX0_tried 74 = .ok (.iconst 1, 1) := by decide +kernel
theorem dX0_tried_75 : decode cX0_tried 75 = .ok (.if_icmp .ne 13, 3) := by decide +kernel
theorem dX0_tried_78 : decode cX0_tried 78 = .ok (.aload_n 0, 1) := by decide +kernel
theorem dX0_tried_79 : decode cX0_tried 79 = .ok (.dup, 1) := by decide +kernel
theorem dX0_tried_80 : decode cX0_tried 80 = .ok (.getfield 59, 3) := by decide +kernel
theorem dX0_tried_83 : decode cX0_tried 83 = .ok (.iconst 1, 1) := by decide +kernel
theorem dX0_tried_84 : decode cX0_tried 84 = .ok (.iadd, 1) := by decide +kernel
theorem dX0_tried_85 : decode cX0_tried 85 = .ok (.putfield 59, 3) := by decide +kernel
theorem dX0_tried_88 : decode cX0_tried 88 = .ok (.iconst 1, 1) := by decide +kernel
theorem dX0_tried_89 : decode cX0_tried 89 = .ok (.ireturn, 1) := by decide +kernel
set_option maxRecDepth 20000 in
theorem ggX0_passMinute_X5_runs : GoodIn wsX0_passMinute wsX5_runs := goodIn_r _ [16, 17, 18, 33, 34, 35, 36] (by decide +kernel) (by decide +kernel)
set_option maxRecDepth 20000 in
theorem gX0_passMinute_X5_runs : GoodIn wsX0_passMinute (wsV RX0 91 RX5 yX5_runs wsX5_runs) := goodIn_app (goodIn_of _ (by decide +kernel)) ggX0_passMinute_X5_runs
set_option maxRecDepth 20000 in
theorem ggX0_passMinute_X5_passMinute : GoodIn wsX0_passMinute wsX5_passMinute := goodIn_r _ [22, 17, 18, 23, 33, 34, 35, 36] (by decide +kernel) (by decide +kernel)
set_option maxRecDepth 20000 in
theorem gX0_passMinute_X5_passMinute : GoodIn wsX0_passMinute (wsV RX0 95 RX5 yX5_passMinute wsX5_passMinute) := goodIn_app (goodIn_of _ (by decide +kernel)) ggX0_passMinute_X5_passMinute
theorem dX0_passMinute_0 : decode cX0_passMinute 0 = .ok (.aload_n 0, 1) := by decide +kernel
theorem dX0_passMinute_1 : decode cX0_passMinute 1 = .ok (.dup, 1) := by decide +kernel
theorem dX0_passMinute_2 : decode cX0_passMinute 2 = .ok (.getfield 44, 3) := by decide +kernel
theorem dX0_passMinute_5 : decode cX0_passMinute 5 = .ok (.iconst 1, 1) := by decide +kernel
theorem dX0_passMinute_6 : decode cX0_passMinute 6 = .ok (.iadd, 1) := by decide +kernel
theorem dX0_passMinute_7 : decode cX0_passMinute 7 = .ok (.putfield 44, 3) := by decide +kernel
theorem dX0_passMinute_10 : decode cX0_passMinute 10 = .ok (.iconst 0, 1) := by decide +kernel
theorem dX0_passMinute_11 : decode cX0_passMinute 11 = .ok (.istore_n 1, 1) := by decide +kernel
theorem dX0_passMinute_12 : decode cX0_passMinute 12 = .ok (.iconst 0, 1) := by decide +kernel
theorem dX0_passMinute_13 : decode cX0_passMinute 13 = .ok (.istore_n 2, 1) := by decide +kernel
theorem dX0_passMinute_14 : decode cX0_passMinute 14 = .ok (.iconst 0, 1) := by decide +kernel
theorem dX0_passMinute_15 : decode cX0_passMinute 15 = .ok (.istore_n 3, 1) := by decide +kernel
theorem dX0_passMinute_16 : decode cX0_passMinute 16 = .ok (.iload_n 3, 1) := by decide +kernel
theorem dX0_passMinute_17 : decode cX0_passMinute 17 = .ok (.aload_n 0, 1) := by decide +kernel
theorem dX0_passMinute_18 : decode cX0_passMinute 18 = .ok (.getfield 30, 3) := by decide +kernel
theorem dX0_passMinute_21 : decode cX0_passMinute 21 = .ok (.if_icmp .ge 39, 3) := by decide +kernel
theorem dX0_passMinute_24 : decode cX0_passMinute 24 = .ok (.aload_n 0, 1) := by decide +kernel
theorem dX0_passMinute_25 : decode cX0_passMinute 25 = .ok (.getfield 11, 3) := by decide +kernel
theorem dX0_passMinute_28 : decode cX0_passMinute 28 = .ok (.iload_n 3, 1) := by decide +kernel
theorem dX0_passMinute_29 : decode cX0_passMinute 29 = .ok (.aaload, 1) := by decide +kernel
theorem dX0_passMinute_30 : decode cX0_passMinute 30 = .ok (.invokevirtual 91, 3) := by decide +kernel
theorem dX0_passMinute_33 : decode cX0_passMinute 33 = .ok (.ifCond .eq 6, 3) := by decide +kernel
theorem dX0_passMinute_36 : decode cX0_passMinute 36 = .ok (.iinc 1 1, 3) := by decide +kernel
theorem dX0_passMinute_39 : decode cX0_passMinute 39 = .ok (.aload_n 0, 1) := by decide +kernel
theorem dX0_passMinute_40 : decode cX0_passMinute 40 = .ok (.getfield 11, 3) := by decide +kernel
theorem dX0_passMinute_43 : decode cX0_passMinute 43 = .ok (.iload_n 3, 1) := by decide +kernel
theorem dX0_passMinute_44 : decode cX0_passMinute 44 = .ok (.aaload, 1) := by decide +kernel
theorem dX0_passMinute_45 : decode cX0_passMinute 45 = .ok (.invokevirtual 95, 3) := by decide +kernel
theorem dX0_passMinute_48 : decode cX0_passMinute 48 = .ok (.ifCond .eq 6, 3) := by decide +kernel
theorem dX0_passMinute_51 : decode cX0_passMinute 51 = .ok (.iinc 2 1, 3) := by decide +kernel
theorem dX0_passMinute_54 : decode cX0_passMinute 54 = .ok (.iinc 3 1, 3) := by decide +kernel
theorem dX0_passMinute_57 : decode cX0_passMinute 57 = .ok (.goto (-41), 3) := by decide +kernel
theorem dX0_passMinute_60 : decode cX0_passMinute 60 = .ok (.iload_n 1, 1) := by decide +kernel
theorem dX0_passMinute_61 : decode cX0_passMinute 61 = .ok (.ifCond .ne 13, 3) := by decide +kernel
theorem dX0_passMinute_64 : decode cX0_passMinute 64 = .ok (.aload_n 0, 1) := by decide +kernel
theorem dX0_passMinute_65 : decode cX0_passMinute 65 = .ok (.dup, 1) := by decide +kernel
theorem dX0_passMinute_66 : decode cX0_passMinute 66 = .ok (.getfield 56, 3) := by decide +kernel
theorem dX0_passMinute_69 : decode cX0_passMinute 69 = .ok (.iconst 1, 1) := by decide +kernel
theorem dX0_passMinute_70 : decode cX0_passMinute 70 = .ok (.iadd, 1) := by decide +kernel
theorem dX0_passMinute_71 : decode cX0_passMinute 71 = .ok (.putfield 56, 3) := by decide +kernel
theorem dX0_passMinute_74 : decode cX0_passMinute 74 = .ok (.iload_n 2, 1) := by decide +kernel
theorem dX0_passMinute_75 : decode cX0_passMinute 75 = .ok (.ifCond .le 19, 3) := by decide +kernel
theorem dX0_passMinute_78 : decode cX0_passMinute 78 = .ok (.aload_n 0, 1) := by decide +kernel
theorem dX0_passMinute_79 : decode cX0_passMinute 79 = .ok (.getfield 50, 3) := by decide +kernel
theorem dX0_passMinute_82 : decode cX0_passMinute 82 = .ok (.iconst (-1), 1) := by decide +kernel
theorem dX0_passMinute_83 : decode cX0_passMinute 83 = .ok (.if_icmp .ne 11, 3) := by decide +kernel
theorem dX0_passMinute_86 : decode cX0_passMinute 86 = .ok (.aload_n 0, 1) := by decide +kernel
theorem dX0_passMinute_87 : decode cX0_passMinute 87 = .ok (.aload_n 0, 1) := by decide +kernel
theorem dX0_passMinute_88 : decode cX0_passMinute 88 = .ok (.getfield 44, 3) := by decide +kernel
theorem dX0_passMinute_91 : decode cX0_passMinute 91 = .ok (.putfield 50, 3) := by decide +kernel
theorem dX0_passMinute_94 : decode cX0_passMinute 94 = .ok (.aload_n 0, 1) := by decide +kernel
theorem dX0_passMinute_95 : decode cX0_passMinute 95 = .ok (.dup, 1) := by decide +kernel
theorem dX0_passMinute_96 : decode cX0_passMinute 96 = .ok (.getfield 47, 3) := by decide +kernel
theorem dX0_passMinute_99 : decode cX0_passMinute 99 = .ok (.iload_n 2, 1) := by decide +kernel
theorem dX0_passMinute_100 : decode cX0_passMinute 100 = .ok (.iadd, 1) := by decide +kernel
theorem dX0_passMinute_101 : decode cX0_passMinute 101 = .ok (.putfield 47, 3) := by decide +kernel
theorem dX0_passMinute_104 : decode cX0_passMinute 104 = .ok (.aload_n 0, 1) := by decide +kernel
theorem dX0_passMinute_105 : decode cX0_passMinute 105 = .ok (.aload_n 0, 1) := by decide +kernel
theorem dX0_passMinute_106 : decode cX0_passMinute 106 = .ok (.getfield 53, 3) := by decide +kernel
theorem dX0_passMinute_109 : decode cX0_passMinute 109 = .ok (.iload_n 2, 1) := by decide +kernel
theorem dX0_passMinute_110 : decode cX0_passMinute 110 = .ok (.invokestatic 77, 3) := by decide +kernel
theorem dX0_passMinute_113 : decode cX0_passMinute 113 = .ok (.putfield 53, 3) := by decide +kernel
theorem dX0_passMinute_116 : decode cX0_passMinute 116 = .ok (.return_, 1) := by decide +kernel
set_option maxRecDepth 20000 in
theorem ggX0_look_X0_laidGlasses : GoodIn wsX0_look wsX0_laidGlasses := goodIn_r _ [8, 9, 10, 11, 19, 20, 21, 22, 23, 24, 25, 26, 27, 28, 29, 30, 31] (by decide +kernel) (by decide +kernel)
set_option maxRecDepth 20000 in
theorem gX0_look_X0_laidGlasses : GoodIn wsX0_look (wsV RX0 97 RX0 yX0_laidGlasses wsX0_laidGlasses) := goodIn_app (goodIn_of _ (by decide +kernel)) ggX0_look_X0_laidGlasses
set_option maxRecDepth 20000 in
theorem ggX0_look_X0_lookAtGlass : GoodIn wsX0_look wsX0_lookAtGlass := goodIn_r _ [15, 9, 10, 16, 17, 18, 19, 20, 21, 22, 23, 24, 25, 26, 27, 28, 29, 30, 31] (by decide +kernel) (by decide +kernel)
set_option maxRecDepth 20000 in
theorem gX0_look_X0_lookAtGlass : GoodIn wsX0_look (wsV RX0 101 RX0 yX0_lookAtGlass wsX0_lookAtGlass) := goodIn_app (goodIn_of _ (by decide +kernel)) ggX0_look_X0_lookAtGlass
theorem dX0_look_0 : decode cX0_look 0 = .ok (.iload_n 1, 1) := by decide +kernel
theorem dX0_look_1 : decode cX0_look 1 = .ok (.tableswitch 51 0 3 #[31, 36, 41, 46], 31) := by decide +kernel
theorem dX0_look_32 : decode cX0_look 32 = .ok (.aload_n 0, 1) := by decide +kernel
theorem dX0_look_33 : decode cX0_look 33 = .ok (.getfield 44, 3) := by decide +kernel
theorem dX0_look_36 : decode cX0_look 36 = .ok (.ireturn, 1) := by decide +kernel
theorem dX0_look_37 : decode cX0_look 37 = .ok (.aload_n 0, 1) := by decide +kernel
theorem dX0_look_38 : decode cX0_look 38 = .ok (.invokevirtual 97, 3) := by decide +kernel
theorem dX0_look_41 : decode cX0_look 41 = .ok (.ireturn, 1) := by decide +kernel
theorem dX0_look_42 : decode cX0_look 42 = .ok (.aload_n 0, 1) := by decide +kernel
theorem dX0_look_43 : decode cX0_look 43 = .ok (.getfield 47, 3) := by decide +kernel
theorem dX0_look_46 : decode cX0_look 46 = .ok (.ireturn, 1) := by decide +kernel
theorem dX0_look_47 : decode cX0_look 47 = .ok (.aload_n 0, 1) := by decide +kernel
theorem dX0_look_48 : decode cX0_look 48 = .ok (.getfield 59, 3) := by decide +kernel
theorem dX0_look_51 : decode cX0_look 51 = .ok (.ireturn, 1) := by decide +kernel
theorem dX0_look_52 : decode cX0_look 52 = .ok (.aload_n 0, 1) := by decide +kernel
theorem dX0_look_53 : decode cX0_look 53 = .ok (.iload_n 1, 1) := by decide +kernel
theorem dX0_look_54 : decode cX0_look 54 = .ok (.invokevirtual 101, 3) := by decide +kernel
theorem dX0_look_57 : decode cX0_look 57 = .ok (.ireturn, 1) := by decide +kernel
theorem dX0_laidGlasses_0 : decode cX0_laidGlasses 0 = .ok (.iconst 0, 1) := by decide +kernel
theorem dX0_laidGlasses_1 : decode cX0_laidGlasses 1 = .ok (.istore_n 1, 1) := by decide +kernel
theorem dX0_laidGlasses_2 : decode cX0_laidGlasses 2 = .ok (.iconst 0, 1) := by decide +kernel
theorem dX0_laidGlasses_3 : decode cX0_laidGlasses 3 = .ok (.istore_n 2, 1) := by decide +kernel
theorem dX0_laidGlasses_4 : decode cX0_laidGlasses 4 = .ok (.iload_n 2, 1) := by decide +kernel
theorem dX0_laidGlasses_5 : decode cX0_laidGlasses 5 = .ok (.aload_n 0, 1) := by decide +kernel
theorem dX0_laidGlasses_6 : decode cX0_laidGlasses 6 = .ok (.getfield 30, 3) := by decide +kernel
theorem dX0_laidGlasses_9 : decode cX0_laidGlasses 9 = .ok (.if_icmp .ge 31, 3) := by decide +kernel
theorem dX0_laidGlasses_12 : decode cX0_laidGlasses 12 = .ok (.iload_n 1, 1) := by decide +kernel
theorem dX0_laidGlasses_13 : decode cX0_laidGlasses 13 = .ok (.aload_n 0, 1) := by decide +kernel
theorem dX0_laidGlasses_14 : decode cX0_laidGlasses 14 = .ok (.getfield 11, 3) := by decide +kernel
theorem dX0_laidGlasses_17 : decode cX0_laidGlasses 17 = .ok (.iload_n 2, 1) := by decide +kernel
theorem dX0_laidGlasses_18 : decode cX0_laidGlasses 18 = .ok (.aaload, 1) := by decide +kernel
theorem dX0_laidGlasses_19 : decode cX0_laidGlasses 19 = .ok (.getfield 104, 3) := by decide +kernel
theorem dX0_laidGlasses_22 : decode cX0_laidGlasses 22 = .ok (.ifCond .eq 9, 3) := by decide +kernel
theorem dX0_laidGlasses_25 : decode cX0_laidGlasses 25 = .ok (.iconst 1, 1) := by decide +kernel
theorem dX0_laidGlasses_26 : decode cX0_laidGlasses 26 = .ok (.iload_n 2, 1) := by decide +kernel
theorem dX0_laidGlasses_27 : decode cX0_laidGlasses 27 = .ok (.ishl, 1) := by decide +kernel
theorem dX0_laidGlasses_28 : decode cX0_laidGlasses 28 = .ok (.goto 4, 3) := by decide +kernel
theorem dX0_laidGlasses_31 : decode cX0_laidGlasses 31 = .ok (.iconst 0, 1) := by decide +kernel
theorem dX0_laidGlasses_32 : decode cX0_laidGlasses 32 = .ok (.ior, 1) := by decide +kernel
theorem dX0_laidGlasses_33 : decode cX0_laidGlasses 33 = .ok (.istore_n 1, 1) := by decide +kernel
theorem dX0_laidGlasses_34 : decode cX0_laidGlasses 34 = .ok (.iinc 2 1, 3) := by decide +kernel
theorem dX0_laidGlasses_37 : decode cX0_laidGlasses 37 = .ok (.goto (-33), 3) := by decide +kernel
theorem dX0_laidGlasses_40 : decode cX0_laidGlasses 40 = .ok (.iload_n 1, 1) := by decide +kernel
theorem dX0_laidGlasses_41 : decode cX0_laidGlasses 41 = .ok (.ireturn, 1) := by decide +kernel
theorem dX0_lookAtGlass_0 : decode cX0_lookAtGlass 0 = .ok (.iconst 0, 1) := by decide +kernel
theorem dX0_lookAtGlass_1 : decode cX0_lookAtGlass 1 = .ok (.istore_n 2, 1) := by decide +kernel
theorem dX0_lookAtGlass_2 : decode cX0_lookAtGlass 2 = .ok (.iload_n 2, 1) := by decide +kernel
theorem dX0_lookAtGlass_3 : decode cX0_lookAtGlass 3 = .ok (.aload_n 0, 1) := by decide +kernel
theorem dX0_lookAtGlass_4 : decode cX0_lookAtGlass 4 = .ok (.getfield 30, 3) := by decide +kernel
theorem dX0_lookAtGlass_7 : decode cX0_lookAtGlass 7 = .ok (.if_icmp .ge 73, 3) := by decide +kernel
theorem dX0_lookAtGlass_10 : decode cX0_lookAtGlass 10 = .ok (.iload_n 1, 1) := by decide +kernel
theorem dX0_lookAtGlass_11 : decode cX0_lookAtGlass 11 = .ok (.bipush 10, 2) := by decide +kernel
theorem dX0_lookAtGlass_13 : decode cX0_lookAtGlass 13 = .ok (.iload_n 2, 1) := by decide +kernel
theorem dX0_lookAtGlass_14 : decode cX0_lookAtGlass 14 = .ok (.iadd, 1) := by decide +kernel
theorem dX0_lookAtGlass_15 : decode cX0_lookAtGlass 15 = .ok (.if_icmp .ne 13, 3) := by decide +kernel
theorem dX0_lookAtGlass_18 : decode cX0_lookAtGlass 18 = .ok (.aload_n 0, 1) := by decide +kernel
theorem dX0_lookAtGlass_19 : decode cX0_lookAtGlass 19 = .ok (.getfield 11, 3) := by decide +kernel
theorem dX0_lookAtGlass_22 : decode cX0_lookAtGlass 22 = .ok (.iload_n 2, 1) := by decide +kernel
theorem dX0_lookAtGlass_23 : decode cX0_lookAtGlass 23 = .ok (.aaload, 1) := by decide +kernel
theorem dX0_lookAtGlass_24 : decode cX0_lookAtGlass 24 = .ok (.getfield 108, 3) := by decide +kernel
theorem dX0_lookAtGlass_27 : decode cX0_lookAtGlass 27 = .ok (.ireturn, 1) := by decide +kernel
theorem dX0_lookAtGlass_28 : decode cX0_lookAtGlass 28 = .ok (.iload_n 1, 1) := by decide +kernel
theorem dX0_lookAtGlass_29 : decode cX0_lookAtGlass 29 = .ok (.bipush 20, 2) := by decide +kernel
theorem dX0_lookAtGlass_31 : decode cX0_lookAtGlass 31 = .ok (.iload_n 2, 1) := by decide +kernel
theorem dX0_lookAtGlass_32 : decode cX0_lookAtGlass 32 = .ok (.iadd, 1) := by decide +kernel
theorem dX0_lookAtGlass_33 : decode cX0_lookAtGlass 33 = .ok (.if_icmp .ne 23, 3) := by decide +kernel
theorem dX0_lookAtGlass_36 : decode cX0_lookAtGlass 36 = .ok (.aload_n 0, 1) := by decide +kernel
theorem dX0_lookAtGlass_37 : decode cX0_lookAtGlass 37 = .ok (.getfield 11, 3) := by decide +kernel
theorem dX0_lookAtGlass_40 : decode cX0_lookAtGlass 40 = .ok (.iload_n 2, 1) := by decide +kernel
theorem dX0_lookAtGlass_41 : decode cX0_lookAtGlass 41 = .ok (.aaload, 1) := by decide +kernel
theorem dX0_lookAtGlass_42 : decode cX0_lookAtGlass 42 = .ok (.getfield 111, 3) := by decide +kernel
theorem dX0_lookAtGlass_45 : decode cX0_lookAtGlass 45 = .ok (.aload_n 0, 1) := by decide +kernel
theorem dX0_lookAtGlass_46 : decode cX0_lookAtGlass 46 = .ok (.getfield 11, 3) := by decide +kernel
theorem dX0_lookAtGlass_49 : decode cX0_lookAtGlass 49 = .ok (.iload_n 2, 1) := by decide +kernel
theorem dX0_lookAtGlass_50 : decode cX0_lookAtGlass 50 = .ok (.aaload, 1) := by decide +kernel
theorem dX0_lookAtGlass_51 : decode cX0_lookAtGlass 51 = .ok (.getfield 108, 3) := by decide +kernel
theorem dX0_lookAtGlass_54 : decode cX0_lookAtGlass 54 = .ok (.isub, 1) := by decide +kernel
theorem dX0_lookAtGlass_55 : decode cX0_lookAtGlass 55 = .ok (.ireturn, 1) := by decide +kernel
theorem dX0_lookAtGlass_56 : decode cX0_lookAtGlass 56 = .ok (.iload_n 1, 1) := by decide +kernel
theorem dX0_lookAtGlass_57 : decode cX0_lookAtGlass 57 = .ok (.bipush 30, 2) := by decide +kernel
theorem dX0_lookAtGlass_59 : decode cX0_lookAtGlass 59 = .ok (.iload_n 2, 1) := by decide +kernel
theorem dX0_lookAtGlass_60 : decode cX0_lookAtGlass 60 = .ok (.iadd, 1) := by decide +kernel
theorem dX0_lookAtGlass_61 : decode cX0_lookAtGlass 61 = .ok (.if_icmp .ne 13, 3) := by decide +kernel
theorem dX0_lookAtGlass_64 : decode cX0_lookAtGlass 64 = .ok (.aload_n 0, 1) := by decide +kernel
theorem dX0_lookAtGlass_65 : decode cX0_lookAtGlass 65 = .ok (.getfield 11, 3) := by decide +kernel
theorem dX0_lookAtGlass_68 : decode cX0_lookAtGlass 68 = .ok (.iload_n 2, 1) := by decide +kernel
theorem dX0_lookAtGlass_69 : decode cX0_lookAtGlass 69 = .ok (.aaload, 1) := by decide +kernel
theorem dX0_lookAtGlass_70 : decode cX0_lookAtGlass 70 = .ok (.getfield 114, 3) := by decide +kernel
theorem dX0_lookAtGlass_73 : decode cX0_lookAtGlass 73 = .ok (.ireturn, 1) := by decide +kernel
theorem dX0_lookAtGlass_74 : decode cX0_lookAtGlass 74 = .ok (.iinc 2 1, 3) := by decide +kernel
theorem dX0_lookAtGlass_77 : decode cX0_lookAtGlass 77 = .ok (.goto (-75), 3) := by decide +kernel
theorem dX0_lookAtGlass_80 : decode cX0_lookAtGlass 80 = .ok (.iconst (-1), 1) := by decide +kernel
theorem dX0_lookAtGlass_81 : decode cX0_lookAtGlass 81 = .ok (.ireturn, 1) := by decide +kernel
theorem dX0_keenest_0 : decode cX0_keenest 0 = .ok (.iconst (-1), 1) := by decide +kernel
theorem dX0_keenest_1 : decode cX0_keenest 1 = .ok (.istore_n 1, 1) := by decide +kernel
theorem dX0_keenest_2 : decode cX0_keenest 2 = .ok (.iconst 0, 1) := by decide +kernel
theorem dX0_keenest_3 : decode cX0_keenest 3 = .ok (.istore_n 2, 1) := by decide +kernel
theorem dX0_keenest_4 : decode cX0_keenest 4 = .ok (.iconst 0, 1) := by decide +kernel
theorem dX0_keenest_5 : decode cX0_keenest 5 = .ok (.istore_n 3, 1) := by decide +kernel
theorem dX0_keenest_6 : decode cX0_keenest 6 = .ok (.iload_n 3, 1) := by decide +kernel
theorem dX0_keenest_7 : decode cX0_keenest 7 = .ok (.aload_n 0, 1) := by decide +kernel
theorem dX0_keenest_8 : decode cX0_keenest 8 = .ok (.getfield 30, 3) := by decide +kernel
theorem dX0_keenest_11 : decode cX0_keenest 11 = .ok (.if_icmp .ge 34, 3) := by decide +kernel
theorem dX0_keenest_14 : decode cX0_keenest 14 = .ok (.aload_n 0, 1) := by decide +kernel
theorem dX0_keenest_15 : decode cX0_keenest 15 = .ok (.getfield 11, 3) := by decide +kernel
theorem dX0_keenest_18 : decode cX0_keenest 18 = .ok (.iload_n 3, 1) := by decide +kernel
theorem dX0_keenest_19 : decode cX0_keenest 19 = .ok (.aaload, 1) := by decide +kernel
theorem dX0_keenest_20 : decode cX0_keenest 20 = .ok (.getfield 114, 3) := by decide +kernel
theorem dX0_keenest_23 : decode cX0_keenest 23 = .ok (.iload_n 2, 1) := by decide +kernel
theorem dX0_keenest_24 : decode cX0_keenest 24 = .ok (.if_icmp .le 15, 3) := by decide +kernel
theorem dX0_keenest_27 : decode cX0_keenest 27 = .ok (.iload_n 3, 1) := by decide +kernel
theorem dX0_keenest_28 : decode cX0_keenest 28 = .ok (.istore_n 1, 1) := by decide +kernel
theorem dX0_keenest_29 : decode cX0_keenest 29 = .ok (.aload_n 0, 1) := by decide +kernel
theorem dX0_keenest_30 : decode cX0_keenest 30 = .ok (.getfield 11, 3) := by decide +kernel
theorem dX0_keenest_33 : decode cX0_keenest 33 = .ok (.iload_n 3, 1) := by decide +kernel
theorem dX0_keenest_34 : decode cX0_keenest 34 = .ok (.aaload, 1) := by decide +kernel
theorem dX0_keenest_35 : decode cX0_keenest 35 = .ok (.getfield 114, 3) := by decide +kernel
theorem dX0_keenest_38 : decode cX0_keenest 38 = .ok (.istore_n 2, 1) := by decide +kernel
theorem dX0_keenest_39 : decode cX0_keenest 39 = .ok (.iinc 3 1, 3) := by decide +kernel
theorem dX0_keenest_42 : decode cX0_keenest 42 = .ok (.goto (-36), 3) := by decide +kernel
theorem dX0_keenest_45 : decode cX0_keenest 45 = .ok (.iload_n 1, 1) := by decide +kernel
theorem dX0_keenest_46 : decode cX0_keenest 46 = .ok (.ireturn, 1) := by decide +kernel
set_option maxRecDepth 20000 in
theorem ggX1_init_X10_init : GoodIn wsX1_init wsX10_init := goodIn_r _ [26, 27, 2, 3, 4, 28, 29, 30, 31, 32, 33, 34, 35, 36, 37, 38, 39, 40, 41, 72, 73, 74, 75, 76, 77, 78, 79, 80] (by decide +kernel) (by decide +kernel)
set_option maxRecDepth 20000 in
theorem gX1_init_X10_init : GoodIn wsX1_init (wsX10_init) := ggX1_init_X10_init
set_option maxRecDepth 20000 in
theorem ggX1_init_X3_init : GoodIn wsX1_init wsX3_init := goodIn_r _ [44, 45, 2, 3, 4, 46, 47, 48, 49, 50, 51, 81, 82, 83, 84, 85, 72, 73, 74, 75, 76, 77, 78, 79, 80] (by decide +kernel) (by decide +kernel)
set_option maxRecDepth 20000 in
theorem gX1_init_X3_init : GoodIn wsX1_init (wsX3_init) := ggX1_init_X3_init
theorem dX1_init_0 : decode cX1_init 0 = .ok (.aload_n 0, 1) := by decide +kernel
theorem dX1_init_1 : decode cX1_init 1 = .ok (.invokespecial 3, 3) := by decide +kernel
theorem dX1_init_4 : decode cX1_init 4 = .ok (.aload_n 0, 1) := by decide +kernel
theorem dX1_init_5 : decode cX1_init 5 = .ok (.bipush 31, 2) := by decide +kernel
theorem dX1_init_7 : decode cX1_init 7 = .ok (.newarray .int, 2) := by decide +kernel
theorem dX1_init_9 : decode cX1_init 9 = .ok (.putfield 9, 3) := by decide +kernel
theorem dX1_init_12 : decode cX1_init 12 = .ok (.aload_n 0, 1) := by decide +kernel
theorem dX1_init_13 : decode cX1_init 13 = .ok (.bipush 31, 2) := by decide +kernel
theorem dX1_init_15 : decode cX1_init 15 = .ok (.newarray .int, 2) := by decide +kernel
theorem dX1_init_17 : decode cX1_init 17 = .ok (.putfield 15, 3) := by decide +kernel
theorem dX1_init_20 : decode cX1_init 20 = .ok (.aload_n 0, 1) := by decide +kernel
theorem dX1_init_21 : decode cX1_init 21 = .ok (.bipush 31, 2) := by decide +kernel
theorem dX1_init_23 : decode cX1_init 23 = .ok (.newarray .int, 2) := by decide +kernel
theorem dX1_init_25 : decode cX1_init 25 = .ok (.putfield 18, 3) := by decide +kernel
theorem dX1_init_28 : decode cX1_init 28 = .ok (.aload_n 0, 1) := by decide +kernel
theorem dX1_init_29 : decode cX1_init 29 = .ok (.bipush 16, 2) := by decide +kernel
theorem dX1_init_31 : decode cX1_init 31 = .ok (.newarray .int, 2) := by decide +kernel
theorem dX1_init_33 : decode cX1_init 33 = .ok (.putfield 21, 3) := by decide +kernel
theorem dX1_init_36 : decode cX1_init 36 = .ok (.aload_n 0, 1) := by decide +kernel
theorem dX1_init_37 : decode cX1_init 37 = .ok (.bipush 30, 2) := by decide +kernel
theorem dX1_init_39 : decode cX1_init 39 = .ok (.newarray .int, 2) := by decide +kernel
theorem dX1_init_41 : decode cX1_init 41 = .ok (.putfield 24, 3) := by decide +kernel
theorem dX1_init_44 : decode cX1_init 44 = .ok (.aload_n 0, 1) := by decide +kernel
theorem dX1_init_45 : decode cX1_init 45 = .ok (.bipush 30, 2) := by decide +kernel
theorem dX1_init_47 : decode cX1_init 47 = .ok (.newarray .int, 2) := by decide +kernel
theorem dX1_init_49 : decode cX1_init 49 = .ok (.putfield 27, 3) := by decide +kernel
theorem dX1_init_52 : decode cX1_init 52 = .ok (.aload_n 0, 1) := by decide +kernel
theorem dX1_init_53 : decode cX1_init 53 = .ok (.iconst (-1), 1) := by decide +kernel
theorem dX1_init_54 : decode cX1_init 54 = .ok (.putfield 30, 3) := by decide +kernel
theorem dX1_init_57 : decode cX1_init 57 = .ok (.aload_n 0, 1) := by decide +kernel
theorem dX1_init_58 : decode cX1_init 58 = .ok (.new 34, 3) := by decide +kernel
theorem dX1_init_61 : decode cX1_init 61 = .ok (.dup, 1) := by decide +kernel
theorem dX1_init_62 : decode cX1_init 62 = .ok (.aload_n 1, 1) := by decide +kernel
theorem dX1_init_63 : decode cX1_init 63 = .ok (.iload_n 2, 1) := by decide +kernel
theorem dX1_init_64 : decode cX1_init 64 = .ok (.invokespecial 36, 3) := by decide +kernel
theorem dX1_init_67 : decode cX1_init 67 = .ok (.putfield 39, 3) := by decide +kernel
theorem dX1_init_70 : decode cX1_init 70 = .ok (.aload_n 0, 1) := by decide +kernel
theorem dX1_init_71 : decode cX1_init 71 = .ok (.new 34, 3) := by decide +kernel
theorem dX1_init_74 : decode cX1_init 74 = .ok (.dup, 1) := by decide +kernel
theorem dX1_init_75 : decode cX1_init 75 = .ok (.aload_n 1, 1) := by decide +kernel
theorem dX1_init_76 : decode cX1_init 76 = .ok (.iload_n 2, 1) := by decide +kernel
theorem dX1_init_77 : decode cX1_init 77 = .ok (.iconst 1, 1) := by decide +kernel
theorem dX1_init_78 : decode cX1_init 78 = .ok (.isub, 1) := by decide +kernel
theorem dX1_init_79 : decode cX1_init 79 = .ok (.invokespecial 36, 3) := by decide +kernel
theorem dX1_init_82 : decode cX1_init 82 = .ok (.putfield 43, 3) := by decide +kernel
theorem dX1_init_85 : decode cX1_init 85 = .ok (.aload_n 0, 1) := by decide +kernel
theorem dX1_init_86 : decode cX1_init 86 = .ok (.new 46, 3) := by decide +kernel
theorem dX1_init_89 : decode cX1_init 89 = .ok (.dup, 1) := by decide +kernel
theorem dX1_init_90 : decode cX1_init 90 = .ok (.aload_n 0, 1) := by decide +kernel
theorem dX1_init_91 : decode cX1_init 91 = .ok (.getfield 39, 3) := by decide +kernel
theorem dX1_init_94 : decode cX1_init 94 = .ok (.invokespecial 48, 3) := by decide +kernel
theorem dX1_init_97 : decode cX1_init 97 = .ok (.putfield 51, 3) := by decide +kernel
theorem dX1_init_100 : decode cX1_init 100 = .ok (.aload_n 0, 1) := by decide +kernel
theorem dX1_init_101 : decode cX1_init 101 = .ok (.bipush 11, 2) := by decide +kernel
theorem dX1_init_103 : decode cX1_init 103 = .ok (.aload_n 0, 1) := by decide +kernel
theorem dX1_init_104 : decode cX1_init 104 = .ok (.getfield 39, 3) := by decide +kernel
theorem dX1_init_107 : decode cX1_init 107 = .ok (.getfield 55, 3) := by decide +kernel
theorem dX1_init_110 : decode cX1_init 110 = .ok (.arraylength, 1) := by decide +kernel
theorem dX1_init_111 : decode cX1_init 111 = .ok (.imul, 1) := by decide +kernel
theorem dX1_init_112 : decode cX1_init 112 = .ok (.newarray .long, 2) := by decide +kernel
theorem dX1_init_114 : decode cX1_init 114 = .ok (.putfield 58, 3) := by decide +kernel
theorem dX1_init_117 : decode cX1_init 117 = .ok (.return_, 1) := by decide +kernel
theorem dX1_hasRoomFor_0 : decode cX1_hasRoomFor 0 = .ok (.aload_n 0, 1) := by decide +kernel
theorem dX1_hasRoomFor_1 : decode cX1_hasRoomFor 1 = .ok (.getfield 39, 3) := by decide +kernel
theorem dX1_hasRoomFor_4 : decode cX1_hasRoomFor 4 = .ok (.getfield 55, 3) := by decide +kernel
theorem dX1_hasRoomFor_7 : decode cX1_hasRoomFor 7 = .ok (.arraylength, 1) := by decide +kernel
theorem dX1_hasRoomFor_8 : decode cX1_hasRoomFor 8 = .ok (.getstatic 62, 3) := by decide +kernel
theorem dX1_hasRoomFor_11 : decode cX1_hasRoomFor 11 = .ok (.iconst 0, 1) := by decide +kernel
theorem dX1_hasRoomFor_12 : decode cX1_hasRoomFor 12 = .ok (.iconst 4, 1) := by decide +kernel
theorem dX1_hasRoomFor_13 : decode cX1_hasRoomFor 13 = .ok (.iload_n 1, 1) := by decide +kernel
theorem dX1_hasRoomFor_14 : decode cX1_hasRoomFor 14 = .ok (.invokestatic 65, 3) := by decide +kernel
theorem dX1_hasRoomFor_17 : decode cX1_hasRoomFor 17 = .ok (.invokestatic 71, 3) := by decide +kernel
theorem dX1_hasRoomFor_20 : decode cX1_hasRoomFor 20 = .ok (.iaload, 1) := by decide +kernel
theorem dX1_hasRoomFor_21 : decode cX1_hasRoomFor 21 = .ok (.if_icmp .lt 7, 3) := by decide +kernel
theorem dX1_hasRoomFor_24 : decode cX1_hasRoomFor 24 = .ok (.iconst 1, 1) := by decide +kernel
theorem dX1_hasRoomFor_25 : decode cX1_hasRoomFor 25 = .ok (.goto 4, 3) := by decide +kernel
theorem dX1_hasRoomFor_28 : decode cX1_hasRoomFor 28 = .ok (.iconst 0, 1) := by decide +kernel
theorem dX1_hasRoomFor_29 : decode cX1_hasRoomFor 29 = .ok (.ireturn, 1) := by decide +kernel
set_option maxRecDepth 20000 in
theorem ggX1_open_X11_codeOf : GoodIn wsX1_open wsX11_codeOf := goodIn_r _ [17] (by decide +kernel) (by decide +kernel)
set_option maxRecDepth 20000 in
theorem gX1_open_X11_codeOf_n82 : GoodIn wsX1_open (wsX11_codeOf) := ggX1_open_X11_codeOf
set_option maxRecDepth 20000 in
theorem ggX1_open_J7_fill_53178 : GoodIn wsX1_open wsJ7_fill_53178 := goodIn_r _ [21] (by decide +kernel) (by decide +kernel)
set_option maxRecDepth 20000 in
theorem gX1_open_J7_fill_53178 : GoodIn wsX1_open (va_wsS RX1 111 yJ7_fill_53178 wsJ7_fill_53178) := goodIn_app (goodIn_of _ (by decide +kernel)) ggX1_open_J7_fill_53178
set_option maxRecDepth 20000 in
theorem ggX1_open_X1_allGlasses : GoodIn wsX1_open wsX1_allGlasses := goodIn_r _ [26, 6, 90, 91, 92, 93, 94, 95, 96, 97, 98, 99, 100, 101, 102, 103, 104, 105, 106, 107, 108, 109] (by decide +kernel) (by decide +kernel)
set_option maxRecDepth 20000 in
theorem gX1_open_X1_allGlasses : GoodIn wsX1_open (wsV RX1 117 RX1 yX1_allGlasses wsX1_allGlasses) := goodIn_app (goodIn_of _ (by decide +kernel)) ggX1_open_X1_allGlasses
set_option maxRecDepth 20000 in
theorem ggX1_open_X10_explore : GoodIn wsX1_open wsX10_explore := goodIn_r _ [31, 32, 33, 34, 35, 36, 37, 38, 39, 40, 41, 42, 43, 44, 30, 45, 46, 47, 48, 49, 16, 50, 51, 52, 53, 54, 55, 56, 57, 58, 59, 60, 61, 62, 63, 64, 65, 66, 67, 68, 69, 70, 19, 20, 21, 71, 72, 73, 74, 75, 76, 77, 78, 79, 80, 81, 110, 111, 112, 113, 114, 115, 116, 117, 118, 119, 120] (by decide +kernel) (by decide +kernel)
set_option maxRecDepth 20000 in
theorem gX1_open_X10_explore : GoodIn wsX1_open (wsV RX1 121 RX10 yX10_explore wsX10_explore) := goodIn_app (goodIn_of _ (by decide +kernel)) ggX1_open_X10_explore
set_option maxRecDepth 20000 in
theorem ggX1_open_X10_eventMinutes : GoodIn wsX1_open wsX10_eventMinutes := goodIn_r _ [85, 66, 110, 111, 112, 113, 114, 115, 116, 117, 118] (by decide +kernel) (by decide +kernel)
set_option maxRecDepth 20000 in
theorem gX1_open_X10_eventMinutes : GoodIn wsX1_open (wsV RX1 125 RX10 yX10_eventMinutes wsX10_eventMinutes) := goodIn_app (goodIn_of _ (by decide +kernel)) ggX1_open_X10_eventMinutes
theorem dX1_open_0 : decode cX1_open 0 = .ok (.aload_n 1, 1) := by decide +kernel
theorem dX1_open_1 : decode cX1_open 1 = .ok (.getfield 74, 3) := by decide +kernel
theorem dX1_open_4 : decode cX1_open 4 = .ok (.aload_n 1, 1) := by decide +kernel
theorem dX1_open_5 : decode cX1_open 5 = .ok (.getfield 79, 3) := by decide +kernel
theorem dX1_open_8 : decode cX1_open 8 = .ok (.invokestatic 82, 3) := by decide +kernel
theorem dX1_open_11 : decode cX1_open 11 = .ok (.istore_n 2, 1) := by decide +kernel
theorem dX1_open_12 : decode cX1_open 12 = .ok (.aload_n 1, 1) := by decide +kernel
theorem dX1_open_13 : decode cX1_open 13 = .ok (.getfield 86, 3) := by decide +kernel
theorem dX1_open_16 : decode cX1_open 16 = .ok (.aload_n 1, 1) := by decide +kernel
theorem dX1_open_17 : decode cX1_open 17 = .ok (.getfield 79, 3) := by decide +kernel
theorem dX1_open_20 : decode cX1_open 20 = .ok (.invokestatic 82, 3) := by decide +kernel
theorem dX1_open_23 : decode cX1_open 23 = .ok (.istore_n 3, 1) := by decide +kernel
theorem dX1_open_24 : decode cX1_open 24 = .ok (.iload_n 2, 1) := by decide +kernel
theorem dX1_open_25 : decode cX1_open 25 = .ok (.aload_n 0, 1) := by decide +kernel
theorem dX1_open_26 : decode cX1_open 26 = .ok (.getfield 30, 3) := by decide +kernel
theorem dX1_open_29 : decode cX1_open 29 = .ok (.if_icmp .ne 12, 3) := by decide +kernel
theorem dX1_open_32 : decode cX1_open 32 = .ok (.iload_n 3, 1) := by decide +kernel
theorem dX1_open_33 : decode cX1_open 33 = .ok (.aload_n 0, 1) := by decide +kernel
theorem dX1_open_34 : decode cX1_open 34 = .ok (.getfield 89, 3) := by decide +kernel
theorem dX1_open_37 : decode cX1_open 37 = .ok (.if_icmp .ne 4, 3) := by decide +kernel
theorem dX1_open_40 : decode cX1_open 40 = .ok (.return_, 1) := by decide +kernel
theorem dX1_open_41 : decode cX1_open 41 = .ok (.aload_n 0, 1) := by decide +kernel
theorem dX1_open_42 : decode cX1_open 42 = .ok (.iload_n 2, 1) := by decide +kernel
theorem dX1_open_43 : decode cX1_open 43 = .ok (.putfield 30, 3) := by decide +kernel
theorem dX1_open_46 : decode cX1_open 46 = .ok (.aload_n 0, 1) := by decide +kernel
theorem dX1_open_47 : decode cX1_open 47 = .ok (.iload_n 3, 1) := by decide +kernel
theorem dX1_open_48 : decode cX1_open 48 = .ok (.putfield 89, 3) := by decide +kernel
theorem dX1_open_51 : decode cX1_open 51 = .ok (.aload_n 0, 1) := by decide +kernel
theorem dX1_open_52 : decode cX1_open 52 = .ok (.aload_n 1, 1) := by decide +kernel
theorem dX1_open_53 : decode cX1_open 53 = .ok (.getfield 79, 3) := by decide +kernel
theorem dX1_open_56 : decode cX1_open 56 = .ok (.putfield 92, 3) := by decide +kernel
theorem dX1_open_59 : decode cX1_open 59 = .ok (.aload_n 0, 1) := by decide +kernel
theorem dX1_open_60 : decode cX1_open 60 = .ok (.iconst (-1), 1) := by decide +kernel
theorem dX1_open_61 : decode cX1_open 61 = .ok (.putfield 95, 3) := by decide +kernel
theorem dX1_open_64 : decode cX1_open 64 = .ok (.aload_n 0, 1) := by decide +kernel
theorem dX1_open_65 : decode cX1_open 65 = .ok (.iconst 0, 1) := by decide +kernel
theorem dX1_open_66 : decode cX1_open 66 = .ok (.putfield 98, 3) := by decide +kernel
theorem dX1_open_69 : decode cX1_open 69 = .ok (.aload_n 0, 1) := by decide +kernel
theorem dX1_open_70 : decode cX1_open 70 = .ok (.iconst 0, 1) := by decide +kernel
theorem dX1_open_71 : decode cX1_open 71 = .ok (.putfield 101, 3) := by decide +kernel
theorem dX1_open_74 : decode cX1_open 74 = .ok (.aload_n 0, 1) := by decide +kernel
theorem dX1_open_75 : decode cX1_open 75 = .ok (.iconst 0, 1) := by decide +kernel
theorem dX1_open_76 : decode cX1_open 76 = .ok (.putfield 105, 3) := by decide +kernel
theorem dX1_open_79 : decode cX1_open 79 = .ok (.aload_n 0, 1) := by decide +kernel
theorem dX1_open_80 : decode cX1_open 80 = .ok (.iconst 0, 1) := by decide +kernel
theorem dX1_open_81 : decode cX1_open 81 = .ok (.putfield 108, 3) := by decide +kernel
theorem dX1_open_84 : decode cX1_open 84 = .ok (.aload_n 0, 1) := by decide +kernel
theorem dX1_open_85 : decode cX1_open 85 = .ok (.getfield 21, 3) := by decide +kernel
theorem dX1_open_88 : decode cX1_open 88 = .ok (.iconst (-1), 1) := by decide +kernel
theorem dX1_open_89 : decode cX1_open 89 = .ok (.invokestatic 111, 3) := by decide +kernel
theorem dX1_open_92 : decode cX1_open 92 = .ok (.aload_n 0, 1) := by decide +kernel
theorem dX1_open_93 : decode cX1_open 93 = .ok (.getfield 39, 3) := by decide +kernel
theorem dX1_open_96 : decode cX1_open 96 = .ok (.aload_n 0, 1) := by decide +kernel
theorem dX1_open_97 : decode cX1_open 97 = .ok (.getfield 30, 3) := by decide +kernel
theorem dX1_open_100 : decode cX1_open 100 = .ok (.aload_n 0, 1) := by decide +kernel
theorem dX1_open_101 : decode cX1_open 101 = .ok (.getfield 89, 3) := by decide +kernel
theorem dX1_open_104 : decode cX1_open 104 = .ok (.aload_n 0, 1) := by decide +kernel
theorem dX1_open_105 : decode cX1_open 105 = .ok (.invokevirtual 117, 3) := by decide +kernel
theorem dX1_open_108 : decode cX1_open 108 = .ok (.invokevirtual 121, 3) := by decide +kernel
theorem dX1_open_111 : decode cX1_open 111 = .ok (.aload_n 0, 1) := by decide +kernel
theorem dX1_open_112 : decode cX1_open 112 = .ok (.aload_n 0, 1) := by decide +kernel
theorem dX1_open_113 : decode cX1_open 113 = .ok (.getfield 39, 3) := by decide +kernel
theorem dX1_open_116 : decode cX1_open 116 = .ok (.invokevirtual 125, 3) := by decide +kernel
theorem dX1_open_119 : decode cX1_open 119 = .ok (.putfield 128, 3) := by decide +kernel
theorem dX1_open_122 : decode cX1_open 122 = .ok (.return_, 1) := by decide +kernel
theorem dX1_allGlasses_0 : decode cX1_allGlasses 0 = .ok (.iconst 1, 1) := by decide +kernel
theorem dX1_allGlasses_1 : decode cX1_allGlasses 1 = .ok (.aload_n 0, 1) := by decide +kernel
theorem dX1_allGlasses_2 : decode cX1_allGlasses 2 = .ok (.getfield 92, 3) := by decide +kernel
theorem dX1_allGlasses_5 : decode cX1_allGlasses 5 = .ok (.ishl, 1) := by decide +kernel
theorem dX1_allGlasses_6 : decode cX1_allGlasses 6 = .ok (.iconst 1, 1) := by decide +kernel
theorem dX1_allGlasses_7 : decode cX1_allGlasses 7 = .ok (.isub, 1) := by decide +kernel
theorem dX1_allGlasses_8 : decode cX1_allGlasses 8 = .ok (.ireturn, 1) := by decide +kernel
theorem dX1_told_0 : decode cX1_told 0 = .ok (.aload_n 0, 1) := by decide +kernel
theorem dX1_told_1 : decode cX1_told 1 = .ok (.getfield 128, 3) := by decide +kernel
theorem dX1_told_4 : decode cX1_told 4 = .ok (.ireturn, 1) := by decide +kernel
set_option maxRecDepth 20000 in
theorem ggX1_toldBy_X1_allGlasses : GoodIn wsX1_toldBy wsX1_allGlasses := goodIn_r _ [10, 11, 75, 76, 77, 78, 79, 80, 81, 82, 83, 84, 85, 86, 87, 88, 89, 90, 91, 92, 93, 94] (by decide +kernel) (by decide +kernel)
set_option maxRecDepth 20000 in
theorem gX1_toldBy_X1_allGlasses : GoodIn wsX1_toldBy (wsV RX1 117 RX1 yX1_allGlasses wsX1_allGlasses) := goodIn_app (goodIn_of _ (by decide +kernel)) ggX1_toldBy_X1_allGlasses
set_option maxRecDepth 20000 in
theorem ggX1_toldBy_X10_explore : GoodIn wsX1_toldBy wsX10_explore := goodIn_r _ [16, 17, 18, 19, 20, 21, 22, 23, 24, 25, 26, 27, 28, 29, 15, 30, 31, 32, 33, 34, 35, 36, 37, 38, 39, 40, 41, 42, 43, 44, 45, 46, 47, 48, 49, 50, 51, 52, 53, 54, 55, 56, 57, 58, 59, 60, 61, 62, 63, 64, 65, 66, 67, 68, 69, 70, 95, 96, 97, 98, 99, 100, 101, 102, 103, 104, 105] (by decide +kernel) (by decide +kernel)
set_option maxRecDepth 20000 in
theorem gX1_toldBy_X10_explore : GoodIn wsX1_toldBy (wsV RX1 121 RX10 yX10_explore wsX10_explore) := goodIn_app (goodIn_of _ (by decide +kernel)) ggX1_toldBy_X10_explore
set_option maxRecDepth 20000 in
theorem ggX1_toldBy_X10_eventMinutes : GoodIn wsX1_toldBy wsX10_eventMinutes := goodIn_r _ [74, 52, 95, 96, 97, 98, 99, 100, 101, 102, 103] (by decide +kernel) (by decide +kernel)
set_option maxRecDepth 20000 in
theorem gX1_toldBy_X10_eventMinutes : GoodIn wsX1_toldBy (wsV RX1 125 RX10 yX10_eventMinutes wsX10_eventMinutes) := goodIn_app (goodIn_of _ (by decide +kernel)) ggX1_toldBy_X10_eventMinutes
theorem dX1_toldBy_0 : decode cX1_toldBy 0 = .ok (.iload_n 1, 1) := by decide +kernel
theorem dX1_toldBy_1 : decode cX1_toldBy 1 = .ok (.aload_n 0, 1) := by decide +kernel
theorem dX1_toldBy_2 : decode cX1_toldBy 2 = .ok (.invokevirtual 117, 3) := by decide +kernel
theorem dX1_toldBy_5 : decode cX1_toldBy 5 = .ok (.if_icmp .ne 8, 3) := by decide +kernel
theorem dX1_toldBy_8 : decode cX1_toldBy 8 = .ok (.aload_n 0, 1) := by decide +kernel
theorem dX1_toldBy_9 : decode cX1_toldBy 9 = .ok (.getfield 128, 3) := by decide +kernel
theorem dX1_toldBy_12 : decode cX1_toldBy 12 = .ok (.ireturn, 1) := by decide +kernel
theorem dX1_toldBy_13 : decode cX1_toldBy 13 = .ok (.iload_n 1, 1) := by decide +kernel
theorem dX1_toldBy_14 : decode cX1_toldBy 14 = .ok (.bipush 15, 2) := by decide +kernel
theorem dX1_toldBy_16 : decode cX1_toldBy 16 = .ok (.iand, 1) := by decide +kernel
theorem dX1_toldBy_17 : decode cX1_toldBy 17 = .ok (.istore_n 2, 1) := by decide +kernel
theorem dX1_toldBy_18 : decode cX1_toldBy 18 = .ok (.aload_n 0, 1) := by decide +kernel
theorem dX1_toldBy_19 : decode cX1_toldBy 19 = .ok (.getfield 21, 3) := by decide +kernel
theorem dX1_toldBy_22 : decode cX1_toldBy 22 = .ok (.iload_n 2, 1) := by decide +kernel
theorem dX1_toldBy_23 : decode cX1_toldBy 23 = .ok (.iaload, 1) := by decide +kernel
theorem dX1_toldBy_24 : decode cX1_toldBy 24 = .ok (.iconst (-1), 1) := by decide +kernel
theorem dX1_toldBy_25 : decode cX1_toldBy 25 = .ok (.if_icmp .ne 44, 3) := by decide +kernel
theorem dX1_toldBy_28 : decode cX1_toldBy 28 = .ok (.aload_n 0, 1) := by decide +kernel
theorem dX1_toldBy_29 : decode cX1_toldBy 29 = .ok (.getfield 43, 3) := by decide +kernel
theorem dX1_toldBy_32 : decode cX1_toldBy 32 = .ok (.aload_n 0, 1) := by decide +kernel
theorem dX1_toldBy_33 : decode cX1_toldBy 33 = .ok (.getfield 30, 3) := by decide +kernel
theorem dX1_toldBy_36 : decode cX1_toldBy 36 = .ok (.getstatic 131, 3) := by decide +kernel
theorem dX1_toldBy_39 : decode cX1_toldBy 39 = .ok (.iload_n 2, 1) := by decide +kernel
theorem dX1_toldBy_40 : decode cX1_toldBy 40 = .ok (.iaload, 1) := by decide +kernel
theorem dX1_toldBy_41 : decode cX1_toldBy 41 = .ok (.iand, 1) := by decide +kernel
theorem dX1_toldBy_42 : decode cX1_toldBy 42 = .ok (.aload_n 0, 1) := by decide +kernel
theorem dX1_toldBy_43 : decode cX1_toldBy 43 = .ok (.getfield 89, 3) := by decide +kernel
theorem dX1_toldBy_46 : decode cX1_toldBy 46 = .ok (.getstatic 131, 3) := by decide +kernel
theorem dX1_toldBy_49 : decode cX1_toldBy 49 = .ok (.iload_n 2, 1) := by decide +kernel
theorem dX1_toldBy_50 : decode cX1_toldBy 50 = .ok (.iaload, 1) := by decide +kernel
theorem dX1_toldBy_51 : decode cX1_toldBy 51 = .ok (.iand, 1) := by decide +kernel
theorem dX1_toldBy_52 : decode cX1_toldBy 52 = .ok (.iload_n 2, 1) := by decide +kernel
theorem dX1_toldBy_53 : decode cX1_toldBy 53 = .ok (.invokevirtual 121, 3) := by decide +kernel
theorem dX1_toldBy_56 : decode cX1_toldBy 56 = .ok (.aload_n 0, 1) := by decide +kernel
theorem dX1_toldBy_57 : decode cX1_toldBy 57 = .ok (.getfield 21, 3) := by decide +kernel
theorem dX1_toldBy_60 : decode cX1_toldBy 60 = .ok (.iload_n 2, 1) := by decide +kernel
theorem dX1_toldBy_61 : decode cX1_toldBy 61 = .ok (.aload_n 0, 1) := by decide +kernel
theorem dX1_toldBy_62 : decode cX1_toldBy 62 = .ok (.getfield 43, 3) := by decide +kernel
theorem dX1_toldBy_65 : decode cX1_toldBy 65 = .ok (.invokevirtual 125, 3) := by decide +kernel
theorem dX1_toldBy_68 : decode cX1_toldBy 68 = .ok (.iastore, 1) := by decide +kernel
theorem dX1_toldBy_69 : decode cX1_toldBy 69 = .ok (.aload_n 0, 1) := by decide +kernel
theorem dX1_toldBy_70 : decode cX1_toldBy 70 = .ok (.getfield 21, 3) := by decide +kernel
theorem dX1_toldBy_73 : decode cX1_toldBy 73 = .ok (.iload_n 2, 1) := by decide +kernel
theorem dX1_toldBy_74 : decode cX1_toldBy 74 = .ok (.iaload, 1) := by decide +kernel
theorem dX1_toldBy_75 : decode cX1_toldBy 75 = .ok (.ireturn, 1) := by decide +kernel
set_option maxRecDepth 20000 in
theorem ggX1_fewestGlasses_X1_allGlasses : GoodIn wsX1_fewestGlasses wsX1_allGlasses := goodIn_r _ [5, 6, 88, 89, 90, 91, 92, 93, 94, 95, 96, 97, 98, 99, 100, 101, 102, 103, 104, 105, 106, 107] (by decide +kernel) (by decide +kernel)
set_option maxRecDepth 20000 in
theorem gX1_fewestGlasses_X1_allGlasses : GoodIn wsX1_fewestGlasses (wsV RX1 117 RX1 yX1_allGlasses wsX1_allGlasses) := goodIn_app (goodIn_of _ (by decide +kernel)) ggX1_fewestGlasses_X1_allGlasses
set_option maxRecDepth 20000 in
theorem ggX1_fewestGlasses_J6_bitCount_0f7a4 : GoodIn wsX1_fewestGlasses wsJ6_bitCount_0f7a4 := goodIn_r _ [10, 11, 12, 13] (by decide +kernel) (by decide +kernel)
set_option maxRecDepth 20000 in
theorem gX1_fewestGlasses_J6_bitCount_0f7a4 : GoodIn wsX1_fewestGlasses (va_wsS RX1 134 yJ6_bitCount_0f7a4 wsJ6_bitCount_0f7a4) := goodIn_app (goodIn_of _ (by decide +kernel)) ggX1_fewestGlasses_J6_bitCount_0f7a4
set_option maxRecDepth 20000 in
theorem ggX1_fewestGlasses_X1_toldBy : GoodIn wsX1_fewestGlasses wsX1_toldBy := goodIn_r _ [17, 18, 19, 20, 21, 22, 1, 2, 3, 4, 5, 6, 23, 24, 25, 26, 27, 28, 29, 30, 31, 32, 33, 34, 35, 36, 37, 38, 39, 40, 41, 42, 43, 44, 45, 46, 47, 48, 49, 50, 51, 52, 53, 54, 55, 56, 57, 58, 59, 60, 61, 62, 63, 64, 65, 66, 67, 68, 69, 70, 71, 72, 73, 74, 75, 76, 77, 78, 79, 80, 81, 82, 83, 84, 85, 88, 89, 90, 91, 92, 93, 94, 95, 96, 97, 98, 99, 100, 101, 102, 103, 104, 105, 106, 107, 108, 109, 110, 111, 112, 113, 114, 115, 116, 117, 118] (by decide +kernel) (by decide +kernel)
set_option maxRecDepth 20000 in
theorem gX1_fewestGlasses_X1_toldBy : GoodIn wsX1_fewestGlasses (wsV RX1 140 RX1 yX1_toldBy wsX1_toldBy) := goodIn_app (goodIn_of _ (by decide +kernel)) ggX1_fewestGlasses_X1_toldBy
set_option maxRecDepth 20000 in
theorem ggX1_fewestGlasses_X11_has : GoodIn wsX1_fewestGlasses wsX11_has := goodIn_r _ [87] (by decide +kernel) (by decide +kernel)
set_option maxRecDepth 20000 in
theorem gX1_fewestGlasses_X11_has_n143 : GoodIn wsX1_fewestGlasses (wsX11_has) := ggX1_fewestGlasses_X11_has
theorem dX1_fewestGlasses_0 : decode cX1_fewestGlasses 0 = .ok (.iconst (-1), 1) := by decide +kernel
theorem dX1_fewestGlasses_1 : decode cX1_fewestGlasses 1 = .ok (.istore_n 2, 1) := by decide +kernel
theorem dX1_fewestGlasses_2 : decode cX1_fewestGlasses 2 = .ok (.iconst 1, 1) := by decide +kernel
theorem dX1_fewestGlasses_3 : decode cX1_fewestGlasses 3 = .ok (.istore_n 3, 1) := by decide +kernel
theorem dX1_fewestGlasses_4 : decode cX1_fewestGlasses 4 = .ok (.iload_n 3, 1) := by decide +kernel
theorem dX1_fewestGlasses_5 : decode cX1_fewestGlasses 5 = .ok (.aload_n 0, 1) := by decide +kernel
theorem dX1_fewestGlasses_6 : decode cX1_fewestGlasses 6 = .ok (.invokevirtual 117, 3) := by decide +kernel
theorem dX1_fewestGlasses_9 : decode cX1_fewestGlasses 9 = .ok (.if_icmp .gt 51, 3) := by decide +kernel
theorem dX1_fewestGlasses_12 : decode cX1_fewestGlasses 12 = .ok (.iload_n 2, 1) := by decide +kernel
theorem dX1_fewestGlasses_13 : decode cX1_fewestGlasses 13 = .ok (.iconst (-1), 1) := by decide +kernel
theorem dX1_fewestGlasses_14 : decode cX1_fewestGlasses 14 = .ok (.if_icmp .eq 14, 3) := by decide +kernel
theorem dX1_fewestGlasses_17 : decode cX1_fewestGlasses 17 = .ok (.iload_n 3, 1) := by decide +kernel
theorem dX1_fewestGlasses_18 : decode cX1_fewestGlasses 18 = .ok (.invokestatic 134, 3) := by decide +kernel
theorem dX1_fewestGlasses_21 : decode cX1_fewestGlasses 21 = .ok (.iload_n 2, 1) := by decide +kernel
theorem dX1_fewestGlasses_22 : decode cX1_fewestGlasses 22 = .ok (.invokestatic 134, 3) := by decide +kernel
theorem dX1_fewestGlasses_25 : decode cX1_fewestGlasses 25 = .ok (.if_icmp .ge 7, 3) := by decide +kernel
theorem dX1_fewestGlasses_28 : decode cX1_fewestGlasses 28 = .ok (.iconst 1, 1) := by decide +kernel
theorem dX1_fewestGlasses_29 : decode cX1_fewestGlasses 29 = .ok (.goto 4, 3) := by decide +kernel
theorem dX1_fewestGlasses_32 : decode cX1_fewestGlasses 32 = .ok (.iconst 0, 1) := by decide +kernel
theorem dX1_fewestGlasses_33 : decode cX1_fewestGlasses 33 = .ok (.istore 4, 2) := by decide +kernel
theorem dX1_fewestGlasses_35 : decode cX1_fewestGlasses 35 = .ok (.iload 4, 2) := by decide +kernel
theorem dX1_fewestGlasses_37 : decode cX1_fewestGlasses 37 = .ok (.ifCond .eq 17, 3) := by decide +kernel
theorem dX1_fewestGlasses_40 : decode cX1_fewestGlasses 40 = .ok (.aload_n 0, 1) := by decide +kernel
theorem dX1_fewestGlasses_41 : decode cX1_fewestGlasses 41 = .ok (.iload_n 3, 1) := by decide +kernel
theorem dX1_fewestGlasses_42 : decode cX1_fewestGlasses 42 = .ok (.invokevirtual 140, 3) := by decide +kernel
theorem dX1_fewestGlasses_45 : decode cX1_fewestGlasses 45 = .ok (.iload_n 1, 1) := by decide +kernel
theorem dX1_fewestGlasses_46 : decode cX1_fewestGlasses 46 = .ok (.invokestatic 143, 3) := by decide +kernel
theorem dX1_fewestGlasses_49 : decode cX1_fewestGlasses 49 = .ok (.ifCond .eq 5, 3) := by decide +kernel
theorem dX1_fewestGlasses_52 : decode cX1_fewestGlasses 52 = .ok (.iload_n 3, 1) := by decide +kernel
theorem dX1_fewestGlasses_53 : decode cX1_fewestGlasses 53 = .ok (.istore_n 2, 1) := by decide +kernel
theorem dX1_fewestGlasses_54 : decode cX1_fewestGlasses 54 = .ok (.iinc 3 1, 3) := by decide +kernel
theorem dX1_fewestGlasses_57 : decode cX1_fewestGlasses 57 = .ok (.goto (-53), 3) := by decide +kernel
theorem dX1_fewestGlasses_60 : decode cX1_fewestGlasses 60 = .ok (.iload_n 2, 1) := by decide +kernel
theorem dX1_fewestGlasses_61 : decode cX1_fewestGlasses 61 = .ok (.ireturn, 1) := by decide +kernel
theorem dX1_minutesOfEvent_0 : decode cX1_minutesOfEvent 0 = .ok (.iload_n 1, 1) := by decide +kernel
theorem dX1_minutesOfEvent_1 : decode cX1_minutesOfEvent 1 = .ok (.ifCond .lt 21, 3) := by decide +kernel
theorem dX1_minutesOfEvent_4 : decode cX1_minutesOfEvent 4 = .ok (.iload_n 1, 1) := by decide +kernel
theorem dX1_minutesOfEvent_5 : decode cX1_minutesOfEvent 5 = .ok (.bipush 30, 2) := by decide +kernel
theorem dX1_minutesOfEvent_7 : decode cX1_minutesOfEvent 7 = .ok (.if_icmp .gt 15, 3) := by decide +kernel
theorem dX1_minutesOfEvent_10 : decode cX1_minutesOfEvent 10 = .ok (.aload_n 0, 1) := by decide +kernel
theorem dX1_minutesOfEvent_11 : decode cX1_minutesOfEvent 11 = .ok (.getfield 39, 3) := by decide +kernel
theorem dX1_minutesOfEvent_14 : decode cX1_minutesOfEvent 14 = .ok (.getfield 147, 3) := by decide +kernel
theorem dX1_minutesOfEvent_17 : decode cX1_minutesOfEvent 17 = .ok (.iload_n 1, 1) := by decide +kernel
theorem dX1_minutesOfEvent_18 : decode cX1_minutesOfEvent 18 = .ok (.iaload, 1) := by decide +kernel
theorem dX1_minutesOfEvent_19 : decode cX1_minutesOfEvent 19 = .ok (.goto 4, 3) := by decide +kernel
theorem dX1_minutesOfEvent_22 : decode cX1_minutesOfEvent 22 = .ok (.iconst 0, 1) := by decide +kernel
theorem dX1_minutesOfEvent_23 : decode cX1_minutesOfEvent 23 = .ok (.ireturn, 1) := by decide +kernel
set_option maxRecDepth 20000 in
theorem ggX1_fewestEvents_X11_has : GoodIn wsX1_fewestEvents wsX11_has := goodIn_r _ [5] (by decide +kernel) (by decide +kernel)
set_option maxRecDepth 20000 in
theorem gX1_fewestEvents_X11_has_n143 : GoodIn wsX1_fewestEvents (wsX11_has) := ggX1_fewestEvents_X11_has
theorem dX1_fewestEvents_0 : decode cX1_fewestEvents 0 = .ok (.iconst 1, 1) := by decide +kernel
theorem dX1_fewestEvents_1 : decode cX1_fewestEvents 1 = .ok (.istore_n 2, 1) := by decide +kernel
theorem dX1_fewestEvents_2 : decode cX1_fewestEvents 2 = .ok (.iload_n 2, 1) := by decide +kernel
theorem dX1_fewestEvents_3 : decode cX1_fewestEvents 3 = .ok (.bipush 30, 2) := by decide +kernel
theorem dX1_fewestEvents_5 : decode cX1_fewestEvents 5 = .ok (.if_icmp .gt 27, 3) := by decide +kernel
theorem dX1_fewestEvents_8 : decode cX1_fewestEvents 8 = .ok (.aload_n 0, 1) := by decide +kernel
theorem dX1_fewestEvents_9 : decode cX1_fewestEvents 9 = .ok (.getfield 39, 3) := by decide +kernel
theorem dX1_fewestEvents_12 : decode cX1_fewestEvents 12 = .ok (.getfield 147, 3) := by decide +kernel
theorem dX1_fewestEvents_15 : decode cX1_fewestEvents 15 = .ok (.iload_n 2, 1) := by decide +kernel
theorem dX1_fewestEvents_16 : decode cX1_fewestEvents 16 = .ok (.iaload, 1) := by decide +kernel
theorem dX1_fewestEvents_17 : decode cX1_fewestEvents 17 = .ok (.iload_n 1, 1) := by decide +kernel
theorem dX1_fewestEvents_18 : decode cX1_fewestEvents 18 = .ok (.invokestatic 143, 3) := by decide +kernel
theorem dX1_fewestEvents_21 : decode cX1_fewestEvents 21 = .ok (.ifCond .eq 5, 3) := by decide +kernel
theorem dX1_fewestEvents_24 : decode cX1_fewestEvents 24 = .ok (.iload_n 2, 1) := by decide +kernel
theorem dX1_fewestEvents_25 : decode cX1_fewestEvents 25 = .ok (.ireturn, 1) := by decide +kernel
theorem dX1_fewestEvents_26 : decode cX1_fewestEvents 26 = .ok (.iinc 2 1, 3) := by decide +kernel
theorem dX1_fewestEvents_29 : decode cX1_fewestEvents 29 = .ok (.goto (-27), 3) := by decide +kernel
theorem dX1_fewestEvents_32 : decode cX1_fewestEvents 32 = .ok (.iconst (-1), 1) := by decide +kernel
theorem dX1_fewestEvents_33 : decode cX1_fewestEvents 33 = .ok (.ireturn, 1) := by decide +kernel
theorem dX1_rowsWithin_0 : decode cX1_rowsWithin 0 = .ok (.iconst 0, 1) := by decide +kernel
theorem dX1_rowsWithin_1 : decode cX1_rowsWithin 1 = .ok (.istore_n 2, 1) := by decide +kernel
theorem dX1_rowsWithin_2 : decode cX1_rowsWithin 2 = .ok (.iconst 0, 1) := by decide +kernel
theorem dX1_rowsWithin_3 : decode cX1_rowsWithin 3 = .ok (.istore_n 3, 1) := by decide +kernel
theorem dX1_rowsWithin_4 : decode cX1_rowsWithin 4 = .ok (.iload_n 3, 1) := by decide +kernel
theorem dX1_rowsWithin_5 : decode cX1_rowsWithin 5 = .ok (.aload_n 0, 1) := by decide +kernel
theorem dX1_rowsWithin_6 : decode cX1_rowsWithin 6 = .ok (.getfield 39, 3) := by decide +kernel
theorem dX1_rowsWithin_9 : decode cX1_rowsWithin 9 = .ok (.getfield 150, 3) := by decide +kernel
theorem dX1_rowsWithin_12 : decode cX1_rowsWithin 12 = .ok (.if_icmp .ge 26, 3) := by decide +kernel
theorem dX1_rowsWithin_15 : decode cX1_rowsWithin 15 = .ok (.aload_n 0, 1) := by decide +kernel
theorem dX1_rowsWithin_16 : decode cX1_rowsWithin 16 = .ok (.getfield 39, 3) := by decide +kernel
theorem dX1_rowsWithin_19 : decode cX1_rowsWithin 19 = .ok (.getfield 153, 3) := by decide +kernel
theorem dX1_rowsWithin_22 : decode cX1_rowsWithin 22 = .ok (.iload_n 3, 1) := by decide +kernel
theorem dX1_rowsWithin_23 : decode cX1_rowsWithin 23 = .ok (.iaload, 1) := by decide +kernel
theorem dX1_rowsWithin_24 : decode cX1_rowsWithin 24 = .ok (.iload_n 1, 1) := by decide +kernel
theorem dX1_rowsWithin_25 : decode cX1_rowsWithin 25 = .ok (.iand, 1) := by decide +kernel
theorem dX1_rowsWithin_26 : decode cX1_rowsWithin 26 = .ok (.ifCond .eq 6, 3) := by decide +kernel
theorem dX1_rowsWithin_29 : decode cX1_rowsWithin 29 = .ok (.iinc 2 1, 3) := by decide +kernel
theorem dX1_rowsWithin_32 : decode cX1_rowsWithin 32 = .ok (.iinc 3 1, 3) := by decide +kernel
theorem dX1_rowsWithin_35 : decode cX1_rowsWithin 35 = .ok (.goto (-31), 3) := by decide +kernel
theorem dX1_rowsWithin_38 : decode cX1_rowsWithin 38 = .ok (.iload_n 2, 1) := by decide +kernel
theorem dX1_rowsWithin_39 : decode cX1_rowsWithin 39 = .ok (.ireturn, 1) := by decide +kernel
theorem dX1_longestStill_0 : decode cX1_longestStill 0 = .ok (.iconst 0, 1) := by decide +kernel
theorem dX1_longestStill_1 : decode cX1_longestStill 1 = .ok (.istore_n 1, 1) := by decide +kernel
theorem dX1_longestStill_2 : decode cX1_longestStill 2 = .ok (.iconst 0, 1) := by decide +kernel
theorem dX1_longestStill_3 : decode cX1_longestStill 3 = .ok (.istore_n 2, 1) := by decide +kernel
theorem dX1_longestStill_4 : decode cX1_longestStill 4 = .ok (.iload_n 2, 1) := by decide +kernel
theorem dX1_longestStill_5 : decode cX1_longestStill 5 = .ok (.aload_n 0, 1) := by decide +kernel
theorem dX1_longestStill_6 : decode cX1_longestStill 6 = .ok (.getfield 39, 3) := by decide +kernel
theorem dX1_longestStill_9 : decode cX1_longestStill 9 = .ok (.getfield 150, 3) := by decide +kernel
theorem dX1_longestStill_12 : decode cX1_longestStill 12 = .ok (.if_icmp .ge 62, 3) := by decide +kernel
theorem dX1_longestStill_15 : decode cX1_longestStill 15 = .ok (.iconst 0, 1) := by decide +kernel
theorem dX1_longestStill_16 : decode cX1_longestStill 16 = .ok (.istore_n 3, 1) := by decide +kernel
theorem dX1_longestStill_17 : decode cX1_longestStill 17 = .ok (.iload_n 3, 1) := by decide +kernel
theorem dX1_longestStill_18 : decode cX1_longestStill 18 = .ok (.aload_n 0, 1) := by decide +kernel
theorem dX1_longestStill_19 : decode cX1_longestStill 19 = .ok (.getfield 39, 3) := by decide +kernel
theorem dX1_longestStill_22 : decode cX1_longestStill 22 = .ok (.getfield 156, 3) := by decide +kernel
theorem dX1_longestStill_25 : decode cX1_longestStill 25 = .ok (.if_icmp .ge 43, 3) := by decide +kernel
theorem dX1_longestStill_28 : decode cX1_longestStill 28 = .ok (.aload_n 0, 1) := by decide +kernel
theorem dX1_longestStill_29 : decode cX1_longestStill 29 = .ok (.getfield 39, 3) := by decide +kernel
theorem dX1_longestStill_32 : decode cX1_longestStill 32 = .ok (.getfield 153, 3) := by decide +kernel
theorem dX1_longestStill_35 : decode cX1_longestStill 35 = .ok (.iload_n 2, 1) := by decide +kernel
theorem dX1_longestStill_36 : decode cX1_longestStill 36 = .ok (.iaload, 1) := by decide +kernel
theorem dX1_longestStill_37 : decode cX1_longestStill 37 = .ok (.ifCond .eq 31, 3) := by decide +kernel
theorem dX1_longestStill_40 : decode cX1_longestStill 40 = .ok (.iload_n 1, 1) := by decide +kernel
theorem dX1_longestStill_41 : decode cX1_longestStill 41 = .ok (.aload_n 0, 1) := by decide +kernel
theorem dX1_longestStill_42 : decode cX1_longestStill 42 = .ok (.getfield 39, 3) := by decide +kernel
theorem dX1_longestStill_45 : decode cX1_longestStill 45 = .ok (.getfield 159, 3) := by decide +kernel
theorem dX1_longestStill_48 : decode cX1_longestStill 48 = .ok (.iload_n 2, 1) := by decide +kernel
theorem dX1_longestStill_49 : decode cX1_longestStill 49 = .ok (.bipush 16, 2) := by decide +kernel
theorem dX1_longestStill_51 : decode cX1_longestStill 51 = .ok (.imul, 1) := by decide +kernel
theorem dX1_longestStill_52 : decode cX1_longestStill 52 = .ok (.iload_n 3, 1) := by decide +kernel
theorem dX1_longestStill_53 : decode cX1_longestStill 53 = .ok (.iadd, 1) := by decide +kernel
theorem dX1_longestStill_54 : decode cX1_longestStill 54 = .ok (.iaload, 1) := by decide +kernel
theorem dX1_longestStill_55 : decode cX1_longestStill 55 = .ok (.bipush 12, 2) := by decide +kernel
theorem dX1_longestStill_57 : decode cX1_longestStill 57 = .ok (.ishr, 1) := by decide +kernel
theorem dX1_longestStill_58 : decode cX1_longestStill 58 = .ok (.invokestatic 71, 3) := by decide +kernel
theorem dX1_longestStill_61 : decode cX1_longestStill 61 = .ok (.istore_n 1, 1) := by decide +kernel
theorem dX1_longestStill_62 : decode cX1_longestStill 62 = .ok (.iinc 3 1, 3) := by decide +kernel
theorem dX1_longestStill_65 : decode cX1_longestStill 65 = .ok (.goto (-48), 3) := by decide +kernel
theorem dX1_longestStill_68 : decode cX1_longestStill 68 = .ok (.iinc 2 1, 3) := by decide +kernel
theorem dX1_longestStill_71 : decode cX1_longestStill 71 = .ok (.goto (-67), 3) := by decide +kernel
theorem dX1_longestStill_74 : decode cX1_longestStill 74 = .ok (.iload_n 1, 1) := by decide +kernel
theorem dX1_longestStill_75 : decode cX1_longestStill 75 = .ok (.ireturn, 1) := by decide +kernel
set_option maxRecDepth 20000 in
theorem ggX1_allAtOnce_X1_allGlasses : GoodIn wsX1_allAtOnce wsX1_allGlasses := goodIn_r _ [13, 14, 19, 20, 21, 22, 23, 24, 25, 26, 27, 28, 29, 30, 31, 32, 33, 34, 35, 36, 37, 38] (by decide +kernel) (by decide +kernel)
set_option maxRecDepth 20000 in
theorem gX1_allAtOnce_X1_allGlasses : GoodIn wsX1_allAtOnce (wsV RX1 117 RX1 yX1_allGlasses wsX1_allGlasses) := goodIn_app (goodIn_of _ (by decide +kernel)) ggX1_allAtOnce_X1_allGlasses
set_option maxRecDepth 20000 in
theorem ggX1_allAtOnce_X11_turned : GoodIn wsX1_allAtOnce wsX11_turned := goodIn_r _ [17, 18] (by decide +kernel) (by decide +kernel)
set_option maxRecDepth 20000 in
theorem gX1_allAtOnce_X11_turned_n162 : GoodIn wsX1_allAtOnce (wsX11_turned) := ggX1_allAtOnce_X11_turned
theorem dX1_allAtOnce_0 : decode cX1_allAtOnce 0 = .ok (.getstatic 131, 3) := by decide +kernel
theorem dX1_allAtOnce_3 : decode cX1_allAtOnce 3 = .ok (.aload_n 0, 1) := by decide +kernel
theorem dX1_allAtOnce_4 : decode cX1_allAtOnce 4 = .ok (.invokevirtual 117, 3) := by decide +kernel
theorem dX1_allAtOnce_7 : decode cX1_allAtOnce 7 = .ok (.bipush 15, 2) := by decide +kernel
theorem dX1_allAtOnce_9 : decode cX1_allAtOnce 9 = .ok (.iand, 1) := by decide +kernel
theorem dX1_allAtOnce_10 : decode cX1_allAtOnce 10 = .ok (.iaload, 1) := by decide +kernel
theorem dX1_allAtOnce_11 : decode cX1_allAtOnce 11 = .ok (.bipush 7, 2) := by decide +kernel
theorem dX1_allAtOnce_13 : decode cX1_allAtOnce 13 = .ok (.idiv, 1) := by decide +kernel
theorem dX1_allAtOnce_14 : decode cX1_allAtOnce 14 = .ok (.istore_n 1, 1) := by decide +kernel
theorem dX1_allAtOnce_15 : decode cX1_allAtOnce 15 = .ok (.iconst 0, 1) := by decide +kernel
theorem dX1_allAtOnce_16 : decode cX1_allAtOnce 16 = .ok (.istore_n 2, 1) := by decide +kernel
theorem dX1_allAtOnce_17 : decode cX1_allAtOnce 17 = .ok (.iconst 0, 1) := by decide +kernel
theorem dX1_allAtOnce_18 : decode cX1_allAtOnce 18 = .ok (.istore_n 3, 1) := by decide +kernel
theorem dX1_allAtOnce_19 : decode cX1_allAtOnce 19 = .ok (.iload_n 3, 1) := by decide +kernel
theorem dX1_allAtOnce_20 : decode cX1_allAtOnce 20 = .ok (.aload_n 0, 1) := by decide +kernel
theorem dX1_allAtOnce_21 : decode cX1_allAtOnce 21 = .ok (.getfield 39, 3) := by decide +kernel
theorem dX1_allAtOnce_24 : decode cX1_allAtOnce 24 = .ok (.getfield 150, 3) := by decide +kernel
theorem dX1_allAtOnce_27 : decode cX1_allAtOnce 27 = .ok (.if_icmp .ge 110, 3) := by decide +kernel
theorem dX1_allAtOnce_30 : decode cX1_allAtOnce 30 = .ok (.iconst 0, 1) := by decide +kernel
theorem dX1_allAtOnce_31 : decode cX1_allAtOnce 31 = .ok (.istore 4, 2) := by decide +kernel
theorem dX1_allAtOnce_33 : decode cX1_allAtOnce 33 = .ok (.iload 4, 2) := by decide +kernel
theorem dX1_allAtOnce_35 : decode cX1_allAtOnce 35 = .ok (.aload_n 0, 1) := by decide +kernel
theorem dX1_allAtOnce_36 : decode cX1_allAtOnce 36 = .ok (.getfield 39, 3) := by decide +kernel
theorem dX1_allAtOnce_39 : decode cX1_allAtOnce 39 = .ok (.getfield 156, 3) := by decide +kernel
theorem dX1_allAtOnce_42 : decode cX1_allAtOnce 42 = .ok (.if_icmp .ge 89, 3) := by decide +kernel
theorem dX1_allAtOnce_45 : decode cX1_allAtOnce 45 = .ok (.aload_n 0, 1) := by decide +kernel
theorem dX1_allAtOnce_46 : decode cX1_allAtOnce 46 = .ok (.getfield 39, 3) := by decide +kernel
theorem dX1_allAtOnce_49 : decode cX1_allAtOnce 49 = .ok (.getfield 153, 3) := by decide +kernel
theorem dX1_allAtOnce_52 : decode cX1_allAtOnce 52 = .ok (.iload_n 3, 1) := by decide +kernel
theorem dX1_allAtOnce_53 : decode cX1_allAtOnce 53 = .ok (.iaload, 1) := by decide +kernel
theorem dX1_allAtOnce_54 : decode cX1_allAtOnce 54 = .ok (.ifCond .eq 77, 3) := by decide +kernel
theorem dX1_allAtOnce_57 : decode cX1_allAtOnce 57 = .ok (.aload_n 0, 1) := by decide +kernel
theorem dX1_allAtOnce_58 : decode cX1_allAtOnce 58 = .ok (.getfield 39, 3) := by decide +kernel
theorem dX1_allAtOnce_61 : decode cX1_allAtOnce 61 = .ok (.getfield 159, 3) := by decide +kernel
theorem dX1_allAtOnce_64 : decode cX1_allAtOnce 64 = .ok (.iload_n 3, 1) := by decide +kernel
theorem dX1_allAtOnce_65 : decode cX1_allAtOnce 65 = .ok (.bipush 16, 2) := by decide +kernel
theorem dX1_allAtOnce_67 : decode cX1_allAtOnce 67 = .ok (.imul, 1) := by decide +kernel
theorem dX1_allAtOnce_68 : decode cX1_allAtOnce 68 = .ok (.iload 4, 2) := by decide +kernel
theorem dX1_allAtOnce_70 : decode cX1_allAtOnce 70 = .ok (.iadd, 1) := by decide +kernel
theorem dX1_allAtOnce_71 : decode cX1_allAtOnce 71 = .ok (.iaload, 1) := by decide +kernel
theorem dX1_allAtOnce_72 : decode cX1_allAtOnce 72 = .ok (.bipush 12, 2) := by decide +kernel
theorem dX1_allAtOnce_74 : decode cX1_allAtOnce 74 = .ok (.ishr, 1) := by decide +kernel
theorem dX1_allAtOnce_75 : decode cX1_allAtOnce 75 = .ok (.istore 5, 2) := by decide +kernel
theorem dX1_allAtOnce_77 : decode cX1_allAtOnce 77 = .ok (.iload 5, 2) := by decide +kernel
theorem dX1_allAtOnce_79 : decode cX1_allAtOnce 79 = .ok (.ifCond .le 46, 3) := by decide +kernel
theorem dX1_allAtOnce_82 : decode cX1_allAtOnce 82 = .ok (.aload_n 0, 1) := by decide +kernel
theorem dX1_allAtOnce_83 : decode cX1_allAtOnce 83 = .ok (.getfield 30, 3) := by decide +kernel
theorem dX1_allAtOnce_86 : decode cX1_allAtOnce 86 = .ok (.aload_n 0, 1) := by decide +kernel
theorem dX1_allAtOnce_87 : decode cX1_allAtOnce 87 = .ok (.getfield 39, 3) := by decide +kernel
theorem dX1_allAtOnce_90 : decode cX1_allAtOnce 90 = .ok (.getfield 55, 3) := by decide +kernel
theorem dX1_allAtOnce_93 : decode cX1_allAtOnce 93 = .ok (.iload_n 3, 1) := by decide +kernel
theorem dX1_allAtOnce_94 : decode cX1_allAtOnce 94 = .ok (.iaload, 1) := by decide +kernel
theorem dX1_allAtOnce_95 : decode cX1_allAtOnce 95 = .ok (.iload 4, 2) := by decide +kernel
theorem dX1_allAtOnce_97 : decode cX1_allAtOnce 97 = .ok (.invokestatic 162, 3) := by decide +kernel
theorem dX1_allAtOnce_100 : decode cX1_allAtOnce 100 = .ok (.iload 5, 2) := by decide +kernel
theorem dX1_allAtOnce_102 : decode cX1_allAtOnce 102 = .ok (.iload_n 1, 1) := by decide +kernel
theorem dX1_allAtOnce_103 : decode cX1_allAtOnce 103 = .ok (.imul, 1) := by decide +kernel
theorem dX1_allAtOnce_104 : decode cX1_allAtOnce 104 = .ok (.if_icmp .ne 21, 3) := by decide +kernel
theorem dX1_allAtOnce_107 : decode cX1_allAtOnce 107 = .ok (.iload_n 2, 1) := by decide +kernel
theorem dX1_allAtOnce_108 : decode cX1_allAtOnce 108 = .ok (.aload_n 0, 1) := by decide +kernel
theorem dX1_allAtOnce_109 : decode cX1_allAtOnce 109 = .ok (.getfield 39, 3) := by decide +kernel
theorem dX1_allAtOnce_112 : decode cX1_allAtOnce 112 = .ok (.getfield 153, 3) := by decide +kernel
theorem dX1_allAtOnce_115 : decode cX1_allAtOnce 115 = .ok (.iload_n 3, 1) := by decide +kernel
theorem dX1_allAtOnce_116 : decode cX1_allAtOnce 116 = .ok (.iaload, 1) := by decide +kernel
theorem dX1_allAtOnce_117 : decode cX1_allAtOnce 117 = .ok (.iload 5, 2) := by decide +kernel
theorem dX1_allAtOnce_119 : decode cX1_allAtOnce 119 = .ok (.ishl, 1) := by decide +kernel
theorem dX1_allAtOnce_120 : decode cX1_allAtOnce 120 = .ok (.ldc 166, 2) := by decide +kernel
theorem dX1_allAtOnce_122 : decode cX1_allAtOnce 122 = .ok (.iand, 1) := by decide +kernel
theorem dX1_allAtOnce_123 : decode cX1_allAtOnce 123 = .ok (.ior, 1) := by decide +kernel
theorem dX1_allAtOnce_124 : decode cX1_allAtOnce 124 = .ok (.istore_n 2, 1) := by decide +kernel
theorem dX1_allAtOnce_125 : decode cX1_allAtOnce 125 = .ok (.iinc 4 1, 3) := by decide +kernel
theorem dX1_allAtOnce_128 : decode cX1_allAtOnce 128 = .ok (.goto (-95), 3) := by decide +kernel
theorem dX1_allAtOnce_131 : decode cX1_allAtOnce 131 = .ok (.iinc 3 1, 3) := by decide +kernel
theorem dX1_allAtOnce_134 : decode cX1_allAtOnce 134 = .ok (.goto (-115), 3) := by decide +kernel
theorem dX1_allAtOnce_137 : decode cX1_allAtOnce 137 = .ok (.iload_n 2, 1) := by decide +kernel
theorem dX1_allAtOnce_138 : decode cX1_allAtOnce 138 = .ok (.ireturn, 1) := by decide +kernel
set_option maxRecDepth 20000 in
theorem ggX1_knowTurns_J6_bitCount_0f7a4 : GoodIn wsX1_knowTurns wsJ6_bitCount_0f7a4 := goodIn_r _ [19, 20, 21, 22] (by decide +kernel) (by decide +kernel)
set_option maxRecDepth 20000 in
theorem gX1_knowTurns_J6_bitCount_0f7a4 : GoodIn wsX1_knowTurns (va_wsS RX1 134 yJ6_bitCount_0f7a4 wsJ6_bitCount_0f7a4) := goodIn_app (goodIn_of _ (by decide +kernel)) ggX1_knowTurns_J6_bitCount_0f7a4
set_option maxRecDepth 20000 in
theorem ggX1_knowTurns_J7_fill_53178 : GoodIn wsX1_knowTurns wsJ7_fill_53178 := goodIn_r _ [26] (by decide +kernel) (by decide +kernel)
set_option maxRecDepth 20000 in
theorem gX1_knowTurns_J7_fill_53178 : GoodIn wsX1_knowTurns (va_wsS RX1 111 yJ7_fill_53178 wsJ7_fill_53178) := goodIn_app (goodIn_of _ (by decide +kernel)) ggX1_knowTurns_J7_fill_53178
set_option maxRecDepth 20000 in
theorem ggX1_knowTurns_X3_workOut : GoodIn wsX1_knowTurns wsX3_workOut := goodIn_r _ [31, 32, 33, 34, 35, 36, 13, 14, 15, 37, 38, 39, 40, 41, 30, 42, 43, 44, 45, 76, 77, 78, 79, 80, 81, 82, 83, 84, 85, 86, 87, 88, 89] (by decide +kernel) (by decide +kernel)
set_option maxRecDepth 20000 in
theorem gX1_knowTurns_X3_workOut : GoodIn wsX1_knowTurns (wsV RX1 173 RX3 yX3_workOut wsX3_workOut) := goodIn_app (goodIn_of _ (by decide +kernel)) ggX1_knowTurns_X3_workOut
set_option maxRecDepth 20000 in
theorem ggX1_knowTurns_X3_of : GoodIn wsX1_knowTurns wsX3_of := goodIn_r _ [49, 37, 38, 34, 76, 77, 78, 79, 80] (by decide +kernel) (by decide +kernel)
set_option maxRecDepth 20000 in
theorem gX1_knowTurns_X3_of : GoodIn wsX1_knowTurns (wsV RX1 178 RX3 yX3_of wsX3_of) := goodIn_app (goodIn_of _ (by decide +kernel)) ggX1_knowTurns_X3_of
set_option maxRecDepth 20000 in
theorem ggX1_knowTurns_X11_lowest : GoodIn wsX1_knowTurns wsX11_lowest := goodIn_r _ [52, 53, 54, 51, 55] (by decide +kernel) (by decide +kernel)
set_option maxRecDepth 20000 in
theorem gX1_knowTurns_X11_lowest_n181 : GoodIn wsX1_knowTurns (wsX11_lowest) := ggX1_knowTurns_X11_lowest
theorem dX1_knowTurns_0 : decode cX1_knowTurns 0 = .ok (.iconst 0, 1) := by decide +kernel
theorem dX1_knowTurns_1 : decode cX1_knowTurns 1 = .ok (.istore_n 1, 1) := by decide +kernel
theorem dX1_knowTurns_2 : decode cX1_knowTurns 2 = .ok (.iload_n 1, 1) := by decide +kernel
theorem dX1_knowTurns_3 : decode cX1_knowTurns 3 = .ok (.bipush 16, 2) := by decide +kernel
theorem dX1_knowTurns_5 : decode cX1_knowTurns 5 = .ok (.if_icmp .ge 22, 3) := by decide +kernel
theorem dX1_knowTurns_8 : decode cX1_knowTurns 8 = .ok (.aload_n 0, 1) := by decide +kernel
theorem dX1_knowTurns_9 : decode cX1_knowTurns 9 = .ok (.getfield 51, 3) := by decide +kernel
theorem dX1_knowTurns_12 : decode cX1_knowTurns 12 = .ok (.getfield 167, 3) := by decide +kernel
theorem dX1_knowTurns_15 : decode cX1_knowTurns 15 = .ok (.iload_n 1, 1) := by decide +kernel
theorem dX1_knowTurns_16 : decode cX1_knowTurns 16 = .ok (.iload_n 1, 1) := by decide +kernel
theorem dX1_knowTurns_17 : decode cX1_knowTurns 17 = .ok (.invokestatic 134, 3) := by decide +kernel
theorem dX1_knowTurns_20 : decode cX1_knowTurns 20 = .ok (.iastore, 1) := by decide +kernel
theorem dX1_knowTurns_21 : decode cX1_knowTurns 21 = .ok (.iinc 1 1, 3) := by decide +kernel
theorem dX1_knowTurns_24 : decode cX1_knowTurns 24 = .ok (.goto (-22), 3) := by decide +kernel
theorem dX1_knowTurns_27 : decode cX1_knowTurns 27 = .ok (.aload_n 0, 1) := by decide +kernel
theorem dX1_knowTurns_28 : decode cX1_knowTurns 28 = .ok (.getfield 51, 3) := by decide +kernel
theorem dX1_knowTurns_31 : decode cX1_knowTurns 31 = .ok (.getfield 170, 3) := by decide +kernel
theorem dX1_knowTurns_34 : decode cX1_knowTurns 34 = .ok (.iconst 0, 1) := by decide +kernel
theorem dX1_knowTurns_35 : decode cX1_knowTurns 35 = .ok (.invokestatic 111, 3) := by decide +kernel
theorem dX1_knowTurns_38 : decode cX1_knowTurns 38 = .ok (.aload_n 0, 1) := by decide +kernel
theorem dX1_knowTurns_39 : decode cX1_knowTurns 39 = .ok (.getfield 51, 3) := by decide +kernel
theorem dX1_knowTurns_42 : decode cX1_knowTurns 42 = .ok (.bipush 30, 2) := by decide +kernel
theorem dX1_knowTurns_44 : decode cX1_knowTurns 44 = .ok (.invokevirtual 173, 3) := by decide +kernel
theorem dX1_knowTurns_47 : decode cX1_knowTurns 47 = .ok (.aload_n 0, 1) := by decide +kernel
theorem dX1_knowTurns_48 : decode cX1_knowTurns 48 = .ok (.iconst 1, 1) := by decide +kernel
theorem dX1_knowTurns_49 : decode cX1_knowTurns 49 = .ok (.putfield 108, 3) := by decide +kernel
theorem dX1_knowTurns_52 : decode cX1_knowTurns 52 = .ok (.aload_n 0, 1) := by decide +kernel
theorem dX1_knowTurns_53 : decode cX1_knowTurns 53 = .ok (.iconst 1, 1) := by decide +kernel
theorem dX1_knowTurns_54 : decode cX1_knowTurns 54 = .ok (.putfield 101, 3) := by decide +kernel
theorem dX1_knowTurns_57 : decode cX1_knowTurns 57 = .ok (.aload_n 0, 1) := by decide +kernel
theorem dX1_knowTurns_58 : decode cX1_knowTurns 58 = .ok (.getfield 18, 3) := by decide +kernel
theorem dX1_knowTurns_61 : decode cX1_knowTurns 61 = .ok (.ldc 177, 2) := by decide +kernel
theorem dX1_knowTurns_63 : decode cX1_knowTurns 63 = .ok (.invokestatic 111, 3) := by decide +kernel
theorem dX1_knowTurns_66 : decode cX1_knowTurns 66 = .ok (.iconst 1, 1) := by decide +kernel
theorem dX1_knowTurns_67 : decode cX1_knowTurns 67 = .ok (.istore_n 1, 1) := by decide +kernel
theorem dX1_knowTurns_68 : decode cX1_knowTurns 68 = .ok (.iload_n 1, 1) := by decide +kernel
theorem dX1_knowTurns_69 : decode cX1_knowTurns 69 = .ok (.bipush 30, 2) := by decide +kernel
theorem dX1_knowTurns_71 : decode cX1_knowTurns 71 = .ok (.if_icmp .gt 24, 3) := by decide +kernel
theorem dX1_knowTurns_74 : decode cX1_knowTurns 74 = .ok (.aload_n 0, 1) := by decide +kernel
theorem dX1_knowTurns_75 : decode cX1_knowTurns 75 = .ok (.getfield 9, 3) := by decide +kernel
theorem dX1_knowTurns_78 : decode cX1_knowTurns 78 = .ok (.iload_n 1, 1) := by decide +kernel
theorem dX1_knowTurns_79 : decode cX1_knowTurns 79 = .ok (.aload_n 0, 1) := by decide +kernel
theorem dX1_knowTurns_80 : decode cX1_knowTurns 80 = .ok (.getfield 51, 3) := by decide +kernel
theorem dX1_knowTurns_83 : decode cX1_knowTurns 83 = .ok (.iconst 0, 1) := by decide +kernel
theorem dX1_knowTurns_84 : decode cX1_knowTurns 84 = .ok (.iload_n 1, 1) := by decide +kernel
theorem dX1_knowTurns_85 : decode cX1_knowTurns 85 = .ok (.invokevirtual 178, 3) := by decide +kernel
theorem dX1_knowTurns_88 : decode cX1_knowTurns 88 = .ok (.iastore, 1) := by decide +kernel
theorem dX1_knowTurns_89 : decode cX1_knowTurns 89 = .ok (.iinc 1 1, 3) := by decide +kernel
theorem dX1_knowTurns_92 : decode cX1_knowTurns 92 = .ok (.goto (-24), 3) := by decide +kernel
theorem dX1_knowTurns_95 : decode cX1_knowTurns 95 = .ok (.iconst 0, 1) := by decide +kernel
theorem dX1_knowTurns_96 : decode cX1_knowTurns 96 = .ok (.istore_n 1, 1) := by decide +kernel
theorem dX1_knowTurns_97 : decode cX1_knowTurns 97 = .ok (.iload_n 1, 1) := by decide +kernel
theorem dX1_knowTurns_98 : decode cX1_knowTurns 98 = .ok (.aload_n 0, 1) := by decide +kernel
theorem dX1_knowTurns_99 : decode cX1_knowTurns 99 = .ok (.getfield 39, 3) := by decide +kernel
theorem dX1_knowTurns_102 : decode cX1_knowTurns 102 = .ok (.getfield 150, 3) := by decide +kernel
theorem dX1_knowTurns_105 : decode cX1_knowTurns 105 = .ok (.if_icmp .ge 73, 3) := by decide +kernel
theorem dX1_knowTurns_108 : decode cX1_knowTurns 108 = .ok (.aload_n 0, 1) := by decide +kernel
theorem dX1_knowTurns_109 : decode cX1_knowTurns 109 = .ok (.getfield 39, 3) := by decide +kernel
theorem dX1_knowTurns_112 : decode cX1_knowTurns 112 = .ok (.getfield 153, 3) := by decide +kernel
theorem dX1_knowTurns_115 : decode cX1_knowTurns 115 = .ok (.iload_n 1, 1) := by decide +kernel
theorem dX1_knowTurns_116 : decode cX1_knowTurns 116 = .ok (.iaload, 1) := by decide +kernel
theorem dX1_knowTurns_117 : decode cX1_knowTurns 117 = .ok (.invokestatic 181, 3) := by decide +kernel
theorem dX1_knowTurns_120 : decode cX1_knowTurns 120 = .ok (.istore_n 2, 1) := by decide +kernel
theorem dX1_knowTurns_121 : decode cX1_knowTurns 121 = .ok (.iconst 1, 1) := by decide +kernel
theorem dX1_knowTurns_122 : decode cX1_knowTurns 122 = .ok (.istore_n 3, 1) := by decide +kernel
theorem dX1_knowTurns_123 : decode cX1_knowTurns 123 = .ok (.iload_n 3, 1) := by decide +kernel
theorem dX1_knowTurns_124 : decode cX1_knowTurns 124 = .ok (.bipush 30, 2) := by decide +kernel
theorem dX1_knowTurns_126 : decode cX1_knowTurns 126 = .ok (.if_icmp .gt 46, 3) := by decide +kernel
theorem dX1_knowTurns_129 : decode cX1_knowTurns 129 = .ok (.iload_n 2, 1) := by decide +kernel
theorem dX1_knowTurns_130 : decode cX1_knowTurns 130 = .ok (.iconst (-1), 1) := by decide +kernel
theorem dX1_knowTurns_131 : decode cX1_knowTurns 131 = .ok (.if_icmp .eq 41, 3) := by decide +kernel
theorem dX1_knowTurns_134 : decode cX1_knowTurns 134 = .ok (.aload_n 0, 1) := by decide +kernel
theorem dX1_knowTurns_135 : decode cX1_knowTurns 135 = .ok (.getfield 51, 3) := by decide +kernel
theorem dX1_knowTurns_138 : decode cX1_knowTurns 138 = .ok (.iload_n 1, 1) := by decide +kernel
theorem dX1_knowTurns_139 : decode cX1_knowTurns 139 = .ok (.iload_n 3, 1) := by decide +kernel
theorem dX1_knowTurns_140 : decode cX1_knowTurns 140 = .ok (.invokevirtual 178, 3) := by decide +kernel
theorem dX1_knowTurns_143 : decode cX1_knowTurns 143 = .ok (.ldc 177, 2) := by decide +kernel
theorem dX1_knowTurns_145 : decode cX1_knowTurns 145 = .ok (.if_icmp .ge 21, 3) := by decide +kernel
theorem dX1_knowTurns_148 : decode cX1_knowTurns 148 = .ok (.aload_n 0, 1) := by decide +kernel
theorem dX1_knowTurns_149 : decode cX1_knowTurns 149 = .ok (.getfield 18, 3) := by decide +kernel
theorem dX1_knowTurns_152 : decode cX1_knowTurns 152 = .ok (.iload_n 3, 1) := by decide +kernel
theorem dX1_knowTurns_153 : decode cX1_knowTurns 153 = .ok (.aload_n 0, 1) := by decide +kernel
theorem dX1_knowTurns_154 : decode cX1_knowTurns 154 = .ok (.getfield 18, 3) := by decide +kernel
theorem dX1_knowTurns_157 : decode cX1_knowTurns 157 = .ok (.iload_n 3, 1) := by decide +kernel
theorem dX1_knowTurns_158 : decode cX1_knowTurns 158 = .ok (.iaload, 1) := by decide +kernel
theorem dX1_knowTurns_159 : decode cX1_knowTurns 159 = .ok (.iload_n 2, 1) := by decide +kernel
theorem dX1_knowTurns_160 : decode cX1_knowTurns 160 = .ok (.iload_n 3, 1) := by decide +kernel
theorem dX1_knowTurns_161 : decode cX1_knowTurns 161 = .ok (.iadd, 1) := by decide +kernel
theorem dX1_knowTurns_162 : decode cX1_knowTurns 162 = .ok (.invokestatic 65, 3) := by decide +kernel
theorem dX1_knowTurns_165 : decode cX1_knowTurns 165 = .ok (.iastore, 1) := by decide +kernel
theorem dX1_knowTurns_166 : decode cX1_knowTurns 166 = .ok (.iinc 3 1, 3) := by decide +kernel
theorem dX1_knowTurns_169 : decode cX1_knowTurns 169 = .ok (.goto (-46), 3) := by decide +kernel
theorem dX1_knowTurns_172 : decode cX1_knowTurns 172 = .ok (.iinc 1 1, 3) := by decide +kernel
theorem dX1_knowTurns_175 : decode cX1_knowTurns 175 = .ok (.goto (-78), 3) := by decide +kernel
theorem dX1_knowTurns_178 : decode cX1_knowTurns 178 = .ok (.return_, 1) := by decide +kernel
set_option maxRecDepth 20000 in
theorem ggX1_fewestTurns_X1_knowTurns : GoodIn wsX1_fewestTurns wsX1_knowTurns := goodIn_r _ [7, 8, 9, 10, 11, 1, 12, 13, 2, 14, 15, 16, 17, 18, 19, 20, 21, 22, 23, 24, 25, 26, 27, 28, 29, 30, 31, 32, 33, 34, 35, 36, 37, 38, 39, 40, 41, 42, 43, 44, 45, 46, 47, 48, 49, 50, 51, 52, 53, 54, 55, 56, 57, 58, 59, 60, 61, 62, 63, 64, 65, 66, 67, 68, 69, 70, 71, 72, 73, 74, 75, 76, 77, 78, 79, 80, 81, 82, 83, 84, 85, 86, 87, 88, 89, 90, 91, 92, 93, 94] (by decide +kernel) (by decide +kernel)
set_option maxRecDepth 20000 in
theorem gX1_fewestTurns_X1_knowTurns : GoodIn wsX1_fewestTurns (wsV RX1 184 RX1 yX1_knowTurns wsX1_knowTurns) := goodIn_app (goodIn_of _ (by decide +kernel)) ggX1_fewestTurns_X1_knowTurns
theorem dX1_fewestTurns_0 : decode cX1_fewestTurns 0 = .ok (.aload_n 0, 1) := by decide +kernel
theorem dX1_fewestTurns_1 : decode cX1_fewestTurns 1 = .ok (.getfield 101, 3) := by decide +kernel
theorem dX1_fewestTurns_4 : decode cX1_fewestTurns 4 = .ok (.ifCond .ne 7, 3) := by decide +kernel
theorem dX1_fewestTurns_7 : decode cX1_fewestTurns 7 = .ok (.aload_n 0, 1) := by decide +kernel
theorem dX1_fewestTurns_8 : decode cX1_fewestTurns 8 = .ok (.invokevirtual 184, 3) := by decide +kernel
theorem dX1_fewestTurns_11 : decode cX1_fewestTurns 11 = .ok (.aload_n 0, 1) := by decide +kernel
theorem dX1_fewestTurns_12 : decode cX1_fewestTurns 12 = .ok (.getfield 9, 3) := by decide +kernel
theorem dX1_fewestTurns_15 : decode cX1_fewestTurns 15 = .ok (.iload_n 1, 1) := by decide +kernel
theorem dX1_fewestTurns_16 : decode cX1_fewestTurns 16 = .ok (.iaload, 1) := by decide +kernel
theorem dX1_fewestTurns_17 : decode cX1_fewestTurns 17 = .ok (.ireturn, 1) := by decide +kernel
set_option maxRecDepth 20000 in
theorem ggX1_leastSpan_X1_knowTurns : GoodIn wsX1_leastSpan wsX1_knowTurns := goodIn_r _ [7, 8, 9, 10, 11, 1, 2, 12, 13, 14, 15, 16, 17, 18, 19, 20, 21, 22, 23, 24, 25, 26, 27, 28, 29, 30, 31, 32, 33, 34, 35, 36, 37, 38, 39, 40, 41, 42, 43, 44, 45, 46, 47, 48, 49, 50, 51, 52, 53, 54, 55, 56, 57, 58, 59, 60, 61, 62, 63, 64, 65, 66, 67, 68, 69, 70, 71, 72, 73, 74, 75, 76, 77, 78, 79, 80, 81, 82, 83, 84, 85, 86, 87, 88, 89, 90, 91, 92, 93, 94] (by decide +kernel) (by decide +kernel)
set_option maxRecDepth 20000 in
theorem gX1_leastSpan_X1_knowTurns : GoodIn wsX1_leastSpan (wsV RX1 184 RX1 yX1_knowTurns wsX1_knowTurns) := goodIn_app (goodIn_of _ (by decide +kernel)) ggX1_leastSpan_X1_knowTurns
theorem dX1_leastSpan_0 : decode cX1_leastSpan 0 = .ok (.aload_n 0, 1) := by decide +kernel
theorem dX1_leastSpan_1 : decode cX1_leastSpan 1 = .ok (.getfield 101, 3) := by decide +kernel
theorem dX1_leastSpan_4 : decode cX1_leastSpan 4 = .ok (.ifCond .ne 7, 3) := by decide +kernel
theorem dX1_leastSpan_7 : decode cX1_leastSpan 7 = .ok (.aload_n 0, 1) := by decide +kernel
theorem dX1_leastSpan_8 : decode cX1_leastSpan 8 = .ok (.invokevirtual 184, 3) := by decide +kernel
theorem dX1_leastSpan_11 : decode cX1_leastSpan 11 = .ok (.aload_n 0, 1) := by decide +kernel
theorem dX1_leastSpan_12 : decode cX1_leastSpan 12 = .ok (.getfield 18, 3) := by decide +kernel
theorem dX1_leastSpan_15 : decode cX1_leastSpan 15 = .ok (.iload_n 1, 1) := by decide +kernel
theorem dX1_leastSpan_16 : decode cX1_leastSpan 16 = .ok (.iaload, 1) := by decide +kernel
theorem dX1_leastSpan_17 : decode cX1_leastSpan 17 = .ok (.bipush 30, 2) := by decide +kernel
theorem dX1_leastSpan_19 : decode cX1_leastSpan 19 = .ok (.if_icmp .gt 12, 3) := by decide +kernel
theorem dX1_leastSpan_22 : decode cX1_leastSpan 22 = .ok (.aload_n 0, 1) := by decide +kernel
theorem dX1_leastSpan_23 : decode cX1_leastSpan 23 = .ok (.getfield 18, 3) := by decide +kernel
theorem dX1_leastSpan_26 : decode cX1_leastSpan 26 = .ok (.iload_n 1, 1) := by decide +kernel
theorem dX1_leastSpan_27 : decode cX1_leastSpan 27 = .ok (.iaload, 1) := by decide +kernel
theorem dX1_leastSpan_28 : decode cX1_leastSpan 28 = .ok (.goto 4, 3) := by decide +kernel
theorem dX1_leastSpan_31 : decode cX1_leastSpan 31 = .ok (.iconst (-1), 1) := by decide +kernel
theorem dX1_leastSpan_32 : decode cX1_leastSpan 32 = .ok (.ireturn, 1) := by decide +kernel
set_option maxRecDepth 20000 in
theorem ggX1_dearest_X11_has : GoodIn wsX1_dearest wsX11_has := goodIn_r _ [4] (by decide +kernel) (by decide +kernel)
set_option maxRecDepth 20000 in
theorem gX1_dearest_X11_has_n143 : GoodIn wsX1_dearest (wsX11_has) := ggX1_dearest_X11_has
set_option maxRecDepth 20000 in
theorem ggX1_dearest_X1_fewestTurns : GoodIn wsX1_dearest wsX1_fewestTurns := goodIn_r _ [9, 10, 11, 12, 13, 14, 8, 15, 16, 17, 18, 19, 20, 21, 22, 23, 24, 25, 26, 27, 28, 29, 30, 31, 32, 33, 34, 35, 36, 37, 38, 39, 40, 41, 42, 43, 44, 45, 46, 47, 48, 49, 50, 51, 52, 53, 54, 55, 56, 57, 58, 59, 60, 61, 62, 63, 3, 64, 65, 2, 4, 66, 67, 68, 69, 70, 71, 72, 73, 74, 75, 76, 77, 78, 79, 80, 81, 82, 83, 84, 85, 86, 87, 88, 89, 90, 91, 92, 93, 94, 95, 96, 97, 98, 99] (by decide +kernel) (by decide +kernel)
set_option maxRecDepth 20000 in
theorem gX1_dearest_X1_fewestTurns : GoodIn wsX1_dearest (wsV RX1 187 RX1 yX1_fewestTurns wsX1_fewestTurns) := goodIn_app (goodIn_of _ (by decide +kernel)) ggX1_dearest_X1_fewestTurns
theorem dX1_dearest_0 : decode cX1_dearest 0 = .ok (.iconst (-1), 1) := by decide +kernel
theorem dX1_dearest_1 : decode cX1_dearest 1 = .ok (.istore_n 1, 1) := by decide +kernel
theorem dX1_dearest_2 : decode cX1_dearest 2 = .ok (.iconst 1, 1) := by decide +kernel
theorem dX1_dearest_3 : decode cX1_dearest 3 = .ok (.istore_n 2, 1) := by decide +kernel
theorem dX1_dearest_4 : decode cX1_dearest 4 = .ok (.iload_n 2, 1) := by decide +kernel
theorem dX1_dearest_5 : decode cX1_dearest 5 = .ok (.bipush 30, 2) := by decide +kernel
theorem dX1_dearest_7 : decode cX1_dearest 7 = .ok (.if_icmp .gt 40, 3) := by decide +kernel
theorem dX1_dearest_10 : decode cX1_dearest 10 = .ok (.aload_n 0, 1) := by decide +kernel
theorem dX1_dearest_11 : decode cX1_dearest 11 = .ok (.getfield 128, 3) := by decide +kernel
theorem dX1_dearest_14 : decode cX1_dearest 14 = .ok (.iload_n 2, 1) := by decide +kernel
theorem dX1_dearest_15 : decode cX1_dearest 15 = .ok (.invokestatic 143, 3) := by decide +kernel
theorem dX1_dearest_18 : decode cX1_dearest 18 = .ok (.ifCond .eq 23, 3) := by decide +kernel
theorem dX1_dearest_21 : decode cX1_dearest 21 = .ok (.iload_n 1, 1) := by decide +kernel
theorem dX1_dearest_22 : decode cX1_dearest 22 = .ok (.iconst (-1), 1) := by decide +kernel
theorem dX1_dearest_23 : decode cX1_dearest 23 = .ok (.if_icmp .eq 16, 3) := by decide +kernel
theorem dX1_dearest_26 : decode cX1_dearest 26 = .ok (.aload_n 0, 1) := by decide +kernel
theorem dX1_dearest_27 : decode cX1_dearest 27 = .ok (.iload_n 2, 1) := by decide +kernel
theorem dX1_dearest_28 : decode cX1_dearest 28 = .ok (.invokevirtual 187, 3) := by decide +kernel
theorem dX1_dearest_31 : decode cX1_dearest 31 = .ok (.aload_n 0, 1) := by decide +kernel
theorem dX1_dearest_32 : decode cX1_dearest 32 = .ok (.iload_n 1, 1) := by decide +kernel
theorem dX1_dearest_33 : decode cX1_dearest 33 = .ok (.invokevirtual 187, 3) := by decide +kernel
theorem dX1_dearest_36 : decode cX1_dearest 36 = .ok (.if_icmp .le 5, 3) := by decide +kernel
theorem dX1_dearest_39 : decode cX1_dearest 39 = .ok (.iload_n 2, 1) := by decide +kernel
theorem dX1_dearest_40 : decode cX1_dearest 40 = .ok (.istore_n 1, 1) := by decide +kernel
theorem dX1_dearest_41 : decode cX1_dearest 41 = .ok (.iinc 2 1, 3) := by decide +kernel
theorem dX1_dearest_44 : decode cX1_dearest 44 = .ok (.goto (-40), 3) := by decide +kernel
theorem dX1_dearest_47 : decode cX1_dearest 47 = .ok (.iload_n 1, 1) := by decide +kernel
theorem dX1_dearest_48 : decode cX1_dearest 48 = .ok (.ireturn, 1) := by decide +kernel
set_option maxRecDepth 20000 in
theorem ggX1_toldFree_X11_has : GoodIn wsX1_toldFree wsX11_has := goodIn_r _ [4] (by decide +kernel) (by decide +kernel)
set_option maxRecDepth 20000 in
theorem gX1_toldFree_X11_has_n143 : GoodIn wsX1_toldFree (wsX11_has) := ggX1_toldFree_X11_has
set_option maxRecDepth 20000 in
theorem ggX1_toldFree_X1_fewestTurns : GoodIn wsX1_toldFree wsX1_fewestTurns := goodIn_r _ [9, 10, 11, 12, 13, 14, 8, 15, 16, 17, 18, 19, 20, 21, 22, 23, 24, 25, 26, 27, 28, 29, 30, 31, 32, 33, 34, 35, 36, 37, 38, 39, 40, 41, 42, 43, 44, 45, 46, 47, 48, 49, 50, 51, 52, 53, 54, 55, 56, 57, 58, 59, 60, 61, 62, 63, 3, 64, 65, 2, 4, 66, 67, 68, 69, 70, 71, 72, 73, 74, 75, 76, 77, 78, 79, 80, 81, 82, 83, 84, 85, 86, 87, 88, 89, 90, 91, 92, 93, 94, 95, 96, 97, 98, 99] (by decide +kernel) (by decide +kernel)
set_option maxRecDepth 20000 in
theorem gX1_toldFree_X1_fewestTurns : GoodIn wsX1_toldFree (wsV RX1 187 RX1 yX1_fewestTurns wsX1_fewestTurns) := goodIn_app (goodIn_of _ (by decide +kernel)) ggX1_toldFree_X1_fewestTurns
theorem dX1_toldFree_0 : decode cX1_toldFree 0 = .ok (.iconst 0, 1) := by decide +kernel
theorem dX1_toldFree_1 : decode cX1_toldFree 1 = .ok (.istore_n 1, 1) := by decide +kernel
theorem dX1_toldFree_2 : decode cX1_toldFree 2 = .ok (.iconst 1, 1) := by decide +kernel
theorem dX1_toldFree_3 : decode cX1_toldFree 3 = .ok (.istore_n 2, 1) := by decide +kernel
theorem dX1_toldFree_4 : decode cX1_toldFree 4 = .ok (.iload_n 2, 1) := by decide +kernel
theorem dX1_toldFree_5 : decode cX1_toldFree 5 = .ok (.bipush 30, 2) := by decide +kernel
theorem dX1_toldFree_7 : decode cX1_toldFree 7 = .ok (.if_icmp .gt 34, 3) := by decide +kernel
theorem dX1_toldFree_10 : decode cX1_toldFree 10 = .ok (.aload_n 0, 1) := by decide +kernel
theorem dX1_toldFree_11 : decode cX1_toldFree 11 = .ok (.getfield 128, 3) := by decide +kernel
theorem dX1_toldFree_14 : decode cX1_toldFree 14 = .ok (.iload_n 2, 1) := by decide +kernel
theorem dX1_toldFree_15 : decode cX1_toldFree 15 = .ok (.invokestatic 143, 3) := by decide +kernel
theorem dX1_toldFree_18 : decode cX1_toldFree 18 = .ok (.ifCond .eq 17, 3) := by decide +kernel
theorem dX1_toldFree_21 : decode cX1_toldFree 21 = .ok (.aload_n 0, 1) := by decide +kernel
theorem dX1_toldFree_22 : decode cX1_toldFree 22 = .ok (.iload_n 2, 1) := by decide +kernel
theorem dX1_toldFree_23 : decode cX1_toldFree 23 = .ok (.invokevirtual 187, 3) := by decide +kernel
theorem dX1_toldFree_26 : decode cX1_toldFree 26 = .ok (.ifCond .ne 9, 3) := by decide +kernel
theorem dX1_toldFree_29 : decode cX1_toldFree 29 = .ok (.iload_n 1, 1) := by decide +kernel
theorem dX1_toldFree_30 : decode cX1_toldFree 30 = .ok (.iconst 1, 1) := by decide +kernel
theorem dX1_toldFree_31 : decode cX1_toldFree 31 = .ok (.iload_n 2, 1) := by decide +kernel
theorem dX1_toldFree_32 : decode cX1_toldFree 32 = .ok (.ishl, 1) := by decide +kernel
theorem dX1_toldFree_33 : decode cX1_toldFree 33 = .ok (.ior, 1) := by decide +kernel
theorem dX1_toldFree_34 : decode cX1_toldFree 34 = .ok (.istore_n 1, 1) := by decide +kernel
theorem dX1_toldFree_35 : decode cX1_toldFree 35 = .ok (.iinc 2 1, 3) := by decide +kernel
theorem dX1_toldFree_38 : decode cX1_toldFree 38 = .ok (.goto (-34), 3) := by decide +kernel
theorem dX1_toldFree_41 : decode cX1_toldFree 41 = .ok (.iload_n 1, 1) := by decide +kernel
theorem dX1_toldFree_42 : decode cX1_toldFree 42 = .ok (.ireturn, 1) := by decide +kernel
set_option maxRecDepth 20000 in
theorem ggX1_leastPrice_X1_workOutPrices : GoodIn wsX1_leastPrice wsX1_workOutPrices := goodIn_r _ [9, 1, 2, 10, 11, 12, 13, 4, 14, 15, 16, 17, 18, 19, 20, 21, 22, 23, 24, 25, 26, 27, 28, 29, 30, 31, 32, 33, 34, 35, 36, 37, 38, 39, 40, 41, 42, 43, 44, 45, 46, 47, 48, 49, 50, 51, 52, 53, 54, 55, 56, 57, 58, 59, 60, 61, 62, 63, 64, 65, 66, 67, 68, 69, 70, 71, 72, 73, 74, 75, 76, 77, 78, 79, 80, 81, 82, 83, 84] (by decide +kernel) (by decide +kernel)
set_option maxRecDepth 20000 in
theorem gX1_leastPrice_X1_workOutPrices : GoodIn wsX1_leastPrice (wsV RX1 193 RX1 yX1_workOutPrices wsX1_workOutPrices) := goodIn_app (goodIn_of _ (by decide +kernel)) ggX1_leastPrice_X1_workOutPrices
theorem dX1_leastPrice_0 : decode cX1_leastPrice 0 = .ok (.iconst 0, 1) := by decide +kernel
theorem dX1_leastPrice_1 : decode cX1_leastPrice 1 = .ok (.istore_n 3, 1) := by decide +kernel
theorem dX1_leastPrice_2 : decode cX1_leastPrice 2 = .ok (.iconst 0, 1) := by decide +kernel
theorem dX1_leastPrice_3 : decode cX1_leastPrice 3 = .ok (.istore 4, 2) := by decide +kernel
theorem dX1_leastPrice_5 : decode cX1_leastPrice 5 = .ok (.iload 4, 2) := by decide +kernel
theorem dX1_leastPrice_7 : decode cX1_leastPrice 7 = .ok (.aload_n 0, 1) := by decide +kernel
theorem dX1_leastPrice_8 : decode cX1_leastPrice 8 = .ok (.getfield 92, 3) := by decide +kernel
theorem dX1_leastPrice_11 : decode cX1_leastPrice 11 = .ok (.if_icmp .ge 22, 3) := by decide +kernel
theorem dX1_leastPrice_14 : decode cX1_leastPrice 14 = .ok (.iload_n 3, 1) := by decide +kernel
theorem dX1_leastPrice_15 : decode cX1_leastPrice 15 = .ok (.bipush 10, 2) := by decide +kernel
theorem dX1_leastPrice_17 : decode cX1_leastPrice 17 = .ok (.imul, 1) := by decide +kernel
theorem dX1_leastPrice_18 : decode cX1_leastPrice 18 = .ok (.aload_n 1, 1) := by decide +kernel
theorem dX1_leastPrice_19 : decode cX1_leastPrice 19 = .ok (.getfield 190, 3) := by decide +kernel
theorem dX1_leastPrice_22 : decode cX1_leastPrice 22 = .ok (.iload 4, 2) := by decide +kernel
theorem dX1_leastPrice_24 : decode cX1_leastPrice 24 = .ok (.iaload, 1) := by decide +kernel
theorem dX1_leastPrice_25 : decode cX1_leastPrice 25 = .ok (.iadd, 1) := by decide +kernel
theorem dX1_leastPrice_26 : decode cX1_leastPrice 26 = .ok (.istore_n 3, 1) := by decide +kernel
theorem dX1_leastPrice_27 : decode cX1_leastPrice 27 = .ok (.iinc 4 1, 3) := by decide +kernel
theorem dX1_leastPrice_30 : decode cX1_leastPrice 30 = .ok (.goto (-25), 3) := by decide +kernel
theorem dX1_leastPrice_33 : decode cX1_leastPrice 33 = .ok (.iload_n 3, 1) := by decide +kernel
theorem dX1_leastPrice_34 : decode cX1_leastPrice 34 = .ok (.aload_n 0, 1) := by decide +kernel
theorem dX1_leastPrice_35 : decode cX1_leastPrice 35 = .ok (.getfield 95, 3) := by decide +kernel
theorem dX1_leastPrice_38 : decode cX1_leastPrice 38 = .ok (.if_icmp .eq 13, 3) := by decide +kernel
theorem dX1_leastPrice_41 : decode cX1_leastPrice 41 = .ok (.aload_n 0, 1) := by decide +kernel
theorem dX1_leastPrice_42 : decode cX1_leastPrice 42 = .ok (.iload_n 3, 1) := by decide +kernel
theorem dX1_leastPrice_43 : decode cX1_leastPrice 43 = .ok (.putfield 95, 3) := by decide +kernel
theorem dX1_leastPrice_46 : decode cX1_leastPrice 46 = .ok (.aload_n 0, 1) := by decide +kernel
theorem dX1_leastPrice_47 : decode cX1_leastPrice 47 = .ok (.aload_n 1, 1) := by decide +kernel
theorem dX1_leastPrice_48 : decode cX1_leastPrice 48 = .ok (.invokevirtual 193, 3) := by decide +kernel
theorem dX1_leastPrice_51 : decode cX1_leastPrice 51 = .ok (.aload_n 0, 1) := by decide +kernel
theorem dX1_leastPrice_52 : decode cX1_leastPrice 52 = .ok (.getfield 15, 3) := by decide +kernel
theorem dX1_leastPrice_55 : decode cX1_leastPrice 55 = .ok (.iload_n 2, 1) := by decide +kernel
theorem dX1_leastPrice_56 : decode cX1_leastPrice 56 = .ok (.iaload, 1) := by decide +kernel
theorem dX1_leastPrice_57 : decode cX1_leastPrice 57 = .ok (.ireturn, 1) := by decide +kernel
set_option maxRecDepth 20000 in
theorem ggX1_workOutPrices_X11_has : GoodIn wsX1_workOutPrices wsX11_has := goodIn_r _ [10] (by decide +kernel) (by decide +kernel)
set_option maxRecDepth 20000 in
theorem gX1_workOutPrices_X11_has_n143 : GoodIn wsX1_workOutPrices (wsX11_has) := ggX1_workOutPrices_X11_has
set_option maxRecDepth 20000 in
theorem ggX1_workOutPrices_J7_fill_53178 : GoodIn wsX1_workOutPrices wsJ7_fill_53178 := goodIn_r _ [14] (by decide +kernel) (by decide +kernel)
set_option maxRecDepth 20000 in
theorem gX1_workOutPrices_J7_fill_53178 : GoodIn wsX1_workOutPrices (va_wsS RX1 111 yJ7_fill_53178 wsJ7_fill_53178) := goodIn_app (goodIn_of _ (by decide +kernel)) ggX1_workOutPrices_J7_fill_53178
set_option maxRecDepth 20000 in
theorem ggX1_workOutPrices_X3_workOut : GoodIn wsX1_workOutPrices wsX3_workOut := goodIn_r _ [19, 20, 21, 22, 23, 24, 25, 26, 27, 28, 29, 30, 31, 32, 18, 33, 34, 35, 36, 65, 66, 67, 68, 69, 70, 71, 72, 73, 74, 75, 76, 77, 78] (by decide +kernel) (by decide +kernel)
set_option maxRecDepth 20000 in
theorem gX1_workOutPrices_X3_workOut : GoodIn wsX1_workOutPrices (wsV RX1 173 RX3 yX3_workOut wsX3_workOut) := goodIn_app (goodIn_of _ (by decide +kernel)) ggX1_workOutPrices_X3_workOut
set_option maxRecDepth 20000 in
theorem ggX1_workOutPrices_X3_of : GoodIn wsX1_workOutPrices wsX3_of := goodIn_r _ [40, 28, 29, 22, 65, 66, 67, 68, 69] (by decide +kernel) (by decide +kernel)
set_option maxRecDepth 20000 in
theorem gX1_workOutPrices_X3_of : GoodIn wsX1_workOutPrices (wsV RX1 178 RX3 yX3_of wsX3_of) := goodIn_app (goodIn_of _ (by decide +kernel)) ggX1_workOutPrices_X3_of
theorem dX1_workOutPrices_0 : decode cX1_workOutPrices 0 = .ok (.iconst 0, 1) := by decide +kernel
theorem dX1_workOutPrices_1 : decode cX1_workOutPrices 1 = .ok (.istore_n 2, 1) := by decide +kernel
theorem dX1_workOutPrices_2 : decode cX1_workOutPrices 2 = .ok (.iload_n 2, 1) := by decide +kernel
theorem dX1_workOutPrices_3 : decode cX1_workOutPrices 3 = .ok (.bipush 16, 2) := by decide +kernel
theorem dX1_workOutPrices_5 : decode cX1_workOutPrices 5 = .ok (.if_icmp .ge 62, 3) := by decide +kernel
theorem dX1_workOutPrices_8 : decode cX1_workOutPrices 8 = .ok (.iconst 0, 1) := by decide +kernel
theorem dX1_workOutPrices_9 : decode cX1_workOutPrices 9 = .ok (.istore_n 3, 1) := by decide +kernel
theorem dX1_workOutPrices_10 : decode cX1_workOutPrices 10 = .ok (.iconst 0, 1) := by decide +kernel
theorem dX1_workOutPrices_11 : decode cX1_workOutPrices 11 = .ok (.istore 4, 2) := by decide +kernel
theorem dX1_workOutPrices_13 : decode cX1_workOutPrices 13 = .ok (.iload 4, 2) := by decide +kernel
theorem dX1_workOutPrices_15 : decode cX1_workOutPrices 15 = .ok (.aload_n 0, 1) := by decide +kernel
theorem dX1_workOutPrices_16 : decode cX1_workOutPrices 16 = .ok (.getfield 92, 3) := by decide +kernel
theorem dX1_workOutPrices_19 : decode cX1_workOutPrices 19 = .ok (.if_icmp .ge 32, 3) := by decide +kernel
theorem dX1_workOutPrices_22 : decode cX1_workOutPrices 22 = .ok (.iload_n 3, 1) := by decide +kernel
theorem dX1_workOutPrices_23 : decode cX1_workOutPrices 23 = .ok (.iload_n 2, 1) := by decide +kernel
theorem dX1_workOutPrices_24 : decode cX1_workOutPrices 24 = .ok (.iload 4, 2) := by decide +kernel
theorem dX1_workOutPrices_26 : decode cX1_workOutPrices 26 = .ok (.invokestatic 143, 3) := by decide +kernel
theorem dX1_workOutPrices_29 : decode cX1_workOutPrices 29 = .ok (.ifCond .eq 13, 3) := by decide +kernel
theorem dX1_workOutPrices_32 : decode cX1_workOutPrices 32 = .ok (.aload_n 1, 1) := by decide +kernel
theorem dX1_workOutPrices_33 : decode cX1_workOutPrices 33 = .ok (.getfield 190, 3) := by decide +kernel
theorem dX1_workOutPrices_36 : decode cX1_workOutPrices 36 = .ok (.iload 4, 2) := by decide +kernel
theorem dX1_workOutPrices_38 : decode cX1_workOutPrices 38 = .ok (.iaload, 1) := by decide +kernel
theorem dX1_workOutPrices_39 : decode cX1_workOutPrices 39 = .ok (.goto 4, 3) := by decide +kernel
theorem dX1_workOutPrices_42 : decode cX1_workOutPrices 42 = .ok (.iconst 0, 1) := by decide +kernel
theorem dX1_workOutPrices_43 : decode cX1_workOutPrices 43 = .ok (.iadd, 1) := by decide +kernel
theorem dX1_workOutPrices_44 : decode cX1_workOutPrices 44 = .ok (.istore_n 3, 1) := by decide +kernel
theorem dX1_workOutPrices_45 : decode cX1_workOutPrices 45 = .ok (.iinc 4 1, 3) := by decide +kernel
theorem dX1_workOutPrices_48 : decode cX1_workOutPrices 48 = .ok (.goto (-35), 3) := by decide +kernel
theorem dX1_workOutPrices_51 : decode cX1_workOutPrices 51 = .ok (.aload_n 0, 1) := by decide +kernel
theorem dX1_workOutPrices_52 : decode cX1_workOutPrices 52 = .ok (.getfield 51, 3) := by decide +kernel
theorem dX1_workOutPrices_55 : decode cX1_workOutPrices 55 = .ok (.getfield 167, 3) := by decide +kernel
theorem dX1_workOutPrices_58 : decode cX1_workOutPrices 58 = .ok (.iload_n 2, 1) := by decide +kernel
theorem dX1_workOutPrices_59 : decode cX1_workOutPrices 59 = .ok (.iload_n 3, 1) := by decide +kernel
theorem dX1_workOutPrices_60 : decode cX1_workOutPrices 60 = .ok (.iastore, 1) := by decide +kernel
theorem dX1_workOutPrices_61 : decode cX1_workOutPrices 61 = .ok (.iinc 2 1, 3) := by decide +kernel
theorem dX1_workOutPrices_64 : decode cX1_workOutPrices 64 = .ok (.goto (-62), 3) := by decide +kernel
theorem dX1_workOutPrices_67 : decode cX1_workOutPrices 67 = .ok (.aload_n 0, 1) := by decide +kernel
theorem dX1_workOutPrices_68 : decode cX1_workOutPrices 68 = .ok (.getfield 51, 3) := by decide +kernel
theorem dX1_workOutPrices_71 : decode cX1_workOutPrices 71 = .ok (.getfield 170, 3) := by decide +kernel
theorem dX1_workOutPrices_74 : decode cX1_workOutPrices 74 = .ok (.iconst 0, 1) := by decide +kernel
theorem dX1_workOutPrices_75 : decode cX1_workOutPrices 75 = .ok (.invokestatic 111, 3) := by decide +kernel
theorem dX1_workOutPrices_78 : decode cX1_workOutPrices 78 = .ok (.aload_n 0, 1) := by decide +kernel
theorem dX1_workOutPrices_79 : decode cX1_workOutPrices 79 = .ok (.iconst 0, 1) := by decide +kernel
theorem dX1_workOutPrices_80 : decode cX1_workOutPrices 80 = .ok (.putfield 108, 3) := by decide +kernel
theorem dX1_workOutPrices_83 : decode cX1_workOutPrices 83 = .ok (.aload_n 0, 1) := by decide +kernel
theorem dX1_workOutPrices_84 : decode cX1_workOutPrices 84 = .ok (.getfield 51, 3) := by decide +kernel
theorem dX1_workOutPrices_87 : decode cX1_workOutPrices 87 = .ok (.bipush 30, 2) := by decide +kernel
theorem dX1_workOutPrices_89 : decode cX1_workOutPrices 89 = .ok (.invokevirtual 173, 3) := by decide +kernel
theorem dX1_workOutPrices_92 : decode cX1_workOutPrices 92 = .ok (.iconst 1, 1) := by decide +kernel
theorem dX1_workOutPrices_93 : decode cX1_workOutPrices 93 = .ok (.istore_n 2, 1) := by decide +kernel
theorem dX1_workOutPrices_94 : decode cX1_workOutPrices 94 = .ok (.iload_n 2, 1) := by decide +kernel
theorem dX1_workOutPrices_95 : decode cX1_workOutPrices 95 = .ok (.bipush 30, 2) := by decide +kernel
theorem dX1_workOutPrices_97 : decode cX1_workOutPrices 97 = .ok (.if_icmp .gt 24, 3) := by decide +kernel
theorem dX1_workOutPrices_100 : decode cX1_workOutPrices 100 = .ok (.aload_n 0, 1) := by decide +kernel
theorem dX1_workOutPrices_101 : decode cX1_workOutPrices 101 = .ok (.getfield 15, 3) := by decide +kernel
theorem dX1_workOutPrices_104 : decode cX1_workOutPrices 104 = .ok (.iload_n 2, 1) := by decide +kernel
theorem dX1_workOutPrices_105 : decode cX1_workOutPrices 105 = .ok (.aload_n 0, 1) := by decide +kernel
theorem dX1_workOutPrices_106 : decode cX1_workOutPrices 106 = .ok (.getfield 51, 3) := by decide +kernel
theorem dX1_workOutPrices_109 : decode cX1_workOutPrices 109 = .ok (.iconst 0, 1) := by decide +kernel
theorem dX1_workOutPrices_110 : decode cX1_workOutPrices 110 = .ok (.iload_n 2, 1) := by decide +kernel
theorem dX1_workOutPrices_111 : decode cX1_workOutPrices 111 = .ok (.invokevirtual 178, 3) := by decide +kernel
theorem dX1_workOutPrices_114 : decode cX1_workOutPrices 114 = .ok (.iastore, 1) := by decide +kernel
theorem dX1_workOutPrices_115 : decode cX1_workOutPrices 115 = .ok (.iinc 2 1, 3) := by decide +kernel
theorem dX1_workOutPrices_118 : decode cX1_workOutPrices 118 = .ok (.goto (-24), 3) := by decide +kernel
theorem dX1_workOutPrices_121 : decode cX1_workOutPrices 121 = .ok (.return_, 1) := by decide +kernel
set_option maxRecDepth 20000 in
theorem ggX1_findRow_X1_knowTurns : GoodIn wsX1_findRow wsX1_knowTurns := goodIn_r _ [15, 7, 16, 17, 2, 18, 19, 20, 21, 4, 5, 22, 23, 24, 25, 26, 27, 28, 29, 30, 31, 32, 33, 34, 35, 36, 37, 38, 39, 40, 41, 42, 43, 44, 45, 46, 47, 48, 49, 50, 51, 52, 53, 54, 55, 56, 57, 58, 59, 60, 61, 62, 63, 64, 65, 66, 68, 69, 70, 71, 72, 73, 74, 75, 76, 77, 78, 79, 80, 81, 82, 83, 84, 85, 86, 87, 97, 98, 99, 100, 101, 88, 89, 90, 91, 92, 93, 94, 95, 96] (by decide +kernel) (by decide +kernel)
set_option maxRecDepth 20000 in
theorem gX1_findRow_X1_knowTurns : GoodIn wsX1_findRow (wsV RX1 184 RX1 yX1_knowTurns wsX1_knowTurns) := goodIn_app (goodIn_of _ (by decide +kernel)) ggX1_findRow_X1_knowTurns
set_option maxRecDepth 20000 in
theorem ggX1_findRow_X3_by : GoodIn wsX1_findRow wsX3_by := goodIn_r _ [53, 43, 54, 44, 45, 55, 56, 48, 49, 97, 98, 99, 100, 101, 88, 89, 90, 91, 92, 93, 94, 95, 96] (by decide +kernel) (by decide +kernel)
set_option maxRecDepth 20000 in
theorem gX1_findRow_X3_by : GoodIn wsX1_findRow (wsV RX1 200 RX3 yX3_by wsX3_by) := goodIn_app (goodIn_of _ (by decide +kernel)) ggX1_findRow_X3_by
set_option maxRecDepth 20000 in
theorem ggX1_findRow_X3_of : GoodIn wsX1_findRow wsX3_of := goodIn_r _ [60, 48, 49, 45, 97, 98, 99, 100, 101] (by decide +kernel) (by decide +kernel)
set_option maxRecDepth 20000 in
theorem gX1_findRow_X3_of : GoodIn wsX1_findRow (wsV RX1 178 RX3 yX3_of wsX3_of) := goodIn_app (goodIn_of _ (by decide +kernel)) ggX1_findRow_X3_of
theorem dX1_findRow_0 : decode cX1_findRow 0 = .ok (.aload_n 0, 1) := by decide +kernel
theorem dX1_findRow_1 : decode cX1_findRow 1 = .ok (.getfield 98, 3) := by decide +kernel
theorem dX1_findRow_4 : decode cX1_findRow 4 = .ok (.iload_n 1, 1) := by decide +kernel
theorem dX1_findRow_5 : decode cX1_findRow 5 = .ok (.if_icmp .ne 4, 3) := by decide +kernel
theorem dX1_findRow_8 : decode cX1_findRow 8 = .ok (.return_, 1) := by decide +kernel
theorem dX1_findRow_9 : decode cX1_findRow 9 = .ok (.aload_n 0, 1) := by decide +kernel
theorem dX1_findRow_10 : decode cX1_findRow 10 = .ok (.getfield 108, 3) := by decide +kernel
theorem dX1_findRow_13 : decode cX1_findRow 13 = .ok (.ifCond .ne 7, 3) := by decide +kernel
theorem dX1_findRow_16 : decode cX1_findRow 16 = .ok (.aload_n 0, 1) := by decide +kernel
theorem dX1_findRow_17 : decode cX1_findRow 17 = .ok (.invokevirtual 184, 3) := by decide +kernel
theorem dX1_findRow_20 : decode cX1_findRow 20 = .ok (.aload_n 0, 1) := by decide +kernel
theorem dX1_findRow_21 : decode cX1_findRow 21 = .ok (.iload_n 1, 1) := by decide +kernel
theorem dX1_findRow_22 : decode cX1_findRow 22 = .ok (.putfield 98, 3) := by decide +kernel
theorem dX1_findRow_25 : decode cX1_findRow 25 = .ok (.aload_n 0, 1) := by decide +kernel
theorem dX1_findRow_26 : decode cX1_findRow 26 = .ok (.iconst 0, 1) := by decide +kernel
theorem dX1_findRow_27 : decode cX1_findRow 27 = .ok (.putfield 197, 3) := by decide +kernel
theorem dX1_findRow_30 : decode cX1_findRow 30 = .ok (.iconst 0, 1) := by decide +kernel
theorem dX1_findRow_31 : decode cX1_findRow 31 = .ok (.istore_n 2, 1) := by decide +kernel
theorem dX1_findRow_32 : decode cX1_findRow 32 = .ok (.iconst 0, 1) := by decide +kernel
theorem dX1_findRow_33 : decode cX1_findRow 33 = .ok (.istore_n 3, 1) := by decide +kernel
theorem dX1_findRow_34 : decode cX1_findRow 34 = .ok (.iconst 0, 1) := by decide +kernel
theorem dX1_findRow_35 : decode cX1_findRow 35 = .ok (.istore 4, 2) := by decide +kernel
theorem dX1_findRow_37 : decode cX1_findRow 37 = .ok (.iload 4, 2) := by decide +kernel
theorem dX1_findRow_39 : decode cX1_findRow 39 = .ok (.bipush 30, 2) := by decide +kernel
theorem dX1_findRow_41 : decode cX1_findRow 41 = .ok (.if_icmp .ge 134, 3) := by decide +kernel
theorem dX1_findRow_44 : decode cX1_findRow 44 = .ok (.iload_n 3, 1) := by decide +kernel
theorem dX1_findRow_45 : decode cX1_findRow 45 = .ok (.iload_n 1, 1) := by decide +kernel
theorem dX1_findRow_46 : decode cX1_findRow 46 = .ok (.if_icmp .ge 129, 3) := by decide +kernel
theorem dX1_findRow_49 : decode cX1_findRow 49 = .ok (.iload_n 2, 1) := by decide +kernel
theorem dX1_findRow_50 : decode cX1_findRow 50 = .ok (.aload_n 0, 1) := by decide +kernel
theorem dX1_findRow_51 : decode cX1_findRow 51 = .ok (.getfield 39, 3) := by decide +kernel
theorem dX1_findRow_54 : decode cX1_findRow 54 = .ok (.getfield 150, 3) := by decide +kernel
theorem dX1_findRow_57 : decode cX1_findRow 57 = .ok (.if_icmp .ge 118, 3) := by decide +kernel
theorem dX1_findRow_60 : decode cX1_findRow 60 = .ok (.iconst 0, 1) := by decide +kernel
theorem dX1_findRow_61 : decode cX1_findRow 61 = .ok (.istore 5, 2) := by decide +kernel
theorem dX1_findRow_63 : decode cX1_findRow 63 = .ok (.iload 5, 2) := by decide +kernel
theorem dX1_findRow_65 : decode cX1_findRow 65 = .ok (.aload_n 0, 1) := by decide +kernel
theorem dX1_findRow_66 : decode cX1_findRow 66 = .ok (.getfield 39, 3) := by decide +kernel
theorem dX1_findRow_69 : decode cX1_findRow 69 = .ok (.getfield 156, 3) := by decide +kernel
theorem dX1_findRow_72 : decode cX1_findRow 72 = .ok (.iconst 1, 1) := by decide +kernel
theorem dX1_findRow_73 : decode cX1_findRow 73 = .ok (.isub, 1) := by decide +kernel
theorem dX1_findRow_74 : decode cX1_findRow 74 = .ok (.if_icmp .ge 36, 3) := by decide +kernel
theorem dX1_findRow_77 : decode cX1_findRow 77 = .ok (.aload_n 0, 1) := by decide +kernel
theorem dX1_findRow_78 : decode cX1_findRow 78 = .ok (.getfield 51, 3) := by decide +kernel
theorem dX1_findRow_81 : decode cX1_findRow 81 = .ok (.iload_n 2, 1) := by decide +kernel
theorem dX1_findRow_82 : decode cX1_findRow 82 = .ok (.iload 5, 2) := by decide +kernel
theorem dX1_findRow_84 : decode cX1_findRow 84 = .ok (.iload_n 1, 1) := by decide +kernel
theorem dX1_findRow_85 : decode cX1_findRow 85 = .ok (.iload_n 3, 1) := by decide +kernel
theorem dX1_findRow_86 : decode cX1_findRow 86 = .ok (.isub, 1) := by decide +kernel
theorem dX1_findRow_87 : decode cX1_findRow 87 = .ok (.invokevirtual 200, 3) := by decide +kernel
theorem dX1_findRow_90 : decode cX1_findRow 90 = .ok (.aload_n 0, 1) := by decide +kernel
theorem dX1_findRow_91 : decode cX1_findRow 91 = .ok (.getfield 51, 3) := by decide +kernel
theorem dX1_findRow_94 : decode cX1_findRow 94 = .ok (.iload_n 2, 1) := by decide +kernel
theorem dX1_findRow_95 : decode cX1_findRow 95 = .ok (.iload_n 1, 1) := by decide +kernel
theorem dX1_findRow_96 : decode cX1_findRow 96 = .ok (.iload_n 3, 1) := by decide +kernel
theorem dX1_findRow_97 : decode cX1_findRow 97 = .ok (.isub, 1) := by decide +kernel
theorem dX1_findRow_98 : decode cX1_findRow 98 = .ok (.invokevirtual 178, 3) := by decide +kernel
theorem dX1_findRow_101 : decode cX1_findRow 101 = .ok (.if_icmp .eq 9, 3) := by decide +kernel
theorem dX1_findRow_104 : decode cX1_findRow 104 = .ok (.iinc 5 1, 3) := by decide +kernel
theorem dX1_findRow_107 : decode cX1_findRow 107 = .ok (.goto (-44), 3) := by decide +kernel
theorem dX1_findRow_110 : decode cX1_findRow 110 = .ok (.aload_n 0, 1) := by decide +kernel
theorem dX1_findRow_111 : decode cX1_findRow 111 = .ok (.getfield 24, 3) := by decide +kernel
theorem dX1_findRow_114 : decode cX1_findRow 114 = .ok (.iload 4, 2) := by decide +kernel
theorem dX1_findRow_116 : decode cX1_findRow 116 = .ok (.iload 5, 2) := by decide +kernel
theorem dX1_findRow_118 : decode cX1_findRow 118 = .ok (.iastore, 1) := by decide +kernel
theorem dX1_findRow_119 : decode cX1_findRow 119 = .ok (.aload_n 0, 1) := by decide +kernel
theorem dX1_findRow_120 : decode cX1_findRow 120 = .ok (.getfield 27, 3) := by decide +kernel
theorem dX1_findRow_123 : decode cX1_findRow 123 = .ok (.iload 4, 2) := by decide +kernel
theorem dX1_findRow_125 : decode cX1_findRow 125 = .ok (.iload_n 3, 1) := by decide +kernel
theorem dX1_findRow_126 : decode cX1_findRow 126 = .ok (.iastore, 1) := by decide +kernel
theorem dX1_findRow_127 : decode cX1_findRow 127 = .ok (.aload_n 0, 1) := by decide +kernel
theorem dX1_findRow_128 : decode cX1_findRow 128 = .ok (.dup, 1) := by decide +kernel
theorem dX1_findRow_129 : decode cX1_findRow 129 = .ok (.getfield 197, 3) := by decide +kernel
theorem dX1_findRow_132 : decode cX1_findRow 132 = .ok (.iconst 1, 1) := by decide +kernel
theorem dX1_findRow_133 : decode cX1_findRow 133 = .ok (.iadd, 1) := by decide +kernel
theorem dX1_findRow_134 : decode cX1_findRow 134 = .ok (.putfield 197, 3) := by decide +kernel
theorem dX1_findRow_137 : decode cX1_findRow 137 = .ok (.aload_n 0, 1) := by decide +kernel
theorem dX1_findRow_138 : decode cX1_findRow 138 = .ok (.getfield 39, 3) := by decide +kernel
theorem dX1_findRow_141 : decode cX1_findRow 141 = .ok (.getfield 159, 3) := by decide +kernel
theorem dX1_findRow_144 : decode cX1_findRow 144 = .ok (.iload_n 2, 1) := by decide +kernel
theorem dX1_findRow_145 : decode cX1_findRow 145 = .ok (.bipush 16, 2) := by decide +kernel
theorem dX1_findRow_147 : decode cX1_findRow 147 = .ok (.imul, 1) := by decide +kernel
theorem dX1_findRow_148 : decode cX1_findRow 148 = .ok (.iload 5, 2) := by decide +kernel
theorem dX1_findRow_150 : decode cX1_findRow 150 = .ok (.iadd, 1) := by decide +kernel
theorem dX1_findRow_151 : decode cX1_findRow 151 = .ok (.iaload, 1) := by decide +kernel
theorem dX1_findRow_152 : decode cX1_findRow 152 = .ok (.istore 6, 2) := by decide +kernel
theorem dX1_findRow_154 : decode cX1_findRow 154 = .ok (.iload_n 3, 1) := by decide +kernel
theorem dX1_findRow_155 : decode cX1_findRow 155 = .ok (.iload 6, 2) := by decide +kernel
theorem dX1_findRow_157 : decode cX1_findRow 157 = .ok (.bipush 12, 2) := by decide +kernel
theorem dX1_findRow_159 : decode cX1_findRow 159 = .ok (.ishr, 1) := by decide +kernel
theorem dX1_findRow_160 : decode cX1_findRow 160 = .ok (.iadd, 1) := by decide +kernel
theorem dX1_findRow_161 : decode cX1_findRow 161 = .ok (.istore_n 3, 1) := by decide +kernel
theorem dX1_findRow_162 : decode cX1_findRow 162 = .ok (.iload 6, 2) := by decide +kernel
theorem dX1_findRow_164 : decode cX1_findRow 164 = .ok (.sipush 4095, 3) := by decide +kernel
theorem dX1_findRow_167 : decode cX1_findRow 167 = .ok (.iand, 1) := by decide +kernel
theorem dX1_findRow_168 : decode cX1_findRow 168 = .ok (.istore_n 2, 1) := by decide +kernel
theorem dX1_findRow_169 : decode cX1_findRow 169 = .ok (.iinc 4 1, 3) := by decide +kernel
theorem dX1_findRow_172 : decode cX1_findRow 172 = .ok (.goto (-135), 3) := by decide +kernel
theorem dX1_findRow_175 : decode cX1_findRow 175 = .ok (.return_, 1) := by decide +kernel
set_option maxRecDepth 20000 in
theorem ggX1_usedInRow_X1_findRow : GoodIn wsX1_usedInRow wsX1_findRow := goodIn_r _ [7, 8, 9, 1, 10, 11, 12, 13, 2, 14, 15, 16, 17, 18, 6, 19, 20, 21, 22, 23, 24, 25, 26, 27, 28, 29, 30, 31, 32, 33, 34, 35, 36, 37, 38, 39, 40, 41, 42, 43, 44, 45, 46, 47, 48, 49, 50, 51, 52, 53, 54, 55, 56, 57, 58, 59, 60, 61, 62, 63, 64, 65, 66, 67, 68, 69, 70, 71, 72, 73, 74, 75, 76, 77, 78, 79, 80, 81, 82, 83, 84, 85, 86, 87, 88, 89, 90, 91, 92, 93, 94, 95, 96, 97, 98, 99, 100, 101, 102, 103, 104, 105] (by decide +kernel) (by decide +kernel)
set_option maxRecDepth 20000 in
theorem gX1_usedInRow_X1_findRow : GoodIn wsX1_usedInRow (wsV RX1 203 RX1 yX1_findRow wsX1_findRow) := goodIn_app (goodIn_of _ (by decide +kernel)) ggX1_usedInRow_X1_findRow
set_option maxRecDepth 20000 in
theorem ggX1_usedInRow_X11_has : GoodIn wsX1_usedInRow wsX11_has := goodIn_r _ [70] (by decide +kernel) (by decide +kernel)
set_option maxRecDepth 20000 in
theorem gX1_usedInRow_X11_has_n143 : GoodIn wsX1_usedInRow (wsX11_has) := ggX1_usedInRow_X11_has
theorem dX1_usedInRow_0 : decode cX1_usedInRow 0 = .ok (.aload_n 0, 1) := by decide +kernel
theorem dX1_usedInRow_1 : decode cX1_usedInRow 1 = .ok (.iload_n 1, 1) := by decide +kernel
theorem dX1_usedInRow_2 : decode cX1_usedInRow 2 = .ok (.invokevirtual 203, 3) := by decide +kernel
theorem dX1_usedInRow_5 : decode cX1_usedInRow 5 = .ok (.iconst 0, 1) := by decide +kernel
theorem dX1_usedInRow_6 : decode cX1_usedInRow 6 = .ok (.istore_n 3, 1) := by decide +kernel
theorem dX1_usedInRow_7 : decode cX1_usedInRow 7 = .ok (.iconst 0, 1) := by decide +kernel
theorem dX1_usedInRow_8 : decode cX1_usedInRow 8 = .ok (.istore 4, 2) := by decide +kernel
theorem dX1_usedInRow_10 : decode cX1_usedInRow 10 = .ok (.iload 4, 2) := by decide +kernel
theorem dX1_usedInRow_12 : decode cX1_usedInRow 12 = .ok (.aload_n 0, 1) := by decide +kernel
theorem dX1_usedInRow_13 : decode cX1_usedInRow 13 = .ok (.getfield 197, 3) := by decide +kernel
theorem dX1_usedInRow_16 : decode cX1_usedInRow 16 = .ok (.if_icmp .ge 31, 3) := by decide +kernel
theorem dX1_usedInRow_19 : decode cX1_usedInRow 19 = .ok (.iload_n 3, 1) := by decide +kernel
theorem dX1_usedInRow_20 : decode cX1_usedInRow 20 = .ok (.aload_n 0, 1) := by decide +kernel
theorem dX1_usedInRow_21 : decode cX1_usedInRow 21 = .ok (.getfield 24, 3) := by decide +kernel
theorem dX1_usedInRow_24 : decode cX1_usedInRow 24 = .ok (.iload 4, 2) := by decide +kernel
theorem dX1_usedInRow_26 : decode cX1_usedInRow 26 = .ok (.iaload, 1) := by decide +kernel
theorem dX1_usedInRow_27 : decode cX1_usedInRow 27 = .ok (.iload_n 2, 1) := by decide +kernel
theorem dX1_usedInRow_28 : decode cX1_usedInRow 28 = .ok (.invokestatic 143, 3) := by decide +kernel
theorem dX1_usedInRow_31 : decode cX1_usedInRow 31 = .ok (.ifCond .eq 7, 3) := by decide +kernel
theorem dX1_usedInRow_34 : decode cX1_usedInRow 34 = .ok (.iconst 1, 1) := by decide +kernel
theorem dX1_usedInRow_35 : decode cX1_usedInRow 35 = .ok (.goto 4, 3) := by decide +kernel
theorem dX1_usedInRow_38 : decode cX1_usedInRow 38 = .ok (.iconst 0, 1) := by decide +kernel
theorem dX1_usedInRow_39 : decode cX1_usedInRow 39 = .ok (.iadd, 1) := by decide +kernel
theorem dX1_usedInRow_40 : decode cX1_usedInRow 40 = .ok (.istore_n 3, 1) := by decide +kernel
theorem dX1_usedInRow_41 : decode cX1_usedInRow 41 = .ok (.iinc 4 1, 3) := by decide +kernel
theorem dX1_usedInRow_44 : decode cX1_usedInRow 44 = .ok (.goto (-34), 3) := by decide +kernel
theorem dX1_usedInRow_47 : decode cX1_usedInRow 47 = .ok (.iload_n 3, 1) := by decide +kernel
theorem dX1_usedInRow_48 : decode cX1_usedInRow 48 = .ok (.ireturn, 1) := by decide +kernel
set_option maxRecDepth 20000 in
theorem ggX1_rowAt_X1_findRow : GoodIn wsX1_rowAt wsX1_findRow := goodIn_r _ [8, 9, 10, 1, 11, 12, 13, 14, 2, 3, 15, 16, 17, 18, 7, 19, 20, 21, 22, 23, 24, 25, 26, 27, 28, 29, 30, 31, 32, 33, 34, 35, 36, 37, 38, 39, 40, 41, 42, 43, 44, 45, 46, 47, 48, 49, 50, 51, 52, 53, 54, 55, 56, 57, 58, 59, 60, 61, 62, 63, 64, 65, 66, 67, 68, 69, 70, 71, 72, 73, 74, 75, 76, 77, 78, 79, 80, 81, 82, 83, 84, 85, 86, 87, 88, 89, 90, 91, 92, 93, 94, 95, 96, 97, 98, 99, 100, 101, 102, 103, 104, 105] (by decide +kernel) (by decide +kernel)
set_option maxRecDepth 20000 in
theorem gX1_rowAt_X1_findRow : GoodIn wsX1_rowAt (wsV RX1 203 RX1 yX1_findRow wsX1_findRow) := goodIn_app (goodIn_of _ (by decide +kernel)) ggX1_rowAt_X1_findRow
theorem dX1_rowAt_0 : decode cX1_rowAt 0 = .ok (.aload_n 0, 1) := by decide +kernel
theorem dX1_rowAt_1 : decode cX1_rowAt 1 = .ok (.iload_n 1, 1) := by decide +kernel
theorem dX1_rowAt_2 : decode cX1_rowAt 2 = .ok (.invokevirtual 203, 3) := by decide +kernel
theorem dX1_rowAt_5 : decode cX1_rowAt 5 = .ok (.iload_n 2, 1) := by decide +kernel
theorem dX1_rowAt_6 : decode cX1_rowAt 6 = .ok (.bipush 10, 2) := by decide +kernel
theorem dX1_rowAt_8 : decode cX1_rowAt 8 = .ok (.if_icmp .lt 24, 3) := by decide +kernel
theorem dX1_rowAt_11 : decode cX1_rowAt 11 = .ok (.iload_n 2, 1) := by decide +kernel
theorem dX1_rowAt_12 : decode cX1_rowAt 12 = .ok (.bipush 10, 2) := by decide +kernel
theorem dX1_rowAt_14 : decode cX1_rowAt 14 = .ok (.aload_n 0, 1) := by decide +kernel
theorem dX1_rowAt_15 : decode cX1_rowAt 15 = .ok (.getfield 197, 3) := by decide +kernel
theorem dX1_rowAt_18 : decode cX1_rowAt 18 = .ok (.iadd, 1) := by decide +kernel
theorem dX1_rowAt_19 : decode cX1_rowAt 19 = .ok (.if_icmp .ge 13, 3) := by decide +kernel
theorem dX1_rowAt_22 : decode cX1_rowAt 22 = .ok (.aload_n 0, 1) := by decide +kernel
theorem dX1_rowAt_23 : decode cX1_rowAt 23 = .ok (.getfield 24, 3) := by decide +kernel
theorem dX1_rowAt_26 : decode cX1_rowAt 26 = .ok (.iload_n 2, 1) := by decide +kernel
theorem dX1_rowAt_27 : decode cX1_rowAt 27 = .ok (.bipush 10, 2) := by decide +kernel
theorem dX1_rowAt_29 : decode cX1_rowAt 29 = .ok (.isub, 1) := by decide +kernel
theorem dX1_rowAt_30 : decode cX1_rowAt 30 = .ok (.iaload, 1) := by decide +kernel
theorem dX1_rowAt_31 : decode cX1_rowAt 31 = .ok (.ireturn, 1) := by decide +kernel
theorem dX1_rowAt_32 : decode cX1_rowAt 32 = .ok (.iload_n 2, 1) := by decide +kernel
theorem dX1_rowAt_33 : decode cX1_rowAt 33 = .ok (.bipush 50, 2) := by decide +kernel
theorem dX1_rowAt_35 : decode cX1_rowAt 35 = .ok (.if_icmp .lt 24, 3) := by decide +kernel
theorem dX1_rowAt_38 : decode cX1_rowAt 38 = .ok (.iload_n 2, 1) := by decide +kernel
theorem dX1_rowAt_39 : decode cX1_rowAt 39 = .ok (.bipush 50, 2) := by decide +kernel
theorem dX1_rowAt_41 : decode cX1_rowAt 41 = .ok (.aload_n 0, 1) := by decide +kernel
theorem dX1_rowAt_42 : decode cX1_rowAt 42 = .ok (.getfield 197, 3) := by decide +kernel
theorem dX1_rowAt_45 : decode cX1_rowAt 45 = .ok (.iadd, 1) := by decide +kernel
theorem dX1_rowAt_46 : decode cX1_rowAt 46 = .ok (.if_icmp .ge 13, 3) := by decide +kernel
theorem dX1_rowAt_49 : decode cX1_rowAt 49 = .ok (.aload_n 0, 1) := by decide +kernel
theorem dX1_rowAt_50 : decode cX1_rowAt 50 = .ok (.getfield 27, 3) := by decide +kernel
theorem dX1_rowAt_53 : decode cX1_rowAt 53 = .ok (.iload_n 2, 1) := by decide +kernel
theorem dX1_rowAt_54 : decode cX1_rowAt 54 = .ok (.bipush 50, 2) := by decide +kernel
theorem dX1_rowAt_56 : decode cX1_rowAt 56 = .ok (.isub, 1) := by decide +kernel
theorem dX1_rowAt_57 : decode cX1_rowAt 57 = .ok (.iaload, 1) := by decide +kernel
theorem dX1_rowAt_58 : decode cX1_rowAt 58 = .ok (.ireturn, 1) := by decide +kernel
theorem dX1_rowAt_59 : decode cX1_rowAt 59 = .ok (.iconst (-1), 1) := by decide +kernel
theorem dX1_rowAt_60 : decode cX1_rowAt 60 = .ok (.ireturn, 1) := by decide +kernel
set_option maxRecDepth 20000 in
theorem ggX1_leastDone_J7_fill_53178 : GoodIn wsX1_leastDone wsJ7_fill_53178 := goodIn_r _ [17] (by decide +kernel) (by decide +kernel)
set_option maxRecDepth 20000 in
theorem gX1_leastDone_J7_fill_53178 : GoodIn wsX1_leastDone (va_wsS RX1 111 yJ7_fill_53178 wsJ7_fill_53178) := goodIn_app (goodIn_of _ (by decide +kernel)) ggX1_leastDone_J7_fill_53178
set_option maxRecDepth 20000 in
theorem ggX1_leastDone_X3_workOut : GoodIn wsX1_leastDone wsX3_workOut := goodIn_r _ [22, 23, 24, 25, 26, 27, 11, 12, 13, 28, 29, 30, 31, 32, 21, 33, 34, 35, 36, 68, 69, 70, 71, 72, 77, 78, 79, 80, 81, 82, 83, 84, 85] (by decide +kernel) (by decide +kernel)
set_option maxRecDepth 20000 in
theorem gX1_leastDone_X3_workOut : GoodIn wsX1_leastDone (wsV RX1 173 RX3 yX3_workOut wsX3_workOut) := goodIn_app (goodIn_of _ (by decide +kernel)) ggX1_leastDone_X3_workOut
set_option maxRecDepth 20000 in
theorem ggX1_leastDone_X3_of : GoodIn wsX1_leastDone wsX3_of := goodIn_r _ [40, 28, 29, 25, 68, 69, 70, 71, 72] (by decide +kernel) (by decide +kernel)
set_option maxRecDepth 20000 in
theorem gX1_leastDone_X3_of : GoodIn wsX1_leastDone (wsV RX1 178 RX3 yX3_of wsX3_of) := goodIn_app (goodIn_of _ (by decide +kernel)) ggX1_leastDone_X3_of
set_option maxRecDepth 20000 in
theorem ggX1_leastDone_X1_waitForLaterEvents : GoodIn wsX1_leastDone wsX1_waitForLaterEvents := goodIn_r _ [45, 7, 8, 46, 47, 2, 4, 9, 48, 49, 50, 51, 52, 53, 54, 55, 56, 57, 58, 59, 60, 61, 62, 63, 64, 65, 66, 67, 77, 78, 79, 80, 81, 82, 83, 84, 85, 68, 69, 70, 71, 72] (by decide +kernel) (by decide +kernel)
set_option maxRecDepth 20000 in
theorem gX1_leastDone_X1_waitForLaterEvents : GoodIn wsX1_leastDone (wsV RX1 206 RX1 yX1_waitForLaterEvents wsX1_waitForLaterEvents) := goodIn_app (goodIn_of _ (by decide +kernel)) ggX1_leastDone_X1_waitForLaterEvents
theorem dX1_leastDone_0 : decode cX1_leastDone 0 = .ok (.aload_n 0, 1) := by decide +kernel
theorem dX1_leastDone_1 : decode cX1_leastDone 1 = .ok (.iconst 0, 1) := by decide +kernel
theorem dX1_leastDone_2 : decode cX1_leastDone 2 = .ok (.putfield 108, 3) := by decide +kernel
theorem dX1_leastDone_5 : decode cX1_leastDone 5 = .ok (.aload_n 0, 1) := by decide +kernel
theorem dX1_leastDone_6 : decode cX1_leastDone 6 = .ok (.getfield 51, 3) := by decide +kernel
theorem dX1_leastDone_9 : decode cX1_leastDone 9 = .ok (.getfield 167, 3) := by decide +kernel
theorem dX1_leastDone_12 : decode cX1_leastDone 12 = .ok (.iconst 0, 1) := by decide +kernel
theorem dX1_leastDone_13 : decode cX1_leastDone 13 = .ok (.invokestatic 111, 3) := by decide +kernel
theorem dX1_leastDone_16 : decode cX1_leastDone 16 = .ok (.aload_n 0, 1) := by decide +kernel
theorem dX1_leastDone_17 : decode cX1_leastDone 17 = .ok (.getfield 51, 3) := by decide +kernel
theorem dX1_leastDone_20 : decode cX1_leastDone 20 = .ok (.getfield 170, 3) := by decide +kernel
theorem dX1_leastDone_23 : decode cX1_leastDone 23 = .ok (.iconst 0, 1) := by decide +kernel
theorem dX1_leastDone_24 : decode cX1_leastDone 24 = .ok (.invokestatic 111, 3) := by decide +kernel
theorem dX1_leastDone_27 : decode cX1_leastDone 27 = .ok (.iload_n 2, 1) := by decide +kernel
theorem dX1_leastDone_28 : decode cX1_leastDone 28 = .ok (.iconst 1, 1) := by decide +kernel
theorem dX1_leastDone_29 : decode cX1_leastDone 29 = .ok (.isub, 1) := by decide +kernel
theorem dX1_leastDone_30 : decode cX1_leastDone 30 = .ok (.istore_n 3, 1) := by decide +kernel
theorem dX1_leastDone_31 : decode cX1_leastDone 31 = .ok (.iload_n 3, 1) := by decide +kernel
theorem dX1_leastDone_32 : decode cX1_leastDone 32 = .ok (.ifCond .lt 88, 3) := by decide +kernel
theorem dX1_leastDone_35 : decode cX1_leastDone 35 = .ok (.iload_n 3, 1) := by decide +kernel
theorem dX1_leastDone_36 : decode cX1_leastDone 36 = .ok (.aload_n 1, 1) := by decide +kernel
theorem dX1_leastDone_37 : decode cX1_leastDone 37 = .ok (.getfield 79, 3) := by decide +kernel
theorem dX1_leastDone_40 : decode cX1_leastDone 40 = .ok (.if_icmp .ge 80, 3) := by decide +kernel
theorem dX1_leastDone_43 : decode cX1_leastDone 43 = .ok (.aload_n 1, 1) := by decide +kernel
theorem dX1_leastDone_44 : decode cX1_leastDone 44 = .ok (.getfield 74, 3) := by decide +kernel
theorem dX1_leastDone_47 : decode cX1_leastDone 47 = .ok (.iload_n 3, 1) := by decide +kernel
theorem dX1_leastDone_48 : decode cX1_leastDone 48 = .ok (.iaload, 1) := by decide +kernel
theorem dX1_leastDone_49 : decode cX1_leastDone 49 = .ok (.istore 4, 2) := by decide +kernel
theorem dX1_leastDone_51 : decode cX1_leastDone 51 = .ok (.aload_n 0, 1) := by decide +kernel
theorem dX1_leastDone_52 : decode cX1_leastDone 52 = .ok (.getfield 51, 3) := by decide +kernel
theorem dX1_leastDone_55 : decode cX1_leastDone 55 = .ok (.iload 4, 2) := by decide +kernel
theorem dX1_leastDone_57 : decode cX1_leastDone 57 = .ok (.invokevirtual 173, 3) := by decide +kernel
theorem dX1_leastDone_60 : decode cX1_leastDone 60 = .ok (.iconst 0, 1) := by decide +kernel
theorem dX1_leastDone_61 : decode cX1_leastDone 61 = .ok (.istore 5, 2) := by decide +kernel
theorem dX1_leastDone_63 : decode cX1_leastDone 63 = .ok (.iload 5, 2) := by decide +kernel
theorem dX1_leastDone_65 : decode cX1_leastDone 65 = .ok (.aload_n 0, 1) := by decide +kernel
theorem dX1_leastDone_66 : decode cX1_leastDone 66 = .ok (.getfield 39, 3) := by decide +kernel
theorem dX1_leastDone_69 : decode cX1_leastDone 69 = .ok (.getfield 150, 3) := by decide +kernel
theorem dX1_leastDone_72 : decode cX1_leastDone 72 = .ok (.if_icmp .ge 38, 3) := by decide +kernel
theorem dX1_leastDone_75 : decode cX1_leastDone 75 = .ok (.aload_n 0, 1) := by decide +kernel
theorem dX1_leastDone_76 : decode cX1_leastDone 76 = .ok (.getfield 51, 3) := by decide +kernel
theorem dX1_leastDone_79 : decode cX1_leastDone 79 = .ok (.getfield 170, 3) := by decide +kernel
theorem dX1_leastDone_82 : decode cX1_leastDone 82 = .ok (.iload 5, 2) := by decide +kernel
theorem dX1_leastDone_84 : decode cX1_leastDone 84 = .ok (.ldc 177, 2) := by decide +kernel
theorem dX1_leastDone_86 : decode cX1_leastDone 86 = .ok (.iload 4, 2) := by decide +kernel
theorem dX1_leastDone_88 : decode cX1_leastDone 88 = .ok (.aload_n 0, 1) := by decide +kernel
theorem dX1_leastDone_89 : decode cX1_leastDone 89 = .ok (.getfield 51, 3) := by decide +kernel
theorem dX1_leastDone_92 : decode cX1_leastDone 92 = .ok (.iload 5, 2) := by decide +kernel
theorem dX1_leastDone_94 : decode cX1_leastDone 94 = .ok (.iload 4, 2) := by decide +kernel
theorem dX1_leastDone_96 : decode cX1_leastDone 96 = .ok (.invokevirtual 178, 3) := by decide +kernel
theorem dX1_leastDone_99 : decode cX1_leastDone 99 = .ok (.iadd, 1) := by decide +kernel
theorem dX1_leastDone_100 : decode cX1_leastDone 100 = .ok (.invokestatic 65, 3) := by decide +kernel
theorem dX1_leastDone_103 : decode cX1_leastDone 103 = .ok (.iastore, 1) := by decide +kernel
theorem dX1_leastDone_104 : decode cX1_leastDone 104 = .ok (.iinc 5 1, 3) := by decide +kernel
theorem dX1_leastDone_107 : decode cX1_leastDone 107 = .ok (.goto (-44), 3) := by decide +kernel
theorem dX1_leastDone_110 : decode cX1_leastDone 110 = .ok (.aload_n 0, 1) := by decide +kernel
theorem dX1_leastDone_111 : decode cX1_leastDone 111 = .ok (.invokevirtual 206, 3) := by decide +kernel
theorem dX1_leastDone_114 : decode cX1_leastDone 114 = .ok (.iinc 3 (-1), 3) := by decide +kernel
theorem dX1_leastDone_117 : decode cX1_leastDone 117 = .ok (.goto (-86), 3) := by decide +kernel
theorem dX1_leastDone_120 : decode cX1_leastDone 120 = .ok (.aload_n 0, 1) := by decide +kernel
theorem dX1_leastDone_121 : decode cX1_leastDone 121 = .ok (.getfield 51, 3) := by decide +kernel
theorem dX1_leastDone_124 : decode cX1_leastDone 124 = .ok (.getfield 170, 3) := by decide +kernel
theorem dX1_leastDone_127 : decode cX1_leastDone 127 = .ok (.iconst 0, 1) := by decide +kernel
theorem dX1_leastDone_128 : decode cX1_leastDone 128 = .ok (.iaload, 1) := by decide +kernel
theorem dX1_leastDone_129 : decode cX1_leastDone 129 = .ok (.bipush 90, 2) := by decide +kernel
theorem dX1_leastDone_131 : decode cX1_leastDone 131 = .ok (.if_icmp .gt 15, 3) := by decide +kernel
theorem dX1_leastDone_134 : decode cX1_leastDone 134 = .ok (.aload_n 0, 1) := by decide +kernel
theorem dX1_leastDone_135 : decode cX1_leastDone 135 = .ok (.getfield 51, 3) := by decide +kernel
theorem dX1_leastDone_138 : decode cX1_leastDone 138 = .ok (.getfield 170, 3) := by decide +kernel
theorem dX1_leastDone_141 : decode cX1_leastDone 141 = .ok (.iconst 0, 1) := by decide +kernel
theorem dX1_leastDone_142 : decode cX1_leastDone 142 = .ok (.iaload, 1) := by decide +kernel
theorem dX1_leastDone_143 : decode cX1_leastDone 143 = .ok (.goto 4, 3) := by decide +kernel
theorem dX1_leastDone_146 : decode cX1_leastDone 146 = .ok (.iconst (-1), 1) := by decide +kernel
theorem dX1_leastDone_147 : decode cX1_leastDone 147 = .ok (.ireturn, 1) := by decide +kernel
theorem dX1_waitForLaterEvents_0 : decode cX1_waitForLaterEvents 0 = .ok (.iconst 1, 1) := by decide +kernel
theorem dX1_waitForLaterEvents_1 : decode cX1_waitForLaterEvents 1 = .ok (.istore_n 1, 1) := by decide +kernel
theorem dX1_waitForLaterEvents_2 : decode cX1_waitForLaterEvents 2 = .ok (.iconst 0, 1) := by decide +kernel
theorem dX1_waitForLaterEvents_3 : decode cX1_waitForLaterEvents 3 = .ok (.istore_n 2, 1) := by decide +kernel
theorem dX1_waitForLaterEvents_4 : decode cX1_waitForLaterEvents 4 = .ok (.iload_n 2, 1) := by decide +kernel
theorem dX1_waitForLaterEvents_5 : decode cX1_waitForLaterEvents 5 = .ok (.bipush 90, 2) := by decide +kernel
theorem dX1_waitForLaterEvents_7 : decode cX1_waitForLaterEvents 7 = .ok (.if_icmp .gt 147, 3) := by decide +kernel
theorem dX1_waitForLaterEvents_10 : decode cX1_waitForLaterEvents 10 = .ok (.iload_n 1, 1) := by decide +kernel
theorem dX1_waitForLaterEvents_11 : decode cX1_waitForLaterEvents 11 = .ok (.ifCond .eq 143, 3) := by decide +kernel
theorem dX1_waitForLaterEvents_14 : decode cX1_waitForLaterEvents 14 = .ok (.iconst 0, 1) := by decide +kernel
theorem dX1_waitForLaterEvents_15 : decode cX1_waitForLaterEvents 15 = .ok (.istore_n 1, 1) := by decide +kernel
theorem dX1_waitForLaterEvents_16 : decode cX1_waitForLaterEvents 16 = .ok (.iconst 0, 1) := by decide +kernel
theorem dX1_waitForLaterEvents_17 : decode cX1_waitForLaterEvents 17 = .ok (.istore_n 3, 1) := by decide +kernel
theorem dX1_waitForLaterEvents_18 : decode cX1_waitForLaterEvents 18 = .ok (.iload_n 3, 1) := by decide +kernel
theorem dX1_waitForLaterEvents_19 : decode cX1_waitForLaterEvents 19 = .ok (.aload_n 0, 1) := by decide +kernel
theorem dX1_waitForLaterEvents_20 : decode cX1_waitForLaterEvents 20 = .ok (.getfield 39, 3) := by decide +kernel
theorem dX1_waitForLaterEvents_23 : decode cX1_waitForLaterEvents 23 = .ok (.getfield 150, 3) := by decide +kernel
theorem dX1_waitForLaterEvents_26 : decode cX1_waitForLaterEvents 26 = .ok (.if_icmp .ge 122, 3) := by decide +kernel
theorem dX1_waitForLaterEvents_29 : decode cX1_waitForLaterEvents 29 = .ok (.iconst 0, 1) := by decide +kernel
theorem dX1_waitForLaterEvents_30 : decode cX1_waitForLaterEvents 30 = .ok (.istore 4, 2) := by decide +kernel
theorem dX1_waitForLaterEvents_32 : decode cX1_waitForLaterEvents 32 = .ok (.iload 4, 2) := by decide +kernel
theorem dX1_waitForLaterEvents_34 : decode cX1_waitForLaterEvents 34 = .ok (.aload_n 0, 1) := by decide +kernel
theorem dX1_waitForLaterEvents_35 : decode cX1_waitForLaterEvents 35 = .ok (.getfield 39, 3) := by decide +kernel
theorem dX1_waitForLaterEvents_38 : decode cX1_waitForLaterEvents 38 = .ok (.getfield 156, 3) := by decide +kernel
theorem dX1_waitForLaterEvents_41 : decode cX1_waitForLaterEvents 41 = .ok (.if_icmp .ge 101, 3) := by decide +kernel
theorem dX1_waitForLaterEvents_44 : decode cX1_waitForLaterEvents 44 = .ok (.aload_n 0, 1) := by decide +kernel
theorem dX1_waitForLaterEvents_45 : decode cX1_waitForLaterEvents 45 = .ok (.getfield 39, 3) := by decide +kernel
theorem dX1_waitForLaterEvents_48 : decode cX1_waitForLaterEvents 48 = .ok (.getfield 159, 3) := by decide +kernel
theorem dX1_waitForLaterEvents_51 : decode cX1_waitForLaterEvents 51 = .ok (.iload_n 3, 1) := by decide +kernel
theorem dX1_waitForLaterEvents_52 : decode cX1_waitForLaterEvents 52 = .ok (.bipush 16, 2) := by decide +kernel
theorem dX1_waitForLaterEvents_54 : decode cX1_waitForLaterEvents 54 = .ok (.imul, 1) := by decide +kernel
theorem dX1_waitForLaterEvents_55 : decode cX1_waitForLaterEvents 55 = .ok (.iload 4, 2) := by decide +kernel
theorem dX1_waitForLaterEvents_57 : decode cX1_waitForLaterEvents 57 = .ok (.iadd, 1) := by decide +kernel
theorem dX1_waitForLaterEvents_58 : decode cX1_waitForLaterEvents 58 = .ok (.iaload, 1) := by decide +kernel
theorem dX1_waitForLaterEvents_59 : decode cX1_waitForLaterEvents 59 = .ok (.istore 5, 2) := by decide +kernel
theorem dX1_waitForLaterEvents_61 : decode cX1_waitForLaterEvents 61 = .ok (.iload 5, 2) := by decide +kernel
theorem dX1_waitForLaterEvents_63 : decode cX1_waitForLaterEvents 63 = .ok (.sipush 4095, 3) := by decide +kernel
theorem dX1_waitForLaterEvents_66 : decode cX1_waitForLaterEvents 66 = .ok (.iand, 1) := by decide +kernel
theorem dX1_waitForLaterEvents_67 : decode cX1_waitForLaterEvents 67 = .ok (.istore 6, 2) := by decide +kernel
theorem dX1_waitForLaterEvents_69 : decode cX1_waitForLaterEvents 69 = .ok (.iload 5, 2) := by decide +kernel
theorem dX1_waitForLaterEvents_71 : decode cX1_waitForLaterEvents 71 = .ok (.bipush 12, 2) := by decide +kernel
theorem dX1_waitForLaterEvents_73 : decode cX1_waitForLaterEvents 73 = .ok (.ishr, 1) := by decide +kernel
theorem dX1_waitForLaterEvents_74 : decode cX1_waitForLaterEvents 74 = .ok (.iload 6, 2) := by decide +kernel
theorem dX1_waitForLaterEvents_76 : decode cX1_waitForLaterEvents 76 = .ok (.aload_n 0, 1) := by decide +kernel
theorem dX1_waitForLaterEvents_77 : decode cX1_waitForLaterEvents 77 = .ok (.getfield 39, 3) := by decide +kernel
theorem dX1_waitForLaterEvents_80 : decode cX1_waitForLaterEvents 80 = .ok (.getfield 150, 3) := by decide +kernel
theorem dX1_waitForLaterEvents_83 : decode cX1_waitForLaterEvents 83 = .ok (.if_icmp .ge 16, 3) := by decide +kernel
theorem dX1_waitForLaterEvents_86 : decode cX1_waitForLaterEvents 86 = .ok (.aload_n 0, 1) := by decide +kernel
theorem dX1_waitForLaterEvents_87 : decode cX1_waitForLaterEvents 87 = .ok (.getfield 51, 3) := by decide +kernel
theorem dX1_waitForLaterEvents_90 : decode cX1_waitForLaterEvents 90 = .ok (.getfield 170, 3) := by decide +kernel
theorem dX1_waitForLaterEvents_93 : decode cX1_waitForLaterEvents 93 = .ok (.iload 6, 2) := by decide +kernel
theorem dX1_waitForLaterEvents_95 : decode cX1_waitForLaterEvents 95 = .ok (.iaload, 1) := by decide +kernel
theorem dX1_waitForLaterEvents_96 : decode cX1_waitForLaterEvents 96 = .ok (.goto 5, 3) := by decide +kernel
theorem dX1_waitForLaterEvents_99 : decode cX1_waitForLaterEvents 99 = .ok (.ldc 177, 2) := by decide +kernel
theorem dX1_waitForLaterEvents_101 : decode cX1_waitForLaterEvents 101 = .ok (.iadd, 1) := by decide +kernel
theorem dX1_waitForLaterEvents_102 : decode cX1_waitForLaterEvents 102 = .ok (.istore 7, 2) := by decide +kernel
theorem dX1_waitForLaterEvents_104 : decode cX1_waitForLaterEvents 104 = .ok (.iload 5, 2) := by decide +kernel
theorem dX1_waitForLaterEvents_106 : decode cX1_waitForLaterEvents 106 = .ok (.ifCond .eq 30, 3) := by decide +kernel
theorem dX1_waitForLaterEvents_109 : decode cX1_waitForLaterEvents 109 = .ok (.iload 7, 2) := by decide +kernel
theorem dX1_waitForLaterEvents_111 : decode cX1_waitForLaterEvents 111 = .ok (.aload_n 0, 1) := by decide +kernel
theorem dX1_waitForLaterEvents_112 : decode cX1_waitForLaterEvents 112 = .ok (.getfield 51, 3) := by decide +kernel
theorem dX1_waitForLaterEvents_115 : decode cX1_waitForLaterEvents 115 = .ok (.getfield 170, 3) := by decide +kernel
theorem dX1_waitForLaterEvents_118 : decode cX1_waitForLaterEvents 118 = .ok (.iload_n 3, 1) := by decide +kernel
theorem dX1_waitForLaterEvents_119 : decode cX1_waitForLaterEvents 119 = .ok (.iaload, 1) := by decide +kernel
theorem dX1_waitForLaterEvents_120 : decode cX1_waitForLaterEvents 120 = .ok (.if_icmp .ge 16, 3) := by decide +kernel
theorem dX1_waitForLaterEvents_123 : decode cX1_waitForLaterEvents 123 = .ok (.aload_n 0, 1) := by decide +kernel
theorem dX1_waitForLaterEvents_124 : decode cX1_waitForLaterEvents 124 = .ok (.getfield 51, 3) := by decide +kernel
theorem dX1_waitForLaterEvents_127 : decode cX1_waitForLaterEvents 127 = .ok (.getfield 170, 3) := by decide +kernel
theorem dX1_waitForLaterEvents_130 : decode cX1_waitForLaterEvents 130 = .ok (.iload_n 3, 1) := by decide +kernel
theorem dX1_waitForLaterEvents_131 : decode cX1_waitForLaterEvents 131 = .ok (.iload 7, 2) := by decide +kernel
theorem dX1_waitForLaterEvents_133 : decode cX1_waitForLaterEvents 133 = .ok (.iastore, 1) := by decide +kernel
theorem dX1_waitForLaterEvents_134 : decode cX1_waitForLaterEvents 134 = .ok (.iconst 1, 1) := by decide +kernel
theorem dX1_waitForLaterEvents_135 : decode cX1_waitForLaterEvents 135 = .ok (.istore_n 1, 1) := by decide +kernel
theorem dX1_waitForLaterEvents_136 : decode cX1_waitForLaterEvents 136 = .ok (.iinc 4 1, 3) := by decide +kernel
theorem dX1_waitForLaterEvents_139 : decode cX1_waitForLaterEvents 139 = .ok (.goto (-107), 3) := by decide +kernel
theorem dX1_waitForLaterEvents_142 : decode cX1_waitForLaterEvents 142 = .ok (.iinc 3 1, 3) := by decide +kernel
theorem dX1_waitForLaterEvents_145 : decode cX1_waitForLaterEvents 145 = .ok (.goto (-127), 3) := by decide +kernel
theorem dX1_waitForLaterEvents_148 : decode cX1_waitForLaterEvents 148 = .ok (.iinc 2 1, 3) := by decide +kernel
theorem dX1_waitForLaterEvents_151 : decode cX1_waitForLaterEvents 151 = .ok (.goto (-147), 3) := by decide +kernel
theorem dX1_waitForLaterEvents_154 : decode cX1_waitForLaterEvents 154 = .ok (.return_, 1) := by decide +kernel
set_option maxRecDepth 20000 in
theorem ggX1_luckOver_X1_luckOf : GoodIn wsX1_luckOver wsX1_luckOf := goodIn_r _ [10, 2, 11, 12, 3, 4, 5, 13, 14, 15, 16, 17, 18, 19, 20, 21, 22, 23, 24, 25, 26, 27, 28, 29, 30, 31, 32, 33, 34, 35, 36, 37, 38, 39, 40, 41, 42] (by decide +kernel) (by decide +kernel)
set_option maxRecDepth 20000 in
theorem gX1_luckOver_X1_luckOf : GoodIn wsX1_luckOver (wsV RX1 209 RX1 yX1_luckOf wsX1_luckOf) := goodIn_app (goodIn_of _ (by decide +kernel)) ggX1_luckOver_X1_luckOf
theorem dX1_luckOver_0 : decode cX1_luckOver 0 = .ok (.aload_n 0, 1) := by decide +kernel
theorem dX1_luckOver_1 : decode cX1_luckOver 1 = .ok (.getfield 105, 3) := by decide +kernel
theorem dX1_luckOver_4 : decode cX1_luckOver 4 = .ok (.ifCond .ne 64, 3) := by decide +kernel
theorem dX1_luckOver_7 : decode cX1_luckOver 7 = .ok (.iconst 1, 1) := by decide +kernel
theorem dX1_luckOver_8 : decode cX1_luckOver 8 = .ok (.istore_n 2, 1) := by decide +kernel
theorem dX1_luckOver_9 : decode cX1_luckOver 9 = .ok (.iload_n 2, 1) := by decide +kernel
theorem dX1_luckOver_10 : decode cX1_luckOver 10 = .ok (.bipush 10, 2) := by decide +kernel
theorem dX1_luckOver_12 : decode cX1_luckOver 12 = .ok (.if_icmp .gt 51, 3) := by decide +kernel
theorem dX1_luckOver_15 : decode cX1_luckOver 15 = .ok (.iconst 0, 1) := by decide +kernel
theorem dX1_luckOver_16 : decode cX1_luckOver 16 = .ok (.istore_n 3, 1) := by decide +kernel
theorem dX1_luckOver_17 : decode cX1_luckOver 17 = .ok (.iload_n 3, 1) := by decide +kernel
theorem dX1_luckOver_18 : decode cX1_luckOver 18 = .ok (.aload_n 0, 1) := by decide +kernel
theorem dX1_luckOver_19 : decode cX1_luckOver 19 = .ok (.getfield 39, 3) := by decide +kernel
theorem dX1_luckOver_22 : decode cX1_luckOver 22 = .ok (.getfield 150, 3) := by decide +kernel
theorem dX1_luckOver_25 : decode cX1_luckOver 25 = .ok (.if_icmp .ge 32, 3) := by decide +kernel
theorem dX1_luckOver_28 : decode cX1_luckOver 28 = .ok (.aload_n 0, 1) := by decide +kernel
theorem dX1_luckOver_29 : decode cX1_luckOver 29 = .ok (.getfield 58, 3) := by decide +kernel
theorem dX1_luckOver_32 : decode cX1_luckOver 32 = .ok (.iload_n 2, 1) := by decide +kernel
theorem dX1_luckOver_33 : decode cX1_luckOver 33 = .ok (.aload_n 0, 1) := by decide +kernel
theorem dX1_luckOver_34 : decode cX1_luckOver 34 = .ok (.getfield 39, 3) := by decide +kernel
theorem dX1_luckOver_37 : decode cX1_luckOver 37 = .ok (.getfield 55, 3) := by decide +kernel
theorem dX1_luckOver_40 : decode cX1_luckOver 40 = .ok (.arraylength, 1) := by decide +kernel
theorem dX1_luckOver_41 : decode cX1_luckOver 41 = .ok (.imul, 1) := by decide +kernel
theorem dX1_luckOver_42 : decode cX1_luckOver 42 = .ok (.iload_n 3, 1) := by decide +kernel
theorem dX1_luckOver_43 : decode cX1_luckOver 43 = .ok (.iadd, 1) := by decide +kernel
theorem dX1_luckOver_44 : decode cX1_luckOver 44 = .ok (.aload_n 0, 1) := by decide +kernel
theorem dX1_luckOver_45 : decode cX1_luckOver 45 = .ok (.iload_n 3, 1) := by decide +kernel
theorem dX1_luckOver_46 : decode cX1_luckOver 46 = .ok (.iload_n 2, 1) := by decide +kernel
theorem dX1_luckOver_47 : decode cX1_luckOver 47 = .ok (.invokevirtual 209, 3) := by decide +kernel
theorem dX1_luckOver_50 : decode cX1_luckOver 50 = .ok (.lastore, 1) := by decide +kernel
theorem dX1_luckOver_51 : decode cX1_luckOver 51 = .ok (.iinc 3 1, 3) := by decide +kernel
theorem dX1_luckOver_54 : decode cX1_luckOver 54 = .ok (.goto (-37), 3) := by decide +kernel
theorem dX1_luckOver_57 : decode cX1_luckOver 57 = .ok (.iinc 2 1, 3) := by decide +kernel
theorem dX1_luckOver_60 : decode cX1_luckOver 60 = .ok (.goto (-51), 3) := by decide +kernel
theorem dX1_luckOver_63 : decode cX1_luckOver 63 = .ok (.aload_n 0, 1) := by decide +kernel
theorem dX1_luckOver_64 : decode cX1_luckOver 64 = .ok (.iconst 1, 1) := by decide +kernel
theorem dX1_luckOver_65 : decode cX1_luckOver 65 = .ok (.putfield 105, 3) := by decide +kernel
theorem dX1_luckOver_68 : decode cX1_luckOver 68 = .ok (.iload_n 1, 1) := by decide +kernel
theorem dX1_luckOver_69 : decode cX1_luckOver 69 = .ok (.iconst 1, 1) := by decide +kernel
theorem dX1_luckOver_70 : decode cX1_luckOver 70 = .ok (.if_icmp .lt 27, 3) := by decide +kernel
theorem dX1_luckOver_73 : decode cX1_luckOver 73 = .ok (.iload_n 1, 1) := by decide +kernel
theorem dX1_luckOver_74 : decode cX1_luckOver 74 = .ok (.bipush 10, 2) := by decide +kernel
theorem dX1_luckOver_76 : decode cX1_luckOver 76 = .ok (.if_icmp .gt 21, 3) := by decide +kernel
theorem dX1_luckOver_79 : decode cX1_luckOver 79 = .ok (.aload_n 0, 1) := by decide +kernel
theorem dX1_luckOver_80 : decode cX1_luckOver 80 = .ok (.getfield 58, 3) := by decide +kernel
theorem dX1_luckOver_83 : decode cX1_luckOver 83 = .ok (.iload_n 1, 1) := by decide +kernel
theorem dX1_luckOver_84 : decode cX1_luckOver 84 = .ok (.aload_n 0, 1) := by decide +kernel
theorem dX1_luckOver_85 : decode cX1_luckOver 85 = .ok (.getfield 39, 3) := by decide +kernel
theorem dX1_luckOver_88 : decode cX1_luckOver 88 = .ok (.getfield 55, 3) := by decide +kernel
theorem dX1_luckOver_91 : decode cX1_luckOver 91 = .ok (.arraylength, 1) := by decide +kernel
theorem dX1_luckOver_92 : decode cX1_luckOver 92 = .ok (.imul, 1) := by decide +kernel
theorem dX1_luckOver_93 : decode cX1_luckOver 93 = .ok (.laload, 1) := by decide +kernel
theorem dX1_luckOver_94 : decode cX1_luckOver 94 = .ok (.goto 4, 3) := by decide +kernel
theorem dX1_luckOver_97 : decode cX1_luckOver 97 = .ok (.lconst 0, 1) := by decide +kernel
theorem dX1_luckOver_98 : decode cX1_luckOver 98 = .ok (.lreturn, 1) := by decide +kernel
theorem dX1_luckOf_0 : decode cX1_luckOf 0 = .ok (.lconst 0, 1) := by decide +kernel
theorem dX1_luckOf_1 : decode cX1_luckOf 1 = .ok (.lstore_n 3, 1) := by decide +kernel
theorem dX1_luckOf_2 : decode cX1_luckOf 2 = .ok (.iconst 0, 1) := by decide +kernel
theorem dX1_luckOf_3 : decode cX1_luckOf 3 = .ok (.istore 5, 2) := by decide +kernel
theorem dX1_luckOf_5 : decode cX1_luckOf 5 = .ok (.iload 5, 2) := by decide +kernel
theorem dX1_luckOf_7 : decode cX1_luckOf 7 = .ok (.aload_n 0, 1) := by decide +kernel
theorem dX1_luckOf_8 : decode cX1_luckOf 8 = .ok (.getfield 39, 3) := by decide +kernel
theorem dX1_luckOf_11 : decode cX1_luckOf 11 = .ok (.getfield 156, 3) := by decide +kernel
theorem dX1_luckOf_14 : decode cX1_luckOf 14 = .ok (.if_icmp .ge 115, 3) := by decide +kernel
theorem dX1_luckOf_17 : decode cX1_luckOf 17 = .ok (.aload_n 0, 1) := by decide +kernel
theorem dX1_luckOf_18 : decode cX1_luckOf 18 = .ok (.getfield 39, 3) := by decide +kernel
theorem dX1_luckOf_21 : decode cX1_luckOf 21 = .ok (.getfield 159, 3) := by decide +kernel
theorem dX1_luckOf_24 : decode cX1_luckOf 24 = .ok (.iload_n 1, 1) := by decide +kernel
theorem dX1_luckOf_25 : decode cX1_luckOf 25 = .ok (.bipush 16, 2) := by decide +kernel
theorem dX1_luckOf_27 : decode cX1_luckOf 27 = .ok (.imul, 1) := by decide +kernel
theorem dX1_luckOf_28 : decode cX1_luckOf 28 = .ok (.iload 5, 2) := by decide +kernel
theorem dX1_luckOf_30 : decode cX1_luckOf 30 = .ok (.iadd, 1) := by decide +kernel
theorem dX1_luckOf_31 : decode cX1_luckOf 31 = .ok (.iaload, 1) := by decide +kernel
theorem dX1_luckOf_32 : decode cX1_luckOf 32 = .ok (.istore 6, 2) := by decide +kernel
theorem dX1_luckOf_34 : decode cX1_luckOf 34 = .ok (.iload 6, 2) := by decide +kernel
theorem dX1_luckOf_36 : decode cX1_luckOf 36 = .ok (.bipush 12, 2) := by decide +kernel
theorem dX1_luckOf_38 : decode cX1_luckOf 38 = .ok (.ishr, 1) := by decide +kernel
theorem dX1_luckOf_39 : decode cX1_luckOf 39 = .ok (.istore 7, 2) := by decide +kernel
theorem dX1_luckOf_41 : decode cX1_luckOf 41 = .ok (.iload 6, 2) := by decide +kernel
theorem dX1_luckOf_43 : decode cX1_luckOf 43 = .ok (.sipush 4095, 3) := by decide +kernel
theorem dX1_luckOf_46 : decode cX1_luckOf 46 = .ok (.iand, 1) := by decide +kernel
theorem dX1_luckOf_47 : decode cX1_luckOf 47 = .ok (.istore 8, 2) := by decide +kernel
theorem dX1_luckOf_49 : decode cX1_luckOf 49 = .ok (.iload 6, 2) := by decide +kernel
theorem dX1_luckOf_51 : decode cX1_luckOf 51 = .ok (.ifCond .eq 72, 3) := by decide +kernel
theorem dX1_luckOf_54 : decode cX1_luckOf 54 = .ok (.iload 7, 2) := by decide +kernel
theorem dX1_luckOf_56 : decode cX1_luckOf 56 = .ok (.iload_n 2, 1) := by decide +kernel
theorem dX1_luckOf_57 : decode cX1_luckOf 57 = .ok (.if_icmp .gt 66, 3) := by decide +kernel
theorem dX1_luckOf_60 : decode cX1_luckOf 60 = .ok (.iload 8, 2) := by decide +kernel
theorem dX1_luckOf_62 : decode cX1_luckOf 62 = .ok (.aload_n 0, 1) := by decide +kernel
theorem dX1_luckOf_63 : decode cX1_luckOf 63 = .ok (.getfield 39, 3) := by decide +kernel
theorem dX1_luckOf_66 : decode cX1_luckOf 66 = .ok (.getfield 150, 3) := by decide +kernel
theorem dX1_luckOf_69 : decode cX1_luckOf 69 = .ok (.if_icmp .ge 54, 3) := by decide +kernel
theorem dX1_luckOf_72 : decode cX1_luckOf 72 = .ok (.iload_n 2, 1) := by decide +kernel
theorem dX1_luckOf_73 : decode cX1_luckOf 73 = .ok (.iload 7, 2) := by decide +kernel
theorem dX1_luckOf_75 : decode cX1_luckOf 75 = .ok (.isub, 1) := by decide +kernel
theorem dX1_luckOf_76 : decode cX1_luckOf 76 = .ok (.istore 9, 2) := by decide +kernel
theorem dX1_luckOf_78 : decode cX1_luckOf 78 = .ok (.iload 9, 2) := by decide +kernel
theorem dX1_luckOf_80 : decode cX1_luckOf 80 = .ok (.ifCond .ne 7, 3) := by decide +kernel
theorem dX1_luckOf_83 : decode cX1_luckOf 83 = .ok (.lconst 1, 1) := by decide +kernel
theorem dX1_luckOf_84 : decode cX1_luckOf 84 = .ok (.goto 22, 3) := by decide +kernel
theorem dX1_luckOf_87 : decode cX1_luckOf 87 = .ok (.aload_n 0, 1) := by decide +kernel
theorem dX1_luckOf_88 : decode cX1_luckOf 88 = .ok (.getfield 58, 3) := by decide +kernel
theorem dX1_luckOf_91 : decode cX1_luckOf 91 = .ok (.iload 9, 2) := by decide +kernel
theorem dX1_luckOf_93 : decode cX1_luckOf 93 = .ok (.aload_n 0, 1) := by decide +kernel
theorem dX1_luckOf_94 : decode cX1_luckOf 94 = .ok (.getfield 39, 3) := by decide +kernel
theorem dX1_luckOf_97 : decode cX1_luckOf 97 = .ok (.getfield 55, 3) := by decide +kernel
theorem dX1_luckOf_100 : decode cX1_luckOf 100 = .ok (.arraylength, 1) := by decide +kernel
theorem dX1_luckOf_101 : decode cX1_luckOf 101 = .ok (.imul, 1) := by decide +kernel
theorem dX1_luckOf_102 : decode cX1_luckOf 102 = .ok (.iload 8, 2) := by decide +kernel
theorem dX1_luckOf_104 : decode cX1_luckOf 104 = .ok (.iadd, 1) := by decide +kernel
theorem dX1_luckOf_105 : decode cX1_luckOf 105 = .ok (.laload, 1) := by decide +kernel
theorem dX1_luckOf_106 : decode cX1_luckOf 106 = .ok (.lstore 10, 2) := by decide +kernel
theorem dX1_luckOf_108 : decode cX1_luckOf 108 = .ok (.lload_n 3, 1) := by decide +kernel
theorem dX1_luckOf_109 : decode cX1_luckOf 109 = .ok (.lload 10, 2) := by decide +kernel
theorem dX1_luckOf_111 : decode cX1_luckOf 111 = .ok (.aload_n 0, 1) := by decide +kernel
theorem dX1_luckOf_112 : decode cX1_luckOf 112 = .ok (.getfield 92, 3) := by decide +kernel
theorem dX1_luckOf_115 : decode cX1_luckOf 115 = .ok (.iload 7, 2) := by decide +kernel
theorem dX1_luckOf_117 : decode cX1_luckOf 117 = .ok (.iconst 1, 1) := by decide +kernel
theorem dX1_luckOf_118 : decode cX1_luckOf 118 = .ok (.isub, 1) := by decide +kernel
theorem dX1_luckOf_119 : decode cX1_luckOf 119 = .ok (.imul, 1) := by decide +kernel
theorem dX1_luckOf_120 : decode cX1_luckOf 120 = .ok (.lshl, 1) := by decide +kernel
theorem dX1_luckOf_121 : decode cX1_luckOf 121 = .ok (.ladd, 1) := by decide +kernel
theorem dX1_luckOf_122 : decode cX1_luckOf 122 = .ok (.lstore_n 3, 1) := by decide +kernel
theorem dX1_luckOf_123 : decode cX1_luckOf 123 = .ok (.iinc 5 1, 3) := by decide +kernel
theorem dX1_luckOf_126 : decode cX1_luckOf 126 = .ok (.goto (-121), 3) := by decide +kernel
theorem dX1_luckOf_129 : decode cX1_luckOf 129 = .ok (.lload_n 3, 1) := by decide +kernel
theorem dX1_luckOf_130 : decode cX1_luckOf 130 = .ok (.lreturn, 1) := by decide +kernel
set_option maxRecDepth 20000 in
theorem ggX2_init_X5_init : GoodIn wsX2_init wsX5_init := goodIn_r _ [17, 18, 2, 3] (by decide +kernel) (by decide +kernel)
set_option maxRecDepth 20000 in
theorem gX2_init_X5_init_n11 : GoodIn wsX2_init (wsX5_init) := ggX2_init_X5_init
theorem dX2_init_0 : decode cX2_init 0 = .ok (.aload_n 0, 1) := by decide +kernel
theorem dX2_init_1 : decode cX2_init 1 = .ok (.invokespecial 3, 3) := by decide +kernel
theorem dX2_init_4 : decode cX2_init 4 = .ok (.aload_n 0, 1) := by decide +kernel
theorem dX2_init_5 : decode cX2_init 5 = .ok (.new 9, 3) := by decide +kernel
theorem dX2_init_8 : decode cX2_init 8 = .ok (.dup, 1) := by decide +kernel
theorem dX2_init_9 : decode cX2_init 9 = .ok (.invokespecial 11, 3) := by decide +kernel
theorem dX2_init_12 : decode cX2_init 12 = .ok (.putfield 12, 3) := by decide +kernel
theorem dX2_init_15 : decode cX2_init 15 = .ok (.aload_n 0, 1) := by decide +kernel
theorem dX2_init_16 : decode cX2_init 16 = .ok (.iconst 4, 1) := by decide +kernel
theorem dX2_init_17 : decode cX2_init 17 = .ok (.newarray .int, 2) := by decide +kernel
theorem dX2_init_19 : decode cX2_init 19 = .ok (.putfield 18, 3) := by decide +kernel
theorem dX2_init_22 : decode cX2_init 22 = .ok (.aload_n 0, 1) := by decide +kernel
theorem dX2_init_23 : decode cX2_init 23 = .ok (.bipush 32, 2) := by decide +kernel
theorem dX2_init_25 : decode cX2_init 25 = .ok (.newarray .int, 2) := by decide +kernel
theorem dX2_init_27 : decode cX2_init 27 = .ok (.putfield 22, 3) := by decide +kernel
theorem dX2_init_30 : decode cX2_init 30 = .ok (.aload_n 0, 1) := by decide +kernel
theorem dX2_init_31 : decode cX2_init 31 = .ok (.sipush 1312, 3) := by decide +kernel
theorem dX2_init_34 : decode cX2_init 34 = .ok (.newarray .long, 2) := by decide +kernel
theorem dX2_init_36 : decode cX2_init 36 = .ok (.putfield 25, 3) := by decide +kernel
theorem dX2_init_39 : decode cX2_init 39 = .ok (.aload_n 0, 1) := by decide +kernel
theorem dX2_init_40 : decode cX2_init 40 = .ok (.iconst 4, 1) := by decide +kernel
theorem dX2_init_41 : decode cX2_init 41 = .ok (.newarray .int, 2) := by decide +kernel
theorem dX2_init_43 : decode cX2_init 43 = .ok (.putfield 29, 3) := by decide +kernel
theorem dX2_init_46 : decode cX2_init 46 = .ok (.aload_n 0, 1) := by decide +kernel
theorem dX2_init_47 : decode cX2_init 47 = .ok (.bipush 41, 2) := by decide +kernel
theorem dX2_init_49 : decode cX2_init 49 = .ok (.newarray .int, 2) := by decide +kernel
theorem dX2_init_51 : decode cX2_init 51 = .ok (.putfield 32, 3) := by decide +kernel
theorem dX2_init_54 : decode cX2_init 54 = .ok (.aload_n 0, 1) := by decide +kernel
theorem dX2_init_55 : decode cX2_init 55 = .ok (.iconst 4, 1) := by decide +kernel
theorem dX2_init_56 : decode cX2_init 56 = .ok (.newarray .long, 2) := by decide +kernel
theorem dX2_init_58 : decode cX2_init 58 = .ok (.putfield 35, 3) := by decide +kernel
theorem dX2_init_61 : decode cX2_init 61 = .ok (.return_, 1) := by decide +kernel
set_option maxRecDepth 20000 in
theorem ggX2_survey_J7_fill_53178 : GoodIn wsX2_survey wsJ7_fill_53178 := goodIn_r _ [15] (by decide +kernel) (by decide +kernel)
set_option maxRecDepth 20000 in
theorem gX2_survey_J7_fill_53178 : GoodIn wsX2_survey (va_wsS RX2 52 yJ7_fill_53178 wsJ7_fill_53178) := goodIn_app (goodIn_of _ (by decide +kernel)) ggX2_survey_J7_fill_53178
set_option maxRecDepth 20000 in
theorem ggX2_survey_J7_fill_d0a16 : GoodIn wsX2_survey wsJ7_fill_d0a16 := goodIn_r _ [18] (by decide +kernel) (by decide +kernel)
set_option maxRecDepth 20000 in
theorem gX2_survey_J7_fill_d0a16 : GoodIn wsX2_survey (va_wsS RX2 60 yJ7_fill_d0a16 wsJ7_fill_d0a16) := goodIn_app (goodIn_of _ (by decide +kernel)) ggX2_survey_J7_fill_d0a16
set_option maxRecDepth 20000 in
theorem ggX2_survey_X2_readFacts : GoodIn wsX2_survey wsX2_readFacts := goodIn_r _ [23, 24, 25, 9, 10, 26, 11, 1, 16, 17, 14, 18, 99, 100, 101, 102, 103, 104, 105, 106, 107, 108, 109, 110, 111, 112, 113, 114, 115, 116] (by decide +kernel) (by decide +kernel)
set_option maxRecDepth 20000 in
theorem gX2_survey_X2_readFacts : GoodIn wsX2_survey (wsV RX2 63 RX2 yX2_readFacts wsX2_readFacts) := goodIn_app (goodIn_of _ (by decide +kernel)) ggX2_survey_X2_readFacts
set_option maxRecDepth 20000 in
theorem ggX2_survey_X2_findStops : GoodIn wsX2_survey wsX2_findStops := goodIn_r _ [30, 1, 10, 11, 31, 32, 33, 34, 35, 36, 37, 38, 22, 39, 2, 26, 40, 41, 42, 43, 44, 45, 46, 47, 48, 49, 50, 51, 52, 53, 54, 55, 56, 57, 58, 59, 60, 61, 62, 63, 64, 65, 99, 100, 101, 102, 103, 104, 105, 106, 107, 108, 109, 110, 111, 112, 113, 114, 115, 116, 117, 118, 119, 120] (by decide +kernel) (by decide +kernel)
set_option maxRecDepth 20000 in
theorem gX2_survey_X2_findStops : GoodIn wsX2_survey (wsV RX2 67 RX2 yX2_findStops wsX2_findStops) := goodIn_app (goodIn_of _ (by decide +kernel)) ggX2_survey_X2_findStops
set_option maxRecDepth 20000 in
theorem ggX2_survey_X2_layOut : GoodIn wsX2_survey wsX2_layOut := goodIn_r _ [69, 1, 10, 11, 70, 71, 34, 72, 73, 99, 100, 101, 102, 103, 104, 105, 106, 107, 108, 109, 110, 111, 112, 113, 114, 115, 116] (by decide +kernel) (by decide +kernel)
set_option maxRecDepth 20000 in
theorem gX2_survey_X2_layOut : GoodIn wsX2_survey (wsV RX2 82 RX2 yX2_layOut wsX2_layOut) := goodIn_app (goodIn_of _ (by decide +kernel)) ggX2_survey_X2_layOut
set_option maxRecDepth 20000 in
theorem ggX2_survey_X2_fitsNow : GoodIn wsX2_survey wsX2_fitsNow := goodIn_r _ [77, 1, 10, 31, 73, 32, 33, 34, 35, 78, 24, 25, 79, 80, 81, 22, 82, 7, 8, 83, 84, 85, 86, 44, 11, 2, 26, 45, 46, 47, 48, 49, 50, 51, 52, 53, 87, 88, 89, 90, 54, 55, 56, 57, 62, 63, 64, 65, 99, 100, 101, 102, 103, 104, 105, 106, 107, 108, 109, 110, 111, 112, 113, 114, 115, 116, 117, 118, 119, 120] (by decide +kernel) (by decide +kernel)
set_option maxRecDepth 20000 in
theorem gX2_survey_X2_fitsNow : GoodIn wsX2_survey (wsV RX2 86 RX2 yX2_fitsNow wsX2_fitsNow) := goodIn_app (goodIn_of _ (by decide +kernel)) ggX2_survey_X2_fitsNow
set_option maxRecDepth 20000 in
theorem ggX2_survey_X2_rowNumber : GoodIn wsX2_survey wsX2_rowNumber := goodIn_r _ [94, 1, 10, 73, 99, 100, 101, 102, 103, 104, 105, 106, 107, 108, 109, 110, 111, 112, 113, 114, 115, 116] (by decide +kernel) (by decide +kernel)
set_option maxRecDepth 20000 in
theorem gX2_survey_X2_rowNumber : GoodIn wsX2_survey (wsV RX2 90 RX2 yX2_rowNumber wsX2_rowNumber) := goodIn_app (goodIn_of _ (by decide +kernel)) ggX2_survey_X2_rowNumber
set_option maxRecDepth 20000 in
theorem ggX2_survey_X2_noteFitting : GoodIn wsX2_survey wsX2_noteFitting := goodIn_r _ [98, 3, 1, 10, 5, 73, 6, 78, 99, 100, 101, 102, 103, 104, 105, 106, 107, 108, 109, 110, 111, 112, 113, 114, 115, 116] (by decide +kernel) (by decide +kernel)
set_option maxRecDepth 20000 in
theorem gX2_survey_X2_noteFitting : GoodIn wsX2_survey (wsV RX2 94 RX2 yX2_noteFitting wsX2_noteFitting) := goodIn_app (goodIn_of _ (by decide +kernel)) ggX2_survey_X2_noteFitting
theorem dX2_survey_0 : decode cX2_survey 0 = .ok (.aload_n 0, 1) := by decide +kernel
theorem dX2_survey_1 : decode cX2_survey 1 = .ok (.aload_n 1, 1) := by decide +kernel
theorem dX2_survey_2 : decode cX2_survey 2 = .ok (.putfield 38, 3) := by decide +kernel
theorem dX2_survey_5 : decode cX2_survey 5 = .ok (.aload_n 0, 1) := by decide +kernel
theorem dX2_survey_6 : decode cX2_survey 6 = .ok (.aload_n 2, 1) := by decide +kernel
theorem dX2_survey_7 : decode cX2_survey 7 = .ok (.putfield 42, 3) := by decide +kernel
theorem dX2_survey_10 : decode cX2_survey 10 = .ok (.aload_n 0, 1) := by decide +kernel
theorem dX2_survey_11 : decode cX2_survey 11 = .ok (.iconst 0, 1) := by decide +kernel
theorem dX2_survey_12 : decode cX2_survey 12 = .ok (.putfield 45, 3) := by decide +kernel
theorem dX2_survey_15 : decode cX2_survey 15 = .ok (.aload_n 0, 1) := by decide +kernel
theorem dX2_survey_16 : decode cX2_survey 16 = .ok (.bipush (-2), 2) := by decide +kernel
theorem dX2_survey_18 : decode cX2_survey 18 = .ok (.putfield 49, 3) := by decide +kernel
theorem dX2_survey_21 : decode cX2_survey 21 = .ok (.aload_n 0, 1) := by decide +kernel
theorem dX2_survey_22 : decode cX2_survey 22 = .ok (.getfield 29, 3) := by decide +kernel
theorem dX2_survey_25 : decode cX2_survey 25 = .ok (.iconst 0, 1) := by decide +kernel
theorem dX2_survey_26 : decode cX2_survey 26 = .ok (.invokestatic 52, 3) := by decide +kernel
theorem dX2_survey_29 : decode cX2_survey 29 = .ok (.aload_n 0, 1) := by decide +kernel
theorem dX2_survey_30 : decode cX2_survey 30 = .ok (.getfield 32, 3) := by decide +kernel
theorem dX2_survey_33 : decode cX2_survey 33 = .ok (.iconst 0, 1) := by decide +kernel
theorem dX2_survey_34 : decode cX2_survey 34 = .ok (.invokestatic 52, 3) := by decide +kernel
theorem dX2_survey_37 : decode cX2_survey 37 = .ok (.aload_n 0, 1) := by decide +kernel
theorem dX2_survey_38 : decode cX2_survey 38 = .ok (.getfield 25, 3) := by decide +kernel
theorem dX2_survey_41 : decode cX2_survey 41 = .ok (.ldc2_w 58, 3) := by decide +kernel
theorem dX2_survey_44 : decode cX2_survey 44 = .ok (.invokestatic 60, 3) := by decide +kernel
theorem dX2_survey_47 : decode cX2_survey 47 = .ok (.aload_n 0, 1) := by decide +kernel
theorem dX2_survey_48 : decode cX2_survey 48 = .ok (.aload_n 3, 1) := by decide +kernel
theorem dX2_survey_49 : decode cX2_survey 49 = .ok (.invokevirtual 63, 3) := by decide +kernel
theorem dX2_survey_52 : decode cX2_survey 52 = .ok (.aload_n 0, 1) := by decide +kernel
theorem dX2_survey_53 : decode cX2_survey 53 = .ok (.invokevirtual 67, 3) := by decide +kernel
theorem dX2_survey_56 : decode cX2_survey 56 = .ok (.aload_n 0, 1) := by decide +kernel
theorem dX2_survey_57 : decode cX2_survey 57 = .ok (.getfield 70, 3) := by decide +kernel
theorem dX2_survey_60 : decode cX2_survey 60 = .ok (.ifCond .eq 7, 3) := by decide +kernel
theorem dX2_survey_63 : decode cX2_survey 63 = .ok (.iconst 0, 1) := by decide +kernel
theorem dX2_survey_64 : decode cX2_survey 64 = .ok (.goto 4, 3) := by decide +kernel
theorem dX2_survey_67 : decode cX2_survey 67 = .ok (.iconst 1, 1) := by decide +kernel
theorem dX2_survey_68 : decode cX2_survey 68 = .ok (.istore 5, 2) := by decide +kernel
theorem dX2_survey_70 : decode cX2_survey 70 = .ok (.iconst 0, 1) := by decide +kernel
theorem dX2_survey_71 : decode cX2_survey 71 = .ok (.istore 6, 2) := by decide +kernel
theorem dX2_survey_73 : decode cX2_survey 73 = .ok (.iload 6, 2) := by decide +kernel
theorem dX2_survey_75 : decode cX2_survey 75 = .ok (.aload_n 1, 1) := by decide +kernel
theorem dX2_survey_76 : decode cX2_survey 76 = .ok (.getfield 74, 3) := by decide +kernel
theorem dX2_survey_79 : decode cX2_survey 79 = .ok (.if_icmp .ge 23, 3) := by decide +kernel
theorem dX2_survey_82 : decode cX2_survey 82 = .ok (.iload 5, 2) := by decide +kernel
theorem dX2_survey_84 : decode cX2_survey 84 = .ok (.aload_n 1, 1) := by decide +kernel
theorem dX2_survey_85 : decode cX2_survey 85 = .ok (.getfield 79, 3) := by decide +kernel
theorem dX2_survey_88 : decode cX2_survey 88 = .ok (.iload 6, 2) := by decide +kernel
theorem dX2_survey_90 : decode cX2_survey 90 = .ok (.iaload, 1) := by decide +kernel
theorem dX2_survey_91 : decode cX2_survey 91 = .ok (.iconst 1, 1) := by decide +kernel
theorem dX2_survey_92 : decode cX2_survey 92 = .ok (.iadd, 1) := by decide +kernel
theorem dX2_survey_93 : decode cX2_survey 93 = .ok (.imul, 1) := by decide +kernel
theorem dX2_survey_94 : decode cX2_survey 94 = .ok (.istore 5, 2) := by decide +kernel
theorem dX2_survey_96 : decode cX2_survey 96 = .ok (.iinc 6 1, 3) := by decide +kernel
theorem dX2_survey_99 : decode cX2_survey 99 = .ok (.goto (-26), 3) := by decide +kernel
theorem dX2_survey_102 : decode cX2_survey 102 = .ok (.iconst 0, 1) := by decide +kernel
theorem dX2_survey_103 : decode cX2_survey 103 = .ok (.istore 6, 2) := by decide +kernel
theorem dX2_survey_105 : decode cX2_survey 105 = .ok (.iload 6, 2) := by decide +kernel
theorem dX2_survey_107 : decode cX2_survey 107 = .ok (.iload 5, 2) := by decide +kernel
theorem dX2_survey_109 : decode cX2_survey 109 = .ok (.if_icmp .ge 43, 3) := by decide +kernel
theorem dX2_survey_112 : decode cX2_survey 112 = .ok (.aload_n 0, 1) := by decide +kernel
theorem dX2_survey_113 : decode cX2_survey 113 = .ok (.iload 6, 2) := by decide +kernel
theorem dX2_survey_115 : decode cX2_survey 115 = .ok (.invokevirtual 82, 3) := by decide +kernel
theorem dX2_survey_118 : decode cX2_survey 118 = .ok (.aload_n 0, 1) := by decide +kernel
theorem dX2_survey_119 : decode cX2_survey 119 = .ok (.invokevirtual 86, 3) := by decide +kernel
theorem dX2_survey_122 : decode cX2_survey 122 = .ok (.ifCond .eq 24, 3) := by decide +kernel
theorem dX2_survey_125 : decode cX2_survey 125 = .ok (.aload_n 0, 1) := by decide +kernel
theorem dX2_survey_126 : decode cX2_survey 126 = .ok (.getfield 45, 3) := by decide +kernel
theorem dX2_survey_129 : decode cX2_survey 129 = .ok (.iload 4, 2) := by decide +kernel
theorem dX2_survey_131 : decode cX2_survey 131 = .ok (.if_icmp .ne 11, 3) := by decide +kernel
theorem dX2_survey_134 : decode cX2_survey 134 = .ok (.aload_n 0, 1) := by decide +kernel
theorem dX2_survey_135 : decode cX2_survey 135 = .ok (.aload_n 0, 1) := by decide +kernel
theorem dX2_survey_136 : decode cX2_survey 136 = .ok (.invokevirtual 90, 3) := by decide +kernel
theorem dX2_survey_139 : decode cX2_survey 139 = .ok (.putfield 49, 3) := by decide +kernel
theorem dX2_survey_142 : decode cX2_survey 142 = .ok (.aload_n 0, 1) := by decide +kernel
theorem dX2_survey_143 : decode cX2_survey 143 = .ok (.invokevirtual 94, 3) := by decide +kernel
theorem dX2_survey_146 : decode cX2_survey 146 = .ok (.iinc 6 1, 3) := by decide +kernel
theorem dX2_survey_149 : decode cX2_survey 149 = .ok (.goto (-44), 3) := by decide +kernel
theorem dX2_survey_152 : decode cX2_survey 152 = .ok (.return_, 1) := by decide +kernel
set_option maxRecDepth 20000 in
theorem ggX2_readFacts_J7_fill_d0a16 : GoodIn wsX2_readFacts wsJ7_fill_d0a16 := goodIn_r _ [11] (by decide +kernel) (by decide +kernel)
set_option maxRecDepth 20000 in
theorem gX2_readFacts_J7_fill_d0a16 : GoodIn wsX2_readFacts (va_wsS RX2 60 yJ7_fill_d0a16 wsJ7_fill_d0a16) := goodIn_app (goodIn_of _ (by decide +kernel)) ggX2_readFacts_J7_fill_d0a16
theorem dX2_readFacts_0 : decode cX2_readFacts 0 = .ok (.aload_n 0, 1) := by decide +kernel
theorem dX2_readFacts_1 : decode cX2_readFacts 1 = .ok (.getfield 35, 3) := by decide +kernel
theorem dX2_readFacts_4 : decode cX2_readFacts 4 = .ok (.lconst 0, 1) := by decide +kernel
theorem dX2_readFacts_5 : decode cX2_readFacts 5 = .ok (.invokestatic 60, 3) := by decide +kernel
theorem dX2_readFacts_8 : decode cX2_readFacts 8 = .ok (.aload_n 0, 1) := by decide +kernel
theorem dX2_readFacts_9 : decode cX2_readFacts 9 = .ok (.lconst 0, 1) := by decide +kernel
theorem dX2_readFacts_10 : decode cX2_readFacts 10 = .ok (.putfield 97, 3) := by decide +kernel
theorem dX2_readFacts_13 : decode cX2_readFacts 13 = .ok (.aload_n 0, 1) := by decide +kernel
theorem dX2_readFacts_14 : decode cX2_readFacts 14 = .ok (.iconst 0, 1) := by decide +kernel
theorem dX2_readFacts_15 : decode cX2_readFacts 15 = .ok (.putfield 70, 3) := by decide +kernel
theorem dX2_readFacts_18 : decode cX2_readFacts 18 = .ok (.iconst 0, 1) := by decide +kernel
theorem dX2_readFacts_19 : decode cX2_readFacts 19 = .ok (.istore_n 2, 1) := by decide +kernel
theorem dX2_readFacts_20 : decode cX2_readFacts 20 = .ok (.iload_n 2, 1) := by decide +kernel
theorem dX2_readFacts_21 : decode cX2_readFacts 21 = .ok (.aload_n 1, 1) := by decide +kernel
theorem dX2_readFacts_22 : decode cX2_readFacts 22 = .ok (.getfield 74, 3) := by decide +kernel
theorem dX2_readFacts_25 : decode cX2_readFacts 25 = .ok (.if_icmp .ge 79, 3) := by decide +kernel
theorem dX2_readFacts_28 : decode cX2_readFacts 28 = .ok (.aload_n 1, 1) := by decide +kernel
theorem dX2_readFacts_29 : decode cX2_readFacts 29 = .ok (.getfield 101, 3) := by decide +kernel
theorem dX2_readFacts_32 : decode cX2_readFacts 32 = .ok (.iload_n 2, 1) := by decide +kernel
theorem dX2_readFacts_33 : decode cX2_readFacts 33 = .ok (.iaload, 1) := by decide +kernel
theorem dX2_readFacts_34 : decode cX2_readFacts 34 = .ok (.istore_n 3, 1) := by decide +kernel
theorem dX2_readFacts_35 : decode cX2_readFacts 35 = .ok (.lconst 1, 1) := by decide +kernel
theorem dX2_readFacts_36 : decode cX2_readFacts 36 = .ok (.aload_n 1, 1) := by decide +kernel
theorem dX2_readFacts_37 : decode cX2_readFacts 37 = .ok (.getfield 79, 3) := by decide +kernel
theorem dX2_readFacts_40 : decode cX2_readFacts 40 = .ok (.iload_n 2, 1) := by decide +kernel
theorem dX2_readFacts_41 : decode cX2_readFacts 41 = .ok (.iaload, 1) := by decide +kernel
theorem dX2_readFacts_42 : decode cX2_readFacts 42 = .ok (.lshl, 1) := by decide +kernel
theorem dX2_readFacts_43 : decode cX2_readFacts 43 = .ok (.lstore 4, 2) := by decide +kernel
theorem dX2_readFacts_45 : decode cX2_readFacts 45 = .ok (.iload_n 3, 1) := by decide +kernel
theorem dX2_readFacts_46 : decode cX2_readFacts 46 = .ok (.iconst (-1), 1) := by decide +kernel
theorem dX2_readFacts_47 : decode cX2_readFacts 47 = .ok (.if_icmp .ne 17, 3) := by decide +kernel
theorem dX2_readFacts_50 : decode cX2_readFacts 50 = .ok (.aload_n 0, 1) := by decide +kernel
theorem dX2_readFacts_51 : decode cX2_readFacts 51 = .ok (.dup, 1) := by decide +kernel
theorem dX2_readFacts_52 : decode cX2_readFacts 52 = .ok (.getfield 97, 3) := by decide +kernel
theorem dX2_readFacts_55 : decode cX2_readFacts 55 = .ok (.lload 4, 2) := by decide +kernel
theorem dX2_readFacts_57 : decode cX2_readFacts 57 = .ok (.lor, 1) := by decide +kernel
theorem dX2_readFacts_58 : decode cX2_readFacts 58 = .ok (.putfield 97, 3) := by decide +kernel
theorem dX2_readFacts_61 : decode cX2_readFacts 61 = .ok (.goto 37, 3) := by decide +kernel
theorem dX2_readFacts_64 : decode cX2_readFacts 64 = .ok (.iload_n 3, 1) := by decide +kernel
theorem dX2_readFacts_65 : decode cX2_readFacts 65 = .ok (.ifCond .lt 28, 3) := by decide +kernel
theorem dX2_readFacts_68 : decode cX2_readFacts 68 = .ok (.iload_n 3, 1) := by decide +kernel
theorem dX2_readFacts_69 : decode cX2_readFacts 69 = .ok (.aload_n 0, 1) := by decide +kernel
theorem dX2_readFacts_70 : decode cX2_readFacts 70 = .ok (.getfield 38, 3) := by decide +kernel
theorem dX2_readFacts_73 : decode cX2_readFacts 73 = .ok (.getfield 74, 3) := by decide +kernel
theorem dX2_readFacts_76 : decode cX2_readFacts 76 = .ok (.if_icmp .ge 17, 3) := by decide +kernel
theorem dX2_readFacts_79 : decode cX2_readFacts 79 = .ok (.aload_n 0, 1) := by decide +kernel
theorem dX2_readFacts_80 : decode cX2_readFacts 80 = .ok (.getfield 35, 3) := by decide +kernel
theorem dX2_readFacts_83 : decode cX2_readFacts 83 = .ok (.iload_n 3, 1) := by decide +kernel
theorem dX2_readFacts_84 : decode cX2_readFacts 84 = .ok (.dup2, 1) := by decide +kernel
theorem dX2_readFacts_85 : decode cX2_readFacts 85 = .ok (.laload, 1) := by decide +kernel
theorem dX2_readFacts_86 : decode cX2_readFacts 86 = .ok (.lload 4, 2) := by decide +kernel
theorem dX2_readFacts_88 : decode cX2_readFacts 88 = .ok (.lor, 1) := by decide +kernel
theorem dX2_readFacts_89 : decode cX2_readFacts 89 = .ok (.lastore, 1) := by decide +kernel
theorem dX2_readFacts_90 : decode cX2_readFacts 90 = .ok (.goto 8, 3) := by decide +kernel
theorem dX2_readFacts_93 : decode cX2_readFacts 93 = .ok (.aload_n 0, 1) := by decide +kernel
theorem dX2_readFacts_94 : decode cX2_readFacts 94 = .ok (.iconst 1, 1) := by decide +kernel
theorem dX2_readFacts_95 : decode cX2_readFacts 95 = .ok (.putfield 70, 3) := by decide +kernel
theorem dX2_readFacts_98 : decode cX2_readFacts 98 = .ok (.iinc 2 1, 3) := by decide +kernel
theorem dX2_readFacts_101 : decode cX2_readFacts 101 = .ok (.goto (-81), 3) := by decide +kernel
theorem dX2_readFacts_104 : decode cX2_readFacts 104 = .ok (.return_, 1) := by decide +kernel
set_option maxRecDepth 20000 in
theorem ggX2_findStops_X2_sharedStop : GoodIn wsX2_findStops wsX2_sharedStop := goodIn_r _ [13, 14, 2, 3, 15, 1, 42, 43, 44, 45, 46, 47, 48, 49, 50, 51, 52, 53, 54, 55, 56, 57, 58, 59] (by decide +kernel) (by decide +kernel)
set_option maxRecDepth 20000 in
theorem gX2_findStops_X2_sharedStop : GoodIn wsX2_findStops (wsV RX2 104 RX2 yX2_sharedStop wsX2_sharedStop) := goodIn_app (goodIn_of _ (by decide +kernel)) ggX2_findStops_X2_sharedStop
set_option maxRecDepth 20000 in
theorem ggX2_findStops_X2_ownStop : GoodIn wsX2_findStops wsX2_ownStop := goodIn_r _ [19, 20, 1, 3, 14, 2, 15, 21, 22, 23, 24, 25, 26, 27, 28, 29, 30, 31, 32, 33, 34, 35, 36, 37, 38, 39, 40, 41, 42, 43, 44, 45, 46, 47, 48, 49, 50, 51, 52, 53, 54, 55, 56, 57, 58, 59, 60, 61, 62, 63] (by decide +kernel) (by decide +kernel)
set_option maxRecDepth 20000 in
theorem gX2_findStops_X2_ownStop : GoodIn wsX2_findStops (wsV RX2 107 RX2 yX2_ownStop wsX2_ownStop) := goodIn_app (goodIn_of _ (by decide +kernel)) ggX2_findStops_X2_ownStop
theorem dX2_findStops_0 : decode cX2_findStops 0 = .ok (.aload_n 0, 1) := by decide +kernel
theorem dX2_findStops_1 : decode cX2_findStops 1 = .ok (.invokevirtual 104, 3) := by decide +kernel
theorem dX2_findStops_4 : decode cX2_findStops 4 = .ok (.istore_n 1, 1) := by decide +kernel
theorem dX2_findStops_5 : decode cX2_findStops 5 = .ok (.iconst 0, 1) := by decide +kernel
theorem dX2_findStops_6 : decode cX2_findStops 6 = .ok (.istore_n 2, 1) := by decide +kernel
theorem dX2_findStops_7 : decode cX2_findStops 7 = .ok (.iload_n 2, 1) := by decide +kernel
theorem dX2_findStops_8 : decode cX2_findStops 8 = .ok (.aload_n 0, 1) := by decide +kernel
theorem dX2_findStops_9 : decode cX2_findStops 9 = .ok (.getfield 38, 3) := by decide +kernel
theorem dX2_findStops_12 : decode cX2_findStops 12 = .ok (.getfield 74, 3) := by decide +kernel
theorem dX2_findStops_15 : decode cX2_findStops 15 = .ok (.if_icmp .ge 57, 3) := by decide +kernel
theorem dX2_findStops_18 : decode cX2_findStops 18 = .ok (.iconst 0, 1) := by decide +kernel
theorem dX2_findStops_19 : decode cX2_findStops 19 = .ok (.istore_n 3, 1) := by decide +kernel
theorem dX2_findStops_20 : decode cX2_findStops 20 = .ok (.iload_n 3, 1) := by decide +kernel
theorem dX2_findStops_21 : decode cX2_findStops 21 = .ok (.aload_n 0, 1) := by decide +kernel
theorem dX2_findStops_22 : decode cX2_findStops 22 = .ok (.getfield 38, 3) := by decide +kernel
theorem dX2_findStops_25 : decode cX2_findStops 25 = .ok (.getfield 79, 3) := by decide +kernel
theorem dX2_findStops_28 : decode cX2_findStops 28 = .ok (.iload_n 2, 1) := by decide +kernel
theorem dX2_findStops_29 : decode cX2_findStops 29 = .ok (.iaload, 1) := by decide +kernel
theorem dX2_findStops_30 : decode cX2_findStops 30 = .ok (.if_icmp .gt 36, 3) := by decide +kernel
theorem dX2_findStops_33 : decode cX2_findStops 33 = .ok (.iload_n 3, 1) := by decide +kernel
theorem dX2_findStops_34 : decode cX2_findStops 34 = .ok (.bipush 8, 2) := by decide +kernel
theorem dX2_findStops_36 : decode cX2_findStops 36 = .ok (.if_icmp .ge 30, 3) := by decide +kernel
theorem dX2_findStops_39 : decode cX2_findStops 39 = .ok (.aload_n 0, 1) := by decide +kernel
theorem dX2_findStops_40 : decode cX2_findStops 40 = .ok (.getfield 22, 3) := by decide +kernel
theorem dX2_findStops_43 : decode cX2_findStops 43 = .ok (.iload_n 2, 1) := by decide +kernel
theorem dX2_findStops_44 : decode cX2_findStops 44 = .ok (.bipush 8, 2) := by decide +kernel
theorem dX2_findStops_46 : decode cX2_findStops 46 = .ok (.imul, 1) := by decide +kernel
theorem dX2_findStops_47 : decode cX2_findStops 47 = .ok (.iload_n 3, 1) := by decide +kernel
theorem dX2_findStops_48 : decode cX2_findStops 48 = .ok (.iadd, 1) := by decide +kernel
theorem dX2_findStops_49 : decode cX2_findStops 49 = .ok (.iload_n 1, 1) := by decide +kernel
theorem dX2_findStops_50 : decode cX2_findStops 50 = .ok (.aload_n 0, 1) := by decide +kernel
theorem dX2_findStops_51 : decode cX2_findStops 51 = .ok (.iload_n 2, 1) := by decide +kernel
theorem dX2_findStops_52 : decode cX2_findStops 52 = .ok (.iload_n 3, 1) := by decide +kernel
theorem dX2_findStops_53 : decode cX2_findStops 53 = .ok (.invokevirtual 107, 3) := by decide +kernel
theorem dX2_findStops_56 : decode cX2_findStops 56 = .ok (.invokestatic 111, 3) := by decide +kernel
theorem dX2_findStops_59 : decode cX2_findStops 59 = .ok (.iastore, 1) := by decide +kernel
theorem dX2_findStops_60 : decode cX2_findStops 60 = .ok (.iinc 3 1, 3) := by decide +kernel
theorem dX2_findStops_63 : decode cX2_findStops 63 = .ok (.goto (-43), 3) := by decide +kernel
theorem dX2_findStops_66 : decode cX2_findStops 66 = .ok (.iinc 2 1, 3) := by decide +kernel
theorem dX2_findStops_69 : decode cX2_findStops 69 = .ok (.goto (-62), 3) := by decide +kernel
theorem dX2_findStops_72 : decode cX2_findStops 72 = .ok (.return_, 1) := by decide +kernel
theorem dX2_sharedStop_0 : decode cX2_sharedStop 0 = .ok (.iconst 0, 1) := by decide +kernel
theorem dX2_sharedStop_1 : decode cX2_sharedStop 1 = .ok (.istore_n 1, 1) := by decide +kernel
theorem dX2_sharedStop_2 : decode cX2_sharedStop 2 = .ok (.iconst 0, 1) := by decide +kernel
theorem dX2_sharedStop_3 : decode cX2_sharedStop 3 = .ok (.istore_n 2, 1) := by decide +kernel
theorem dX2_sharedStop_4 : decode cX2_sharedStop 4 = .ok (.iload_n 2, 1) := by decide +kernel
theorem dX2_sharedStop_5 : decode cX2_sharedStop 5 = .ok (.aload_n 0, 1) := by decide +kernel
theorem dX2_sharedStop_6 : decode cX2_sharedStop 6 = .ok (.getfield 42, 3) := by decide +kernel
theorem dX2_sharedStop_9 : decode cX2_sharedStop 9 = .ok (.getfield 74, 3) := by decide +kernel
theorem dX2_sharedStop_12 : decode cX2_sharedStop 12 = .ok (.if_icmp .ge 62, 3) := by decide +kernel
theorem dX2_sharedStop_15 : decode cX2_sharedStop 15 = .ok (.aload_n 0, 1) := by decide +kernel
theorem dX2_sharedStop_16 : decode cX2_sharedStop 16 = .ok (.getfield 42, 3) := by decide +kernel
theorem dX2_sharedStop_19 : decode cX2_sharedStop 19 = .ok (.getfield 79, 3) := by decide +kernel
theorem dX2_sharedStop_22 : decode cX2_sharedStop 22 = .ok (.iload_n 2, 1) := by decide +kernel
theorem dX2_sharedStop_23 : decode cX2_sharedStop 23 = .ok (.iaload, 1) := by decide +kernel
theorem dX2_sharedStop_24 : decode cX2_sharedStop 24 = .ok (.ifCond .ne 23, 3) := by decide +kernel
theorem dX2_sharedStop_27 : decode cX2_sharedStop 27 = .ok (.iload_n 1, 1) := by decide +kernel
theorem dX2_sharedStop_28 : decode cX2_sharedStop 28 = .ok (.aload_n 0, 1) := by decide +kernel
theorem dX2_sharedStop_29 : decode cX2_sharedStop 29 = .ok (.getfield 42, 3) := by decide +kernel
theorem dX2_sharedStop_32 : decode cX2_sharedStop 32 = .ok (.getfield 101, 3) := by decide +kernel
theorem dX2_sharedStop_35 : decode cX2_sharedStop 35 = .ok (.iload_n 2, 1) := by decide +kernel
theorem dX2_sharedStop_36 : decode cX2_sharedStop 36 = .ok (.iaload, 1) := by decide +kernel
theorem dX2_sharedStop_37 : decode cX2_sharedStop 37 = .ok (.iadd, 1) := by decide +kernel
theorem dX2_sharedStop_38 : decode cX2_sharedStop 38 = .ok (.istore_n 1, 1) := by decide +kernel
theorem dX2_sharedStop_39 : decode cX2_sharedStop 39 = .ok (.iload_n 1, 1) := by decide +kernel
theorem dX2_sharedStop_40 : decode cX2_sharedStop 40 = .ok (.bipush 99, 2) := by decide +kernel
theorem dX2_sharedStop_42 : decode cX2_sharedStop 42 = .ok (.if_icmp .le 26, 3) := by decide +kernel
theorem dX2_sharedStop_45 : decode cX2_sharedStop 45 = .ok (.iload_n 2, 1) := by decide +kernel
theorem dX2_sharedStop_46 : decode cX2_sharedStop 46 = .ok (.ireturn, 1) := by decide +kernel
theorem dX2_sharedStop_47 : decode cX2_sharedStop 47 = .ok (.aload_n 0, 1) := by decide +kernel
theorem dX2_sharedStop_48 : decode cX2_sharedStop 48 = .ok (.getfield 42, 3) := by decide +kernel
theorem dX2_sharedStop_51 : decode cX2_sharedStop 51 = .ok (.getfield 101, 3) := by decide +kernel
theorem dX2_sharedStop_54 : decode cX2_sharedStop 54 = .ok (.iload_n 2, 1) := by decide +kernel
theorem dX2_sharedStop_55 : decode cX2_sharedStop 55 = .ok (.iaload, 1) := by decide +kernel
theorem dX2_sharedStop_56 : decode cX2_sharedStop 56 = .ok (.aload_n 0, 1) := by decide +kernel
theorem dX2_sharedStop_57 : decode cX2_sharedStop 57 = .ok (.getfield 38, 3) := by decide +kernel
theorem dX2_sharedStop_60 : decode cX2_sharedStop 60 = .ok (.getfield 74, 3) := by decide +kernel
theorem dX2_sharedStop_63 : decode cX2_sharedStop 63 = .ok (.if_icmp .lt 5, 3) := by decide +kernel
theorem dX2_sharedStop_66 : decode cX2_sharedStop 66 = .ok (.iload_n 2, 1) := by decide +kernel
theorem dX2_sharedStop_67 : decode cX2_sharedStop 67 = .ok (.ireturn, 1) := by decide +kernel
theorem dX2_sharedStop_68 : decode cX2_sharedStop 68 = .ok (.iinc 2 1, 3) := by decide +kernel
theorem dX2_sharedStop_71 : decode cX2_sharedStop 71 = .ok (.goto (-67), 3) := by decide +kernel
theorem dX2_sharedStop_74 : decode cX2_sharedStop 74 = .ok (.aload_n 0, 1) := by decide +kernel
theorem dX2_sharedStop_75 : decode cX2_sharedStop 75 = .ok (.getfield 42, 3) := by decide +kernel
theorem dX2_sharedStop_78 : decode cX2_sharedStop 78 = .ok (.getfield 74, 3) := by decide +kernel
theorem dX2_sharedStop_81 : decode cX2_sharedStop 81 = .ok (.ireturn, 1) := by decide +kernel
set_option maxRecDepth 20000 in
theorem ggX2_ownStop_X5_put : GoodIn wsX2_ownStop wsX5_put := goodIn_r _ [11, 12, 13, 14, 15, 46, 47, 48, 49] (by decide +kernel) (by decide +kernel)
set_option maxRecDepth 20000 in
theorem gX2_ownStop_X5_put : GoodIn wsX2_ownStop (wsV RX2 116 RX5 yX5_put wsX5_put) := goodIn_app (goodIn_of _ (by decide +kernel)) ggX2_ownStop_X5_put
set_option maxRecDepth 20000 in
theorem ggX2_ownStop_X5_passMinute : GoodIn wsX2_ownStop wsX5_passMinute := goodIn_r _ [19, 14, 13, 15, 46, 47, 48, 49] (by decide +kernel) (by decide +kernel)
set_option maxRecDepth 20000 in
theorem gX2_ownStop_X5_passMinute : GoodIn wsX2_ownStop (wsV RX2 120 RX5 yX5_passMinute wsX5_passMinute) := goodIn_app (goodIn_of _ (by decide +kernel)) ggX2_ownStop_X5_passMinute
set_option maxRecDepth 20000 in
theorem ggX2_ownStop_X5_may : GoodIn wsX2_ownStop wsX5_may := goodIn_r _ [23, 14, 12, 13, 46, 47, 48, 49] (by decide +kernel) (by decide +kernel)
set_option maxRecDepth 20000 in
theorem gX2_ownStop_X5_may : GoodIn wsX2_ownStop (wsV RX2 123 RX5 yX5_may wsX5_may) := goodIn_app (goodIn_of _ (by decide +kernel)) ggX2_ownStop_X5_may
set_option maxRecDepth 20000 in
theorem ggX2_ownStop_X5_act : GoodIn wsX2_ownStop wsX5_act := goodIn_r _ [27, 12, 13, 14, 46, 47, 48, 49] (by decide +kernel) (by decide +kernel)
set_option maxRecDepth 20000 in
theorem gX2_ownStop_X5_act : GoodIn wsX2_ownStop (wsV RX2 127 RX5 yX5_act wsX5_act) := goodIn_app (goodIn_of _ (by decide +kernel)) ggX2_ownStop_X5_act
theorem dX2_ownStop_0 : decode cX2_ownStop 0 = .ok (.aload_n 0, 1) := by decide +kernel
theorem dX2_ownStop_1 : decode cX2_ownStop 1 = .ok (.getfield 12, 3) := by decide +kernel
theorem dX2_ownStop_4 : decode cX2_ownStop 4 = .ok (.aload_n 0, 1) := by decide +kernel
theorem dX2_ownStop_5 : decode cX2_ownStop 5 = .ok (.getfield 38, 3) := by decide +kernel
theorem dX2_ownStop_8 : decode cX2_ownStop 8 = .ok (.getfield 79, 3) := by decide +kernel
theorem dX2_ownStop_11 : decode cX2_ownStop 11 = .ok (.iload_n 1, 1) := by decide +kernel
theorem dX2_ownStop_12 : decode cX2_ownStop 12 = .ok (.iaload, 1) := by decide +kernel
theorem dX2_ownStop_13 : decode cX2_ownStop 13 = .ok (.iload_n 2, 1) := by decide +kernel
theorem dX2_ownStop_14 : decode cX2_ownStop 14 = .ok (.invokevirtual 116, 3) := by decide +kernel
theorem dX2_ownStop_17 : decode cX2_ownStop 17 = .ok (.iconst 0, 1) := by decide +kernel
theorem dX2_ownStop_18 : decode cX2_ownStop 18 = .ok (.istore_n 3, 1) := by decide +kernel
theorem dX2_ownStop_19 : decode cX2_ownStop 19 = .ok (.iload_n 3, 1) := by decide +kernel
theorem dX2_ownStop_20 : decode cX2_ownStop 20 = .ok (.aload_n 0, 1) := by decide +kernel
theorem dX2_ownStop_21 : decode cX2_ownStop 21 = .ok (.getfield 42, 3) := by decide +kernel
theorem dX2_ownStop_24 : decode cX2_ownStop 24 = .ok (.getfield 74, 3) := by decide +kernel
theorem dX2_ownStop_27 : decode cX2_ownStop 27 = .ok (.if_icmp .ge 105, 3) := by decide +kernel
theorem dX2_ownStop_30 : decode cX2_ownStop 30 = .ok (.aload_n 0, 1) := by decide +kernel
theorem dX2_ownStop_31 : decode cX2_ownStop 31 = .ok (.getfield 42, 3) := by decide +kernel
theorem dX2_ownStop_34 : decode cX2_ownStop 34 = .ok (.getfield 79, 3) := by decide +kernel
theorem dX2_ownStop_37 : decode cX2_ownStop 37 = .ok (.iload_n 3, 1) := by decide +kernel
theorem dX2_ownStop_38 : decode cX2_ownStop 38 = .ok (.iaload, 1) := by decide +kernel
theorem dX2_ownStop_39 : decode cX2_ownStop 39 = .ok (.ifCond .ne 37, 3) := by decide +kernel
theorem dX2_ownStop_42 : decode cX2_ownStop 42 = .ok (.iconst 0, 1) := by decide +kernel
theorem dX2_ownStop_43 : decode cX2_ownStop 43 = .ok (.istore 4, 2) := by decide +kernel
theorem dX2_ownStop_45 : decode cX2_ownStop 45 = .ok (.iload 4, 2) := by decide +kernel
theorem dX2_ownStop_47 : decode cX2_ownStop 47 = .ok (.aload_n 0, 1) := by decide +kernel
theorem dX2_ownStop_48 : decode cX2_ownStop 48 = .ok (.getfield 42, 3) := by decide +kernel
theorem dX2_ownStop_51 : decode cX2_ownStop 51 = .ok (.getfield 101, 3) := by decide +kernel
theorem dX2_ownStop_54 : decode cX2_ownStop 54 = .ok (.iload_n 3, 1) := by decide +kernel
theorem dX2_ownStop_55 : decode cX2_ownStop 55 = .ok (.iaload, 1) := by decide +kernel
theorem dX2_ownStop_56 : decode cX2_ownStop 56 = .ok (.if_icmp .ge 17, 3) := by decide +kernel
theorem dX2_ownStop_59 : decode cX2_ownStop 59 = .ok (.aload_n 0, 1) := by decide +kernel
theorem dX2_ownStop_60 : decode cX2_ownStop 60 = .ok (.getfield 12, 3) := by decide +kernel
theorem dX2_ownStop_63 : decode cX2_ownStop 63 = .ok (.invokevirtual 120, 3) := by decide +kernel
theorem dX2_ownStop_66 : decode cX2_ownStop 66 = .ok (.pop, 1) := by decide +kernel
theorem dX2_ownStop_67 : decode cX2_ownStop 67 = .ok (.iinc 4 1, 3) := by decide +kernel
theorem dX2_ownStop_70 : decode cX2_ownStop 70 = .ok (.goto (-25), 3) := by decide +kernel
theorem dX2_ownStop_73 : decode cX2_ownStop 73 = .ok (.goto 53, 3) := by decide +kernel
theorem dX2_ownStop_76 : decode cX2_ownStop 76 = .ok (.aload_n 0, 1) := by decide +kernel
theorem dX2_ownStop_77 : decode cX2_ownStop 77 = .ok (.getfield 42, 3) := by decide +kernel
theorem dX2_ownStop_80 : decode cX2_ownStop 80 = .ok (.getfield 101, 3) := by decide +kernel
theorem dX2_ownStop_83 : decode cX2_ownStop 83 = .ok (.iload_n 3, 1) := by decide +kernel
theorem dX2_ownStop_84 : decode cX2_ownStop 84 = .ok (.iaload, 1) := by decide +kernel
theorem dX2_ownStop_85 : decode cX2_ownStop 85 = .ok (.iload_n 1, 1) := by decide +kernel
theorem dX2_ownStop_86 : decode cX2_ownStop 86 = .ok (.if_icmp .ne 40, 3) := by decide +kernel
theorem dX2_ownStop_89 : decode cX2_ownStop 89 = .ok (.aload_n 0, 1) := by decide +kernel
theorem dX2_ownStop_90 : decode cX2_ownStop 90 = .ok (.getfield 12, 3) := by decide +kernel
theorem dX2_ownStop_93 : decode cX2_ownStop 93 = .ok (.aload_n 0, 1) := by decide +kernel
theorem dX2_ownStop_94 : decode cX2_ownStop 94 = .ok (.getfield 42, 3) := by decide +kernel
theorem dX2_ownStop_97 : decode cX2_ownStop 97 = .ok (.getfield 79, 3) := by decide +kernel
theorem dX2_ownStop_100 : decode cX2_ownStop 100 = .ok (.iload_n 3, 1) := by decide +kernel
theorem dX2_ownStop_101 : decode cX2_ownStop 101 = .ok (.iaload, 1) := by decide +kernel
theorem dX2_ownStop_102 : decode cX2_ownStop 102 = .ok (.invokevirtual 123, 3) := by decide +kernel
theorem dX2_ownStop_105 : decode cX2_ownStop 105 = .ok (.ifCond .ne 5, 3) := by decide +kernel
theorem dX2_ownStop_108 : decode cX2_ownStop 108 = .ok (.iload_n 3, 1) := by decide +kernel
theorem dX2_ownStop_109 : decode cX2_ownStop 109 = .ok (.ireturn, 1) := by decide +kernel
theorem dX2_ownStop_110 : decode cX2_ownStop 110 = .ok (.aload_n 0, 1) := by decide +kernel
theorem dX2_ownStop_111 : decode cX2_ownStop 111 = .ok (.getfield 12, 3) := by decide +kernel
theorem dX2_ownStop_114 : decode cX2_ownStop 114 = .ok (.aload_n 0, 1) := by decide +kernel
theorem dX2_ownStop_115 : decode cX2_ownStop 115 = .ok (.getfield 42, 3) := by decide +kernel
theorem dX2_ownStop_118 : decode cX2_ownStop 118 = .ok (.getfield 79, 3) := by decide +kernel
theorem dX2_ownStop_121 : decode cX2_ownStop 121 = .ok (.iload_n 3, 1) := by decide +kernel
theorem dX2_ownStop_122 : decode cX2_ownStop 122 = .ok (.iaload, 1) := by decide +kernel
theorem dX2_ownStop_123 : decode cX2_ownStop 123 = .ok (.invokevirtual 127, 3) := by decide +kernel
theorem dX2_ownStop_126 : decode cX2_ownStop 126 = .ok (.iinc 3 1, 3) := by decide +kernel
theorem dX2_ownStop_129 : decode cX2_ownStop 129 = .ok (.goto (-110), 3) := by decide +kernel
theorem dX2_ownStop_132 : decode cX2_ownStop 132 = .ok (.aload_n 0, 1) := by decide +kernel
theorem dX2_ownStop_133 : decode cX2_ownStop 133 = .ok (.getfield 42, 3) := by decide +kernel
theorem dX2_ownStop_136 : decode cX2_ownStop 136 = .ok (.getfield 74, 3) := by decide +kernel
theorem dX2_ownStop_139 : decode cX2_ownStop 139 = .ok (.ireturn, 1) := by decide +kernel
set_option maxRecDepth 20000 in
theorem ggX2_follow_X5_put : GoodIn wsX2_follow wsX5_put := goodIn_r _ [11, 12, 13, 14, 15, 47, 48, 49, 50] (by decide +kernel) (by decide +kernel)
set_option maxRecDepth 20000 in
theorem gX2_follow_X5_put : GoodIn wsX2_follow (wsV RX2 116 RX5 yX5_put wsX5_put) := goodIn_app (goodIn_of _ (by decide +kernel)) ggX2_follow_X5_put
set_option maxRecDepth 20000 in
theorem ggX2_follow_X2_ranOutAt : GoodIn wsX2_follow wsX2_ranOutAt := goodIn_r _ [20, 1, 21, 22, 23, 10, 24, 14, 13, 15, 29, 30, 31, 32, 33, 34, 35, 36, 37, 38, 39, 40, 41, 42, 47, 48, 49, 50] (by decide +kernel) (by decide +kernel)
set_option maxRecDepth 20000 in
theorem gX2_follow_X2_ranOutAt : GoodIn wsX2_follow (wsV RX2 130 RX2 yX2_ranOutAt wsX2_ranOutAt) := goodIn_app (goodIn_of _ (by decide +kernel)) ggX2_follow_X2_ranOutAt
set_option maxRecDepth 20000 in
theorem ggX2_follow_X5_act : GoodIn wsX2_follow wsX5_act := goodIn_r _ [28, 12, 13, 14, 47, 48, 49, 50] (by decide +kernel) (by decide +kernel)
set_option maxRecDepth 20000 in
theorem gX2_follow_X5_act : GoodIn wsX2_follow (wsV RX2 127 RX5 yX5_act wsX5_act) := goodIn_app (goodIn_of _ (by decide +kernel)) ggX2_follow_X5_act
theorem dX2_follow_0 : decode cX2_follow 0 = .ok (.aload_n 0, 1) := by decide +kernel
theorem dX2_follow_1 : decode cX2_follow 1 = .ok (.getfield 12, 3) := by decide +kernel
theorem dX2_follow_4 : decode cX2_follow 4 = .ok (.aload_n 0, 1) := by decide +kernel
theorem dX2_follow_5 : decode cX2_follow 5 = .ok (.getfield 38, 3) := by decide +kernel
theorem dX2_follow_8 : decode cX2_follow 8 = .ok (.getfield 79, 3) := by decide +kernel
theorem dX2_follow_11 : decode cX2_follow 11 = .ok (.iload_n 1, 1) := by decide +kernel
theorem dX2_follow_12 : decode cX2_follow 12 = .ok (.iaload, 1) := by decide +kernel
theorem dX2_follow_13 : decode cX2_follow 13 = .ok (.iload_n 2, 1) := by decide +kernel
theorem dX2_follow_14 : decode cX2_follow 14 = .ok (.invokevirtual 116, 3) := by decide +kernel
theorem dX2_follow_17 : decode cX2_follow 17 = .ok (.lconst 0, 1) := by decide +kernel
theorem dX2_follow_18 : decode cX2_follow 18 = .ok (.lstore 4, 2) := by decide +kernel
theorem dX2_follow_20 : decode cX2_follow 20 = .ok (.iconst 0, 1) := by decide +kernel
theorem dX2_follow_21 : decode cX2_follow 21 = .ok (.istore 6, 2) := by decide +kernel
theorem dX2_follow_23 : decode cX2_follow 23 = .ok (.iconst 0, 1) := by decide +kernel
theorem dX2_follow_24 : decode cX2_follow 24 = .ok (.istore 7, 2) := by decide +kernel
theorem dX2_follow_26 : decode cX2_follow 26 = .ok (.iload 7, 2) := by decide +kernel
theorem dX2_follow_28 : decode cX2_follow 28 = .ok (.iload_n 3, 1) := by decide +kernel
theorem dX2_follow_29 : decode cX2_follow 29 = .ok (.if_icmp .ge 106, 3) := by decide +kernel
theorem dX2_follow_32 : decode cX2_follow 32 = .ok (.iload 7, 2) := by decide +kernel
theorem dX2_follow_34 : decode cX2_follow 34 = .ok (.aload_n 0, 1) := by decide +kernel
theorem dX2_follow_35 : decode cX2_follow 35 = .ok (.getfield 42, 3) := by decide +kernel
theorem dX2_follow_38 : decode cX2_follow 38 = .ok (.getfield 74, 3) := by decide +kernel
theorem dX2_follow_41 : decode cX2_follow 41 = .ok (.if_icmp .ge 94, 3) := by decide +kernel
theorem dX2_follow_44 : decode cX2_follow 44 = .ok (.aload_n 0, 1) := by decide +kernel
theorem dX2_follow_45 : decode cX2_follow 45 = .ok (.getfield 42, 3) := by decide +kernel
theorem dX2_follow_48 : decode cX2_follow 48 = .ok (.getfield 79, 3) := by decide +kernel
theorem dX2_follow_51 : decode cX2_follow 51 = .ok (.iload 7, 2) := by decide +kernel
theorem dX2_follow_53 : decode cX2_follow 53 = .ok (.iaload, 1) := by decide +kernel
theorem dX2_follow_54 : decode cX2_follow 54 = .ok (.ifCond .ne 44, 3) := by decide +kernel
theorem dX2_follow_57 : decode cX2_follow 57 = .ok (.iconst 0, 1) := by decide +kernel
theorem dX2_follow_58 : decode cX2_follow 58 = .ok (.istore 8, 2) := by decide +kernel
theorem dX2_follow_60 : decode cX2_follow 60 = .ok (.iload 8, 2) := by decide +kernel
theorem dX2_follow_62 : decode cX2_follow 62 = .ok (.aload_n 0, 1) := by decide +kernel
theorem dX2_follow_63 : decode cX2_follow 63 = .ok (.getfield 42, 3) := by decide +kernel
theorem dX2_follow_66 : decode cX2_follow 66 = .ok (.getfield 101, 3) := by decide +kernel
theorem dX2_follow_69 : decode cX2_follow 69 = .ok (.iload 7, 2) := by decide +kernel
theorem dX2_follow_71 : decode cX2_follow 71 = .ok (.iaload, 1) := by decide +kernel
theorem dX2_follow_72 : decode cX2_follow 72 = .ok (.if_icmp .ge 23, 3) := by decide +kernel
theorem dX2_follow_75 : decode cX2_follow 75 = .ok (.iinc 6 1, 3) := by decide +kernel
theorem dX2_follow_78 : decode cX2_follow 78 = .ok (.lload 4, 2) := by decide +kernel
theorem dX2_follow_80 : decode cX2_follow 80 = .ok (.aload_n 0, 1) := by decide +kernel
theorem dX2_follow_81 : decode cX2_follow 81 = .ok (.iload 6, 2) := by decide +kernel
theorem dX2_follow_83 : decode cX2_follow 83 = .ok (.invokevirtual 130, 3) := by decide +kernel
theorem dX2_follow_86 : decode cX2_follow 86 = .ok (.lor, 1) := by decide +kernel
theorem dX2_follow_87 : decode cX2_follow 87 = .ok (.lstore 4, 2) := by decide +kernel
theorem dX2_follow_89 : decode cX2_follow 89 = .ok (.iinc 8 1, 3) := by decide +kernel
theorem dX2_follow_92 : decode cX2_follow 92 = .ok (.goto (-32), 3) := by decide +kernel
theorem dX2_follow_95 : decode cX2_follow 95 = .ok (.goto 34, 3) := by decide +kernel
theorem dX2_follow_98 : decode cX2_follow 98 = .ok (.aload_n 0, 1) := by decide +kernel
theorem dX2_follow_99 : decode cX2_follow 99 = .ok (.getfield 42, 3) := by decide +kernel
theorem dX2_follow_102 : decode cX2_follow 102 = .ok (.getfield 101, 3) := by decide +kernel
theorem dX2_follow_105 : decode cX2_follow 105 = .ok (.iload 7, 2) := by decide +kernel
theorem dX2_follow_107 : decode cX2_follow 107 = .ok (.iaload, 1) := by decide +kernel
theorem dX2_follow_108 : decode cX2_follow 108 = .ok (.iload_n 1, 1) := by decide +kernel
theorem dX2_follow_109 : decode cX2_follow 109 = .ok (.if_icmp .ne 20, 3) := by decide +kernel
theorem dX2_follow_112 : decode cX2_follow 112 = .ok (.aload_n 0, 1) := by decide +kernel
theorem dX2_follow_113 : decode cX2_follow 113 = .ok (.getfield 12, 3) := by decide +kernel
theorem dX2_follow_116 : decode cX2_follow 116 = .ok (.aload_n 0, 1) := by decide +kernel
theorem dX2_follow_117 : decode cX2_follow 117 = .ok (.getfield 42, 3) := by decide +kernel
theorem dX2_follow_120 : decode cX2_follow 120 = .ok (.getfield 79, 3) := by decide +kernel
theorem dX2_follow_123 : decode cX2_follow 123 = .ok (.iload 7, 2) := by decide +kernel
theorem dX2_follow_125 : decode cX2_follow 125 = .ok (.iaload, 1) := by decide +kernel
theorem dX2_follow_126 : decode cX2_follow 126 = .ok (.invokevirtual 127, 3) := by decide +kernel
theorem dX2_follow_129 : decode cX2_follow 129 = .ok (.iinc 7 1, 3) := by decide +kernel
theorem dX2_follow_132 : decode cX2_follow 132 = .ok (.goto (-106), 3) := by decide +kernel
theorem dX2_follow_135 : decode cX2_follow 135 = .ok (.iload 6, 2) := by decide +kernel
theorem dX2_follow_137 : decode cX2_follow 137 = .ok (.iconst 1, 1) := by decide +kernel
theorem dX2_follow_138 : decode cX2_follow 138 = .ok (.iadd, 1) := by decide +kernel
theorem dX2_follow_139 : decode cX2_follow 139 = .ok (.istore 7, 2) := by decide +kernel
theorem dX2_follow_141 : decode cX2_follow 141 = .ok (.iload 7, 2) := by decide +kernel
theorem dX2_follow_143 : decode cX2_follow 143 = .ok (.bipush 40, 2) := by decide +kernel
theorem dX2_follow_145 : decode cX2_follow 145 = .ok (.if_icmp .gt 20, 3) := by decide +kernel
theorem dX2_follow_148 : decode cX2_follow 148 = .ok (.lload 4, 2) := by decide +kernel
theorem dX2_follow_150 : decode cX2_follow 150 = .ok (.aload_n 0, 1) := by decide +kernel
theorem dX2_follow_151 : decode cX2_follow 151 = .ok (.iload 7, 2) := by decide +kernel
theorem dX2_follow_153 : decode cX2_follow 153 = .ok (.invokevirtual 130, 3) := by decide +kernel
theorem dX2_follow_156 : decode cX2_follow 156 = .ok (.lor, 1) := by decide +kernel
theorem dX2_follow_157 : decode cX2_follow 157 = .ok (.lstore 4, 2) := by decide +kernel
theorem dX2_follow_159 : decode cX2_follow 159 = .ok (.iinc 7 1, 3) := by decide +kernel
theorem dX2_follow_162 : decode cX2_follow 162 = .ok (.goto (-21), 3) := by decide +kernel
theorem dX2_follow_165 : decode cX2_follow 165 = .ok (.lload 4, 2) := by decide +kernel
theorem dX2_follow_167 : decode cX2_follow 167 = .ok (.lreturn, 1) := by decide +kernel
set_option maxRecDepth 20000 in
theorem ggX2_ranOutAt_X5_passMinute : GoodIn wsX2_ranOutAt wsX5_passMinute := goodIn_r _ [6, 7, 8, 9, 24, 25, 26, 27] (by decide +kernel) (by decide +kernel)
set_option maxRecDepth 20000 in
theorem gX2_ranOutAt_X5_passMinute : GoodIn wsX2_ranOutAt (wsV RX2 120 RX5 yX5_passMinute wsX5_passMinute) := goodIn_app (goodIn_of _ (by decide +kernel)) ggX2_ranOutAt_X5_passMinute
theorem dX2_ranOutAt_0 : decode cX2_ranOutAt 0 = .ok (.aload_n 0, 1) := by decide +kernel
theorem dX2_ranOutAt_1 : decode cX2_ranOutAt 1 = .ok (.getfield 12, 3) := by decide +kernel
theorem dX2_ranOutAt_4 : decode cX2_ranOutAt 4 = .ok (.invokevirtual 120, 3) := by decide +kernel
theorem dX2_ranOutAt_7 : decode cX2_ranOutAt 7 = .ok (.ifCond .eq 15, 3) := by decide +kernel
theorem dX2_ranOutAt_10 : decode cX2_ranOutAt 10 = .ok (.iload_n 1, 1) := by decide +kernel
theorem dX2_ranOutAt_11 : decode cX2_ranOutAt 11 = .ok (.bipush 40, 2) := by decide +kernel
theorem dX2_ranOutAt_13 : decode cX2_ranOutAt 13 = .ok (.if_icmp .gt 9, 3) := by decide +kernel
theorem dX2_ranOutAt_16 : decode cX2_ranOutAt 16 = .ok (.lconst 1, 1) := by decide +kernel
theorem dX2_ranOutAt_17 : decode cX2_ranOutAt 17 = .ok (.iload_n 1, 1) := by decide +kernel
theorem dX2_ranOutAt_18 : decode cX2_ranOutAt 18 = .ok (.lshl, 1) := by decide +kernel
theorem dX2_ranOutAt_19 : decode cX2_ranOutAt 19 = .ok (.goto 4, 3) := by decide +kernel
theorem dX2_ranOutAt_22 : decode cX2_ranOutAt 22 = .ok (.lconst 0, 1) := by decide +kernel
theorem dX2_ranOutAt_23 : decode cX2_ranOutAt 23 = .ok (.lreturn, 1) := by decide +kernel
set_option maxRecDepth 20000 in
theorem ggX2_ranMinutes_X2_follow : GoodIn wsX2_ranMinutes wsX2_follow := goodIn_r _ [7, 8, 9, 10, 11, 12, 13, 14, 15, 16, 17, 18, 19, 20, 21, 22, 23, 24, 25, 6, 26, 27, 28, 29, 30, 31, 32, 33, 34, 35, 36, 37, 38, 39, 40, 41, 42, 43, 44, 45, 46, 47, 48, 49, 50, 51, 52, 53, 54, 55, 56] (by decide +kernel) (by decide +kernel)
set_option maxRecDepth 20000 in
theorem gX2_ranMinutes_X2_follow : GoodIn wsX2_ranMinutes (wsV RX2 134 RX2 yX2_follow wsX2_follow) := goodIn_app (goodIn_of _ (by decide +kernel)) ggX2_ranMinutes_X2_follow
theorem dX2_ranMinutes_0 : decode cX2_ranMinutes 0 = .ok (.iload_n 1, 1) := by decide +kernel
theorem dX2_ranMinutes_1 : decode cX2_ranMinutes 1 = .ok (.bipush 8, 2) := by decide +kernel
theorem dX2_ranMinutes_3 : decode cX2_ranMinutes 3 = .ok (.imul, 1) := by decide +kernel
theorem dX2_ranMinutes_4 : decode cX2_ranMinutes 4 = .ok (.iload_n 2, 1) := by decide +kernel
theorem dX2_ranMinutes_5 : decode cX2_ranMinutes 5 = .ok (.iadd, 1) := by decide +kernel
theorem dX2_ranMinutes_6 : decode cX2_ranMinutes 6 = .ok (.bipush 41, 2) := by decide +kernel
theorem dX2_ranMinutes_8 : decode cX2_ranMinutes 8 = .ok (.imul, 1) := by decide +kernel
theorem dX2_ranMinutes_9 : decode cX2_ranMinutes 9 = .ok (.iload_n 3, 1) := by decide +kernel
theorem dX2_ranMinutes_10 : decode cX2_ranMinutes 10 = .ok (.iadd, 1) := by decide +kernel
theorem dX2_ranMinutes_11 : decode cX2_ranMinutes 11 = .ok (.istore 4, 2) := by decide +kernel
theorem dX2_ranMinutes_13 : decode cX2_ranMinutes 13 = .ok (.iload 4, 2) := by decide +kernel
theorem dX2_ranMinutes_15 : decode cX2_ranMinutes 15 = .ok (.ifCond .lt 13, 3) := by decide +kernel
theorem dX2_ranMinutes_18 : decode cX2_ranMinutes 18 = .ok (.iload 4, 2) := by decide +kernel
theorem dX2_ranMinutes_20 : decode cX2_ranMinutes 20 = .ok (.aload_n 0, 1) := by decide +kernel
theorem dX2_ranMinutes_21 : decode cX2_ranMinutes 21 = .ok (.getfield 25, 3) := by decide +kernel
theorem dX2_ranMinutes_24 : decode cX2_ranMinutes 24 = .ok (.arraylength, 1) := by decide +kernel
theorem dX2_ranMinutes_25 : decode cX2_ranMinutes 25 = .ok (.if_icmp .lt 5, 3) := by decide +kernel
theorem dX2_ranMinutes_28 : decode cX2_ranMinutes 28 = .ok (.lconst 0, 1) := by decide +kernel
theorem dX2_ranMinutes_29 : decode cX2_ranMinutes 29 = .ok (.lreturn, 1) := by decide +kernel
theorem dX2_ranMinutes_30 : decode cX2_ranMinutes 30 = .ok (.aload_n 0, 1) := by decide +kernel
theorem dX2_ranMinutes_31 : decode cX2_ranMinutes 31 = .ok (.getfield 25, 3) := by decide +kernel
theorem dX2_ranMinutes_34 : decode cX2_ranMinutes 34 = .ok (.iload 4, 2) := by decide +kernel
theorem dX2_ranMinutes_36 : decode cX2_ranMinutes 36 = .ok (.laload, 1) := by decide +kernel
theorem dX2_ranMinutes_37 : decode cX2_ranMinutes 37 = .ok (.ldc2_w 58, 3) := by decide +kernel
theorem dX2_ranMinutes_40 : decode cX2_ranMinutes 40 = .ok (.lcmp, 1) := by decide +kernel
theorem dX2_ranMinutes_41 : decode cX2_ranMinutes 41 = .ok (.ifCond .ne 17, 3) := by decide +kernel
theorem dX2_ranMinutes_44 : decode cX2_ranMinutes 44 = .ok (.aload_n 0, 1) := by decide +kernel
theorem dX2_ranMinutes_45 : decode cX2_ranMinutes 45 = .ok (.getfield 25, 3) := by decide +kernel
theorem dX2_ranMinutes_48 : decode cX2_ranMinutes 48 = .ok (.iload 4, 2) := by decide +kernel
theorem dX2_ranMinutes_50 : decode cX2_ranMinutes 50 = .ok (.aload_n 0, 1) := by decide +kernel
theorem dX2_ranMinutes_51 : decode cX2_ranMinutes 51 = .ok (.iload_n 1, 1) := by decide +kernel
theorem dX2_ranMinutes_52 : decode cX2_ranMinutes 52 = .ok (.iload_n 2, 1) := by decide +kernel
theorem dX2_ranMinutes_53 : decode cX2_ranMinutes 53 = .ok (.iload_n 3, 1) := by decide +kernel
theorem dX2_ranMinutes_54 : decode cX2_ranMinutes 54 = .ok (.invokevirtual 134, 3) := by decide +kernel
theorem dX2_ranMinutes_57 : decode cX2_ranMinutes 57 = .ok (.lastore, 1) := by decide +kernel
theorem dX2_ranMinutes_58 : decode cX2_ranMinutes 58 = .ok (.aload_n 0, 1) := by decide +kernel
theorem dX2_ranMinutes_59 : decode cX2_ranMinutes 59 = .ok (.getfield 25, 3) := by decide +kernel
theorem dX2_ranMinutes_62 : decode cX2_ranMinutes 62 = .ok (.iload 4, 2) := by decide +kernel
theorem dX2_ranMinutes_64 : decode cX2_ranMinutes 64 = .ok (.laload, 1) := by decide +kernel
theorem dX2_ranMinutes_65 : decode cX2_ranMinutes 65 = .ok (.lreturn, 1) := by decide +kernel
theorem dX2_layOut_0 : decode cX2_layOut 0 = .ok (.iload_n 1, 1) := by decide +kernel
theorem dX2_layOut_1 : decode cX2_layOut 1 = .ok (.istore_n 2, 1) := by decide +kernel
theorem dX2_layOut_2 : decode cX2_layOut 2 = .ok (.aload_n 0, 1) := by decide +kernel
theorem dX2_layOut_3 : decode cX2_layOut 3 = .ok (.getfield 38, 3) := by decide +kernel
theorem dX2_layOut_6 : decode cX2_layOut 6 = .ok (.getfield 74, 3) := by decide +kernel
theorem dX2_layOut_9 : decode cX2_layOut 9 = .ok (.iconst 1, 1) := by decide +kernel
theorem dX2_layOut_10 : decode cX2_layOut 10 = .ok (.isub, 1) := by decide +kernel
theorem dX2_layOut_11 : decode cX2_layOut 11 = .ok (.istore_n 3, 1) := by decide +kernel
theorem dX2_layOut_12 : decode cX2_layOut 12 = .ok (.iload_n 3, 1) := by decide +kernel
theorem dX2_layOut_13 : decode cX2_layOut 13 = .ok (.ifCond .lt 41, 3) := by decide +kernel
theorem dX2_layOut_16 : decode cX2_layOut 16 = .ok (.iconst 1, 1) := by decide +kernel
theorem dX2_layOut_17 : decode cX2_layOut 17 = .ok (.aload_n 0, 1) := by decide +kernel
theorem dX2_layOut_18 : decode cX2_layOut 18 = .ok (.getfield 38, 3) := by decide +kernel
theorem dX2_layOut_21 : decode cX2_layOut 21 = .ok (.getfield 79, 3) := by decide +kernel
theorem dX2_layOut_24 : decode cX2_layOut 24 = .ok (.iload_n 3, 1) := by decide +kernel
theorem dX2_layOut_25 : decode cX2_layOut 25 = .ok (.iaload, 1) := by decide +kernel
theorem dX2_layOut_26 : decode cX2_layOut 26 = .ok (.iconst 1, 1) := by decide +kernel
theorem dX2_layOut_27 : decode cX2_layOut 27 = .ok (.iadd, 1) := by decide +kernel
theorem dX2_layOut_28 : decode cX2_layOut 28 = .ok (.invokestatic 138, 3) := by decide +kernel
theorem dX2_layOut_31 : decode cX2_layOut 31 = .ok (.istore 4, 2) := by decide +kernel
theorem dX2_layOut_33 : decode cX2_layOut 33 = .ok (.aload_n 0, 1) := by decide +kernel
theorem dX2_layOut_34 : decode cX2_layOut 34 = .ok (.getfield 18, 3) := by decide +kernel
theorem dX2_layOut_37 : decode cX2_layOut 37 = .ok (.iload_n 3, 1) := by decide +kernel
theorem dX2_layOut_38 : decode cX2_layOut 38 = .ok (.iload_n 2, 1) := by decide +kernel
theorem dX2_layOut_39 : decode cX2_layOut 39 = .ok (.iload 4, 2) := by decide +kernel
theorem dX2_layOut_41 : decode cX2_layOut 41 = .ok (.irem, 1) := by decide +kernel
theorem dX2_layOut_42 : decode cX2_layOut 42 = .ok (.iastore, 1) := by decide +kernel
theorem dX2_layOut_43 : decode cX2_layOut 43 = .ok (.iload_n 2, 1) := by decide +kernel
theorem dX2_layOut_44 : decode cX2_layOut 44 = .ok (.iload 4, 2) := by decide +kernel
theorem dX2_layOut_46 : decode cX2_layOut 46 = .ok (.idiv, 1) := by decide +kernel
theorem dX2_layOut_47 : decode cX2_layOut 47 = .ok (.istore_n 2, 1) := by decide +kernel
theorem dX2_layOut_48 : decode cX2_layOut 48 = .ok (.iinc 3 (-1), 3) := by decide +kernel
theorem dX2_layOut_51 : decode cX2_layOut 51 = .ok (.goto (-39), 3) := by decide +kernel
theorem dX2_layOut_54 : decode cX2_layOut 54 = .ok (.return_, 1) := by decide +kernel
set_option maxRecDepth 20000 in
theorem ggX2_fitsNow_X2_ranMinutes : GoodIn wsX2_fitsNow wsX2_ranMinutes := goodIn_r _ [16, 17, 18, 19, 20, 21, 15, 22, 23, 1, 24, 25, 2, 26, 27, 28, 29, 30, 31, 32, 33, 34, 35, 36, 37, 38, 39, 40, 41, 42, 43, 44, 45, 46, 47, 48, 49, 50, 51, 52, 53, 54, 55, 56, 57, 58, 59, 60, 61, 62, 63, 64, 65, 66, 67, 68, 69] (by decide +kernel) (by decide +kernel)
set_option maxRecDepth 20000 in
theorem gX2_fitsNow_X2_ranMinutes : GoodIn wsX2_fitsNow (wsV RX2 144 RX2 yX2_ranMinutes wsX2_ranMinutes) := goodIn_app (goodIn_of _ (by decide +kernel)) ggX2_fitsNow_X2_ranMinutes
theorem dX2_fitsNow_0 : decode cX2_fitsNow 0 = .ok (.aload_n 0, 1) := by decide +kernel
theorem dX2_fitsNow_1 : decode cX2_fitsNow 1 = .ok (.getfield 38, 3) := by decide +kernel
theorem dX2_fitsNow_4 : decode cX2_fitsNow 4 = .ok (.getfield 74, 3) := by decide +kernel
theorem dX2_fitsNow_7 : decode cX2_fitsNow 7 = .ok (.ifCond .ne 7, 3) := by decide +kernel
theorem dX2_fitsNow_10 : decode cX2_fitsNow 10 = .ok (.iconst 0, 1) := by decide +kernel
theorem dX2_fitsNow_11 : decode cX2_fitsNow 11 = .ok (.goto 5, 3) := by decide +kernel
theorem dX2_fitsNow_14 : decode cX2_fitsNow 14 = .ok (.bipush 40, 2) := by decide +kernel
theorem dX2_fitsNow_16 : decode cX2_fitsNow 16 = .ok (.istore_n 1, 1) := by decide +kernel
theorem dX2_fitsNow_17 : decode cX2_fitsNow 17 = .ok (.iconst 0, 1) := by decide +kernel
theorem dX2_fitsNow_18 : decode cX2_fitsNow 18 = .ok (.istore_n 2, 1) := by decide +kernel
theorem dX2_fitsNow_19 : decode cX2_fitsNow 19 = .ok (.iload_n 2, 1) := by decide +kernel
theorem dX2_fitsNow_20 : decode cX2_fitsNow 20 = .ok (.aload_n 0, 1) := by decide +kernel
theorem dX2_fitsNow_21 : decode cX2_fitsNow 21 = .ok (.getfield 38, 3) := by decide +kernel
theorem dX2_fitsNow_24 : decode cX2_fitsNow 24 = .ok (.getfield 74, 3) := by decide +kernel
theorem dX2_fitsNow_27 : decode cX2_fitsNow 27 = .ok (.if_icmp .ge 30, 3) := by decide +kernel
theorem dX2_fitsNow_30 : decode cX2_fitsNow 30 = .ok (.iload_n 1, 1) := by decide +kernel
theorem dX2_fitsNow_31 : decode cX2_fitsNow 31 = .ok (.aload_n 0, 1) := by decide +kernel
theorem dX2_fitsNow_32 : decode cX2_fitsNow 32 = .ok (.getfield 22, 3) := by decide +kernel
theorem dX2_fitsNow_35 : decode cX2_fitsNow 35 = .ok (.iload_n 2, 1) := by decide +kernel
theorem dX2_fitsNow_36 : decode cX2_fitsNow 36 = .ok (.bipush 8, 2) := by decide +kernel
theorem dX2_fitsNow_38 : decode cX2_fitsNow 38 = .ok (.imul, 1) := by decide +kernel
theorem dX2_fitsNow_39 : decode cX2_fitsNow 39 = .ok (.aload_n 0, 1) := by decide +kernel
theorem dX2_fitsNow_40 : decode cX2_fitsNow 40 = .ok (.getfield 18, 3) := by decide +kernel
theorem dX2_fitsNow_43 : decode cX2_fitsNow 43 = .ok (.iload_n 2, 1) := by decide +kernel
theorem dX2_fitsNow_44 : decode cX2_fitsNow 44 = .ok (.iaload, 1) := by decide +kernel
theorem dX2_fitsNow_45 : decode cX2_fitsNow 45 = .ok (.iadd, 1) := by decide +kernel
theorem dX2_fitsNow_46 : decode cX2_fitsNow 46 = .ok (.iaload, 1) := by decide +kernel
theorem dX2_fitsNow_47 : decode cX2_fitsNow 47 = .ok (.invokestatic 111, 3) := by decide +kernel
theorem dX2_fitsNow_50 : decode cX2_fitsNow 50 = .ok (.istore_n 1, 1) := by decide +kernel
theorem dX2_fitsNow_51 : decode cX2_fitsNow 51 = .ok (.iinc 2 1, 3) := by decide +kernel
theorem dX2_fitsNow_54 : decode cX2_fitsNow 54 = .ok (.goto (-35), 3) := by decide +kernel
theorem dX2_fitsNow_57 : decode cX2_fitsNow 57 = .ok (.aload_n 0, 1) := by decide +kernel
theorem dX2_fitsNow_58 : decode cX2_fitsNow 58 = .ok (.lconst 0, 1) := by decide +kernel
theorem dX2_fitsNow_59 : decode cX2_fitsNow 59 = .ok (.putfield 141, 3) := by decide +kernel
theorem dX2_fitsNow_62 : decode cX2_fitsNow 62 = .ok (.iconst 0, 1) := by decide +kernel
theorem dX2_fitsNow_63 : decode cX2_fitsNow 63 = .ok (.istore_n 2, 1) := by decide +kernel
theorem dX2_fitsNow_64 : decode cX2_fitsNow 64 = .ok (.iload_n 2, 1) := by decide +kernel
theorem dX2_fitsNow_65 : decode cX2_fitsNow 65 = .ok (.aload_n 0, 1) := by decide +kernel
theorem dX2_fitsNow_66 : decode cX2_fitsNow 66 = .ok (.getfield 38, 3) := by decide +kernel
theorem dX2_fitsNow_69 : decode cX2_fitsNow 69 = .ok (.getfield 74, 3) := by decide +kernel
theorem dX2_fitsNow_72 : decode cX2_fitsNow 72 = .ok (.if_icmp .ge 52, 3) := by decide +kernel
theorem dX2_fitsNow_75 : decode cX2_fitsNow 75 = .ok (.aload_n 0, 1) := by decide +kernel
theorem dX2_fitsNow_76 : decode cX2_fitsNow 76 = .ok (.iload_n 2, 1) := by decide +kernel
theorem dX2_fitsNow_77 : decode cX2_fitsNow 77 = .ok (.aload_n 0, 1) := by decide +kernel
theorem dX2_fitsNow_78 : decode cX2_fitsNow 78 = .ok (.getfield 18, 3) := by decide +kernel
theorem dX2_fitsNow_81 : decode cX2_fitsNow 81 = .ok (.iload_n 2, 1) := by decide +kernel
theorem dX2_fitsNow_82 : decode cX2_fitsNow 82 = .ok (.iaload, 1) := by decide +kernel
theorem dX2_fitsNow_83 : decode cX2_fitsNow 83 = .ok (.iload_n 1, 1) := by decide +kernel
theorem dX2_fitsNow_84 : decode cX2_fitsNow 84 = .ok (.invokevirtual 144, 3) := by decide +kernel
theorem dX2_fitsNow_87 : decode cX2_fitsNow 87 = .ok (.lstore_n 3, 1) := by decide +kernel
theorem dX2_fitsNow_88 : decode cX2_fitsNow 88 = .ok (.lload_n 3, 1) := by decide +kernel
theorem dX2_fitsNow_89 : decode cX2_fitsNow 89 = .ok (.aload_n 0, 1) := by decide +kernel
theorem dX2_fitsNow_90 : decode cX2_fitsNow 90 = .ok (.getfield 35, 3) := by decide +kernel
theorem dX2_fitsNow_93 : decode cX2_fitsNow 93 = .ok (.iload_n 2, 1) := by decide +kernel
theorem dX2_fitsNow_94 : decode cX2_fitsNow 94 = .ok (.laload, 1) := by decide +kernel
theorem dX2_fitsNow_95 : decode cX2_fitsNow 95 = .ok (.land, 1) := by decide +kernel
theorem dX2_fitsNow_96 : decode cX2_fitsNow 96 = .ok (.aload_n 0, 1) := by decide +kernel
theorem dX2_fitsNow_97 : decode cX2_fitsNow 97 = .ok (.getfield 35, 3) := by decide +kernel
theorem dX2_fitsNow_100 : decode cX2_fitsNow 100 = .ok (.iload_n 2, 1) := by decide +kernel
theorem dX2_fitsNow_101 : decode cX2_fitsNow 101 = .ok (.laload, 1) := by decide +kernel
theorem dX2_fitsNow_102 : decode cX2_fitsNow 102 = .ok (.lcmp, 1) := by decide +kernel
theorem dX2_fitsNow_103 : decode cX2_fitsNow 103 = .ok (.ifCond .eq 5, 3) := by decide +kernel
theorem dX2_fitsNow_106 : decode cX2_fitsNow 106 = .ok (.iconst 0, 1) := by decide +kernel
theorem dX2_fitsNow_107 : decode cX2_fitsNow 107 = .ok (.ireturn, 1) := by decide +kernel
theorem dX2_fitsNow_108 : decode cX2_fitsNow 108 = .ok (.aload_n 0, 1) := by decide +kernel
theorem dX2_fitsNow_109 : decode cX2_fitsNow 109 = .ok (.dup, 1) := by decide +kernel
theorem dX2_fitsNow_110 : decode cX2_fitsNow 110 = .ok (.getfield 141, 3) := by decide +kernel
theorem dX2_fitsNow_113 : decode cX2_fitsNow 113 = .ok (.lload_n 3, 1) := by decide +kernel
theorem dX2_fitsNow_114 : decode cX2_fitsNow 114 = .ok (.lor, 1) := by decide +kernel
theorem dX2_fitsNow_115 : decode cX2_fitsNow 115 = .ok (.putfield 141, 3) := by decide +kernel
theorem dX2_fitsNow_118 : decode cX2_fitsNow 118 = .ok (.iinc 2 1, 3) := by decide +kernel
theorem dX2_fitsNow_121 : decode cX2_fitsNow 121 = .ok (.goto (-57), 3) := by decide +kernel
theorem dX2_fitsNow_124 : decode cX2_fitsNow 124 = .ok (.aload_n 0, 1) := by decide +kernel
theorem dX2_fitsNow_125 : decode cX2_fitsNow 125 = .ok (.getfield 141, 3) := by decide +kernel
theorem dX2_fitsNow_128 : decode cX2_fitsNow 128 = .ok (.aload_n 0, 1) := by decide +kernel
theorem dX2_fitsNow_129 : decode cX2_fitsNow 129 = .ok (.getfield 97, 3) := by decide +kernel
theorem dX2_fitsNow_132 : decode cX2_fitsNow 132 = .ok (.land, 1) := by decide +kernel
theorem dX2_fitsNow_133 : decode cX2_fitsNow 133 = .ok (.lconst 0, 1) := by decide +kernel
theorem dX2_fitsNow_134 : decode cX2_fitsNow 134 = .ok (.lcmp, 1) := by decide +kernel
theorem dX2_fitsNow_135 : decode cX2_fitsNow 135 = .ok (.ifCond .ne 7, 3) := by decide +kernel
theorem dX2_fitsNow_138 : decode cX2_fitsNow 138 = .ok (.iconst 1, 1) := by decide +kernel
theorem dX2_fitsNow_139 : decode cX2_fitsNow 139 = .ok (.goto 4, 3) := by decide +kernel
theorem dX2_fitsNow_142 : decode cX2_fitsNow 142 = .ok (.iconst 0, 1) := by decide +kernel
theorem dX2_fitsNow_143 : decode cX2_fitsNow 143 = .ok (.ireturn, 1) := by decide +kernel
theorem dX2_noteFitting_0 : decode cX2_noteFitting 0 = .ok (.aload_n 0, 1) := by decide +kernel
theorem dX2_noteFitting_1 : decode cX2_noteFitting 1 = .ok (.dup, 1) := by decide +kernel
theorem dX2_noteFitting_2 : decode cX2_noteFitting 2 = .ok (.getfield 45, 3) := by decide +kernel
theorem dX2_noteFitting_5 : decode cX2_noteFitting 5 = .ok (.iconst 1, 1) := by decide +kernel
theorem dX2_noteFitting_6 : decode cX2_noteFitting 6 = .ok (.iadd, 1) := by decide +kernel
theorem dX2_noteFitting_7 : decode cX2_noteFitting 7 = .ok (.putfield 45, 3) := by decide +kernel
theorem dX2_noteFitting_10 : decode cX2_noteFitting 10 = .ok (.iconst 0, 1) := by decide +kernel
theorem dX2_noteFitting_11 : decode cX2_noteFitting 11 = .ok (.istore_n 1, 1) := by decide +kernel
theorem dX2_noteFitting_12 : decode cX2_noteFitting 12 = .ok (.iload_n 1, 1) := by decide +kernel
theorem dX2_noteFitting_13 : decode cX2_noteFitting 13 = .ok (.aload_n 0, 1) := by decide +kernel
theorem dX2_noteFitting_14 : decode cX2_noteFitting 14 = .ok (.getfield 38, 3) := by decide +kernel
theorem dX2_noteFitting_17 : decode cX2_noteFitting 17 = .ok (.getfield 74, 3) := by decide +kernel
theorem dX2_noteFitting_20 : decode cX2_noteFitting 20 = .ok (.if_icmp .ge 26, 3) := by decide +kernel
theorem dX2_noteFitting_23 : decode cX2_noteFitting 23 = .ok (.aload_n 0, 1) := by decide +kernel
theorem dX2_noteFitting_24 : decode cX2_noteFitting 24 = .ok (.getfield 29, 3) := by decide +kernel
theorem dX2_noteFitting_27 : decode cX2_noteFitting 27 = .ok (.iload_n 1, 1) := by decide +kernel
theorem dX2_noteFitting_28 : decode cX2_noteFitting 28 = .ok (.dup2, 1) := by decide +kernel
theorem dX2_noteFitting_29 : decode cX2_noteFitting 29 = .ok (.iaload, 1) := by decide +kernel
theorem dX2_noteFitting_30 : decode cX2_noteFitting 30 = .ok (.iconst 1, 1) := by decide +kernel
theorem dX2_noteFitting_31 : decode cX2_noteFitting 31 = .ok (.aload_n 0, 1) := by decide +kernel
theorem dX2_noteFitting_32 : decode cX2_noteFitting 32 = .ok (.getfield 18, 3) := by decide +kernel
theorem dX2_noteFitting_35 : decode cX2_noteFitting 35 = .ok (.iload_n 1, 1) := by decide +kernel
theorem dX2_noteFitting_36 : decode cX2_noteFitting 36 = .ok (.iaload, 1) := by decide +kernel
theorem dX2_noteFitting_37 : decode cX2_noteFitting 37 = .ok (.ishl, 1) := by decide +kernel
theorem dX2_noteFitting_38 : decode cX2_noteFitting 38 = .ok (.ior, 1) := by decide +kernel
theorem dX2_noteFitting_39 : decode cX2_noteFitting 39 = .ok (.iastore, 1) := by decide +kernel
theorem dX2_noteFitting_40 : decode cX2_noteFitting 40 = .ok (.iinc 1 1, 3) := by decide +kernel
theorem dX2_noteFitting_43 : decode cX2_noteFitting 43 = .ok (.goto (-31), 3) := by decide +kernel
theorem dX2_noteFitting_46 : decode cX2_noteFitting 46 = .ok (.iconst 1, 1) := by decide +kernel
theorem dX2_noteFitting_47 : decode cX2_noteFitting 47 = .ok (.istore_n 1, 1) := by decide +kernel
theorem dX2_noteFitting_48 : decode cX2_noteFitting 48 = .ok (.iload_n 1, 1) := by decide +kernel
theorem dX2_noteFitting_49 : decode cX2_noteFitting 49 = .ok (.bipush 40, 2) := by decide +kernel
theorem dX2_noteFitting_51 : decode cX2_noteFitting 51 = .ok (.if_icmp .gt 27, 3) := by decide +kernel
theorem dX2_noteFitting_54 : decode cX2_noteFitting 54 = .ok (.aload_n 0, 1) := by decide +kernel
theorem dX2_noteFitting_55 : decode cX2_noteFitting 55 = .ok (.getfield 32, 3) := by decide +kernel
theorem dX2_noteFitting_58 : decode cX2_noteFitting 58 = .ok (.iload_n 1, 1) := by decide +kernel
theorem dX2_noteFitting_59 : decode cX2_noteFitting 59 = .ok (.dup2, 1) := by decide +kernel
theorem dX2_noteFitting_60 : decode cX2_noteFitting 60 = .ok (.iaload, 1) := by decide +kernel
theorem dX2_noteFitting_61 : decode cX2_noteFitting 61 = .ok (.aload_n 0, 1) := by decide +kernel
theorem dX2_noteFitting_62 : decode cX2_noteFitting 62 = .ok (.getfield 141, 3) := by decide +kernel
theorem dX2_noteFitting_65 : decode cX2_noteFitting 65 = .ok (.iload_n 1, 1) := by decide +kernel
theorem dX2_noteFitting_66 : decode cX2_noteFitting 66 = .ok (.lshr, 1) := by decide +kernel
theorem dX2_noteFitting_67 : decode cX2_noteFitting 67 = .ok (.lconst 1, 1) := by decide +kernel
theorem dX2_noteFitting_68 : decode cX2_noteFitting 68 = .ok (.land, 1) := by decide +kernel
theorem dX2_noteFitting_69 : decode cX2_noteFitting 69 = .ok (.l2i, 1) := by decide +kernel
theorem dX2_noteFitting_70 : decode cX2_noteFitting 70 = .ok (.iadd, 1) := by decide +kernel
theorem dX2_noteFitting_71 : decode cX2_noteFitting 71 = .ok (.iastore, 1) := by decide +kernel
theorem dX2_noteFitting_72 : decode cX2_noteFitting 72 = .ok (.iinc 1 1, 3) := by decide +kernel
theorem dX2_noteFitting_75 : decode cX2_noteFitting 75 = .ok (.goto (-27), 3) := by decide +kernel
theorem dX2_noteFitting_78 : decode cX2_noteFitting 78 = .ok (.return_, 1) := by decide +kernel
theorem dX2_rowNumber_0 : decode cX2_rowNumber 0 = .ok (.iconst 1, 1) := by decide +kernel
theorem dX2_rowNumber_1 : decode cX2_rowNumber 1 = .ok (.istore_n 1, 1) := by decide +kernel
theorem dX2_rowNumber_2 : decode cX2_rowNumber 2 = .ok (.iconst 0, 1) := by decide +kernel
theorem dX2_rowNumber_3 : decode cX2_rowNumber 3 = .ok (.istore_n 2, 1) := by decide +kernel
theorem dX2_rowNumber_4 : decode cX2_rowNumber 4 = .ok (.iload_n 2, 1) := by decide +kernel
theorem dX2_rowNumber_5 : decode cX2_rowNumber 5 = .ok (.aload_n 0, 1) := by decide +kernel
theorem dX2_rowNumber_6 : decode cX2_rowNumber 6 = .ok (.getfield 38, 3) := by decide +kernel
theorem dX2_rowNumber_9 : decode cX2_rowNumber 9 = .ok (.getfield 74, 3) := by decide +kernel
theorem dX2_rowNumber_12 : decode cX2_rowNumber 12 = .ok (.if_icmp .ge 21, 3) := by decide +kernel
theorem dX2_rowNumber_15 : decode cX2_rowNumber 15 = .ok (.iload_n 1, 1) := by decide +kernel
theorem dX2_rowNumber_16 : decode cX2_rowNumber 16 = .ok (.bipush 10, 2) := by decide +kernel
theorem dX2_rowNumber_18 : decode cX2_rowNumber 18 = .ok (.imul, 1) := by decide +kernel
theorem dX2_rowNumber_19 : decode cX2_rowNumber 19 = .ok (.aload_n 0, 1) := by decide +kernel
theorem dX2_rowNumber_20 : decode cX2_rowNumber 20 = .ok (.getfield 18, 3) := by decide +kernel
theorem dX2_rowNumber_23 : decode cX2_rowNumber 23 = .ok (.iload_n 2, 1) := by decide +kernel
theorem dX2_rowNumber_24 : decode cX2_rowNumber 24 = .ok (.iaload, 1) := by decide +kernel
theorem dX2_rowNumber_25 : decode cX2_rowNumber 25 = .ok (.iadd, 1) := by decide +kernel
theorem dX2_rowNumber_26 : decode cX2_rowNumber 26 = .ok (.istore_n 1, 1) := by decide +kernel
theorem dX2_rowNumber_27 : decode cX2_rowNumber 27 = .ok (.iinc 2 1, 3) := by decide +kernel
theorem dX2_rowNumber_30 : decode cX2_rowNumber 30 = .ok (.goto (-26), 3) := by decide +kernel
theorem dX2_rowNumber_33 : decode cX2_rowNumber 33 = .ok (.iload_n 1, 1) := by decide +kernel
theorem dX2_rowNumber_34 : decode cX2_rowNumber 34 = .ok (.ireturn, 1) := by decide +kernel
theorem dX2_bestMinute_0 : decode cX2_bestMinute 0 = .ok (.iconst (-1), 1) := by decide +kernel
theorem dX2_bestMinute_1 : decode cX2_bestMinute 1 = .ok (.istore_n 1, 1) := by decide +kernel
theorem dX2_bestMinute_2 : decode cX2_bestMinute 2 = .ok (.aload_n 0, 1) := by decide +kernel
theorem dX2_bestMinute_3 : decode cX2_bestMinute 3 = .ok (.getfield 45, 3) := by decide +kernel
theorem dX2_bestMinute_6 : decode cX2_bestMinute 6 = .ok (.iconst 1, 1) := by decide +kernel
theorem dX2_bestMinute_7 : decode cX2_bestMinute 7 = .ok (.iadd, 1) := by decide +kernel
theorem dX2_bestMinute_8 : decode cX2_bestMinute 8 = .ok (.istore_n 2, 1) := by decide +kernel
theorem dX2_bestMinute_9 : decode cX2_bestMinute 9 = .ok (.iconst 1, 1) := by decide +kernel
theorem dX2_bestMinute_10 : decode cX2_bestMinute 10 = .ok (.istore_n 3, 1) := by decide +kernel
theorem dX2_bestMinute_11 : decode cX2_bestMinute 11 = .ok (.iload_n 3, 1) := by decide +kernel
theorem dX2_bestMinute_12 : decode cX2_bestMinute 12 = .ok (.bipush 40, 2) := by decide +kernel
theorem dX2_bestMinute_14 : decode cX2_bestMinute 14 = .ok (.if_icmp .gt 49, 3) := by decide +kernel
theorem dX2_bestMinute_17 : decode cX2_bestMinute 17 = .ok (.aload_n 0, 1) := by decide +kernel
theorem dX2_bestMinute_18 : decode cX2_bestMinute 18 = .ok (.getfield 45, 3) := by decide +kernel
theorem dX2_bestMinute_21 : decode cX2_bestMinute 21 = .ok (.ifCond .le 42, 3) := by decide +kernel
theorem dX2_bestMinute_24 : decode cX2_bestMinute 24 = .ok (.aload_n 0, 1) := by decide +kernel
theorem dX2_bestMinute_25 : decode cX2_bestMinute 25 = .ok (.getfield 32, 3) := by decide +kernel
theorem dX2_bestMinute_28 : decode cX2_bestMinute 28 = .ok (.iload_n 3, 1) := by decide +kernel
theorem dX2_bestMinute_29 : decode cX2_bestMinute 29 = .ok (.iaload, 1) := by decide +kernel
theorem dX2_bestMinute_30 : decode cX2_bestMinute 30 = .ok (.aload_n 0, 1) := by decide +kernel
theorem dX2_bestMinute_31 : decode cX2_bestMinute 31 = .ok (.getfield 45, 3) := by decide +kernel
theorem dX2_bestMinute_34 : decode cX2_bestMinute 34 = .ok (.aload_n 0, 1) := by decide +kernel
theorem dX2_bestMinute_35 : decode cX2_bestMinute 35 = .ok (.getfield 32, 3) := by decide +kernel
theorem dX2_bestMinute_38 : decode cX2_bestMinute 38 = .ok (.iload_n 3, 1) := by decide +kernel
theorem dX2_bestMinute_39 : decode cX2_bestMinute 39 = .ok (.iaload, 1) := by decide +kernel
theorem dX2_bestMinute_40 : decode cX2_bestMinute 40 = .ok (.isub, 1) := by decide +kernel
theorem dX2_bestMinute_41 : decode cX2_bestMinute 41 = .ok (.invokestatic 138, 3) := by decide +kernel
theorem dX2_bestMinute_44 : decode cX2_bestMinute 44 = .ok (.istore 4, 2) := by decide +kernel
theorem dX2_bestMinute_46 : decode cX2_bestMinute 46 = .ok (.iload 4, 2) := by decide +kernel
theorem dX2_bestMinute_48 : decode cX2_bestMinute 48 = .ok (.iload_n 2, 1) := by decide +kernel
theorem dX2_bestMinute_49 : decode cX2_bestMinute 49 = .ok (.if_icmp .ge 8, 3) := by decide +kernel
theorem dX2_bestMinute_52 : decode cX2_bestMinute 52 = .ok (.iload_n 3, 1) := by decide +kernel
theorem dX2_bestMinute_53 : decode cX2_bestMinute 53 = .ok (.istore_n 1, 1) := by decide +kernel
theorem dX2_bestMinute_54 : decode cX2_bestMinute 54 = .ok (.iload 4, 2) := by decide +kernel
theorem dX2_bestMinute_56 : decode cX2_bestMinute 56 = .ok (.istore_n 2, 1) := by decide +kernel
theorem dX2_bestMinute_57 : decode cX2_bestMinute 57 = .ok (.iinc 3 1, 3) := by decide +kernel
theorem dX2_bestMinute_60 : decode cX2_bestMinute 60 = .ok (.goto (-49), 3) := by decide +kernel
theorem dX2_bestMinute_63 : decode cX2_bestMinute 63 = .ok (.iload_n 1, 1) := by decide +kernel
theorem dX2_bestMinute_64 : decode cX2_bestMinute 64 = .ok (.ireturn, 1) := by decide +kernel
set_option maxRecDepth 20000 in
theorem ggX2_mayBeFull_X11_has : GoodIn wsX2_mayBeFull wsX11_has := goodIn_r _ [6] (by decide +kernel) (by decide +kernel)
set_option maxRecDepth 20000 in
theorem gX2_mayBeFull_X11_has_n147 : GoodIn wsX2_mayBeFull (wsX11_has) := ggX2_mayBeFull_X11_has
theorem dX2_mayBeFull_0 : decode cX2_mayBeFull 0 = .ok (.iconst 0, 1) := by decide +kernel
theorem dX2_mayBeFull_1 : decode cX2_mayBeFull 1 = .ok (.istore_n 2, 1) := by decide +kernel
theorem dX2_mayBeFull_2 : decode cX2_mayBeFull 2 = .ok (.iconst 0, 1) := by decide +kernel
theorem dX2_mayBeFull_3 : decode cX2_mayBeFull 3 = .ok (.istore_n 3, 1) := by decide +kernel
theorem dX2_mayBeFull_4 : decode cX2_mayBeFull 4 = .ok (.iload_n 3, 1) := by decide +kernel
theorem dX2_mayBeFull_5 : decode cX2_mayBeFull 5 = .ok (.aload_n 1, 1) := by decide +kernel
theorem dX2_mayBeFull_6 : decode cX2_mayBeFull 6 = .ok (.getfield 74, 3) := by decide +kernel
theorem dX2_mayBeFull_9 : decode cX2_mayBeFull 9 = .ok (.if_icmp .ge 37, 3) := by decide +kernel
theorem dX2_mayBeFull_12 : decode cX2_mayBeFull 12 = .ok (.iload_n 2, 1) := by decide +kernel
theorem dX2_mayBeFull_13 : decode cX2_mayBeFull 13 = .ok (.aload_n 0, 1) := by decide +kernel
theorem dX2_mayBeFull_14 : decode cX2_mayBeFull 14 = .ok (.getfield 29, 3) := by decide +kernel
theorem dX2_mayBeFull_17 : decode cX2_mayBeFull 17 = .ok (.iload_n 3, 1) := by decide +kernel
theorem dX2_mayBeFull_18 : decode cX2_mayBeFull 18 = .ok (.iaload, 1) := by decide +kernel
theorem dX2_mayBeFull_19 : decode cX2_mayBeFull 19 = .ok (.aload_n 1, 1) := by decide +kernel
theorem dX2_mayBeFull_20 : decode cX2_mayBeFull 20 = .ok (.getfield 79, 3) := by decide +kernel
theorem dX2_mayBeFull_23 : decode cX2_mayBeFull 23 = .ok (.iload_n 3, 1) := by decide +kernel
theorem dX2_mayBeFull_24 : decode cX2_mayBeFull 24 = .ok (.iaload, 1) := by decide +kernel
theorem dX2_mayBeFull_25 : decode cX2_mayBeFull 25 = .ok (.invokestatic 147, 3) := by decide +kernel
theorem dX2_mayBeFull_28 : decode cX2_mayBeFull 28 = .ok (.ifCond .eq 9, 3) := by decide +kernel
theorem dX2_mayBeFull_31 : decode cX2_mayBeFull 31 = .ok (.iconst 1, 1) := by decide +kernel
theorem dX2_mayBeFull_32 : decode cX2_mayBeFull 32 = .ok (.iload_n 3, 1) := by decide +kernel
theorem dX2_mayBeFull_33 : decode cX2_mayBeFull 33 = .ok (.ishl, 1) := by decide +kernel
theorem dX2_mayBeFull_34 : decode cX2_mayBeFull 34 = .ok (.goto 4, 3) := by decide +kernel
theorem dX2_mayBeFull_37 : decode cX2_mayBeFull 37 = .ok (.iconst 0, 1) := by decide +kernel
theorem dX2_mayBeFull_38 : decode cX2_mayBeFull 38 = .ok (.ior, 1) := by decide +kernel
theorem dX2_mayBeFull_39 : decode cX2_mayBeFull 39 = .ok (.istore_n 2, 1) := by decide +kernel
theorem dX2_mayBeFull_40 : decode cX2_mayBeFull 40 = .ok (.iinc 3 1, 3) := by decide +kernel
theorem dX2_mayBeFull_43 : decode cX2_mayBeFull 43 = .ok (.goto (-39), 3) := by decide +kernel
theorem dX2_mayBeFull_46 : decode cX2_mayBeFull 46 = .ok (.iload_n 2, 1) := by decide +kernel
theorem dX2_mayBeFull_47 : decode cX2_mayBeFull 47 = .ok (.ireturn, 1) := by decide +kernel
set_option maxRecDepth 20000 in
theorem ggX2_mayBeEmpty_X11_has : GoodIn wsX2_mayBeEmpty wsX11_has := goodIn_r _ [5] (by decide +kernel) (by decide +kernel)
set_option maxRecDepth 20000 in
theorem gX2_mayBeEmpty_X11_has_n147 : GoodIn wsX2_mayBeEmpty (wsX11_has) := ggX2_mayBeEmpty_X11_has
theorem dX2_mayBeEmpty_0 : decode cX2_mayBeEmpty 0 = .ok (.iconst 0, 1) := by decide +kernel
theorem dX2_mayBeEmpty_1 : decode cX2_mayBeEmpty 1 = .ok (.istore_n 2, 1) := by decide +kernel
theorem dX2_mayBeEmpty_2 : decode cX2_mayBeEmpty 2 = .ok (.iconst 0, 1) := by decide +kernel
theorem dX2_mayBeEmpty_3 : decode cX2_mayBeEmpty 3 = .ok (.istore_n 3, 1) := by decide +kernel
theorem dX2_mayBeEmpty_4 : decode cX2_mayBeEmpty 4 = .ok (.iload_n 3, 1) := by decide +kernel
theorem dX2_mayBeEmpty_5 : decode cX2_mayBeEmpty 5 = .ok (.aload_n 1, 1) := by decide +kernel
theorem dX2_mayBeEmpty_6 : decode cX2_mayBeEmpty 6 = .ok (.getfield 74, 3) := by decide +kernel
theorem dX2_mayBeEmpty_9 : decode cX2_mayBeEmpty 9 = .ok (.if_icmp .ge 32, 3) := by decide +kernel
theorem dX2_mayBeEmpty_12 : decode cX2_mayBeEmpty 12 = .ok (.iload_n 2, 1) := by decide +kernel
theorem dX2_mayBeEmpty_13 : decode cX2_mayBeEmpty 13 = .ok (.aload_n 0, 1) := by decide +kernel
theorem dX2_mayBeEmpty_14 : decode cX2_mayBeEmpty 14 = .ok (.getfield 29, 3) := by decide +kernel
theorem dX2_mayBeEmpty_17 : decode cX2_mayBeEmpty 17 = .ok (.iload_n 3, 1) := by decide +kernel
theorem dX2_mayBeEmpty_18 : decode cX2_mayBeEmpty 18 = .ok (.iaload, 1) := by decide +kernel
theorem dX2_mayBeEmpty_19 : decode cX2_mayBeEmpty 19 = .ok (.iconst 0, 1) := by decide +kernel
theorem dX2_mayBeEmpty_20 : decode cX2_mayBeEmpty 20 = .ok (.invokestatic 147, 3) := by decide +kernel
theorem dX2_mayBeEmpty_23 : decode cX2_mayBeEmpty 23 = .ok (.ifCond .eq 9, 3) := by decide +kernel
theorem dX2_mayBeEmpty_26 : decode cX2_mayBeEmpty 26 = .ok (.iconst 1, 1) := by decide +kernel
theorem dX2_mayBeEmpty_27 : decode cX2_mayBeEmpty 27 = .ok (.iload_n 3, 1) := by decide +kernel
theorem dX2_mayBeEmpty_28 : decode cX2_mayBeEmpty 28 = .ok (.ishl, 1) := by decide +kernel
theorem dX2_mayBeEmpty_29 : decode cX2_mayBeEmpty 29 = .ok (.goto 4, 3) := by decide +kernel
theorem dX2_mayBeEmpty_32 : decode cX2_mayBeEmpty 32 = .ok (.iconst 0, 1) := by decide +kernel
theorem dX2_mayBeEmpty_33 : decode cX2_mayBeEmpty 33 = .ok (.ior, 1) := by decide +kernel
theorem dX2_mayBeEmpty_34 : decode cX2_mayBeEmpty 34 = .ok (.istore_n 2, 1) := by decide +kernel
theorem dX2_mayBeEmpty_35 : decode cX2_mayBeEmpty 35 = .ok (.iinc 3 1, 3) := by decide +kernel
theorem dX2_mayBeEmpty_38 : decode cX2_mayBeEmpty 38 = .ok (.goto (-34), 3) := by decide +kernel
theorem dX2_mayBeEmpty_41 : decode cX2_mayBeEmpty 41 = .ok (.iload_n 2, 1) := by decide +kernel
theorem dX2_mayBeEmpty_42 : decode cX2_mayBeEmpty 42 = .ok (.ireturn, 1) := by decide +kernel
set_option maxRecDepth 20000 in
theorem ggX2_sureTop_J6_bitCount_0f7a4 : GoodIn wsX2_sureTop wsJ6_bitCount_0f7a4 := goodIn_r _ [5, 6, 7, 8] (by decide +kernel) (by decide +kernel)
set_option maxRecDepth 20000 in
theorem gX2_sureTop_J6_bitCount_0f7a4 : GoodIn wsX2_sureTop (va_wsS RX2 151 yJ6_bitCount_0f7a4 wsJ6_bitCount_0f7a4) := goodIn_app (goodIn_of _ (by decide +kernel)) ggX2_sureTop_J6_bitCount_0f7a4
set_option maxRecDepth 20000 in
theorem ggX2_sureTop_X11_lowest : GoodIn wsX2_sureTop wsX11_lowest := goodIn_r _ [11, 12, 13, 10, 14] (by decide +kernel) (by decide +kernel)
set_option maxRecDepth 20000 in
theorem gX2_sureTop_X11_lowest_n157 : GoodIn wsX2_sureTop (wsX11_lowest) := ggX2_sureTop_X11_lowest
theorem dX2_sureTop_0 : decode cX2_sureTop 0 = .ok (.iload_n 1, 1) := by decide +kernel
theorem dX2_sureTop_1 : decode cX2_sureTop 1 = .ok (.ifCond .lt 21, 3) := by decide +kernel
theorem dX2_sureTop_4 : decode cX2_sureTop 4 = .ok (.iload_n 1, 1) := by decide +kernel
theorem dX2_sureTop_5 : decode cX2_sureTop 5 = .ok (.iconst 4, 1) := by decide +kernel
theorem dX2_sureTop_6 : decode cX2_sureTop 6 = .ok (.if_icmp .ge 16, 3) := by decide +kernel
theorem dX2_sureTop_9 : decode cX2_sureTop 9 = .ok (.aload_n 0, 1) := by decide +kernel
theorem dX2_sureTop_10 : decode cX2_sureTop 10 = .ok (.getfield 29, 3) := by decide +kernel
theorem dX2_sureTop_13 : decode cX2_sureTop 13 = .ok (.iload_n 1, 1) := by decide +kernel
theorem dX2_sureTop_14 : decode cX2_sureTop 14 = .ok (.iaload, 1) := by decide +kernel
theorem dX2_sureTop_15 : decode cX2_sureTop 15 = .ok (.invokestatic 151, 3) := by decide +kernel
theorem dX2_sureTop_18 : decode cX2_sureTop 18 = .ok (.iconst 1, 1) := by decide +kernel
theorem dX2_sureTop_19 : decode cX2_sureTop 19 = .ok (.if_icmp .eq 5, 3) := by decide +kernel
theorem dX2_sureTop_22 : decode cX2_sureTop 22 = .ok (.iconst (-1), 1) := by decide +kernel
theorem dX2_sureTop_23 : decode cX2_sureTop 23 = .ok (.ireturn, 1) := by decide +kernel
theorem dX2_sureTop_24 : decode cX2_sureTop 24 = .ok (.aload_n 0, 1) := by decide +kernel
theorem dX2_sureTop_25 : decode cX2_sureTop 25 = .ok (.getfield 29, 3) := by decide +kernel
theorem dX2_sureTop_28 : decode cX2_sureTop 28 = .ok (.iload_n 1, 1) := by decide +kernel
theorem dX2_sureTop_29 : decode cX2_sureTop 29 = .ok (.iaload, 1) := by decide +kernel
theorem dX2_sureTop_30 : decode cX2_sureTop 30 = .ok (.invokestatic 157, 3) := by decide +kernel
theorem dX2_sureTop_33 : decode cX2_sureTop 33 = .ok (.ireturn, 1) := by decide +kernel
theorem dX3_init_0 : decode cX3_init 0 = .ok (.aload_n 0, 1) := by decide +kernel
theorem dX3_init_1 : decode cX3_init 1 = .ok (.invokespecial 3, 3) := by decide +kernel
theorem dX3_init_4 : decode cX3_init 4 = .ok (.aload_n 0, 1) := by decide +kernel
theorem dX3_init_5 : decode cX3_init 5 = .ok (.bipush 16, 2) := by decide +kernel
theorem dX3_init_7 : decode cX3_init 7 = .ok (.newarray .int, 2) := by decide +kernel
theorem dX3_init_9 : decode cX3_init 9 = .ok (.putfield 9, 3) := by decide +kernel
theorem dX3_init_12 : decode cX3_init 12 = .ok (.aload_n 0, 1) := by decide +kernel
theorem dX3_init_13 : decode cX3_init 13 = .ok (.aload_n 1, 1) := by decide +kernel
theorem dX3_init_14 : decode cX3_init 14 = .ok (.putfield 15, 3) := by decide +kernel
theorem dX3_init_17 : decode cX3_init 17 = .ok (.aload_n 0, 1) := by decide +kernel
theorem dX3_init_18 : decode cX3_init 18 = .ok (.aload_n 1, 1) := by decide +kernel
theorem dX3_init_19 : decode cX3_init 19 = .ok (.getfield 19, 3) := by decide +kernel
theorem dX3_init_22 : decode cX3_init 22 = .ok (.arraylength, 1) := by decide +kernel
theorem dX3_init_23 : decode cX3_init 23 = .ok (.putfield 24, 3) := by decide +kernel
theorem dX3_init_26 : decode cX3_init 26 = .ok (.aload_n 0, 1) := by decide +kernel
theorem dX3_init_27 : decode cX3_init 27 = .ok (.aload_n 0, 1) := by decide +kernel
theorem dX3_init_28 : decode cX3_init 28 = .ok (.getfield 24, 3) := by decide +kernel
theorem dX3_init_31 : decode cX3_init 31 = .ok (.newarray .int, 2) := by decide +kernel
theorem dX3_init_33 : decode cX3_init 33 = .ok (.putfield 28, 3) := by decide +kernel
theorem dX3_init_36 : decode cX3_init 36 = .ok (.aload_n 0, 1) := by decide +kernel
theorem dX3_init_37 : decode cX3_init 37 = .ok (.bipush 31, 2) := by decide +kernel
theorem dX3_init_39 : decode cX3_init 39 = .ok (.aload_n 0, 1) := by decide +kernel
theorem dX3_init_40 : decode cX3_init 40 = .ok (.getfield 24, 3) := by decide +kernel
theorem dX3_init_43 : decode cX3_init 43 = .ok (.imul, 1) := by decide +kernel
theorem dX3_init_44 : decode cX3_init 44 = .ok (.newarray .int, 2) := by decide +kernel
theorem dX3_init_46 : decode cX3_init 46 = .ok (.putfield 31, 3) := by decide +kernel
theorem dX3_init_49 : decode cX3_init 49 = .ok (.return_, 1) := by decide +kernel
set_option maxRecDepth 20000 in
theorem ggX3_workOut_X3_by : GoodIn wsX3_workOut wsX3_by := goodIn_r _ [15, 1, 16, 2, 3, 17, 18, 9, 10, 19, 20, 21, 22, 23, 24, 25, 26, 27, 28, 29, 30, 31, 32] (by decide +kernel) (by decide +kernel)
set_option maxRecDepth 20000 in
theorem gX3_workOut_X3_by : GoodIn wsX3_workOut (wsV RX3 41 RX3 yX3_by wsX3_by) := goodIn_app (goodIn_of _ (by decide +kernel)) ggX3_workOut_X3_by
theorem dX3_workOut_0 : decode cX3_workOut 0 = .ok (.iconst 1, 1) := by decide +kernel
theorem dX3_workOut_1 : decode cX3_workOut 1 = .ok (.istore_n 2, 1) := by decide +kernel
theorem dX3_workOut_2 : decode cX3_workOut 2 = .ok (.iload_n 2, 1) := by decide +kernel
theorem dX3_workOut_3 : decode cX3_workOut 3 = .ok (.iload_n 1, 1) := by decide +kernel
theorem dX3_workOut_4 : decode cX3_workOut 4 = .ok (.if_icmp .gt 89, 3) := by decide +kernel
theorem dX3_workOut_7 : decode cX3_workOut 7 = .ok (.iload_n 2, 1) := by decide +kernel
theorem dX3_workOut_8 : decode cX3_workOut 8 = .ok (.bipush 30, 2) := by decide +kernel
theorem dX3_workOut_10 : decode cX3_workOut 10 = .ok (.if_icmp .gt 83, 3) := by decide +kernel
theorem dX3_workOut_13 : decode cX3_workOut 13 = .ok (.iconst 0, 1) := by decide +kernel
theorem dX3_workOut_14 : decode cX3_workOut 14 = .ok (.istore_n 3, 1) := by decide +kernel
theorem dX3_workOut_15 : decode cX3_workOut 15 = .ok (.iload_n 3, 1) := by decide +kernel
theorem dX3_workOut_16 : decode cX3_workOut 16 = .ok (.aload_n 0, 1) := by decide +kernel
theorem dX3_workOut_17 : decode cX3_workOut 17 = .ok (.getfield 15, 3) := by decide +kernel
theorem dX3_workOut_20 : decode cX3_workOut 20 = .ok (.getfield 34, 3) := by decide +kernel
theorem dX3_workOut_23 : decode cX3_workOut 23 = .ok (.if_icmp .ge 64, 3) := by decide +kernel
theorem dX3_workOut_26 : decode cX3_workOut 26 = .ok (.ldc 37, 2) := by decide +kernel
theorem dX3_workOut_28 : decode cX3_workOut 28 = .ok (.istore 4, 2) := by decide +kernel
theorem dX3_workOut_30 : decode cX3_workOut 30 = .ok (.iconst 0, 1) := by decide +kernel
theorem dX3_workOut_31 : decode cX3_workOut 31 = .ok (.istore 5, 2) := by decide +kernel
theorem dX3_workOut_33 : decode cX3_workOut 33 = .ok (.iload 5, 2) := by decide +kernel
theorem dX3_workOut_35 : decode cX3_workOut 35 = .ok (.aload_n 0, 1) := by decide +kernel
theorem dX3_workOut_36 : decode cX3_workOut 36 = .ok (.getfield 15, 3) := by decide +kernel
theorem dX3_workOut_39 : decode cX3_workOut 39 = .ok (.getfield 38, 3) := by decide +kernel
theorem dX3_workOut_42 : decode cX3_workOut 42 = .ok (.if_icmp .ge 24, 3) := by decide +kernel
theorem dX3_workOut_45 : decode cX3_workOut 45 = .ok (.iload 4, 2) := by decide +kernel
theorem dX3_workOut_47 : decode cX3_workOut 47 = .ok (.aload_n 0, 1) := by decide +kernel
theorem dX3_workOut_48 : decode cX3_workOut 48 = .ok (.iload_n 3, 1) := by decide +kernel
theorem dX3_workOut_49 : decode cX3_workOut 49 = .ok (.iload 5, 2) := by decide +kernel
theorem dX3_workOut_51 : decode cX3_workOut 51 = .ok (.iload_n 2, 1) := by decide +kernel
theorem dX3_workOut_52 : decode cX3_workOut 52 = .ok (.invokevirtual 41, 3) := by decide +kernel
theorem dX3_workOut_55 : decode cX3_workOut 55 = .ok (.invokestatic 45, 3) := by decide +kernel
theorem dX3_workOut_58 : decode cX3_workOut 58 = .ok (.istore 4, 2) := by decide +kernel
theorem dX3_workOut_60 : decode cX3_workOut 60 = .ok (.iinc 5 1, 3) := by decide +kernel
theorem dX3_workOut_63 : decode cX3_workOut 63 = .ok (.goto (-30), 3) := by decide +kernel
theorem dX3_workOut_66 : decode cX3_workOut 66 = .ok (.aload_n 0, 1) := by decide +kernel
theorem dX3_workOut_67 : decode cX3_workOut 67 = .ok (.getfield 31, 3) := by decide +kernel
theorem dX3_workOut_70 : decode cX3_workOut 70 = .ok (.iload_n 2, 1) := by decide +kernel
theorem dX3_workOut_71 : decode cX3_workOut 71 = .ok (.aload_n 0, 1) := by decide +kernel
theorem dX3_workOut_72 : decode cX3_workOut 72 = .ok (.getfield 24, 3) := by decide +kernel
theorem dX3_workOut_75 : decode cX3_workOut 75 = .ok (.imul, 1) := by decide +kernel
theorem dX3_workOut_76 : decode cX3_workOut 76 = .ok (.iload_n 3, 1) := by decide +kernel
theorem dX3_workOut_77 : decode cX3_workOut 77 = .ok (.iadd, 1) := by decide +kernel
theorem dX3_workOut_78 : decode cX3_workOut 78 = .ok (.iload 4, 2) := by decide +kernel
theorem dX3_workOut_80 : decode cX3_workOut 80 = .ok (.iastore, 1) := by decide +kernel
theorem dX3_workOut_81 : decode cX3_workOut 81 = .ok (.iinc 3 1, 3) := by decide +kernel
theorem dX3_workOut_84 : decode cX3_workOut 84 = .ok (.goto (-69), 3) := by decide +kernel
theorem dX3_workOut_87 : decode cX3_workOut 87 = .ok (.iinc 2 1, 3) := by decide +kernel
theorem dX3_workOut_90 : decode cX3_workOut 90 = .ok (.goto (-88), 3) := by decide +kernel
theorem dX3_workOut_93 : decode cX3_workOut 93 = .ok (.return_, 1) := by decide +kernel
theorem dX3_of_0 : decode cX3_of 0 = .ok (.iload_n 2, 1) := by decide +kernel
theorem dX3_of_1 : decode cX3_of 1 = .ok (.iconst 1, 1) := by decide +kernel
theorem dX3_of_2 : decode cX3_of 2 = .ok (.if_icmp .lt 25, 3) := by decide +kernel
theorem dX3_of_5 : decode cX3_of 5 = .ok (.iload_n 2, 1) := by decide +kernel
theorem dX3_of_6 : decode cX3_of 6 = .ok (.bipush 30, 2) := by decide +kernel
theorem dX3_of_8 : decode cX3_of 8 = .ok (.if_icmp .gt 19, 3) := by decide +kernel
theorem dX3_of_11 : decode cX3_of 11 = .ok (.aload_n 0, 1) := by decide +kernel
theorem dX3_of_12 : decode cX3_of 12 = .ok (.getfield 31, 3) := by decide +kernel
theorem dX3_of_15 : decode cX3_of 15 = .ok (.iload_n 2, 1) := by decide +kernel
theorem dX3_of_16 : decode cX3_of 16 = .ok (.aload_n 0, 1) := by decide +kernel
theorem dX3_of_17 : decode cX3_of 17 = .ok (.getfield 24, 3) := by decide +kernel
theorem dX3_of_20 : decode cX3_of 20 = .ok (.imul, 1) := by decide +kernel
theorem dX3_of_21 : decode cX3_of 21 = .ok (.iload_n 1, 1) := by decide +kernel
theorem dX3_of_22 : decode cX3_of 22 = .ok (.iadd, 1) := by decide +kernel
theorem dX3_of_23 : decode cX3_of 23 = .ok (.iaload, 1) := by decide +kernel
theorem dX3_of_24 : decode cX3_of 24 = .ok (.goto 5, 3) := by decide +kernel
theorem dX3_of_27 : decode cX3_of 27 = .ok (.ldc 37, 2) := by decide +kernel
theorem dX3_of_29 : decode cX3_of 29 = .ok (.ireturn, 1) := by decide +kernel
theorem dX3_by_0 : decode cX3_by 0 = .ok (.aload_n 0, 1) := by decide +kernel
theorem dX3_by_1 : decode cX3_by 1 = .ok (.getfield 15, 3) := by decide +kernel
theorem dX3_by_4 : decode cX3_by 4 = .ok (.getfield 51, 3) := by decide +kernel
theorem dX3_by_7 : decode cX3_by 7 = .ok (.iload_n 1, 1) := by decide +kernel
theorem dX3_by_8 : decode cX3_by 8 = .ok (.bipush 16, 2) := by decide +kernel
theorem dX3_by_10 : decode cX3_by 10 = .ok (.imul, 1) := by decide +kernel
theorem dX3_by_11 : decode cX3_by 11 = .ok (.iload_n 2, 1) := by decide +kernel
theorem dX3_by_12 : decode cX3_by 12 = .ok (.iadd, 1) := by decide +kernel
theorem dX3_by_13 : decode cX3_by 13 = .ok (.iaload, 1) := by decide +kernel
theorem dX3_by_14 : decode cX3_by 14 = .ok (.istore 4, 2) := by decide +kernel
theorem dX3_by_16 : decode cX3_by 16 = .ok (.iload_n 3, 1) := by decide +kernel
theorem dX3_by_17 : decode cX3_by 17 = .ok (.iload 4, 2) := by decide +kernel
theorem dX3_by_19 : decode cX3_by 19 = .ok (.bipush 12, 2) := by decide +kernel
theorem dX3_by_21 : decode cX3_by 21 = .ok (.ishr, 1) := by decide +kernel
theorem dX3_by_22 : decode cX3_by 22 = .ok (.isub, 1) := by decide +kernel
theorem dX3_by_23 : decode cX3_by 23 = .ok (.istore 5, 2) := by decide +kernel
theorem dX3_by_25 : decode cX3_by 25 = .ok (.iload 4, 2) := by decide +kernel
theorem dX3_by_27 : decode cX3_by 27 = .ok (.sipush 4095, 3) := by decide +kernel
theorem dX3_by_30 : decode cX3_by 30 = .ok (.iand, 1) := by decide +kernel
theorem dX3_by_31 : decode cX3_by 31 = .ok (.istore 6, 2) := by decide +kernel
theorem dX3_by_33 : decode cX3_by 33 = .ok (.iload 4, 2) := by decide +kernel
theorem dX3_by_35 : decode cX3_by 35 = .ok (.ifCond .eq 20, 3) := by decide +kernel
theorem dX3_by_38 : decode cX3_by 38 = .ok (.iload 5, 2) := by decide +kernel
theorem dX3_by_40 : decode cX3_by 40 = .ok (.ifCond .lt 15, 3) := by decide +kernel
theorem dX3_by_43 : decode cX3_by 43 = .ok (.iload 6, 2) := by decide +kernel
theorem dX3_by_45 : decode cX3_by 45 = .ok (.aload_n 0, 1) := by decide +kernel
theorem dX3_by_46 : decode cX3_by 46 = .ok (.getfield 15, 3) := by decide +kernel
theorem dX3_by_49 : decode cX3_by 49 = .ok (.getfield 34, 3) := by decide +kernel
theorem dX3_by_52 : decode cX3_by 52 = .ok (.if_icmp .lt 6, 3) := by decide +kernel
theorem dX3_by_55 : decode cX3_by 55 = .ok (.ldc 37, 2) := by decide +kernel
theorem dX3_by_57 : decode cX3_by 57 = .ok (.ireturn, 1) := by decide +kernel
theorem dX3_by_58 : decode cX3_by 58 = .ok (.aload_n 0, 1) := by decide +kernel
theorem dX3_by_59 : decode cX3_by 59 = .ok (.getfield 9, 3) := by decide +kernel
theorem dX3_by_62 : decode cX3_by 62 = .ok (.iload_n 2, 1) := by decide +kernel
theorem dX3_by_63 : decode cX3_by 63 = .ok (.iaload, 1) := by decide +kernel
theorem dX3_by_64 : decode cX3_by 64 = .ok (.iload 5, 2) := by decide +kernel
theorem dX3_by_66 : decode cX3_by 66 = .ok (.ifCond .ne 13, 3) := by decide +kernel
theorem dX3_by_69 : decode cX3_by 69 = .ok (.aload_n 0, 1) := by decide +kernel
theorem dX3_by_70 : decode cX3_by 70 = .ok (.getfield 28, 3) := by decide +kernel
theorem dX3_by_73 : decode cX3_by 73 = .ok (.iload 6, 2) := by decide +kernel
theorem dX3_by_75 : decode cX3_by 75 = .ok (.iaload, 1) := by decide +kernel
theorem dX3_by_76 : decode cX3_by 76 = .ok (.goto 18, 3) := by decide +kernel
theorem dX3_by_79 : decode cX3_by 79 = .ok (.aload_n 0, 1) := by decide +kernel
theorem dX3_by_80 : decode cX3_by 80 = .ok (.getfield 31, 3) := by decide +kernel
theorem dX3_by_83 : decode cX3_by 83 = .ok (.iload 5, 2) := by decide +kernel
theorem dX3_by_85 : decode cX3_by 85 = .ok (.aload_n 0, 1) := by decide +kernel
theorem dX3_by_86 : decode cX3_by 86 = .ok (.getfield 24, 3) := by decide +kernel
theorem dX3_by_89 : decode cX3_by 89 = .ok (.imul, 1) := by decide +kernel
theorem dX3_by_90 : decode cX3_by 90 = .ok (.iload 6, 2) := by decide +kernel
theorem dX3_by_92 : decode cX3_by 92 = .ok (.iadd, 1) := by decide +kernel
theorem dX3_by_93 : decode cX3_by 93 = .ok (.iaload, 1) := by decide +kernel
theorem dX3_by_94 : decode cX3_by 94 = .ok (.iadd, 1) := by decide +kernel
theorem dX3_by_95 : decode cX3_by 95 = .ok (.ireturn, 1) := by decide +kernel
theorem dX4_init_0 : decode cX4_init 0 = .ok (.aload_n 0, 1) := by decide +kernel
theorem dX4_init_1 : decode cX4_init 1 = .ok (.invokespecial 3, 3) := by decide +kernel
theorem dX4_init_4 : decode cX4_init 4 = .ok (.aload_n 0, 1) := by decide +kernel
theorem dX4_init_5 : decode cX4_init 5 = .ok (.aload_n 1, 1) := by decide +kernel
theorem dX4_init_6 : decode cX4_init 6 = .ok (.putfield 9, 3) := by decide +kernel
theorem dX4_init_9 : decode cX4_init 9 = .ok (.return_, 1) := by decide +kernel
set_option maxRecDepth 20000 in
theorem ggX4_begin_X11_codeOf : GoodIn wsX4_begin wsX11_codeOf := goodIn_r _ [10] (by decide +kernel) (by decide +kernel)
set_option maxRecDepth 20000 in
theorem gX4_begin_X11_codeOf_n28 : GoodIn wsX4_begin (wsX11_codeOf) := ggX4_begin_X11_codeOf
theorem dX4_begin_0 : decode cX4_begin 0 = .ok (.aload_n 0, 1) := by decide +kernel
theorem dX4_begin_1 : decode cX4_begin 1 = .ok (.aload_n 1, 1) := by decide +kernel
theorem dX4_begin_2 : decode cX4_begin 2 = .ok (.getfield 15, 3) := by decide +kernel
theorem dX4_begin_5 : decode cX4_begin 5 = .ok (.putfield 21, 3) := by decide +kernel
theorem dX4_begin_8 : decode cX4_begin 8 = .ok (.aload_n 0, 1) := by decide +kernel
theorem dX4_begin_9 : decode cX4_begin 9 = .ok (.aload_n 1, 1) := by decide +kernel
theorem dX4_begin_10 : decode cX4_begin 10 = .ok (.getfield 24, 3) := by decide +kernel
theorem dX4_begin_13 : decode cX4_begin 13 = .ok (.aload_n 0, 1) := by decide +kernel
theorem dX4_begin_14 : decode cX4_begin 14 = .ok (.getfield 21, 3) := by decide +kernel
theorem dX4_begin_17 : decode cX4_begin 17 = .ok (.invokestatic 28, 3) := by decide +kernel
theorem dX4_begin_20 : decode cX4_begin 20 = .ok (.putfield 32, 3) := by decide +kernel
theorem dX4_begin_23 : decode cX4_begin 23 = .ok (.aload_n 0, 1) := by decide +kernel
theorem dX4_begin_24 : decode cX4_begin 24 = .ok (.aload_n 1, 1) := by decide +kernel
theorem dX4_begin_25 : decode cX4_begin 25 = .ok (.getfield 35, 3) := by decide +kernel
theorem dX4_begin_28 : decode cX4_begin 28 = .ok (.aload_n 0, 1) := by decide +kernel
theorem dX4_begin_29 : decode cX4_begin 29 = .ok (.getfield 21, 3) := by decide +kernel
theorem dX4_begin_32 : decode cX4_begin 32 = .ok (.invokestatic 28, 3) := by decide +kernel
theorem dX4_begin_35 : decode cX4_begin 35 = .ok (.putfield 38, 3) := by decide +kernel
theorem dX4_begin_38 : decode cX4_begin 38 = .ok (.aload_n 0, 1) := by decide +kernel
theorem dX4_begin_39 : decode cX4_begin 39 = .ok (.iconst 1, 1) := by decide +kernel
theorem dX4_begin_40 : decode cX4_begin 40 = .ok (.aload_n 0, 1) := by decide +kernel
theorem dX4_begin_41 : decode cX4_begin 41 = .ok (.getfield 21, 3) := by decide +kernel
theorem dX4_begin_44 : decode cX4_begin 44 = .ok (.ishl, 1) := by decide +kernel
theorem dX4_begin_45 : decode cX4_begin 45 = .ok (.putfield 41, 3) := by decide +kernel
theorem dX4_begin_48 : decode cX4_begin 48 = .ok (.return_, 1) := by decide +kernel
set_option maxRecDepth 20000 in
theorem ggX4_allTurned_X7_from : GoodIn wsX4_allTurned wsX7_from := goodIn_r _ [7, 8, 9, 10, 6, 11, 12, 13, 14, 15, 24, 25] (by decide +kernel) (by decide +kernel)
set_option maxRecDepth 20000 in
theorem gX4_allTurned_X7_from : GoodIn wsX4_allTurned (wsV RX4 44 RX7 yX7_from wsX7_from) := goodIn_app (goodIn_of _ (by decide +kernel)) ggX4_allTurned_X7_from
theorem dX4_allTurned_0 : decode cX4_allTurned 0 = .ok (.aload_n 0, 1) := by decide +kernel
theorem dX4_allTurned_1 : decode cX4_allTurned 1 = .ok (.getfield 9, 3) := by decide +kernel
theorem dX4_allTurned_4 : decode cX4_allTurned 4 = .ok (.aload_n 0, 1) := by decide +kernel
theorem dX4_allTurned_5 : decode cX4_allTurned 5 = .ok (.getfield 32, 3) := by decide +kernel
theorem dX4_allTurned_8 : decode cX4_allTurned 8 = .ok (.iload_n 1, 1) := by decide +kernel
theorem dX4_allTurned_9 : decode cX4_allTurned 9 = .ok (.isub, 1) := by decide +kernel
theorem dX4_allTurned_10 : decode cX4_allTurned 10 = .ok (.invokevirtual 44, 3) := by decide +kernel
theorem dX4_allTurned_13 : decode cX4_allTurned 13 = .ok (.ireturn, 1) := by decide +kernel
set_option maxRecDepth 20000 in
theorem ggX4_behind_X4_allTurned : GoodIn wsX4_behind wsX4_allTurned := goodIn_r _ [5, 6, 7, 8, 9, 10, 11, 12, 13, 14, 15, 16, 17, 18, 19, 20, 21, 22, 23, 24, 25, 26, 27, 28, 29, 30] (by decide +kernel) (by decide +kernel)
set_option maxRecDepth 20000 in
theorem gX4_behind_X4_allTurned : GoodIn wsX4_behind (wsV RX4 50 RX4 yX4_allTurned wsX4_allTurned) := goodIn_app (goodIn_of _ (by decide +kernel)) ggX4_behind_X4_allTurned
theorem dX4_behind_0 : decode cX4_behind 0 = .ok (.aload_n 0, 1) := by decide +kernel
theorem dX4_behind_1 : decode cX4_behind 1 = .ok (.iload_n 1, 1) := by decide +kernel
theorem dX4_behind_2 : decode cX4_behind 2 = .ok (.invokevirtual 50, 3) := by decide +kernel
theorem dX4_behind_5 : decode cX4_behind 5 = .ok (.sipush 4095, 3) := by decide +kernel
theorem dX4_behind_8 : decode cX4_behind 8 = .ok (.iand, 1) := by decide +kernel
theorem dX4_behind_9 : decode cX4_behind 9 = .ok (.ireturn, 1) := by decide +kernel
set_option maxRecDepth 20000 in
theorem ggX4_goRound_X4_allTurned : GoodIn wsX4_goRound wsX4_allTurned := goodIn_r _ [9, 10, 11, 12, 13, 14, 15, 16, 17, 18, 19, 20, 21, 22, 23, 24, 33, 34, 35, 36, 37, 38, 39, 40, 41, 42] (by decide +kernel) (by decide +kernel)
set_option maxRecDepth 20000 in
theorem gX4_goRound_X4_allTurned : GoodIn wsX4_goRound (wsV RX4 50 RX4 yX4_allTurned wsX4_allTurned) := goodIn_app (goodIn_of _ (by decide +kernel)) ggX4_goRound_X4_allTurned
set_option maxRecDepth 20000 in
theorem ggX4_goRound_X4_roundLength : GoodIn wsX4_goRound wsX4_roundLength := goodIn_r _ [28, 4, 29, 30, 31, 8, 32, 5, 6, 7, 9, 10, 11, 12, 13, 14, 15, 16, 17, 18, 19, 20, 21, 22, 23, 24, 33, 34, 35, 36, 37, 38, 39, 40, 41, 42] (by decide +kernel) (by decide +kernel)
set_option maxRecDepth 20000 in
theorem gX4_goRound_X4_roundLength : GoodIn wsX4_goRound (wsV RX4 62 RX4 yX4_roundLength wsX4_roundLength) := goodIn_app (goodIn_of _ (by decide +kernel)) ggX4_goRound_X4_roundLength
set_option maxRecDepth 20000 in
theorem ggX4_goRound_X4_behind : GoodIn wsX4_goRound wsX4_behind := goodIn_r _ [32, 5, 6, 7, 8, 9, 10, 11, 12, 13, 14, 15, 16, 17, 18, 19, 20, 21, 22, 23, 24, 33, 34, 35, 36, 37, 38, 39, 40, 41, 42] (by decide +kernel) (by decide +kernel)
set_option maxRecDepth 20000 in
theorem gX4_goRound_X4_behind : GoodIn wsX4_goRound (wsV RX4 66 RX4 yX4_behind wsX4_behind) := goodIn_app (goodIn_of _ (by decide +kernel)) ggX4_goRound_X4_behind
theorem dX4_goRound_0 : decode cX4_goRound 0 = .ok (.aload_n 0, 1) := by decide +kernel
theorem dX4_goRound_1 : decode cX4_goRound 1 = .ok (.iconst (-1), 1) := by decide +kernel
theorem dX4_goRound_2 : decode cX4_goRound 2 = .ok (.putfield 53, 3) := by decide +kernel
theorem dX4_goRound_5 : decode cX4_goRound 5 = .ok (.aload_n 0, 1) := by decide +kernel
theorem dX4_goRound_6 : decode cX4_goRound 6 = .ok (.iconst (-1), 1) := by decide +kernel
theorem dX4_goRound_7 : decode cX4_goRound 7 = .ok (.putfield 56, 3) := by decide +kernel
theorem dX4_goRound_10 : decode cX4_goRound 10 = .ok (.aload_n 0, 1) := by decide +kernel
theorem dX4_goRound_11 : decode cX4_goRound 11 = .ok (.iconst (-1), 1) := by decide +kernel
theorem dX4_goRound_12 : decode cX4_goRound 12 = .ok (.putfield 59, 3) := by decide +kernel
theorem dX4_goRound_15 : decode cX4_goRound 15 = .ok (.aload_n 0, 1) := by decide +kernel
theorem dX4_goRound_16 : decode cX4_goRound 16 = .ok (.aload_n 0, 1) := by decide +kernel
theorem dX4_goRound_17 : decode cX4_goRound 17 = .ok (.getfield 38, 3) := by decide +kernel
theorem dX4_goRound_20 : decode cX4_goRound 20 = .ok (.invokevirtual 50, 3) := by decide +kernel
theorem dX4_goRound_23 : decode cX4_goRound 23 = .ok (.ifCond .ne 4, 3) := by decide +kernel
theorem dX4_goRound_26 : decode cX4_goRound 26 = .ok (.return_, 1) := by decide +kernel
theorem dX4_goRound_27 : decode cX4_goRound 27 = .ok (.aload_n 0, 1) := by decide +kernel
theorem dX4_goRound_28 : decode cX4_goRound 28 = .ok (.aload_n 0, 1) := by decide +kernel
theorem dX4_goRound_29 : decode cX4_goRound 29 = .ok (.invokevirtual 62, 3) := by decide +kernel
theorem dX4_goRound_32 : decode cX4_goRound 32 = .ok (.putfield 56, 3) := by decide +kernel
theorem dX4_goRound_35 : decode cX4_goRound 35 = .ok (.aload_n 0, 1) := by decide +kernel
theorem dX4_goRound_36 : decode cX4_goRound 36 = .ok (.getfield 38, 3) := by decide +kernel
theorem dX4_goRound_39 : decode cX4_goRound 39 = .ok (.istore_n 1, 1) := by decide +kernel
theorem dX4_goRound_40 : decode cX4_goRound 40 = .ok (.aload_n 0, 1) := by decide +kernel
theorem dX4_goRound_41 : decode cX4_goRound 41 = .ok (.getfield 38, 3) := by decide +kernel
theorem dX4_goRound_44 : decode cX4_goRound 44 = .ok (.istore_n 2, 1) := by decide +kernel
theorem dX4_goRound_45 : decode cX4_goRound 45 = .ok (.iconst 0, 1) := by decide +kernel
theorem dX4_goRound_46 : decode cX4_goRound 46 = .ok (.istore_n 3, 1) := by decide +kernel
theorem dX4_goRound_47 : decode cX4_goRound 47 = .ok (.iload_n 3, 1) := by decide +kernel
theorem dX4_goRound_48 : decode cX4_goRound 48 = .ok (.aload_n 0, 1) := by decide +kernel
theorem dX4_goRound_49 : decode cX4_goRound 49 = .ok (.getfield 56, 3) := by decide +kernel
theorem dX4_goRound_52 : decode cX4_goRound 52 = .ok (.if_icmp .ge 15, 3) := by decide +kernel
theorem dX4_goRound_55 : decode cX4_goRound 55 = .ok (.aload_n 0, 1) := by decide +kernel
theorem dX4_goRound_56 : decode cX4_goRound 56 = .ok (.iload_n 2, 1) := by decide +kernel
theorem dX4_goRound_57 : decode cX4_goRound 57 = .ok (.invokevirtual 66, 3) := by decide +kernel
theorem dX4_goRound_60 : decode cX4_goRound 60 = .ok (.istore_n 2, 1) := by decide +kernel
theorem dX4_goRound_61 : decode cX4_goRound 61 = .ok (.iinc 3 1, 3) := by decide +kernel
theorem dX4_goRound_64 : decode cX4_goRound 64 = .ok (.goto (-17), 3) := by decide +kernel
theorem dX4_goRound_67 : decode cX4_goRound 67 = .ok (.aload_n 0, 1) := by decide +kernel
theorem dX4_goRound_68 : decode cX4_goRound 68 = .ok (.iconst 0, 1) := by decide +kernel
theorem dX4_goRound_69 : decode cX4_goRound 69 = .ok (.putfield 53, 3) := by decide +kernel
theorem dX4_goRound_72 : decode cX4_goRound 72 = .ok (.iconst 0, 1) := by decide +kernel
theorem dX4_goRound_73 : decode cX4_goRound 73 = .ok (.istore_n 3, 1) := by decide +kernel
theorem dX4_goRound_74 : decode cX4_goRound 74 = .ok (.iload_n 3, 1) := by decide +kernel
theorem dX4_goRound_75 : decode cX4_goRound 75 = .ok (.sipush 4096, 3) := by decide +kernel
theorem dX4_goRound_78 : decode cX4_goRound 78 = .ok (.if_icmp .ge 36, 3) := by decide +kernel
theorem dX4_goRound_81 : decode cX4_goRound 81 = .ok (.iload_n 1, 1) := by decide +kernel
theorem dX4_goRound_82 : decode cX4_goRound 82 = .ok (.iload_n 2, 1) := by decide +kernel
theorem dX4_goRound_83 : decode cX4_goRound 83 = .ok (.if_icmp .eq 31, 3) := by decide +kernel
theorem dX4_goRound_86 : decode cX4_goRound 86 = .ok (.aload_n 0, 1) := by decide +kernel
theorem dX4_goRound_87 : decode cX4_goRound 87 = .ok (.iload_n 1, 1) := by decide +kernel
theorem dX4_goRound_88 : decode cX4_goRound 88 = .ok (.invokevirtual 66, 3) := by decide +kernel
theorem dX4_goRound_91 : decode cX4_goRound 91 = .ok (.istore_n 1, 1) := by decide +kernel
theorem dX4_goRound_92 : decode cX4_goRound 92 = .ok (.aload_n 0, 1) := by decide +kernel
theorem dX4_goRound_93 : decode cX4_goRound 93 = .ok (.iload_n 2, 1) := by decide +kernel
theorem dX4_goRound_94 : decode cX4_goRound 94 = .ok (.invokevirtual 66, 3) := by decide +kernel
theorem dX4_goRound_97 : decode cX4_goRound 97 = .ok (.istore_n 2, 1) := by decide +kernel
theorem dX4_goRound_98 : decode cX4_goRound 98 = .ok (.aload_n 0, 1) := by decide +kernel
theorem dX4_goRound_99 : decode cX4_goRound 99 = .ok (.dup, 1) := by decide +kernel
theorem dX4_goRound_100 : decode cX4_goRound 100 = .ok (.getfield 53, 3) := by decide +kernel
theorem dX4_goRound_103 : decode cX4_goRound 103 = .ok (.iconst 1, 1) := by decide +kernel
theorem dX4_goRound_104 : decode cX4_goRound 104 = .ok (.iadd, 1) := by decide +kernel
theorem dX4_goRound_105 : decode cX4_goRound 105 = .ok (.putfield 53, 3) := by decide +kernel
theorem dX4_goRound_108 : decode cX4_goRound 108 = .ok (.iinc 3 1, 3) := by decide +kernel
theorem dX4_goRound_111 : decode cX4_goRound 111 = .ok (.goto (-37), 3) := by decide +kernel
theorem dX4_goRound_114 : decode cX4_goRound 114 = .ok (.aload_n 0, 1) := by decide +kernel
theorem dX4_goRound_115 : decode cX4_goRound 115 = .ok (.iconst 0, 1) := by decide +kernel
theorem dX4_goRound_116 : decode cX4_goRound 116 = .ok (.putfield 59, 3) := by decide +kernel
theorem dX4_goRound_119 : decode cX4_goRound 119 = .ok (.iconst 0, 1) := by decide +kernel
theorem dX4_goRound_120 : decode cX4_goRound 120 = .ok (.istore_n 3, 1) := by decide +kernel
theorem dX4_goRound_121 : decode cX4_goRound 121 = .ok (.iload_n 3, 1) := by decide +kernel
theorem dX4_goRound_122 : decode cX4_goRound 122 = .ok (.aload_n 0, 1) := by decide +kernel
theorem dX4_goRound_123 : decode cX4_goRound 123 = .ok (.getfield 56, 3) := by decide +kernel
theorem dX4_goRound_126 : decode cX4_goRound 126 = .ok (.if_icmp .ge 32, 3) := by decide +kernel
theorem dX4_goRound_129 : decode cX4_goRound 129 = .ok (.aload_n 0, 1) := by decide +kernel
theorem dX4_goRound_130 : decode cX4_goRound 130 = .ok (.dup, 1) := by decide +kernel
theorem dX4_goRound_131 : decode cX4_goRound 131 = .ok (.getfield 59, 3) := by decide +kernel
theorem dX4_goRound_134 : decode cX4_goRound 134 = .ok (.aload_n 0, 1) := by decide +kernel
theorem dX4_goRound_135 : decode cX4_goRound 135 = .ok (.iload_n 1, 1) := by decide +kernel
theorem dX4_goRound_136 : decode cX4_goRound 136 = .ok (.invokevirtual 50, 3) := by decide +kernel
theorem dX4_goRound_139 : decode cX4_goRound 139 = .ok (.bipush 12, 2) := by decide +kernel
theorem dX4_goRound_141 : decode cX4_goRound 141 = .ok (.ishr, 1) := by decide +kernel
theorem dX4_goRound_142 : decode cX4_goRound 142 = .ok (.iadd, 1) := by decide +kernel
theorem dX4_goRound_143 : decode cX4_goRound 143 = .ok (.putfield 59, 3) := by decide +kernel
theorem dX4_goRound_146 : decode cX4_goRound 146 = .ok (.aload_n 0, 1) := by decide +kernel
theorem dX4_goRound_147 : decode cX4_goRound 147 = .ok (.iload_n 1, 1) := by decide +kernel
theorem dX4_goRound_148 : decode cX4_goRound 148 = .ok (.invokevirtual 66, 3) := by decide +kernel
theorem dX4_goRound_151 : decode cX4_goRound 151 = .ok (.istore_n 1, 1) := by decide +kernel
theorem dX4_goRound_152 : decode cX4_goRound 152 = .ok (.iinc 3 1, 3) := by decide +kernel
theorem dX4_goRound_155 : decode cX4_goRound 155 = .ok (.goto (-34), 3) := by decide +kernel
theorem dX4_goRound_158 : decode cX4_goRound 158 = .ok (.return_, 1) := by decide +kernel
set_option maxRecDepth 20000 in
theorem ggX4_roundLength_X4_behind : GoodIn wsX4_roundLength wsX4_behind := goodIn_r _ [6, 7, 8, 9, 5, 10, 11, 12, 13, 14, 15, 16, 17, 18, 19, 20, 21, 22, 23, 24, 25, 26, 27, 28, 29, 30, 31, 32, 33, 34, 35] (by decide +kernel) (by decide +kernel)
set_option maxRecDepth 20000 in
theorem gX4_roundLength_X4_behind : GoodIn wsX4_roundLength (wsV RX4 66 RX4 yX4_behind wsX4_behind) := goodIn_app (goodIn_of _ (by decide +kernel)) ggX4_roundLength_X4_behind
theorem dX4_roundLength_0 : decode cX4_roundLength 0 = .ok (.aload_n 0, 1) := by decide +kernel
theorem dX4_roundLength_1 : decode cX4_roundLength 1 = .ok (.getfield 38, 3) := by decide +kernel
theorem dX4_roundLength_4 : decode cX4_roundLength 4 = .ok (.istore_n 1, 1) := by decide +kernel
theorem dX4_roundLength_5 : decode cX4_roundLength 5 = .ok (.aload_n 0, 1) := by decide +kernel
theorem dX4_roundLength_6 : decode cX4_roundLength 6 = .ok (.aload_n 0, 1) := by decide +kernel
theorem dX4_roundLength_7 : decode cX4_roundLength 7 = .ok (.getfield 38, 3) := by decide +kernel
theorem dX4_roundLength_10 : decode cX4_roundLength 10 = .ok (.invokevirtual 66, 3) := by decide +kernel
theorem dX4_roundLength_13 : decode cX4_roundLength 13 = .ok (.istore_n 2, 1) := by decide +kernel
theorem dX4_roundLength_14 : decode cX4_roundLength 14 = .ok (.iconst 1, 1) := by decide +kernel
theorem dX4_roundLength_15 : decode cX4_roundLength 15 = .ok (.istore_n 3, 1) := by decide +kernel
theorem dX4_roundLength_16 : decode cX4_roundLength 16 = .ok (.iconst 1, 1) := by decide +kernel
theorem dX4_roundLength_17 : decode cX4_roundLength 17 = .ok (.istore 4, 2) := by decide +kernel
theorem dX4_roundLength_19 : decode cX4_roundLength 19 = .ok (.iconst 0, 1) := by decide +kernel
theorem dX4_roundLength_20 : decode cX4_roundLength 20 = .ok (.istore 5, 2) := by decide +kernel
theorem dX4_roundLength_22 : decode cX4_roundLength 22 = .ok (.iload 5, 2) := by decide +kernel
theorem dX4_roundLength_24 : decode cX4_roundLength 24 = .ok (.sipush 16384, 3) := by decide +kernel
theorem dX4_roundLength_27 : decode cX4_roundLength 27 = .ok (.if_icmp .ge 39, 3) := by decide +kernel
theorem dX4_roundLength_30 : decode cX4_roundLength 30 = .ok (.iload_n 2, 1) := by decide +kernel
theorem dX4_roundLength_31 : decode cX4_roundLength 31 = .ok (.iload_n 1, 1) := by decide +kernel
theorem dX4_roundLength_32 : decode cX4_roundLength 32 = .ok (.if_icmp .eq 34, 3) := by decide +kernel
theorem dX4_roundLength_35 : decode cX4_roundLength 35 = .ok (.iload_n 3, 1) := by decide +kernel
theorem dX4_roundLength_36 : decode cX4_roundLength 36 = .ok (.iload 4, 2) := by decide +kernel
theorem dX4_roundLength_38 : decode cX4_roundLength 38 = .ok (.if_icmp .ne 13, 3) := by decide +kernel
theorem dX4_roundLength_41 : decode cX4_roundLength 41 = .ok (.iload_n 2, 1) := by decide +kernel
theorem dX4_roundLength_42 : decode cX4_roundLength 42 = .ok (.istore_n 1, 1) := by decide +kernel
theorem dX4_roundLength_43 : decode cX4_roundLength 43 = .ok (.iload 4, 2) := by decide +kernel
theorem dX4_roundLength_45 : decode cX4_roundLength 45 = .ok (.iconst 2, 1) := by decide +kernel
theorem dX4_roundLength_46 : decode cX4_roundLength 46 = .ok (.imul, 1) := by decide +kernel
theorem dX4_roundLength_47 : decode cX4_roundLength 47 = .ok (.istore 4, 2) := by decide +kernel
theorem dX4_roundLength_49 : decode cX4_roundLength 49 = .ok (.iconst 0, 1) := by decide +kernel
theorem dX4_roundLength_50 : decode cX4_roundLength 50 = .ok (.istore_n 3, 1) := by decide +kernel
theorem dX4_roundLength_51 : decode cX4_roundLength 51 = .ok (.aload_n 0, 1) := by decide +kernel
theorem dX4_roundLength_52 : decode cX4_roundLength 52 = .ok (.iload_n 2, 1) := by decide +kernel
theorem dX4_roundLength_53 : decode cX4_roundLength 53 = .ok (.invokevirtual 66, 3) := by decide +kernel
theorem dX4_roundLength_56 : decode cX4_roundLength 56 = .ok (.istore_n 2, 1) := by decide +kernel
theorem dX4_roundLength_57 : decode cX4_roundLength 57 = .ok (.iinc 3 1, 3) := by decide +kernel
theorem dX4_roundLength_60 : decode cX4_roundLength 60 = .ok (.iinc 5 1, 3) := by decide +kernel
theorem dX4_roundLength_63 : decode cX4_roundLength 63 = .ok (.goto (-41), 3) := by decide +kernel
theorem dX4_roundLength_66 : decode cX4_roundLength 66 = .ok (.iload_n 3, 1) := by decide +kernel
theorem dX4_roundLength_67 : decode cX4_roundLength 67 = .ok (.ireturn, 1) := by decide +kernel
set_option maxRecDepth 20000 in
theorem ggX4_roundComesTo_X4_allTurned : GoodIn wsX4_roundComesTo wsX4_allTurned := goodIn_r _ [6, 7, 8, 9, 10, 11, 12, 13, 14, 15, 16, 17, 18, 19, 20, 21, 22, 23, 24, 25, 26, 27, 28, 29, 30, 31] (by decide +kernel) (by decide +kernel)
set_option maxRecDepth 20000 in
theorem gX4_roundComesTo_X4_allTurned : GoodIn wsX4_roundComesTo (wsV RX4 50 RX4 yX4_allTurned wsX4_allTurned) := goodIn_app (goodIn_of _ (by decide +kernel)) ggX4_roundComesTo_X4_allTurned
theorem dX4_roundComesTo_0 : decode cX4_roundComesTo 0 = .ok (.aload_n 0, 1) := by decide +kernel
theorem dX4_roundComesTo_1 : decode cX4_roundComesTo 1 = .ok (.getfield 38, 3) := by decide +kernel
theorem dX4_roundComesTo_4 : decode cX4_roundComesTo 4 = .ok (.istore_n 2, 1) := by decide +kernel
theorem dX4_roundComesTo_5 : decode cX4_roundComesTo 5 = .ok (.iconst 0, 1) := by decide +kernel
theorem dX4_roundComesTo_6 : decode cX4_roundComesTo 6 = .ok (.istore_n 3, 1) := by decide +kernel
theorem dX4_roundComesTo_7 : decode cX4_roundComesTo 7 = .ok (.iconst 0, 1) := by decide +kernel
theorem dX4_roundComesTo_8 : decode cX4_roundComesTo 8 = .ok (.istore 4, 2) := by decide +kernel
theorem dX4_roundComesTo_10 : decode cX4_roundComesTo 10 = .ok (.iload 4, 2) := by decide +kernel
theorem dX4_roundComesTo_12 : decode cX4_roundComesTo 12 = .ok (.iload_n 1, 1) := by decide +kernel
theorem dX4_roundComesTo_13 : decode cX4_roundComesTo 13 = .ok (.if_icmp .ge 43, 3) := by decide +kernel
theorem dX4_roundComesTo_16 : decode cX4_roundComesTo 16 = .ok (.iload_n 3, 1) := by decide +kernel
theorem dX4_roundComesTo_17 : decode cX4_roundComesTo 17 = .ok (.iload_n 1, 1) := by decide +kernel
theorem dX4_roundComesTo_18 : decode cX4_roundComesTo 18 = .ok (.if_icmp .ge 38, 3) := by decide +kernel
theorem dX4_roundComesTo_21 : decode cX4_roundComesTo 21 = .ok (.aload_n 0, 1) := by decide +kernel
theorem dX4_roundComesTo_22 : decode cX4_roundComesTo 22 = .ok (.iload_n 2, 1) := by decide +kernel
theorem dX4_roundComesTo_23 : decode cX4_roundComesTo 23 = .ok (.invokevirtual 50, 3) := by decide +kernel
theorem dX4_roundComesTo_26 : decode cX4_roundComesTo 26 = .ok (.istore 5, 2) := by decide +kernel
theorem dX4_roundComesTo_28 : decode cX4_roundComesTo 28 = .ok (.iload 5, 2) := by decide +kernel
theorem dX4_roundComesTo_30 : decode cX4_roundComesTo 30 = .ok (.ifCond .ne 5, 3) := by decide +kernel
theorem dX4_roundComesTo_33 : decode cX4_roundComesTo 33 = .ok (.iconst 0, 1) := by decide +kernel
theorem dX4_roundComesTo_34 : decode cX4_roundComesTo 34 = .ok (.ireturn, 1) := by decide +kernel
theorem dX4_roundComesTo_35 : decode cX4_roundComesTo 35 = .ok (.iload_n 3, 1) := by decide +kernel
theorem dX4_roundComesTo_36 : decode cX4_roundComesTo 36 = .ok (.iload 5, 2) := by decide +kernel
theorem dX4_roundComesTo_38 : decode cX4_roundComesTo 38 = .ok (.bipush 12, 2) := by decide +kernel
theorem dX4_roundComesTo_40 : decode cX4_roundComesTo 40 = .ok (.ishr, 1) := by decide +kernel
theorem dX4_roundComesTo_41 : decode cX4_roundComesTo 41 = .ok (.iadd, 1) := by decide +kernel
theorem dX4_roundComesTo_42 : decode cX4_roundComesTo 42 = .ok (.istore_n 3, 1) := by decide +kernel
theorem dX4_roundComesTo_43 : decode cX4_roundComesTo 43 = .ok (.iload 5, 2) := by decide +kernel
theorem dX4_roundComesTo_45 : decode cX4_roundComesTo 45 = .ok (.sipush 4095, 3) := by decide +kernel
theorem dX4_roundComesTo_48 : decode cX4_roundComesTo 48 = .ok (.iand, 1) := by decide +kernel
theorem dX4_roundComesTo_49 : decode cX4_roundComesTo 49 = .ok (.istore_n 2, 1) := by decide +kernel
theorem dX4_roundComesTo_50 : decode cX4_roundComesTo 50 = .ok (.iinc 4 1, 3) := by decide +kernel
theorem dX4_roundComesTo_53 : decode cX4_roundComesTo 53 = .ok (.goto (-43), 3) := by decide +kernel
theorem dX4_roundComesTo_56 : decode cX4_roundComesTo 56 = .ok (.iload_n 3, 1) := by decide +kernel
theorem dX4_roundComesTo_57 : decode cX4_roundComesTo 57 = .ok (.iload_n 1, 1) := by decide +kernel
theorem dX4_roundComesTo_58 : decode cX4_roundComesTo 58 = .ok (.if_icmp .ne 7, 3) := by decide +kernel
theorem dX4_roundComesTo_61 : decode cX4_roundComesTo 61 = .ok (.iconst 1, 1) := by decide +kernel
theorem dX4_roundComesTo_62 : decode cX4_roundComesTo 62 = .ok (.goto 4, 3) := by decide +kernel
theorem dX4_roundComesTo_65 : decode cX4_roundComesTo 65 = .ok (.iconst 0, 1) := by decide +kernel
theorem dX4_roundComesTo_66 : decode cX4_roundComesTo 66 = .ok (.ireturn, 1) := by decide +kernel
set_option maxRecDepth 20000 in
theorem ggX4_bestOfDuel_X4_duelFrom : GoodIn wsX4_bestOfDuel wsX4_duelFrom := goodIn_r _ [10, 11, 12, 13, 14, 15, 4, 16, 17, 18, 19, 20, 21, 22, 23, 24, 25, 26, 27, 28, 29, 30, 6, 7, 8, 9, 31, 32, 33, 34, 35, 36, 37, 38, 39, 40] (by decide +kernel) (by decide +kernel)
set_option maxRecDepth 20000 in
theorem gX4_bestOfDuel_X4_duelFrom : GoodIn wsX4_bestOfDuel (wsV RX4 75 RX4 yX4_duelFrom wsX4_duelFrom) := goodIn_app (goodIn_of _ (by decide +kernel)) ggX4_bestOfDuel_X4_duelFrom
theorem dX4_bestOfDuel_0 : decode cX4_bestOfDuel 0 = .ok (.aload_n 0, 1) := by decide +kernel
theorem dX4_bestOfDuel_1 : decode cX4_bestOfDuel 1 = .ok (.aload_n 0, 1) := by decide +kernel
theorem dX4_bestOfDuel_2 : decode cX4_bestOfDuel 2 = .ok (.getfield 38, 3) := by decide +kernel
theorem dX4_bestOfDuel_5 : decode cX4_bestOfDuel 5 = .ok (.iload_n 1, 1) := by decide +kernel
theorem dX4_bestOfDuel_6 : decode cX4_bestOfDuel 6 = .ok (.iconst 4, 1) := by decide +kernel
theorem dX4_bestOfDuel_7 : decode cX4_bestOfDuel 7 = .ok (.invokestatic 69, 3) := by decide +kernel
theorem dX4_bestOfDuel_10 : decode cX4_bestOfDuel 10 = .ok (.iconst 1, 1) := by decide +kernel
theorem dX4_bestOfDuel_11 : decode cX4_bestOfDuel 11 = .ok (.invokevirtual 75, 3) := by decide +kernel
theorem dX4_bestOfDuel_14 : decode cX4_bestOfDuel 14 = .ok (.ireturn, 1) := by decide +kernel
set_option maxRecDepth 20000 in
theorem ggX4_duelFrom_X11_turned : GoodIn wsX4_duelFrom wsX11_turned := goodIn_r _ [10, 11] (by decide +kernel) (by decide +kernel)
set_option maxRecDepth 20000 in
theorem gX4_duelFrom_X11_turned_n79 : GoodIn wsX4_duelFrom (wsX11_turned) := ggX4_duelFrom_X11_turned
set_option maxRecDepth 20000 in
theorem ggX4_duelFrom_X7_from : GoodIn wsX4_duelFrom wsX7_from := goodIn_r _ [16, 17, 18, 19, 15, 20, 21, 5, 6, 7, 34, 35] (by decide +kernel) (by decide +kernel)
set_option maxRecDepth 20000 in
theorem gX4_duelFrom_X7_from : GoodIn wsX4_duelFrom (wsV RX4 44 RX7 yX7_from wsX7_from) := goodIn_app (goodIn_of _ (by decide +kernel)) ggX4_duelFrom_X7_from
set_option maxRecDepth 20000 in
theorem ggX4_duelFrom_X4_duelFrom : GoodIn wsX4_duelFrom wsX4_duelFrom := goodIn_r _ [0, 1, 2, 3, 4, 5, 6, 7, 8, 9, 10, 11, 12, 13, 14, 15, 16, 17, 18, 19, 20, 21, 22, 23, 24, 25, 26, 27, 28, 29, 30, 31, 32, 33, 34, 35] (by decide +kernel) (by decide +kernel)
set_option maxRecDepth 20000 in
theorem gX4_duelFrom_X4_duelFrom : GoodIn wsX4_duelFrom (wsV RX4 75 RX4 yX4_duelFrom wsX4_duelFrom) := goodIn_app (goodIn_of _ (by decide +kernel)) ggX4_duelFrom_X4_duelFrom
theorem dX4_duelFrom_0 : decode cX4_duelFrom 0 = .ok (.iconst 0, 1) := by decide +kernel
theorem dX4_duelFrom_1 : decode cX4_duelFrom 1 = .ok (.istore 4, 2) := by decide +kernel
theorem dX4_duelFrom_3 : decode cX4_duelFrom 3 = .ok (.iconst (-1), 1) := by decide +kernel
theorem dX4_duelFrom_4 : decode cX4_duelFrom 4 = .ok (.istore 5, 2) := by decide +kernel
theorem dX4_duelFrom_6 : decode cX4_duelFrom 6 = .ok (.iconst 0, 1) := by decide +kernel
theorem dX4_duelFrom_7 : decode cX4_duelFrom 7 = .ok (.istore 6, 2) := by decide +kernel
theorem dX4_duelFrom_9 : decode cX4_duelFrom 9 = .ok (.iload 6, 2) := by decide +kernel
theorem dX4_duelFrom_11 : decode cX4_duelFrom 11 = .ok (.aload_n 0, 1) := by decide +kernel
theorem dX4_duelFrom_12 : decode cX4_duelFrom 12 = .ok (.getfield 41, 3) := by decide +kernel
theorem dX4_duelFrom_15 : decode cX4_duelFrom 15 = .ok (.if_icmp .ge 110, 3) := by decide +kernel
theorem dX4_duelFrom_18 : decode cX4_duelFrom 18 = .ok (.aload_n 0, 1) := by decide +kernel
theorem dX4_duelFrom_19 : decode cX4_duelFrom 19 = .ok (.getfield 9, 3) := by decide +kernel
theorem dX4_duelFrom_22 : decode cX4_duelFrom 22 = .ok (.aload_n 0, 1) := by decide +kernel
theorem dX4_duelFrom_23 : decode cX4_duelFrom 23 = .ok (.getfield 32, 3) := by decide +kernel
theorem dX4_duelFrom_26 : decode cX4_duelFrom 26 = .ok (.iload_n 1, 1) := by decide +kernel
theorem dX4_duelFrom_27 : decode cX4_duelFrom 27 = .ok (.iload 6, 2) := by decide +kernel
theorem dX4_duelFrom_29 : decode cX4_duelFrom 29 = .ok (.invokestatic 79, 3) := by decide +kernel
theorem dX4_duelFrom_32 : decode cX4_duelFrom 32 = .ok (.invokevirtual 44, 3) := by decide +kernel
theorem dX4_duelFrom_35 : decode cX4_duelFrom 35 = .ok (.istore 7, 2) := by decide +kernel
theorem dX4_duelFrom_37 : decode cX4_duelFrom 37 = .ok (.iload 7, 2) := by decide +kernel
theorem dX4_duelFrom_39 : decode cX4_duelFrom 39 = .ok (.bipush 12, 2) := by decide +kernel
theorem dX4_duelFrom_41 : decode cX4_duelFrom 41 = .ok (.ishr, 1) := by decide +kernel
theorem dX4_duelFrom_42 : decode cX4_duelFrom 42 = .ok (.istore 8, 2) := by decide +kernel
theorem dX4_duelFrom_44 : decode cX4_duelFrom 44 = .ok (.iload 7, 2) := by decide +kernel
theorem dX4_duelFrom_46 : decode cX4_duelFrom 46 = .ok (.ifCond .eq 38, 3) := by decide +kernel
theorem dX4_duelFrom_49 : decode cX4_duelFrom 49 = .ok (.iload_n 2, 1) := by decide +kernel
theorem dX4_duelFrom_50 : decode cX4_duelFrom 50 = .ok (.iconst 1, 1) := by decide +kernel
theorem dX4_duelFrom_51 : decode cX4_duelFrom 51 = .ok (.if_icmp .le 33, 3) := by decide +kernel
theorem dX4_duelFrom_54 : decode cX4_duelFrom 54 = .ok (.iload 8, 2) := by decide +kernel
theorem dX4_duelFrom_56 : decode cX4_duelFrom 56 = .ok (.aload_n 0, 1) := by decide +kernel
theorem dX4_duelFrom_57 : decode cX4_duelFrom 57 = .ok (.iload 7, 2) := by decide +kernel
theorem dX4_duelFrom_59 : decode cX4_duelFrom 59 = .ok (.sipush 4095, 3) := by decide +kernel
theorem dX4_duelFrom_62 : decode cX4_duelFrom 62 = .ok (.iand, 1) := by decide +kernel
theorem dX4_duelFrom_63 : decode cX4_duelFrom 63 = .ok (.iload_n 2, 1) := by decide +kernel
theorem dX4_duelFrom_64 : decode cX4_duelFrom 64 = .ok (.iconst 1, 1) := by decide +kernel
theorem dX4_duelFrom_65 : decode cX4_duelFrom 65 = .ok (.isub, 1) := by decide +kernel
theorem dX4_duelFrom_66 : decode cX4_duelFrom 66 = .ok (.iload_n 3, 1) := by decide +kernel
theorem dX4_duelFrom_67 : decode cX4_duelFrom 67 = .ok (.ifCond .ne 7, 3) := by decide +kernel
theorem dX4_duelFrom_70 : decode cX4_duelFrom 70 = .ok (.iconst 1, 1) := by decide +kernel
theorem dX4_duelFrom_71 : decode cX4_duelFrom 71 = .ok (.goto 4, 3) := by decide +kernel
theorem dX4_duelFrom_74 : decode cX4_duelFrom 74 = .ok (.iconst 0, 1) := by decide +kernel
theorem dX4_duelFrom_75 : decode cX4_duelFrom 75 = .ok (.invokevirtual 75, 3) := by decide +kernel
theorem dX4_duelFrom_78 : decode cX4_duelFrom 78 = .ok (.bipush 16, 2) := by decide +kernel
theorem dX4_duelFrom_80 : decode cX4_duelFrom 80 = .ok (.idiv, 1) := by decide +kernel
theorem dX4_duelFrom_81 : decode cX4_duelFrom 81 = .ok (.iadd, 1) := by decide +kernel
theorem dX4_duelFrom_82 : decode cX4_duelFrom 82 = .ok (.istore 8, 2) := by decide +kernel
theorem dX4_duelFrom_84 : decode cX4_duelFrom 84 = .ok (.iload 5, 2) := by decide +kernel
theorem dX4_duelFrom_86 : decode cX4_duelFrom 86 = .ok (.iconst (-1), 1) := by decide +kernel
theorem dX4_duelFrom_87 : decode cX4_duelFrom 87 = .ok (.if_icmp .eq 24, 3) := by decide +kernel
theorem dX4_duelFrom_90 : decode cX4_duelFrom 90 = .ok (.iload_n 3, 1) := by decide +kernel
theorem dX4_duelFrom_91 : decode cX4_duelFrom 91 = .ok (.ifCond .eq 13, 3) := by decide +kernel
theorem dX4_duelFrom_94 : decode cX4_duelFrom 94 = .ok (.iload 8, 2) := by decide +kernel
theorem dX4_duelFrom_96 : decode cX4_duelFrom 96 = .ok (.iload 4, 2) := by decide +kernel
theorem dX4_duelFrom_98 : decode cX4_duelFrom 98 = .ok (.if_icmp .le 21, 3) := by decide +kernel
theorem dX4_duelFrom_101 : decode cX4_duelFrom 101 = .ok (.goto 10, 3) := by decide +kernel
theorem dX4_duelFrom_104 : decode cX4_duelFrom 104 = .ok (.iload 8, 2) := by decide +kernel
theorem dX4_duelFrom_106 : decode cX4_duelFrom 106 = .ok (.iload 4, 2) := by decide +kernel
theorem dX4_duelFrom_108 : decode cX4_duelFrom 108 = .ok (.if_icmp .ge 11, 3) := by decide +kernel
theorem dX4_duelFrom_111 : decode cX4_duelFrom 111 = .ok (.iload 8, 2) := by decide +kernel
theorem dX4_duelFrom_113 : decode cX4_duelFrom 113 = .ok (.istore 4, 2) := by decide +kernel
theorem dX4_duelFrom_115 : decode cX4_duelFrom 115 = .ok (.iload 6, 2) := by decide +kernel
theorem dX4_duelFrom_117 : decode cX4_duelFrom 117 = .ok (.istore 5, 2) := by decide +kernel
theorem dX4_duelFrom_119 : decode cX4_duelFrom 119 = .ok (.iinc 6 1, 3) := by decide +kernel
theorem dX4_duelFrom_122 : decode cX4_duelFrom 122 = .ok (.goto (-113), 3) := by decide +kernel
theorem dX4_duelFrom_125 : decode cX4_duelFrom 125 = .ok (.iload 4, 2) := by decide +kernel
theorem dX4_duelFrom_127 : decode cX4_duelFrom 127 = .ok (.bipush 16, 2) := by decide +kernel
theorem dX4_duelFrom_129 : decode cX4_duelFrom 129 = .ok (.imul, 1) := by decide +kernel
theorem dX4_duelFrom_130 : decode cX4_duelFrom 130 = .ok (.iconst 0, 1) := by decide +kernel
theorem dX4_duelFrom_131 : decode cX4_duelFrom 131 = .ok (.iload 5, 2) := by decide +kernel
theorem dX4_duelFrom_133 : decode cX4_duelFrom 133 = .ok (.invokestatic 83, 3) := by decide +kernel
theorem dX4_duelFrom_136 : decode cX4_duelFrom 136 = .ok (.iadd, 1) := by decide +kernel
theorem dX4_duelFrom_137 : decode cX4_duelFrom 137 = .ok (.ireturn, 1) := by decide +kernel
set_option maxRecDepth 20000 in
theorem ggX4_chanceOver_X11_turned : GoodIn wsX4_chanceOver wsX11_turned := goodIn_r _ [8, 9] (by decide +kernel) (by decide +kernel)
set_option maxRecDepth 20000 in
theorem gX4_chanceOver_X11_turned_n79 : GoodIn wsX4_chanceOver (wsX11_turned) := ggX4_chanceOver_X11_turned
set_option maxRecDepth 20000 in
theorem ggX4_chanceOver_X7_from : GoodIn wsX4_chanceOver wsX7_from := goodIn_r _ [14, 15, 16, 17, 13, 18, 19, 20, 21, 22, 33, 34] (by decide +kernel) (by decide +kernel)
set_option maxRecDepth 20000 in
theorem gX4_chanceOver_X7_from : GoodIn wsX4_chanceOver (wsV RX4 44 RX7 yX7_from wsX7_from) := goodIn_app (goodIn_of _ (by decide +kernel)) ggX4_chanceOver_X7_from
set_option maxRecDepth 20000 in
theorem ggX4_chanceOver_X11_has : GoodIn wsX4_chanceOver wsX11_has := goodIn_r _ [24] (by decide +kernel) (by decide +kernel)
set_option maxRecDepth 20000 in
theorem gX4_chanceOver_X11_has_n86 : GoodIn wsX4_chanceOver (wsX11_has) := ggX4_chanceOver_X11_has
theorem dX4_chanceOver_0 : decode cX4_chanceOver 0 = .ok (.iconst 0, 1) := by decide +kernel
theorem dX4_chanceOver_1 : decode cX4_chanceOver 1 = .ok (.istore_n 3, 1) := by decide +kernel
theorem dX4_chanceOver_2 : decode cX4_chanceOver 2 = .ok (.iconst 0, 1) := by decide +kernel
theorem dX4_chanceOver_3 : decode cX4_chanceOver 3 = .ok (.istore 4, 2) := by decide +kernel
theorem dX4_chanceOver_5 : decode cX4_chanceOver 5 = .ok (.iload 4, 2) := by decide +kernel
theorem dX4_chanceOver_7 : decode cX4_chanceOver 7 = .ok (.aload_n 0, 1) := by decide +kernel
theorem dX4_chanceOver_8 : decode cX4_chanceOver 8 = .ok (.getfield 41, 3) := by decide +kernel
theorem dX4_chanceOver_11 : decode cX4_chanceOver 11 = .ok (.if_icmp .ge 85, 3) := by decide +kernel
theorem dX4_chanceOver_14 : decode cX4_chanceOver 14 = .ok (.aload_n 0, 1) := by decide +kernel
theorem dX4_chanceOver_15 : decode cX4_chanceOver 15 = .ok (.getfield 9, 3) := by decide +kernel
theorem dX4_chanceOver_18 : decode cX4_chanceOver 18 = .ok (.aload_n 0, 1) := by decide +kernel
theorem dX4_chanceOver_19 : decode cX4_chanceOver 19 = .ok (.getfield 32, 3) := by decide +kernel
theorem dX4_chanceOver_22 : decode cX4_chanceOver 22 = .ok (.aload_n 0, 1) := by decide +kernel
theorem dX4_chanceOver_23 : decode cX4_chanceOver 23 = .ok (.getfield 38, 3) := by decide +kernel
theorem dX4_chanceOver_26 : decode cX4_chanceOver 26 = .ok (.iload 4, 2) := by decide +kernel
theorem dX4_chanceOver_28 : decode cX4_chanceOver 28 = .ok (.invokestatic 79, 3) := by decide +kernel
theorem dX4_chanceOver_31 : decode cX4_chanceOver 31 = .ok (.invokevirtual 44, 3) := by decide +kernel
theorem dX4_chanceOver_34 : decode cX4_chanceOver 34 = .ok (.bipush 12, 2) := by decide +kernel
theorem dX4_chanceOver_36 : decode cX4_chanceOver 36 = .ok (.ishr, 1) := by decide +kernel
theorem dX4_chanceOver_37 : decode cX4_chanceOver 37 = .ok (.iload_n 2, 1) := by decide +kernel
theorem dX4_chanceOver_38 : decode cX4_chanceOver 38 = .ok (.if_icmp .ne 52, 3) := by decide +kernel
theorem dX4_chanceOver_41 : decode cX4_chanceOver 41 = .ok (.iconst 1, 1) := by decide +kernel
theorem dX4_chanceOver_42 : decode cX4_chanceOver 42 = .ok (.istore 5, 2) := by decide +kernel
theorem dX4_chanceOver_44 : decode cX4_chanceOver 44 = .ok (.iconst 0, 1) := by decide +kernel
theorem dX4_chanceOver_45 : decode cX4_chanceOver 45 = .ok (.istore 6, 2) := by decide +kernel
theorem dX4_chanceOver_47 : decode cX4_chanceOver 47 = .ok (.iload 6, 2) := by decide +kernel
theorem dX4_chanceOver_49 : decode cX4_chanceOver 49 = .ok (.aload_n 0, 1) := by decide +kernel
theorem dX4_chanceOver_50 : decode cX4_chanceOver 50 = .ok (.getfield 21, 3) := by decide +kernel
theorem dX4_chanceOver_53 : decode cX4_chanceOver 53 = .ok (.if_icmp .ge 32, 3) := by decide +kernel
theorem dX4_chanceOver_56 : decode cX4_chanceOver 56 = .ok (.iload 5, 2) := by decide +kernel
theorem dX4_chanceOver_58 : decode cX4_chanceOver 58 = .ok (.iload 4, 2) := by decide +kernel
theorem dX4_chanceOver_60 : decode cX4_chanceOver 60 = .ok (.iload 6, 2) := by decide +kernel
theorem dX4_chanceOver_62 : decode cX4_chanceOver 62 = .ok (.invokestatic 86, 3) := by decide +kernel
theorem dX4_chanceOver_65 : decode cX4_chanceOver 65 = .ok (.ifCond .eq 7, 3) := by decide +kernel
theorem dX4_chanceOver_68 : decode cX4_chanceOver 68 = .ok (.iload_n 1, 1) := by decide +kernel
theorem dX4_chanceOver_69 : decode cX4_chanceOver 69 = .ok (.goto 7, 3) := by decide +kernel
theorem dX4_chanceOver_72 : decode cX4_chanceOver 72 = .ok (.bipush 10, 2) := by decide +kernel
theorem dX4_chanceOver_74 : decode cX4_chanceOver 74 = .ok (.iload_n 1, 1) := by decide +kernel
theorem dX4_chanceOver_75 : decode cX4_chanceOver 75 = .ok (.isub, 1) := by decide +kernel
theorem dX4_chanceOver_76 : decode cX4_chanceOver 76 = .ok (.imul, 1) := by decide +kernel
theorem dX4_chanceOver_77 : decode cX4_chanceOver 77 = .ok (.istore 5, 2) := by decide +kernel
theorem dX4_chanceOver_79 : decode cX4_chanceOver 79 = .ok (.iinc 6 1, 3) := by decide +kernel
theorem dX4_chanceOver_82 : decode cX4_chanceOver 82 = .ok (.goto (-35), 3) := by decide +kernel
theorem dX4_chanceOver_85 : decode cX4_chanceOver 85 = .ok (.iload_n 3, 1) := by decide +kernel
theorem dX4_chanceOver_86 : decode cX4_chanceOver 86 = .ok (.iload 5, 2) := by decide +kernel
theorem dX4_chanceOver_88 : decode cX4_chanceOver 88 = .ok (.iadd, 1) := by decide +kernel
theorem dX4_chanceOver_89 : decode cX4_chanceOver 89 = .ok (.istore_n 3, 1) := by decide +kernel
theorem dX4_chanceOver_90 : decode cX4_chanceOver 90 = .ok (.iinc 4 1, 3) := by decide +kernel
theorem dX4_chanceOver_93 : decode cX4_chanceOver 93 = .ok (.goto (-88), 3) := by decide +kernel
theorem dX4_chanceOver_96 : decode cX4_chanceOver 96 = .ok (.iload_n 3, 1) := by decide +kernel
theorem dX4_chanceOver_97 : decode cX4_chanceOver 97 = .ok (.ireturn, 1) := by decide +kernel
theorem dX5_init_0 : decode cX5_init 0 = .ok (.aload_n 0, 1) := by decide +kernel
theorem dX5_init_1 : decode cX5_init 1 = .ok (.invokespecial 3, 3) := by decide +kernel
theorem dX5_init_4 : decode cX5_init 4 = .ok (.return_, 1) := by decide +kernel
theorem dX5_put_0 : decode cX5_put 0 = .ok (.aload_n 0, 1) := by decide +kernel
theorem dX5_put_1 : decode cX5_put 1 = .ok (.iload_n 1, 1) := by decide +kernel
theorem dX5_put_2 : decode cX5_put 2 = .ok (.putfield 9, 3) := by decide +kernel
theorem dX5_put_5 : decode cX5_put 5 = .ok (.aload_n 0, 1) := by decide +kernel
theorem dX5_put_6 : decode cX5_put 6 = .ok (.iload_n 2, 1) := by decide +kernel
theorem dX5_put_7 : decode cX5_put 7 = .ok (.putfield 15, 3) := by decide +kernel
theorem dX5_put_10 : decode cX5_put 10 = .ok (.aload_n 0, 1) := by decide +kernel
theorem dX5_put_11 : decode cX5_put 11 = .ok (.iconst 0, 1) := by decide +kernel
theorem dX5_put_12 : decode cX5_put 12 = .ok (.putfield 18, 3) := by decide +kernel
theorem dX5_put_15 : decode cX5_put 15 = .ok (.aload_n 0, 1) := by decide +kernel
theorem dX5_put_16 : decode cX5_put 16 = .ok (.iconst 0, 1) := by decide +kernel
theorem dX5_put_17 : decode cX5_put 17 = .ok (.putfield 22, 3) := by decide +kernel
theorem dX5_put_20 : decode cX5_put 20 = .ok (.return_, 1) := by decide +kernel
theorem dX5_may_0 : decode cX5_may 0 = .ok (.iload_n 1, 1) := by decide +kernel
theorem dX5_may_1 : decode cX5_may 1 = .ok (.tableswitch 74 1 4 #[31, 31, 44, 49], 31) := by decide +kernel
theorem dX5_may_32 : decode cX5_may 32 = .ok (.aload_n 0, 1) := by decide +kernel
theorem dX5_may_33 : decode cX5_may 33 = .ok (.getfield 18, 3) := by decide +kernel
theorem dX5_may_36 : decode cX5_may 36 = .ok (.ifCond .ne 7, 3) := by decide +kernel
theorem dX5_may_39 : decode cX5_may 39 = .ok (.iconst 1, 1) := by decide +kernel
theorem dX5_may_40 : decode cX5_may 40 = .ok (.goto 4, 3) := by decide +kernel
theorem dX5_may_43 : decode cX5_may 43 = .ok (.iconst 0, 1) := by decide +kernel
theorem dX5_may_44 : decode cX5_may 44 = .ok (.ireturn, 1) := by decide +kernel
theorem dX5_may_45 : decode cX5_may 45 = .ok (.aload_n 0, 1) := by decide +kernel
theorem dX5_may_46 : decode cX5_may 46 = .ok (.getfield 18, 3) := by decide +kernel
theorem dX5_may_49 : decode cX5_may 49 = .ok (.ireturn, 1) := by decide +kernel
theorem dX5_may_50 : decode cX5_may 50 = .ok (.aload_n 0, 1) := by decide +kernel
theorem dX5_may_51 : decode cX5_may 51 = .ok (.getfield 9, 3) := by decide +kernel
theorem dX5_may_54 : decode cX5_may 54 = .ok (.aload_n 0, 1) := by decide +kernel
theorem dX5_may_55 : decode cX5_may 55 = .ok (.getfield 15, 3) := by decide +kernel
theorem dX5_may_58 : decode cX5_may 58 = .ok (.if_icmp .le 15, 3) := by decide +kernel
theorem dX5_may_61 : decode cX5_may 61 = .ok (.aload_n 0, 1) := by decide +kernel
theorem dX5_may_62 : decode cX5_may 62 = .ok (.getfield 9, 3) := by decide +kernel
theorem dX5_may_65 : decode cX5_may 65 = .ok (.iconst 1, 1) := by decide +kernel
theorem dX5_may_66 : decode cX5_may 66 = .ok (.if_icmp .le 7, 3) := by decide +kernel
theorem dX5_may_69 : decode cX5_may 69 = .ok (.iconst 1, 1) := by decide +kernel
theorem dX5_may_70 : decode cX5_may 70 = .ok (.goto 4, 3) := by decide +kernel
theorem dX5_may_73 : decode cX5_may 73 = .ok (.iconst 0, 1) := by decide +kernel
theorem dX5_may_74 : decode cX5_may 74 = .ok (.ireturn, 1) := by decide +kernel
theorem dX5_may_75 : decode cX5_may 75 = .ok (.iconst 0, 1) := by decide +kernel
theorem dX5_may_76 : decode cX5_may 76 = .ok (.ireturn, 1) := by decide +kernel
theorem dX5_act_0 : decode cX5_act 0 = .ok (.iload_n 1, 1) := by decide +kernel
theorem dX5_act_1 : decode cX5_act 1 = .ok (.tableswitch 76 1 4 #[31, 47, 55, 63], 31) := by decide +kernel
theorem dX5_act_32 : decode cX5_act 32 = .ok (.aload_n 0, 1) := by decide +kernel
theorem dX5_act_33 : decode cX5_act 33 = .ok (.aload_n 0, 1) := by decide +kernel
theorem dX5_act_34 : decode cX5_act 34 = .ok (.getfield 9, 3) := by decide +kernel
theorem dX5_act_37 : decode cX5_act 37 = .ok (.aload_n 0, 1) := by decide +kernel
theorem dX5_act_38 : decode cX5_act 38 = .ok (.getfield 15, 3) := by decide +kernel
theorem dX5_act_41 : decode cX5_act 41 = .ok (.isub, 1) := by decide +kernel
theorem dX5_act_42 : decode cX5_act 42 = .ok (.putfield 15, 3) := by decide +kernel
theorem dX5_act_45 : decode cX5_act 45 = .ok (.goto 32, 3) := by decide +kernel
theorem dX5_act_48 : decode cX5_act 48 = .ok (.aload_n 0, 1) := by decide +kernel
theorem dX5_act_49 : decode cX5_act 49 = .ok (.iconst 1, 1) := by decide +kernel
theorem dX5_act_50 : decode cX5_act 50 = .ok (.putfield 18, 3) := by decide +kernel
theorem dX5_act_53 : decode cX5_act 53 = .ok (.goto 24, 3) := by decide +kernel
theorem dX5_act_56 : decode cX5_act 56 = .ok (.aload_n 0, 1) := by decide +kernel
theorem dX5_act_57 : decode cX5_act 57 = .ok (.iconst 0, 1) := by decide +kernel
theorem dX5_act_58 : decode cX5_act 58 = .ok (.putfield 18, 3) := by decide +kernel
theorem dX5_act_61 : decode cX5_act 61 = .ok (.goto 16, 3) := by decide +kernel
theorem dX5_act_64 : decode cX5_act 64 = .ok (.aload_n 0, 1) := by decide +kernel
theorem dX5_act_65 : decode cX5_act 65 = .ok (.dup, 1) := by decide +kernel
theorem dX5_act_66 : decode cX5_act 66 = .ok (.getfield 9, 3) := by decide +kernel
theorem dX5_act_69 : decode cX5_act 69 = .ok (.iconst 1, 1) := by decide +kernel
theorem dX5_act_70 : decode cX5_act 70 = .ok (.isub, 1) := by decide +kernel
theorem dX5_act_71 : decode cX5_act 71 = .ok (.putfield 9, 3) := by decide +kernel
theorem dX5_act_74 : decode cX5_act 74 = .ok (.goto 3, 3) := by decide +kernel
theorem dX5_act_77 : decode cX5_act 77 = .ok (.return_, 1) := by decide +kernel
theorem dX5_runs_0 : decode cX5_runs 0 = .ok (.aload_n 0, 1) := by decide +kernel
theorem dX5_runs_1 : decode cX5_runs 1 = .ok (.getfield 18, 3) := by decide +kernel
theorem dX5_runs_4 : decode cX5_runs 4 = .ok (.ifCond .ne 14, 3) := by decide +kernel
theorem dX5_runs_7 : decode cX5_runs 7 = .ok (.aload_n 0, 1) := by decide +kernel
theorem dX5_runs_8 : decode cX5_runs 8 = .ok (.getfield 15, 3) := by decide +kernel
theorem dX5_runs_11 : decode cX5_runs 11 = .ok (.ifCond .le 7, 3) := by decide +kernel
theorem dX5_runs_14 : decode cX5_runs 14 = .ok (.iconst 1, 1) := by decide +kernel
theorem dX5_runs_15 : decode cX5_runs 15 = .ok (.goto 4, 3) := by decide +kernel
theorem dX5_runs_18 : decode cX5_runs 18 = .ok (.iconst 0, 1) := by decide +kernel
theorem dX5_runs_19 : decode cX5_runs 19 = .ok (.ireturn, 1) := by decide +kernel
theorem dX5_passMinute_0 : decode cX5_passMinute 0 = .ok (.aload_n 0, 1) := by decide +kernel
theorem dX5_passMinute_1 : decode cX5_passMinute 1 = .ok (.getfield 18, 3) := by decide +kernel
theorem dX5_passMinute_4 : decode cX5_passMinute 4 = .ok (.ifCond .ne 10, 3) := by decide +kernel
theorem dX5_passMinute_7 : decode cX5_passMinute 7 = .ok (.aload_n 0, 1) := by decide +kernel
theorem dX5_passMinute_8 : decode cX5_passMinute 8 = .ok (.getfield 15, 3) := by decide +kernel
theorem dX5_passMinute_11 : decode cX5_passMinute 11 = .ok (.ifCond .ne 5, 3) := by decide +kernel
theorem dX5_passMinute_14 : decode cX5_passMinute 14 = .ok (.iconst 0, 1) := by decide +kernel
theorem dX5_passMinute_15 : decode cX5_passMinute 15 = .ok (.ireturn, 1) := by decide +kernel
theorem dX5_passMinute_16 : decode cX5_passMinute 16 = .ok (.aload_n 0, 1) := by decide +kernel
theorem dX5_passMinute_17 : decode cX5_passMinute 17 = .ok (.dup, 1) := by decide +kernel
theorem dX5_passMinute_18 : decode cX5_passMinute 18 = .ok (.getfield 15, 3) := by decide +kernel
theorem dX5_passMinute_21 : decode cX5_passMinute 21 = .ok (.iconst 1, 1) := by decide +kernel
theorem dX5_passMinute_22 : decode cX5_passMinute 22 = .ok (.isub, 1) := by decide +kernel
theorem dX5_passMinute_23 : decode cX5_passMinute 23 = .ok (.putfield 15, 3) := by decide +kernel
theorem dX5_passMinute_26 : decode cX5_passMinute 26 = .ok (.aload_n 0, 1) := by decide +kernel
theorem dX5_passMinute_27 : decode cX5_passMinute 27 = .ok (.getfield 15, 3) := by decide +kernel
theorem dX5_passMinute_30 : decode cX5_passMinute 30 = .ok (.ifCond .le 5, 3) := by decide +kernel
theorem dX5_passMinute_33 : decode cX5_passMinute 33 = .ok (.iconst 0, 1) := by decide +kernel
theorem dX5_passMinute_34 : decode cX5_passMinute 34 = .ok (.ireturn, 1) := by decide +kernel
theorem dX5_passMinute_35 : decode cX5_passMinute 35 = .ok (.aload_n 0, 1) := by decide +kernel
theorem dX5_passMinute_36 : decode cX5_passMinute 36 = .ok (.dup, 1) := by decide +kernel
theorem dX5_passMinute_37 : decode cX5_passMinute 37 = .ok (.getfield 22, 3) := by decide +kernel
theorem dX5_passMinute_40 : decode cX5_passMinute 40 = .ok (.iconst 1, 1) := by decide +kernel
theorem dX5_passMinute_41 : decode cX5_passMinute 41 = .ok (.iadd, 1) := by decide +kernel
theorem dX5_passMinute_42 : decode cX5_passMinute 42 = .ok (.putfield 22, 3) := by decide +kernel
theorem dX5_passMinute_45 : decode cX5_passMinute 45 = .ok (.iconst 1, 1) := by decide +kernel
theorem dX5_passMinute_46 : decode cX5_passMinute 46 = .ok (.ireturn, 1) := by decide +kernel
set_option maxRecDepth 20000 in
theorem ggX6_init_X8_init : GoodIn wsX6_init wsX8_init := goodIn_r _ [14, 15, 2, 3, 6, 16, 17, 18, 30, 31, 32, 33] (by decide +kernel) (by decide +kernel)
set_option maxRecDepth 20000 in
theorem gX6_init_X8_init : GoodIn wsX6_init (wsX8_init) := ggX6_init_X8_init
theorem dX6_init_0 : decode cX6_init 0 = .ok (.aload_n 0, 1) := by decide +kernel
theorem dX6_init_1 : decode cX6_init 1 = .ok (.invokespecial 3, 3) := by decide +kernel
theorem dX6_init_4 : decode cX6_init 4 = .ok (.aload_n 0, 1) := by decide +kernel
theorem dX6_init_5 : decode cX6_init 5 = .ok (.iconst 4, 1) := by decide +kernel
theorem dX6_init_6 : decode cX6_init 6 = .ok (.anewarray 9, 3) := by decide +kernel
theorem dX6_init_9 : decode cX6_init 9 = .ok (.putfield 11, 3) := by decide +kernel
theorem dX6_init_12 : decode cX6_init 12 = .ok (.aload_n 0, 1) := by decide +kernel
theorem dX6_init_13 : decode cX6_init 13 = .ok (.iconst 4, 1) := by decide +kernel
theorem dX6_init_14 : decode cX6_init 14 = .ok (.newarray .int, 2) := by decide +kernel
theorem dX6_init_16 : decode cX6_init 16 = .ok (.putfield 17, 3) := by decide +kernel
theorem dX6_init_19 : decode cX6_init 19 = .ok (.aload_n 0, 1) := by decide +kernel
theorem dX6_init_20 : decode cX6_init 20 = .ok (.iconst 2, 1) := by decide +kernel
theorem dX6_init_21 : decode cX6_init 21 = .ok (.newarray .int, 2) := by decide +kernel
theorem dX6_init_23 : decode cX6_init 23 = .ok (.putfield 21, 3) := by decide +kernel
theorem dX6_init_26 : decode cX6_init 26 = .ok (.iconst 0, 1) := by decide +kernel
theorem dX6_init_27 : decode cX6_init 27 = .ok (.istore_n 1, 1) := by decide +kernel
theorem dX6_init_28 : decode cX6_init 28 = .ok (.iload_n 1, 1) := by decide +kernel
theorem dX6_init_29 : decode cX6_init 29 = .ok (.iconst 4, 1) := by decide +kernel
theorem dX6_init_30 : decode cX6_init 30 = .ok (.if_icmp .ge 23, 3) := by decide +kernel
theorem dX6_init_33 : decode cX6_init 33 = .ok (.aload_n 0, 1) := by decide +kernel
theorem dX6_init_34 : decode cX6_init 34 = .ok (.getfield 11, 3) := by decide +kernel
theorem dX6_init_37 : decode cX6_init 37 = .ok (.iload_n 1, 1) := by decide +kernel
theorem dX6_init_38 : decode cX6_init 38 = .ok (.new 9, 3) := by decide +kernel
theorem dX6_init_41 : decode cX6_init 41 = .ok (.dup, 1) := by decide +kernel
theorem dX6_init_42 : decode cX6_init 42 = .ok (.iload_n 1, 1) := by decide +kernel
theorem dX6_init_43 : decode cX6_init 43 = .ok (.invokespecial 24, 3) := by decide +kernel
theorem dX6_init_46 : decode cX6_init 46 = .ok (.aastore, 1) := by decide +kernel
theorem dX6_init_47 : decode cX6_init 47 = .ok (.iinc 1 1, 3) := by decide +kernel
theorem dX6_init_50 : decode cX6_init 50 = .ok (.goto (-22), 3) := by decide +kernel
theorem dX6_init_53 : decode cX6_init 53 = .ok (.aload_n 0, 1) := by decide +kernel
theorem dX6_init_54 : decode cX6_init 54 = .ok (.iconst 0, 1) := by decide +kernel
theorem dX6_init_55 : decode cX6_init 55 = .ok (.newarray .int, 2) := by decide +kernel
theorem dX6_init_57 : decode cX6_init 57 = .ok (.putfield 27, 3) := by decide +kernel
theorem dX6_init_60 : decode cX6_init 60 = .ok (.return_, 1) := by decide +kernel
theorem dX6_draft_0 : decode cX6_draft 0 = .ok (.aload_n 0, 1) := by decide +kernel
theorem dX6_draft_1 : decode cX6_draft 1 = .ok (.getfield 11, 3) := by decide +kernel
theorem dX6_draft_4 : decode cX6_draft 4 = .ok (.iload_n 1, 1) := by decide +kernel
theorem dX6_draft_5 : decode cX6_draft 5 = .ok (.iconst 3, 1) := by decide +kernel
theorem dX6_draft_6 : decode cX6_draft 6 = .ok (.iand, 1) := by decide +kernel
theorem dX6_draft_7 : decode cX6_draft 7 = .ok (.aaload, 1) := by decide +kernel
theorem dX6_draft_8 : decode cX6_draft 8 = .ok (.areturn, 1) := by decide +kernel
set_option maxRecDepth 20000 in
theorem ggX6_read_J7_fill_53178 : GoodIn wsX6_read wsJ7_fill_53178 := goodIn_r _ [17] (by decide +kernel) (by decide +kernel)
set_option maxRecDepth 20000 in
theorem gX6_read_J7_fill_53178 : GoodIn wsX6_read (va_wsS RX6 58 yJ7_fill_53178 wsJ7_fill_53178) := goodIn_app (goodIn_of _ (by decide +kernel)) ggX6_read_J7_fill_53178
set_option maxRecDepth 20000 in
theorem ggX6_read_X6_skipBlanks : GoodIn wsX6_read wsX6_skipBlanks := goodIn_r _ [22, 10, 7, 2, 121, 122, 123, 124, 125, 126, 127, 128, 129, 130, 131] (by decide +kernel) (by decide +kernel)
set_option maxRecDepth 20000 in
theorem gX6_read_X6_skipBlanks : GoodIn wsX6_read (wsV RX6 64 RX6 yX6_skipBlanks wsX6_skipBlanks) := goodIn_app (goodIn_of _ (by decide +kernel)) ggX6_read_X6_skipBlanks
set_option maxRecDepth 20000 in
theorem ggX6_read_X6_readLine : GoodIn wsX6_read wsX6_readLine := goodIn_r _ [26, 11, 1, 10, 27, 7, 2, 8, 28, 29, 30, 21, 31, 32, 33, 34, 35, 36, 37, 38, 39, 40, 41, 42, 43, 44, 45, 46, 47, 48, 49, 50, 51, 52, 53, 54, 55, 56, 57, 58, 59, 60, 61, 62, 63, 64, 65, 66, 67, 68, 69, 70, 71, 72, 73, 74, 75, 76, 77, 78, 79, 80, 81, 82, 83, 84, 85, 86, 87, 88, 89, 90, 91, 92, 93, 94, 95, 96, 9, 97, 98, 99, 100, 101, 102, 103, 104, 105, 106, 107, 18, 19, 20, 22, 108, 109, 110, 111, 13, 12, 112, 113, 114, 121, 122, 123, 124, 125, 126, 127, 128, 129, 130, 131, 132, 133, 134, 135] (by decide +kernel) (by decide +kernel)
set_option maxRecDepth 20000 in
theorem gX6_read_X6_readLine : GoodIn wsX6_read (wsV RX6 67 RX6 yX6_readLine wsX6_readLine) := goodIn_app (goodIn_of _ (by decide +kernel)) ggX6_read_X6_readLine
set_option maxRecDepth 20000 in
theorem ggX6_read_X6_finish : GoodIn wsX6_read wsX6_finish := goodIn_r _ [118, 112, 1, 11, 113, 3, 4, 5, 6, 119, 12, 7, 120, 13, 97, 98, 99, 21, 100, 8, 9, 121, 122, 123, 124, 125, 126, 127, 128, 129, 130, 131, 132, 133, 134, 135] (by decide +kernel) (by decide +kernel)
set_option maxRecDepth 20000 in
theorem gX6_read_X6_finish : GoodIn wsX6_read (wsV RX6 70 RX6 yX6_finish wsX6_finish) := goodIn_app (goodIn_of _ (by decide +kernel)) ggX6_read_X6_finish
theorem dX6_read_0 : decode cX6_read 0 = .ok (.aload_n 0, 1) := by decide +kernel
theorem dX6_read_1 : decode cX6_read 1 = .ok (.iload_n 1, 1) := by decide +kernel
theorem dX6_read_2 : decode cX6_read 2 = .ok (.iconst 3, 1) := by decide +kernel
theorem dX6_read_3 : decode cX6_read 3 = .ok (.iand, 1) := by decide +kernel
theorem dX6_read_4 : decode cX6_read 4 = .ok (.putfield 30, 3) := by decide +kernel
theorem dX6_read_7 : decode cX6_read 7 = .ok (.aload_n 0, 1) := by decide +kernel
theorem dX6_read_8 : decode cX6_read 8 = .ok (.aload_n 2, 1) := by decide +kernel
theorem dX6_read_9 : decode cX6_read 9 = .ok (.putfield 27, 3) := by decide +kernel
theorem dX6_read_12 : decode cX6_read 12 = .ok (.aload_n 0, 1) := by decide +kernel
theorem dX6_read_13 : decode cX6_read 13 = .ok (.iload_n 3, 1) := by decide +kernel
theorem dX6_read_14 : decode cX6_read 14 = .ok (.aload_n 2, 1) := by decide +kernel
theorem dX6_read_15 : decode cX6_read 15 = .ok (.arraylength, 1) := by decide +kernel
theorem dX6_read_16 : decode cX6_read 16 = .ok (.invokestatic 34, 3) := by decide +kernel
theorem dX6_read_19 : decode cX6_read 19 = .ok (.putfield 40, 3) := by decide +kernel
theorem dX6_read_22 : decode cX6_read 22 = .ok (.aload_n 0, 1) := by decide +kernel
theorem dX6_read_23 : decode cX6_read 23 = .ok (.iconst 0, 1) := by decide +kernel
theorem dX6_read_24 : decode cX6_read 24 = .ok (.putfield 43, 3) := by decide +kernel
theorem dX6_read_27 : decode cX6_read 27 = .ok (.aload_n 0, 1) := by decide +kernel
theorem dX6_read_28 : decode cX6_read 28 = .ok (.iconst (-1), 1) := by decide +kernel
theorem dX6_read_29 : decode cX6_read 29 = .ok (.putfield 46, 3) := by decide +kernel
theorem dX6_read_32 : decode cX6_read 32 = .ok (.aload_n 0, 1) := by decide +kernel
theorem dX6_read_33 : decode cX6_read 33 = .ok (.iconst 0, 1) := by decide +kernel
theorem dX6_read_34 : decode cX6_read 34 = .ok (.putfield 49, 3) := by decide +kernel
theorem dX6_read_37 : decode cX6_read 37 = .ok (.aload_n 0, 1) := by decide +kernel
theorem dX6_read_38 : decode cX6_read 38 = .ok (.iconst 0, 1) := by decide +kernel
theorem dX6_read_39 : decode cX6_read 39 = .ok (.putfield 52, 3) := by decide +kernel
theorem dX6_read_42 : decode cX6_read 42 = .ok (.aload_n 0, 1) := by decide +kernel
theorem dX6_read_43 : decode cX6_read 43 = .ok (.iconst 0, 1) := by decide +kernel
theorem dX6_read_44 : decode cX6_read 44 = .ok (.putfield 55, 3) := by decide +kernel
theorem dX6_read_47 : decode cX6_read 47 = .ok (.aload_n 0, 1) := by decide +kernel
theorem dX6_read_48 : decode cX6_read 48 = .ok (.getfield 17, 3) := by decide +kernel
theorem dX6_read_51 : decode cX6_read 51 = .ok (.iconst 1, 1) := by decide +kernel
theorem dX6_read_52 : decode cX6_read 52 = .ok (.invokestatic 58, 3) := by decide +kernel
theorem dX6_read_55 : decode cX6_read 55 = .ok (.aload_n 0, 1) := by decide +kernel
theorem dX6_read_56 : decode cX6_read 56 = .ok (.invokevirtual 64, 3) := by decide +kernel
theorem dX6_read_59 : decode cX6_read 59 = .ok (.iconst 0, 1) := by decide +kernel
theorem dX6_read_60 : decode cX6_read 60 = .ok (.istore 4, 2) := by decide +kernel
theorem dX6_read_62 : decode cX6_read 62 = .ok (.iload 4, 2) := by decide +kernel
theorem dX6_read_64 : decode cX6_read 64 = .ok (.sipush 600, 3) := by decide +kernel
theorem dX6_read_67 : decode cX6_read 67 = .ok (.if_icmp .gt 36, 3) := by decide +kernel
theorem dX6_read_70 : decode cX6_read 70 = .ok (.aload_n 0, 1) := by decide +kernel
theorem dX6_read_71 : decode cX6_read 71 = .ok (.getfield 49, 3) := by decide +kernel
theorem dX6_read_74 : decode cX6_read 74 = .ok (.aload_n 0, 1) := by decide +kernel
theorem dX6_read_75 : decode cX6_read 75 = .ok (.getfield 40, 3) := by decide +kernel
theorem dX6_read_78 : decode cX6_read 78 = .ok (.if_icmp .ge 25, 3) := by decide +kernel
theorem dX6_read_81 : decode cX6_read 81 = .ok (.aload_n 0, 1) := by decide +kernel
theorem dX6_read_82 : decode cX6_read 82 = .ok (.getfield 43, 3) := by decide +kernel
theorem dX6_read_85 : decode cX6_read 85 = .ok (.iconst 1, 1) := by decide +kernel
theorem dX6_read_86 : decode cX6_read 86 = .ok (.if_icmp .eq 17, 3) := by decide +kernel
theorem dX6_read_89 : decode cX6_read 89 = .ok (.aload_n 0, 1) := by decide +kernel
theorem dX6_read_90 : decode cX6_read 90 = .ok (.invokevirtual 67, 3) := by decide +kernel
theorem dX6_read_93 : decode cX6_read 93 = .ok (.aload_n 0, 1) := by decide +kernel
theorem dX6_read_94 : decode cX6_read 94 = .ok (.invokevirtual 64, 3) := by decide +kernel
theorem dX6_read_97 : decode cX6_read 97 = .ok (.iinc 4 1, 3) := by decide +kernel
theorem dX6_read_100 : decode cX6_read 100 = .ok (.goto (-38), 3) := by decide +kernel
theorem dX6_read_103 : decode cX6_read 103 = .ok (.aload_n 0, 1) := by decide +kernel
theorem dX6_read_104 : decode cX6_read 104 = .ok (.invokevirtual 70, 3) := by decide +kernel
theorem dX6_read_107 : decode cX6_read 107 = .ok (.return_, 1) := by decide +kernel
theorem dX6_breakOff_0 : decode cX6_breakOff 0 = .ok (.aload_n 0, 1) := by decide +kernel
theorem dX6_breakOff_1 : decode cX6_breakOff 1 = .ok (.iconst 1, 1) := by decide +kernel
theorem dX6_breakOff_2 : decode cX6_breakOff 2 = .ok (.putfield 43, 3) := by decide +kernel
theorem dX6_breakOff_5 : decode cX6_breakOff 5 = .ok (.aload_n 0, 1) := by decide +kernel
theorem dX6_breakOff_6 : decode cX6_breakOff 6 = .ok (.aload_n 0, 1) := by decide +kernel
theorem dX6_breakOff_7 : decode cX6_breakOff 7 = .ok (.getfield 49, 3) := by decide +kernel
theorem dX6_breakOff_10 : decode cX6_breakOff 10 = .ok (.putfield 46, 3) := by decide +kernel
theorem dX6_breakOff_13 : decode cX6_breakOff 13 = .ok (.return_, 1) := by decide +kernel
theorem dX6_note_0 : decode cX6_note 0 = .ok (.aload_n 0, 1) := by decide +kernel
theorem dX6_note_1 : decode cX6_note 1 = .ok (.getfield 43, 3) := by decide +kernel
theorem dX6_note_4 : decode cX6_note 4 = .ok (.ifCond .ne 13, 3) := by decide +kernel
theorem dX6_note_7 : decode cX6_note 7 = .ok (.aload_n 0, 1) := by decide +kernel
theorem dX6_note_8 : decode cX6_note 8 = .ok (.iload_n 1, 1) := by decide +kernel
theorem dX6_note_9 : decode cX6_note 9 = .ok (.putfield 43, 3) := by decide +kernel
theorem dX6_note_12 : decode cX6_note 12 = .ok (.aload_n 0, 1) := by decide +kernel
theorem dX6_note_13 : decode cX6_note 13 = .ok (.iload_n 2, 1) := by decide +kernel
theorem dX6_note_14 : decode cX6_note 14 = .ok (.putfield 46, 3) := by decide +kernel
theorem dX6_note_17 : decode cX6_note 17 = .ok (.return_, 1) := by decide +kernel
set_option maxRecDepth 20000 in
theorem ggX6_readLine_X6_wordHere : GoodIn wsX6_readLine wsX6_wordHere := goodIn_r _ [12, 13, 2, 14, 15, 16, 11, 17, 3, 5, 6, 18, 19, 20, 21, 22, 23, 24, 25, 26, 27, 28, 29, 30, 31, 32, 33, 34, 35, 36, 37, 38, 39, 40, 41, 42, 43, 44, 45, 46, 47, 48, 49, 50, 51, 52, 53, 54, 55, 56, 57, 58, 59, 60, 61, 62, 63, 64, 65, 66, 67, 68, 69, 70, 71, 72, 73, 103, 104, 105, 106, 107, 108, 109, 110, 111, 112, 113] (by decide +kernel) (by decide +kernel)
set_option maxRecDepth 20000 in
theorem gX6_readLine_X6_wordHere : GoodIn wsX6_readLine (wsV RX6 73 RX6 yX6_wordHere wsX6_wordHere) := goodIn_app (goodIn_of _ (by decide +kernel)) ggX6_readLine_X6_wordHere
set_option maxRecDepth 20000 in
theorem ggX6_readLine_X6_breakOff : GoodIn wsX6_readLine wsX6_breakOff := goodIn_r _ [77, 7, 3, 78, 103, 104, 105, 106, 107, 108, 109, 110, 111, 112, 113] (by decide +kernel) (by decide +kernel)
set_option maxRecDepth 20000 in
theorem gX6_readLine_X6_breakOff : GoodIn wsX6_readLine (wsV RX6 77 RX6 yX6_breakOff wsX6_breakOff) := goodIn_app (goodIn_of _ (by decide +kernel)) ggX6_readLine_X6_breakOff
set_option maxRecDepth 20000 in
theorem ggX6_readLine_X6_note : GoodIn wsX6_readLine wsX6_note := goodIn_r _ [82, 7, 78, 103, 104, 105, 106, 107, 108, 109, 110, 111, 112, 113] (by decide +kernel) (by decide +kernel)
set_option maxRecDepth 20000 in
theorem gX6_readLine_X6_note : GoodIn wsX6_readLine (wsV RX6 83 RX6 yX6_note wsX6_note) := goodIn_app (goodIn_of _ (by decide +kernel)) ggX6_readLine_X6_note
set_option maxRecDepth 20000 in
theorem ggX6_readLine_X6_rowEnd : GoodIn wsX6_readLine wsX6_rowEnd := goodIn_r _ [17, 3, 5, 6, 103, 104, 105, 106, 107, 108, 109, 110, 111, 112, 113] (by decide +kernel) (by decide +kernel)
set_option maxRecDepth 20000 in
theorem gX6_readLine_X6_rowEnd : GoodIn wsX6_readLine (wsV RX6 87 RX6 yX6_rowEnd wsX6_rowEnd) := goodIn_app (goodIn_of _ (by decide +kernel)) ggX6_readLine_X6_rowEnd
set_option maxRecDepth 20000 in
theorem ggX6_readLine_X6_readNumber : GoodIn wsX6_readLine wsX6_readNumber := goodIn_r _ [86, 3, 6, 87, 88, 89, 90, 91, 92, 11, 93, 5, 14, 15, 16, 17, 79, 80, 81, 82, 7, 78, 103, 104, 105, 106, 107, 108, 109, 110, 111, 112, 113] (by decide +kernel) (by decide +kernel)
set_option maxRecDepth 20000 in
theorem gX6_readLine_X6_readNumber : GoodIn wsX6_readLine (wsV RX6 93 RX6 yX6_readNumber wsX6_readNumber) := goodIn_app (goodIn_of _ (by decide +kernel)) ggX6_readLine_X6_readNumber
set_option maxRecDepth 20000 in
theorem ggX6_readLine_X6_skipBlanks : GoodIn wsX6_readLine wsX6_skipBlanks := goodIn_r _ [93, 3, 5, 6, 103, 104, 105, 106, 107, 108, 109, 110, 111, 112, 113] (by decide +kernel) (by decide +kernel)
set_option maxRecDepth 20000 in
theorem gX6_readLine_X6_skipBlanks : GoodIn wsX6_readLine (wsV RX6 64 RX6 yX6_skipBlanks wsX6_skipBlanks) := goodIn_app (goodIn_of _ (by decide +kernel)) ggX6_readLine_X6_skipBlanks
set_option maxRecDepth 20000 in
theorem ggX6_readLine_X6_take : GoodIn wsX6_readLine wsX6_take := goodIn_r _ [97, 98, 87, 99, 1, 100, 2, 101, 102, 103, 104, 105, 106, 107, 108, 109, 110, 111, 112, 113, 114, 115, 116, 117] (by decide +kernel) (by decide +kernel)
set_option maxRecDepth 20000 in
theorem gX6_readLine_X6_take : GoodIn wsX6_readLine (wsV RX6 97 RX6 yX6_take wsX6_take) := goodIn_app (goodIn_of _ (by decide +kernel)) ggX6_readLine_X6_take
theorem dX6_readLine_0 : decode cX6_readLine 0 = .ok (.aload_n 0, 1) := by decide +kernel
theorem dX6_readLine_1 : decode cX6_readLine 1 = .ok (.invokevirtual 73, 3) := by decide +kernel
theorem dX6_readLine_4 : decode cX6_readLine 4 = .ok (.istore_n 1, 1) := by decide +kernel
theorem dX6_readLine_5 : decode cX6_readLine 5 = .ok (.iload_n 1, 1) := by decide +kernel
theorem dX6_readLine_6 : decode cX6_readLine 6 = .ok (.iconst (-1), 1) := by decide +kernel
theorem dX6_readLine_7 : decode cX6_readLine 7 = .ok (.if_icmp .ne 8, 3) := by decide +kernel
theorem dX6_readLine_10 : decode cX6_readLine 10 = .ok (.aload_n 0, 1) := by decide +kernel
theorem dX6_readLine_11 : decode cX6_readLine 11 = .ok (.invokevirtual 77, 3) := by decide +kernel
theorem dX6_readLine_14 : decode cX6_readLine 14 = .ok (.return_, 1) := by decide +kernel
theorem dX6_readLine_15 : decode cX6_readLine 15 = .ok (.iload_n 1, 1) := by decide +kernel
theorem dX6_readLine_16 : decode cX6_readLine 16 = .ok (.iconst 1, 1) := by decide +kernel
theorem dX6_readLine_17 : decode cX6_readLine 17 = .ok (.if_icmp .eq 37, 3) := by decide +kernel
theorem dX6_readLine_20 : decode cX6_readLine 20 = .ok (.aload_n 0, 1) := by decide +kernel
theorem dX6_readLine_21 : decode cX6_readLine 21 = .ok (.dup, 1) := by decide +kernel
theorem dX6_readLine_22 : decode cX6_readLine 22 = .ok (.getfield 52, 3) := by decide +kernel
theorem dX6_readLine_25 : decode cX6_readLine 25 = .ok (.iconst 1, 1) := by decide +kernel
theorem dX6_readLine_26 : decode cX6_readLine 26 = .ok (.iadd, 1) := by decide +kernel
theorem dX6_readLine_27 : decode cX6_readLine 27 = .ok (.putfield 52, 3) := by decide +kernel
theorem dX6_readLine_30 : decode cX6_readLine 30 = .ok (.aload_n 0, 1) := by decide +kernel
theorem dX6_readLine_31 : decode cX6_readLine 31 = .ok (.getfield 52, 3) := by decide +kernel
theorem dX6_readLine_34 : decode cX6_readLine 34 = .ok (.getstatic 80, 3) := by decide +kernel
theorem dX6_readLine_37 : decode cX6_readLine 37 = .ok (.aload_n 0, 1) := by decide +kernel
theorem dX6_readLine_38 : decode cX6_readLine 38 = .ok (.getfield 30, 3) := by decide +kernel
theorem dX6_readLine_41 : decode cX6_readLine 41 = .ok (.iaload, 1) := by decide +kernel
theorem dX6_readLine_42 : decode cX6_readLine 42 = .ok (.if_icmp .le 12, 3) := by decide +kernel
theorem dX6_readLine_45 : decode cX6_readLine 45 = .ok (.aload_n 0, 1) := by decide +kernel
theorem dX6_readLine_46 : decode cX6_readLine 46 = .ok (.iconst 3, 1) := by decide +kernel
theorem dX6_readLine_47 : decode cX6_readLine 47 = .ok (.aload_n 0, 1) := by decide +kernel
theorem dX6_readLine_48 : decode cX6_readLine 48 = .ok (.getfield 49, 3) := by decide +kernel
theorem dX6_readLine_51 : decode cX6_readLine 51 = .ok (.invokevirtual 83, 3) := by decide +kernel
theorem dX6_readLine_54 : decode cX6_readLine 54 = .ok (.aload_n 0, 1) := by decide +kernel
theorem dX6_readLine_55 : decode cX6_readLine 55 = .ok (.aload_n 0, 1) := by decide +kernel
theorem dX6_readLine_56 : decode cX6_readLine 56 = .ok (.bipush 97, 2) := by decide +kernel
theorem dX6_readLine_58 : decode cX6_readLine 58 = .ok (.bipush 122, 2) := by decide +kernel
theorem dX6_readLine_60 : decode cX6_readLine 60 = .ok (.invokevirtual 87, 3) := by decide +kernel
theorem dX6_readLine_63 : decode cX6_readLine 63 = .ok (.putfield 49, 3) := by decide +kernel
theorem dX6_readLine_66 : decode cX6_readLine 66 = .ok (.iconst 0, 1) := by decide +kernel
theorem dX6_readLine_67 : decode cX6_readLine 67 = .ok (.istore_n 2, 1) := by decide +kernel
theorem dX6_readLine_68 : decode cX6_readLine 68 = .ok (.iload_n 2, 1) := by decide +kernel
theorem dX6_readLine_69 : decode cX6_readLine 69 = .ok (.getstatic 90, 3) := by decide +kernel
theorem dX6_readLine_72 : decode cX6_readLine 72 = .ok (.iload_n 1, 1) := by decide +kernel
theorem dX6_readLine_73 : decode cX6_readLine 73 = .ok (.iaload, 1) := by decide +kernel
theorem dX6_readLine_74 : decode cX6_readLine 74 = .ok (.if_icmp .ge 23, 3) := by decide +kernel
theorem dX6_readLine_77 : decode cX6_readLine 77 = .ok (.aload_n 0, 1) := by decide +kernel
theorem dX6_readLine_78 : decode cX6_readLine 78 = .ok (.iload_n 1, 1) := by decide +kernel
theorem dX6_readLine_79 : decode cX6_readLine 79 = .ok (.iload_n 2, 1) := by decide +kernel
theorem dX6_readLine_80 : decode cX6_readLine 80 = .ok (.invokevirtual 93, 3) := by decide +kernel
theorem dX6_readLine_83 : decode cX6_readLine 83 = .ok (.ifCond .ne 8, 3) := by decide +kernel
theorem dX6_readLine_86 : decode cX6_readLine 86 = .ok (.aload_n 0, 1) := by decide +kernel
theorem dX6_readLine_87 : decode cX6_readLine 87 = .ok (.invokevirtual 77, 3) := by decide +kernel
theorem dX6_readLine_90 : decode cX6_readLine 90 = .ok (.return_, 1) := by decide +kernel
theorem dX6_readLine_91 : decode cX6_readLine 91 = .ok (.iinc 2 1, 3) := by decide +kernel
theorem dX6_readLine_94 : decode cX6_readLine 94 = .ok (.goto (-26), 3) := by decide +kernel
theorem dX6_readLine_97 : decode cX6_readLine 97 = .ok (.aload_n 0, 1) := by decide +kernel
theorem dX6_readLine_98 : decode cX6_readLine 98 = .ok (.invokevirtual 64, 3) := by decide +kernel
theorem dX6_readLine_101 : decode cX6_readLine 101 = .ok (.aload_n 0, 1) := by decide +kernel
theorem dX6_readLine_102 : decode cX6_readLine 102 = .ok (.getfield 49, 3) := by decide +kernel
theorem dX6_readLine_105 : decode cX6_readLine 105 = .ok (.aload_n 0, 1) := by decide +kernel
theorem dX6_readLine_106 : decode cX6_readLine 106 = .ok (.getfield 40, 3) := by decide +kernel
theorem dX6_readLine_109 : decode cX6_readLine 109 = .ok (.if_icmp .ge 17, 3) := by decide +kernel
theorem dX6_readLine_112 : decode cX6_readLine 112 = .ok (.aload_n 0, 1) := by decide +kernel
theorem dX6_readLine_113 : decode cX6_readLine 113 = .ok (.getfield 27, 3) := by decide +kernel
theorem dX6_readLine_116 : decode cX6_readLine 116 = .ok (.aload_n 0, 1) := by decide +kernel
theorem dX6_readLine_117 : decode cX6_readLine 117 = .ok (.getfield 49, 3) := by decide +kernel
theorem dX6_readLine_120 : decode cX6_readLine 120 = .ok (.iaload, 1) := by decide +kernel
theorem dX6_readLine_121 : decode cX6_readLine 121 = .ok (.bipush 59, 2) := by decide +kernel
theorem dX6_readLine_123 : decode cX6_readLine 123 = .ok (.if_icmp .eq 8, 3) := by decide +kernel
theorem dX6_readLine_126 : decode cX6_readLine 126 = .ok (.aload_n 0, 1) := by decide +kernel
theorem dX6_readLine_127 : decode cX6_readLine 127 = .ok (.invokevirtual 77, 3) := by decide +kernel
theorem dX6_readLine_130 : decode cX6_readLine 130 = .ok (.return_, 1) := by decide +kernel
theorem dX6_readLine_131 : decode cX6_readLine 131 = .ok (.aload_n 0, 1) := by decide +kernel
theorem dX6_readLine_132 : decode cX6_readLine 132 = .ok (.dup, 1) := by decide +kernel
theorem dX6_readLine_133 : decode cX6_readLine 133 = .ok (.getfield 49, 3) := by decide +kernel
theorem dX6_readLine_136 : decode cX6_readLine 136 = .ok (.iconst 1, 1) := by decide +kernel
theorem dX6_readLine_137 : decode cX6_readLine 137 = .ok (.iadd, 1) := by decide +kernel
theorem dX6_readLine_138 : decode cX6_readLine 138 = .ok (.putfield 49, 3) := by decide +kernel
theorem dX6_readLine_141 : decode cX6_readLine 141 = .ok (.aload_n 0, 1) := by decide +kernel
theorem dX6_readLine_142 : decode cX6_readLine 142 = .ok (.getfield 43, 3) := by decide +kernel
theorem dX6_readLine_145 : decode cX6_readLine 145 = .ok (.ifCond .ne 8, 3) := by decide +kernel
theorem dX6_readLine_148 : decode cX6_readLine 148 = .ok (.aload_n 0, 1) := by decide +kernel
theorem dX6_readLine_149 : decode cX6_readLine 149 = .ok (.iload_n 1, 1) := by decide +kernel
theorem dX6_readLine_150 : decode cX6_readLine 150 = .ok (.invokevirtual 97, 3) := by decide +kernel
theorem dX6_readLine_153 : decode cX6_readLine 153 = .ok (.return_, 1) := by decide +kernel
set_option maxRecDepth 20000 in
theorem ggX6_readNumber_X6_skipBlanks : GoodIn wsX6_readNumber wsX6_skipBlanks := goodIn_r _ [10, 1, 11, 2, 22, 23, 24, 25, 26, 27, 28, 29, 30, 31, 32] (by decide +kernel) (by decide +kernel)
set_option maxRecDepth 20000 in
theorem gX6_readNumber_X6_skipBlanks : GoodIn wsX6_readNumber (wsV RX6 64 RX6 yX6_skipBlanks wsX6_skipBlanks) := goodIn_app (goodIn_of _ (by decide +kernel)) ggX6_readNumber_X6_skipBlanks
set_option maxRecDepth 20000 in
theorem ggX6_readNumber_X6_rowEnd : GoodIn wsX6_readNumber wsX6_rowEnd := goodIn_r _ [15, 1, 11, 2, 22, 23, 24, 25, 26, 27, 28, 29, 30, 31, 32] (by decide +kernel) (by decide +kernel)
set_option maxRecDepth 20000 in
theorem gX6_readNumber_X6_rowEnd : GoodIn wsX6_readNumber (wsV RX6 87 RX6 yX6_rowEnd wsX6_rowEnd) := goodIn_app (goodIn_of _ (by decide +kernel)) ggX6_readNumber_X6_rowEnd
set_option maxRecDepth 20000 in
theorem ggX6_readNumber_X6_note : GoodIn wsX6_readNumber wsX6_note := goodIn_r _ [19, 20, 21, 22, 23, 24, 25, 26, 27, 28, 29, 30, 31, 32] (by decide +kernel) (by decide +kernel)
set_option maxRecDepth 20000 in
theorem gX6_readNumber_X6_note : GoodIn wsX6_readNumber (wsV RX6 83 RX6 yX6_note wsX6_note) := goodIn_app (goodIn_of _ (by decide +kernel)) ggX6_readNumber_X6_note
theorem dX6_readNumber_0 : decode cX6_readNumber 0 = .ok (.aload_n 0, 1) := by decide +kernel
theorem dX6_readNumber_1 : decode cX6_readNumber 1 = .ok (.invokevirtual 64, 3) := by decide +kernel
theorem dX6_readNumber_4 : decode cX6_readNumber 4 = .ok (.aload_n 0, 1) := by decide +kernel
theorem dX6_readNumber_5 : decode cX6_readNumber 5 = .ok (.bipush 48, 2) := by decide +kernel
theorem dX6_readNumber_7 : decode cX6_readNumber 7 = .ok (.bipush 57, 2) := by decide +kernel
theorem dX6_readNumber_9 : decode cX6_readNumber 9 = .ok (.invokevirtual 87, 3) := by decide +kernel
theorem dX6_readNumber_12 : decode cX6_readNumber 12 = .ok (.istore_n 3, 1) := by decide +kernel
theorem dX6_readNumber_13 : decode cX6_readNumber 13 = .ok (.iload_n 3, 1) := by decide +kernel
theorem dX6_readNumber_14 : decode cX6_readNumber 14 = .ok (.aload_n 0, 1) := by decide +kernel
theorem dX6_readNumber_15 : decode cX6_readNumber 15 = .ok (.getfield 49, 3) := by decide +kernel
theorem dX6_readNumber_18 : decode cX6_readNumber 18 = .ok (.if_icmp .eq 13, 3) := by decide +kernel
theorem dX6_readNumber_21 : decode cX6_readNumber 21 = .ok (.iload_n 3, 1) := by decide +kernel
theorem dX6_readNumber_22 : decode cX6_readNumber 22 = .ok (.aload_n 0, 1) := by decide +kernel
theorem dX6_readNumber_23 : decode cX6_readNumber 23 = .ok (.getfield 49, 3) := by decide +kernel
theorem dX6_readNumber_26 : decode cX6_readNumber 26 = .ok (.iconst 2, 1) := by decide +kernel
theorem dX6_readNumber_27 : decode cX6_readNumber 27 = .ok (.iadd, 1) := by decide +kernel
theorem dX6_readNumber_28 : decode cX6_readNumber 28 = .ok (.if_icmp .le 5, 3) := by decide +kernel
theorem dX6_readNumber_31 : decode cX6_readNumber 31 = .ok (.iconst 0, 1) := by decide +kernel
theorem dX6_readNumber_32 : decode cX6_readNumber 32 = .ok (.ireturn, 1) := by decide +kernel
theorem dX6_readNumber_33 : decode cX6_readNumber 33 = .ok (.iconst 0, 1) := by decide +kernel
theorem dX6_readNumber_34 : decode cX6_readNumber 34 = .ok (.istore 4, 2) := by decide +kernel
theorem dX6_readNumber_36 : decode cX6_readNumber 36 = .ok (.aload_n 0, 1) := by decide +kernel
theorem dX6_readNumber_37 : decode cX6_readNumber 37 = .ok (.getfield 49, 3) := by decide +kernel
theorem dX6_readNumber_40 : decode cX6_readNumber 40 = .ok (.istore 5, 2) := by decide +kernel
theorem dX6_readNumber_42 : decode cX6_readNumber 42 = .ok (.iload 5, 2) := by decide +kernel
theorem dX6_readNumber_44 : decode cX6_readNumber 44 = .ok (.iload_n 3, 1) := by decide +kernel
theorem dX6_readNumber_45 : decode cX6_readNumber 45 = .ok (.if_icmp .ge 27, 3) := by decide +kernel
theorem dX6_readNumber_48 : decode cX6_readNumber 48 = .ok (.iload 4, 2) := by decide +kernel
theorem dX6_readNumber_50 : decode cX6_readNumber 50 = .ok (.bipush 10, 2) := by decide +kernel
theorem dX6_readNumber_52 : decode cX6_readNumber 52 = .ok (.imul, 1) := by decide +kernel
theorem dX6_readNumber_53 : decode cX6_readNumber 53 = .ok (.aload_n 0, 1) := by decide +kernel
theorem dX6_readNumber_54 : decode cX6_readNumber 54 = .ok (.getfield 27, 3) := by decide +kernel
theorem dX6_readNumber_57 : decode cX6_readNumber 57 = .ok (.iload 5, 2) := by decide +kernel
theorem dX6_readNumber_59 : decode cX6_readNumber 59 = .ok (.iaload, 1) := by decide +kernel
theorem dX6_readNumber_60 : decode cX6_readNumber 60 = .ok (.iadd, 1) := by decide +kernel
theorem dX6_readNumber_61 : decode cX6_readNumber 61 = .ok (.bipush 48, 2) := by decide +kernel
theorem dX6_readNumber_63 : decode cX6_readNumber 63 = .ok (.isub, 1) := by decide +kernel
theorem dX6_readNumber_64 : decode cX6_readNumber 64 = .ok (.istore 4, 2) := by decide +kernel
theorem dX6_readNumber_66 : decode cX6_readNumber 66 = .ok (.iinc 5 1, 3) := by decide +kernel
theorem dX6_readNumber_69 : decode cX6_readNumber 69 = .ok (.goto (-27), 3) := by decide +kernel
theorem dX6_readNumber_72 : decode cX6_readNumber 72 = .ok (.iload_n 1, 1) := by decide +kernel
theorem dX6_readNumber_73 : decode cX6_readNumber 73 = .ok (.ifCond .ne 23, 3) := by decide +kernel
theorem dX6_readNumber_76 : decode cX6_readNumber 76 = .ok (.iload_n 2, 1) := by decide +kernel
theorem dX6_readNumber_77 : decode cX6_readNumber 77 = .ok (.iconst 1, 1) := by decide +kernel
theorem dX6_readNumber_78 : decode cX6_readNumber 78 = .ok (.if_icmp .ne 18, 3) := by decide +kernel
theorem dX6_readNumber_81 : decode cX6_readNumber 81 = .ok (.iload 4, 2) := by decide +kernel
theorem dX6_readNumber_83 : decode cX6_readNumber 83 = .ok (.aload_n 0, 1) := by decide +kernel
theorem dX6_readNumber_84 : decode cX6_readNumber 84 = .ok (.getfield 21, 3) := by decide +kernel
theorem dX6_readNumber_87 : decode cX6_readNumber 87 = .ok (.iconst 0, 1) := by decide +kernel
theorem dX6_readNumber_88 : decode cX6_readNumber 88 = .ok (.iaload, 1) := by decide +kernel
theorem dX6_readNumber_89 : decode cX6_readNumber 89 = .ok (.if_icmp .le 7, 3) := by decide +kernel
theorem dX6_readNumber_92 : decode cX6_readNumber 92 = .ok (.iconst 1, 1) := by decide +kernel
theorem dX6_readNumber_93 : decode cX6_readNumber 93 = .ok (.goto 4, 3) := by decide +kernel
theorem dX6_readNumber_96 : decode cX6_readNumber 96 = .ok (.iconst 0, 1) := by decide +kernel
theorem dX6_readNumber_97 : decode cX6_readNumber 97 = .ok (.istore 5, 2) := by decide +kernel
theorem dX6_readNumber_99 : decode cX6_readNumber 99 = .ok (.iload 4, 2) := by decide +kernel
theorem dX6_readNumber_101 : decode cX6_readNumber 101 = .ok (.getstatic 100, 3) := by decide +kernel
theorem dX6_readNumber_104 : decode cX6_readNumber 104 = .ok (.iload_n 1, 1) := by decide +kernel
theorem dX6_readNumber_105 : decode cX6_readNumber 105 = .ok (.iconst 2, 1) := by decide +kernel
theorem dX6_readNumber_106 : decode cX6_readNumber 106 = .ok (.imul, 1) := by decide +kernel
theorem dX6_readNumber_107 : decode cX6_readNumber 107 = .ok (.iload_n 2, 1) := by decide +kernel
theorem dX6_readNumber_108 : decode cX6_readNumber 108 = .ok (.iadd, 1) := by decide +kernel
theorem dX6_readNumber_109 : decode cX6_readNumber 109 = .ok (.iaload, 1) := by decide +kernel
theorem dX6_readNumber_110 : decode cX6_readNumber 110 = .ok (.if_icmp .lt 22, 3) := by decide +kernel
theorem dX6_readNumber_113 : decode cX6_readNumber 113 = .ok (.iload 4, 2) := by decide +kernel
theorem dX6_readNumber_115 : decode cX6_readNumber 115 = .ok (.getstatic 103, 3) := by decide +kernel
theorem dX6_readNumber_118 : decode cX6_readNumber 118 = .ok (.iload_n 1, 1) := by decide +kernel
theorem dX6_readNumber_119 : decode cX6_readNumber 119 = .ok (.iconst 2, 1) := by decide +kernel
theorem dX6_readNumber_120 : decode cX6_readNumber 120 = .ok (.imul, 1) := by decide +kernel
theorem dX6_readNumber_121 : decode cX6_readNumber 121 = .ok (.iload_n 2, 1) := by decide +kernel
theorem dX6_readNumber_122 : decode cX6_readNumber 122 = .ok (.iadd, 1) := by decide +kernel
theorem dX6_readNumber_123 : decode cX6_readNumber 123 = .ok (.iaload, 1) := by decide +kernel
theorem dX6_readNumber_124 : decode cX6_readNumber 124 = .ok (.if_icmp .gt 8, 3) := by decide +kernel
theorem dX6_readNumber_127 : decode cX6_readNumber 127 = .ok (.iload 5, 2) := by decide +kernel
theorem dX6_readNumber_129 : decode cX6_readNumber 129 = .ok (.ifCond .eq 12, 3) := by decide +kernel
theorem dX6_readNumber_132 : decode cX6_readNumber 132 = .ok (.aload_n 0, 1) := by decide +kernel
theorem dX6_readNumber_133 : decode cX6_readNumber 133 = .ok (.iconst 2, 1) := by decide +kernel
theorem dX6_readNumber_134 : decode cX6_readNumber 134 = .ok (.aload_n 0, 1) := by decide +kernel
theorem dX6_readNumber_135 : decode cX6_readNumber 135 = .ok (.getfield 49, 3) := by decide +kernel
theorem dX6_readNumber_138 : decode cX6_readNumber 138 = .ok (.invokevirtual 83, 3) := by decide +kernel
theorem dX6_readNumber_141 : decode cX6_readNumber 141 = .ok (.aload_n 0, 1) := by decide +kernel
theorem dX6_readNumber_142 : decode cX6_readNumber 142 = .ok (.getfield 21, 3) := by decide +kernel
theorem dX6_readNumber_145 : decode cX6_readNumber 145 = .ok (.iload_n 2, 1) := by decide +kernel
theorem dX6_readNumber_146 : decode cX6_readNumber 146 = .ok (.iload 4, 2) := by decide +kernel
theorem dX6_readNumber_148 : decode cX6_readNumber 148 = .ok (.iastore, 1) := by decide +kernel
theorem dX6_readNumber_149 : decode cX6_readNumber 149 = .ok (.aload_n 0, 1) := by decide +kernel
theorem dX6_readNumber_150 : decode cX6_readNumber 150 = .ok (.iload_n 3, 1) := by decide +kernel
theorem dX6_readNumber_151 : decode cX6_readNumber 151 = .ok (.putfield 49, 3) := by decide +kernel
theorem dX6_readNumber_154 : decode cX6_readNumber 154 = .ok (.iconst 1, 1) := by decide +kernel
theorem dX6_readNumber_155 : decode cX6_readNumber 155 = .ok (.ireturn, 1) := by decide +kernel
theorem dX6_take_0 : decode cX6_take 0 = .ok (.iload_n 1, 1) := by decide +kernel
theorem dX6_take_1 : decode cX6_take 1 = .ok (.iconst 1, 1) := by decide +kernel
theorem dX6_take_2 : decode cX6_take 2 = .ok (.if_icmp .ne 42, 3) := by decide +kernel
theorem dX6_take_5 : decode cX6_take 5 = .ok (.aload_n 0, 1) := by decide +kernel
theorem dX6_take_6 : decode cX6_take 6 = .ok (.getfield 17, 3) := by decide +kernel
theorem dX6_take_9 : decode cX6_take 9 = .ok (.aload_n 0, 1) := by decide +kernel
theorem dX6_take_10 : decode cX6_take 10 = .ok (.getfield 21, 3) := by decide +kernel
theorem dX6_take_13 : decode cX6_take 13 = .ok (.iconst 0, 1) := by decide +kernel
theorem dX6_take_14 : decode cX6_take 14 = .ok (.iaload, 1) := by decide +kernel
theorem dX6_take_15 : decode cX6_take 15 = .ok (.iconst 3, 1) := by decide +kernel
theorem dX6_take_16 : decode cX6_take 16 = .ok (.iand, 1) := by decide +kernel
theorem dX6_take_17 : decode cX6_take 17 = .ok (.aload_n 0, 1) := by decide +kernel
theorem dX6_take_18 : decode cX6_take 18 = .ok (.getfield 21, 3) := by decide +kernel
theorem dX6_take_21 : decode cX6_take 21 = .ok (.iconst 1, 1) := by decide +kernel
theorem dX6_take_22 : decode cX6_take 22 = .ok (.iaload, 1) := by decide +kernel
theorem dX6_take_23 : decode cX6_take 23 = .ok (.iastore, 1) := by decide +kernel
theorem dX6_take_24 : decode cX6_take 24 = .ok (.aload_n 0, 1) := by decide +kernel
theorem dX6_take_25 : decode cX6_take 25 = .ok (.dup, 1) := by decide +kernel
theorem dX6_take_26 : decode cX6_take 26 = .ok (.getfield 55, 3) := by decide +kernel
theorem dX6_take_29 : decode cX6_take 29 = .ok (.iconst 1, 1) := by decide +kernel
theorem dX6_take_30 : decode cX6_take 30 = .ok (.aload_n 0, 1) := by decide +kernel
theorem dX6_take_31 : decode cX6_take 31 = .ok (.getfield 21, 3) := by decide +kernel
theorem dX6_take_34 : decode cX6_take 34 = .ok (.iconst 0, 1) := by decide +kernel
theorem dX6_take_35 : decode cX6_take 35 = .ok (.iaload, 1) := by decide +kernel
theorem dX6_take_36 : decode cX6_take 36 = .ok (.iconst 3, 1) := by decide +kernel
theorem dX6_take_37 : decode cX6_take 37 = .ok (.iand, 1) := by decide +kernel
theorem dX6_take_38 : decode cX6_take 38 = .ok (.ishl, 1) := by decide +kernel
theorem dX6_take_39 : decode cX6_take 39 = .ok (.ior, 1) := by decide +kernel
theorem dX6_take_40 : decode cX6_take 40 = .ok (.putfield 55, 3) := by decide +kernel
theorem dX6_take_43 : decode cX6_take 43 = .ok (.return_, 1) := by decide +kernel
theorem dX6_take_44 : decode cX6_take 44 = .ok (.aload_n 0, 1) := by decide +kernel
theorem dX6_take_45 : decode cX6_take 45 = .ok (.getfield 52, 3) := by decide +kernel
theorem dX6_take_48 : decode cX6_take 48 = .ok (.iconst 1, 1) := by decide +kernel
theorem dX6_take_49 : decode cX6_take 49 = .ok (.isub, 1) := by decide +kernel
theorem dX6_take_50 : decode cX6_take 50 = .ok (.istore_n 2, 1) := by decide +kernel
theorem dX6_take_51 : decode cX6_take 51 = .ok (.aload_n 0, 1) := by decide +kernel
theorem dX6_take_52 : decode cX6_take 52 = .ok (.getfield 11, 3) := by decide +kernel
theorem dX6_take_55 : decode cX6_take 55 = .ok (.aload_n 0, 1) := by decide +kernel
theorem dX6_take_56 : decode cX6_take 56 = .ok (.getfield 30, 3) := by decide +kernel
theorem dX6_take_59 : decode cX6_take 59 = .ok (.aaload, 1) := by decide +kernel
theorem dX6_take_60 : decode cX6_take 60 = .ok (.astore_n 3, 1) := by decide +kernel
theorem dX6_take_61 : decode cX6_take 61 = .ok (.iload_n 2, 1) := by decide +kernel
theorem dX6_take_62 : decode cX6_take 62 = .ok (.ifCond .lt 12, 3) := by decide +kernel
theorem dX6_take_65 : decode cX6_take 65 = .ok (.iload_n 2, 1) := by decide +kernel
theorem dX6_take_66 : decode cX6_take 66 = .ok (.aload_n 3, 1) := by decide +kernel
theorem dX6_take_67 : decode cX6_take 67 = .ok (.getfield 106, 3) := by decide +kernel
theorem dX6_take_70 : decode cX6_take 70 = .ok (.arraylength, 1) := by decide +kernel
theorem dX6_take_71 : decode cX6_take 71 = .ok (.if_icmp .lt 4, 3) := by decide +kernel
theorem dX6_take_74 : decode cX6_take 74 = .ok (.return_, 1) := by decide +kernel
theorem dX6_take_75 : decode cX6_take 75 = .ok (.aload_n 0, 1) := by decide +kernel
theorem dX6_take_76 : decode cX6_take 76 = .ok (.getfield 30, 3) := by decide +kernel
theorem dX6_take_79 : decode cX6_take 79 = .ok (.lookupswitch 101 #[(1, 25), (2, 49)], 25) := by decide +kernel
theorem dX6_take_104 : decode cX6_take 104 = .ok (.aload_n 3, 1) := by decide +kernel
theorem dX6_take_105 : decode cX6_take 105 = .ok (.getfield 106, 3) := by decide +kernel
theorem dX6_take_108 : decode cX6_take 108 = .ok (.iload_n 2, 1) := by decide +kernel
theorem dX6_take_109 : decode cX6_take 109 = .ok (.iload_n 1, 1) := by decide +kernel
theorem dX6_take_110 : decode cX6_take 110 = .ok (.iconst 2, 1) := by decide +kernel
theorem dX6_take_111 : decode cX6_take 111 = .ok (.isub, 1) := by decide +kernel
theorem dX6_take_112 : decode cX6_take 112 = .ok (.iastore, 1) := by decide +kernel
theorem dX6_take_113 : decode cX6_take 113 = .ok (.aload_n 3, 1) := by decide +kernel
theorem dX6_take_114 : decode cX6_take 114 = .ok (.getfield 109, 3) := by decide +kernel
theorem dX6_take_117 : decode cX6_take 117 = .ok (.iload_n 2, 1) := by decide +kernel
theorem dX6_take_118 : decode cX6_take 118 = .ok (.aload_n 0, 1) := by decide +kernel
theorem dX6_take_119 : decode cX6_take 119 = .ok (.getfield 21, 3) := by decide +kernel
theorem dX6_take_122 : decode cX6_take 122 = .ok (.iconst 0, 1) := by decide +kernel
theorem dX6_take_123 : decode cX6_take 123 = .ok (.iaload, 1) := by decide +kernel
theorem dX6_take_124 : decode cX6_take 124 = .ok (.iastore, 1) := by decide +kernel
theorem dX6_take_125 : decode cX6_take 125 = .ok (.goto 87, 3) := by decide +kernel
theorem dX6_take_128 : decode cX6_take 128 = .ok (.aload_n 3, 1) := by decide +kernel
theorem dX6_take_129 : decode cX6_take 129 = .ok (.getfield 106, 3) := by decide +kernel
theorem dX6_take_132 : decode cX6_take 132 = .ok (.iload_n 2, 1) := by decide +kernel
theorem dX6_take_133 : decode cX6_take 133 = .ok (.iload_n 1, 1) := by decide +kernel
theorem dX6_take_134 : decode cX6_take 134 = .ok (.bipush 7, 2) := by decide +kernel
theorem dX6_take_136 : decode cX6_take 136 = .ok (.if_icmp .ne 12, 3) := by decide +kernel
theorem dX6_take_139 : decode cX6_take 139 = .ok (.aload_n 0, 1) := by decide +kernel
theorem dX6_take_140 : decode cX6_take 140 = .ok (.getfield 21, 3) := by decide +kernel
