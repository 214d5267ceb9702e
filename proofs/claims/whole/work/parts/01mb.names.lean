theorem dX12_need_26 : decode cX12_need 26 = .ok (.iload_n 2, 1) := by decide +kernel
theorem dX12_need_27 : decode cX12_need 27 = .ok (.invokevirtual 381, 3) := by decide +kernel
theorem dX12_need_30 : decode cX12_need 30 = .ok (.istore 4, 2) := by decide +kernel
theorem dX12_need_32 : decode cX12_need 32 = .ok (.iload 4, 2) := by decide +kernel
theorem dX12_need_34 : decode cX12_need 34 = .ok (.iconst (-1), 1) := by decide +kernel
theorem dX12_need_35 : decode cX12_need 35 = .ok (.if_icmp .eq 7, 3) := by decide +kernel
theorem dX12_need_38 : decode cX12_need 38 = .ok (.iload_n 3, 1) := by decide +kernel
theorem dX12_need_39 : decode cX12_need 39 = .ok (.ifCond .eq 8, 3) := by decide +kernel
theorem dX12_need_42 : decode cX12_need 42 = .ok (.iload 4, 2) := by decide +kernel
theorem dX12_need_44 : decode cX12_need 44 = .ok (.goto 8, 3) := by decide +kernel
theorem dX12_need_47 : decode cX12_need 47 = .ok (.iload 4, 2) := by decide +kernel
theorem dX12_need_49 : decode cX12_need 49 = .ok (.invokestatic 304, 3) := by decide +kernel
theorem dX12_need_52 : decode cX12_need 52 = .ok (.ireturn, 1) := by decide +kernel
theorem dX12_spans_0 : decode cX12_spans 0 = .ok (.aload_n 0, 1) := by decide +kernel
theorem dX12_spans_1 : decode cX12_spans 1 = .ok (.getfield 35, 3) := by decide +kernel
theorem dX12_spans_4 : decode cX12_spans 4 = .ok (.bipush 7, 2) := by decide +kernel
theorem dX12_spans_6 : decode cX12_spans 6 = .ok (.aload_n 0, 1) := by decide +kernel
theorem dX12_spans_7 : decode cX12_spans 7 = .ok (.getfield 384, 3) := by decide +kernel
theorem dX12_spans_10 : decode cX12_spans 10 = .ok (.imul, 1) := by decide +kernel
theorem dX12_spans_11 : decode cX12_spans 11 = .ok (.iaload, 1) := by decide +kernel
theorem dX12_spans_12 : decode cX12_spans 12 = .ok (.ireturn, 1) := by decide +kernel
set_option maxRecDepth 20000 in
theorem ggX12_hasOrder_X12_is : GoodIn wsX12_hasOrder wsX12_is := goodIn_r _ [6, 7, 8, 9, 5, 10, 11, 12, 13, 14, 15, 16, 17, 18, 19, 20, 21, 22, 23, 24, 25, 26, 27, 28, 29, 30, 31, 32, 33, 34, 35, 36, 37, 38, 39, 40, 41, 42, 43, 44, 45, 46, 47, 48, 49, 50, 51, 52, 53, 54, 55, 56, 57, 58, 59, 60, 61, 62, 63, 64, 65, 66, 67, 68, 69, 70, 71] (by decide +kernel) (by decide +kernel)
set_option maxRecDepth 20000 in
theorem gX12_hasOrder_X12_is : GoodIn wsX12_hasOrder (wsV RX12 237 RX12 yX12_is wsX12_is) := goodIn_app (goodIn_of _ (by decide +kernel)) ggX12_hasOrder_X12_is
theorem dX12_hasOrder_0 : decode cX12_hasOrder 0 = .ok (.aload_n 0, 1) := by decide +kernel
theorem dX12_hasOrder_1 : decode cX12_hasOrder 1 = .ok (.iload_n 1, 1) := by decide +kernel
theorem dX12_hasOrder_2 : decode cX12_hasOrder 2 = .ok (.putfield 384, 3) := by decide +kernel
theorem dX12_hasOrder_5 : decode cX12_hasOrder 5 = .ok (.aload_n 0, 1) := by decide +kernel
theorem dX12_hasOrder_6 : decode cX12_hasOrder 6 = .ok (.iconst 3, 1) := by decide +kernel
theorem dX12_hasOrder_7 : decode cX12_hasOrder 7 = .ok (.iload_n 1, 1) := by decide +kernel
theorem dX12_hasOrder_8 : decode cX12_hasOrder 8 = .ok (.invokevirtual 237, 3) := by decide +kernel
theorem dX12_hasOrder_11 : decode cX12_hasOrder 11 = .ok (.ireturn, 1) := by decide +kernel
set_option maxRecDepth 20000 in
theorem ggX12_order_X12_hasOrder : GoodIn wsX12_order wsX12_hasOrder := goodIn_r _ [7, 8, 9, 10, 11, 6, 12, 13, 14, 15, 16, 21, 22, 23, 24, 25, 26, 27, 28, 29, 30, 31, 32, 33, 34, 35, 36, 37, 38, 39, 40, 41, 42, 43, 44, 45, 46, 47, 48, 49, 50, 51, 52, 53, 54, 55, 56, 57, 58, 59, 60, 61, 62, 63, 64, 65, 66, 67, 68, 69, 70, 71, 72, 73, 74, 75, 76, 77, 78, 79, 80, 81] (by decide +kernel) (by decide +kernel)
set_option maxRecDepth 20000 in
theorem gX12_order_X12_hasOrder : GoodIn wsX12_order (wsV RX12 387 RX12 yX12_hasOrder wsX12_hasOrder) := goodIn_app (goodIn_of _ (by decide +kernel)) ggX12_order_X12_hasOrder
set_option maxRecDepth 20000 in
theorem ggX12_order_X12_spans : GoodIn wsX12_order wsX12_spans := goodIn_r _ [20, 2, 8, 21, 22, 23, 24, 25, 26, 27, 28, 29, 30, 31, 32, 33, 34, 35, 36, 37, 38, 39, 40, 41, 42, 43, 44, 45, 46, 47, 48, 49, 50, 51, 52, 53, 54, 55, 56, 57, 58, 59, 60, 61, 62, 63, 64, 65, 66, 67, 68, 69, 70, 71, 72, 73, 74, 75, 76, 77, 78, 79, 80, 81] (by decide +kernel) (by decide +kernel)
set_option maxRecDepth 20000 in
theorem gX12_order_X12_spans : GoodIn wsX12_order (wsV RX12 390 RX12 yX12_spans wsX12_spans) := goodIn_app (goodIn_of _ (by decide +kernel)) ggX12_order_X12_spans
set_option maxRecDepth 20000 in
theorem ggX12_order_X12_in : GoodIn wsX12_order wsX12_in := goodIn_r _ [16] (by decide +kernel) (by decide +kernel)
set_option maxRecDepth 20000 in
theorem gX12_order_X12_in : GoodIn wsX12_order (va_wsS RX12 110 yX12_in wsX12_in) := goodIn_app (goodIn_of _ (by decide +kernel)) ggX12_order_X12_in
theorem dX12_order_0 : decode cX12_order 0 = .ok (.aload_n 0, 1) := by decide +kernel
theorem dX12_order_1 : decode cX12_order 1 = .ok (.iconst 0, 1) := by decide +kernel
theorem dX12_order_2 : decode cX12_order 2 = .ok (.putfield 98, 3) := by decide +kernel
theorem dX12_order_5 : decode cX12_order 5 = .ok (.aload_n 0, 1) := by decide +kernel
theorem dX12_order_6 : decode cX12_order 6 = .ok (.iload_n 1, 1) := by decide +kernel
theorem dX12_order_7 : decode cX12_order 7 = .ok (.invokevirtual 387, 3) := by decide +kernel
theorem dX12_order_10 : decode cX12_order 10 = .ok (.ifCond .ne 5, 3) := by decide +kernel
theorem dX12_order_13 : decode cX12_order 13 = .ok (.iconst (-1), 1) := by decide +kernel
theorem dX12_order_14 : decode cX12_order 14 = .ok (.ireturn, 1) := by decide +kernel
theorem dX12_order_15 : decode cX12_order 15 = .ok (.iload_n 2, 1) := by decide +kernel
theorem dX12_order_16 : decode cX12_order 16 = .ok (.iconst (-1), 1) := by decide +kernel
theorem dX12_order_17 : decode cX12_order 17 = .ok (.if_icmp .ne 10, 3) := by decide +kernel
theorem dX12_order_20 : decode cX12_order 20 = .ok (.aload_n 0, 1) := by decide +kernel
theorem dX12_order_21 : decode cX12_order 21 = .ok (.invokevirtual 390, 3) := by decide +kernel
theorem dX12_order_24 : decode cX12_order 24 = .ok (.goto 34, 3) := by decide +kernel
theorem dX12_order_27 : decode cX12_order 27 = .ok (.iload_n 2, 1) := by decide +kernel
theorem dX12_order_28 : decode cX12_order 28 = .ok (.iconst 0, 1) := by decide +kernel
theorem dX12_order_29 : decode cX12_order 29 = .ok (.aload_n 0, 1) := by decide +kernel
theorem dX12_order_30 : decode cX12_order 30 = .ok (.invokevirtual 390, 3) := by decide +kernel
theorem dX12_order_33 : decode cX12_order 33 = .ok (.iconst 1, 1) := by decide +kernel
theorem dX12_order_34 : decode cX12_order 34 = .ok (.isub, 1) := by decide +kernel
theorem dX12_order_35 : decode cX12_order 35 = .ok (.invokestatic 110, 3) := by decide +kernel
theorem dX12_order_38 : decode cX12_order 38 = .ok (.ifCond .eq 19, 3) := by decide +kernel
theorem dX12_order_41 : decode cX12_order 41 = .ok (.aload_n 0, 1) := by decide +kernel
theorem dX12_order_42 : decode cX12_order 42 = .ok (.getfield 35, 3) := by decide +kernel
theorem dX12_order_45 : decode cX12_order 45 = .ok (.bipush 7, 2) := by decide +kernel
theorem dX12_order_47 : decode cX12_order 47 = .ok (.iload_n 1, 1) := by decide +kernel
theorem dX12_order_48 : decode cX12_order 48 = .ok (.imul, 1) := by decide +kernel
theorem dX12_order_49 : decode cX12_order 49 = .ok (.iconst 1, 1) := by decide +kernel
theorem dX12_order_50 : decode cX12_order 50 = .ok (.iadd, 1) := by decide +kernel
theorem dX12_order_51 : decode cX12_order 51 = .ok (.iload_n 2, 1) := by decide +kernel
theorem dX12_order_52 : decode cX12_order 52 = .ok (.iadd, 1) := by decide +kernel
theorem dX12_order_53 : decode cX12_order 53 = .ok (.iaload, 1) := by decide +kernel
theorem dX12_order_54 : decode cX12_order 54 = .ok (.goto 4, 3) := by decide +kernel
theorem dX12_order_57 : decode cX12_order 57 = .ok (.iconst (-1), 1) := by decide +kernel
theorem dX12_order_58 : decode cX12_order 58 = .ok (.ireturn, 1) := by decide +kernel
set_option maxRecDepth 20000 in
theorem ggX12_keepIdle_X12_has : GoodIn wsX12_keepIdle wsX12_has := goodIn_r _ [8] (by decide +kernel) (by decide +kernel)
set_option maxRecDepth 20000 in
theorem gX12_keepIdle_X12_has : GoodIn wsX12_keepIdle (va_wsS RX12 102 yX12_has wsX12_has) := goodIn_app (goodIn_of _ (by decide +kernel)) ggX12_keepIdle_X12_has
set_option maxRecDepth 20000 in
theorem ggX12_keepIdle_X12_next : GoodIn wsX12_keepIdle wsX12_next := goodIn_r _ [12, 13, 14, 4, 5, 6, 7, 8, 15, 16, 17, 18, 19, 20, 21, 22, 23, 24, 25, 26, 27, 28, 29, 30, 31, 32, 33, 34, 35, 36, 37, 38, 39, 40, 41, 42, 43, 44, 45, 46, 47, 48, 49, 50, 51, 52, 53, 54, 55, 56, 57, 58, 59, 60, 61, 62, 63, 64, 65, 66, 67, 68, 69, 70, 71, 72, 73, 74, 75, 76, 77, 78] (by decide +kernel) (by decide +kernel)
set_option maxRecDepth 20000 in
theorem gX12_keepIdle_X12_next : GoodIn wsX12_keepIdle (wsV RX12 335 RX12 yX12_next wsX12_next) := goodIn_app (goodIn_of _ (by decide +kernel)) ggX12_keepIdle_X12_next
theorem dX12_keepIdle_0 : decode cX12_keepIdle 0 = .ok (.iconst 0, 1) := by decide +kernel
theorem dX12_keepIdle_1 : decode cX12_keepIdle 1 = .ok (.istore_n 2, 1) := by decide +kernel
theorem dX12_keepIdle_2 : decode cX12_keepIdle 2 = .ok (.iload_n 2, 1) := by decide +kernel
theorem dX12_keepIdle_3 : decode cX12_keepIdle 3 = .ok (.ldc_w 393, 3) := by decide +kernel
theorem dX12_keepIdle_6 : decode cX12_keepIdle 6 = .ok (.if_icmp .ge 96, 3) := by decide +kernel
theorem dX12_keepIdle_9 : decode cX12_keepIdle 9 = .ok (.iconst 0, 1) := by decide +kernel
theorem dX12_keepIdle_10 : decode cX12_keepIdle 10 = .ok (.istore_n 3, 1) := by decide +kernel
theorem dX12_keepIdle_11 : decode cX12_keepIdle 11 = .ok (.iload_n 3, 1) := by decide +kernel
theorem dX12_keepIdle_12 : decode cX12_keepIdle 12 = .ok (.aload_n 0, 1) := by decide +kernel
theorem dX12_keepIdle_13 : decode cX12_keepIdle 13 = .ok (.getfield 249, 3) := by decide +kernel
theorem dX12_keepIdle_16 : decode cX12_keepIdle 16 = .ok (.if_icmp .gt 80, 3) := by decide +kernel
theorem dX12_keepIdle_19 : decode cX12_keepIdle 19 = .ok (.aload_n 0, 1) := by decide +kernel
theorem dX12_keepIdle_20 : decode cX12_keepIdle 20 = .ok (.getfield 70, 3) := by decide +kernel
theorem dX12_keepIdle_23 : decode cX12_keepIdle 23 = .ok (.iload_n 2, 1) := by decide +kernel
theorem dX12_keepIdle_24 : decode cX12_keepIdle 24 = .ok (.iaload, 1) := by decide +kernel
theorem dX12_keepIdle_25 : decode cX12_keepIdle 25 = .ok (.iload_n 1, 1) := by decide +kernel
theorem dX12_keepIdle_26 : decode cX12_keepIdle 26 = .ok (.invokestatic 102, 3) := by decide +kernel
theorem dX12_keepIdle_29 : decode cX12_keepIdle 29 = .ok (.ifCond .eq 67, 3) := by decide +kernel
theorem dX12_keepIdle_32 : decode cX12_keepIdle 32 = .ok (.aload_n 0, 1) := by decide +kernel
theorem dX12_keepIdle_33 : decode cX12_keepIdle 33 = .ok (.iload_n 2, 1) := by decide +kernel
theorem dX12_keepIdle_34 : decode cX12_keepIdle 34 = .ok (.sipush 4096, 3) := by decide +kernel
theorem dX12_keepIdle_37 : decode cX12_keepIdle 37 = .ok (.irem, 1) := by decide +kernel
theorem dX12_keepIdle_38 : decode cX12_keepIdle 38 = .ok (.iload_n 3, 1) := by decide +kernel
theorem dX12_keepIdle_39 : decode cX12_keepIdle 39 = .ok (.invokevirtual 335, 3) := by decide +kernel
theorem dX12_keepIdle_42 : decode cX12_keepIdle 42 = .ok (.istore 4, 2) := by decide +kernel
theorem dX12_keepIdle_44 : decode cX12_keepIdle 44 = .ok (.iload 4, 2) := by decide +kernel
theorem dX12_keepIdle_46 : decode cX12_keepIdle 46 = .ok (.ifCond .le 44, 3) := by decide +kernel
theorem dX12_keepIdle_49 : decode cX12_keepIdle 49 = .ok (.iload_n 2, 1) := by decide +kernel
theorem dX12_keepIdle_50 : decode cX12_keepIdle 50 = .ok (.sipush 4096, 3) := by decide +kernel
theorem dX12_keepIdle_53 : decode cX12_keepIdle 53 = .ok (.idiv, 1) := by decide +kernel
theorem dX12_keepIdle_54 : decode cX12_keepIdle 54 = .ok (.iload 4, 2) := by decide +kernel
theorem dX12_keepIdle_56 : decode cX12_keepIdle 56 = .ok (.iadd, 1) := by decide +kernel
theorem dX12_keepIdle_57 : decode cX12_keepIdle 57 = .ok (.bipush 90, 2) := by decide +kernel
theorem dX12_keepIdle_59 : decode cX12_keepIdle 59 = .ok (.if_icmp .gt 31, 3) := by decide +kernel
theorem dX12_keepIdle_62 : decode cX12_keepIdle 62 = .ok (.aload_n 0, 1) := by decide +kernel
theorem dX12_keepIdle_63 : decode cX12_keepIdle 63 = .ok (.getfield 70, 3) := by decide +kernel
theorem dX12_keepIdle_66 : decode cX12_keepIdle 66 = .ok (.sipush 4096, 3) := by decide +kernel
theorem dX12_keepIdle_69 : decode cX12_keepIdle 69 = .ok (.iload_n 2, 1) := by decide +kernel
theorem dX12_keepIdle_70 : decode cX12_keepIdle 70 = .ok (.sipush 4096, 3) := by decide +kernel
theorem dX12_keepIdle_73 : decode cX12_keepIdle 73 = .ok (.idiv, 1) := by decide +kernel
theorem dX12_keepIdle_74 : decode cX12_keepIdle 74 = .ok (.iload 4, 2) := by decide +kernel
theorem dX12_keepIdle_76 : decode cX12_keepIdle 76 = .ok (.iadd, 1) := by decide +kernel
theorem dX12_keepIdle_77 : decode cX12_keepIdle 77 = .ok (.imul, 1) := by decide +kernel
theorem dX12_keepIdle_78 : decode cX12_keepIdle 78 = .ok (.aload_n 0, 1) := by decide +kernel
theorem dX12_keepIdle_79 : decode cX12_keepIdle 79 = .ok (.getfield 332, 3) := by decide +kernel
theorem dX12_keepIdle_82 : decode cX12_keepIdle 82 = .ok (.iadd, 1) := by decide +kernel
theorem dX12_keepIdle_83 : decode cX12_keepIdle 83 = .ok (.dup2, 1) := by decide +kernel
theorem dX12_keepIdle_84 : decode cX12_keepIdle 84 = .ok (.iaload, 1) := by decide +kernel
theorem dX12_keepIdle_85 : decode cX12_keepIdle 85 = .ok (.iconst 1, 1) := by decide +kernel
theorem dX12_keepIdle_86 : decode cX12_keepIdle 86 = .ok (.iload_n 1, 1) := by decide +kernel
theorem dX12_keepIdle_87 : decode cX12_keepIdle 87 = .ok (.ishl, 1) := by decide +kernel
theorem dX12_keepIdle_88 : decode cX12_keepIdle 88 = .ok (.ior, 1) := by decide +kernel
theorem dX12_keepIdle_89 : decode cX12_keepIdle 89 = .ok (.iastore, 1) := by decide +kernel
theorem dX12_keepIdle_90 : decode cX12_keepIdle 90 = .ok (.iinc 3 1, 3) := by decide +kernel
theorem dX12_keepIdle_93 : decode cX12_keepIdle 93 = .ok (.goto (-82), 3) := by decide +kernel
theorem dX12_keepIdle_96 : decode cX12_keepIdle 96 = .ok (.iinc 2 1, 3) := by decide +kernel
theorem dX12_keepIdle_99 : decode cX12_keepIdle 99 = .ok (.goto (-97), 3) := by decide +kernel
theorem dX12_keepIdle_102 : decode cX12_keepIdle 102 = .ok (.return_, 1) := by decide +kernel
set_option maxRecDepth 20000 in
theorem ggX12_tellFrom_X12_clear : GoodIn wsX12_tellFrom wsX12_clear := goodIn_r _ [7, 2, 40, 41, 42, 43, 44, 45, 46, 47, 48, 49, 50, 51, 52, 53, 54, 55, 56, 57, 58, 59, 60, 61, 62, 63, 64, 65, 66, 67, 68, 69, 70, 71, 72, 73, 74, 75, 76, 77, 78, 79, 80, 81, 82, 83, 84, 85, 86, 87, 88, 89, 90, 91, 92, 93, 94, 95, 96, 97, 98, 99, 100] (by decide +kernel) (by decide +kernel)
set_option maxRecDepth 20000 in
theorem gX12_tellFrom_X12_clear : GoodIn wsX12_tellFrom (wsV RX12 344 RX12 yX12_clear wsX12_clear) := goodIn_app (goodIn_of _ (by decide +kernel)) ggX12_tellFrom_X12_clear
set_option maxRecDepth 20000 in
theorem ggX12_tellFrom_X12_has : GoodIn wsX12_tellFrom wsX12_has := goodIn_r _ [10] (by decide +kernel) (by decide +kernel)
set_option maxRecDepth 20000 in
theorem gX12_tellFrom_X12_has : GoodIn wsX12_tellFrom (va_wsS RX12 102 yX12_has wsX12_has) := goodIn_app (goodIn_of _ (by decide +kernel)) ggX12_tellFrom_X12_has
set_option maxRecDepth 20000 in
theorem ggX12_tellFrom_X12_goOn : GoodIn wsX12_tellFrom wsX12_goOn := goodIn_r _ [14, 2, 15, 16, 17, 18, 19, 6, 20, 21, 22, 8, 9, 10, 23, 24, 25, 26, 27, 28, 29, 30, 31, 32, 33, 34, 35, 36, 37, 38, 39, 40, 41, 42, 43, 44, 45, 46, 47, 48, 49, 50, 51, 52, 53, 54, 55, 56, 57, 58, 59, 60, 61, 62, 63, 64, 65, 66, 67, 68, 69, 70, 71, 72, 73, 74, 75, 76, 77, 78, 79, 80, 81, 82, 83, 84, 85, 86, 87, 88, 89, 90, 91, 92, 93, 94, 95, 96, 97, 98, 99, 100] (by decide +kernel) (by decide +kernel)
set_option maxRecDepth 20000 in
theorem gX12_tellFrom_X12_goOn : GoodIn wsX12_tellFrom (wsV RX12 347 RX12 yX12_goOn wsX12_goOn) := goodIn_app (goodIn_of _ (by decide +kernel)) ggX12_tellFrom_X12_goOn
theorem dX12_tellFrom_0 : decode cX12_tellFrom 0 = .ok (.aload_n 0, 1) := by decide +kernel
theorem dX12_tellFrom_1 : decode cX12_tellFrom 1 = .ok (.iconst 0, 1) := by decide +kernel
theorem dX12_tellFrom_2 : decode cX12_tellFrom 2 = .ok (.iload_n 2, 1) := by decide +kernel
theorem dX12_tellFrom_3 : decode cX12_tellFrom 3 = .ok (.invokevirtual 344, 3) := by decide +kernel
theorem dX12_tellFrom_6 : decode cX12_tellFrom 6 = .ok (.iconst 0, 1) := by decide +kernel
theorem dX12_tellFrom_7 : decode cX12_tellFrom 7 = .ok (.istore 4, 2) := by decide +kernel
theorem dX12_tellFrom_9 : decode cX12_tellFrom 9 = .ok (.iconst 0, 1) := by decide +kernel
theorem dX12_tellFrom_10 : decode cX12_tellFrom 10 = .ok (.istore 5, 2) := by decide +kernel
theorem dX12_tellFrom_12 : decode cX12_tellFrom 12 = .ok (.iload 5, 2) := by decide +kernel
theorem dX12_tellFrom_14 : decode cX12_tellFrom 14 = .ok (.sipush 4096, 3) := by decide +kernel
theorem dX12_tellFrom_17 : decode cX12_tellFrom 17 = .ok (.if_icmp .ge 62, 3) := by decide +kernel
theorem dX12_tellFrom_20 : decode cX12_tellFrom 20 = .ok (.aload_n 0, 1) := by decide +kernel
theorem dX12_tellFrom_21 : decode cX12_tellFrom 21 = .ok (.getfield 70, 3) := by decide +kernel
theorem dX12_tellFrom_24 : decode cX12_tellFrom 24 = .ok (.sipush 4096, 3) := by decide +kernel
theorem dX12_tellFrom_27 : decode cX12_tellFrom 27 = .ok (.iload_n 1, 1) := by decide +kernel
theorem dX12_tellFrom_28 : decode cX12_tellFrom 28 = .ok (.imul, 1) := by decide +kernel
theorem dX12_tellFrom_29 : decode cX12_tellFrom 29 = .ok (.iload 5, 2) := by decide +kernel
theorem dX12_tellFrom_31 : decode cX12_tellFrom 31 = .ok (.iadd, 1) := by decide +kernel
theorem dX12_tellFrom_32 : decode cX12_tellFrom 32 = .ok (.iaload, 1) := by decide +kernel
theorem dX12_tellFrom_33 : decode cX12_tellFrom 33 = .ok (.iload_n 3, 1) := by decide +kernel
theorem dX12_tellFrom_34 : decode cX12_tellFrom 34 = .ok (.invokestatic 102, 3) := by decide +kernel
theorem dX12_tellFrom_37 : decode cX12_tellFrom 37 = .ok (.istore 6, 2) := by decide +kernel
theorem dX12_tellFrom_39 : decode cX12_tellFrom 39 = .ok (.aload_n 0, 1) := by decide +kernel
theorem dX12_tellFrom_40 : decode cX12_tellFrom 40 = .ok (.getfield 57, 3) := by decide +kernel
theorem dX12_tellFrom_43 : decode cX12_tellFrom 43 = .ok (.iload 5, 2) := by decide +kernel
theorem dX12_tellFrom_45 : decode cX12_tellFrom 45 = .ok (.iload 6, 2) := by decide +kernel
theorem dX12_tellFrom_47 : decode cX12_tellFrom 47 = .ok (.ifCond .eq 7, 3) := by decide +kernel
theorem dX12_tellFrom_50 : decode cX12_tellFrom 50 = .ok (.iconst 0, 1) := by decide +kernel
theorem dX12_tellFrom_51 : decode cX12_tellFrom 51 = .ok (.goto 4, 3) := by decide +kernel
theorem dX12_tellFrom_54 : decode cX12_tellFrom 54 = .ok (.iconst (-1), 1) := by decide +kernel
theorem dX12_tellFrom_55 : decode cX12_tellFrom 55 = .ok (.iastore, 1) := by decide +kernel
theorem dX12_tellFrom_56 : decode cX12_tellFrom 56 = .ok (.iload 4, 2) := by decide +kernel
theorem dX12_tellFrom_58 : decode cX12_tellFrom 58 = .ok (.ifCond .ne 8, 3) := by decide +kernel
theorem dX12_tellFrom_61 : decode cX12_tellFrom 61 = .ok (.iload 6, 2) := by decide +kernel
theorem dX12_tellFrom_63 : decode cX12_tellFrom 63 = .ok (.ifCond .eq 7, 3) := by decide +kernel
theorem dX12_tellFrom_66 : decode cX12_tellFrom 66 = .ok (.iconst 1, 1) := by decide +kernel
theorem dX12_tellFrom_67 : decode cX12_tellFrom 67 = .ok (.goto 4, 3) := by decide +kernel
theorem dX12_tellFrom_70 : decode cX12_tellFrom 70 = .ok (.iconst 0, 1) := by decide +kernel
theorem dX12_tellFrom_71 : decode cX12_tellFrom 71 = .ok (.istore 4, 2) := by decide +kernel
theorem dX12_tellFrom_73 : decode cX12_tellFrom 73 = .ok (.iinc 5 1, 3) := by decide +kernel
theorem dX12_tellFrom_76 : decode cX12_tellFrom 76 = .ok (.goto (-64), 3) := by decide +kernel
theorem dX12_tellFrom_79 : decode cX12_tellFrom 79 = .ok (.iload 4, 2) := by decide +kernel
theorem dX12_tellFrom_81 : decode cX12_tellFrom 81 = .ok (.ifCond .ne 4, 3) := by decide +kernel
theorem dX12_tellFrom_84 : decode cX12_tellFrom 84 = .ok (.return_, 1) := by decide +kernel
theorem dX12_tellFrom_85 : decode cX12_tellFrom 85 = .ok (.aload_n 0, 1) := by decide +kernel
theorem dX12_tellFrom_86 : decode cX12_tellFrom 86 = .ok (.iconst 0, 1) := by decide +kernel
theorem dX12_tellFrom_87 : decode cX12_tellFrom 87 = .ok (.iload_n 2, 1) := by decide +kernel
theorem dX12_tellFrom_88 : decode cX12_tellFrom 88 = .ok (.iconst 0, 1) := by decide +kernel
theorem dX12_tellFrom_89 : decode cX12_tellFrom 89 = .ok (.invokevirtual 347, 3) := by decide +kernel
theorem dX12_tellFrom_92 : decode cX12_tellFrom 92 = .ok (.iconst 0, 1) := by decide +kernel
theorem dX12_tellFrom_93 : decode cX12_tellFrom 93 = .ok (.istore 5, 2) := by decide +kernel
theorem dX12_tellFrom_95 : decode cX12_tellFrom 95 = .ok (.iload 5, 2) := by decide +kernel
theorem dX12_tellFrom_97 : decode cX12_tellFrom 97 = .ok (.sipush 4096, 3) := by decide +kernel
theorem dX12_tellFrom_100 : decode cX12_tellFrom 100 = .ok (.if_icmp .ge 51, 3) := by decide +kernel
theorem dX12_tellFrom_103 : decode cX12_tellFrom 103 = .ok (.aload_n 0, 1) := by decide +kernel
theorem dX12_tellFrom_104 : decode cX12_tellFrom 104 = .ok (.getfield 70, 3) := by decide +kernel
theorem dX12_tellFrom_107 : decode cX12_tellFrom 107 = .ok (.sipush 4096, 3) := by decide +kernel
theorem dX12_tellFrom_110 : decode cX12_tellFrom 110 = .ok (.iload_n 1, 1) := by decide +kernel
theorem dX12_tellFrom_111 : decode cX12_tellFrom 111 = .ok (.iload_n 2, 1) := by decide +kernel
theorem dX12_tellFrom_112 : decode cX12_tellFrom 112 = .ok (.iadd, 1) := by decide +kernel
theorem dX12_tellFrom_113 : decode cX12_tellFrom 113 = .ok (.imul, 1) := by decide +kernel
theorem dX12_tellFrom_114 : decode cX12_tellFrom 114 = .ok (.iload 5, 2) := by decide +kernel
theorem dX12_tellFrom_116 : decode cX12_tellFrom 116 = .ok (.iadd, 1) := by decide +kernel
theorem dX12_tellFrom_117 : decode cX12_tellFrom 117 = .ok (.dup2, 1) := by decide +kernel
theorem dX12_tellFrom_118 : decode cX12_tellFrom 118 = .ok (.iaload, 1) := by decide +kernel
theorem dX12_tellFrom_119 : decode cX12_tellFrom 119 = .ok (.aload_n 0, 1) := by decide +kernel
theorem dX12_tellFrom_120 : decode cX12_tellFrom 120 = .ok (.getfield 57, 3) := by decide +kernel
theorem dX12_tellFrom_123 : decode cX12_tellFrom 123 = .ok (.sipush 4096, 3) := by decide +kernel
theorem dX12_tellFrom_126 : decode cX12_tellFrom 126 = .ok (.iload_n 2, 1) := by decide +kernel
theorem dX12_tellFrom_127 : decode cX12_tellFrom 127 = .ok (.imul, 1) := by decide +kernel
theorem dX12_tellFrom_128 : decode cX12_tellFrom 128 = .ok (.iload 5, 2) := by decide +kernel
theorem dX12_tellFrom_130 : decode cX12_tellFrom 130 = .ok (.iadd, 1) := by decide +kernel
theorem dX12_tellFrom_131 : decode cX12_tellFrom 131 = .ok (.iaload, 1) := by decide +kernel
theorem dX12_tellFrom_132 : decode cX12_tellFrom 132 = .ok (.iconst (-1), 1) := by decide +kernel
theorem dX12_tellFrom_133 : decode cX12_tellFrom 133 = .ok (.if_icmp .ne 7, 3) := by decide +kernel
theorem dX12_tellFrom_136 : decode cX12_tellFrom 136 = .ok (.iconst 0, 1) := by decide +kernel
theorem dX12_tellFrom_137 : decode cX12_tellFrom 137 = .ok (.goto 6, 3) := by decide +kernel
theorem dX12_tellFrom_140 : decode cX12_tellFrom 140 = .ok (.iconst 2, 1) := by decide +kernel
theorem dX12_tellFrom_141 : decode cX12_tellFrom 141 = .ok (.iload_n 3, 1) := by decide +kernel
theorem dX12_tellFrom_142 : decode cX12_tellFrom 142 = .ok (.ishl, 1) := by decide +kernel
theorem dX12_tellFrom_143 : decode cX12_tellFrom 143 = .ok (.ior, 1) := by decide +kernel
theorem dX12_tellFrom_144 : decode cX12_tellFrom 144 = .ok (.iastore, 1) := by decide +kernel
theorem dX12_tellFrom_145 : decode cX12_tellFrom 145 = .ok (.iinc 5 1, 3) := by decide +kernel
theorem dX12_tellFrom_148 : decode cX12_tellFrom 148 = .ok (.goto (-53), 3) := by decide +kernel
theorem dX12_tellFrom_151 : decode cX12_tellFrom 151 = .ok (.return_, 1) := by decide +kernel
set_option maxRecDepth 20000 in
theorem ggX12_firstIdle_X12_has : GoodIn wsX12_firstIdle wsX12_has := goodIn_r _ [6] (by decide +kernel) (by decide +kernel)
set_option maxRecDepth 20000 in
theorem gX12_firstIdle_X12_has : GoodIn wsX12_firstIdle (va_wsS RX12 102 yX12_has wsX12_has) := goodIn_app (goodIn_of _ (by decide +kernel)) ggX12_firstIdle_X12_has
theorem dX12_firstIdle_0 : decode cX12_firstIdle 0 = .ok (.iconst 0, 1) := by decide +kernel
theorem dX12_firstIdle_1 : decode cX12_firstIdle 1 = .ok (.istore_n 2, 1) := by decide +kernel
theorem dX12_firstIdle_2 : decode cX12_firstIdle 2 = .ok (.iload_n 2, 1) := by decide +kernel
theorem dX12_firstIdle_3 : decode cX12_firstIdle 3 = .ok (.ldc_w 394, 3) := by decide +kernel
theorem dX12_firstIdle_6 : decode cX12_firstIdle 6 = .ok (.if_icmp .ge 28, 3) := by decide +kernel
theorem dX12_firstIdle_9 : decode cX12_firstIdle 9 = .ok (.aload_n 0, 1) := by decide +kernel
theorem dX12_firstIdle_10 : decode cX12_firstIdle 10 = .ok (.getfield 70, 3) := by decide +kernel
theorem dX12_firstIdle_13 : decode cX12_firstIdle 13 = .ok (.iload_n 2, 1) := by decide +kernel
theorem dX12_firstIdle_14 : decode cX12_firstIdle 14 = .ok (.iaload, 1) := by decide +kernel
theorem dX12_firstIdle_15 : decode cX12_firstIdle 15 = .ok (.iload_n 1, 1) := by decide +kernel
theorem dX12_firstIdle_16 : decode cX12_firstIdle 16 = .ok (.invokestatic 102, 3) := by decide +kernel
theorem dX12_firstIdle_19 : decode cX12_firstIdle 19 = .ok (.ifCond .eq 9, 3) := by decide +kernel
theorem dX12_firstIdle_22 : decode cX12_firstIdle 22 = .ok (.iload_n 2, 1) := by decide +kernel
theorem dX12_firstIdle_23 : decode cX12_firstIdle 23 = .ok (.sipush 4096, 3) := by decide +kernel
theorem dX12_firstIdle_26 : decode cX12_firstIdle 26 = .ok (.idiv, 1) := by decide +kernel
theorem dX12_firstIdle_27 : decode cX12_firstIdle 27 = .ok (.ireturn, 1) := by decide +kernel
theorem dX12_firstIdle_28 : decode cX12_firstIdle 28 = .ok (.iinc 2 1, 3) := by decide +kernel
theorem dX12_firstIdle_31 : decode cX12_firstIdle 31 = .ok (.goto (-29), 3) := by decide +kernel
theorem dX12_firstIdle_34 : decode cX12_firstIdle 34 = .ok (.iconst (-1), 1) := by decide +kernel
theorem dX12_firstIdle_35 : decode cX12_firstIdle 35 = .ok (.ireturn, 1) := by decide +kernel
set_option maxRecDepth 20000 in
theorem ggX12_plan_X12_hasOrder : GoodIn wsX12_plan wsX12_hasOrder := goodIn_r _ [10, 11, 12, 13, 14, 9, 15, 16, 17, 18, 19, 84, 85, 86, 87, 88, 89, 90, 91, 92, 93, 94, 95, 96, 97, 98, 99, 100, 101, 102, 103, 104, 105, 106, 107, 108, 109, 110, 111, 112, 113, 114, 115, 116, 117, 118, 119, 120, 121, 122, 123, 124, 125, 126, 127, 128, 129, 130, 131, 132, 133, 134, 135, 136, 137, 138, 139, 140, 141, 142, 143, 144] (by decide +kernel) (by decide +kernel)
set_option maxRecDepth 20000 in
theorem gX12_plan_X12_hasOrder : GoodIn wsX12_plan (wsV RX12 387 RX12 yX12_hasOrder wsX12_hasOrder) := goodIn_app (goodIn_of _ (by decide +kernel)) ggX12_plan_X12_hasOrder
set_option maxRecDepth 20000 in
theorem ggX12_plan_X12_spans : GoodIn wsX12_plan wsX12_spans := goodIn_r _ [23, 5, 11, 84, 85, 86, 87, 88, 89, 90, 91, 92, 93, 94, 95, 96, 97, 98, 99, 100, 101, 102, 103, 104, 105, 106, 107, 108, 109, 110, 111, 112, 113, 114, 115, 116, 117, 118, 119, 120, 121, 122, 123, 124, 125, 126, 127, 128, 129, 130, 131, 132, 133, 134, 135, 136, 137, 138, 139, 140, 141, 142, 143, 144] (by decide +kernel) (by decide +kernel)
set_option maxRecDepth 20000 in
theorem gX12_plan_X12_spans : GoodIn wsX12_plan (wsV RX12 390 RX12 yX12_spans wsX12_spans) := goodIn_app (goodIn_of _ (by decide +kernel)) ggX12_plan_X12_spans
set_option maxRecDepth 20000 in
theorem ggX12_plan_X12_in : GoodIn wsX12_plan wsX12_in := goodIn_r _ [19] (by decide +kernel) (by decide +kernel)
set_option maxRecDepth 20000 in
theorem gX12_plan_X12_in : GoodIn wsX12_plan (va_wsS RX12 110 yX12_in wsX12_in) := goodIn_app (goodIn_of _ (by decide +kernel)) ggX12_plan_X12_in
set_option maxRecDepth 20000 in
theorem ggX12_plan_X12_hand : GoodIn wsX12_plan wsX12_hand := goodIn_r _ [27, 28, 29, 12, 13, 14, 9, 15, 16, 17, 18, 19, 30, 31, 32, 33, 34, 35, 36, 37, 38, 39, 4, 40, 41, 42, 43, 44, 84, 85, 86, 87, 88, 89, 90, 91, 92, 93, 94, 95, 96, 97, 98, 99, 100, 101, 102, 103, 104, 105, 106, 107, 108, 109, 110, 111, 112, 113, 114, 115, 116, 117, 118, 119, 120, 121, 122, 123, 124, 125, 126, 127, 128, 129, 130, 131, 132, 133, 134, 135, 136, 137, 138, 139, 140, 141, 142, 143, 144] (by decide +kernel) (by decide +kernel)
set_option maxRecDepth 20000 in
theorem gX12_plan_X12_hand : GoodIn wsX12_plan (wsV RX12 265 RX12 yX12_hand wsX12_hand) := goodIn_app (goodIn_of _ (by decide +kernel)) ggX12_plan_X12_hand
set_option maxRecDepth 20000 in
theorem ggX12_plan_X12_keepIdle : GoodIn wsX12_plan wsX12_keepIdle := goodIn_r _ [48, 49, 39, 3, 50, 42, 43, 9, 44, 51, 52, 53, 54, 55, 40, 56, 57, 58, 84, 85, 86, 87, 88, 89, 90, 91, 92, 93, 94, 95, 96, 97, 98, 99, 100, 101, 102, 103, 104, 105, 106, 107, 108, 109, 110, 111, 112, 113, 114, 115, 116, 117, 118, 119, 120, 121, 122, 123, 124, 125, 126, 127, 128, 129, 130, 131, 132, 133, 134, 135, 136, 137, 138, 139, 140, 141, 142, 143, 144] (by decide +kernel) (by decide +kernel)
set_option maxRecDepth 20000 in
theorem gX12_plan_X12_keepIdle : GoodIn wsX12_plan (wsV RX12 395 RX12 yX12_keepIdle wsX12_keepIdle) := goodIn_app (goodIn_of _ (by decide +kernel)) ggX12_plan_X12_keepIdle
set_option maxRecDepth 20000 in
theorem ggX12_plan_X12_tellFrom : GoodIn wsX12_plan wsX12_tellFrom := goodIn_r _ [62, 3, 63, 64, 65, 66, 9, 67, 42, 43, 44, 68, 69, 70, 71, 39, 50, 51, 52, 53, 54, 55, 40, 56, 57, 58, 72, 73, 74, 75, 30, 31, 32, 33, 34, 28, 76, 77, 78, 79, 84, 85, 86, 87, 88, 89, 90, 91, 92, 93, 94, 95, 96, 97, 98, 99, 100, 101, 102, 103, 104, 105, 106, 107, 108, 109, 110, 111, 112, 113, 114, 115, 116, 117, 118, 119, 120, 121, 122, 123, 124, 125, 126, 127, 128, 129, 130, 131, 132, 133, 134, 135, 136, 137, 138, 139, 140, 141, 142, 143, 144] (by decide +kernel) (by decide +kernel)
set_option maxRecDepth 20000 in
theorem gX12_plan_X12_tellFrom : GoodIn wsX12_plan (wsV RX12 398 RX12 yX12_tellFrom wsX12_tellFrom) := goodIn_app (goodIn_of _ (by decide +kernel)) ggX12_plan_X12_tellFrom
set_option maxRecDepth 20000 in
theorem ggX12_plan_X12_firstIdle : GoodIn wsX12_plan wsX12_firstIdle := goodIn_r _ [83, 2, 3, 42, 43, 9, 44, 84, 85, 86, 87, 88, 89, 90, 91, 92, 93, 94, 95, 96, 97, 98, 99, 100, 101, 102, 103, 104, 105, 106, 107, 108, 109, 110, 111, 112, 113, 114, 115, 116, 117, 118, 119, 120, 121, 122, 123, 124, 125, 126, 127, 128, 129, 130, 131, 132, 133, 134, 135, 136, 137, 138, 139, 140, 141, 142, 143, 144] (by decide +kernel) (by decide +kernel)
set_option maxRecDepth 20000 in
theorem gX12_plan_X12_firstIdle : GoodIn wsX12_plan (wsV RX12 401 RX12 yX12_firstIdle wsX12_firstIdle) := goodIn_app (goodIn_of _ (by decide +kernel)) ggX12_plan_X12_firstIdle
theorem dX12_plan_0 : decode cX12_plan 0 = .ok (.aload_n 0, 1) := by decide +kernel
theorem dX12_plan_1 : decode cX12_plan 1 = .ok (.iconst 0, 1) := by decide +kernel
theorem dX12_plan_2 : decode cX12_plan 2 = .ok (.putfield 98, 3) := by decide +kernel
theorem dX12_plan_5 : decode cX12_plan 5 = .ok (.aload_n 0, 1) := by decide +kernel
theorem dX12_plan_6 : decode cX12_plan 6 = .ok (.iload_n 2, 1) := by decide +kernel
theorem dX12_plan_7 : decode cX12_plan 7 = .ok (.invokevirtual 387, 3) := by decide +kernel
theorem dX12_plan_10 : decode cX12_plan 10 = .ok (.ifCond .eq 23, 3) := by decide +kernel
theorem dX12_plan_13 : decode cX12_plan 13 = .ok (.iload_n 3, 1) := by decide +kernel
theorem dX12_plan_14 : decode cX12_plan 14 = .ok (.iconst 0, 1) := by decide +kernel
theorem dX12_plan_15 : decode cX12_plan 15 = .ok (.aload_n 0, 1) := by decide +kernel
theorem dX12_plan_16 : decode cX12_plan 16 = .ok (.invokevirtual 390, 3) := by decide +kernel
theorem dX12_plan_19 : decode cX12_plan 19 = .ok (.invokestatic 110, 3) := by decide +kernel
theorem dX12_plan_22 : decode cX12_plan 22 = .ok (.ifCond .eq 11, 3) := by decide +kernel
theorem dX12_plan_25 : decode cX12_plan 25 = .ok (.aload_n 0, 1) := by decide +kernel
theorem dX12_plan_26 : decode cX12_plan 26 = .ok (.iload_n 1, 1) := by decide +kernel
theorem dX12_plan_27 : decode cX12_plan 27 = .ok (.invokevirtual 265, 3) := by decide +kernel
theorem dX12_plan_30 : decode cX12_plan 30 = .ok (.ifCond .ne 5, 3) := by decide +kernel
theorem dX12_plan_33 : decode cX12_plan 33 = .ok (.iconst (-1), 1) := by decide +kernel
theorem dX12_plan_34 : decode cX12_plan 34 = .ok (.ireturn, 1) := by decide +kernel
theorem dX12_plan_35 : decode cX12_plan 35 = .ok (.iconst 0, 1) := by decide +kernel
theorem dX12_plan_36 : decode cX12_plan 36 = .ok (.istore 4, 2) := by decide +kernel
theorem dX12_plan_38 : decode cX12_plan 38 = .ok (.iload 4, 2) := by decide +kernel
theorem dX12_plan_40 : decode cX12_plan 40 = .ok (.ldc_w 394, 3) := by decide +kernel
theorem dX12_plan_43 : decode cX12_plan 43 = .ok (.if_icmp .ge 17, 3) := by decide +kernel
theorem dX12_plan_46 : decode cX12_plan 46 = .ok (.aload_n 0, 1) := by decide +kernel
theorem dX12_plan_47 : decode cX12_plan 47 = .ok (.getfield 70, 3) := by decide +kernel
theorem dX12_plan_50 : decode cX12_plan 50 = .ok (.iload 4, 2) := by decide +kernel
theorem dX12_plan_52 : decode cX12_plan 52 = .ok (.iconst 0, 1) := by decide +kernel
theorem dX12_plan_53 : decode cX12_plan 53 = .ok (.iastore, 1) := by decide +kernel
theorem dX12_plan_54 : decode cX12_plan 54 = .ok (.iinc 4 1, 3) := by decide +kernel
theorem dX12_plan_57 : decode cX12_plan 57 = .ok (.goto (-19), 3) := by decide +kernel
theorem dX12_plan_60 : decode cX12_plan 60 = .ok (.aload_n 0, 1) := by decide +kernel
theorem dX12_plan_61 : decode cX12_plan 61 = .ok (.getfield 70, 3) := by decide +kernel
theorem dX12_plan_64 : decode cX12_plan 64 = .ok (.aload_n 0, 1) := by decide +kernel
theorem dX12_plan_65 : decode cX12_plan 65 = .ok (.getfield 252, 3) := by decide +kernel
theorem dX12_plan_68 : decode cX12_plan 68 = .ok (.iconst 1, 1) := by decide +kernel
theorem dX12_plan_69 : decode cX12_plan 69 = .ok (.iastore, 1) := by decide +kernel
theorem dX12_plan_70 : decode cX12_plan 70 = .ok (.iconst 0, 1) := by decide +kernel
theorem dX12_plan_71 : decode cX12_plan 71 = .ok (.istore 4, 2) := by decide +kernel
theorem dX12_plan_73 : decode cX12_plan 73 = .ok (.iconst 0, 1) := by decide +kernel
theorem dX12_plan_74 : decode cX12_plan 74 = .ok (.istore 5, 2) := by decide +kernel
theorem dX12_plan_76 : decode cX12_plan 76 = .ok (.iload 5, 2) := by decide +kernel
theorem dX12_plan_78 : decode cX12_plan 78 = .ok (.iload_n 3, 1) := by decide +kernel
theorem dX12_plan_79 : decode cX12_plan 79 = .ok (.if_icmp .ge 77, 3) := by decide +kernel
theorem dX12_plan_82 : decode cX12_plan 82 = .ok (.iload 4, 2) := by decide +kernel
theorem dX12_plan_84 : decode cX12_plan 84 = .ok (.iconst (-1), 1) := by decide +kernel
theorem dX12_plan_85 : decode cX12_plan 85 = .ok (.if_icmp .eq 71, 3) := by decide +kernel
theorem dX12_plan_88 : decode cX12_plan 88 = .ok (.aload_n 0, 1) := by decide +kernel
theorem dX12_plan_89 : decode cX12_plan 89 = .ok (.getfield 35, 3) := by decide +kernel
theorem dX12_plan_92 : decode cX12_plan 92 = .ok (.bipush 7, 2) := by decide +kernel
theorem dX12_plan_94 : decode cX12_plan 94 = .ok (.iload_n 2, 1) := by decide +kernel
theorem dX12_plan_95 : decode cX12_plan 95 = .ok (.imul, 1) := by decide +kernel
theorem dX12_plan_96 : decode cX12_plan 96 = .ok (.iconst 1, 1) := by decide +kernel
theorem dX12_plan_97 : decode cX12_plan 97 = .ok (.iadd, 1) := by decide +kernel
theorem dX12_plan_98 : decode cX12_plan 98 = .ok (.iload 5, 2) := by decide +kernel
theorem dX12_plan_100 : decode cX12_plan 100 = .ok (.iadd, 1) := by decide +kernel
theorem dX12_plan_101 : decode cX12_plan 101 = .ok (.iaload, 1) := by decide +kernel
theorem dX12_plan_102 : decode cX12_plan 102 = .ok (.istore 6, 2) := by decide +kernel
theorem dX12_plan_104 : decode cX12_plan 104 = .ok (.aload_n 0, 1) := by decide +kernel
theorem dX12_plan_105 : decode cX12_plan 105 = .ok (.iload 5, 2) := by decide +kernel
theorem dX12_plan_107 : decode cX12_plan 107 = .ok (.invokevirtual 395, 3) := by decide +kernel
theorem dX12_plan_110 : decode cX12_plan 110 = .ok (.iload 4, 2) := by decide +kernel
theorem dX12_plan_112 : decode cX12_plan 112 = .ok (.istore 7, 2) := by decide +kernel
theorem dX12_plan_114 : decode cX12_plan 114 = .ok (.iload 7, 2) := by decide +kernel
theorem dX12_plan_116 : decode cX12_plan 116 = .ok (.iload 6, 2) := by decide +kernel
theorem dX12_plan_118 : decode cX12_plan 118 = .ok (.iadd, 1) := by decide +kernel
theorem dX12_plan_119 : decode cX12_plan 119 = .ok (.bipush 90, 2) := by decide +kernel
theorem dX12_plan_121 : decode cX12_plan 121 = .ok (.if_icmp .gt 19, 3) := by decide +kernel
theorem dX12_plan_124 : decode cX12_plan 124 = .ok (.aload_n 0, 1) := by decide +kernel
theorem dX12_plan_125 : decode cX12_plan 125 = .ok (.iload 7, 2) := by decide +kernel
theorem dX12_plan_127 : decode cX12_plan 127 = .ok (.iload 6, 2) := by decide +kernel
theorem dX12_plan_129 : decode cX12_plan 129 = .ok (.iload 5, 2) := by decide +kernel
theorem dX12_plan_131 : decode cX12_plan 131 = .ok (.invokevirtual 398, 3) := by decide +kernel
theorem dX12_plan_134 : decode cX12_plan 134 = .ok (.iinc 7 1, 3) := by decide +kernel
theorem dX12_plan_137 : decode cX12_plan 137 = .ok (.goto (-23), 3) := by decide +kernel
theorem dX12_plan_140 : decode cX12_plan 140 = .ok (.aload_n 0, 1) := by decide +kernel
theorem dX12_plan_141 : decode cX12_plan 141 = .ok (.iload 5, 2) := by decide +kernel
theorem dX12_plan_143 : decode cX12_plan 143 = .ok (.iconst 1, 1) := by decide +kernel
theorem dX12_plan_144 : decode cX12_plan 144 = .ok (.iadd, 1) := by decide +kernel
theorem dX12_plan_145 : decode cX12_plan 145 = .ok (.invokevirtual 401, 3) := by decide +kernel
theorem dX12_plan_148 : decode cX12_plan 148 = .ok (.istore 4, 2) := by decide +kernel
theorem dX12_plan_150 : decode cX12_plan 150 = .ok (.iinc 5 1, 3) := by decide +kernel
theorem dX12_plan_153 : decode cX12_plan 153 = .ok (.goto (-77), 3) := by decide +kernel
theorem dX12_plan_156 : decode cX12_plan 156 = .ok (.iload 4, 2) := by decide +kernel
theorem dX12_plan_158 : decode cX12_plan 158 = .ok (.ireturn, 1) := by decide +kernel
set_option maxRecDepth 20000 in
theorem ggX12_atOnce_X12_layOut : GoodIn wsX12_atOnce wsX12_layOut := goodIn_r _ [10, 3, 11, 12, 13, 14, 9, 15, 16, 17, 18, 19, 2, 20, 21, 22, 23, 24, 25, 5, 26, 27, 28, 29, 30, 31, 32, 33, 34, 35, 36, 37, 38, 39, 40, 41, 42, 43, 44, 45, 46, 47, 48, 49, 50, 51, 52, 53, 54, 55, 56, 57, 58, 59, 60, 61, 62, 63, 64, 65, 66, 67, 68, 69, 70, 71, 72, 73, 74, 75, 76, 77, 78, 79, 80, 81, 82, 83, 84, 85, 86, 87, 88, 89, 90, 91, 92, 93, 94, 95, 96, 97, 98, 99, 100, 101, 102, 103, 104, 105, 106] (by decide +kernel) (by decide +kernel)
set_option maxRecDepth 20000 in
theorem gX12_atOnce_X12_layOut : GoodIn wsX12_atOnce (wsV RX12 353 RX12 yX12_layOut wsX12_layOut) := goodIn_app (goodIn_of _ (by decide +kernel)) ggX12_atOnce_X12_layOut
set_option maxRecDepth 20000 in
theorem ggX12_atOnce_X12_next : GoodIn wsX12_atOnce wsX12_next := goodIn_r _ [24, 25, 5, 20, 26, 27, 9, 28, 29, 30, 31, 46, 47, 48, 49, 50, 51, 52, 53, 54, 55, 56, 57, 58, 59, 60, 61, 62, 63, 64, 65, 66, 67, 68, 69, 70, 71, 72, 73, 74, 75, 76, 77, 78, 79, 80, 81, 82, 83, 84, 85, 86, 87, 88, 89, 90, 91, 92, 93, 94, 95, 96, 97, 98, 99, 100, 101, 102, 103, 104, 105, 106] (by decide +kernel) (by decide +kernel)
set_option maxRecDepth 20000 in
theorem gX12_atOnce_X12_next : GoodIn wsX12_atOnce (wsV RX12 335 RX12 yX12_next wsX12_next) := goodIn_app (goodIn_of _ (by decide +kernel)) ggX12_atOnce_X12_next
set_option maxRecDepth 20000 in
theorem ggX12_atOnce_X12_has : GoodIn wsX12_atOnce wsX12_has := goodIn_r _ [28] (by decide +kernel) (by decide +kernel)
set_option maxRecDepth 20000 in
theorem gX12_atOnce_X12_has : GoodIn wsX12_atOnce (va_wsS RX12 102 yX12_has wsX12_has) := goodIn_app (goodIn_of _ (by decide +kernel)) ggX12_atOnce_X12_has
theorem dX12_atOnce_0 : decode cX12_atOnce 0 = .ok (.aload_n 0, 1) := by decide +kernel
theorem dX12_atOnce_1 : decode cX12_atOnce 1 = .ok (.iconst 0, 1) := by decide +kernel
theorem dX12_atOnce_2 : decode cX12_atOnce 2 = .ok (.invokevirtual 353, 3) := by decide +kernel
theorem dX12_atOnce_5 : decode cX12_atOnce 5 = .ok (.iconst 0, 1) := by decide +kernel
theorem dX12_atOnce_6 : decode cX12_atOnce 6 = .ok (.istore_n 1, 1) := by decide +kernel
theorem dX12_atOnce_7 : decode cX12_atOnce 7 = .ok (.iconst 0, 1) := by decide +kernel
theorem dX12_atOnce_8 : decode cX12_atOnce 8 = .ok (.istore_n 2, 1) := by decide +kernel
theorem dX12_atOnce_9 : decode cX12_atOnce 9 = .ok (.iload_n 2, 1) := by decide +kernel
theorem dX12_atOnce_10 : decode cX12_atOnce 10 = .ok (.ldc_w 404, 3) := by decide +kernel
theorem dX12_atOnce_13 : decode cX12_atOnce 13 = .ok (.if_icmp .ge 175, 3) := by decide +kernel
theorem dX12_atOnce_16 : decode cX12_atOnce 16 = .ok (.iconst 0, 1) := by decide +kernel
theorem dX12_atOnce_17 : decode cX12_atOnce 17 = .ok (.istore_n 3, 1) := by decide +kernel
theorem dX12_atOnce_18 : decode cX12_atOnce 18 = .ok (.iload_n 3, 1) := by decide +kernel
theorem dX12_atOnce_19 : decode cX12_atOnce 19 = .ok (.aload_n 0, 1) := by decide +kernel
theorem dX12_atOnce_20 : decode cX12_atOnce 20 = .ok (.getfield 249, 3) := by decide +kernel
theorem dX12_atOnce_23 : decode cX12_atOnce 23 = .ok (.if_icmp .gt 159, 3) := by decide +kernel
theorem dX12_atOnce_26 : decode cX12_atOnce 26 = .ok (.aload_n 0, 1) := by decide +kernel
theorem dX12_atOnce_27 : decode cX12_atOnce 27 = .ok (.getfield 57, 3) := by decide +kernel
theorem dX12_atOnce_30 : decode cX12_atOnce 30 = .ok (.iload_n 2, 1) := by decide +kernel
theorem dX12_atOnce_31 : decode cX12_atOnce 31 = .ok (.iaload, 1) := by decide +kernel
theorem dX12_atOnce_32 : decode cX12_atOnce 32 = .ok (.iconst (-1), 1) := by decide +kernel
theorem dX12_atOnce_33 : decode cX12_atOnce 33 = .ok (.if_icmp .eq 149, 3) := by decide +kernel
theorem dX12_atOnce_36 : decode cX12_atOnce 36 = .ok (.aload_n 0, 1) := by decide +kernel
theorem dX12_atOnce_37 : decode cX12_atOnce 37 = .ok (.iload_n 2, 1) := by decide +kernel
theorem dX12_atOnce_38 : decode cX12_atOnce 38 = .ok (.sipush 4096, 3) := by decide +kernel
theorem dX12_atOnce_41 : decode cX12_atOnce 41 = .ok (.irem, 1) := by decide +kernel
theorem dX12_atOnce_42 : decode cX12_atOnce 42 = .ok (.iload_n 3, 1) := by decide +kernel
theorem dX12_atOnce_43 : decode cX12_atOnce 43 = .ok (.invokevirtual 335, 3) := by decide +kernel
theorem dX12_atOnce_46 : decode cX12_atOnce 46 = .ok (.istore 4, 2) := by decide +kernel
theorem dX12_atOnce_48 : decode cX12_atOnce 48 = .ok (.iload 4, 2) := by decide +kernel
theorem dX12_atOnce_50 : decode cX12_atOnce 50 = .ok (.ifCond .le 14, 3) := by decide +kernel
theorem dX12_atOnce_53 : decode cX12_atOnce 53 = .ok (.aload_n 0, 1) := by decide +kernel
theorem dX12_atOnce_54 : decode cX12_atOnce 54 = .ok (.getfield 259, 3) := by decide +kernel
theorem dX12_atOnce_57 : decode cX12_atOnce 57 = .ok (.ifCond .le 7, 3) := by decide +kernel
theorem dX12_atOnce_60 : decode cX12_atOnce 60 = .ok (.iconst 1, 1) := by decide +kernel
theorem dX12_atOnce_61 : decode cX12_atOnce 61 = .ok (.goto 4, 3) := by decide +kernel
theorem dX12_atOnce_64 : decode cX12_atOnce 64 = .ok (.iconst 0, 1) := by decide +kernel
theorem dX12_atOnce_65 : decode cX12_atOnce 65 = .ok (.istore 5, 2) := by decide +kernel
theorem dX12_atOnce_67 : decode cX12_atOnce 67 = .ok (.iconst 0, 1) := by decide +kernel
theorem dX12_atOnce_68 : decode cX12_atOnce 68 = .ok (.istore 6, 2) := by decide +kernel
theorem dX12_atOnce_70 : decode cX12_atOnce 70 = .ok (.iload 6, 2) := by decide +kernel
theorem dX12_atOnce_72 : decode cX12_atOnce 72 = .ok (.aload_n 0, 1) := by decide +kernel
theorem dX12_atOnce_73 : decode cX12_atOnce 73 = .ok (.getfield 259, 3) := by decide +kernel
theorem dX12_atOnce_76 : decode cX12_atOnce 76 = .ok (.if_icmp .ge 65, 3) := by decide +kernel
theorem dX12_atOnce_79 : decode cX12_atOnce 79 = .ok (.iload_n 2, 1) := by decide +kernel
theorem dX12_atOnce_80 : decode cX12_atOnce 80 = .ok (.sipush 4096, 3) := by decide +kernel
theorem dX12_atOnce_83 : decode cX12_atOnce 83 = .ok (.irem, 1) := by decide +kernel
theorem dX12_atOnce_84 : decode cX12_atOnce 84 = .ok (.iconst 3, 1) := by decide +kernel
theorem dX12_atOnce_85 : decode cX12_atOnce 85 = .ok (.iload 6, 2) := by decide +kernel
theorem dX12_atOnce_87 : decode cX12_atOnce 87 = .ok (.imul, 1) := by decide +kernel
theorem dX12_atOnce_88 : decode cX12_atOnce 88 = .ok (.ishr, 1) := by decide +kernel
theorem dX12_atOnce_89 : decode cX12_atOnce 89 = .ok (.bipush 7, 2) := by decide +kernel
theorem dX12_atOnce_91 : decode cX12_atOnce 91 = .ok (.iand, 1) := by decide +kernel
theorem dX12_atOnce_92 : decode cX12_atOnce 92 = .ok (.istore 7, 2) := by decide +kernel
theorem dX12_atOnce_94 : decode cX12_atOnce 94 = .ok (.iload 5, 2) := by decide +kernel
theorem dX12_atOnce_96 : decode cX12_atOnce 96 = .ok (.ifCond .eq 36, 3) := by decide +kernel
theorem dX12_atOnce_99 : decode cX12_atOnce 99 = .ok (.iload_n 3, 1) := by decide +kernel
theorem dX12_atOnce_100 : decode cX12_atOnce 100 = .ok (.iload 6, 2) := by decide +kernel
theorem dX12_atOnce_102 : decode cX12_atOnce 102 = .ok (.invokestatic 102, 3) := by decide +kernel
theorem dX12_atOnce_105 : decode cX12_atOnce 105 = .ok (.ifCond .eq 16, 3) := by decide +kernel
theorem dX12_atOnce_108 : decode cX12_atOnce 108 = .ok (.aload_n 0, 1) := by decide +kernel
theorem dX12_atOnce_109 : decode cX12_atOnce 109 = .ok (.getfield 44, 3) := by decide +kernel
theorem dX12_atOnce_112 : decode cX12_atOnce 112 = .ok (.iload 6, 2) := by decide +kernel
theorem dX12_atOnce_114 : decode cX12_atOnce 114 = .ok (.iaload, 1) := by decide +kernel
theorem dX12_atOnce_115 : decode cX12_atOnce 115 = .ok (.iload 7, 2) := by decide +kernel
theorem dX12_atOnce_117 : decode cX12_atOnce 117 = .ok (.isub, 1) := by decide +kernel
theorem dX12_atOnce_118 : decode cX12_atOnce 118 = .ok (.goto 5, 3) := by decide +kernel
theorem dX12_atOnce_121 : decode cX12_atOnce 121 = .ok (.iload 7, 2) := by decide +kernel
theorem dX12_atOnce_123 : decode cX12_atOnce 123 = .ok (.iload 4, 2) := by decide +kernel
theorem dX12_atOnce_125 : decode cX12_atOnce 125 = .ok (.if_icmp .ne 7, 3) := by decide +kernel
theorem dX12_atOnce_128 : decode cX12_atOnce 128 = .ok (.iconst 1, 1) := by decide +kernel
theorem dX12_atOnce_129 : decode cX12_atOnce 129 = .ok (.goto 4, 3) := by decide +kernel
theorem dX12_atOnce_132 : decode cX12_atOnce 132 = .ok (.iconst 0, 1) := by decide +kernel
theorem dX12_atOnce_133 : decode cX12_atOnce 133 = .ok (.istore 5, 2) := by decide +kernel
theorem dX12_atOnce_135 : decode cX12_atOnce 135 = .ok (.iinc 6 1, 3) := by decide +kernel
theorem dX12_atOnce_138 : decode cX12_atOnce 138 = .ok (.goto (-68), 3) := by decide +kernel
theorem dX12_atOnce_141 : decode cX12_atOnce 141 = .ok (.iload_n 1, 1) := by decide +kernel
theorem dX12_atOnce_142 : decode cX12_atOnce 142 = .ok (.iload 5, 2) := by decide +kernel
theorem dX12_atOnce_144 : decode cX12_atOnce 144 = .ok (.ifCond .eq 29, 3) := by decide +kernel
theorem dX12_atOnce_147 : decode cX12_atOnce 147 = .ok (.iload_n 2, 1) := by decide +kernel
theorem dX12_atOnce_148 : decode cX12_atOnce 148 = .ok (.sipush 4096, 3) := by decide +kernel
theorem dX12_atOnce_151 : decode cX12_atOnce 151 = .ok (.idiv, 1) := by decide +kernel
theorem dX12_atOnce_152 : decode cX12_atOnce 152 = .ok (.iload 4, 2) := by decide +kernel
theorem dX12_atOnce_154 : decode cX12_atOnce 154 = .ok (.iadd, 1) := by decide +kernel
theorem dX12_atOnce_155 : decode cX12_atOnce 155 = .ok (.bipush 30, 2) := by decide +kernel
theorem dX12_atOnce_157 : decode cX12_atOnce 157 = .ok (.if_icmp .gt 16, 3) := by decide +kernel
theorem dX12_atOnce_160 : decode cX12_atOnce 160 = .ok (.iconst 1, 1) := by decide +kernel
theorem dX12_atOnce_161 : decode cX12_atOnce 161 = .ok (.iload_n 2, 1) := by decide +kernel
theorem dX12_atOnce_162 : decode cX12_atOnce 162 = .ok (.sipush 4096, 3) := by decide +kernel
theorem dX12_atOnce_165 : decode cX12_atOnce 165 = .ok (.idiv, 1) := by decide +kernel
theorem dX12_atOnce_166 : decode cX12_atOnce 166 = .ok (.iload 4, 2) := by decide +kernel
theorem dX12_atOnce_168 : decode cX12_atOnce 168 = .ok (.iadd, 1) := by decide +kernel
theorem dX12_atOnce_169 : decode cX12_atOnce 169 = .ok (.ishl, 1) := by decide +kernel
theorem dX12_atOnce_170 : decode cX12_atOnce 170 = .ok (.goto 4, 3) := by decide +kernel
theorem dX12_atOnce_173 : decode cX12_atOnce 173 = .ok (.iconst 0, 1) := by decide +kernel
theorem dX12_atOnce_174 : decode cX12_atOnce 174 = .ok (.ior, 1) := by decide +kernel
theorem dX12_atOnce_175 : decode cX12_atOnce 175 = .ok (.istore_n 1, 1) := by decide +kernel
theorem dX12_atOnce_176 : decode cX12_atOnce 176 = .ok (.iinc 3 1, 3) := by decide +kernel
theorem dX12_atOnce_179 : decode cX12_atOnce 179 = .ok (.goto (-161), 3) := by decide +kernel
theorem dX12_atOnce_182 : decode cX12_atOnce 182 = .ok (.iinc 2 1, 3) := by decide +kernel
theorem dX12_atOnce_185 : decode cX12_atOnce 185 = .ok (.goto (-176), 3) := by decide +kernel
theorem dX12_atOnce_188 : decode cX12_atOnce 188 = .ok (.iload_n 1, 1) := by decide +kernel
theorem dX12_atOnce_189 : decode cX12_atOnce 189 = .ok (.ireturn, 1) := by decide +kernel
set_option maxRecDepth 20000 in
theorem ggX12_wheelBy_X12_next : GoodIn wsX12_wheelBy wsX12_next := goodIn_r _ [10, 11, 12, 5, 13, 14, 9, 15, 16, 17, 18, 19, 20, 21, 22, 23, 24, 25, 26, 27, 28, 29, 30, 31, 32, 33, 34, 35, 36, 37, 38, 39, 40, 41, 42, 43, 44, 45, 46, 47, 48, 49, 50, 51, 52, 53, 54, 55, 56, 57, 58, 59, 60, 61, 62, 63, 64, 65, 66, 67, 68, 69, 70, 71, 72, 73, 74, 75, 76, 77, 78, 79] (by decide +kernel) (by decide +kernel)
set_option maxRecDepth 20000 in
theorem gX12_wheelBy_X12_next : GoodIn wsX12_wheelBy (wsV RX12 335 RX12 yX12_next wsX12_next) := goodIn_app (goodIn_of _ (by decide +kernel)) ggX12_wheelBy_X12_next
theorem dX12_wheelBy_0 : decode cX12_wheelBy 0 = .ok (.iconst 0, 1) := by decide +kernel
theorem dX12_wheelBy_1 : decode cX12_wheelBy 1 = .ok (.istore_n 2, 1) := by decide +kernel
theorem dX12_wheelBy_2 : decode cX12_wheelBy 2 = .ok (.iload_n 2, 1) := by decide +kernel
theorem dX12_wheelBy_3 : decode cX12_wheelBy 3 = .ok (.sipush 4096, 3) := by decide +kernel
theorem dX12_wheelBy_6 : decode cX12_wheelBy 6 = .ok (.if_icmp .ge 16, 3) := by decide +kernel
theorem dX12_wheelBy_9 : decode cX12_wheelBy 9 = .ok (.aload_n 0, 1) := by decide +kernel
theorem dX12_wheelBy_10 : decode cX12_wheelBy 10 = .ok (.getfield 73, 3) := by decide +kernel
theorem dX12_wheelBy_13 : decode cX12_wheelBy 13 = .ok (.iload_n 2, 1) := by decide +kernel
theorem dX12_wheelBy_14 : decode cX12_wheelBy 14 = .ok (.iconst (-1), 1) := by decide +kernel
theorem dX12_wheelBy_15 : decode cX12_wheelBy 15 = .ok (.iastore, 1) := by decide +kernel
theorem dX12_wheelBy_16 : decode cX12_wheelBy 16 = .ok (.iinc 2 1, 3) := by decide +kernel
theorem dX12_wheelBy_19 : decode cX12_wheelBy 19 = .ok (.goto (-17), 3) := by decide +kernel
theorem dX12_wheelBy_22 : decode cX12_wheelBy 22 = .ok (.iconst 0, 1) := by decide +kernel
theorem dX12_wheelBy_23 : decode cX12_wheelBy 23 = .ok (.istore_n 2, 1) := by decide +kernel
theorem dX12_wheelBy_24 : decode cX12_wheelBy 24 = .ok (.aload_n 0, 1) := by decide +kernel
theorem dX12_wheelBy_25 : decode cX12_wheelBy 25 = .ok (.getfield 252, 3) := by decide +kernel
theorem dX12_wheelBy_28 : decode cX12_wheelBy 28 = .ok (.istore_n 3, 1) := by decide +kernel
theorem dX12_wheelBy_29 : decode cX12_wheelBy 29 = .ok (.iconst 0, 1) := by decide +kernel
theorem dX12_wheelBy_30 : decode cX12_wheelBy 30 = .ok (.istore 4, 2) := by decide +kernel
theorem dX12_wheelBy_32 : decode cX12_wheelBy 32 = .ok (.aload_n 0, 1) := by decide +kernel
theorem dX12_wheelBy_33 : decode cX12_wheelBy 33 = .ok (.getfield 73, 3) := by decide +kernel
theorem dX12_wheelBy_36 : decode cX12_wheelBy 36 = .ok (.iload_n 3, 1) := by decide +kernel
theorem dX12_wheelBy_37 : decode cX12_wheelBy 37 = .ok (.iaload, 1) := by decide +kernel
theorem dX12_wheelBy_38 : decode cX12_wheelBy 38 = .ok (.iconst (-1), 1) := by decide +kernel
theorem dX12_wheelBy_39 : decode cX12_wheelBy 39 = .ok (.if_icmp .ne 54, 3) := by decide +kernel
theorem dX12_wheelBy_42 : decode cX12_wheelBy 42 = .ok (.aload_n 0, 1) := by decide +kernel
theorem dX12_wheelBy_43 : decode cX12_wheelBy 43 = .ok (.getfield 73, 3) := by decide +kernel
theorem dX12_wheelBy_46 : decode cX12_wheelBy 46 = .ok (.iload_n 3, 1) := by decide +kernel
theorem dX12_wheelBy_47 : decode cX12_wheelBy 47 = .ok (.iload_n 2, 1) := by decide +kernel
theorem dX12_wheelBy_48 : decode cX12_wheelBy 48 = .ok (.iastore, 1) := by decide +kernel
theorem dX12_wheelBy_49 : decode cX12_wheelBy 49 = .ok (.aload_n 0, 1) := by decide +kernel
theorem dX12_wheelBy_50 : decode cX12_wheelBy 50 = .ok (.getfield 76, 3) := by decide +kernel
theorem dX12_wheelBy_53 : decode cX12_wheelBy 53 = .ok (.iload_n 2, 1) := by decide +kernel
theorem dX12_wheelBy_54 : decode cX12_wheelBy 54 = .ok (.iload 4, 2) := by decide +kernel
theorem dX12_wheelBy_56 : decode cX12_wheelBy 56 = .ok (.iastore, 1) := by decide +kernel
theorem dX12_wheelBy_57 : decode cX12_wheelBy 57 = .ok (.iinc 2 1, 3) := by decide +kernel
theorem dX12_wheelBy_60 : decode cX12_wheelBy 60 = .ok (.aload_n 0, 1) := by decide +kernel
theorem dX12_wheelBy_61 : decode cX12_wheelBy 61 = .ok (.iload_n 3, 1) := by decide +kernel
theorem dX12_wheelBy_62 : decode cX12_wheelBy 62 = .ok (.aload_n 0, 1) := by decide +kernel
theorem dX12_wheelBy_63 : decode cX12_wheelBy 63 = .ok (.getfield 249, 3) := by decide +kernel
theorem dX12_wheelBy_66 : decode cX12_wheelBy 66 = .ok (.invokevirtual 335, 3) := by decide +kernel
theorem dX12_wheelBy_69 : decode cX12_wheelBy 69 = .ok (.istore 5, 2) := by decide +kernel
theorem dX12_wheelBy_71 : decode cX12_wheelBy 71 = .ok (.iload 5, 2) := by decide +kernel
theorem dX12_wheelBy_73 : decode cX12_wheelBy 73 = .ok (.ifCond .ne 5, 3) := by decide +kernel
theorem dX12_wheelBy_76 : decode cX12_wheelBy 76 = .ok (.iconst (-1), 1) := by decide +kernel
theorem dX12_wheelBy_77 : decode cX12_wheelBy 77 = .ok (.ireturn, 1) := by decide +kernel
theorem dX12_wheelBy_78 : decode cX12_wheelBy 78 = .ok (.iload 4, 2) := by decide +kernel
theorem dX12_wheelBy_80 : decode cX12_wheelBy 80 = .ok (.iload 5, 2) := by decide +kernel
theorem dX12_wheelBy_82 : decode cX12_wheelBy 82 = .ok (.iadd, 1) := by decide +kernel
theorem dX12_wheelBy_83 : decode cX12_wheelBy 83 = .ok (.istore 4, 2) := by decide +kernel
theorem dX12_wheelBy_85 : decode cX12_wheelBy 85 = .ok (.aload_n 0, 1) := by decide +kernel
theorem dX12_wheelBy_86 : decode cX12_wheelBy 86 = .ok (.getfield 332, 3) := by decide +kernel
theorem dX12_wheelBy_89 : decode cX12_wheelBy 89 = .ok (.istore_n 3, 1) := by decide +kernel
theorem dX12_wheelBy_90 : decode cX12_wheelBy 90 = .ok (.goto (-58), 3) := by decide +kernel
theorem dX12_wheelBy_93 : decode cX12_wheelBy 93 = .ok (.aload_n 0, 1) := by decide +kernel
theorem dX12_wheelBy_94 : decode cX12_wheelBy 94 = .ok (.getfield 73, 3) := by decide +kernel
theorem dX12_wheelBy_97 : decode cX12_wheelBy 97 = .ok (.iload_n 3, 1) := by decide +kernel
theorem dX12_wheelBy_98 : decode cX12_wheelBy 98 = .ok (.iaload, 1) := by decide +kernel
theorem dX12_wheelBy_99 : decode cX12_wheelBy 99 = .ok (.istore 5, 2) := by decide +kernel
theorem dX12_wheelBy_101 : decode cX12_wheelBy 101 = .ok (.iload_n 1, 1) := by decide +kernel
theorem dX12_wheelBy_102 : decode cX12_wheelBy 102 = .ok (.iconst 1, 1) := by decide +kernel
theorem dX12_wheelBy_103 : decode cX12_wheelBy 103 = .ok (.if_icmp .ne 8, 3) := by decide +kernel
theorem dX12_wheelBy_106 : decode cX12_wheelBy 106 = .ok (.iload 5, 2) := by decide +kernel
theorem dX12_wheelBy_108 : decode cX12_wheelBy 108 = .ok (.goto 25, 3) := by decide +kernel
theorem dX12_wheelBy_111 : decode cX12_wheelBy 111 = .ok (.iload_n 1, 1) := by decide +kernel
theorem dX12_wheelBy_112 : decode cX12_wheelBy 112 = .ok (.iconst 2, 1) := by decide +kernel
theorem dX12_wheelBy_113 : decode cX12_wheelBy 113 = .ok (.if_icmp .ne 10, 3) := by decide +kernel
theorem dX12_wheelBy_116 : decode cX12_wheelBy 116 = .ok (.iload_n 2, 1) := by decide +kernel
theorem dX12_wheelBy_117 : decode cX12_wheelBy 117 = .ok (.iload 5, 2) := by decide +kernel
theorem dX12_wheelBy_119 : decode cX12_wheelBy 119 = .ok (.isub, 1) := by decide +kernel
theorem dX12_wheelBy_120 : decode cX12_wheelBy 120 = .ok (.goto 13, 3) := by decide +kernel
theorem dX12_wheelBy_123 : decode cX12_wheelBy 123 = .ok (.iload 4, 2) := by decide +kernel
theorem dX12_wheelBy_125 : decode cX12_wheelBy 125 = .ok (.aload_n 0, 1) := by decide +kernel
theorem dX12_wheelBy_126 : decode cX12_wheelBy 126 = .ok (.getfield 76, 3) := by decide +kernel
theorem dX12_wheelBy_129 : decode cX12_wheelBy 129 = .ok (.iload 5, 2) := by decide +kernel
theorem dX12_wheelBy_131 : decode cX12_wheelBy 131 = .ok (.iaload, 1) := by decide +kernel
theorem dX12_wheelBy_132 : decode cX12_wheelBy 132 = .ok (.isub, 1) := by decide +kernel
theorem dX12_wheelBy_133 : decode cX12_wheelBy 133 = .ok (.ireturn, 1) := by decide +kernel
set_option maxRecDepth 20000 in
theorem ggX12_wheel_X12_hand : GoodIn wsX12_wheel wsX12_hand := goodIn_r _ [6, 7, 8, 9, 10, 11, 5, 12, 13, 14, 15, 16, 17, 18, 19, 20, 21, 22, 23, 24, 25, 26, 27, 28, 29, 30, 31, 32, 74, 75, 76, 77, 78, 79, 80, 81, 82, 83, 84, 85, 86, 87, 88, 89, 90, 91, 92, 93, 94, 95, 96, 97, 98, 99, 100, 101, 102, 103, 104, 105, 106, 107, 108, 109, 110, 111, 112, 113, 114, 115, 116, 117, 118, 119, 120, 121, 122, 123, 124, 125, 126, 127, 128, 129, 130, 131, 132, 133, 134] (by decide +kernel) (by decide +kernel)
set_option maxRecDepth 20000 in
theorem gX12_wheel_X12_hand : GoodIn wsX12_wheel (wsV RX12 265 RX12 yX12_hand wsX12_hand) := goodIn_app (goodIn_of _ (by decide +kernel)) ggX12_wheel_X12_hand
set_option maxRecDepth 20000 in
theorem ggX12_wheel_X12_in : GoodIn wsX12_wheel wsX12_in := goodIn_r _ [16] (by decide +kernel) (by decide +kernel)
set_option maxRecDepth 20000 in
theorem gX12_wheel_X12_in : GoodIn wsX12_wheel (va_wsS RX12 110 yX12_in wsX12_in) := goodIn_app (goodIn_of _ (by decide +kernel)) ggX12_wheel_X12_in
set_option maxRecDepth 20000 in
theorem ggX12_wheel_X12_atOnce : GoodIn wsX12_wheel wsX12_atOnce := goodIn_r _ [36, 37, 26, 38, 8, 28, 39, 40, 41, 5, 42, 27, 43, 44, 45, 46, 47, 48, 49, 50, 51, 52, 53, 54, 55, 56, 30, 31, 32, 57, 58, 59, 60, 61, 62, 63, 17, 18, 19, 20, 21, 7, 64, 65, 66, 67, 74, 75, 76, 77, 78, 79, 80, 81, 82, 83, 84, 85, 86, 87, 88, 89, 90, 91, 92, 93, 94, 95, 96, 97, 98, 99, 100, 101, 102, 103, 104, 105, 106, 107, 108, 109, 110, 111, 112, 113, 114, 115, 116, 117, 118, 119, 120, 121, 122, 123, 124, 125, 126, 127, 128, 129, 130, 131, 132, 133, 134] (by decide +kernel) (by decide +kernel)
set_option maxRecDepth 20000 in
theorem gX12_wheel_X12_atOnce : GoodIn wsX12_wheel (wsV RX12 405 RX12 yX12_atOnce wsX12_atOnce) := goodIn_app (goodIn_of _ (by decide +kernel)) ggX12_wheel_X12_atOnce
set_option maxRecDepth 20000 in
theorem ggX12_wheel_X12_wheelBy : GoodIn wsX12_wheel wsX12_wheelBy := goodIn_r _ [71, 72, 27, 73, 26, 51, 52, 53, 54, 5, 55, 56, 28, 30, 31, 32, 57, 58, 59, 74, 75, 76, 77, 78, 79, 80, 81, 82, 83, 84, 85, 86, 87, 88, 89, 90, 91, 92, 93, 94, 95, 96, 97, 98, 99, 100, 101, 102, 103, 104, 105, 106, 107, 108, 109, 110, 111, 112, 113, 114, 115, 116, 117, 118, 119, 120, 121, 122, 123, 124, 125, 126, 127, 128, 129, 130, 131, 132, 133, 134] (by decide +kernel) (by decide +kernel)
set_option maxRecDepth 20000 in
theorem gX12_wheel_X12_wheelBy : GoodIn wsX12_wheel (wsV RX12 408 RX12 yX12_wheelBy wsX12_wheelBy) := goodIn_app (goodIn_of _ (by decide +kernel)) ggX12_wheel_X12_wheelBy
theorem dX12_wheel_0 : decode cX12_wheel 0 = .ok (.aload_n 0, 1) := by decide +kernel
theorem dX12_wheel_1 : decode cX12_wheel 1 = .ok (.iconst 0, 1) := by decide +kernel
theorem dX12_wheel_2 : decode cX12_wheel 2 = .ok (.putfield 98, 3) := by decide +kernel
theorem dX12_wheel_5 : decode cX12_wheel 5 = .ok (.aload_n 0, 1) := by decide +kernel
theorem dX12_wheel_6 : decode cX12_wheel 6 = .ok (.iload_n 1, 1) := by decide +kernel
theorem dX12_wheel_7 : decode cX12_wheel 7 = .ok (.invokevirtual 265, 3) := by decide +kernel
theorem dX12_wheel_10 : decode cX12_wheel 10 = .ok (.ifCond .eq 12, 3) := by decide +kernel
theorem dX12_wheel_13 : decode cX12_wheel 13 = .ok (.iload_n 2, 1) := by decide +kernel
theorem dX12_wheel_14 : decode cX12_wheel 14 = .ok (.iconst 0, 1) := by decide +kernel
theorem dX12_wheel_15 : decode cX12_wheel 15 = .ok (.iconst 3, 1) := by decide +kernel
theorem dX12_wheel_16 : decode cX12_wheel 16 = .ok (.invokestatic 110, 3) := by decide +kernel
theorem dX12_wheel_19 : decode cX12_wheel 19 = .ok (.ifCond .ne 6, 3) := by decide +kernel
theorem dX12_wheel_22 : decode cX12_wheel 22 = .ok (.bipush (-2), 2) := by decide +kernel
theorem dX12_wheel_24 : decode cX12_wheel 24 = .ok (.ireturn, 1) := by decide +kernel
theorem dX12_wheel_25 : decode cX12_wheel 25 = .ok (.iload_n 2, 1) := by decide +kernel
theorem dX12_wheel_26 : decode cX12_wheel 26 = .ok (.ifCond .ne 10, 3) := by decide +kernel
theorem dX12_wheel_29 : decode cX12_wheel 29 = .ok (.aload_n 0, 1) := by decide +kernel
theorem dX12_wheel_30 : decode cX12_wheel 30 = .ok (.invokevirtual 405, 3) := by decide +kernel
theorem dX12_wheel_33 : decode cX12_wheel 33 = .ok (.goto 8, 3) := by decide +kernel
theorem dX12_wheel_36 : decode cX12_wheel 36 = .ok (.aload_n 0, 1) := by decide +kernel
theorem dX12_wheel_37 : decode cX12_wheel 37 = .ok (.iload_n 2, 1) := by decide +kernel
theorem dX12_wheel_38 : decode cX12_wheel 38 = .ok (.invokevirtual 408, 3) := by decide +kernel
theorem dX12_wheel_41 : decode cX12_wheel 41 = .ok (.ireturn, 1) := by decide +kernel
theorem dX12_commonL_0 : decode cX12_commonL 0 = .ok (.lload_n 0, 1) := by decide +kernel
theorem dX12_commonL_1 : decode cX12_commonL 1 = .ok (.lstore 4, 2) := by decide +kernel
theorem dX12_commonL_3 : decode cX12_commonL 3 = .ok (.lload_n 2, 1) := by decide +kernel
theorem dX12_commonL_4 : decode cX12_commonL 4 = .ok (.lstore 6, 2) := by decide +kernel
theorem dX12_commonL_6 : decode cX12_commonL 6 = .ok (.lload 6, 2) := by decide +kernel
theorem dX12_commonL_8 : decode cX12_commonL 8 = .ok (.lconst 0, 1) := by decide +kernel
theorem dX12_commonL_9 : decode cX12_commonL 9 = .ok (.lcmp, 1) := by decide +kernel
theorem dX12_commonL_10 : decode cX12_commonL 10 = .ok (.ifCond .eq 21, 3) := by decide +kernel
theorem dX12_commonL_13 : decode cX12_commonL 13 = .ok (.lload 4, 2) := by decide +kernel
theorem dX12_commonL_15 : decode cX12_commonL 15 = .ok (.lload 6, 2) := by decide +kernel
theorem dX12_commonL_17 : decode cX12_commonL 17 = .ok (.lrem, 1) := by decide +kernel
theorem dX12_commonL_18 : decode cX12_commonL 18 = .ok (.lstore 8, 2) := by decide +kernel
theorem dX12_commonL_20 : decode cX12_commonL 20 = .ok (.lload 6, 2) := by decide +kernel
theorem dX12_commonL_22 : decode cX12_commonL 22 = .ok (.lstore 4, 2) := by decide +kernel
theorem dX12_commonL_24 : decode cX12_commonL 24 = .ok (.lload 8, 2) := by decide +kernel
theorem dX12_commonL_26 : decode cX12_commonL 26 = .ok (.lstore 6, 2) := by decide +kernel
theorem dX12_commonL_28 : decode cX12_commonL 28 = .ok (.goto (-22), 3) := by decide +kernel
theorem dX12_commonL_31 : decode cX12_commonL 31 = .ok (.lload 4, 2) := by decide +kernel
theorem dX12_commonL_33 : decode cX12_commonL 33 = .ok (.lreturn, 1) := by decide +kernel
set_option maxRecDepth 20000 in
theorem ggX12_partL_X12_commonL : GoodIn wsX12_partL wsX12_commonL := goodIn_r _ [4] (by decide +kernel) (by decide +kernel)
set_option maxRecDepth 20000 in
theorem gX12_partL_X12_commonL : GoodIn wsX12_partL (va_wsS RX12 411 yX12_commonL wsX12_commonL) := goodIn_app (goodIn_of _ (by decide +kernel)) ggX12_partL_X12_commonL
theorem dX12_partL_0 : decode cX12_partL 0 = .ok (.iload 4, 2) := by decide +kernel
theorem dX12_partL_2 : decode cX12_partL 2 = .ok (.ifCond .eq 7, 3) := by decide +kernel
theorem dX12_partL_5 : decode cX12_partL 5 = .ok (.lload_n 2, 1) := by decide +kernel
theorem dX12_partL_6 : decode cX12_partL 6 = .ok (.goto 4, 3) := by decide +kernel
theorem dX12_partL_9 : decode cX12_partL 9 = .ok (.lload_n 0, 1) := by decide +kernel
theorem dX12_partL_10 : decode cX12_partL 10 = .ok (.lload_n 2, 1) := by decide +kernel
theorem dX12_partL_11 : decode cX12_partL 11 = .ok (.lload_n 0, 1) := by decide +kernel
theorem dX12_partL_12 : decode cX12_partL 12 = .ok (.invokestatic 411, 3) := by decide +kernel
theorem dX12_partL_15 : decode cX12_partL 15 = .ok (.ldiv, 1) := by decide +kernel
theorem dX12_partL_16 : decode cX12_partL 16 = .ok (.lreturn, 1) := by decide +kernel
set_option maxRecDepth 20000 in
theorem ggX12_luck_X12_in : GoodIn wsX12_luck wsX12_in := goodIn_r _ [11] (by decide +kernel) (by decide +kernel)
set_option maxRecDepth 20000 in
theorem gX12_luck_X12_in : GoodIn wsX12_luck (va_wsS RX12 110 yX12_in wsX12_in) := goodIn_app (goodIn_of _ (by decide +kernel)) ggX12_luck_X12_in
set_option maxRecDepth 20000 in
theorem ggX12_luck_X12_hand : GoodIn wsX12_luck wsX12_hand := goodIn_r _ [15, 16, 7, 17, 18, 19, 10, 20, 21, 8, 9, 11, 22, 23, 24, 25, 26, 27, 28, 29, 30, 5, 4, 31, 32, 33, 34, 35, 50, 51, 52, 53, 54, 55, 56, 57, 58, 59, 60, 61, 62, 63, 64, 65, 66, 67, 68, 69, 70, 71, 72, 73, 74, 75, 76, 77, 78, 79, 80, 81, 82, 83, 84, 85, 86, 87, 88, 89, 90, 91, 92, 93, 94, 95, 96, 97, 98, 99, 100, 101, 102, 103, 104, 105, 106, 107, 108, 109, 110] (by decide +kernel) (by decide +kernel)
set_option maxRecDepth 20000 in
theorem gX12_luck_X12_hand : GoodIn wsX12_luck (wsV RX12 265 RX12 yX12_hand wsX12_hand) := goodIn_app (goodIn_of _ (by decide +kernel)) ggX12_luck_X12_hand
set_option maxRecDepth 20000 in
theorem ggX12_luck_X12_next : GoodIn wsX12_luck wsX12_next := goodIn_r _ [39, 40, 31, 6, 33, 34, 10, 35, 41, 42, 43, 50, 51, 52, 53, 54, 55, 56, 57, 58, 59, 60, 61, 62, 63, 64, 65, 66, 67, 68, 69, 70, 71, 72, 73, 74, 75, 76, 77, 78, 79, 80, 81, 82, 83, 84, 85, 86, 87, 88, 89, 90, 91, 92, 93, 94, 95, 96, 97, 98, 99, 100, 101, 102, 103, 104, 105, 106, 107, 108, 109, 110] (by decide +kernel) (by decide +kernel)
set_option maxRecDepth 20000 in
theorem gX12_luck_X12_next : GoodIn wsX12_luck (wsV RX12 335 RX12 yX12_next wsX12_next) := goodIn_app (goodIn_of _ (by decide +kernel)) ggX12_luck_X12_next
set_option maxRecDepth 20000 in
theorem ggX12_luck_X12_partL : GoodIn wsX12_luck wsX12_partL := goodIn_r _ [46, 47, 48, 10, 49] (by decide +kernel) (by decide +kernel)
set_option maxRecDepth 20000 in
theorem gX12_luck_X12_partL : GoodIn wsX12_luck (va_wsS RX12 417 yX12_partL wsX12_partL) := goodIn_app (goodIn_of _ (by decide +kernel)) ggX12_luck_X12_partL
theorem dX12_luck_0 : decode cX12_luck 0 = .ok (.aload_n 0, 1) := by decide +kernel
theorem dX12_luck_1 : decode cX12_luck 1 = .ok (.iconst 0, 1) := by decide +kernel
theorem dX12_luck_2 : decode cX12_luck 2 = .ok (.putfield 98, 3) := by decide +kernel
theorem dX12_luck_5 : decode cX12_luck 5 = .ok (.iload_n 2, 1) := by decide +kernel
theorem dX12_luck_6 : decode cX12_luck 6 = .ok (.iconst 1, 1) := by decide +kernel
theorem dX12_luck_7 : decode cX12_luck 7 = .ok (.bipush 10, 2) := by decide +kernel
theorem dX12_luck_9 : decode cX12_luck 9 = .ok (.invokestatic 110, 3) := by decide +kernel
theorem dX12_luck_12 : decode cX12_luck 12 = .ok (.ifCond .eq 11, 3) := by decide +kernel
theorem dX12_luck_15 : decode cX12_luck 15 = .ok (.aload_n 0, 1) := by decide +kernel
theorem dX12_luck_16 : decode cX12_luck 16 = .ok (.iload_n 1, 1) := by decide +kernel
theorem dX12_luck_17 : decode cX12_luck 17 = .ok (.invokevirtual 265, 3) := by decide +kernel
theorem dX12_luck_20 : decode cX12_luck 20 = .ok (.ifCond .ne 7, 3) := by decide +kernel
theorem dX12_luck_23 : decode cX12_luck 23 = .ok (.ldc2_w 415, 3) := by decide +kernel
theorem dX12_luck_26 : decode cX12_luck 26 = .ok (.lreturn, 1) := by decide +kernel
theorem dX12_luck_27 : decode cX12_luck 27 = .ok (.iconst 0, 1) := by decide +kernel
theorem dX12_luck_28 : decode cX12_luck 28 = .ok (.istore 4, 2) := by decide +kernel
theorem dX12_luck_30 : decode cX12_luck 30 = .ok (.iload 4, 2) := by decide +kernel
theorem dX12_luck_32 : decode cX12_luck 32 = .ok (.sipush 4096, 3) := by decide +kernel
theorem dX12_luck_35 : decode cX12_luck 35 = .ok (.iload_n 2, 1) := by decide +kernel
theorem dX12_luck_36 : decode cX12_luck 36 = .ok (.iconst 1, 1) := by decide +kernel
theorem dX12_luck_37 : decode cX12_luck 37 = .ok (.iadd, 1) := by decide +kernel
theorem dX12_luck_38 : decode cX12_luck 38 = .ok (.imul, 1) := by decide +kernel
theorem dX12_luck_39 : decode cX12_luck 39 = .ok (.if_icmp .ge 17, 3) := by decide +kernel
theorem dX12_luck_42 : decode cX12_luck 42 = .ok (.aload_n 0, 1) := by decide +kernel
theorem dX12_luck_43 : decode cX12_luck 43 = .ok (.getfield 80, 3) := by decide +kernel
theorem dX12_luck_46 : decode cX12_luck 46 = .ok (.iload 4, 2) := by decide +kernel
theorem dX12_luck_48 : decode cX12_luck 48 = .ok (.lconst 0, 1) := by decide +kernel
theorem dX12_luck_49 : decode cX12_luck 49 = .ok (.lastore, 1) := by decide +kernel
theorem dX12_luck_50 : decode cX12_luck 50 = .ok (.iinc 4 1, 3) := by decide +kernel
theorem dX12_luck_53 : decode cX12_luck 53 = .ok (.goto (-23), 3) := by decide +kernel
theorem dX12_luck_56 : decode cX12_luck 56 = .ok (.aload_n 0, 1) := by decide +kernel
theorem dX12_luck_57 : decode cX12_luck 57 = .ok (.getfield 80, 3) := by decide +kernel
theorem dX12_luck_60 : decode cX12_luck 60 = .ok (.aload_n 0, 1) := by decide +kernel
theorem dX12_luck_61 : decode cX12_luck 61 = .ok (.getfield 252, 3) := by decide +kernel
theorem dX12_luck_64 : decode cX12_luck 64 = .ok (.lconst 1, 1) := by decide +kernel
theorem dX12_luck_65 : decode cX12_luck 65 = .ok (.lastore, 1) := by decide +kernel
theorem dX12_luck_66 : decode cX12_luck 66 = .ok (.iconst 0, 1) := by decide +kernel
theorem dX12_luck_67 : decode cX12_luck 67 = .ok (.istore 4, 2) := by decide +kernel
theorem dX12_luck_69 : decode cX12_luck 69 = .ok (.iload 4, 2) := by decide +kernel
theorem dX12_luck_71 : decode cX12_luck 71 = .ok (.sipush 4096, 3) := by decide +kernel
theorem dX12_luck_74 : decode cX12_luck 74 = .ok (.iload_n 2, 1) := by decide +kernel
theorem dX12_luck_75 : decode cX12_luck 75 = .ok (.imul, 1) := by decide +kernel
theorem dX12_luck_76 : decode cX12_luck 76 = .ok (.if_icmp .ge 111, 3) := by decide +kernel
theorem dX12_luck_79 : decode cX12_luck 79 = .ok (.iconst 0, 1) := by decide +kernel
theorem dX12_luck_80 : decode cX12_luck 80 = .ok (.istore 5, 2) := by decide +kernel
theorem dX12_luck_82 : decode cX12_luck 82 = .ok (.iload 5, 2) := by decide +kernel
theorem dX12_luck_84 : decode cX12_luck 84 = .ok (.aload_n 0, 1) := by decide +kernel
theorem dX12_luck_85 : decode cX12_luck 85 = .ok (.getfield 249, 3) := by decide +kernel
theorem dX12_luck_88 : decode cX12_luck 88 = .ok (.if_icmp .gt 93, 3) := by decide +kernel
theorem dX12_luck_91 : decode cX12_luck 91 = .ok (.aload_n 0, 1) := by decide +kernel
theorem dX12_luck_92 : decode cX12_luck 92 = .ok (.getfield 80, 3) := by decide +kernel
theorem dX12_luck_95 : decode cX12_luck 95 = .ok (.iload 4, 2) := by decide +kernel
theorem dX12_luck_97 : decode cX12_luck 97 = .ok (.laload, 1) := by decide +kernel
theorem dX12_luck_98 : decode cX12_luck 98 = .ok (.lconst 0, 1) := by decide +kernel
theorem dX12_luck_99 : decode cX12_luck 99 = .ok (.lcmp, 1) := by decide +kernel
theorem dX12_luck_100 : decode cX12_luck 100 = .ok (.ifCond .le 81, 3) := by decide +kernel
theorem dX12_luck_103 : decode cX12_luck 103 = .ok (.aload_n 0, 1) := by decide +kernel
theorem dX12_luck_104 : decode cX12_luck 104 = .ok (.iload 4, 2) := by decide +kernel
theorem dX12_luck_106 : decode cX12_luck 106 = .ok (.sipush 4096, 3) := by decide +kernel
theorem dX12_luck_109 : decode cX12_luck 109 = .ok (.irem, 1) := by decide +kernel
theorem dX12_luck_110 : decode cX12_luck 110 = .ok (.iload 5, 2) := by decide +kernel
theorem dX12_luck_112 : decode cX12_luck 112 = .ok (.invokevirtual 335, 3) := by decide +kernel
theorem dX12_luck_115 : decode cX12_luck 115 = .ok (.istore 6, 2) := by decide +kernel
theorem dX12_luck_117 : decode cX12_luck 117 = .ok (.iload 4, 2) := by decide +kernel
theorem dX12_luck_119 : decode cX12_luck 119 = .ok (.sipush 4096, 3) := by decide +kernel
theorem dX12_luck_122 : decode cX12_luck 122 = .ok (.idiv, 1) := by decide +kernel
theorem dX12_luck_123 : decode cX12_luck 123 = .ok (.iload 6, 2) := by decide +kernel
theorem dX12_luck_125 : decode cX12_luck 125 = .ok (.iadd, 1) := by decide +kernel
theorem dX12_luck_126 : decode cX12_luck 126 = .ok (.istore 7, 2) := by decide +kernel
theorem dX12_luck_128 : decode cX12_luck 128 = .ok (.iload 6, 2) := by decide +kernel
theorem dX12_luck_130 : decode cX12_luck 130 = .ok (.ifCond .le 45, 3) := by decide +kernel
theorem dX12_luck_133 : decode cX12_luck 133 = .ok (.iload 7, 2) := by decide +kernel
theorem dX12_luck_135 : decode cX12_luck 135 = .ok (.iload_n 2, 1) := by decide +kernel
theorem dX12_luck_136 : decode cX12_luck 136 = .ok (.if_icmp .gt 39, 3) := by decide +kernel
theorem dX12_luck_139 : decode cX12_luck 139 = .ok (.aload_n 0, 1) := by decide +kernel
theorem dX12_luck_140 : decode cX12_luck 140 = .ok (.getfield 80, 3) := by decide +kernel
theorem dX12_luck_143 : decode cX12_luck 143 = .ok (.sipush 4096, 3) := by decide +kernel
theorem dX12_luck_146 : decode cX12_luck 146 = .ok (.iload 7, 2) := by decide +kernel
theorem dX12_luck_148 : decode cX12_luck 148 = .ok (.imul, 1) := by decide +kernel
theorem dX12_luck_149 : decode cX12_luck 149 = .ok (.aload_n 0, 1) := by decide +kernel
theorem dX12_luck_150 : decode cX12_luck 150 = .ok (.getfield 332, 3) := by decide +kernel
theorem dX12_luck_153 : decode cX12_luck 153 = .ok (.iadd, 1) := by decide +kernel
theorem dX12_luck_154 : decode cX12_luck 154 = .ok (.dup2, 1) := by decide +kernel
theorem dX12_luck_155 : decode cX12_luck 155 = .ok (.laload, 1) := by decide +kernel
theorem dX12_luck_156 : decode cX12_luck 156 = .ok (.aload_n 0, 1) := by decide +kernel
theorem dX12_luck_157 : decode cX12_luck 157 = .ok (.getfield 80, 3) := by decide +kernel
theorem dX12_luck_160 : decode cX12_luck 160 = .ok (.iload 4, 2) := by decide +kernel
theorem dX12_luck_162 : decode cX12_luck 162 = .ok (.laload, 1) := by decide +kernel
theorem dX12_luck_163 : decode cX12_luck 163 = .ok (.aload_n 0, 1) := by decide +kernel
theorem dX12_luck_164 : decode cX12_luck 164 = .ok (.getfield 259, 3) := by decide +kernel
theorem dX12_luck_167 : decode cX12_luck 167 = .ok (.iload 6, 2) := by decide +kernel
theorem dX12_luck_169 : decode cX12_luck 169 = .ok (.iconst 1, 1) := by decide +kernel
theorem dX12_luck_170 : decode cX12_luck 170 = .ok (.isub, 1) := by decide +kernel
theorem dX12_luck_171 : decode cX12_luck 171 = .ok (.imul, 1) := by decide +kernel
theorem dX12_luck_172 : decode cX12_luck 172 = .ok (.lshl, 1) := by decide +kernel
theorem dX12_luck_173 : decode cX12_luck 173 = .ok (.ladd, 1) := by decide +kernel
theorem dX12_luck_174 : decode cX12_luck 174 = .ok (.lastore, 1) := by decide +kernel
theorem dX12_luck_175 : decode cX12_luck 175 = .ok (.iinc 5 1, 3) := by decide +kernel
theorem dX12_luck_178 : decode cX12_luck 178 = .ok (.goto (-96), 3) := by decide +kernel
theorem dX12_luck_181 : decode cX12_luck 181 = .ok (.iinc 4 1, 3) := by decide +kernel
theorem dX12_luck_184 : decode cX12_luck 184 = .ok (.goto (-115), 3) := by decide +kernel
theorem dX12_luck_187 : decode cX12_luck 187 = .ok (.lconst 0, 1) := by decide +kernel
theorem dX12_luck_188 : decode cX12_luck 188 = .ok (.lstore 4, 2) := by decide +kernel
theorem dX12_luck_190 : decode cX12_luck 190 = .ok (.iconst 0, 1) := by decide +kernel
theorem dX12_luck_191 : decode cX12_luck 191 = .ok (.istore 6, 2) := by decide +kernel
theorem dX12_luck_193 : decode cX12_luck 193 = .ok (.iload 6, 2) := by decide +kernel
theorem dX12_luck_195 : decode cX12_luck 195 = .ok (.sipush 4096, 3) := by decide +kernel
theorem dX12_luck_198 : decode cX12_luck 198 = .ok (.if_icmp .ge 27, 3) := by decide +kernel
theorem dX12_luck_201 : decode cX12_luck 201 = .ok (.lload 4, 2) := by decide +kernel
theorem dX12_luck_203 : decode cX12_luck 203 = .ok (.aload_n 0, 1) := by decide +kernel
theorem dX12_luck_204 : decode cX12_luck 204 = .ok (.getfield 80, 3) := by decide +kernel
theorem dX12_luck_207 : decode cX12_luck 207 = .ok (.sipush 4096, 3) := by decide +kernel
theorem dX12_luck_210 : decode cX12_luck 210 = .ok (.iload_n 2, 1) := by decide +kernel
theorem dX12_luck_211 : decode cX12_luck 211 = .ok (.imul, 1) := by decide +kernel
theorem dX12_luck_212 : decode cX12_luck 212 = .ok (.iload 6, 2) := by decide +kernel
theorem dX12_luck_214 : decode cX12_luck 214 = .ok (.iadd, 1) := by decide +kernel
theorem dX12_luck_215 : decode cX12_luck 215 = .ok (.laload, 1) := by decide +kernel
theorem dX12_luck_216 : decode cX12_luck 216 = .ok (.ladd, 1) := by decide +kernel
theorem dX12_luck_217 : decode cX12_luck 217 = .ok (.lstore 4, 2) := by decide +kernel
theorem dX12_luck_219 : decode cX12_luck 219 = .ok (.iinc 6 1, 3) := by decide +kernel
theorem dX12_luck_222 : decode cX12_luck 222 = .ok (.goto (-29), 3) := by decide +kernel
theorem dX12_luck_225 : decode cX12_luck 225 = .ok (.lload 4, 2) := by decide +kernel
theorem dX12_luck_227 : decode cX12_luck 227 = .ok (.lconst 1, 1) := by decide +kernel
theorem dX12_luck_228 : decode cX12_luck 228 = .ok (.aload_n 0, 1) := by decide +kernel
theorem dX12_luck_229 : decode cX12_luck 229 = .ok (.getfield 259, 3) := by decide +kernel
theorem dX12_luck_232 : decode cX12_luck 232 = .ok (.iload_n 2, 1) := by decide +kernel
theorem dX12_luck_233 : decode cX12_luck 233 = .ok (.imul, 1) := by decide +kernel
theorem dX12_luck_234 : decode cX12_luck 234 = .ok (.lshl, 1) := by decide +kernel
theorem dX12_luck_235 : decode cX12_luck 235 = .ok (.iload_n 3, 1) := by decide +kernel
theorem dX12_luck_236 : decode cX12_luck 236 = .ok (.invokestatic 417, 3) := by decide +kernel
theorem dX12_luck_239 : decode cX12_luck 239 = .ok (.lreturn, 1) := by decide +kernel
theorem dX12_sixteens_0 : decode cX12_sixteens 0 = .ok (.iconst 1, 1) := by decide +kernel
theorem dX12_sixteens_1 : decode cX12_sixteens 1 = .ok (.iconst 4, 1) := by decide +kernel
theorem dX12_sixteens_2 : decode cX12_sixteens 2 = .ok (.iload_n 0, 1) := by decide +kernel
theorem dX12_sixteens_3 : decode cX12_sixteens 3 = .ok (.imul, 1) := by decide +kernel
theorem dX12_sixteens_4 : decode cX12_sixteens 4 = .ok (.ishl, 1) := by decide +kernel
theorem dX12_sixteens_5 : decode cX12_sixteens 5 = .ok (.ireturn, 1) := by decide +kernel
set_option maxRecDepth 20000 in
theorem ggX12_endOf_X12_next : GoodIn wsX12_endOf wsX12_next := goodIn_r _ [8, 9, 10, 3, 11, 12, 7, 13, 14, 15, 16, 17, 18, 19, 20, 21, 22, 23, 24, 25, 26, 27, 28, 29, 30, 31, 32, 33, 34, 35, 36, 37, 38, 39, 40, 41, 42, 43, 44, 45, 46, 47, 48, 49, 50, 51, 52, 53, 54, 55, 56, 57, 58, 59, 60, 61, 62, 63, 64, 65, 66, 67, 68, 69, 70, 71, 72, 73, 74, 75, 76, 77] (by decide +kernel) (by decide +kernel)
set_option maxRecDepth 20000 in
theorem gX12_endOf_X12_next : GoodIn wsX12_endOf (wsV RX12 335 RX12 yX12_next wsX12_next) := goodIn_app (goodIn_of _ (by decide +kernel)) ggX12_endOf_X12_next
theorem dX12_endOf_0 : decode cX12_endOf 0 = .ok (.aload_n 0, 1) := by decide +kernel
theorem dX12_endOf_1 : decode cX12_endOf 1 = .ok (.getfield 252, 3) := by decide +kernel
theorem dX12_endOf_4 : decode cX12_endOf 4 = .ok (.istore_n 3, 1) := by decide +kernel
theorem dX12_endOf_5 : decode cX12_endOf 5 = .ok (.iconst 0, 1) := by decide +kernel
theorem dX12_endOf_6 : decode cX12_endOf 6 = .ok (.istore 4, 2) := by decide +kernel
theorem dX12_endOf_8 : decode cX12_endOf 8 = .ok (.iconst 1, 1) := by decide +kernel
theorem dX12_endOf_9 : decode cX12_endOf 9 = .ok (.istore 5, 2) := by decide +kernel
theorem dX12_endOf_11 : decode cX12_endOf 11 = .ok (.iconst 0, 1) := by decide +kernel
theorem dX12_endOf_12 : decode cX12_endOf 12 = .ok (.istore 6, 2) := by decide +kernel
theorem dX12_endOf_14 : decode cX12_endOf 14 = .ok (.iload 6, 2) := by decide +kernel
theorem dX12_endOf_16 : decode cX12_endOf 16 = .ok (.iload_n 1, 1) := by decide +kernel
theorem dX12_endOf_17 : decode cX12_endOf 17 = .ok (.if_icmp .ge 89, 3) := by decide +kernel
theorem dX12_endOf_20 : decode cX12_endOf 20 = .ok (.iload_n 2, 1) := by decide +kernel
theorem dX12_endOf_21 : decode cX12_endOf 21 = .ok (.iconst 4, 1) := by decide +kernel
theorem dX12_endOf_22 : decode cX12_endOf 22 = .ok (.iload_n 1, 1) := by decide +kernel
theorem dX12_endOf_23 : decode cX12_endOf 23 = .ok (.iconst 1, 1) := by decide +kernel
theorem dX12_endOf_24 : decode cX12_endOf 24 = .ok (.isub, 1) := by decide +kernel
theorem dX12_endOf_25 : decode cX12_endOf 25 = .ok (.iload 6, 2) := by decide +kernel
theorem dX12_endOf_27 : decode cX12_endOf 27 = .ok (.isub, 1) := by decide +kernel
theorem dX12_endOf_28 : decode cX12_endOf 28 = .ok (.imul, 1) := by decide +kernel
theorem dX12_endOf_29 : decode cX12_endOf 29 = .ok (.ishr, 1) := by decide +kernel
theorem dX12_endOf_30 : decode cX12_endOf 30 = .ok (.bipush 15, 2) := by decide +kernel
theorem dX12_endOf_32 : decode cX12_endOf 32 = .ok (.iand, 1) := by decide +kernel
theorem dX12_endOf_33 : decode cX12_endOf 33 = .ok (.istore 7, 2) := by decide +kernel
theorem dX12_endOf_35 : decode cX12_endOf 35 = .ok (.iload 7, 2) := by decide +kernel
theorem dX12_endOf_37 : decode cX12_endOf 37 = .ok (.aload_n 0, 1) := by decide +kernel
theorem dX12_endOf_38 : decode cX12_endOf 38 = .ok (.getfield 249, 3) := by decide +kernel
theorem dX12_endOf_41 : decode cX12_endOf 41 = .ok (.iconst (-1), 1) := by decide +kernel
theorem dX12_endOf_42 : decode cX12_endOf 42 = .ok (.ixor, 1) := by decide +kernel
theorem dX12_endOf_43 : decode cX12_endOf 43 = .ok (.iand, 1) := by decide +kernel
theorem dX12_endOf_44 : decode cX12_endOf 44 = .ok (.ifCond .eq 5, 3) := by decide +kernel
theorem dX12_endOf_47 : decode cX12_endOf 47 = .ok (.iconst (-1), 1) := by decide +kernel
theorem dX12_endOf_48 : decode cX12_endOf 48 = .ok (.ireturn, 1) := by decide +kernel
theorem dX12_endOf_49 : decode cX12_endOf 49 = .ok (.iload 5, 2) := by decide +kernel
theorem dX12_endOf_51 : decode cX12_endOf 51 = .ok (.ifCond .eq 13, 3) := by decide +kernel
theorem dX12_endOf_54 : decode cX12_endOf 54 = .ok (.aload_n 0, 1) := by decide +kernel
theorem dX12_endOf_55 : decode cX12_endOf 55 = .ok (.iload_n 3, 1) := by decide +kernel
theorem dX12_endOf_56 : decode cX12_endOf 56 = .ok (.iload 7, 2) := by decide +kernel
theorem dX12_endOf_58 : decode cX12_endOf 58 = .ok (.invokevirtual 335, 3) := by decide +kernel
theorem dX12_endOf_61 : decode cX12_endOf 61 = .ok (.goto 4, 3) := by decide +kernel
theorem dX12_endOf_64 : decode cX12_endOf 64 = .ok (.iconst 0, 1) := by decide +kernel
theorem dX12_endOf_65 : decode cX12_endOf 65 = .ok (.istore 8, 2) := by decide +kernel
theorem dX12_endOf_67 : decode cX12_endOf 67 = .ok (.iload 8, 2) := by decide +kernel
theorem dX12_endOf_69 : decode cX12_endOf 69 = .ok (.ifCond .le 7, 3) := by decide +kernel
theorem dX12_endOf_72 : decode cX12_endOf 72 = .ok (.iconst 1, 1) := by decide +kernel
theorem dX12_endOf_73 : decode cX12_endOf 73 = .ok (.goto 4, 3) := by decide +kernel
theorem dX12_endOf_76 : decode cX12_endOf 76 = .ok (.iconst 0, 1) := by decide +kernel
theorem dX12_endOf_77 : decode cX12_endOf 77 = .ok (.istore 5, 2) := by decide +kernel
theorem dX12_endOf_79 : decode cX12_endOf 79 = .ok (.iload 4, 2) := by decide +kernel
theorem dX12_endOf_81 : decode cX12_endOf 81 = .ok (.iload 8, 2) := by decide +kernel
theorem dX12_endOf_83 : decode cX12_endOf 83 = .ok (.iadd, 1) := by decide +kernel
theorem dX12_endOf_84 : decode cX12_endOf 84 = .ok (.istore 4, 2) := by decide +kernel
theorem dX12_endOf_86 : decode cX12_endOf 86 = .ok (.iload 5, 2) := by decide +kernel
theorem dX12_endOf_88 : decode cX12_endOf 88 = .ok (.ifCond .eq 10, 3) := by decide +kernel
theorem dX12_endOf_91 : decode cX12_endOf 91 = .ok (.aload_n 0, 1) := by decide +kernel
theorem dX12_endOf_92 : decode cX12_endOf 92 = .ok (.getfield 332, 3) := by decide +kernel
theorem dX12_endOf_95 : decode cX12_endOf 95 = .ok (.goto 4, 3) := by decide +kernel
theorem dX12_endOf_98 : decode cX12_endOf 98 = .ok (.iload_n 3, 1) := by decide +kernel
theorem dX12_endOf_99 : decode cX12_endOf 99 = .ok (.istore_n 3, 1) := by decide +kernel
theorem dX12_endOf_100 : decode cX12_endOf 100 = .ok (.iinc 6 1, 3) := by decide +kernel
theorem dX12_endOf_103 : decode cX12_endOf 103 = .ok (.goto (-89), 3) := by decide +kernel
theorem dX12_endOf_106 : decode cX12_endOf 106 = .ok (.iload 4, 2) := by decide +kernel
theorem dX12_endOf_108 : decode cX12_endOf 108 = .ok (.ireturn, 1) := by decide +kernel
theorem dX12_fold_0 : decode cX12_fold 0 = .ok (.iconst (-1), 1) := by decide +kernel
theorem dX12_fold_1 : decode cX12_fold 1 = .ok (.istore_n 3, 1) := by decide +kernel
theorem dX12_fold_2 : decode cX12_fold 2 = .ok (.aload_n 0, 1) := by decide +kernel
theorem dX12_fold_3 : decode cX12_fold 3 = .ok (.iconst (-1), 1) := by decide +kernel
theorem dX12_fold_4 : decode cX12_fold 4 = .ok (.putfield 421, 3) := by decide +kernel
theorem dX12_fold_7 : decode cX12_fold 7 = .ok (.iconst 0, 1) := by decide +kernel
theorem dX12_fold_8 : decode cX12_fold 8 = .ok (.istore 4, 2) := by decide +kernel
theorem dX12_fold_10 : decode cX12_fold 10 = .ok (.iload 4, 2) := by decide +kernel
theorem dX12_fold_12 : decode cX12_fold 12 = .ok (.bipush 16, 2) := by decide +kernel
theorem dX12_fold_14 : decode cX12_fold 14 = .ok (.if_icmp .ge 59, 3) := by decide +kernel
theorem dX12_fold_17 : decode cX12_fold 17 = .ok (.aload_n 0, 1) := by decide +kernel
theorem dX12_fold_18 : decode cX12_fold 18 = .ok (.getfield 85, 3) := by decide +kernel
theorem dX12_fold_21 : decode cX12_fold 21 = .ok (.iload_n 1, 1) := by decide +kernel
theorem dX12_fold_22 : decode cX12_fold 22 = .ok (.iload 4, 2) := by decide +kernel
theorem dX12_fold_24 : decode cX12_fold 24 = .ok (.iadd, 1) := by decide +kernel
theorem dX12_fold_25 : decode cX12_fold 25 = .ok (.iaload, 1) := by decide +kernel
theorem dX12_fold_26 : decode cX12_fold 26 = .ok (.istore 5, 2) := by decide +kernel
theorem dX12_fold_28 : decode cX12_fold 28 = .ok (.iload 5, 2) := by decide +kernel
theorem dX12_fold_30 : decode cX12_fold 30 = .ok (.iconst (-1), 1) := by decide +kernel
theorem dX12_fold_31 : decode cX12_fold 31 = .ok (.if_icmp .eq 36, 3) := by decide +kernel
theorem dX12_fold_34 : decode cX12_fold 34 = .ok (.iload_n 3, 1) := by decide +kernel
theorem dX12_fold_35 : decode cX12_fold 35 = .ok (.iconst (-1), 1) := by decide +kernel
theorem dX12_fold_36 : decode cX12_fold 36 = .ok (.if_icmp .eq 22, 3) := by decide +kernel
theorem dX12_fold_39 : decode cX12_fold 39 = .ok (.iload_n 2, 1) := by decide +kernel
theorem dX12_fold_40 : decode cX12_fold 40 = .ok (.ifCond .eq 12, 3) := by decide +kernel
theorem dX12_fold_43 : decode cX12_fold 43 = .ok (.iload 5, 2) := by decide +kernel
theorem dX12_fold_45 : decode cX12_fold 45 = .ok (.iload_n 3, 1) := by decide +kernel
theorem dX12_fold_46 : decode cX12_fold 46 = .ok (.if_icmp .le 21, 3) := by decide +kernel
theorem dX12_fold_49 : decode cX12_fold 49 = .ok (.goto 9, 3) := by decide +kernel
theorem dX12_fold_52 : decode cX12_fold 52 = .ok (.iload 5, 2) := by decide +kernel
theorem dX12_fold_54 : decode cX12_fold 54 = .ok (.iload_n 3, 1) := by decide +kernel
theorem dX12_fold_55 : decode cX12_fold 55 = .ok (.if_icmp .ge 12, 3) := by decide +kernel
theorem dX12_fold_58 : decode cX12_fold 58 = .ok (.iload 5, 2) := by decide +kernel
theorem dX12_fold_60 : decode cX12_fold 60 = .ok (.istore_n 3, 1) := by decide +kernel
theorem dX12_fold_61 : decode cX12_fold 61 = .ok (.aload_n 0, 1) := by decide +kernel
theorem dX12_fold_62 : decode cX12_fold 62 = .ok (.iload 4, 2) := by decide +kernel
theorem dX12_fold_64 : decode cX12_fold 64 = .ok (.putfield 421, 3) := by decide +kernel
theorem dX12_fold_67 : decode cX12_fold 67 = .ok (.iinc 4 1, 3) := by decide +kernel
theorem dX12_fold_70 : decode cX12_fold 70 = .ok (.goto (-60), 3) := by decide +kernel
theorem dX12_fold_73 : decode cX12_fold 73 = .ok (.iload_n 3, 1) := by decide +kernel
theorem dX12_fold_74 : decode cX12_fold 74 = .ok (.ireturn, 1) := by decide +kernel
set_option maxRecDepth 20000 in
theorem ggX12_duel_X12_in : GoodIn wsX12_duel wsX12_in := goodIn_r _ [7] (by decide +kernel) (by decide +kernel)
set_option maxRecDepth 20000 in
theorem gX12_duel_X12_in : GoodIn wsX12_duel (va_wsS RX12 110 yX12_in wsX12_in) := goodIn_app (goodIn_of _ (by decide +kernel)) ggX12_duel_X12_in
set_option maxRecDepth 20000 in
theorem ggX12_duel_X12_hand : GoodIn wsX12_duel wsX12_hand := goodIn_r _ [11, 12, 13, 14, 15, 16, 6, 17, 18, 4, 5, 7, 19, 20, 21, 22, 23, 24, 25, 26, 27, 28, 29, 30, 31, 32, 33, 34, 55, 56, 57, 58, 59, 60, 61, 62, 63, 64, 65, 66, 67, 68, 69, 70, 71, 72, 73, 74, 75, 76, 77, 78, 79, 80, 81, 82, 83, 84, 85, 86, 87, 88, 89, 90, 91, 92, 93, 94, 95, 96, 97, 98, 99, 100, 101, 102, 103, 104, 105, 106, 107, 108, 109, 110, 111, 112, 113, 114, 115] (by decide +kernel) (by decide +kernel)
set_option maxRecDepth 20000 in
theorem gX12_duel_X12_hand : GoodIn wsX12_duel (wsV RX12 265 RX12 yX12_hand wsX12_hand) := goodIn_app (goodIn_of _ (by decide +kernel)) ggX12_duel_X12_hand
set_option maxRecDepth 20000 in
theorem ggX12_duel_X12_sixteens : GoodIn wsX12_duel wsX12_sixteens := goodIn_r _ [37] (by decide +kernel) (by decide +kernel)
set_option maxRecDepth 20000 in
theorem gX12_duel_X12_sixteens : GoodIn wsX12_duel (va_wsS RX12 424 yX12_sixteens wsX12_sixteens) := goodIn_app (goodIn_of _ (by decide +kernel)) ggX12_duel_X12_sixteens
set_option maxRecDepth 20000 in
theorem ggX12_duel_X12_endOf : GoodIn wsX12_duel wsX12_endOf := goodIn_r _ [41, 29, 28, 42, 43, 44, 45, 6, 46, 47, 30, 32, 33, 34, 48, 49, 50, 55, 56, 57, 58, 59, 60, 61, 62, 63, 64, 65, 66, 67, 68, 69, 70, 71, 72, 73, 74, 75, 76, 77, 78, 79, 80, 81, 82, 83, 84, 85, 86, 87, 88, 89, 90, 91, 92, 93, 94, 95, 96, 97, 98, 99, 100, 101, 102, 103, 104, 105, 106, 107, 108, 109, 110, 111, 112, 113, 114, 115] (by decide +kernel) (by decide +kernel)
set_option maxRecDepth 20000 in
theorem gX12_duel_X12_endOf : GoodIn wsX12_duel (wsV RX12 427 RX12 yX12_endOf wsX12_endOf) := goodIn_app (goodIn_of _ (by decide +kernel)) ggX12_duel_X12_endOf
set_option maxRecDepth 20000 in
theorem ggX12_duel_X12_fold : GoodIn wsX12_duel wsX12_fold := goodIn_r _ [54, 3, 2, 55, 56, 57, 58, 59, 60, 61, 62, 63, 64, 65, 66, 67, 68, 69, 70, 71, 72, 73, 74, 75, 76, 77, 78, 79, 80, 81, 82, 83, 84, 85, 86, 87, 88, 89, 90, 91, 92, 93, 94, 95, 96, 97, 98, 99, 100, 101, 102, 103, 104, 105, 106, 107, 108, 109, 110, 111, 112, 113, 114, 115] (by decide +kernel) (by decide +kernel)
set_option maxRecDepth 20000 in
theorem gX12_duel_X12_fold : GoodIn wsX12_duel (wsV RX12 430 RX12 yX12_fold wsX12_fold) := goodIn_app (goodIn_of _ (by decide +kernel)) ggX12_duel_X12_fold
theorem dX12_duel_0 : decode cX12_duel 0 = .ok (.aload_n 0, 1) := by decide +kernel
theorem dX12_duel_1 : decode cX12_duel 1 = .ok (.iconst 0, 1) := by decide +kernel
theorem dX12_duel_2 : decode cX12_duel 2 = .ok (.putfield 98, 3) := by decide +kernel
theorem dX12_duel_5 : decode cX12_duel 5 = .ok (.iload_n 2, 1) := by decide +kernel
theorem dX12_duel_6 : decode cX12_duel 6 = .ok (.iconst 0, 1) := by decide +kernel
theorem dX12_duel_7 : decode cX12_duel 7 = .ok (.iconst 4, 1) := by decide +kernel
theorem dX12_duel_8 : decode cX12_duel 8 = .ok (.invokestatic 110, 3) := by decide +kernel
theorem dX12_duel_11 : decode cX12_duel 11 = .ok (.ifCond .eq 11, 3) := by decide +kernel
theorem dX12_duel_14 : decode cX12_duel 14 = .ok (.aload_n 0, 1) := by decide +kernel
theorem dX12_duel_15 : decode cX12_duel 15 = .ok (.iload_n 1, 1) := by decide +kernel
theorem dX12_duel_16 : decode cX12_duel 16 = .ok (.invokevirtual 265, 3) := by decide +kernel
theorem dX12_duel_19 : decode cX12_duel 19 = .ok (.ifCond .ne 6, 3) := by decide +kernel
theorem dX12_duel_22 : decode cX12_duel 22 = .ok (.bipush (-9), 2) := by decide +kernel
theorem dX12_duel_24 : decode cX12_duel 24 = .ok (.ireturn, 1) := by decide +kernel
theorem dX12_duel_25 : decode cX12_duel 25 = .ok (.iload_n 2, 1) := by decide +kernel
theorem dX12_duel_26 : decode cX12_duel 26 = .ok (.invokestatic 424, 3) := by decide +kernel
theorem dX12_duel_29 : decode cX12_duel 29 = .ok (.istore 4, 2) := by decide +kernel
theorem dX12_duel_31 : decode cX12_duel 31 = .ok (.iconst 0, 1) := by decide +kernel
theorem dX12_duel_32 : decode cX12_duel 32 = .ok (.istore 5, 2) := by decide +kernel
theorem dX12_duel_34 : decode cX12_duel 34 = .ok (.iload 5, 2) := by decide +kernel
theorem dX12_duel_36 : decode cX12_duel 36 = .ok (.iload 4, 2) := by decide +kernel
theorem dX12_duel_38 : decode cX12_duel 38 = .ok (.if_icmp .ge 23, 3) := by decide +kernel
theorem dX12_duel_41 : decode cX12_duel 41 = .ok (.aload_n 0, 1) := by decide +kernel
theorem dX12_duel_42 : decode cX12_duel 42 = .ok (.getfield 85, 3) := by decide +kernel
theorem dX12_duel_45 : decode cX12_duel 45 = .ok (.iload 5, 2) := by decide +kernel
theorem dX12_duel_47 : decode cX12_duel 47 = .ok (.aload_n 0, 1) := by decide +kernel
theorem dX12_duel_48 : decode cX12_duel 48 = .ok (.iload_n 2, 1) := by decide +kernel
theorem dX12_duel_49 : decode cX12_duel 49 = .ok (.iload 5, 2) := by decide +kernel
theorem dX12_duel_51 : decode cX12_duel 51 = .ok (.invokevirtual 427, 3) := by decide +kernel
theorem dX12_duel_54 : decode cX12_duel 54 = .ok (.iastore, 1) := by decide +kernel
theorem dX12_duel_55 : decode cX12_duel 55 = .ok (.iinc 5 1, 3) := by decide +kernel
theorem dX12_duel_58 : decode cX12_duel 58 = .ok (.goto (-24), 3) := by decide +kernel
theorem dX12_duel_61 : decode cX12_duel 61 = .ok (.aload_n 0, 1) := by decide +kernel
theorem dX12_duel_62 : decode cX12_duel 62 = .ok (.iconst (-1), 1) := by decide +kernel
theorem dX12_duel_63 : decode cX12_duel 63 = .ok (.putfield 421, 3) := by decide +kernel
theorem dX12_duel_66 : decode cX12_duel 66 = .ok (.iload_n 2, 1) := by decide +kernel
theorem dX12_duel_67 : decode cX12_duel 67 = .ok (.iconst 1, 1) := by decide +kernel
theorem dX12_duel_68 : decode cX12_duel 68 = .ok (.isub, 1) := by decide +kernel
theorem dX12_duel_69 : decode cX12_duel 69 = .ok (.istore 5, 2) := by decide +kernel
theorem dX12_duel_71 : decode cX12_duel 71 = .ok (.iload 5, 2) := by decide +kernel
theorem dX12_duel_73 : decode cX12_duel 73 = .ok (.ifCond .lt 60, 3) := by decide +kernel
theorem dX12_duel_76 : decode cX12_duel 76 = .ok (.iload 4, 2) := by decide +kernel
theorem dX12_duel_78 : decode cX12_duel 78 = .ok (.bipush 16, 2) := by decide +kernel
theorem dX12_duel_80 : decode cX12_duel 80 = .ok (.idiv, 1) := by decide +kernel
theorem dX12_duel_81 : decode cX12_duel 81 = .ok (.istore 4, 2) := by decide +kernel
theorem dX12_duel_83 : decode cX12_duel 83 = .ok (.iconst 0, 1) := by decide +kernel
theorem dX12_duel_84 : decode cX12_duel 84 = .ok (.istore 6, 2) := by decide +kernel
theorem dX12_duel_86 : decode cX12_duel 86 = .ok (.iload 6, 2) := by decide +kernel
theorem dX12_duel_88 : decode cX12_duel 88 = .ok (.iload 4, 2) := by decide +kernel
theorem dX12_duel_90 : decode cX12_duel 90 = .ok (.if_icmp .ge 37, 3) := by decide +kernel
theorem dX12_duel_93 : decode cX12_duel 93 = .ok (.aload_n 0, 1) := by decide +kernel
theorem dX12_duel_94 : decode cX12_duel 94 = .ok (.getfield 85, 3) := by decide +kernel
theorem dX12_duel_97 : decode cX12_duel 97 = .ok (.iload 6, 2) := by decide +kernel
theorem dX12_duel_99 : decode cX12_duel 99 = .ok (.aload_n 0, 1) := by decide +kernel
theorem dX12_duel_100 : decode cX12_duel 100 = .ok (.bipush 16, 2) := by decide +kernel
theorem dX12_duel_102 : decode cX12_duel 102 = .ok (.iload 6, 2) := by decide +kernel
theorem dX12_duel_104 : decode cX12_duel 104 = .ok (.imul, 1) := by decide +kernel
theorem dX12_duel_105 : decode cX12_duel 105 = .ok (.iload 5, 2) := by decide +kernel
theorem dX12_duel_107 : decode cX12_duel 107 = .ok (.iconst 2, 1) := by decide +kernel
theorem dX12_duel_108 : decode cX12_duel 108 = .ok (.irem, 1) := by decide +kernel
theorem dX12_duel_109 : decode cX12_duel 109 = .ok (.ifCond .ne 7, 3) := by decide +kernel
theorem dX12_duel_112 : decode cX12_duel 112 = .ok (.iconst 1, 1) := by decide +kernel
theorem dX12_duel_113 : decode cX12_duel 113 = .ok (.goto 4, 3) := by decide +kernel
theorem dX12_duel_116 : decode cX12_duel 116 = .ok (.iconst 0, 1) := by decide +kernel
theorem dX12_duel_117 : decode cX12_duel 117 = .ok (.invokevirtual 430, 3) := by decide +kernel
theorem dX12_duel_120 : decode cX12_duel 120 = .ok (.iastore, 1) := by decide +kernel
theorem dX12_duel_121 : decode cX12_duel 121 = .ok (.iinc 6 1, 3) := by decide +kernel
theorem dX12_duel_124 : decode cX12_duel 124 = .ok (.goto (-38), 3) := by decide +kernel
theorem dX12_duel_127 : decode cX12_duel 127 = .ok (.iinc 5 (-1), 3) := by decide +kernel
theorem dX12_duel_130 : decode cX12_duel 130 = .ok (.goto (-59), 3) := by decide +kernel
theorem dX12_duel_133 : decode cX12_duel 133 = .ok (.iload_n 3, 1) := by decide +kernel
theorem dX12_duel_134 : decode cX12_duel 134 = .ok (.ifCond .eq 10, 3) := by decide +kernel
theorem dX12_duel_137 : decode cX12_duel 137 = .ok (.aload_n 0, 1) := by decide +kernel
theorem dX12_duel_138 : decode cX12_duel 138 = .ok (.getfield 421, 3) := by decide +kernel
theorem dX12_duel_141 : decode cX12_duel 141 = .ok (.goto 9, 3) := by decide +kernel
theorem dX12_duel_144 : decode cX12_duel 144 = .ok (.aload_n 0, 1) := by decide +kernel
theorem dX12_duel_145 : decode cX12_duel 145 = .ok (.getfield 85, 3) := by decide +kernel
theorem dX12_duel_148 : decode cX12_duel 148 = .ok (.iconst 0, 1) := by decide +kernel
theorem dX12_duel_149 : decode cX12_duel 149 = .ok (.iaload, 1) := by decide +kernel
theorem dX12_duel_150 : decode cX12_duel 150 = .ok (.ireturn, 1) := by decide +kernel
set_option maxRecDepth 20000 in
theorem ggX12_chance_X12_in : GoodIn wsX12_chance wsX12_in := goodIn_r _ [8] (by decide +kernel) (by decide +kernel)
set_option maxRecDepth 20000 in
theorem gX12_chance_X12_in : GoodIn wsX12_chance (va_wsS RX12 110 yX12_in wsX12_in) := goodIn_app (goodIn_of _ (by decide +kernel)) ggX12_chance_X12_in
set_option maxRecDepth 20000 in
theorem ggX12_chance_X12_hand : GoodIn wsX12_chance wsX12_hand := goodIn_r _ [12, 13, 3, 14, 15, 16, 7, 17, 18, 5, 6, 8, 19, 20, 21, 22, 23, 24, 25, 26, 27, 2, 4, 28, 29, 30, 31, 32, 48, 49, 50, 51, 52, 53, 54, 55, 56, 57, 58, 59, 60, 61, 62, 63, 64, 65, 66, 67, 68, 69, 70, 71, 72, 73, 74, 75, 76, 77, 78, 79, 80, 81, 82, 83, 84, 85, 86, 87, 88, 89, 90, 91, 92, 93, 94, 95, 96, 97, 98, 99, 100, 101, 102, 103, 104, 105, 106, 107, 108] (by decide +kernel) (by decide +kernel)
set_option maxRecDepth 20000 in
theorem gX12_chance_X12_hand : GoodIn wsX12_chance (wsV RX12 265 RX12 yX12_hand wsX12_hand) := goodIn_app (goodIn_of _ (by decide +kernel)) ggX12_chance_X12_hand
set_option maxRecDepth 20000 in
theorem ggX12_chance_X12_has : GoodIn wsX12_chance wsX12_has := goodIn_r _ [32] (by decide +kernel) (by decide +kernel)
set_option maxRecDepth 20000 in
theorem gX12_chance_X12_has : GoodIn wsX12_chance (va_wsS RX12 102 yX12_has wsX12_has) := goodIn_app (goodIn_of _ (by decide +kernel)) ggX12_chance_X12_has
set_option maxRecDepth 20000 in
theorem ggX12_chance_X12_next : GoodIn wsX12_chance wsX12_next := goodIn_r _ [36, 37, 28, 38, 30, 31, 7, 32, 39, 40, 41, 48, 49, 50, 51, 52, 53, 54, 55, 56, 57, 58, 59, 60, 61, 62, 63, 64, 65, 66, 67, 68, 69, 70, 71, 72, 73, 74, 75, 76, 77, 78, 79, 80, 81, 82, 83, 84, 85, 86, 87, 88, 89, 90, 91, 92, 93, 94, 95, 96, 97, 98, 99, 100, 101, 102, 103, 104, 105, 106, 107, 108] (by decide +kernel) (by decide +kernel)
set_option maxRecDepth 20000 in
theorem gX12_chance_X12_next : GoodIn wsX12_chance (wsV RX12 335 RX12 yX12_next wsX12_next) := goodIn_app (goodIn_of _ (by decide +kernel)) ggX12_chance_X12_next
set_option maxRecDepth 20000 in
theorem ggX12_chance_X12_partL : GoodIn wsX12_chance wsX12_partL := goodIn_r _ [44, 45, 46, 7, 47] (by decide +kernel) (by decide +kernel)
set_option maxRecDepth 20000 in
theorem gX12_chance_X12_partL : GoodIn wsX12_chance (va_wsS RX12 417 yX12_partL wsX12_partL) := goodIn_app (goodIn_of _ (by decide +kernel)) ggX12_chance_X12_partL
theorem dX12_chance_0 : decode cX12_chance 0 = .ok (.aload_n 0, 1) := by decide +kernel
theorem dX12_chance_1 : decode cX12_chance 1 = .ok (.iconst 0, 1) := by decide +kernel
theorem dX12_chance_2 : decode cX12_chance 2 = .ok (.putfield 98, 3) := by decide +kernel
theorem dX12_chance_5 : decode cX12_chance 5 = .ok (.iload_n 2, 1) := by decide +kernel
theorem dX12_chance_6 : decode cX12_chance 6 = .ok (.iconst 0, 1) := by decide +kernel
theorem dX12_chance_7 : decode cX12_chance 7 = .ok (.bipush 10, 2) := by decide +kernel
theorem dX12_chance_9 : decode cX12_chance 9 = .ok (.invokestatic 110, 3) := by decide +kernel
theorem dX12_chance_12 : decode cX12_chance 12 = .ok (.ifCond .eq 21, 3) := by decide +kernel
theorem dX12_chance_15 : decode cX12_chance 15 = .ok (.iload_n 3, 1) := by decide +kernel
theorem dX12_chance_16 : decode cX12_chance 16 = .ok (.iconst 0, 1) := by decide +kernel
theorem dX12_chance_17 : decode cX12_chance 17 = .ok (.bipush 7, 2) := by decide +kernel
theorem dX12_chance_19 : decode cX12_chance 19 = .ok (.invokestatic 110, 3) := by decide +kernel
theorem dX12_chance_22 : decode cX12_chance 22 = .ok (.ifCond .eq 11, 3) := by decide +kernel
theorem dX12_chance_25 : decode cX12_chance 25 = .ok (.aload_n 0, 1) := by decide +kernel
theorem dX12_chance_26 : decode cX12_chance 26 = .ok (.iload_n 1, 1) := by decide +kernel
theorem dX12_chance_27 : decode cX12_chance 27 = .ok (.invokevirtual 265, 3) := by decide +kernel
theorem dX12_chance_30 : decode cX12_chance 30 = .ok (.ifCond .ne 5, 3) := by decide +kernel
theorem dX12_chance_33 : decode cX12_chance 33 = .ok (.iconst (-1), 1) := by decide +kernel
theorem dX12_chance_34 : decode cX12_chance 34 = .ok (.ireturn, 1) := by decide +kernel
theorem dX12_chance_35 : decode cX12_chance 35 = .ok (.iconst 0, 1) := by decide +kernel
theorem dX12_chance_36 : decode cX12_chance 36 = .ok (.istore 5, 2) := by decide +kernel
theorem dX12_chance_38 : decode cX12_chance 38 = .ok (.iconst 1, 1) := by decide +kernel
theorem dX12_chance_39 : decode cX12_chance 39 = .ok (.istore 6, 2) := by decide +kernel
theorem dX12_chance_41 : decode cX12_chance 41 = .ok (.iconst 0, 1) := by decide +kernel
theorem dX12_chance_42 : decode cX12_chance 42 = .ok (.istore 7, 2) := by decide +kernel
theorem dX12_chance_44 : decode cX12_chance 44 = .ok (.iload 7, 2) := by decide +kernel
theorem dX12_chance_46 : decode cX12_chance 46 = .ok (.aload_n 0, 1) := by decide +kernel
theorem dX12_chance_47 : decode cX12_chance 47 = .ok (.getfield 249, 3) := by decide +kernel
theorem dX12_chance_50 : decode cX12_chance 50 = .ok (.if_icmp .gt 88, 3) := by decide +kernel
theorem dX12_chance_53 : decode cX12_chance 53 = .ok (.iconst 1, 1) := by decide +kernel
theorem dX12_chance_54 : decode cX12_chance 54 = .ok (.istore 8, 2) := by decide +kernel
theorem dX12_chance_56 : decode cX12_chance 56 = .ok (.iconst 1, 1) := by decide +kernel
theorem dX12_chance_57 : decode cX12_chance 57 = .ok (.istore 6, 2) := by decide +kernel
theorem dX12_chance_59 : decode cX12_chance 59 = .ok (.iconst 0, 1) := by decide +kernel
theorem dX12_chance_60 : decode cX12_chance 60 = .ok (.istore 9, 2) := by decide +kernel
theorem dX12_chance_62 : decode cX12_chance 62 = .ok (.iload 9, 2) := by decide +kernel
theorem dX12_chance_64 : decode cX12_chance 64 = .ok (.aload_n 0, 1) := by decide +kernel
theorem dX12_chance_65 : decode cX12_chance 65 = .ok (.getfield 259, 3) := by decide +kernel
theorem dX12_chance_68 : decode cX12_chance 68 = .ok (.if_icmp .ge 39, 3) := by decide +kernel
theorem dX12_chance_71 : decode cX12_chance 71 = .ok (.iload 8, 2) := by decide +kernel
theorem dX12_chance_73 : decode cX12_chance 73 = .ok (.iload 7, 2) := by decide +kernel
theorem dX12_chance_75 : decode cX12_chance 75 = .ok (.iload 9, 2) := by decide +kernel
theorem dX12_chance_77 : decode cX12_chance 77 = .ok (.invokestatic 102, 3) := by decide +kernel
theorem dX12_chance_80 : decode cX12_chance 80 = .ok (.ifCond .eq 7, 3) := by decide +kernel
theorem dX12_chance_83 : decode cX12_chance 83 = .ok (.iload_n 2, 1) := by decide +kernel
theorem dX12_chance_84 : decode cX12_chance 84 = .ok (.goto 7, 3) := by decide +kernel
theorem dX12_chance_87 : decode cX12_chance 87 = .ok (.bipush 10, 2) := by decide +kernel
theorem dX12_chance_89 : decode cX12_chance 89 = .ok (.iload_n 2, 1) := by decide +kernel
theorem dX12_chance_90 : decode cX12_chance 90 = .ok (.isub, 1) := by decide +kernel
theorem dX12_chance_91 : decode cX12_chance 91 = .ok (.imul, 1) := by decide +kernel
theorem dX12_chance_92 : decode cX12_chance 92 = .ok (.istore 8, 2) := by decide +kernel
theorem dX12_chance_94 : decode cX12_chance 94 = .ok (.iload 6, 2) := by decide +kernel
theorem dX12_chance_96 : decode cX12_chance 96 = .ok (.bipush 10, 2) := by decide +kernel
theorem dX12_chance_98 : decode cX12_chance 98 = .ok (.imul, 1) := by decide +kernel
theorem dX12_chance_99 : decode cX12_chance 99 = .ok (.istore 6, 2) := by decide +kernel
theorem dX12_chance_101 : decode cX12_chance 101 = .ok (.iinc 9 1, 3) := by decide +kernel
theorem dX12_chance_104 : decode cX12_chance 104 = .ok (.goto (-42), 3) := by decide +kernel
theorem dX12_chance_107 : decode cX12_chance 107 = .ok (.iload 5, 2) := by decide +kernel
theorem dX12_chance_109 : decode cX12_chance 109 = .ok (.aload_n 0, 1) := by decide +kernel
theorem dX12_chance_110 : decode cX12_chance 110 = .ok (.aload_n 0, 1) := by decide +kernel
theorem dX12_chance_111 : decode cX12_chance 111 = .ok (.getfield 252, 3) := by decide +kernel
theorem dX12_chance_114 : decode cX12_chance 114 = .ok (.iload 7, 2) := by decide +kernel
theorem dX12_chance_116 : decode cX12_chance 116 = .ok (.invokevirtual 335, 3) := by decide +kernel
theorem dX12_chance_119 : decode cX12_chance 119 = .ok (.iload_n 3, 1) := by decide +kernel
theorem dX12_chance_120 : decode cX12_chance 120 = .ok (.if_icmp .ne 8, 3) := by decide +kernel
theorem dX12_chance_123 : decode cX12_chance 123 = .ok (.iload 8, 2) := by decide +kernel
theorem dX12_chance_125 : decode cX12_chance 125 = .ok (.goto 4, 3) := by decide +kernel
theorem dX12_chance_128 : decode cX12_chance 128 = .ok (.iconst 0, 1) := by decide +kernel
theorem dX12_chance_129 : decode cX12_chance 129 = .ok (.iadd, 1) := by decide +kernel
theorem dX12_chance_130 : decode cX12_chance 130 = .ok (.istore 5, 2) := by decide +kernel
theorem dX12_chance_132 : decode cX12_chance 132 = .ok (.iinc 7 1, 3) := by decide +kernel
theorem dX12_chance_135 : decode cX12_chance 135 = .ok (.goto (-91), 3) := by decide +kernel
theorem dX12_chance_138 : decode cX12_chance 138 = .ok (.iload 5, 2) := by decide +kernel
theorem dX12_chance_140 : decode cX12_chance 140 = .ok (.i2l, 1) := by decide +kernel
theorem dX12_chance_141 : decode cX12_chance 141 = .ok (.iload 6, 2) := by decide +kernel
theorem dX12_chance_143 : decode cX12_chance 143 = .ok (.i2l, 1) := by decide +kernel
theorem dX12_chance_144 : decode cX12_chance 144 = .ok (.iload 4, 2) := by decide +kernel
theorem dX12_chance_146 : decode cX12_chance 146 = .ok (.invokestatic 417, 3) := by decide +kernel
theorem dX12_chance_149 : decode cX12_chance 149 = .ok (.l2i, 1) := by decide +kernel
theorem dX12_chance_150 : decode cX12_chance 150 = .ok (.ireturn, 1) := by decide +kernel
theorem dX12_facts_0 : decode cX12_facts 0 = .ok (.aload_n 0, 1) := by decide +kernel
theorem dX12_facts_1 : decode cX12_facts 1 = .ok (.getfield 32, 3) := by decide +kernel
theorem dX12_facts_4 : decode cX12_facts 4 = .ok (.bipush 17, 2) := by decide +kernel
theorem dX12_facts_6 : decode cX12_facts 6 = .ok (.aload_n 0, 1) := by decide +kernel
theorem dX12_facts_7 : decode cX12_facts 7 = .ok (.getfield 434, 3) := by decide +kernel
theorem dX12_facts_10 : decode cX12_facts 10 = .ok (.imul, 1) := by decide +kernel
theorem dX12_facts_11 : decode cX12_facts 11 = .ok (.iaload, 1) := by decide +kernel
theorem dX12_facts_12 : decode cX12_facts 12 = .ok (.ireturn, 1) := by decide +kernel
theorem dX12_factOf_0 : decode cX12_factOf 0 = .ok (.aload_n 0, 1) := by decide +kernel
theorem dX12_factOf_1 : decode cX12_factOf 1 = .ok (.getfield 32, 3) := by decide +kernel
theorem dX12_factOf_4 : decode cX12_factOf 4 = .ok (.bipush 17, 2) := by decide +kernel
theorem dX12_factOf_6 : decode cX12_factOf 6 = .ok (.aload_n 0, 1) := by decide +kernel
theorem dX12_factOf_7 : decode cX12_factOf 7 = .ok (.getfield 434, 3) := by decide +kernel
theorem dX12_factOf_10 : decode cX12_factOf 10 = .ok (.imul, 1) := by decide +kernel
theorem dX12_factOf_11 : decode cX12_factOf 11 = .ok (.iconst 1, 1) := by decide +kernel
theorem dX12_factOf_12 : decode cX12_factOf 12 = .ok (.iadd, 1) := by decide +kernel
theorem dX12_factOf_13 : decode cX12_factOf 13 = .ok (.iconst 2, 1) := by decide +kernel
theorem dX12_factOf_14 : decode cX12_factOf 14 = .ok (.iload_n 1, 1) := by decide +kernel
theorem dX12_factOf_15 : decode cX12_factOf 15 = .ok (.imul, 1) := by decide +kernel
theorem dX12_factOf_16 : decode cX12_factOf 16 = .ok (.iadd, 1) := by decide +kernel
theorem dX12_factOf_17 : decode cX12_factOf 17 = .ok (.iload_n 2, 1) := by decide +kernel
theorem dX12_factOf_18 : decode cX12_factOf 18 = .ok (.iadd, 1) := by decide +kernel
theorem dX12_factOf_19 : decode cX12_factOf 19 = .ok (.iaload, 1) := by decide +kernel
theorem dX12_factOf_20 : decode cX12_factOf 20 = .ok (.ireturn, 1) := by decide +kernel
set_option maxRecDepth 20000 in
theorem ggX12_hasLog_X12_is : GoodIn wsX12_hasLog wsX12_is := goodIn_r _ [6, 7, 8, 9, 5, 10, 11, 12, 13, 14, 15, 16, 17, 18, 19, 20, 21, 22, 23, 24, 25, 26, 27, 28, 29, 30, 31, 32, 33, 34, 35, 36, 37, 38, 39, 40, 41, 42, 43, 44, 45, 46, 47, 48, 49, 50, 51, 52, 53, 54, 55, 56, 57, 58, 59, 60, 61, 62, 63, 64, 65, 66, 67, 68, 69, 70, 71] (by decide +kernel) (by decide +kernel)
set_option maxRecDepth 20000 in
theorem gX12_hasLog_X12_is : GoodIn wsX12_hasLog (wsV RX12 237 RX12 yX12_is wsX12_is) := goodIn_app (goodIn_of _ (by decide +kernel)) ggX12_hasLog_X12_is
theorem dX12_hasLog_0 : decode cX12_hasLog 0 = .ok (.aload_n 0, 1) := by decide +kernel
theorem dX12_hasLog_1 : decode cX12_hasLog 1 = .ok (.iload_n 1, 1) := by decide +kernel
theorem dX12_hasLog_2 : decode cX12_hasLog 2 = .ok (.putfield 434, 3) := by decide +kernel
theorem dX12_hasLog_5 : decode cX12_hasLog 5 = .ok (.aload_n 0, 1) := by decide +kernel
theorem dX12_hasLog_6 : decode cX12_hasLog 6 = .ok (.iconst 2, 1) := by decide +kernel
theorem dX12_hasLog_7 : decode cX12_hasLog 7 = .ok (.iload_n 1, 1) := by decide +kernel
theorem dX12_hasLog_8 : decode cX12_hasLog 8 = .ok (.invokevirtual 237, 3) := by decide +kernel
theorem dX12_hasLog_11 : decode cX12_hasLog 11 = .ok (.ireturn, 1) := by decide +kernel
set_option maxRecDepth 20000 in
theorem ggX12_fact_X12_hasLog : GoodIn wsX12_fact wsX12_hasLog := goodIn_r _ [6, 7, 8, 9, 10, 5, 11, 12, 13, 14, 15, 25, 26, 27, 28, 29, 30, 31, 32, 33, 34, 35, 36, 37, 38, 39, 40, 41, 42, 43, 44, 45, 46, 47, 48, 49, 50, 51, 52, 53, 54, 55, 56, 57, 58, 59, 60, 61, 62, 63, 64, 65, 66, 67, 68, 69, 70, 71, 72, 73, 74, 75, 76, 77, 78, 79, 80, 81, 82, 83, 84, 85] (by decide +kernel) (by decide +kernel)
set_option maxRecDepth 20000 in
theorem gX12_fact_X12_hasLog : GoodIn wsX12_fact (wsV RX12 437 RX12 yX12_hasLog wsX12_hasLog) := goodIn_app (goodIn_of _ (by decide +kernel)) ggX12_fact_X12_hasLog
set_option maxRecDepth 20000 in
theorem ggX12_fact_X12_facts : GoodIn wsX12_fact wsX12_facts := goodIn_r _ [19, 20, 7, 25, 26, 27, 28, 29, 30, 31, 32, 33, 34, 35, 36, 37, 38, 39, 40, 41, 42, 43, 44, 45, 46, 47, 48, 49, 50, 51, 52, 53, 54, 55, 56, 57, 58, 59, 60, 61, 62, 63, 64, 65, 66, 67, 68, 69, 70, 71, 72, 73, 74, 75, 76, 77, 78, 79, 80, 81, 82, 83, 84, 85] (by decide +kernel) (by decide +kernel)
set_option maxRecDepth 20000 in
theorem gX12_fact_X12_facts : GoodIn wsX12_fact (wsV RX12 440 RX12 yX12_facts wsX12_facts) := goodIn_app (goodIn_of _ (by decide +kernel)) ggX12_fact_X12_facts
set_option maxRecDepth 20000 in
theorem ggX12_fact_X12_in : GoodIn wsX12_fact wsX12_in := goodIn_r _ [15] (by decide +kernel) (by decide +kernel)
set_option maxRecDepth 20000 in
theorem gX12_fact_X12_in : GoodIn wsX12_fact (va_wsS RX12 110 yX12_in wsX12_in) := goodIn_app (goodIn_of _ (by decide +kernel)) ggX12_fact_X12_in
set_option maxRecDepth 20000 in
theorem ggX12_fact_X12_factOf : GoodIn wsX12_fact wsX12_factOf := goodIn_r _ [24, 20, 7, 25, 26, 27, 28, 29, 30, 31, 32, 33, 34, 35, 36, 37, 38, 39, 40, 41, 42, 43, 44, 45, 46, 47, 48, 49, 50, 51, 52, 53, 54, 55, 56, 57, 58, 59, 60, 61, 62, 63, 64, 65, 66, 67, 68, 69, 70, 71, 72, 73, 74, 75, 76, 77, 78, 79, 80, 81, 82, 83, 84, 85] (by decide +kernel) (by decide +kernel)
set_option maxRecDepth 20000 in
theorem gX12_fact_X12_factOf : GoodIn wsX12_fact (wsV RX12 443 RX12 yX12_factOf wsX12_factOf) := goodIn_app (goodIn_of _ (by decide +kernel)) ggX12_fact_X12_factOf
theorem dX12_fact_0 : decode cX12_fact 0 = .ok (.aload_n 0, 1) := by decide +kernel
theorem dX12_fact_1 : decode cX12_fact 1 = .ok (.iconst 0, 1) := by decide +kernel
theorem dX12_fact_2 : decode cX12_fact 2 = .ok (.putfield 98, 3) := by decide +kernel
theorem dX12_fact_5 : decode cX12_fact 5 = .ok (.aload_n 0, 1) := by decide +kernel
theorem dX12_fact_6 : decode cX12_fact 6 = .ok (.iload_n 1, 1) := by decide +kernel
theorem dX12_fact_7 : decode cX12_fact 7 = .ok (.invokevirtual 437, 3) := by decide +kernel
theorem dX12_fact_10 : decode cX12_fact 10 = .ok (.ifCond .ne 6, 3) := by decide +kernel
theorem dX12_fact_13 : decode cX12_fact 13 = .ok (.bipush (-2), 2) := by decide +kernel
theorem dX12_fact_15 : decode cX12_fact 15 = .ok (.ireturn, 1) := by decide +kernel
theorem dX12_fact_16 : decode cX12_fact 16 = .ok (.iload_n 2, 1) := by decide +kernel
theorem dX12_fact_17 : decode cX12_fact 17 = .ok (.iconst (-1), 1) := by decide +kernel
theorem dX12_fact_18 : decode cX12_fact 18 = .ok (.if_icmp .ne 17, 3) := by decide +kernel
theorem dX12_fact_21 : decode cX12_fact 21 = .ok (.iload_n 3, 1) := by decide +kernel
theorem dX12_fact_22 : decode cX12_fact 22 = .ok (.ifCond .ne 10, 3) := by decide +kernel
theorem dX12_fact_25 : decode cX12_fact 25 = .ok (.aload_n 0, 1) := by decide +kernel
theorem dX12_fact_26 : decode cX12_fact 26 = .ok (.invokevirtual 440, 3) := by decide +kernel
theorem dX12_fact_29 : decode cX12_fact 29 = .ok (.goto 5, 3) := by decide +kernel
theorem dX12_fact_32 : decode cX12_fact 32 = .ok (.bipush (-2), 2) := by decide +kernel
theorem dX12_fact_34 : decode cX12_fact 34 = .ok (.ireturn, 1) := by decide +kernel
theorem dX12_fact_35 : decode cX12_fact 35 = .ok (.iload_n 2, 1) := by decide +kernel
theorem dX12_fact_36 : decode cX12_fact 36 = .ok (.iconst 0, 1) := by decide +kernel
theorem dX12_fact_37 : decode cX12_fact 37 = .ok (.aload_n 0, 1) := by decide +kernel
theorem dX12_fact_38 : decode cX12_fact 38 = .ok (.invokevirtual 440, 3) := by decide +kernel
theorem dX12_fact_41 : decode cX12_fact 41 = .ok (.iconst 1, 1) := by decide +kernel
theorem dX12_fact_42 : decode cX12_fact 42 = .ok (.isub, 1) := by decide +kernel
theorem dX12_fact_43 : decode cX12_fact 43 = .ok (.invokestatic 110, 3) := by decide +kernel
theorem dX12_fact_46 : decode cX12_fact 46 = .ok (.ifCond .eq 21, 3) := by decide +kernel
theorem dX12_fact_49 : decode cX12_fact 49 = .ok (.iload_n 3, 1) := by decide +kernel
theorem dX12_fact_50 : decode cX12_fact 50 = .ok (.iconst 0, 1) := by decide +kernel
theorem dX12_fact_51 : decode cX12_fact 51 = .ok (.iconst 1, 1) := by decide +kernel
theorem dX12_fact_52 : decode cX12_fact 52 = .ok (.invokestatic 110, 3) := by decide +kernel
theorem dX12_fact_55 : decode cX12_fact 55 = .ok (.ifCond .eq 12, 3) := by decide +kernel
theorem dX12_fact_58 : decode cX12_fact 58 = .ok (.aload_n 0, 1) := by decide +kernel
theorem dX12_fact_59 : decode cX12_fact 59 = .ok (.iload_n 2, 1) := by decide +kernel
theorem dX12_fact_60 : decode cX12_fact 60 = .ok (.iload_n 3, 1) := by decide +kernel
theorem dX12_fact_61 : decode cX12_fact 61 = .ok (.invokevirtual 443, 3) := by decide +kernel
theorem dX12_fact_64 : decode cX12_fact 64 = .ok (.goto 5, 3) := by decide +kernel
theorem dX12_fact_67 : decode cX12_fact 67 = .ok (.bipush (-2), 2) := by decide +kernel
theorem dX12_fact_69 : decode cX12_fact 69 = .ok (.ireturn, 1) := by decide +kernel
set_option maxRecDepth 20000 in
theorem ggX12_isSo_X12_facts : GoodIn wsX12_isSo wsX12_facts := goodIn_r _ [6, 7, 8, 16, 17, 18, 19, 20, 21, 22, 23, 24, 25, 26, 27, 28, 29, 30, 31, 32, 33, 34, 35, 36, 37, 38, 39, 40, 41, 42, 43, 44, 45, 46, 47, 48, 49, 50, 51, 52, 53, 54, 55, 56, 57, 58, 59, 60, 61, 62, 63, 64, 65, 66, 67, 68, 69, 70, 71, 72, 73, 74, 75, 76] (by decide +kernel) (by decide +kernel)
set_option maxRecDepth 20000 in
theorem gX12_isSo_X12_facts : GoodIn wsX12_isSo (wsV RX12 440 RX12 yX12_facts wsX12_facts) := goodIn_app (goodIn_of _ (by decide +kernel)) ggX12_isSo_X12_facts
set_option maxRecDepth 20000 in
theorem ggX12_isSo_X12_factOf : GoodIn wsX12_isSo wsX12_factOf := goodIn_r _ [12, 7, 8, 16, 17, 18, 19, 20, 21, 22, 23, 24, 25, 26, 27, 28, 29, 30, 31, 32, 33, 34, 35, 36, 37, 38, 39, 40, 41, 42, 43, 44, 45, 46, 47, 48, 49, 50, 51, 52, 53, 54, 55, 56, 57, 58, 59, 60, 61, 62, 63, 64, 65, 66, 67, 68, 69, 70, 71, 72, 73, 74, 75, 76] (by decide +kernel) (by decide +kernel)
set_option maxRecDepth 20000 in
theorem gX12_isSo_X12_factOf : GoodIn wsX12_isSo (wsV RX12 443 RX12 yX12_factOf wsX12_factOf) := goodIn_app (goodIn_of _ (by decide +kernel)) ggX12_isSo_X12_factOf
set_option maxRecDepth 20000 in
theorem ggX12_isSo_X12_has : GoodIn wsX12_isSo wsX12_has := goodIn_r _ [15] (by decide +kernel) (by decide +kernel)
set_option maxRecDepth 20000 in
theorem gX12_isSo_X12_has : GoodIn wsX12_isSo (va_wsS RX12 102 yX12_has wsX12_has) := goodIn_app (goodIn_of _ (by decide +kernel)) ggX12_isSo_X12_has
theorem dX12_isSo_0 : decode cX12_isSo 0 = .ok (.iconst 0, 1) := by decide +kernel
theorem dX12_isSo_1 : decode cX12_isSo 1 = .ok (.istore_n 1, 1) := by decide +kernel
theorem dX12_isSo_2 : decode cX12_isSo 2 = .ok (.iload_n 1, 1) := by decide +kernel
theorem dX12_isSo_3 : decode cX12_isSo 3 = .ok (.aload_n 0, 1) := by decide +kernel
theorem dX12_isSo_4 : decode cX12_isSo 4 = .ok (.invokevirtual 440, 3) := by decide +kernel
theorem dX12_isSo_7 : decode cX12_isSo 7 = .ok (.if_icmp .ge 50, 3) := by decide +kernel
theorem dX12_isSo_10 : decode cX12_isSo 10 = .ok (.aload_n 0, 1) := by decide +kernel
theorem dX12_isSo_11 : decode cX12_isSo 11 = .ok (.getfield 53, 3) := by decide +kernel
theorem dX12_isSo_14 : decode cX12_isSo 14 = .ok (.aload_n 0, 1) := by decide +kernel
theorem dX12_isSo_15 : decode cX12_isSo 15 = .ok (.iload_n 1, 1) := by decide +kernel
theorem dX12_isSo_16 : decode cX12_isSo 16 = .ok (.iconst 0, 1) := by decide +kernel
theorem dX12_isSo_17 : decode cX12_isSo 17 = .ok (.invokevirtual 443, 3) := by decide +kernel
theorem dX12_isSo_20 : decode cX12_isSo 20 = .ok (.iaload, 1) := by decide +kernel
theorem dX12_isSo_21 : decode cX12_isSo 21 = .ok (.istore_n 2, 1) := by decide +kernel
theorem dX12_isSo_22 : decode cX12_isSo 22 = .ok (.aload_n 0, 1) := by decide +kernel
theorem dX12_isSo_23 : decode cX12_isSo 23 = .ok (.iload_n 1, 1) := by decide +kernel
theorem dX12_isSo_24 : decode cX12_isSo 24 = .ok (.iconst 1, 1) := by decide +kernel
theorem dX12_isSo_25 : decode cX12_isSo 25 = .ok (.invokevirtual 443, 3) := by decide +kernel
theorem dX12_isSo_28 : decode cX12_isSo 28 = .ok (.istore_n 3, 1) := by decide +kernel
theorem dX12_isSo_29 : decode cX12_isSo 29 = .ok (.iload_n 3, 1) := by decide +kernel
theorem dX12_isSo_30 : decode cX12_isSo 30 = .ok (.iconst (-1), 1) := by decide +kernel
theorem dX12_isSo_31 : decode cX12_isSo 31 = .ok (.if_icmp .ne 10, 3) := by decide +kernel
theorem dX12_isSo_34 : decode cX12_isSo 34 = .ok (.iload_n 2, 1) := by decide +kernel
theorem dX12_isSo_35 : decode cX12_isSo 35 = .ok (.ifCond .eq 16, 3) := by decide +kernel
theorem dX12_isSo_38 : decode cX12_isSo 38 = .ok (.goto 11, 3) := by decide +kernel
theorem dX12_isSo_41 : decode cX12_isSo 41 = .ok (.iload_n 2, 1) := by decide +kernel
theorem dX12_isSo_42 : decode cX12_isSo 42 = .ok (.iload_n 3, 1) := by decide +kernel
theorem dX12_isSo_43 : decode cX12_isSo 43 = .ok (.invokestatic 102, 3) := by decide +kernel
theorem dX12_isSo_46 : decode cX12_isSo 46 = .ok (.ifCond .ne 5, 3) := by decide +kernel
theorem dX12_isSo_49 : decode cX12_isSo 49 = .ok (.iconst 0, 1) := by decide +kernel
theorem dX12_isSo_50 : decode cX12_isSo 50 = .ok (.ireturn, 1) := by decide +kernel
theorem dX12_isSo_51 : decode cX12_isSo 51 = .ok (.iinc 1 1, 3) := by decide +kernel
theorem dX12_isSo_54 : decode cX12_isSo 54 = .ok (.goto (-52), 3) := by decide +kernel
theorem dX12_isSo_57 : decode cX12_isSo 57 = .ok (.iconst 1, 1) := by decide +kernel
theorem dX12_isSo_58 : decode cX12_isSo 58 = .ok (.ireturn, 1) := by decide +kernel
set_option maxRecDepth 20000 in
theorem ggX12_playBy_X12_alone : GoodIn wsX12_playBy wsX12_alone := goodIn_r _ [8, 1, 9, 10, 2, 11, 12, 7, 13, 14, 15, 16, 17, 18, 19, 76, 77, 78, 79, 80, 81, 82, 83, 84, 85, 86, 87, 88, 89, 90, 91, 92, 93, 94, 95, 96, 97, 98, 99, 100, 101, 102, 103, 104, 105, 106, 107, 108, 109, 110, 111, 112, 113, 114, 115, 116, 117, 118, 119, 120, 121, 122, 123, 124, 125, 126, 127, 128, 129, 130, 131, 132, 133, 134, 135, 136] (by decide +kernel) (by decide +kernel)
set_option maxRecDepth 20000 in
theorem gX12_playBy_X12_alone : GoodIn wsX12_playBy (wsV RX12 262 RX12 yX12_alone wsX12_alone) := goodIn_app (goodIn_of _ (by decide +kernel)) ggX12_playBy_X12_alone
set_option maxRecDepth 20000 in
theorem ggX12_playBy_X12_beginDay : GoodIn wsX12_playBy wsX12_beginDay := goodIn_r _ [23, 3, 24, 25, 26, 27, 28, 29, 30, 31, 76, 77, 78, 79, 80, 81, 82, 83, 84, 85, 86, 87, 88, 89, 90, 91, 92, 93, 94, 95, 96, 97, 98, 99, 100, 101, 102, 103, 104, 105, 106, 107, 108, 109, 110, 111, 112, 113, 114, 115, 116, 117, 118, 119, 120, 121, 122, 123, 124, 125, 126, 127, 128, 129, 130, 131, 132, 133, 134, 135, 136] (by decide +kernel) (by decide +kernel)
set_option maxRecDepth 20000 in
theorem gX12_playBy_X12_beginDay : GoodIn wsX12_playBy (wsV RX12 319 RX12 yX12_beginDay wsX12_beginDay) := goodIn_app (goodIn_of _ (by decide +kernel)) ggX12_playBy_X12_beginDay
set_option maxRecDepth 20000 in
theorem ggX12_playBy_X12_deeds : GoodIn wsX12_playBy wsX12_deeds := goodIn_r _ [35, 36, 37, 76, 77, 78, 79, 80, 81, 82, 83, 84, 85, 86, 87, 88, 89, 90, 91, 92, 93, 94, 95, 96, 97, 98, 99, 100, 101, 102, 103, 104, 105, 106, 107, 108, 109, 110, 111, 112, 113, 114, 115, 116, 117, 118, 119, 120, 121, 122, 123, 124, 125, 126, 127, 128, 129, 130, 131, 132, 133, 134, 135, 136] (by decide +kernel) (by decide +kernel)
set_option maxRecDepth 20000 in
theorem gX12_playBy_X12_deeds : GoodIn wsX12_playBy (wsV RX12 277 RX12 yX12_deeds wsX12_deeds) := goodIn_app (goodIn_of _ (by decide +kernel)) ggX12_playBy_X12_deeds
set_option maxRecDepth 20000 in
theorem ggX12_playBy_X12_play : GoodIn wsX12_playBy wsX12_play := goodIn_r _ [41, 42, 43, 44, 7, 45, 46, 47, 48, 49, 36, 37, 50, 51, 52, 53, 24, 2, 10, 26, 54, 55, 56, 57, 3, 58, 59, 60, 61, 62, 31, 30, 25, 28, 27, 29, 11, 12, 13, 63, 64, 65, 66, 67, 68, 69, 70, 71, 72, 73, 74, 75, 76, 77, 78, 79, 80, 81, 82, 83, 84, 85, 86, 87, 88, 89, 90, 91, 92, 93, 94, 95, 96, 97, 98, 99, 100, 101, 102, 103, 104, 105, 106, 107, 108, 109, 110, 111, 112, 113, 114, 115, 116, 117, 118, 119, 120, 121, 122, 123, 124, 125, 126, 127, 128, 129, 130, 131, 132, 133, 134, 135, 136] (by decide +kernel) (by decide +kernel)
set_option maxRecDepth 20000 in
theorem gX12_playBy_X12_play : GoodIn wsX12_playBy (wsV RX12 325 RX12 yX12_play wsX12_play) := goodIn_app (goodIn_of _ (by decide +kernel)) ggX12_playBy_X12_play
set_option maxRecDepth 20000 in
theorem ggX12_playBy_X12_goBy : GoodIn wsX12_playBy wsX12_goBy := goodIn_r _ [61, 3, 62, 24, 2, 31, 30, 25, 28, 27, 29, 11, 12, 7, 13, 63, 64, 65, 66, 67, 68, 76, 77, 78, 79, 80, 81, 82, 83, 84, 85, 86, 87, 88, 89, 90, 91, 92, 93, 94, 95, 96, 97, 98, 99, 100, 101, 102, 103, 104, 105, 106, 107, 108, 109, 110, 111, 112, 113, 114, 115, 116, 117, 118, 119, 120, 121, 122, 123, 124, 125, 126, 127, 128, 129, 130, 131, 132, 133, 134, 135, 136] (by decide +kernel) (by decide +kernel)
set_option maxRecDepth 20000 in
theorem gX12_playBy_X12_goBy : GoodIn wsX12_playBy (wsV RX12 307 RX12 yX12_goBy wsX12_goBy) := goodIn_app (goodIn_of _ (by decide +kernel)) ggX12_playBy_X12_goBy
theorem dX12_playBy_0 : decode cX12_playBy 0 = .ok (.aload_n 0, 1) := by decide +kernel
theorem dX12_playBy_1 : decode cX12_playBy 1 = .ok (.aload_n 0, 1) := by decide +kernel
theorem dX12_playBy_2 : decode cX12_playBy 2 = .ok (.getfield 249, 3) := by decide +kernel
theorem dX12_playBy_5 : decode cX12_playBy 5 = .ok (.invokevirtual 262, 3) := by decide +kernel
theorem dX12_playBy_8 : decode cX12_playBy 8 = .ok (.aload_n 0, 1) := by decide +kernel
theorem dX12_playBy_9 : decode cX12_playBy 9 = .ok (.invokevirtual 319, 3) := by decide +kernel
theorem dX12_playBy_12 : decode cX12_playBy 12 = .ok (.iconst 0, 1) := by decide +kernel
theorem dX12_playBy_13 : decode cX12_playBy 13 = .ok (.istore_n 2, 1) := by decide +kernel
theorem dX12_playBy_14 : decode cX12_playBy 14 = .ok (.iload_n 2, 1) := by decide +kernel
theorem dX12_playBy_15 : decode cX12_playBy 15 = .ok (.iconst 4, 1) := by decide +kernel
theorem dX12_playBy_16 : decode cX12_playBy 16 = .ok (.if_icmp .ge 23, 3) := by decide +kernel
theorem dX12_playBy_19 : decode cX12_playBy 19 = .ok (.aload_n 0, 1) := by decide +kernel
theorem dX12_playBy_20 : decode cX12_playBy 20 = .ok (.getfield 47, 3) := by decide +kernel
theorem dX12_playBy_23 : decode cX12_playBy 23 = .ok (.iload_n 2, 1) := by decide +kernel
theorem dX12_playBy_24 : decode cX12_playBy 24 = .ok (.iload_n 1, 1) := by decide +kernel
theorem dX12_playBy_25 : decode cX12_playBy 25 = .ok (.iconst 3, 1) := by decide +kernel
theorem dX12_playBy_26 : decode cX12_playBy 26 = .ok (.iload_n 2, 1) := by decide +kernel
theorem dX12_playBy_27 : decode cX12_playBy 27 = .ok (.imul, 1) := by decide +kernel
theorem dX12_playBy_28 : decode cX12_playBy 28 = .ok (.ishr, 1) := by decide +kernel
theorem dX12_playBy_29 : decode cX12_playBy 29 = .ok (.bipush 7, 2) := by decide +kernel
theorem dX12_playBy_31 : decode cX12_playBy 31 = .ok (.iand, 1) := by decide +kernel
theorem dX12_playBy_32 : decode cX12_playBy 32 = .ok (.iastore, 1) := by decide +kernel
theorem dX12_playBy_33 : decode cX12_playBy 33 = .ok (.iinc 2 1, 3) := by decide +kernel
theorem dX12_playBy_36 : decode cX12_playBy 36 = .ok (.goto (-22), 3) := by decide +kernel
theorem dX12_playBy_39 : decode cX12_playBy 39 = .ok (.aload_n 0, 1) := by decide +kernel
theorem dX12_playBy_40 : decode cX12_playBy 40 = .ok (.aload_n 0, 1) := by decide +kernel
theorem dX12_playBy_41 : decode cX12_playBy 41 = .ok (.invokevirtual 277, 3) := by decide +kernel
theorem dX12_playBy_44 : decode cX12_playBy 44 = .ok (.invokevirtual 325, 3) := by decide +kernel
theorem dX12_playBy_47 : decode cX12_playBy 47 = .ok (.pop, 1) := by decide +kernel
theorem dX12_playBy_48 : decode cX12_playBy 48 = .ok (.aload_n 0, 1) := by decide +kernel
theorem dX12_playBy_49 : decode cX12_playBy 49 = .ok (.getfield 283, 3) := by decide +kernel
theorem dX12_playBy_52 : decode cX12_playBy 52 = .ok (.bipush 99, 2) := by decide +kernel
theorem dX12_playBy_54 : decode cX12_playBy 54 = .ok (.if_icmp .ge 10, 3) := by decide +kernel
theorem dX12_playBy_57 : decode cX12_playBy 57 = .ok (.aload_n 0, 1) := by decide +kernel
theorem dX12_playBy_58 : decode cX12_playBy 58 = .ok (.invokevirtual 307, 3) := by decide +kernel
theorem dX12_playBy_61 : decode cX12_playBy 61 = .ok (.goto (-13), 3) := by decide +kernel
theorem dX12_playBy_64 : decode cX12_playBy 64 = .ok (.return_, 1) := by decide +kernel
theorem dX12_topIn_0 : decode cX12_topIn 0 = .ok (.iload_n 0, 1) := by decide +kernel
theorem dX12_topIn_1 : decode cX12_topIn 1 = .ok (.iconst 3, 1) := by decide +kernel
theorem dX12_topIn_2 : decode cX12_topIn 2 = .ok (.iload_n 1, 1) := by decide +kernel
theorem dX12_topIn_3 : decode cX12_topIn 3 = .ok (.imul, 1) := by decide +kernel
theorem dX12_topIn_4 : decode cX12_topIn 4 = .ok (.ishr, 1) := by decide +kernel
theorem dX12_topIn_5 : decode cX12_topIn 5 = .ok (.bipush 7, 2) := by decide +kernel
theorem dX12_topIn_7 : decode cX12_topIn 7 = .ok (.iand, 1) := by decide +kernel
theorem dX12_topIn_8 : decode cX12_topIn 8 = .ok (.ireturn, 1) := by decide +kernel
set_option maxRecDepth 20000 in
theorem ggX12_noteFit_X12_topIn : GoodIn wsX12_noteFit wsX12_topIn := goodIn_r _ [12] (by decide +kernel) (by decide +kernel)
set_option maxRecDepth 20000 in
theorem gX12_noteFit_X12_topIn : GoodIn wsX12_noteFit (va_wsS RX12 446 yX12_topIn wsX12_topIn) := goodIn_app (goodIn_of _ (by decide +kernel)) ggX12_noteFit_X12_topIn
set_option maxRecDepth 20000 in
theorem ggX12_noteFit_X12_of : GoodIn wsX12_noteFit wsX12_of := goodIn_r _ [16, 17, 18, 19, 20, 21, 22, 23, 24, 25, 26, 27, 28, 29, 30, 31, 32, 33, 34, 35, 36, 37, 38, 39, 40, 41, 42, 43, 44, 45, 46, 47, 48, 49, 50, 51, 52, 53, 54, 55, 56, 57, 58, 59, 60, 61, 62, 63, 64, 65, 66, 67, 68, 69, 70, 71, 72, 73, 74, 75, 76, 77, 78, 79] (by decide +kernel) (by decide +kernel)
set_option maxRecDepth 20000 in
theorem gX12_noteFit_X12_of : GoodIn wsX12_noteFit (wsV RX12 255 RX12 yX12_of wsX12_of) := goodIn_app (goodIn_of _ (by decide +kernel)) ggX12_noteFit_X12_of
theorem dX12_noteFit_0 : decode cX12_noteFit 0 = .ok (.iconst 1, 1) := by decide +kernel
theorem dX12_noteFit_1 : decode cX12_noteFit 1 = .ok (.istore_n 3, 1) := by decide +kernel
theorem dX12_noteFit_2 : decode cX12_noteFit 2 = .ok (.iconst 0, 1) := by decide +kernel
theorem dX12_noteFit_3 : decode cX12_noteFit 3 = .ok (.istore 4, 2) := by decide +kernel
theorem dX12_noteFit_5 : decode cX12_noteFit 5 = .ok (.iload 4, 2) := by decide +kernel
theorem dX12_noteFit_7 : decode cX12_noteFit 7 = .ok (.aload_n 0, 1) := by decide +kernel
theorem dX12_noteFit_8 : decode cX12_noteFit 8 = .ok (.getfield 259, 3) := by decide +kernel
theorem dX12_noteFit_11 : decode cX12_noteFit 11 = .ok (.if_icmp .ge 99, 3) := by decide +kernel
theorem dX12_noteFit_14 : decode cX12_noteFit 14 = .ok (.bipush 10, 2) := by decide +kernel
theorem dX12_noteFit_16 : decode cX12_noteFit 16 = .ok (.iload_n 3, 1) := by decide +kernel
theorem dX12_noteFit_17 : decode cX12_noteFit 17 = .ok (.imul, 1) := by decide +kernel
theorem dX12_noteFit_18 : decode cX12_noteFit 18 = .ok (.iload_n 1, 1) := by decide +kernel
theorem dX12_noteFit_19 : decode cX12_noteFit 19 = .ok (.iload 4, 2) := by decide +kernel
theorem dX12_noteFit_21 : decode cX12_noteFit 21 = .ok (.invokestatic 446, 3) := by decide +kernel
theorem dX12_noteFit_24 : decode cX12_noteFit 24 = .ok (.iadd, 1) := by decide +kernel
theorem dX12_noteFit_25 : decode cX12_noteFit 25 = .ok (.istore_n 3, 1) := by decide +kernel
theorem dX12_noteFit_26 : decode cX12_noteFit 26 = .ok (.aload_n 0, 1) := by decide +kernel
theorem dX12_noteFit_27 : decode cX12_noteFit 27 = .ok (.getfield 88, 3) := by decide +kernel
theorem dX12_noteFit_30 : decode cX12_noteFit 30 = .ok (.iload 4, 2) := by decide +kernel
theorem dX12_noteFit_32 : decode cX12_noteFit 32 = .ok (.dup2, 1) := by decide +kernel
theorem dX12_noteFit_33 : decode cX12_noteFit 33 = .ok (.iaload, 1) := by decide +kernel
theorem dX12_noteFit_34 : decode cX12_noteFit 34 = .ok (.iconst 1, 1) := by decide +kernel
theorem dX12_noteFit_35 : decode cX12_noteFit 35 = .ok (.iload_n 1, 1) := by decide +kernel
theorem dX12_noteFit_36 : decode cX12_noteFit 36 = .ok (.iload 4, 2) := by decide +kernel
theorem dX12_noteFit_38 : decode cX12_noteFit 38 = .ok (.invokestatic 446, 3) := by decide +kernel
theorem dX12_noteFit_41 : decode cX12_noteFit 41 = .ok (.ishl, 1) := by decide +kernel
theorem dX12_noteFit_42 : decode cX12_noteFit 42 = .ok (.ior, 1) := by decide +kernel
theorem dX12_noteFit_43 : decode cX12_noteFit 43 = .ok (.iastore, 1) := by decide +kernel
theorem dX12_noteFit_44 : decode cX12_noteFit 44 = .ok (.aload_n 0, 1) := by decide +kernel
theorem dX12_noteFit_45 : decode cX12_noteFit 45 = .ok (.dup, 1) := by decide +kernel
theorem dX12_noteFit_46 : decode cX12_noteFit 46 = .ok (.getfield 449, 3) := by decide +kernel
theorem dX12_noteFit_49 : decode cX12_noteFit 49 = .ok (.iload_n 1, 1) := by decide +kernel
theorem dX12_noteFit_50 : decode cX12_noteFit 50 = .ok (.iload 4, 2) := by decide +kernel
theorem dX12_noteFit_52 : decode cX12_noteFit 52 = .ok (.invokestatic 446, 3) := by decide +kernel
theorem dX12_noteFit_55 : decode cX12_noteFit 55 = .ok (.aload_n 0, 1) := by decide +kernel
theorem dX12_noteFit_56 : decode cX12_noteFit 56 = .ok (.iconst 1, 1) := by decide +kernel
theorem dX12_noteFit_57 : decode cX12_noteFit 57 = .ok (.iload 4, 2) := by decide +kernel
theorem dX12_noteFit_59 : decode cX12_noteFit 59 = .ok (.iadd, 1) := by decide +kernel
theorem dX12_noteFit_60 : decode cX12_noteFit 60 = .ok (.invokevirtual 255, 3) := by decide +kernel
theorem dX12_noteFit_63 : decode cX12_noteFit 63 = .ok (.if_icmp .ne 10, 3) := by decide +kernel
theorem dX12_noteFit_66 : decode cX12_noteFit 66 = .ok (.iconst 1, 1) := by decide +kernel
theorem dX12_noteFit_67 : decode cX12_noteFit 67 = .ok (.iload 4, 2) := by decide +kernel
theorem dX12_noteFit_69 : decode cX12_noteFit 69 = .ok (.ishl, 1) := by decide +kernel
theorem dX12_noteFit_70 : decode cX12_noteFit 70 = .ok (.goto 4, 3) := by decide +kernel
theorem dX12_noteFit_73 : decode cX12_noteFit 73 = .ok (.iconst 0, 1) := by decide +kernel
theorem dX12_noteFit_74 : decode cX12_noteFit 74 = .ok (.ior, 1) := by decide +kernel
theorem dX12_noteFit_75 : decode cX12_noteFit 75 = .ok (.putfield 449, 3) := by decide +kernel
theorem dX12_noteFit_78 : decode cX12_noteFit 78 = .ok (.aload_n 0, 1) := by decide +kernel
theorem dX12_noteFit_79 : decode cX12_noteFit 79 = .ok (.dup, 1) := by decide +kernel
theorem dX12_noteFit_80 : decode cX12_noteFit 80 = .ok (.getfield 452, 3) := by decide +kernel
theorem dX12_noteFit_83 : decode cX12_noteFit 83 = .ok (.iload_n 1, 1) := by decide +kernel
theorem dX12_noteFit_84 : decode cX12_noteFit 84 = .ok (.iload 4, 2) := by decide +kernel
theorem dX12_noteFit_86 : decode cX12_noteFit 86 = .ok (.invokestatic 446, 3) := by decide +kernel
theorem dX12_noteFit_89 : decode cX12_noteFit 89 = .ok (.ifCond .ne 10, 3) := by decide +kernel
theorem dX12_noteFit_92 : decode cX12_noteFit 92 = .ok (.iconst 1, 1) := by decide +kernel
theorem dX12_noteFit_93 : decode cX12_noteFit 93 = .ok (.iload 4, 2) := by decide +kernel
theorem dX12_noteFit_95 : decode cX12_noteFit 95 = .ok (.ishl, 1) := by decide +kernel
theorem dX12_noteFit_96 : decode cX12_noteFit 96 = .ok (.goto 4, 3) := by decide +kernel
theorem dX12_noteFit_99 : decode cX12_noteFit 99 = .ok (.iconst 0, 1) := by decide +kernel
theorem dX12_noteFit_100 : decode cX12_noteFit 100 = .ok (.ior, 1) := by decide +kernel
theorem dX12_noteFit_101 : decode cX12_noteFit 101 = .ok (.putfield 452, 3) := by decide +kernel
theorem dX12_noteFit_104 : decode cX12_noteFit 104 = .ok (.iinc 4 1, 3) := by decide +kernel
theorem dX12_noteFit_107 : decode cX12_noteFit 107 = .ok (.goto (-102), 3) := by decide +kernel
theorem dX12_noteFit_110 : decode cX12_noteFit 110 = .ok (.aload_n 0, 1) := by decide +kernel
theorem dX12_noteFit_111 : decode cX12_noteFit 111 = .ok (.aload_n 0, 1) := by decide +kernel
theorem dX12_noteFit_112 : decode cX12_noteFit 112 = .ok (.getfield 455, 3) := by decide +kernel
theorem dX12_noteFit_115 : decode cX12_noteFit 115 = .ok (.iload_n 2, 1) := by decide +kernel
theorem dX12_noteFit_116 : decode cX12_noteFit 116 = .ok (.if_icmp .ne 7, 3) := by decide +kernel
theorem dX12_noteFit_119 : decode cX12_noteFit 119 = .ok (.iload_n 3, 1) := by decide +kernel
theorem dX12_noteFit_120 : decode cX12_noteFit 120 = .ok (.goto 7, 3) := by decide +kernel
theorem dX12_noteFit_123 : decode cX12_noteFit 123 = .ok (.aload_n 0, 1) := by decide +kernel
theorem dX12_noteFit_124 : decode cX12_noteFit 124 = .ok (.getfield 458, 3) := by decide +kernel
theorem dX12_noteFit_127 : decode cX12_noteFit 127 = .ok (.putfield 458, 3) := by decide +kernel
theorem dX12_noteFit_130 : decode cX12_noteFit 130 = .ok (.aload_n 0, 1) := by decide +kernel
theorem dX12_noteFit_131 : decode cX12_noteFit 131 = .ok (.dup, 1) := by decide +kernel
theorem dX12_noteFit_132 : decode cX12_noteFit 132 = .ok (.getfield 455, 3) := by decide +kernel
theorem dX12_noteFit_135 : decode cX12_noteFit 135 = .ok (.iconst 1, 1) := by decide +kernel
theorem dX12_noteFit_136 : decode cX12_noteFit 136 = .ok (.iadd, 1) := by decide +kernel
theorem dX12_noteFit_137 : decode cX12_noteFit 137 = .ok (.putfield 455, 3) := by decide +kernel
theorem dX12_noteFit_140 : decode cX12_noteFit 140 = .ok (.iconst 1, 1) := by decide +kernel
theorem dX12_noteFit_141 : decode cX12_noteFit 141 = .ok (.istore 4, 2) := by decide +kernel
theorem dX12_noteFit_143 : decode cX12_noteFit 143 = .ok (.iload 4, 2) := by decide +kernel
theorem dX12_noteFit_145 : decode cX12_noteFit 145 = .ok (.bipush 41, 2) := by decide +kernel
theorem dX12_noteFit_147 : decode cX12_noteFit 147 = .ok (.if_icmp .ge 34, 3) := by decide +kernel
theorem dX12_noteFit_150 : decode cX12_noteFit 150 = .ok (.aload_n 0, 1) := by decide +kernel
theorem dX12_noteFit_151 : decode cX12_noteFit 151 = .ok (.getfield 91, 3) := by decide +kernel
theorem dX12_noteFit_154 : decode cX12_noteFit 154 = .ok (.iload 4, 2) := by decide +kernel
theorem dX12_noteFit_156 : decode cX12_noteFit 156 = .ok (.dup2, 1) := by decide +kernel
theorem dX12_noteFit_157 : decode cX12_noteFit 157 = .ok (.iaload, 1) := by decide +kernel
theorem dX12_noteFit_158 : decode cX12_noteFit 158 = .ok (.aload_n 0, 1) := by decide +kernel
theorem dX12_noteFit_159 : decode cX12_noteFit 159 = .ok (.getfield 53, 3) := by decide +kernel
theorem dX12_noteFit_162 : decode cX12_noteFit 162 = .ok (.iload 4, 2) := by decide +kernel
theorem dX12_noteFit_164 : decode cX12_noteFit 164 = .ok (.iaload, 1) := by decide +kernel
theorem dX12_noteFit_165 : decode cX12_noteFit 165 = .ok (.ifCond .eq 7, 3) := by decide +kernel
theorem dX12_noteFit_168 : decode cX12_noteFit 168 = .ok (.iconst 1, 1) := by decide +kernel
theorem dX12_noteFit_169 : decode cX12_noteFit 169 = .ok (.goto 4, 3) := by decide +kernel
theorem dX12_noteFit_172 : decode cX12_noteFit 172 = .ok (.iconst 0, 1) := by decide +kernel
theorem dX12_noteFit_173 : decode cX12_noteFit 173 = .ok (.iadd, 1) := by decide +kernel
theorem dX12_noteFit_174 : decode cX12_noteFit 174 = .ok (.iastore, 1) := by decide +kernel
theorem dX12_noteFit_175 : decode cX12_noteFit 175 = .ok (.iinc 4 1, 3) := by decide +kernel
theorem dX12_noteFit_178 : decode cX12_noteFit 178 = .ok (.goto (-35), 3) := by decide +kernel
theorem dX12_noteFit_181 : decode cX12_noteFit 181 = .ok (.return_, 1) := by decide +kernel
set_option maxRecDepth 20000 in
theorem ggX12_nextTops_X12_topIn : GoodIn wsX12_nextTops wsX12_topIn := goodIn_r _ [5] (by decide +kernel) (by decide +kernel)
set_option maxRecDepth 20000 in
theorem gX12_nextTops_X12_topIn : GoodIn wsX12_nextTops (va_wsS RX12 446 yX12_topIn wsX12_topIn) := goodIn_app (goodIn_of _ (by decide +kernel)) ggX12_nextTops_X12_topIn
set_option maxRecDepth 20000 in
theorem ggX12_nextTops_X12_of : GoodIn wsX12_nextTops wsX12_of := goodIn_r _ [9, 10, 11, 12, 13, 14, 15, 16, 17, 18, 19, 20, 21, 22, 23, 24, 25, 26, 27, 28, 29, 30, 31, 32, 33, 34, 35, 36, 37, 38, 39, 40, 41, 42, 43, 44, 45, 46, 47, 48, 49, 50, 51, 52, 53, 54, 55, 56, 57, 58, 59, 60, 61, 62, 63, 64, 65, 66, 67, 68, 69, 70, 71, 72] (by decide +kernel) (by decide +kernel)
set_option maxRecDepth 20000 in
theorem gX12_nextTops_X12_of : GoodIn wsX12_nextTops (wsV RX12 255 RX12 yX12_of wsX12_of) := goodIn_app (goodIn_of _ (by decide +kernel)) ggX12_nextTops_X12_of
theorem dX12_nextTops_0 : decode cX12_nextTops 0 = .ok (.iload_n 1, 1) := by decide +kernel
theorem dX12_nextTops_1 : decode cX12_nextTops 1 = .ok (.istore_n 2, 1) := by decide +kernel
theorem dX12_nextTops_2 : decode cX12_nextTops 2 = .ok (.aload_n 0, 1) := by decide +kernel
theorem dX12_nextTops_3 : decode cX12_nextTops 3 = .ok (.getfield 259, 3) := by decide +kernel
theorem dX12_nextTops_6 : decode cX12_nextTops 6 = .ok (.iconst 1, 1) := by decide +kernel
theorem dX12_nextTops_7 : decode cX12_nextTops 7 = .ok (.isub, 1) := by decide +kernel
theorem dX12_nextTops_8 : decode cX12_nextTops 8 = .ok (.istore_n 3, 1) := by decide +kernel
theorem dX12_nextTops_9 : decode cX12_nextTops 9 = .ok (.iload_n 3, 1) := by decide +kernel
theorem dX12_nextTops_10 : decode cX12_nextTops 10 = .ok (.ifCond .lt 43, 3) := by decide +kernel
theorem dX12_nextTops_13 : decode cX12_nextTops 13 = .ok (.iload_n 2, 1) := by decide +kernel
theorem dX12_nextTops_14 : decode cX12_nextTops 14 = .ok (.iload_n 3, 1) := by decide +kernel
theorem dX12_nextTops_15 : decode cX12_nextTops 15 = .ok (.invokestatic 446, 3) := by decide +kernel
theorem dX12_nextTops_18 : decode cX12_nextTops 18 = .ok (.aload_n 0, 1) := by decide +kernel
theorem dX12_nextTops_19 : decode cX12_nextTops 19 = .ok (.iconst 1, 1) := by decide +kernel
theorem dX12_nextTops_20 : decode cX12_nextTops 20 = .ok (.iload_n 3, 1) := by decide +kernel
theorem dX12_nextTops_21 : decode cX12_nextTops 21 = .ok (.iadd, 1) := by decide +kernel
theorem dX12_nextTops_22 : decode cX12_nextTops 22 = .ok (.invokevirtual 255, 3) := by decide +kernel
theorem dX12_nextTops_25 : decode cX12_nextTops 25 = .ok (.if_icmp .ge 11, 3) := by decide +kernel
theorem dX12_nextTops_28 : decode cX12_nextTops 28 = .ok (.iload_n 2, 1) := by decide +kernel
theorem dX12_nextTops_29 : decode cX12_nextTops 29 = .ok (.iconst 1, 1) := by decide +kernel
theorem dX12_nextTops_30 : decode cX12_nextTops 30 = .ok (.iconst 3, 1) := by decide +kernel
theorem dX12_nextTops_31 : decode cX12_nextTops 31 = .ok (.iload_n 3, 1) := by decide +kernel
theorem dX12_nextTops_32 : decode cX12_nextTops 32 = .ok (.imul, 1) := by decide +kernel
theorem dX12_nextTops_33 : decode cX12_nextTops 33 = .ok (.ishl, 1) := by decide +kernel
theorem dX12_nextTops_34 : decode cX12_nextTops 34 = .ok (.iadd, 1) := by decide +kernel
theorem dX12_nextTops_35 : decode cX12_nextTops 35 = .ok (.ireturn, 1) := by decide +kernel
theorem dX12_nextTops_36 : decode cX12_nextTops 36 = .ok (.iload_n 2, 1) := by decide +kernel
theorem dX12_nextTops_37 : decode cX12_nextTops 37 = .ok (.bipush 7, 2) := by decide +kernel
theorem dX12_nextTops_39 : decode cX12_nextTops 39 = .ok (.iconst 3, 1) := by decide +kernel
theorem dX12_nextTops_40 : decode cX12_nextTops 40 = .ok (.iload_n 3, 1) := by decide +kernel
theorem dX12_nextTops_41 : decode cX12_nextTops 41 = .ok (.imul, 1) := by decide +kernel
theorem dX12_nextTops_42 : decode cX12_nextTops 42 = .ok (.ishl, 1) := by decide +kernel
theorem dX12_nextTops_43 : decode cX12_nextTops 43 = .ok (.iconst (-1), 1) := by decide +kernel
theorem dX12_nextTops_44 : decode cX12_nextTops 44 = .ok (.ixor, 1) := by decide +kernel
theorem dX12_nextTops_45 : decode cX12_nextTops 45 = .ok (.iand, 1) := by decide +kernel
theorem dX12_nextTops_46 : decode cX12_nextTops 46 = .ok (.istore_n 2, 1) := by decide +kernel
theorem dX12_nextTops_47 : decode cX12_nextTops 47 = .ok (.iinc 3 (-1), 3) := by decide +kernel
theorem dX12_nextTops_50 : decode cX12_nextTops 50 = .ok (.goto (-41), 3) := by decide +kernel
theorem dX12_nextTops_53 : decode cX12_nextTops 53 = .ok (.iconst (-1), 1) := by decide +kernel
theorem dX12_nextTops_54 : decode cX12_nextTops 54 = .ok (.ireturn, 1) := by decide +kernel
set_option maxRecDepth 20000 in
theorem ggX12_findTops_X12_playBy : GoodIn wsX12_findTops wsX12_playBy := goodIn_r _ [11, 12, 13, 14, 15, 16, 17, 10, 18, 19, 20, 21, 22, 23, 24, 25, 26, 27, 28, 29, 30, 31, 32, 33, 34, 35, 36, 37, 38, 39, 40, 41, 42, 43, 44, 45, 46, 47, 48, 49, 50, 51, 52, 53, 54, 55, 56, 57, 58, 59, 60, 61, 62, 63, 64, 65, 66, 67, 68, 69, 70, 71, 72, 73, 74, 75, 76, 77, 78, 79, 80, 81, 82, 83, 84, 85, 111, 112, 113, 114, 115, 116, 117, 118, 119, 120, 121, 122, 123, 124, 125, 126, 127, 128, 129, 130, 131, 132, 133, 134, 135, 136, 137, 138, 139, 140, 141, 142, 143, 144, 145, 146, 147, 148, 149, 150, 151, 152, 153, 154, 155, 156, 157, 158, 159, 160, 161, 162, 163, 164, 165, 166, 167, 168, 169, 170, 171] (by decide +kernel) (by decide +kernel)
set_option maxRecDepth 20000 in
theorem gX12_findTops_X12_playBy : GoodIn wsX12_findTops (wsV RX12 461 RX12 yX12_playBy wsX12_playBy) := goodIn_app (goodIn_of _ (by decide +kernel)) ggX12_findTops_X12_playBy
set_option maxRecDepth 20000 in
theorem ggX12_findTops_X12_isSo : GoodIn wsX12_findTops wsX12_isSo := goodIn_r _ [89, 41, 90, 91, 92, 10, 93, 94, 95, 96, 97, 98, 99, 21, 22, 23, 111, 112, 113, 114, 115, 116, 117, 118, 119, 120, 121, 122, 123, 124, 125, 126, 127, 128, 129, 130, 131, 132, 133, 134, 135, 136, 137, 138, 139, 140, 141, 142, 143, 144, 145, 146, 147, 148, 149, 150, 151, 152, 153, 154, 155, 156, 157, 158, 159, 160, 161, 162, 163, 164, 165, 166, 167, 168, 169, 170, 171] (by decide +kernel) (by decide +kernel)
set_option maxRecDepth 20000 in
theorem gX12_findTops_X12_isSo : GoodIn wsX12_findTops (wsV RX12 464 RX12 yX12_isSo wsX12_isSo) := goodIn_app (goodIn_of _ (by decide +kernel)) ggX12_findTops_X12_isSo
set_option maxRecDepth 20000 in
theorem ggX12_findTops_X12_noteFit : GoodIn wsX12_findTops wsX12_noteFit := goodIn_r _ [103, 72, 5, 3, 4, 1, 2, 6, 41, 104, 105, 10, 106, 24, 25, 26, 27, 28, 29, 111, 112, 113, 114, 115, 116, 117, 118, 119, 120, 121, 122, 123, 124, 125, 126, 127, 128, 129, 130, 131, 132, 133, 134, 135, 136, 137, 138, 139, 140, 141, 142, 143, 144, 145, 146, 147, 148, 149, 150, 151, 152, 153, 154, 155, 156, 157, 158, 159, 160, 161, 162, 163, 164, 165, 166, 167, 168, 169, 170, 171] (by decide +kernel) (by decide +kernel)
set_option maxRecDepth 20000 in
theorem gX12_findTops_X12_noteFit : GoodIn wsX12_findTops (wsV RX12 467 RX12 yX12_noteFit wsX12_noteFit) := goodIn_app (goodIn_of _ (by decide +kernel)) ggX12_findTops_X12_noteFit
set_option maxRecDepth 20000 in
theorem ggX12_findTops_X12_nextTops : GoodIn wsX12_findTops wsX12_nextTops := goodIn_r _ [110, 72, 104, 105, 10, 106, 24, 25, 26, 27, 28, 29, 111, 112, 113, 114, 115, 116, 117, 118, 119, 120, 121, 122, 123, 124, 125, 126, 127, 128, 129, 130, 131, 132, 133, 134, 135, 136, 137, 138, 139, 140, 141, 142, 143, 144, 145, 146, 147, 148, 149, 150, 151, 152, 153, 154, 155, 156, 157, 158, 159, 160, 161, 162, 163, 164, 165, 166, 167, 168, 169, 170, 171] (by decide +kernel) (by decide +kernel)
set_option maxRecDepth 20000 in
theorem gX12_findTops_X12_nextTops : GoodIn wsX12_findTops (wsV RX12 470 RX12 yX12_nextTops wsX12_nextTops) := goodIn_app (goodIn_of _ (by decide +kernel)) ggX12_findTops_X12_nextTops
theorem dX12_findTops_0 : decode cX12_findTops 0 = .ok (.aload_n 0, 1) := by decide +kernel
theorem dX12_findTops_1 : decode cX12_findTops 1 = .ok (.iconst 0, 1) := by decide +kernel
theorem dX12_findTops_2 : decode cX12_findTops 2 = .ok (.putfield 455, 3) := by decide +kernel
theorem dX12_findTops_5 : decode cX12_findTops 5 = .ok (.aload_n 0, 1) := by decide +kernel
theorem dX12_findTops_6 : decode cX12_findTops 6 = .ok (.bipush (-2), 2) := by decide +kernel
theorem dX12_findTops_8 : decode cX12_findTops 8 = .ok (.putfield 458, 3) := by decide +kernel
theorem dX12_findTops_11 : decode cX12_findTops 11 = .ok (.aload_n 0, 1) := by decide +kernel
theorem dX12_findTops_12 : decode cX12_findTops 12 = .ok (.iconst 0, 1) := by decide +kernel
theorem dX12_findTops_13 : decode cX12_findTops 13 = .ok (.putfield 449, 3) := by decide +kernel
theorem dX12_findTops_16 : decode cX12_findTops 16 = .ok (.aload_n 0, 1) := by decide +kernel
theorem dX12_findTops_17 : decode cX12_findTops 17 = .ok (.iconst 0, 1) := by decide +kernel
theorem dX12_findTops_18 : decode cX12_findTops 18 = .ok (.putfield 452, 3) := by decide +kernel
theorem dX12_findTops_21 : decode cX12_findTops 21 = .ok (.iconst 0, 1) := by decide +kernel
theorem dX12_findTops_22 : decode cX12_findTops 22 = .ok (.istore_n 2, 1) := by decide +kernel
theorem dX12_findTops_23 : decode cX12_findTops 23 = .ok (.iload_n 2, 1) := by decide +kernel
theorem dX12_findTops_24 : decode cX12_findTops 24 = .ok (.iconst 4, 1) := by decide +kernel
theorem dX12_findTops_25 : decode cX12_findTops 25 = .ok (.if_icmp .ge 16, 3) := by decide +kernel
theorem dX12_findTops_28 : decode cX12_findTops 28 = .ok (.aload_n 0, 1) := by decide +kernel
theorem dX12_findTops_29 : decode cX12_findTops 29 = .ok (.getfield 88, 3) := by decide +kernel
theorem dX12_findTops_32 : decode cX12_findTops 32 = .ok (.iload_n 2, 1) := by decide +kernel
theorem dX12_findTops_33 : decode cX12_findTops 33 = .ok (.iconst 0, 1) := by decide +kernel
theorem dX12_findTops_34 : decode cX12_findTops 34 = .ok (.iastore, 1) := by decide +kernel
theorem dX12_findTops_35 : decode cX12_findTops 35 = .ok (.iinc 2 1, 3) := by decide +kernel
theorem dX12_findTops_38 : decode cX12_findTops 38 = .ok (.goto (-15), 3) := by decide +kernel
theorem dX12_findTops_41 : decode cX12_findTops 41 = .ok (.iconst 0, 1) := by decide +kernel
theorem dX12_findTops_42 : decode cX12_findTops 42 = .ok (.istore_n 2, 1) := by decide +kernel
theorem dX12_findTops_43 : decode cX12_findTops 43 = .ok (.iload_n 2, 1) := by decide +kernel
theorem dX12_findTops_44 : decode cX12_findTops 44 = .ok (.bipush 41, 2) := by decide +kernel
theorem dX12_findTops_46 : decode cX12_findTops 46 = .ok (.if_icmp .ge 16, 3) := by decide +kernel
theorem dX12_findTops_49 : decode cX12_findTops 49 = .ok (.aload_n 0, 1) := by decide +kernel
theorem dX12_findTops_50 : decode cX12_findTops 50 = .ok (.getfield 91, 3) := by decide +kernel
theorem dX12_findTops_53 : decode cX12_findTops 53 = .ok (.iload_n 2, 1) := by decide +kernel
theorem dX12_findTops_54 : decode cX12_findTops 54 = .ok (.iconst 0, 1) := by decide +kernel
theorem dX12_findTops_55 : decode cX12_findTops 55 = .ok (.iastore, 1) := by decide +kernel
theorem dX12_findTops_56 : decode cX12_findTops 56 = .ok (.iinc 2 1, 3) := by decide +kernel
theorem dX12_findTops_59 : decode cX12_findTops 59 = .ok (.goto (-16), 3) := by decide +kernel
theorem dX12_findTops_62 : decode cX12_findTops 62 = .ok (.iconst 0, 1) := by decide +kernel
theorem dX12_findTops_63 : decode cX12_findTops 63 = .ok (.istore_n 2, 1) := by decide +kernel
theorem dX12_findTops_64 : decode cX12_findTops 64 = .ok (.iload_n 2, 1) := by decide +kernel
theorem dX12_findTops_65 : decode cX12_findTops 65 = .ok (.iconst (-1), 1) := by decide +kernel
theorem dX12_findTops_66 : decode cX12_findTops 66 = .ok (.if_icmp .eq 30, 3) := by decide +kernel
theorem dX12_findTops_69 : decode cX12_findTops 69 = .ok (.aload_n 0, 1) := by decide +kernel
theorem dX12_findTops_70 : decode cX12_findTops 70 = .ok (.iload_n 2, 1) := by decide +kernel
theorem dX12_findTops_71 : decode cX12_findTops 71 = .ok (.invokevirtual 461, 3) := by decide +kernel
theorem dX12_findTops_74 : decode cX12_findTops 74 = .ok (.aload_n 0, 1) := by decide +kernel
theorem dX12_findTops_75 : decode cX12_findTops 75 = .ok (.invokevirtual 464, 3) := by decide +kernel
theorem dX12_findTops_78 : decode cX12_findTops 78 = .ok (.ifCond .eq 9, 3) := by decide +kernel
theorem dX12_findTops_81 : decode cX12_findTops 81 = .ok (.aload_n 0, 1) := by decide +kernel
theorem dX12_findTops_82 : decode cX12_findTops 82 = .ok (.iload_n 2, 1) := by decide +kernel
theorem dX12_findTops_83 : decode cX12_findTops 83 = .ok (.iload_n 1, 1) := by decide +kernel
theorem dX12_findTops_84 : decode cX12_findTops 84 = .ok (.invokevirtual 467, 3) := by decide +kernel
theorem dX12_findTops_87 : decode cX12_findTops 87 = .ok (.aload_n 0, 1) := by decide +kernel
theorem dX12_findTops_88 : decode cX12_findTops 88 = .ok (.iload_n 2, 1) := by decide +kernel
theorem dX12_findTops_89 : decode cX12_findTops 89 = .ok (.invokevirtual 470, 3) := by decide +kernel
theorem dX12_findTops_92 : decode cX12_findTops 92 = .ok (.istore_n 2, 1) := by decide +kernel
theorem dX12_findTops_93 : decode cX12_findTops 93 = .ok (.goto (-29), 3) := by decide +kernel
theorem dX12_findTops_96 : decode cX12_findTops 96 = .ok (.return_, 1) := by decide +kernel
set_option maxRecDepth 20000 in
theorem ggX12_askWhen_X12_greater : GoodIn wsX12_askWhen wsX12_greater := goodIn_r _ [6] (by decide +kernel) (by decide +kernel)
set_option maxRecDepth 20000 in
theorem gX12_askWhen_X12_greater : GoodIn wsX12_askWhen (va_wsS RX12 186 yX12_greater wsX12_greater) := goodIn_app (goodIn_of _ (by decide +kernel)) ggX12_askWhen_X12_greater
theorem dX12_askWhen_0 : decode cX12_askWhen 0 = .ok (.iconst (-1), 1) := by decide +kernel
theorem dX12_askWhen_1 : decode cX12_askWhen 1 = .ok (.istore_n 1, 1) := by decide +kernel
theorem dX12_askWhen_2 : decode cX12_askWhen 2 = .ok (.iconst 1, 1) := by decide +kernel
theorem dX12_askWhen_3 : decode cX12_askWhen 3 = .ok (.istore_n 2, 1) := by decide +kernel
theorem dX12_askWhen_4 : decode cX12_askWhen 4 = .ok (.iload_n 2, 1) := by decide +kernel
theorem dX12_askWhen_5 : decode cX12_askWhen 5 = .ok (.bipush 41, 2) := by decide +kernel
theorem dX12_askWhen_7 : decode cX12_askWhen 7 = .ok (.if_icmp .ge 80, 3) := by decide +kernel
theorem dX12_askWhen_10 : decode cX12_askWhen 10 = .ok (.aload_n 0, 1) := by decide +kernel
theorem dX12_askWhen_11 : decode cX12_askWhen 11 = .ok (.getfield 455, 3) := by decide +kernel
theorem dX12_askWhen_14 : decode cX12_askWhen 14 = .ok (.ifCond .le 73, 3) := by decide +kernel
theorem dX12_askWhen_17 : decode cX12_askWhen 17 = .ok (.iload_n 1, 1) := by decide +kernel
theorem dX12_askWhen_18 : decode cX12_askWhen 18 = .ok (.iconst (-1), 1) := by decide +kernel
theorem dX12_askWhen_19 : decode cX12_askWhen 19 = .ok (.if_icmp .eq 46, 3) := by decide +kernel
theorem dX12_askWhen_22 : decode cX12_askWhen 22 = .ok (.aload_n 0, 1) := by decide +kernel
theorem dX12_askWhen_23 : decode cX12_askWhen 23 = .ok (.getfield 91, 3) := by decide +kernel
theorem dX12_askWhen_26 : decode cX12_askWhen 26 = .ok (.iload_n 2, 1) := by decide +kernel
theorem dX12_askWhen_27 : decode cX12_askWhen 27 = .ok (.iaload, 1) := by decide +kernel
theorem dX12_askWhen_28 : decode cX12_askWhen 28 = .ok (.aload_n 0, 1) := by decide +kernel
theorem dX12_askWhen_29 : decode cX12_askWhen 29 = .ok (.getfield 455, 3) := by decide +kernel
theorem dX12_askWhen_32 : decode cX12_askWhen 32 = .ok (.aload_n 0, 1) := by decide +kernel
theorem dX12_askWhen_33 : decode cX12_askWhen 33 = .ok (.getfield 91, 3) := by decide +kernel
theorem dX12_askWhen_36 : decode cX12_askWhen 36 = .ok (.iload_n 2, 1) := by decide +kernel
theorem dX12_askWhen_37 : decode cX12_askWhen 37 = .ok (.iaload, 1) := by decide +kernel
theorem dX12_askWhen_38 : decode cX12_askWhen 38 = .ok (.isub, 1) := by decide +kernel
theorem dX12_askWhen_39 : decode cX12_askWhen 39 = .ok (.invokestatic 186, 3) := by decide +kernel
theorem dX12_askWhen_42 : decode cX12_askWhen 42 = .ok (.aload_n 0, 1) := by decide +kernel
theorem dX12_askWhen_43 : decode cX12_askWhen 43 = .ok (.getfield 91, 3) := by decide +kernel
theorem dX12_askWhen_46 : decode cX12_askWhen 46 = .ok (.iload_n 1, 1) := by decide +kernel
theorem dX12_askWhen_47 : decode cX12_askWhen 47 = .ok (.iaload, 1) := by decide +kernel
theorem dX12_askWhen_48 : decode cX12_askWhen 48 = .ok (.aload_n 0, 1) := by decide +kernel
theorem dX12_askWhen_49 : decode cX12_askWhen 49 = .ok (.getfield 455, 3) := by decide +kernel
theorem dX12_askWhen_52 : decode cX12_askWhen 52 = .ok (.aload_n 0, 1) := by decide +kernel
theorem dX12_askWhen_53 : decode cX12_askWhen 53 = .ok (.getfield 91, 3) := by decide +kernel
theorem dX12_askWhen_56 : decode cX12_askWhen 56 = .ok (.iload_n 1, 1) := by decide +kernel
theorem dX12_askWhen_57 : decode cX12_askWhen 57 = .ok (.iaload, 1) := by decide +kernel
theorem dX12_askWhen_58 : decode cX12_askWhen 58 = .ok (.isub, 1) := by decide +kernel
theorem dX12_askWhen_59 : decode cX12_askWhen 59 = .ok (.invokestatic 186, 3) := by decide +kernel
theorem dX12_askWhen_62 : decode cX12_askWhen 62 = .ok (.if_icmp .ge 7, 3) := by decide +kernel
theorem dX12_askWhen_65 : decode cX12_askWhen 65 = .ok (.iconst 1, 1) := by decide +kernel
theorem dX12_askWhen_66 : decode cX12_askWhen 66 = .ok (.goto 4, 3) := by decide +kernel
theorem dX12_askWhen_69 : decode cX12_askWhen 69 = .ok (.iconst 0, 1) := by decide +kernel
theorem dX12_askWhen_70 : decode cX12_askWhen 70 = .ok (.istore_n 3, 1) := by decide +kernel
theorem dX12_askWhen_71 : decode cX12_askWhen 71 = .ok (.iload_n 3, 1) := by decide +kernel
theorem dX12_askWhen_72 : decode cX12_askWhen 72 = .ok (.ifCond .eq 7, 3) := by decide +kernel
theorem dX12_askWhen_75 : decode cX12_askWhen 75 = .ok (.iload_n 2, 1) := by decide +kernel
theorem dX12_askWhen_76 : decode cX12_askWhen 76 = .ok (.goto 4, 3) := by decide +kernel
theorem dX12_askWhen_79 : decode cX12_askWhen 79 = .ok (.iload_n 1, 1) := by decide +kernel
theorem dX12_askWhen_80 : decode cX12_askWhen 80 = .ok (.istore_n 1, 1) := by decide +kernel
theorem dX12_askWhen_81 : decode cX12_askWhen 81 = .ok (.iinc 2 1, 3) := by decide +kernel
theorem dX12_askWhen_84 : decode cX12_askWhen 84 = .ok (.goto (-80), 3) := by decide +kernel
theorem dX12_askWhen_87 : decode cX12_askWhen 87 = .ok (.iload_n 1, 1) := by decide +kernel
theorem dX12_askWhen_88 : decode cX12_askWhen 88 = .ok (.ireturn, 1) := by decide +kernel
theorem dX12_sure_0 : decode cX12_sure 0 = .ok (.iconst 0, 1) := by decide +kernel
theorem dX12_sure_1 : decode cX12_sure 1 = .ok (.istore_n 2, 1) := by decide +kernel
theorem dX12_sure_2 : decode cX12_sure 2 = .ok (.iload_n 2, 1) := by decide +kernel
theorem dX12_sure_3 : decode cX12_sure 3 = .ok (.bipush 8, 2) := by decide +kernel
theorem dX12_sure_5 : decode cX12_sure 5 = .ok (.if_icmp .ge 23, 3) := by decide +kernel
theorem dX12_sure_8 : decode cX12_sure 8 = .ok (.aload_n 0, 1) := by decide +kernel
theorem dX12_sure_9 : decode cX12_sure 9 = .ok (.getfield 88, 3) := by decide +kernel
theorem dX12_sure_12 : decode cX12_sure 12 = .ok (.iload_n 1, 1) := by decide +kernel
theorem dX12_sure_13 : decode cX12_sure 13 = .ok (.iaload, 1) := by decide +kernel
theorem dX12_sure_14 : decode cX12_sure 14 = .ok (.iconst 1, 1) := by decide +kernel
theorem dX12_sure_15 : decode cX12_sure 15 = .ok (.iload_n 2, 1) := by decide +kernel
theorem dX12_sure_16 : decode cX12_sure 16 = .ok (.ishl, 1) := by decide +kernel
theorem dX12_sure_17 : decode cX12_sure 17 = .ok (.if_icmp .ne 5, 3) := by decide +kernel
theorem dX12_sure_20 : decode cX12_sure 20 = .ok (.iload_n 2, 1) := by decide +kernel
theorem dX12_sure_21 : decode cX12_sure 21 = .ok (.ireturn, 1) := by decide +kernel
theorem dX12_sure_22 : decode cX12_sure 22 = .ok (.iinc 2 1, 3) := by decide +kernel
theorem dX12_sure_25 : decode cX12_sure 25 = .ok (.goto (-23), 3) := by decide +kernel
theorem dX12_sure_28 : decode cX12_sure 28 = .ok (.iconst (-1), 1) := by decide +kernel
theorem dX12_sure_29 : decode cX12_sure 29 = .ok (.ireturn, 1) := by decide +kernel
set_option maxRecDepth 20000 in
theorem ggX12_fits_X12_hasDay : GoodIn wsX12_fits wsX12_hasDay := goodIn_r _ [10, 11, 12, 13, 14, 9, 15, 16, 17, 18, 19, 141, 142, 143, 144, 145, 146, 147, 148, 149, 150, 151, 152, 153, 154, 155, 156, 157, 158, 159, 160, 161, 162, 163, 164, 165, 166, 167, 168, 169, 170, 171, 172, 173, 174, 175, 176, 177, 178, 179, 180, 181, 182, 183, 184, 185, 186, 187, 188, 189, 190, 191, 192, 193, 194, 195, 196, 197, 198, 199, 200, 201] (by decide +kernel) (by decide +kernel)
set_option maxRecDepth 20000 in
theorem gX12_fits_X12_hasDay : GoodIn wsX12_fits (wsV RX12 274 RX12 yX12_hasDay wsX12_hasDay) := goodIn_app (goodIn_of _ (by decide +kernel)) ggX12_fits_X12_hasDay
set_option maxRecDepth 20000 in
theorem ggX12_fits_X12_hasLog : GoodIn wsX12_fits wsX12_hasLog := goodIn_r _ [23, 24, 12, 13, 14, 9, 15, 16, 17, 18, 19, 141, 142, 143, 144, 145, 146, 147, 148, 149, 150, 151, 152, 153, 154, 155, 156, 157, 158, 159, 160, 161, 162, 163, 164, 165, 166, 167, 168, 169, 170, 171, 172, 173, 174, 175, 176, 177, 178, 179, 180, 181, 182, 183, 184, 185, 186, 187, 188, 189, 190, 191, 192, 193, 194, 195, 196, 197, 198, 199, 200, 201] (by decide +kernel) (by decide +kernel)
set_option maxRecDepth 20000 in
theorem gX12_fits_X12_hasLog : GoodIn wsX12_fits (wsV RX12 437 RX12 yX12_hasLog wsX12_hasLog) := goodIn_app (goodIn_of _ (by decide +kernel)) ggX12_fits_X12_hasLog
set_option maxRecDepth 20000 in
theorem ggX12_fits_X12_hand : GoodIn wsX12_fits wsX12_hand := goodIn_r _ [28, 29, 30, 12, 13, 14, 9, 15, 16, 17, 18, 19, 31, 32, 33, 34, 35, 36, 37, 38, 39, 40, 41, 42, 43, 44, 45, 46, 141, 142, 143, 144, 145, 146, 147, 148, 149, 150, 151, 152, 153, 154, 155, 156, 157, 158, 159, 160, 161, 162, 163, 164, 165, 166, 167, 168, 169, 170, 171, 172, 173, 174, 175, 176, 177, 178, 179, 180, 181, 182, 183, 184, 185, 186, 187, 188, 189, 190, 191, 192, 193, 194, 195, 196, 197, 198, 199, 200, 201] (by decide +kernel) (by decide +kernel)
set_option maxRecDepth 20000 in
theorem gX12_fits_X12_hand : GoodIn wsX12_fits (wsV RX12 265 RX12 yX12_hand wsX12_hand) := goodIn_app (goodIn_of _ (by decide +kernel)) ggX12_fits_X12_hand
set_option maxRecDepth 20000 in
theorem ggX12_fits_X12_findTops : GoodIn wsX12_fits wsX12_findTops := goodIn_r _ [50, 3, 2, 4, 5, 51, 52, 53, 54, 55, 9, 56, 40, 43, 57, 36, 37, 38, 39, 41, 42, 44, 45, 46, 31, 32, 33, 34, 35, 29, 58, 59, 60, 61, 62, 63, 64, 65, 66, 67, 68, 69, 70, 71, 72, 73, 74, 11, 75, 76, 77, 78, 79, 80, 81, 82, 83, 84, 85, 86, 87, 88, 89, 90, 91, 92, 93, 94, 95, 96, 97, 98, 30, 99, 100, 101, 102, 103, 104, 105, 106, 107, 108, 17, 18, 19, 109, 110, 111, 112, 113, 114, 115, 116, 117, 24, 118, 119, 120, 121, 122, 123, 124, 125, 126, 127, 128, 129, 130, 131, 132, 141, 142, 143, 144, 145, 146, 147, 148, 149, 150, 151, 152, 153, 154, 155, 156, 157, 158, 159, 160, 161, 162, 163, 164, 165, 166, 167, 168, 169, 170, 171, 172, 173, 174, 175, 176, 177, 178, 179, 180, 181, 182, 183, 184, 185, 186, 187, 188, 189, 190, 191, 192, 193, 194, 195, 196, 197, 198, 199, 200, 201] (by decide +kernel) (by decide +kernel)
set_option maxRecDepth 20000 in
theorem gX12_fits_X12_findTops : GoodIn wsX12_fits (wsV RX12 473 RX12 yX12_findTops wsX12_findTops) := goodIn_app (goodIn_of _ (by decide +kernel)) ggX12_fits_X12_findTops
set_option maxRecDepth 20000 in
theorem ggX12_fits_X12_in : GoodIn wsX12_fits wsX12_in := goodIn_r _ [19] (by decide +kernel) (by decide +kernel)
set_option maxRecDepth 20000 in
theorem gX12_fits_X12_in : GoodIn wsX12_fits (va_wsS RX12 110 yX12_in wsX12_in) := goodIn_app (goodIn_of _ (by decide +kernel)) ggX12_fits_X12_in
set_option maxRecDepth 20000 in
theorem ggX12_fits_X12_sure : GoodIn wsX12_fits wsX12_sure := goodIn_r _ [136, 51, 141, 142, 143, 144, 145, 146, 147, 148, 149, 150, 151, 152, 153, 154, 155, 156, 157, 158, 159, 160, 161, 162, 163, 164, 165, 166, 167, 168, 169, 170, 171, 172, 173, 174, 175, 176, 177, 178, 179, 180, 181, 182, 183, 184, 185, 186, 187, 188, 189, 190, 191, 192, 193, 194, 195, 196, 197, 198, 199, 200, 201] (by decide +kernel) (by decide +kernel)
set_option maxRecDepth 20000 in
theorem gX12_fits_X12_sure : GoodIn wsX12_fits (wsV RX12 476 RX12 yX12_sure wsX12_sure) := goodIn_app (goodIn_of _ (by decide +kernel)) ggX12_fits_X12_sure
set_option maxRecDepth 20000 in
theorem ggX12_fits_X12_askWhen : GoodIn wsX12_fits wsX12_askWhen := goodIn_r _ [140, 3, 52, 102, 103, 9, 104, 141, 142, 143, 144, 145, 146, 147, 148, 149, 150, 151, 152, 153, 154, 155, 156, 157, 158, 159, 160, 161, 162, 163, 164, 165, 166, 167, 168, 169, 170, 171, 172, 173, 174, 175, 176, 177, 178, 179, 180, 181, 182, 183, 184, 185, 186, 187, 188, 189, 190, 191, 192, 193, 194, 195, 196, 197, 198, 199, 200, 201] (by decide +kernel) (by decide +kernel)
set_option maxRecDepth 20000 in
theorem gX12_fits_X12_askWhen : GoodIn wsX12_fits (wsV RX12 479 RX12 yX12_askWhen wsX12_askWhen) := goodIn_app (goodIn_of _ (by decide +kernel)) ggX12_fits_X12_askWhen
theorem dX12_fits_0 : decode cX12_fits 0 = .ok (.aload_n 0, 1) := by decide +kernel
theorem dX12_fits_1 : decode cX12_fits 1 = .ok (.iconst 0, 1) := by decide +kernel
theorem dX12_fits_2 : decode cX12_fits 2 = .ok (.putfield 98, 3) := by decide +kernel
theorem dX12_fits_5 : decode cX12_fits 5 = .ok (.aload_n 0, 1) := by decide +kernel
theorem dX12_fits_6 : decode cX12_fits 6 = .ok (.iload_n 2, 1) := by decide +kernel
theorem dX12_fits_7 : decode cX12_fits 7 = .ok (.invokevirtual 274, 3) := by decide +kernel
theorem dX12_fits_10 : decode cX12_fits 10 = .ok (.ifCond .eq 19, 3) := by decide +kernel
theorem dX12_fits_13 : decode cX12_fits 13 = .ok (.aload_n 0, 1) := by decide +kernel
theorem dX12_fits_14 : decode cX12_fits 14 = .ok (.iload_n 3, 1) := by decide +kernel
theorem dX12_fits_15 : decode cX12_fits 15 = .ok (.invokevirtual 437, 3) := by decide +kernel
theorem dX12_fits_18 : decode cX12_fits 18 = .ok (.ifCond .eq 11, 3) := by decide +kernel
theorem dX12_fits_21 : decode cX12_fits 21 = .ok (.aload_n 0, 1) := by decide +kernel
theorem dX12_fits_22 : decode cX12_fits 22 = .ok (.iload_n 1, 1) := by decide +kernel
theorem dX12_fits_23 : decode cX12_fits 23 = .ok (.invokevirtual 265, 3) := by decide +kernel
theorem dX12_fits_26 : decode cX12_fits 26 = .ok (.ifCond .ne 6, 3) := by decide +kernel
theorem dX12_fits_29 : decode cX12_fits 29 = .ok (.bipush (-2), 2) := by decide +kernel
theorem dX12_fits_31 : decode cX12_fits 31 = .ok (.ireturn, 1) := by decide +kernel
theorem dX12_fits_32 : decode cX12_fits 32 = .ok (.aload_n 0, 1) := by decide +kernel
theorem dX12_fits_33 : decode cX12_fits 33 = .ok (.iload 4, 2) := by decide +kernel
theorem dX12_fits_35 : decode cX12_fits 35 = .ok (.bipush 10, 2) := by decide +kernel
theorem dX12_fits_37 : decode cX12_fits 37 = .ok (.isub, 1) := by decide +kernel
theorem dX12_fits_38 : decode cX12_fits 38 = .ok (.invokevirtual 473, 3) := by decide +kernel
theorem dX12_fits_41 : decode cX12_fits 41 = .ok (.iload 4, 2) := by decide +kernel
theorem dX12_fits_43 : decode cX12_fits 43 = .ok (.bipush 10, 2) := by decide +kernel
theorem dX12_fits_45 : decode cX12_fits 45 = .ok (.if_icmp .lt 8, 3) := by decide +kernel
theorem dX12_fits_48 : decode cX12_fits 48 = .ok (.aload_n 0, 1) := by decide +kernel
theorem dX12_fits_49 : decode cX12_fits 49 = .ok (.getfield 458, 3) := by decide +kernel
theorem dX12_fits_52 : decode cX12_fits 52 = .ok (.ireturn, 1) := by decide +kernel
theorem dX12_fits_53 : decode cX12_fits 53 = .ok (.iload 4, 2) := by decide +kernel
theorem dX12_fits_55 : decode cX12_fits 55 = .ok (.iconst 4, 1) := by decide +kernel
theorem dX12_fits_56 : decode cX12_fits 56 = .ok (.bipush 7, 2) := by decide +kernel
theorem dX12_fits_58 : decode cX12_fits 58 = .ok (.invokestatic 110, 3) := by decide +kernel
theorem dX12_fits_61 : decode cX12_fits 61 = .ok (.ifCond .eq 12, 3) := by decide +kernel
theorem dX12_fits_64 : decode cX12_fits 64 = .ok (.aload_n 0, 1) := by decide +kernel
theorem dX12_fits_65 : decode cX12_fits 65 = .ok (.iload 4, 2) := by decide +kernel
theorem dX12_fits_67 : decode cX12_fits 67 = .ok (.iconst 4, 1) := by decide +kernel
theorem dX12_fits_68 : decode cX12_fits 68 = .ok (.isub, 1) := by decide +kernel
theorem dX12_fits_69 : decode cX12_fits 69 = .ok (.invokevirtual 476, 3) := by decide +kernel
theorem dX12_fits_72 : decode cX12_fits 72 = .ok (.ireturn, 1) := by decide +kernel
theorem dX12_fits_73 : decode cX12_fits 73 = .ok (.iload 4, 2) := by decide +kernel
theorem dX12_fits_75 : decode cX12_fits 75 = .ok (.tableswitch 49 0 3 #[29, 34, 39, 44], 29) := by decide +kernel
theorem dX12_fits_104 : decode cX12_fits 104 = .ok (.aload_n 0, 1) := by decide +kernel
theorem dX12_fits_105 : decode cX12_fits 105 = .ok (.getfield 455, 3) := by decide +kernel
theorem dX12_fits_108 : decode cX12_fits 108 = .ok (.ireturn, 1) := by decide +kernel
theorem dX12_fits_109 : decode cX12_fits 109 = .ok (.aload_n 0, 1) := by decide +kernel
theorem dX12_fits_110 : decode cX12_fits 110 = .ok (.invokevirtual 479, 3) := by decide +kernel
theorem dX12_fits_113 : decode cX12_fits 113 = .ok (.ireturn, 1) := by decide +kernel
theorem dX12_fits_114 : decode cX12_fits 114 = .ok (.aload_n 0, 1) := by decide +kernel
theorem dX12_fits_115 : decode cX12_fits 115 = .ok (.getfield 449, 3) := by decide +kernel
theorem dX12_fits_118 : decode cX12_fits 118 = .ok (.ireturn, 1) := by decide +kernel
theorem dX12_fits_119 : decode cX12_fits 119 = .ok (.aload_n 0, 1) := by decide +kernel
theorem dX12_fits_120 : decode cX12_fits 120 = .ok (.getfield 452, 3) := by decide +kernel
theorem dX12_fits_123 : decode cX12_fits 123 = .ok (.ireturn, 1) := by decide +kernel
theorem dX12_fits_124 : decode cX12_fits 124 = .ok (.bipush (-2), 2) := by decide +kernel
theorem dX12_fits_126 : decode cX12_fits 126 = .ok (.ireturn, 1) := by decide +kernel
theorem dX12_draw_0 : decode cX12_draw 0 = .ok (.aload_n 0, 1) := by decide +kernel
theorem dX12_draw_1 : decode cX12_draw 1 = .ok (.aload_n 0, 1) := by decide +kernel
theorem dX12_draw_2 : decode cX12_draw 2 = .ok (.getfield 482, 3) := by decide +kernel
theorem dX12_draw_5 : decode cX12_draw 5 = .ok (.ldc_w 485, 3) := by decide +kernel
theorem dX12_draw_8 : decode cX12_draw 8 = .ok (.imul, 1) := by decide +kernel
theorem dX12_draw_9 : decode cX12_draw 9 = .ok (.sipush 12345, 3) := by decide +kernel
theorem dX12_draw_12 : decode cX12_draw 12 = .ok (.iadd, 1) := by decide +kernel
theorem dX12_draw_13 : decode cX12_draw 13 = .ok (.putfield 482, 3) := by decide +kernel
theorem dX12_draw_16 : decode cX12_draw 16 = .ok (.aload_n 0, 1) := by decide +kernel
theorem dX12_draw_17 : decode cX12_draw 17 = .ok (.getfield 482, 3) := by decide +kernel
theorem dX12_draw_20 : decode cX12_draw 20 = .ok (.bipush 16, 2) := by decide +kernel
theorem dX12_draw_22 : decode cX12_draw 22 = .ok (.iushr, 1) := by decide +kernel
theorem dX12_draw_23 : decode cX12_draw 23 = .ok (.iload_n 1, 1) := by decide +kernel
theorem dX12_draw_24 : decode cX12_draw 24 = .ok (.irem, 1) := by decide +kernel
theorem dX12_draw_25 : decode cX12_draw 25 = .ok (.ireturn, 1) := by decide +kernel
set_option maxRecDepth 20000 in
theorem ggX12_drawDeed_X12_draw : GoodIn wsX12_drawDeed wsX12_draw := goodIn_r _ [6, 7, 8, 48, 49, 50, 51, 52, 53, 54, 55, 56, 57, 58, 59, 60, 61, 62, 63, 64, 65, 66, 67, 68, 69, 70, 71, 72, 73, 74, 75, 76, 77, 78, 79, 80, 81, 82, 83, 84, 85, 86, 87, 88, 89, 90, 91, 92, 93, 94, 95, 96, 97, 98, 99, 100, 101, 102, 103, 104, 105, 106, 107, 108] (by decide +kernel) (by decide +kernel)
set_option maxRecDepth 20000 in
theorem gX12_drawDeed_X12_draw : GoodIn wsX12_drawDeed (wsV RX12 486 RX12 yX12_draw wsX12_draw) := goodIn_app (goodIn_of _ (by decide +kernel)) ggX12_drawDeed_X12_draw
set_option maxRecDepth 20000 in
theorem ggX12_drawDeed_X12_does : GoodIn wsX12_drawDeed wsX12_does := goodIn_r _ [12, 13, 14, 15, 16, 17, 18, 19, 5, 20, 21, 22, 23, 24, 25, 1, 26, 27, 28, 29, 30, 31, 32, 33, 34, 35, 36, 37, 38, 39, 40, 41, 42, 43, 44, 45, 46, 47, 48, 49, 50, 51, 52, 53, 54, 55, 56, 57, 58, 59, 60, 61, 62, 63, 64, 65, 66, 67, 68, 69, 70, 71, 72, 73, 74, 75, 76, 77, 78, 79, 80, 81, 82, 83, 84, 85, 86, 87, 88, 89, 90, 91, 92, 93, 94, 95, 96, 97, 98, 99, 100, 101, 102, 103, 104, 105, 106, 107, 108] (by decide +kernel) (by decide +kernel)
set_option maxRecDepth 20000 in
theorem gX12_drawDeed_X12_does : GoodIn wsX12_drawDeed (wsV RX12 313 RX12 yX12_does wsX12_does) := goodIn_app (goodIn_of _ (by decide +kernel)) ggX12_drawDeed_X12_does
theorem dX12_drawDeed_0 : decode cX12_drawDeed 0 = .ok (.aload_n 0, 1) := by decide +kernel
theorem dX12_drawDeed_1 : decode cX12_drawDeed 1 = .ok (.bipush 10, 2) := by decide +kernel
theorem dX12_drawDeed_3 : decode cX12_drawDeed 3 = .ok (.invokevirtual 486, 3) := by decide +kernel
theorem dX12_drawDeed_6 : decode cX12_drawDeed 6 = .ok (.istore_n 1, 1) := by decide +kernel
theorem dX12_drawDeed_7 : decode cX12_drawDeed 7 = .ok (.iload_n 1, 1) := by decide +kernel
theorem dX12_drawDeed_8 : decode cX12_drawDeed 8 = .ok (.iconst 3, 1) := by decide +kernel
theorem dX12_drawDeed_9 : decode cX12_drawDeed 9 = .ok (.if_icmp .ge 20, 3) := by decide +kernel
theorem dX12_drawDeed_12 : decode cX12_drawDeed 12 = .ok (.aload_n 0, 1) := by decide +kernel
theorem dX12_drawDeed_13 : decode cX12_drawDeed 13 = .ok (.iconst 0, 1) := by decide +kernel
theorem dX12_drawDeed_14 : decode cX12_drawDeed 14 = .ok (.iconst 1, 1) := by decide +kernel
theorem dX12_drawDeed_15 : decode cX12_drawDeed 15 = .ok (.aload_n 0, 1) := by decide +kernel
theorem dX12_drawDeed_16 : decode cX12_drawDeed 16 = .ok (.bipush 9, 2) := by decide +kernel
theorem dX12_drawDeed_18 : decode cX12_drawDeed 18 = .ok (.invokevirtual 486, 3) := by decide +kernel
theorem dX12_drawDeed_21 : decode cX12_drawDeed 21 = .ok (.iadd, 1) := by decide +kernel
theorem dX12_drawDeed_22 : decode cX12_drawDeed 22 = .ok (.invokevirtual 313, 3) := by decide +kernel
theorem dX12_drawDeed_25 : decode cX12_drawDeed 25 = .ok (.pop, 1) := by decide +kernel
theorem dX12_drawDeed_26 : decode cX12_drawDeed 26 = .ok (.goto 54, 3) := by decide +kernel
theorem dX12_drawDeed_29 : decode cX12_drawDeed 29 = .ok (.aload_n 0, 1) := by decide +kernel
theorem dX12_drawDeed_30 : decode cX12_drawDeed 30 = .ok (.getfield 259, 3) := by decide +kernel
theorem dX12_drawDeed_33 : decode cX12_drawDeed 33 = .ok (.ifCond .le 47, 3) := by decide +kernel
theorem dX12_drawDeed_36 : decode cX12_drawDeed 36 = .ok (.aload_n 0, 1) := by decide +kernel
theorem dX12_drawDeed_37 : decode cX12_drawDeed 37 = .ok (.iload_n 1, 1) := by decide +kernel
theorem dX12_drawDeed_38 : decode cX12_drawDeed 38 = .ok (.bipush 6, 2) := by decide +kernel
theorem dX12_drawDeed_40 : decode cX12_drawDeed 40 = .ok (.if_icmp .ge 7, 3) := by decide +kernel
theorem dX12_drawDeed_43 : decode cX12_drawDeed 43 = .ok (.iconst 1, 1) := by decide +kernel
theorem dX12_drawDeed_44 : decode cX12_drawDeed 44 = .ok (.goto 24, 3) := by decide +kernel
theorem dX12_drawDeed_47 : decode cX12_drawDeed 47 = .ok (.iload_n 1, 1) := by decide +kernel
theorem dX12_drawDeed_48 : decode cX12_drawDeed 48 = .ok (.bipush 6, 2) := by decide +kernel
theorem dX12_drawDeed_50 : decode cX12_drawDeed 50 = .ok (.if_icmp .ne 7, 3) := by decide +kernel
theorem dX12_drawDeed_53 : decode cX12_drawDeed 53 = .ok (.iconst 2, 1) := by decide +kernel
theorem dX12_drawDeed_54 : decode cX12_drawDeed 54 = .ok (.goto 14, 3) := by decide +kernel
theorem dX12_drawDeed_57 : decode cX12_drawDeed 57 = .ok (.iload_n 1, 1) := by decide +kernel
theorem dX12_drawDeed_58 : decode cX12_drawDeed 58 = .ok (.bipush 9, 2) := by decide +kernel
theorem dX12_drawDeed_60 : decode cX12_drawDeed 60 = .ok (.if_icmp .ge 7, 3) := by decide +kernel
theorem dX12_drawDeed_63 : decode cX12_drawDeed 63 = .ok (.iconst 3, 1) := by decide +kernel
theorem dX12_drawDeed_64 : decode cX12_drawDeed 64 = .ok (.goto 4, 3) := by decide +kernel
theorem dX12_drawDeed_67 : decode cX12_drawDeed 67 = .ok (.iconst 4, 1) := by decide +kernel
theorem dX12_drawDeed_68 : decode cX12_drawDeed 68 = .ok (.aload_n 0, 1) := by decide +kernel
theorem dX12_drawDeed_69 : decode cX12_drawDeed 69 = .ok (.aload_n 0, 1) := by decide +kernel
theorem dX12_drawDeed_70 : decode cX12_drawDeed 70 = .ok (.getfield 259, 3) := by decide +kernel
theorem dX12_drawDeed_73 : decode cX12_drawDeed 73 = .ok (.invokevirtual 486, 3) := by decide +kernel
theorem dX12_drawDeed_76 : decode cX12_drawDeed 76 = .ok (.invokevirtual 313, 3) := by decide +kernel
theorem dX12_drawDeed_79 : decode cX12_drawDeed 79 = .ok (.pop, 1) := by decide +kernel
theorem dX12_drawDeed_80 : decode cX12_drawDeed 80 = .ok (.return_, 1) := by decide +kernel
set_option maxRecDepth 20000 in
theorem ggX12_drawn_X12_in : GoodIn wsX12_drawn wsX12_in := goodIn_r _ [6] (by decide +kernel) (by decide +kernel)
set_option maxRecDepth 20000 in
theorem gX12_drawn_X12_in : GoodIn wsX12_drawn (va_wsS RX12 110 yX12_in wsX12_in) := goodIn_app (goodIn_of _ (by decide +kernel)) ggX12_drawn_X12_in
set_option maxRecDepth 20000 in
theorem ggX12_drawn_X12_hand : GoodIn wsX12_drawn wsX12_hand := goodIn_r _ [10, 11, 12, 13, 14, 15, 5, 16, 17, 3, 4, 6, 18, 19, 20, 21, 22, 23, 24, 25, 26, 27, 28, 29, 30, 31, 32, 33, 82, 83, 84, 85, 86, 87, 88, 89, 90, 91, 92, 93, 94, 95, 96, 97, 98, 99, 100, 101, 102, 103, 104, 105, 106, 107, 108, 109, 110, 111, 112, 113, 114, 115, 116, 117, 118, 119, 120, 121, 122, 123, 124, 125, 126, 127, 128, 129, 130, 131, 132, 133, 134, 135, 136, 137, 138, 139, 140, 141, 142] (by decide +kernel) (by decide +kernel)
set_option maxRecDepth 20000 in
theorem gX12_drawn_X12_hand : GoodIn wsX12_drawn (wsV RX12 265 RX12 yX12_hand wsX12_hand) := goodIn_app (goodIn_of _ (by decide +kernel)) ggX12_drawn_X12_hand
set_option maxRecDepth 20000 in
theorem ggX12_drawn_X12_beginDay : GoodIn wsX12_drawn wsX12_beginDay := goodIn_r _ [37, 38, 39, 40, 41, 42, 43, 44, 45, 46, 82, 83, 84, 85, 86, 87, 88, 89, 90, 91, 92, 93, 94, 95, 96, 97, 98, 99, 100, 101, 102, 103, 104, 105, 106, 107, 108, 109, 110, 111, 112, 113, 114, 115, 116, 117, 118, 119, 120, 121, 122, 123, 124, 125, 126, 127, 128, 129, 130, 131, 132, 133, 134, 135, 136, 137, 138, 139, 140, 141, 142] (by decide +kernel) (by decide +kernel)
set_option maxRecDepth 20000 in
theorem gX12_drawn_X12_beginDay : GoodIn wsX12_drawn (wsV RX12 319 RX12 yX12_beginDay wsX12_beginDay) := goodIn_app (goodIn_of _ (by decide +kernel)) ggX12_drawn_X12_beginDay
set_option maxRecDepth 20000 in
theorem ggX12_drawn_X12_drawDeed : GoodIn wsX12_drawn wsX12_drawDeed := goodIn_r _ [50, 12, 51, 52, 53, 5, 54, 2, 55, 56, 57, 58, 59, 39, 30, 29, 41, 60, 61, 62, 63, 38, 64, 65, 66, 67, 46, 45, 40, 43, 42, 44, 31, 32, 33, 68, 69, 70, 71, 72, 73, 74, 75, 76, 77, 3, 4, 6, 82, 83, 84, 85, 86, 87, 88, 89, 90, 91, 92, 93, 94, 95, 96, 97, 98, 99, 100, 101, 102, 103, 104, 105, 106, 107, 108, 109, 110, 111, 112, 113, 114, 115, 116, 117, 118, 119, 120, 121, 122, 123, 124, 125, 126, 127, 128, 129, 130, 131, 132, 133, 134, 135, 136, 137, 138, 139, 140, 141, 142] (by decide +kernel) (by decide +kernel)
set_option maxRecDepth 20000 in
theorem gX12_drawn_X12_drawDeed : GoodIn wsX12_drawn (wsV RX12 489 RX12 yX12_drawDeed wsX12_drawDeed) := goodIn_app (goodIn_of _ (by decide +kernel)) ggX12_drawn_X12_drawDeed
set_option maxRecDepth 20000 in
theorem ggX12_drawn_X12_ofState : GoodIn wsX12_drawn wsX12_ofState := goodIn_r _ [81, 30, 29, 45, 38, 39, 40, 41, 74, 75, 76, 5, 77, 12, 3, 4, 6, 82, 83, 84, 85, 86, 87, 88, 89, 90, 91, 92, 93, 94, 95, 96, 97, 98, 99, 100, 101, 102, 103, 104, 105, 106, 107, 108, 109, 110, 111, 112, 113, 114, 115, 116, 117, 118, 119, 120, 121, 122, 123, 124, 125, 126, 127, 128, 129, 130, 131, 132, 133, 134, 135, 136, 137, 138, 139, 140, 141, 142] (by decide +kernel) (by decide +kernel)
set_option maxRecDepth 20000 in
theorem gX12_drawn_X12_ofState : GoodIn wsX12_drawn (wsV RX12 328 RX12 yX12_ofState wsX12_ofState) := goodIn_app (goodIn_of _ (by decide +kernel)) ggX12_drawn_X12_ofState
theorem dX12_drawn_0 : decode cX12_drawn 0 = .ok (.aload_n 0, 1) := by decide +kernel
theorem dX12_drawn_1 : decode cX12_drawn 1 = .ok (.iconst 0, 1) := by decide +kernel
theorem dX12_drawn_2 : decode cX12_drawn 2 = .ok (.putfield 98, 3) := by decide +kernel
theorem dX12_drawn_5 : decode cX12_drawn 5 = .ok (.iload_n 3, 1) := by decide +kernel
theorem dX12_drawn_6 : decode cX12_drawn 6 = .ok (.iconst 0, 1) := by decide +kernel
theorem dX12_drawn_7 : decode cX12_drawn 7 = .ok (.bipush 60, 2) := by decide +kernel
theorem dX12_drawn_9 : decode cX12_drawn 9 = .ok (.invokestatic 110, 3) := by decide +kernel
theorem dX12_drawn_12 : decode cX12_drawn 12 = .ok (.ifCond .eq 11, 3) := by decide +kernel
theorem dX12_drawn_15 : decode cX12_drawn 15 = .ok (.aload_n 0, 1) := by decide +kernel
theorem dX12_drawn_16 : decode cX12_drawn 16 = .ok (.iload_n 1, 1) := by decide +kernel
theorem dX12_drawn_17 : decode cX12_drawn 17 = .ok (.invokevirtual 265, 3) := by decide +kernel
theorem dX12_drawn_20 : decode cX12_drawn 20 = .ok (.ifCond .ne 5, 3) := by decide +kernel
theorem dX12_drawn_23 : decode cX12_drawn 23 = .ok (.iconst (-1), 1) := by decide +kernel
theorem dX12_drawn_24 : decode cX12_drawn 24 = .ok (.ireturn, 1) := by decide +kernel
theorem dX12_drawn_25 : decode cX12_drawn 25 = .ok (.aload_n 0, 1) := by decide +kernel
theorem dX12_drawn_26 : decode cX12_drawn 26 = .ok (.invokevirtual 319, 3) := by decide +kernel
theorem dX12_drawn_29 : decode cX12_drawn 29 = .ok (.aload_n 0, 1) := by decide +kernel
theorem dX12_drawn_30 : decode cX12_drawn 30 = .ok (.iload_n 2, 1) := by decide +kernel
theorem dX12_drawn_31 : decode cX12_drawn 31 = .ok (.putfield 482, 3) := by decide +kernel
theorem dX12_drawn_34 : decode cX12_drawn 34 = .ok (.iconst 0, 1) := by decide +kernel
theorem dX12_drawn_35 : decode cX12_drawn 35 = .ok (.istore 5, 2) := by decide +kernel
theorem dX12_drawn_37 : decode cX12_drawn 37 = .ok (.iload 5, 2) := by decide +kernel
theorem dX12_drawn_39 : decode cX12_drawn 39 = .ok (.iload_n 3, 1) := by decide +kernel
theorem dX12_drawn_40 : decode cX12_drawn 40 = .ok (.if_icmp .ge 13, 3) := by decide +kernel
theorem dX12_drawn_43 : decode cX12_drawn 43 = .ok (.aload_n 0, 1) := by decide +kernel
theorem dX12_drawn_44 : decode cX12_drawn 44 = .ok (.invokevirtual 489, 3) := by decide +kernel
theorem dX12_drawn_47 : decode cX12_drawn 47 = .ok (.iinc 5 1, 3) := by decide +kernel
theorem dX12_drawn_50 : decode cX12_drawn 50 = .ok (.goto (-13), 3) := by decide +kernel
theorem dX12_drawn_53 : decode cX12_drawn 53 = .ok (.aload_n 0, 1) := by decide +kernel
theorem dX12_drawn_54 : decode cX12_drawn 54 = .ok (.iload 4, 2) := by decide +kernel
theorem dX12_drawn_56 : decode cX12_drawn 56 = .ok (.invokevirtual 328, 3) := by decide +kernel
theorem dX12_drawn_59 : decode cX12_drawn 59 = .ok (.ireturn, 1) := by decide +kernel
theorem dX12_reachedTops_0 : decode cX12_reachedTops 0 = .ok (.iconst 0, 1) := by decide +kernel
theorem dX12_reachedTops_1 : decode cX12_reachedTops 1 = .ok (.istore_n 1, 1) := by decide +kernel
theorem dX12_reachedTops_2 : decode cX12_reachedTops 2 = .ok (.iconst 0, 1) := by decide +kernel
theorem dX12_reachedTops_3 : decode cX12_reachedTops 3 = .ok (.istore_n 2, 1) := by decide +kernel
theorem dX12_reachedTops_4 : decode cX12_reachedTops 4 = .ok (.iload_n 2, 1) := by decide +kernel
theorem dX12_reachedTops_5 : decode cX12_reachedTops 5 = .ok (.sipush 4096, 3) := by decide +kernel
theorem dX12_reachedTops_8 : decode cX12_reachedTops 8 = .ok (.if_icmp .ge 66, 3) := by decide +kernel
theorem dX12_reachedTops_11 : decode cX12_reachedTops 11 = .ok (.iconst 0, 1) := by decide +kernel
theorem dX12_reachedTops_12 : decode cX12_reachedTops 12 = .ok (.istore_n 3, 1) := by decide +kernel
theorem dX12_reachedTops_13 : decode cX12_reachedTops 13 = .ok (.iconst 0, 1) := by decide +kernel
theorem dX12_reachedTops_14 : decode cX12_reachedTops 14 = .ok (.istore 4, 2) := by decide +kernel
theorem dX12_reachedTops_16 : decode cX12_reachedTops 16 = .ok (.iload 4, 2) := by decide +kernel
theorem dX12_reachedTops_18 : decode cX12_reachedTops 18 = .ok (.bipush 30, 2) := by decide +kernel
theorem dX12_reachedTops_20 : decode cX12_reachedTops 20 = .ok (.if_icmp .gt 36, 3) := by decide +kernel
theorem dX12_reachedTops_23 : decode cX12_reachedTops 23 = .ok (.iload_n 3, 1) := by decide +kernel
theorem dX12_reachedTops_24 : decode cX12_reachedTops 24 = .ok (.ifCond .ne 32, 3) := by decide +kernel
theorem dX12_reachedTops_27 : decode cX12_reachedTops 27 = .ok (.aload_n 0, 1) := by decide +kernel
theorem dX12_reachedTops_28 : decode cX12_reachedTops 28 = .ok (.getfield 57, 3) := by decide +kernel
theorem dX12_reachedTops_31 : decode cX12_reachedTops 31 = .ok (.sipush 4096, 3) := by decide +kernel
theorem dX12_reachedTops_34 : decode cX12_reachedTops 34 = .ok (.iload 4, 2) := by decide +kernel
theorem dX12_reachedTops_36 : decode cX12_reachedTops 36 = .ok (.imul, 1) := by decide +kernel
theorem dX12_reachedTops_37 : decode cX12_reachedTops 37 = .ok (.iload_n 2, 1) := by decide +kernel
theorem dX12_reachedTops_38 : decode cX12_reachedTops 38 = .ok (.iadd, 1) := by decide +kernel
theorem dX12_reachedTops_39 : decode cX12_reachedTops 39 = .ok (.iaload, 1) := by decide +kernel
theorem dX12_reachedTops_40 : decode cX12_reachedTops 40 = .ok (.iconst (-1), 1) := by decide +kernel
theorem dX12_reachedTops_41 : decode cX12_reachedTops 41 = .ok (.if_icmp .eq 7, 3) := by decide +kernel
theorem dX12_reachedTops_44 : decode cX12_reachedTops 44 = .ok (.iconst 1, 1) := by decide +kernel
theorem dX12_reachedTops_45 : decode cX12_reachedTops 45 = .ok (.goto 4, 3) := by decide +kernel
theorem dX12_reachedTops_48 : decode cX12_reachedTops 48 = .ok (.iconst 0, 1) := by decide +kernel
theorem dX12_reachedTops_49 : decode cX12_reachedTops 49 = .ok (.istore_n 3, 1) := by decide +kernel
theorem dX12_reachedTops_50 : decode cX12_reachedTops 50 = .ok (.iinc 4 1, 3) := by decide +kernel
theorem dX12_reachedTops_53 : decode cX12_reachedTops 53 = .ok (.goto (-37), 3) := by decide +kernel
theorem dX12_reachedTops_56 : decode cX12_reachedTops 56 = .ok (.iload_n 1, 1) := by decide +kernel
theorem dX12_reachedTops_57 : decode cX12_reachedTops 57 = .ok (.iload_n 3, 1) := by decide +kernel
theorem dX12_reachedTops_58 : decode cX12_reachedTops 58 = .ok (.ifCond .eq 7, 3) := by decide +kernel
theorem dX12_reachedTops_61 : decode cX12_reachedTops 61 = .ok (.iconst 1, 1) := by decide +kernel
theorem dX12_reachedTops_62 : decode cX12_reachedTops 62 = .ok (.goto 4, 3) := by decide +kernel
theorem dX12_reachedTops_65 : decode cX12_reachedTops 65 = .ok (.iconst 0, 1) := by decide +kernel
theorem dX12_reachedTops_66 : decode cX12_reachedTops 66 = .ok (.iadd, 1) := by decide +kernel
theorem dX12_reachedTops_67 : decode cX12_reachedTops 67 = .ok (.istore_n 1, 1) := by decide +kernel
theorem dX12_reachedTops_68 : decode cX12_reachedTops 68 = .ok (.iinc 2 1, 3) := by decide +kernel
theorem dX12_reachedTops_71 : decode cX12_reachedTops 71 = .ok (.goto (-67), 3) := by decide +kernel
theorem dX12_reachedTops_74 : decode cX12_reachedTops 74 = .ok (.iload_n 1, 1) := by decide +kernel
theorem dX12_reachedTops_75 : decode cX12_reachedTops 75 = .ok (.ireturn, 1) := by decide +kernel
set_option maxRecDepth 20000 in
theorem ggX12_edge_X12_has : GoodIn wsX12_edge wsX12_has := goodIn_r _ [4] (by decide +kernel) (by decide +kernel)
set_option maxRecDepth 20000 in
theorem gX12_edge_X12_has : GoodIn wsX12_edge (va_wsS RX12 102 yX12_has wsX12_has) := goodIn_app (goodIn_of _ (by decide +kernel)) ggX12_edge_X12_has
theorem dX12_edge_0 : decode cX12_edge 0 = .ok (.iconst (-1), 1) := by decide +kernel
theorem dX12_edge_1 : decode cX12_edge 1 = .ok (.istore_n 2, 1) := by decide +kernel
theorem dX12_edge_2 : decode cX12_edge 2 = .ok (.iconst 1, 1) := by decide +kernel
theorem dX12_edge_3 : decode cX12_edge 3 = .ok (.istore_n 3, 1) := by decide +kernel
theorem dX12_edge_4 : decode cX12_edge 4 = .ok (.iload_n 3, 1) := by decide +kernel
theorem dX12_edge_5 : decode cX12_edge 5 = .ok (.bipush 30, 2) := by decide +kernel
theorem dX12_edge_7 : decode cX12_edge 7 = .ok (.if_icmp .gt 32, 3) := by decide +kernel
theorem dX12_edge_10 : decode cX12_edge 10 = .ok (.iload_n 0, 1) := by decide +kernel
theorem dX12_edge_11 : decode cX12_edge 11 = .ok (.iload_n 3, 1) := by decide +kernel
theorem dX12_edge_12 : decode cX12_edge 12 = .ok (.invokestatic 102, 3) := by decide +kernel
theorem dX12_edge_15 : decode cX12_edge 15 = .ok (.ifCond .eq 16, 3) := by decide +kernel
theorem dX12_edge_18 : decode cX12_edge 18 = .ok (.iload_n 1, 1) := by decide +kernel
theorem dX12_edge_19 : decode cX12_edge 19 = .ok (.ifCond .ne 8, 3) := by decide +kernel
theorem dX12_edge_22 : decode cX12_edge 22 = .ok (.iload_n 2, 1) := by decide +kernel
theorem dX12_edge_23 : decode cX12_edge 23 = .ok (.iconst (-1), 1) := by decide +kernel
theorem dX12_edge_24 : decode cX12_edge 24 = .ok (.if_icmp .ne 7, 3) := by decide +kernel
theorem dX12_edge_27 : decode cX12_edge 27 = .ok (.iload_n 3, 1) := by decide +kernel
theorem dX12_edge_28 : decode cX12_edge 28 = .ok (.goto 4, 3) := by decide +kernel
theorem dX12_edge_31 : decode cX12_edge 31 = .ok (.iload_n 2, 1) := by decide +kernel
theorem dX12_edge_32 : decode cX12_edge 32 = .ok (.istore_n 2, 1) := by decide +kernel
theorem dX12_edge_33 : decode cX12_edge 33 = .ok (.iinc 3 1, 3) := by decide +kernel
theorem dX12_edge_36 : decode cX12_edge 36 = .ok (.goto (-32), 3) := by decide +kernel
theorem dX12_edge_39 : decode cX12_edge 39 = .ok (.iload_n 2, 1) := by decide +kernel
theorem dX12_edge_40 : decode cX12_edge 40 = .ok (.ireturn, 1) := by decide +kernel
set_option maxRecDepth 20000 in
theorem ggX12_longestRow_X12_has : GoodIn wsX12_longestRow wsX12_has := goodIn_r _ [4] (by decide +kernel) (by decide +kernel)
set_option maxRecDepth 20000 in
theorem gX12_longestRow_X12_has : GoodIn wsX12_longestRow (va_wsS RX12 102 yX12_has wsX12_has) := goodIn_app (goodIn_of _ (by decide +kernel)) ggX12_longestRow_X12_has
set_option maxRecDepth 20000 in
theorem ggX12_longestRow_X12_greater : GoodIn wsX12_longestRow wsX12_greater := goodIn_r _ [7] (by decide +kernel) (by decide +kernel)
set_option maxRecDepth 20000 in
theorem gX12_longestRow_X12_greater : GoodIn wsX12_longestRow (va_wsS RX12 186 yX12_greater wsX12_greater) := goodIn_app (goodIn_of _ (by decide +kernel)) ggX12_longestRow_X12_greater
theorem dX12_longestRow_0 : decode cX12_longestRow 0 = .ok (.iconst 0, 1) := by decide +kernel
theorem dX12_longestRow_1 : decode cX12_longestRow 1 = .ok (.istore_n 1, 1) := by decide +kernel
theorem dX12_longestRow_2 : decode cX12_longestRow 2 = .ok (.iconst 0, 1) := by decide +kernel
theorem dX12_longestRow_3 : decode cX12_longestRow 3 = .ok (.istore_n 2, 1) := by decide +kernel
theorem dX12_longestRow_4 : decode cX12_longestRow 4 = .ok (.iconst 1, 1) := by decide +kernel
theorem dX12_longestRow_5 : decode cX12_longestRow 5 = .ok (.istore_n 3, 1) := by decide +kernel
theorem dX12_longestRow_6 : decode cX12_longestRow 6 = .ok (.iload_n 3, 1) := by decide +kernel
theorem dX12_longestRow_7 : decode cX12_longestRow 7 = .ok (.bipush 30, 2) := by decide +kernel
theorem dX12_longestRow_9 : decode cX12_longestRow 9 = .ok (.if_icmp .gt 31, 3) := by decide +kernel
theorem dX12_longestRow_12 : decode cX12_longestRow 12 = .ok (.iload_n 0, 1) := by decide +kernel
theorem dX12_longestRow_13 : decode cX12_longestRow 13 = .ok (.iload_n 3, 1) := by decide +kernel
theorem dX12_longestRow_14 : decode cX12_longestRow 14 = .ok (.invokestatic 102, 3) := by decide +kernel
theorem dX12_longestRow_17 : decode cX12_longestRow 17 = .ok (.ifCond .eq 9, 3) := by decide +kernel
theorem dX12_longestRow_20 : decode cX12_longestRow 20 = .ok (.iload_n 2, 1) := by decide +kernel
theorem dX12_longestRow_21 : decode cX12_longestRow 21 = .ok (.iconst 1, 1) := by decide +kernel
theorem dX12_longestRow_22 : decode cX12_longestRow 22 = .ok (.iadd, 1) := by decide +kernel
theorem dX12_longestRow_23 : decode cX12_longestRow 23 = .ok (.goto 4, 3) := by decide +kernel
theorem dX12_longestRow_26 : decode cX12_longestRow 26 = .ok (.iconst 0, 1) := by decide +kernel
theorem dX12_longestRow_27 : decode cX12_longestRow 27 = .ok (.istore_n 2, 1) := by decide +kernel
theorem dX12_longestRow_28 : decode cX12_longestRow 28 = .ok (.iload_n 1, 1) := by decide +kernel
theorem dX12_longestRow_29 : decode cX12_longestRow 29 = .ok (.iload_n 2, 1) := by decide +kernel
theorem dX12_longestRow_30 : decode cX12_longestRow 30 = .ok (.invokestatic 186, 3) := by decide +kernel
theorem dX12_longestRow_33 : decode cX12_longestRow 33 = .ok (.istore_n 1, 1) := by decide +kernel
theorem dX12_longestRow_34 : decode cX12_longestRow 34 = .ok (.iinc 3 1, 3) := by decide +kernel
theorem dX12_longestRow_37 : decode cX12_longestRow 37 = .ok (.goto (-31), 3) := by decide +kernel
theorem dX12_longestRow_40 : decode cX12_longestRow 40 = .ok (.iload_n 1, 1) := by decide +kernel
theorem dX12_longestRow_41 : decode cX12_longestRow 41 = .ok (.ireturn, 1) := by decide +kernel
set_option maxRecDepth 20000 in
theorem ggX12_dearest_X12_leastAt : GoodIn wsX12_dearest wsX12_leastAt := goodIn_r _ [5, 6, 10, 11, 12, 13, 14, 15, 16, 17, 18, 19, 20, 21, 22, 23, 24, 25, 26, 27, 28, 29, 30, 31, 32, 33, 34, 35, 36, 37, 38, 39, 40, 41, 42, 43, 44, 45, 46, 47, 48, 49, 50, 51, 52, 53, 54, 55, 56, 57, 58, 59, 60, 61, 62, 63, 64, 65, 66, 67, 68, 69, 70] (by decide +kernel) (by decide +kernel)
set_option maxRecDepth 20000 in
theorem gX12_dearest_X12_leastAt : GoodIn wsX12_dearest (wsV RX12 350 RX12 yX12_leastAt wsX12_leastAt) := goodIn_app (goodIn_of _ (by decide +kernel)) ggX12_dearest_X12_leastAt
set_option maxRecDepth 20000 in
theorem ggX12_dearest_X12_greater : GoodIn wsX12_dearest wsX12_greater := goodIn_r _ [9] (by decide +kernel) (by decide +kernel)
set_option maxRecDepth 20000 in
theorem gX12_dearest_X12_greater : GoodIn wsX12_dearest (va_wsS RX12 186 yX12_greater wsX12_greater) := goodIn_app (goodIn_of _ (by decide +kernel)) ggX12_dearest_X12_greater
theorem dX12_dearest_0 : decode cX12_dearest 0 = .ok (.iconst (-1), 1) := by decide +kernel
theorem dX12_dearest_1 : decode cX12_dearest 1 = .ok (.istore_n 1, 1) := by decide +kernel
theorem dX12_dearest_2 : decode cX12_dearest 2 = .ok (.iconst (-1), 1) := by decide +kernel
theorem dX12_dearest_3 : decode cX12_dearest 3 = .ok (.istore_n 2, 1) := by decide +kernel
theorem dX12_dearest_4 : decode cX12_dearest 4 = .ok (.iconst 1, 1) := by decide +kernel
theorem dX12_dearest_5 : decode cX12_dearest 5 = .ok (.istore_n 3, 1) := by decide +kernel
theorem dX12_dearest_6 : decode cX12_dearest 6 = .ok (.iload_n 3, 1) := by decide +kernel
theorem dX12_dearest_7 : decode cX12_dearest 7 = .ok (.bipush 30, 2) := by decide +kernel
theorem dX12_dearest_9 : decode cX12_dearest 9 = .ok (.if_icmp .gt 34, 3) := by decide +kernel
theorem dX12_dearest_12 : decode cX12_dearest 12 = .ok (.aload_n 0, 1) := by decide +kernel
theorem dX12_dearest_13 : decode cX12_dearest 13 = .ok (.iload_n 3, 1) := by decide +kernel
theorem dX12_dearest_14 : decode cX12_dearest 14 = .ok (.invokevirtual 350, 3) := by decide +kernel
theorem dX12_dearest_17 : decode cX12_dearest 17 = .ok (.iload_n 2, 1) := by decide +kernel
theorem dX12_dearest_18 : decode cX12_dearest 18 = .ok (.if_icmp .le 7, 3) := by decide +kernel
theorem dX12_dearest_21 : decode cX12_dearest 21 = .ok (.iload_n 3, 1) := by decide +kernel
theorem dX12_dearest_22 : decode cX12_dearest 22 = .ok (.goto 4, 3) := by decide +kernel
theorem dX12_dearest_25 : decode cX12_dearest 25 = .ok (.iload_n 1, 1) := by decide +kernel
theorem dX12_dearest_26 : decode cX12_dearest 26 = .ok (.istore_n 1, 1) := by decide +kernel
theorem dX12_dearest_27 : decode cX12_dearest 27 = .ok (.iload_n 2, 1) := by decide +kernel
theorem dX12_dearest_28 : decode cX12_dearest 28 = .ok (.aload_n 0, 1) := by decide +kernel
theorem dX12_dearest_29 : decode cX12_dearest 29 = .ok (.iload_n 3, 1) := by decide +kernel
theorem dX12_dearest_30 : decode cX12_dearest 30 = .ok (.invokevirtual 350, 3) := by decide +kernel
theorem dX12_dearest_33 : decode cX12_dearest 33 = .ok (.invokestatic 186, 3) := by decide +kernel
theorem dX12_dearest_36 : decode cX12_dearest 36 = .ok (.istore_n 2, 1) := by decide +kernel
theorem dX12_dearest_37 : decode cX12_dearest 37 = .ok (.iinc 3 1, 3) := by decide +kernel
theorem dX12_dearest_40 : decode cX12_dearest 40 = .ok (.goto (-34), 3) := by decide +kernel
theorem dX12_dearest_43 : decode cX12_dearest 43 = .ok (.iload_n 1, 1) := by decide +kernel
theorem dX12_dearest_44 : decode cX12_dearest 44 = .ok (.ireturn, 1) := by decide +kernel
theorem dX12_common_0 : decode cX12_common 0 = .ok (.iload_n 0, 1) := by decide +kernel
theorem dX12_common_1 : decode cX12_common 1 = .ok (.istore_n 2, 1) := by decide +kernel
theorem dX12_common_2 : decode cX12_common 2 = .ok (.iload_n 1, 1) := by decide +kernel
theorem dX12_common_3 : decode cX12_common 3 = .ok (.istore_n 3, 1) := by decide +kernel
theorem dX12_common_4 : decode cX12_common 4 = .ok (.iload_n 3, 1) := by decide +kernel
theorem dX12_common_5 : decode cX12_common 5 = .ok (.ifCond .eq 16, 3) := by decide +kernel
theorem dX12_common_8 : decode cX12_common 8 = .ok (.iload_n 2, 1) := by decide +kernel
theorem dX12_common_9 : decode cX12_common 9 = .ok (.iload_n 3, 1) := by decide +kernel
theorem dX12_common_10 : decode cX12_common 10 = .ok (.irem, 1) := by decide +kernel
theorem dX12_common_11 : decode cX12_common 11 = .ok (.istore 4, 2) := by decide +kernel
theorem dX12_common_13 : decode cX12_common 13 = .ok (.iload_n 3, 1) := by decide +kernel
theorem dX12_common_14 : decode cX12_common 14 = .ok (.istore_n 2, 1) := by decide +kernel
theorem dX12_common_15 : decode cX12_common 15 = .ok (.iload 4, 2) := by decide +kernel
theorem dX12_common_17 : decode cX12_common 17 = .ok (.istore_n 3, 1) := by decide +kernel
theorem dX12_common_18 : decode cX12_common 18 = .ok (.goto (-14), 3) := by decide +kernel
theorem dX12_common_21 : decode cX12_common 21 = .ok (.iload_n 2, 1) := by decide +kernel
theorem dX12_common_22 : decode cX12_common 22 = .ok (.ireturn, 1) := by decide +kernel
set_option maxRecDepth 20000 in
theorem ggX12_commonSize_X12_common : GoodIn wsX12_commonSize wsX12_common := goodIn_r _ [6] (by decide +kernel) (by decide +kernel)
set_option maxRecDepth 20000 in
theorem gX12_commonSize_X12_common : GoodIn wsX12_commonSize (va_wsS RX12 492 yX12_common wsX12_common) := goodIn_app (goodIn_of _ (by decide +kernel)) ggX12_commonSize_X12_common
theorem dX12_commonSize_0 : decode cX12_commonSize 0 = .ok (.iconst 0, 1) := by decide +kernel
theorem dX12_commonSize_1 : decode cX12_commonSize 1 = .ok (.istore_n 1, 1) := by decide +kernel
theorem dX12_commonSize_2 : decode cX12_commonSize 2 = .ok (.iconst 0, 1) := by decide +kernel
theorem dX12_commonSize_3 : decode cX12_commonSize 3 = .ok (.istore_n 2, 1) := by decide +kernel
theorem dX12_commonSize_4 : decode cX12_commonSize 4 = .ok (.iload_n 2, 1) := by decide +kernel
theorem dX12_commonSize_5 : decode cX12_commonSize 5 = .ok (.aload_n 0, 1) := by decide +kernel
theorem dX12_commonSize_6 : decode cX12_commonSize 6 = .ok (.getfield 259, 3) := by decide +kernel
theorem dX12_commonSize_9 : decode cX12_commonSize 9 = .ok (.if_icmp .ge 20, 3) := by decide +kernel
theorem dX12_commonSize_12 : decode cX12_commonSize 12 = .ok (.iload_n 1, 1) := by decide +kernel
theorem dX12_commonSize_13 : decode cX12_commonSize 13 = .ok (.aload_n 0, 1) := by decide +kernel
theorem dX12_commonSize_14 : decode cX12_commonSize 14 = .ok (.getfield 44, 3) := by decide +kernel
theorem dX12_commonSize_17 : decode cX12_commonSize 17 = .ok (.iload_n 2, 1) := by decide +kernel
theorem dX12_commonSize_18 : decode cX12_commonSize 18 = .ok (.iaload, 1) := by decide +kernel
theorem dX12_commonSize_19 : decode cX12_commonSize 19 = .ok (.invokestatic 492, 3) := by decide +kernel
theorem dX12_commonSize_22 : decode cX12_commonSize 22 = .ok (.istore_n 1, 1) := by decide +kernel
theorem dX12_commonSize_23 : decode cX12_commonSize 23 = .ok (.iinc 2 1, 3) := by decide +kernel
theorem dX12_commonSize_26 : decode cX12_commonSize 26 = .ok (.goto (-22), 3) := by decide +kernel
theorem dX12_commonSize_29 : decode cX12_commonSize 29 = .ok (.iload_n 1, 1) := by decide +kernel
theorem dX12_commonSize_30 : decode cX12_commonSize 30 = .ok (.ireturn, 1) := by decide +kernel
theorem dX12_sand_0 : decode cX12_sand 0 = .ok (.iconst 0, 1) := by decide +kernel
theorem dX12_sand_1 : decode cX12_sand 1 = .ok (.istore_n 1, 1) := by decide +kernel
theorem dX12_sand_2 : decode cX12_sand 2 = .ok (.iconst 0, 1) := by decide +kernel
theorem dX12_sand_3 : decode cX12_sand 3 = .ok (.istore_n 2, 1) := by decide +kernel
theorem dX12_sand_4 : decode cX12_sand 4 = .ok (.iload_n 2, 1) := by decide +kernel
theorem dX12_sand_5 : decode cX12_sand 5 = .ok (.aload_n 0, 1) := by decide +kernel
theorem dX12_sand_6 : decode cX12_sand 6 = .ok (.getfield 259, 3) := by decide +kernel
theorem dX12_sand_9 : decode cX12_sand 9 = .ok (.if_icmp .ge 18, 3) := by decide +kernel
theorem dX12_sand_12 : decode cX12_sand 12 = .ok (.iload_n 1, 1) := by decide +kernel
theorem dX12_sand_13 : decode cX12_sand 13 = .ok (.aload_n 0, 1) := by decide +kernel
theorem dX12_sand_14 : decode cX12_sand 14 = .ok (.getfield 47, 3) := by decide +kernel
theorem dX12_sand_17 : decode cX12_sand 17 = .ok (.iload_n 2, 1) := by decide +kernel
theorem dX12_sand_18 : decode cX12_sand 18 = .ok (.iaload, 1) := by decide +kernel
theorem dX12_sand_19 : decode cX12_sand 19 = .ok (.iadd, 1) := by decide +kernel
theorem dX12_sand_20 : decode cX12_sand 20 = .ok (.istore_n 1, 1) := by decide +kernel
theorem dX12_sand_21 : decode cX12_sand 21 = .ok (.iinc 2 1, 3) := by decide +kernel
theorem dX12_sand_24 : decode cX12_sand 24 = .ok (.goto (-20), 3) := by decide +kernel
theorem dX12_sand_27 : decode cX12_sand 27 = .ok (.iload_n 1, 1) := by decide +kernel
theorem dX12_sand_28 : decode cX12_sand 28 = .ok (.ireturn, 1) := by decide +kernel
theorem dX12_even_0 : decode cX12_even 0 = .ok (.iconst 0, 1) := by decide +kernel
theorem dX12_even_1 : decode cX12_even 1 = .ok (.istore_n 1, 1) := by decide +kernel
theorem dX12_even_2 : decode cX12_even 2 = .ok (.iconst 0, 1) := by decide +kernel
theorem dX12_even_3 : decode cX12_even 3 = .ok (.istore_n 2, 1) := by decide +kernel
theorem dX12_even_4 : decode cX12_even 4 = .ok (.iload_n 2, 1) := by decide +kernel
theorem dX12_even_5 : decode cX12_even 5 = .ok (.aload_n 0, 1) := by decide +kernel
theorem dX12_even_6 : decode cX12_even 6 = .ok (.getfield 259, 3) := by decide +kernel
theorem dX12_even_9 : decode cX12_even 9 = .ok (.if_icmp .ge 36, 3) := by decide +kernel
theorem dX12_even_12 : decode cX12_even 12 = .ok (.iload_n 1, 1) := by decide +kernel
theorem dX12_even_13 : decode cX12_even 13 = .ok (.iconst 2, 1) := by decide +kernel
theorem dX12_even_14 : decode cX12_even 14 = .ok (.aload_n 0, 1) := by decide +kernel
theorem dX12_even_15 : decode cX12_even 15 = .ok (.getfield 47, 3) := by decide +kernel
theorem dX12_even_18 : decode cX12_even 18 = .ok (.iload_n 2, 1) := by decide +kernel
theorem dX12_even_19 : decode cX12_even 19 = .ok (.iaload, 1) := by decide +kernel
theorem dX12_even_20 : decode cX12_even 20 = .ok (.imul, 1) := by decide +kernel
theorem dX12_even_21 : decode cX12_even 21 = .ok (.aload_n 0, 1) := by decide +kernel
theorem dX12_even_22 : decode cX12_even 22 = .ok (.getfield 44, 3) := by decide +kernel
theorem dX12_even_25 : decode cX12_even 25 = .ok (.iload_n 2, 1) := by decide +kernel
theorem dX12_even_26 : decode cX12_even 26 = .ok (.iaload, 1) := by decide +kernel
theorem dX12_even_27 : decode cX12_even 27 = .ok (.if_icmp .ne 9, 3) := by decide +kernel
theorem dX12_even_30 : decode cX12_even 30 = .ok (.iconst 1, 1) := by decide +kernel
theorem dX12_even_31 : decode cX12_even 31 = .ok (.iload_n 2, 1) := by decide +kernel
theorem dX12_even_32 : decode cX12_even 32 = .ok (.ishl, 1) := by decide +kernel
theorem dX12_even_33 : decode cX12_even 33 = .ok (.goto 4, 3) := by decide +kernel
theorem dX12_even_36 : decode cX12_even 36 = .ok (.iconst 0, 1) := by decide +kernel
theorem dX12_even_37 : decode cX12_even 37 = .ok (.ior, 1) := by decide +kernel
theorem dX12_even_38 : decode cX12_even 38 = .ok (.istore_n 1, 1) := by decide +kernel
theorem dX12_even_39 : decode cX12_even 39 = .ok (.iinc 2 1, 3) := by decide +kernel
theorem dX12_even_42 : decode cX12_even 42 = .ok (.goto (-38), 3) := by decide +kernel
theorem dX12_even_45 : decode cX12_even 45 = .ok (.iload_n 1, 1) := by decide +kernel
theorem dX12_even_46 : decode cX12_even 46 = .ok (.ireturn, 1) := by decide +kernel
set_option maxRecDepth 20000 in
theorem ggX12_dry_X12_greater : GoodIn wsX12_dry wsX12_greater := goodIn_r _ [6] (by decide +kernel) (by decide +kernel)
set_option maxRecDepth 20000 in
theorem gX12_dry_X12_greater : GoodIn wsX12_dry (va_wsS RX12 186 yX12_greater wsX12_greater) := goodIn_app (goodIn_of _ (by decide +kernel)) ggX12_dry_X12_greater
theorem dX12_dry_0 : decode cX12_dry 0 = .ok (.iconst 0, 1) := by decide +kernel
theorem dX12_dry_1 : decode cX12_dry 1 = .ok (.istore_n 1, 1) := by decide +kernel
theorem dX12_dry_2 : decode cX12_dry 2 = .ok (.iconst 0, 1) := by decide +kernel
theorem dX12_dry_3 : decode cX12_dry 3 = .ok (.istore_n 2, 1) := by decide +kernel
theorem dX12_dry_4 : decode cX12_dry 4 = .ok (.iload_n 2, 1) := by decide +kernel
theorem dX12_dry_5 : decode cX12_dry 5 = .ok (.aload_n 0, 1) := by decide +kernel
theorem dX12_dry_6 : decode cX12_dry 6 = .ok (.getfield 259, 3) := by decide +kernel
theorem dX12_dry_9 : decode cX12_dry 9 = .ok (.if_icmp .ge 20, 3) := by decide +kernel
theorem dX12_dry_12 : decode cX12_dry 12 = .ok (.iload_n 1, 1) := by decide +kernel
theorem dX12_dry_13 : decode cX12_dry 13 = .ok (.aload_n 0, 1) := by decide +kernel
theorem dX12_dry_14 : decode cX12_dry 14 = .ok (.getfield 47, 3) := by decide +kernel
theorem dX12_dry_17 : decode cX12_dry 17 = .ok (.iload_n 2, 1) := by decide +kernel
theorem dX12_dry_18 : decode cX12_dry 18 = .ok (.iaload, 1) := by decide +kernel
theorem dX12_dry_19 : decode cX12_dry 19 = .ok (.invokestatic 186, 3) := by decide +kernel
theorem dX12_dry_22 : decode cX12_dry 22 = .ok (.istore_n 1, 1) := by decide +kernel
theorem dX12_dry_23 : decode cX12_dry 23 = .ok (.iinc 2 1, 3) := by decide +kernel
theorem dX12_dry_26 : decode cX12_dry 26 = .ok (.goto (-22), 3) := by decide +kernel
theorem dX12_dry_29 : decode cX12_dry 29 = .ok (.iload_n 1, 1) := by decide +kernel
theorem dX12_dry_30 : decode cX12_dry 30 = .ok (.ireturn, 1) := by decide +kernel
theorem dX12_like_0 : decode cX12_like 0 = .ok (.iconst 0, 1) := by decide +kernel
theorem dX12_like_1 : decode cX12_like 1 = .ok (.istore_n 1, 1) := by decide +kernel
theorem dX12_like_2 : decode cX12_like 2 = .ok (.iconst 0, 1) := by decide +kernel
theorem dX12_like_3 : decode cX12_like 3 = .ok (.istore_n 2, 1) := by decide +kernel
theorem dX12_like_4 : decode cX12_like 4 = .ok (.iload_n 2, 1) := by decide +kernel
theorem dX12_like_5 : decode cX12_like 5 = .ok (.aload_n 0, 1) := by decide +kernel
theorem dX12_like_6 : decode cX12_like 6 = .ok (.getfield 259, 3) := by decide +kernel
theorem dX12_like_9 : decode cX12_like 9 = .ok (.if_icmp .ge 60, 3) := by decide +kernel
theorem dX12_like_12 : decode cX12_like 12 = .ok (.iconst 0, 1) := by decide +kernel
theorem dX12_like_13 : decode cX12_like 13 = .ok (.istore_n 3, 1) := by decide +kernel
theorem dX12_like_14 : decode cX12_like 14 = .ok (.iload_n 3, 1) := by decide +kernel
theorem dX12_like_15 : decode cX12_like 15 = .ok (.iload_n 2, 1) := by decide +kernel
theorem dX12_like_16 : decode cX12_like 16 = .ok (.if_icmp .ge 47, 3) := by decide +kernel
theorem dX12_like_19 : decode cX12_like 19 = .ok (.iload_n 1, 1) := by decide +kernel
theorem dX12_like_20 : decode cX12_like 20 = .ok (.aload_n 0, 1) := by decide +kernel
theorem dX12_like_21 : decode cX12_like 21 = .ok (.getfield 44, 3) := by decide +kernel
theorem dX12_like_24 : decode cX12_like 24 = .ok (.iload_n 2, 1) := by decide +kernel
theorem dX12_like_25 : decode cX12_like 25 = .ok (.iaload, 1) := by decide +kernel
theorem dX12_like_26 : decode cX12_like 26 = .ok (.aload_n 0, 1) := by decide +kernel
theorem dX12_like_27 : decode cX12_like 27 = .ok (.getfield 44, 3) := by decide +kernel
theorem dX12_like_30 : decode cX12_like 30 = .ok (.iload_n 3, 1) := by decide +kernel
theorem dX12_like_31 : decode cX12_like 31 = .ok (.iaload, 1) := by decide +kernel
theorem dX12_like_32 : decode cX12_like 32 = .ok (.if_icmp .ne 22, 3) := by decide +kernel
theorem dX12_like_35 : decode cX12_like 35 = .ok (.aload_n 0, 1) := by decide +kernel
theorem dX12_like_36 : decode cX12_like 36 = .ok (.getfield 47, 3) := by decide +kernel
theorem dX12_like_39 : decode cX12_like 39 = .ok (.iload_n 2, 1) := by decide +kernel
theorem dX12_like_40 : decode cX12_like 40 = .ok (.iaload, 1) := by decide +kernel
theorem dX12_like_41 : decode cX12_like 41 = .ok (.aload_n 0, 1) := by decide +kernel
theorem dX12_like_42 : decode cX12_like 42 = .ok (.getfield 47, 3) := by decide +kernel
theorem dX12_like_45 : decode cX12_like 45 = .ok (.iload_n 3, 1) := by decide +kernel
theorem dX12_like_46 : decode cX12_like 46 = .ok (.iaload, 1) := by decide +kernel
theorem dX12_like_47 : decode cX12_like 47 = .ok (.if_icmp .ne 7, 3) := by decide +kernel
theorem dX12_like_50 : decode cX12_like 50 = .ok (.iconst 1, 1) := by decide +kernel
theorem dX12_like_51 : decode cX12_like 51 = .ok (.goto 4, 3) := by decide +kernel
theorem dX12_like_54 : decode cX12_like 54 = .ok (.iconst 0, 1) := by decide +kernel
theorem dX12_like_55 : decode cX12_like 55 = .ok (.iadd, 1) := by decide +kernel
theorem dX12_like_56 : decode cX12_like 56 = .ok (.istore_n 1, 1) := by decide +kernel
theorem dX12_like_57 : decode cX12_like 57 = .ok (.iinc 3 1, 3) := by decide +kernel
theorem dX12_like_60 : decode cX12_like 60 = .ok (.goto (-46), 3) := by decide +kernel
theorem dX12_like_63 : decode cX12_like 63 = .ok (.iinc 2 1, 3) := by decide +kernel
theorem dX12_like_66 : decode cX12_like 66 = .ok (.goto (-62), 3) := by decide +kernel
theorem dX12_like_69 : decode cX12_like 69 = .ok (.iload_n 1, 1) := by decide +kernel
theorem dX12_like_70 : decode cX12_like 70 = .ok (.ireturn, 1) := by decide +kernel
set_option maxRecDepth 20000 in
theorem ggX12_still_X12_next : GoodIn wsX12_still wsX12_next := goodIn_r _ [8, 9, 10, 11, 12, 13, 7, 14, 15, 16, 17, 18, 19, 20, 21, 22, 23, 24, 25, 26, 27, 28, 29, 30, 31, 32, 33, 34, 35, 36, 37, 38, 39, 40, 41, 42, 43, 44, 45, 46, 47, 48, 49, 50, 51, 52, 53, 54, 55, 56, 57, 58, 59, 60, 61, 62, 63, 64, 65, 66, 67, 68, 69, 70, 71, 72, 73, 74, 75, 76, 77, 78] (by decide +kernel) (by decide +kernel)
set_option maxRecDepth 20000 in
theorem gX12_still_X12_next : GoodIn wsX12_still (wsV RX12 335 RX12 yX12_next wsX12_next) := goodIn_app (goodIn_of _ (by decide +kernel)) ggX12_still_X12_next
set_option maxRecDepth 20000 in
theorem ggX12_still_X12_greater : GoodIn wsX12_still wsX12_greater := goodIn_r _ [17] (by decide +kernel) (by decide +kernel)
set_option maxRecDepth 20000 in
theorem gX12_still_X12_greater : GoodIn wsX12_still (va_wsS RX12 186 yX12_greater wsX12_greater) := goodIn_app (goodIn_of _ (by decide +kernel)) ggX12_still_X12_greater
theorem dX12_still_0 : decode cX12_still 0 = .ok (.iconst 0, 1) := by decide +kernel
theorem dX12_still_1 : decode cX12_still 1 = .ok (.istore_n 1, 1) := by decide +kernel
theorem dX12_still_2 : decode cX12_still 2 = .ok (.iconst 0, 1) := by decide +kernel
theorem dX12_still_3 : decode cX12_still 3 = .ok (.istore_n 2, 1) := by decide +kernel
theorem dX12_still_4 : decode cX12_still 4 = .ok (.iload_n 2, 1) := by decide +kernel
theorem dX12_still_5 : decode cX12_still 5 = .ok (.ldc 56, 2) := by decide +kernel
theorem dX12_still_7 : decode cX12_still 7 = .ok (.if_icmp .ge 50, 3) := by decide +kernel
theorem dX12_still_10 : decode cX12_still 10 = .ok (.iconst 0, 1) := by decide +kernel
theorem dX12_still_11 : decode cX12_still 11 = .ok (.istore_n 3, 1) := by decide +kernel
theorem dX12_still_12 : decode cX12_still 12 = .ok (.iload_n 3, 1) := by decide +kernel
theorem dX12_still_13 : decode cX12_still 13 = .ok (.aload_n 0, 1) := by decide +kernel
theorem dX12_still_14 : decode cX12_still 14 = .ok (.getfield 249, 3) := by decide +kernel
theorem dX12_still_17 : decode cX12_still 17 = .ok (.if_icmp .gt 34, 3) := by decide +kernel
theorem dX12_still_20 : decode cX12_still 20 = .ok (.aload_n 0, 1) := by decide +kernel
theorem dX12_still_21 : decode cX12_still 21 = .ok (.getfield 57, 3) := by decide +kernel
theorem dX12_still_24 : decode cX12_still 24 = .ok (.iload_n 2, 1) := by decide +kernel
theorem dX12_still_25 : decode cX12_still 25 = .ok (.iaload, 1) := by decide +kernel
theorem dX12_still_26 : decode cX12_still 26 = .ok (.iconst (-1), 1) := by decide +kernel
theorem dX12_still_27 : decode cX12_still 27 = .ok (.if_icmp .eq 24, 3) := by decide +kernel
theorem dX12_still_30 : decode cX12_still 30 = .ok (.iload_n 1, 1) := by decide +kernel
theorem dX12_still_31 : decode cX12_still 31 = .ok (.aload_n 0, 1) := by decide +kernel
theorem dX12_still_32 : decode cX12_still 32 = .ok (.iload_n 2, 1) := by decide +kernel
theorem dX12_still_33 : decode cX12_still 33 = .ok (.sipush 4096, 3) := by decide +kernel
theorem dX12_still_36 : decode cX12_still 36 = .ok (.irem, 1) := by decide +kernel
theorem dX12_still_37 : decode cX12_still 37 = .ok (.iload_n 3, 1) := by decide +kernel
theorem dX12_still_38 : decode cX12_still 38 = .ok (.invokevirtual 335, 3) := by decide +kernel
theorem dX12_still_41 : decode cX12_still 41 = .ok (.invokestatic 186, 3) := by decide +kernel
theorem dX12_still_44 : decode cX12_still 44 = .ok (.istore_n 1, 1) := by decide +kernel
theorem dX12_still_45 : decode cX12_still 45 = .ok (.iinc 3 1, 3) := by decide +kernel
theorem dX12_still_48 : decode cX12_still 48 = .ok (.goto (-36), 3) := by decide +kernel
theorem dX12_still_51 : decode cX12_still 51 = .ok (.iinc 2 1, 3) := by decide +kernel
theorem dX12_still_54 : decode cX12_still 54 = .ok (.goto (-50), 3) := by decide +kernel
theorem dX12_still_57 : decode cX12_still 57 = .ok (.iload_n 1, 1) := by decide +kernel
theorem dX12_still_58 : decode cX12_still 58 = .ok (.ireturn, 1) := by decide +kernel
set_option maxRecDepth 20000 in
theorem ggX12_laidOut_X12_bitsOf : GoodIn wsX12_laidOut wsX12_bitsOf := goodIn_r _ [6, 7, 8, 9, 5, 10, 11, 12, 13, 14, 35, 36, 37, 38, 39, 40, 41, 42, 43, 44, 45, 46, 47, 48, 49, 50, 51, 52, 53, 54, 55, 56, 57, 58, 59, 60, 61, 62, 63, 64, 65, 66, 67, 68, 69, 70, 71, 72, 73, 74, 75, 76, 77, 78, 79, 80, 81, 82, 83, 84, 85, 86, 87, 88, 89, 90, 91, 92, 93, 94, 95] (by decide +kernel) (by decide +kernel)
set_option maxRecDepth 20000 in
theorem gX12_laidOut_X12_bitsOf : GoodIn wsX12_laidOut (wsV RX12 356 RX12 yX12_bitsOf wsX12_bitsOf) := goodIn_app (goodIn_of _ (by decide +kernel)) ggX12_laidOut_X12_bitsOf
set_option maxRecDepth 20000 in
theorem ggX12_laidOut_X12_reachedTops : GoodIn wsX12_laidOut wsX12_reachedTops := goodIn_r _ [18, 11, 35, 36, 37, 38, 39, 40, 41, 42, 43, 44, 45, 46, 47, 48, 49, 50, 51, 52, 53, 54, 55, 56, 57, 58, 59, 60, 61, 62, 63, 64, 65, 66, 67, 68, 69, 70, 71, 72, 73, 74, 75, 76, 77, 78, 79, 80, 81, 82, 83, 84, 85, 86, 87, 88, 89, 90, 91, 92, 93, 94, 95] (by decide +kernel) (by decide +kernel)
set_option maxRecDepth 20000 in
theorem gX12_laidOut_X12_reachedTops : GoodIn wsX12_laidOut (wsV RX12 495 RX12 yX12_reachedTops wsX12_reachedTops) := goodIn_app (goodIn_of _ (by decide +kernel)) ggX12_laidOut_X12_reachedTops
set_option maxRecDepth 20000 in
theorem ggX12_laidOut_X12_edge : GoodIn wsX12_laidOut wsX12_edge := goodIn_r _ [21, 22, 23, 5, 24] (by decide +kernel) (by decide +kernel)
set_option maxRecDepth 20000 in
theorem gX12_laidOut_X12_edge : GoodIn wsX12_laidOut (va_wsS RX12 498 yX12_edge wsX12_edge) := goodIn_app (goodIn_of _ (by decide +kernel)) ggX12_laidOut_X12_edge
set_option maxRecDepth 20000 in
theorem ggX12_laidOut_X12_longestRow : GoodIn wsX12_laidOut wsX12_longestRow := goodIn_r _ [27, 22, 23, 5, 24, 28, 29, 30] (by decide +kernel) (by decide +kernel)
set_option maxRecDepth 20000 in
theorem gX12_laidOut_X12_longestRow : GoodIn wsX12_laidOut (va_wsS RX12 501 yX12_longestRow wsX12_longestRow) := goodIn_app (goodIn_of _ (by decide +kernel)) ggX12_laidOut_X12_longestRow
set_option maxRecDepth 20000 in
theorem ggX12_laidOut_X12_dearest : GoodIn wsX12_laidOut wsX12_dearest := goodIn_r _ [34, 7, 8, 9, 5, 10, 11, 28, 29, 30, 35, 36, 37, 38, 39, 40, 41, 42, 43, 44, 45, 46, 47, 48, 49, 50, 51, 52, 53, 54, 55, 56, 57, 58, 59, 60, 61, 62, 63, 64, 65, 66, 67, 68, 69, 70, 71, 72, 73, 74, 75, 76, 77, 78, 79, 80, 81, 82, 83, 84, 85, 86, 87, 88, 89, 90, 91, 92, 93, 94, 95] (by decide +kernel) (by decide +kernel)
set_option maxRecDepth 20000 in
theorem gX12_laidOut_X12_dearest : GoodIn wsX12_laidOut (wsV RX12 504 RX12 yX12_dearest wsX12_dearest) := goodIn_app (goodIn_of _ (by decide +kernel)) ggX12_laidOut_X12_dearest
set_option maxRecDepth 20000 in
theorem ggX12_laidOut_X12_leastAt : GoodIn wsX12_laidOut wsX12_leastAt := goodIn_r _ [10, 11, 35, 36, 37, 38, 39, 40, 41, 42, 43, 44, 45, 46, 47, 48, 49, 50, 51, 52, 53, 54, 55, 56, 57, 58, 59, 60, 61, 62, 63, 64, 65, 66, 67, 68, 69, 70, 71, 72, 73, 74, 75, 76, 77, 78, 79, 80, 81, 82, 83, 84, 85, 86, 87, 88, 89, 90, 91, 92, 93, 94, 95] (by decide +kernel) (by decide +kernel)
set_option maxRecDepth 20000 in
theorem gX12_laidOut_X12_leastAt : GoodIn wsX12_laidOut (wsV RX12 350 RX12 yX12_leastAt wsX12_leastAt) := goodIn_app (goodIn_of _ (by decide +kernel)) ggX12_laidOut_X12_leastAt
theorem dX12_laidOut_0 : decode cX12_laidOut 0 = .ok (.aload_n 0, 1) := by decide +kernel
theorem dX12_laidOut_1 : decode cX12_laidOut 1 = .ok (.ldc_w 331, 3) := by decide +kernel
theorem dX12_laidOut_4 : decode cX12_laidOut 4 = .ok (.invokevirtual 356, 3) := by decide +kernel
theorem dX12_laidOut_7 : decode cX12_laidOut 7 = .ok (.istore_n 2, 1) := by decide +kernel
theorem dX12_laidOut_8 : decode cX12_laidOut 8 = .ok (.iload_n 1, 1) := by decide +kernel
theorem dX12_laidOut_9 : decode cX12_laidOut 9 = .ok (.tableswitch 108 0 7 #[47, 49, 54, 54, 69, 77, 82, 87], 47) := by decide +kernel
theorem dX12_laidOut_56 : decode cX12_laidOut 56 = .ok (.iload_n 2, 1) := by decide +kernel
theorem dX12_laidOut_57 : decode cX12_laidOut 57 = .ok (.ireturn, 1) := by decide +kernel
theorem dX12_laidOut_58 : decode cX12_laidOut 58 = .ok (.aload_n 0, 1) := by decide +kernel
theorem dX12_laidOut_59 : decode cX12_laidOut 59 = .ok (.invokevirtual 495, 3) := by decide +kernel
theorem dX12_laidOut_62 : decode cX12_laidOut 62 = .ok (.ireturn, 1) := by decide +kernel
theorem dX12_laidOut_63 : decode cX12_laidOut 63 = .ok (.iload_n 2, 1) := by decide +kernel
theorem dX12_laidOut_64 : decode cX12_laidOut 64 = .ok (.iload_n 1, 1) := by decide +kernel
theorem dX12_laidOut_65 : decode cX12_laidOut 65 = .ok (.iconst 3, 1) := by decide +kernel
theorem dX12_laidOut_66 : decode cX12_laidOut 66 = .ok (.if_icmp .ne 7, 3) := by decide +kernel
theorem dX12_laidOut_69 : decode cX12_laidOut 69 = .ok (.iconst 1, 1) := by decide +kernel
theorem dX12_laidOut_70 : decode cX12_laidOut 70 = .ok (.goto 4, 3) := by decide +kernel
theorem dX12_laidOut_73 : decode cX12_laidOut 73 = .ok (.iconst 0, 1) := by decide +kernel
theorem dX12_laidOut_74 : decode cX12_laidOut 74 = .ok (.invokestatic 498, 3) := by decide +kernel
theorem dX12_laidOut_77 : decode cX12_laidOut 77 = .ok (.ireturn, 1) := by decide +kernel
theorem dX12_laidOut_78 : decode cX12_laidOut 78 = .ok (.iload_n 2, 1) := by decide +kernel
theorem dX12_laidOut_79 : decode cX12_laidOut 79 = .ok (.iconst (-1), 1) := by decide +kernel
theorem dX12_laidOut_80 : decode cX12_laidOut 80 = .ok (.ixor, 1) := by decide +kernel
theorem dX12_laidOut_81 : decode cX12_laidOut 81 = .ok (.iconst 0, 1) := by decide +kernel
theorem dX12_laidOut_82 : decode cX12_laidOut 82 = .ok (.invokestatic 498, 3) := by decide +kernel
theorem dX12_laidOut_85 : decode cX12_laidOut 85 = .ok (.ireturn, 1) := by decide +kernel
theorem dX12_laidOut_86 : decode cX12_laidOut 86 = .ok (.iload_n 2, 1) := by decide +kernel
theorem dX12_laidOut_87 : decode cX12_laidOut 87 = .ok (.invokestatic 501, 3) := by decide +kernel
theorem dX12_laidOut_90 : decode cX12_laidOut 90 = .ok (.ireturn, 1) := by decide +kernel
theorem dX12_laidOut_91 : decode cX12_laidOut 91 = .ok (.aload_n 0, 1) := by decide +kernel
theorem dX12_laidOut_92 : decode cX12_laidOut 92 = .ok (.invokevirtual 504, 3) := by decide +kernel
theorem dX12_laidOut_95 : decode cX12_laidOut 95 = .ok (.ireturn, 1) := by decide +kernel
theorem dX12_laidOut_96 : decode cX12_laidOut 96 = .ok (.aload_n 0, 1) := by decide +kernel
theorem dX12_laidOut_97 : decode cX12_laidOut 97 = .ok (.invokevirtual 504, 3) := by decide +kernel
theorem dX12_laidOut_100 : decode cX12_laidOut 100 = .ok (.iconst (-1), 1) := by decide +kernel
theorem dX12_laidOut_101 : decode cX12_laidOut 101 = .ok (.if_icmp .ne 7, 3) := by decide +kernel
theorem dX12_laidOut_104 : decode cX12_laidOut 104 = .ok (.iconst 0, 1) := by decide +kernel
theorem dX12_laidOut_105 : decode cX12_laidOut 105 = .ok (.goto 11, 3) := by decide +kernel
theorem dX12_laidOut_108 : decode cX12_laidOut 108 = .ok (.aload_n 0, 1) := by decide +kernel
theorem dX12_laidOut_109 : decode cX12_laidOut 109 = .ok (.aload_n 0, 1) := by decide +kernel
theorem dX12_laidOut_110 : decode cX12_laidOut 110 = .ok (.invokevirtual 504, 3) := by decide +kernel
theorem dX12_laidOut_113 : decode cX12_laidOut 113 = .ok (.invokevirtual 350, 3) := by decide +kernel
theorem dX12_laidOut_116 : decode cX12_laidOut 116 = .ok (.ireturn, 1) := by decide +kernel
theorem dX12_laidOut_117 : decode cX12_laidOut 117 = .ok (.aload_n 0, 1) := by decide +kernel
theorem dX12_laidOut_118 : decode cX12_laidOut 118 = .ok (.iconst 0, 1) := by decide +kernel
theorem dX12_laidOut_119 : decode cX12_laidOut 119 = .ok (.invokevirtual 356, 3) := by decide +kernel
theorem dX12_laidOut_122 : decode cX12_laidOut 122 = .ok (.ireturn, 1) := by decide +kernel
set_option maxRecDepth 20000 in
theorem ggX12_times_X12_hand : GoodIn wsX12_times wsX12_hand := goodIn_r _ [6, 7, 8, 9, 10, 11, 5, 12, 13, 14, 15, 16, 17, 18, 19, 20, 21, 22, 23, 24, 25, 26, 27, 28, 29, 30, 31, 32, 125, 126, 127, 128, 129, 130, 131, 132, 133, 134, 135, 136, 137, 138, 139, 140, 141, 142, 143, 144, 145, 146, 147, 148, 149, 150, 151, 152, 153, 154, 155, 156, 157, 158, 159, 160, 161, 162, 163, 164, 165, 166, 167, 168, 169, 170, 171, 172, 173, 174, 175, 176, 177, 178, 179, 180, 181, 182, 183, 184, 185] (by decide +kernel) (by decide +kernel)
set_option maxRecDepth 20000 in
theorem gX12_times_X12_hand : GoodIn wsX12_times (wsV RX12 265 RX12 yX12_hand wsX12_hand) := goodIn_app (goodIn_of _ (by decide +kernel)) ggX12_times_X12_hand
set_option maxRecDepth 20000 in
theorem ggX12_times_X12_in : GoodIn wsX12_times wsX12_in := goodIn_r _ [16] (by decide +kernel) (by decide +kernel)
set_option maxRecDepth 20000 in
theorem gX12_times_X12_in : GoodIn wsX12_times (va_wsS RX12 110 yX12_in wsX12_in) := goodIn_app (goodIn_of _ (by decide +kernel)) ggX12_times_X12_in
set_option maxRecDepth 20000 in
theorem ggX12_times_X12_isGlass : GoodIn wsX12_times wsX12_isGlass := goodIn_r _ [36, 8, 14, 15, 5, 16, 125, 126, 127, 128, 129, 130, 131, 132, 133, 134, 135, 136, 137, 138, 139, 140, 141, 142, 143, 144, 145, 146, 147, 148, 149, 150, 151, 152, 153, 154, 155, 156, 157, 158, 159, 160, 161, 162, 163, 164, 165, 166, 167, 168, 169, 170, 171, 172, 173, 174, 175, 176, 177, 178, 179, 180, 181, 182, 183, 184, 185] (by decide +kernel) (by decide +kernel)
set_option maxRecDepth 20000 in
theorem gX12_times_X12_isGlass : GoodIn wsX12_times (wsV RX12 268 RX12 yX12_isGlass wsX12_isGlass) := goodIn_app (goodIn_of _ (by decide +kernel)) ggX12_times_X12_isGlass
set_option maxRecDepth 20000 in
theorem ggX12_times_X12_timesOf : GoodIn wsX12_times wsX12_timesOf := goodIn_r _ [40, 41, 22, 23, 24, 5, 25, 26, 27, 28, 29, 30, 31, 32, 17, 18, 19, 20, 21, 7, 42, 43, 44, 45, 46, 47, 48, 49, 50, 51, 52, 53, 54, 55, 56, 57, 58, 59, 60, 61, 62, 63, 64, 65, 66, 67, 68, 69, 70, 71, 72, 73, 74, 75, 76, 77, 78, 14, 15, 16, 125, 126, 127, 128, 129, 130, 131, 132, 133, 134, 135, 136, 137, 138, 139, 140, 141, 142, 143, 144, 145, 146, 147, 148, 149, 150, 151, 152, 153, 154, 155, 156, 157, 158, 159, 160, 161, 162, 163, 164, 165, 166, 167, 168, 169, 170, 171, 172, 173, 174, 175, 176, 177, 178, 179, 180, 181, 182, 183, 184, 185] (by decide +kernel) (by decide +kernel)
set_option maxRecDepth 20000 in
theorem gX12_times_X12_timesOf : GoodIn wsX12_times (wsV RX12 378 RX12 yX12_timesOf wsX12_timesOf) := goodIn_app (goodIn_of _ (by decide +kernel)) ggX12_times_X12_timesOf
set_option maxRecDepth 20000 in
theorem ggX12_times_X12_layOut : GoodIn wsX12_times wsX12_layOut := goodIn_r _ [45, 46, 27, 47, 48, 49, 5, 50, 51, 52, 53, 54, 26, 55, 56, 57, 58, 59, 41, 28, 30, 31, 32, 60, 61, 62, 63, 64, 65, 66, 17, 18, 19, 20, 21, 7, 67, 68, 69, 70, 125, 126, 127, 128, 129, 130, 131, 132, 133, 134, 135, 136, 137, 138, 139, 140, 141, 142, 143, 144, 145, 146, 147, 148, 149, 150, 151, 152, 153, 154, 155, 156, 157, 158, 159, 160, 161, 162, 163, 164, 165, 166, 167, 168, 169, 170, 171, 172, 173, 174, 175, 176, 177, 178, 179, 180, 181, 182, 183, 184, 185] (by decide +kernel) (by decide +kernel)
set_option maxRecDepth 20000 in
theorem gX12_times_X12_layOut : GoodIn wsX12_times (wsV RX12 353 RX12 yX12_layOut wsX12_layOut) := goodIn_app (goodIn_of _ (by decide +kernel)) ggX12_times_X12_layOut
set_option maxRecDepth 20000 in
theorem ggX12_times_X12_laidOut : GoodIn wsX12_times wsX12_laidOut := goodIn_r _ [82, 41, 71, 72, 73, 5, 74, 75, 76, 77, 78, 46, 14, 15, 16, 83, 84, 85, 86, 87, 88, 89, 30, 31, 32, 90, 91, 92, 60, 61, 62, 93, 94, 95, 96, 125, 126, 127, 128, 129, 130, 131, 132, 133, 134, 135, 136, 137, 138, 139, 140, 141, 142, 143, 144, 145, 146, 147, 148, 149, 150, 151, 152, 153, 154, 155, 156, 157, 158, 159, 160, 161, 162, 163, 164, 165, 166, 167, 168, 169, 170, 171, 172, 173, 174, 175, 176, 177, 178, 179, 180, 181, 182, 183, 184, 185] (by decide +kernel) (by decide +kernel)
set_option maxRecDepth 20000 in
theorem gX12_times_X12_laidOut : GoodIn wsX12_times (wsV RX12 507 RX12 yX12_laidOut wsX12_laidOut) := goodIn_app (goodIn_of _ (by decide +kernel)) ggX12_times_X12_laidOut
set_option maxRecDepth 20000 in
theorem ggX12_times_X12_commonSize : GoodIn wsX12_times wsX12_commonSize := goodIn_r _ [100, 8, 28, 101, 102, 5, 103, 125, 126, 127, 128, 129, 130, 131, 132, 133, 134, 135, 136, 137, 138, 139, 140, 141, 142, 143, 144, 145, 146, 147, 148, 149, 150, 151, 152, 153, 154, 155, 156, 157, 158, 159, 160, 161, 162, 163, 164, 165, 166, 167, 168, 169, 170, 171, 172, 173, 174, 175, 176, 177, 178, 179, 180, 181, 182, 183, 184, 185] (by decide +kernel) (by decide +kernel)
set_option maxRecDepth 20000 in
theorem gX12_times_X12_commonSize : GoodIn wsX12_times (wsV RX12 510 RX12 yX12_commonSize wsX12_commonSize) := goodIn_app (goodIn_of _ (by decide +kernel)) ggX12_times_X12_commonSize
set_option maxRecDepth 20000 in
theorem ggX12_times_X12_sand : GoodIn wsX12_times wsX12_sand := goodIn_r _ [107, 8, 29, 125, 126, 127, 128, 129, 130, 131, 132, 133, 134, 135, 136, 137, 138, 139, 140, 141, 142, 143, 144, 145, 146, 147, 148, 149, 150, 151, 152, 153, 154, 155, 156, 157, 158, 159, 160, 161, 162, 163, 164, 165, 166, 167, 168, 169, 170, 171, 172, 173, 174, 175, 176, 177, 178, 179, 180, 181, 182, 183, 184, 185] (by decide +kernel) (by decide +kernel)
set_option maxRecDepth 20000 in
theorem gX12_times_X12_sand : GoodIn wsX12_times (wsV RX12 513 RX12 yX12_sand wsX12_sand) := goodIn_app (goodIn_of _ (by decide +kernel)) ggX12_times_X12_sand
set_option maxRecDepth 20000 in
theorem ggX12_times_X12_even : GoodIn wsX12_times wsX12_even := goodIn_r _ [111, 8, 29, 28, 125, 126, 127, 128, 129, 130, 131, 132, 133, 134, 135, 136, 137, 138, 139, 140, 141, 142, 143, 144, 145, 146, 147, 148, 149, 150, 151, 152, 153, 154, 155, 156, 157, 158, 159, 160, 161, 162, 163, 164, 165, 166, 167, 168, 169, 170, 171, 172, 173, 174, 175, 176, 177, 178, 179, 180, 181, 182, 183, 184, 185] (by decide +kernel) (by decide +kernel)
set_option maxRecDepth 20000 in
theorem gX12_times_X12_even : GoodIn wsX12_times (wsV RX12 516 RX12 yX12_even wsX12_even) := goodIn_app (goodIn_of _ (by decide +kernel)) ggX12_times_X12_even
set_option maxRecDepth 20000 in
theorem ggX12_times_X12_dry : GoodIn wsX12_times wsX12_dry := goodIn_r _ [115, 8, 29, 60, 61, 5, 62, 125, 126, 127, 128, 129, 130, 131, 132, 133, 134, 135, 136, 137, 138, 139, 140, 141, 142, 143, 144, 145, 146, 147, 148, 149, 150, 151, 152, 153, 154, 155, 156, 157, 158, 159, 160, 161, 162, 163, 164, 165, 166, 167, 168, 169, 170, 171, 172, 173, 174, 175, 176, 177, 178, 179, 180, 181, 182, 183, 184, 185] (by decide +kernel) (by decide +kernel)
set_option maxRecDepth 20000 in
theorem gX12_times_X12_dry : GoodIn wsX12_times (wsV RX12 519 RX12 yX12_dry wsX12_dry) := goodIn_app (goodIn_of _ (by decide +kernel)) ggX12_times_X12_dry
set_option maxRecDepth 20000 in
theorem ggX12_times_X12_like : GoodIn wsX12_times wsX12_like := goodIn_r _ [119, 8, 28, 29, 125, 126, 127, 128, 129, 130, 131, 132, 133, 134, 135, 136, 137, 138, 139, 140, 141, 142, 143, 144, 145, 146, 147, 148, 149, 150, 151, 152, 153, 154, 155, 156, 157, 158, 159, 160, 161, 162, 163, 164, 165, 166, 167, 168, 169, 170, 171, 172, 173, 174, 175, 176, 177, 178, 179, 180, 181, 182, 183, 184, 185] (by decide +kernel) (by decide +kernel)
set_option maxRecDepth 20000 in
theorem gX12_times_X12_like : GoodIn wsX12_times (wsV RX12 522 RX12 yX12_like wsX12_like) := goodIn_app (goodIn_of _ (by decide +kernel)) ggX12_times_X12_like
set_option maxRecDepth 20000 in
theorem ggX12_times_X12_still : GoodIn wsX12_times wsX12_still := goodIn_r _ [123, 124, 26, 46, 56, 57, 58, 5, 59, 41, 28, 55, 30, 31, 32, 60, 61, 62, 125, 126, 127, 128, 129, 130, 131, 132, 133, 134, 135, 136, 137, 138, 139, 140, 141, 142, 143, 144, 145, 146, 147, 148, 149, 150, 151, 152, 153, 154, 155, 156, 157, 158, 159, 160, 161, 162, 163, 164, 165, 166, 167, 168, 169, 170, 171, 172, 173, 174, 175, 176, 177, 178, 179, 180, 181, 182, 183, 184, 185] (by decide +kernel) (by decide +kernel)
set_option maxRecDepth 20000 in
theorem gX12_times_X12_still : GoodIn wsX12_times (wsV RX12 525 RX12 yX12_still wsX12_still) := goodIn_app (goodIn_of _ (by decide +kernel)) ggX12_times_X12_still
theorem dX12_times_0 : decode cX12_times 0 = .ok (.aload_n 0, 1) := by decide +kernel
theorem dX12_times_1 : decode cX12_times 1 = .ok (.iconst 0, 1) := by decide +kernel
theorem dX12_times_2 : decode cX12_times 2 = .ok (.putfield 98, 3) := by decide +kernel
theorem dX12_times_5 : decode cX12_times 5 = .ok (.aload_n 0, 1) := by decide +kernel
theorem dX12_times_6 : decode cX12_times 6 = .ok (.iload_n 1, 1) := by decide +kernel
theorem dX12_times_7 : decode cX12_times 7 = .ok (.invokevirtual 265, 3) := by decide +kernel
theorem dX12_times_10 : decode cX12_times 10 = .ok (.ifCond .ne 6, 3) := by decide +kernel
theorem dX12_times_13 : decode cX12_times 13 = .ok (.bipush (-2), 2) := by decide +kernel
theorem dX12_times_15 : decode cX12_times 15 = .ok (.ireturn, 1) := by decide +kernel
theorem dX12_times_16 : decode cX12_times 16 = .ok (.iload_n 2, 1) := by decide +kernel
theorem dX12_times_17 : decode cX12_times 17 = .ok (.bipush 20, 2) := by decide +kernel
theorem dX12_times_19 : decode cX12_times 19 = .ok (.bipush 23, 2) := by decide +kernel
theorem dX12_times_21 : decode cX12_times 21 = .ok (.invokestatic 110, 3) := by decide +kernel
theorem dX12_times_24 : decode cX12_times 24 = .ok (.ifCond .eq 30, 3) := by decide +kernel
theorem dX12_times_27 : decode cX12_times 27 = .ok (.aload_n 0, 1) := by decide +kernel
theorem dX12_times_28 : decode cX12_times 28 = .ok (.iload_n 2, 1) := by decide +kernel
theorem dX12_times_29 : decode cX12_times 29 = .ok (.bipush 20, 2) := by decide +kernel
theorem dX12_times_31 : decode cX12_times 31 = .ok (.isub, 1) := by decide +kernel
theorem dX12_times_32 : decode cX12_times 32 = .ok (.invokevirtual 268, 3) := by decide +kernel
theorem dX12_times_35 : decode cX12_times 35 = .ok (.ifCond .eq 16, 3) := by decide +kernel
theorem dX12_times_38 : decode cX12_times 38 = .ok (.aload_n 0, 1) := by decide +kernel
theorem dX12_times_39 : decode cX12_times 39 = .ok (.iconst 1, 1) := by decide +kernel
theorem dX12_times_40 : decode cX12_times 40 = .ok (.iload_n 2, 1) := by decide +kernel
theorem dX12_times_41 : decode cX12_times 41 = .ok (.bipush 20, 2) := by decide +kernel
theorem dX12_times_43 : decode cX12_times 43 = .ok (.isub, 1) := by decide +kernel
theorem dX12_times_44 : decode cX12_times 44 = .ok (.ishl, 1) := by decide +kernel
theorem dX12_times_45 : decode cX12_times 45 = .ok (.invokevirtual 378, 3) := by decide +kernel
theorem dX12_times_48 : decode cX12_times 48 = .ok (.goto 5, 3) := by decide +kernel
theorem dX12_times_51 : decode cX12_times 51 = .ok (.bipush (-2), 2) := by decide +kernel
theorem dX12_times_53 : decode cX12_times 53 = .ok (.ireturn, 1) := by decide +kernel
theorem dX12_times_54 : decode cX12_times 54 = .ok (.iload_n 2, 1) := by decide +kernel
theorem dX12_times_55 : decode cX12_times 55 = .ok (.iconst 0, 1) := by decide +kernel
theorem dX12_times_56 : decode cX12_times 56 = .ok (.bipush 8, 2) := by decide +kernel
theorem dX12_times_58 : decode cX12_times 58 = .ok (.invokestatic 110, 3) := by decide +kernel
theorem dX12_times_61 : decode cX12_times 61 = .ok (.ifCond .eq 14, 3) := by decide +kernel
theorem dX12_times_64 : decode cX12_times 64 = .ok (.aload_n 0, 1) := by decide +kernel
theorem dX12_times_65 : decode cX12_times 65 = .ok (.iconst 0, 1) := by decide +kernel
theorem dX12_times_66 : decode cX12_times 66 = .ok (.invokevirtual 353, 3) := by decide +kernel
theorem dX12_times_69 : decode cX12_times 69 = .ok (.aload_n 0, 1) := by decide +kernel
theorem dX12_times_70 : decode cX12_times 70 = .ok (.iload_n 2, 1) := by decide +kernel
theorem dX12_times_71 : decode cX12_times 71 = .ok (.invokevirtual 507, 3) := by decide +kernel
theorem dX12_times_74 : decode cX12_times 74 = .ok (.ireturn, 1) := by decide +kernel
theorem dX12_times_75 : decode cX12_times 75 = .ok (.iload_n 2, 1) := by decide +kernel
theorem dX12_times_76 : decode cX12_times 76 = .ok (.tableswitch 75 9 14 #[40, 45, 50, 55, 60, 65], 40) := by decide +kernel
theorem dX12_times_116 : decode cX12_times 116 = .ok (.aload_n 0, 1) := by decide +kernel
theorem dX12_times_117 : decode cX12_times 117 = .ok (.invokevirtual 510, 3) := by decide +kernel
theorem dX12_times_120 : decode cX12_times 120 = .ok (.ireturn, 1) := by decide +kernel
theorem dX12_times_121 : decode cX12_times 121 = .ok (.aload_n 0, 1) := by decide +kernel
theorem dX12_times_122 : decode cX12_times 122 = .ok (.invokevirtual 513, 3) := by decide +kernel
theorem dX12_times_125 : decode cX12_times 125 = .ok (.ireturn, 1) := by decide +kernel
theorem dX12_times_126 : decode cX12_times 126 = .ok (.aload_n 0, 1) := by decide +kernel
theorem dX12_times_127 : decode cX12_times 127 = .ok (.invokevirtual 516, 3) := by decide +kernel
theorem dX12_times_130 : decode cX12_times 130 = .ok (.ireturn, 1) := by decide +kernel
theorem dX12_times_131 : decode cX12_times 131 = .ok (.aload_n 0, 1) := by decide +kernel
theorem dX12_times_132 : decode cX12_times 132 = .ok (.invokevirtual 519, 3) := by decide +kernel
theorem dX12_times_135 : decode cX12_times 135 = .ok (.ireturn, 1) := by decide +kernel
theorem dX12_times_136 : decode cX12_times 136 = .ok (.aload_n 0, 1) := by decide +kernel
theorem dX12_times_137 : decode cX12_times 137 = .ok (.invokevirtual 522, 3) := by decide +kernel
theorem dX12_times_140 : decode cX12_times 140 = .ok (.ireturn, 1) := by decide +kernel
theorem dX12_times_141 : decode cX12_times 141 = .ok (.aload_n 0, 1) := by decide +kernel
theorem dX12_times_142 : decode cX12_times 142 = .ok (.iconst 0, 1) := by decide +kernel
theorem dX12_times_143 : decode cX12_times 143 = .ok (.invokevirtual 353, 3) := by decide +kernel
theorem dX12_times_146 : decode cX12_times 146 = .ok (.aload_n 0, 1) := by decide +kernel
theorem dX12_times_147 : decode cX12_times 147 = .ok (.invokevirtual 525, 3) := by decide +kernel
theorem dX12_times_150 : decode cX12_times 150 = .ok (.ireturn, 1) := by decide +kernel
theorem dX12_times_151 : decode cX12_times 151 = .ok (.bipush (-2), 2) := by decide +kernel
theorem dX12_times_153 : decode cX12_times 153 = .ok (.ireturn, 1) := by decide +kernel
set_option maxRecDepth 20000 in
theorem ggX12_couples_X12_in : GoodIn wsX12_couples wsX12_in := goodIn_r _ [6] (by decide +kernel) (by decide +kernel)
set_option maxRecDepth 20000 in
theorem gX12_couples_X12_in : GoodIn wsX12_couples (va_wsS RX12 110 yX12_in wsX12_in) := goodIn_app (goodIn_of _ (by decide +kernel)) ggX12_couples_X12_in
set_option maxRecDepth 20000 in
theorem ggX12_couples_X12_hand : GoodIn wsX12_couples wsX12_hand := goodIn_r _ [10, 11, 2, 12, 13, 14, 5, 15, 16, 3, 4, 6, 17, 18, 19, 20, 21, 22, 23, 24, 25, 26, 27, 28, 29, 30, 31, 32, 75, 76, 77, 78, 79, 80, 81, 82, 83, 84, 85, 86, 87, 88, 89, 90, 91, 92, 93, 94, 95, 96, 97, 98, 99, 100, 101, 102, 103, 104, 105, 106, 107, 108, 109, 110, 111, 112, 113, 114, 115, 116, 117, 118, 119, 120, 121, 122, 123, 124, 125, 126, 127, 128, 129, 130, 131, 132, 133, 134, 135] (by decide +kernel) (by decide +kernel)
set_option maxRecDepth 20000 in
theorem gX12_couples_X12_hand : GoodIn wsX12_couples (wsV RX12 265 RX12 yX12_hand wsX12_hand) := goodIn_app (goodIn_of _ (by decide +kernel)) ggX12_couples_X12_hand
set_option maxRecDepth 20000 in
theorem ggX12_couples_X12_timesOf : GoodIn wsX12_couples wsX12_timesOf := goodIn_r _ [36, 37, 22, 23, 24, 5, 25, 26, 27, 28, 29, 30, 31, 32, 17, 18, 19, 20, 21, 11, 38, 39, 40, 41, 42, 43, 44, 45, 46, 47, 48, 49, 50, 51, 52, 53, 54, 55, 56, 57, 58, 59, 60, 61, 62, 63, 64, 65, 66, 67, 68, 69, 70, 71, 72, 73, 74, 3, 4, 6, 75, 76, 77, 78, 79, 80, 81, 82, 83, 84, 85, 86, 87, 88, 89, 90, 91, 92, 93, 94, 95, 96, 97, 98, 99, 100, 101, 102, 103, 104, 105, 106, 107, 108, 109, 110, 111, 112, 113, 114, 115, 116, 117, 118, 119, 120, 121, 122, 123, 124, 125, 126, 127, 128, 129, 130, 131, 132, 133, 134, 135] (by decide +kernel) (by decide +kernel)
set_option maxRecDepth 20000 in
theorem gX12_couples_X12_timesOf : GoodIn wsX12_couples (wsV RX12 378 RX12 yX12_timesOf wsX12_timesOf) := goodIn_app (goodIn_of _ (by decide +kernel)) ggX12_couples_X12_timesOf
set_option maxRecDepth 20000 in
theorem ggX12_couples_X12_has : GoodIn wsX12_couples wsX12_has := goodIn_r _ [32] (by decide +kernel) (by decide +kernel)
set_option maxRecDepth 20000 in
theorem gX12_couples_X12_has : GoodIn wsX12_couples (va_wsS RX12 102 yX12_has wsX12_has) := goodIn_app (goodIn_of _ (by decide +kernel)) ggX12_couples_X12_has
theorem dX12_couples_0 : decode cX12_couples 0 = .ok (.aload_n 0, 1) := by decide +kernel
theorem dX12_couples_1 : decode cX12_couples 1 = .ok (.iconst 0, 1) := by decide +kernel
theorem dX12_couples_2 : decode cX12_couples 2 = .ok (.putfield 98, 3) := by decide +kernel
theorem dX12_couples_5 : decode cX12_couples 5 = .ok (.iload_n 2, 1) := by decide +kernel
theorem dX12_couples_6 : decode cX12_couples 6 = .ok (.iconst 1, 1) := by decide +kernel
theorem dX12_couples_7 : decode cX12_couples 7 = .ok (.bipush 30, 2) := by decide +kernel
theorem dX12_couples_9 : decode cX12_couples 9 = .ok (.invokestatic 110, 3) := by decide +kernel
theorem dX12_couples_12 : decode cX12_couples 12 = .ok (.ifCond .eq 11, 3) := by decide +kernel
theorem dX12_couples_15 : decode cX12_couples 15 = .ok (.aload_n 0, 1) := by decide +kernel
theorem dX12_couples_16 : decode cX12_couples 16 = .ok (.iload_n 1, 1) := by decide +kernel
theorem dX12_couples_17 : decode cX12_couples 17 = .ok (.invokevirtual 265, 3) := by decide +kernel
theorem dX12_couples_20 : decode cX12_couples 20 = .ok (.ifCond .ne 5, 3) := by decide +kernel
theorem dX12_couples_23 : decode cX12_couples 23 = .ok (.iconst (-1), 1) := by decide +kernel
theorem dX12_couples_24 : decode cX12_couples 24 = .ok (.ireturn, 1) := by decide +kernel
theorem dX12_couples_25 : decode cX12_couples 25 = .ok (.iconst 0, 1) := by decide +kernel
theorem dX12_couples_26 : decode cX12_couples 26 = .ok (.istore_n 3, 1) := by decide +kernel
theorem dX12_couples_27 : decode cX12_couples 27 = .ok (.iconst 0, 1) := by decide +kernel
theorem dX12_couples_28 : decode cX12_couples 28 = .ok (.istore 4, 2) := by decide +kernel
theorem dX12_couples_30 : decode cX12_couples 30 = .ok (.iload 4, 2) := by decide +kernel
theorem dX12_couples_32 : decode cX12_couples 32 = .ok (.aload_n 0, 1) := by decide +kernel
theorem dX12_couples_33 : decode cX12_couples 33 = .ok (.getfield 259, 3) := by decide +kernel
theorem dX12_couples_36 : decode cX12_couples 36 = .ok (.if_icmp .ge 53, 3) := by decide +kernel
theorem dX12_couples_39 : decode cX12_couples 39 = .ok (.iconst 0, 1) := by decide +kernel
theorem dX12_couples_40 : decode cX12_couples 40 = .ok (.istore 5, 2) := by decide +kernel
theorem dX12_couples_42 : decode cX12_couples 42 = .ok (.iload 5, 2) := by decide +kernel
theorem dX12_couples_44 : decode cX12_couples 44 = .ok (.iload 4, 2) := by decide +kernel
theorem dX12_couples_46 : decode cX12_couples 46 = .ok (.if_icmp .ge 37, 3) := by decide +kernel
theorem dX12_couples_49 : decode cX12_couples 49 = .ok (.iload_n 3, 1) := by decide +kernel
theorem dX12_couples_50 : decode cX12_couples 50 = .ok (.aload_n 0, 1) := by decide +kernel
theorem dX12_couples_51 : decode cX12_couples 51 = .ok (.iconst 1, 1) := by decide +kernel
theorem dX12_couples_52 : decode cX12_couples 52 = .ok (.iload 4, 2) := by decide +kernel
theorem dX12_couples_54 : decode cX12_couples 54 = .ok (.ishl, 1) := by decide +kernel
theorem dX12_couples_55 : decode cX12_couples 55 = .ok (.iconst 1, 1) := by decide +kernel
theorem dX12_couples_56 : decode cX12_couples 56 = .ok (.iload 5, 2) := by decide +kernel
theorem dX12_couples_58 : decode cX12_couples 58 = .ok (.ishl, 1) := by decide +kernel
theorem dX12_couples_59 : decode cX12_couples 59 = .ok (.ior, 1) := by decide +kernel
theorem dX12_couples_60 : decode cX12_couples 60 = .ok (.invokevirtual 378, 3) := by decide +kernel
theorem dX12_couples_63 : decode cX12_couples 63 = .ok (.iload_n 2, 1) := by decide +kernel
theorem dX12_couples_64 : decode cX12_couples 64 = .ok (.invokestatic 102, 3) := by decide +kernel
theorem dX12_couples_67 : decode cX12_couples 67 = .ok (.ifCond .eq 7, 3) := by decide +kernel
theorem dX12_couples_70 : decode cX12_couples 70 = .ok (.iconst 1, 1) := by decide +kernel
theorem dX12_couples_71 : decode cX12_couples 71 = .ok (.goto 4, 3) := by decide +kernel
theorem dX12_couples_74 : decode cX12_couples 74 = .ok (.iconst 0, 1) := by decide +kernel
theorem dX12_couples_75 : decode cX12_couples 75 = .ok (.iadd, 1) := by decide +kernel
theorem dX12_couples_76 : decode cX12_couples 76 = .ok (.istore_n 3, 1) := by decide +kernel
theorem dX12_couples_77 : decode cX12_couples 77 = .ok (.iinc 5 1, 3) := by decide +kernel
theorem dX12_couples_80 : decode cX12_couples 80 = .ok (.goto (-38), 3) := by decide +kernel
theorem dX12_couples_83 : decode cX12_couples 83 = .ok (.iinc 4 1, 3) := by decide +kernel
theorem dX12_couples_86 : decode cX12_couples 86 = .ok (.goto (-56), 3) := by decide +kernel
theorem dX12_couples_89 : decode cX12_couples 89 = .ok (.iload_n 3, 1) := by decide +kernel
theorem dX12_couples_90 : decode cX12_couples 90 = .ok (.ireturn, 1) := by decide +kernel
set_option maxRecDepth 20000 in
theorem ggX12_crowd_X12_in : GoodIn wsX12_crowd wsX12_in := goodIn_r _ [6] (by decide +kernel) (by decide +kernel)
set_option maxRecDepth 20000 in
theorem gX12_crowd_X12_in : GoodIn wsX12_crowd (va_wsS RX12 110 yX12_in wsX12_in) := goodIn_app (goodIn_of _ (by decide +kernel)) ggX12_crowd_X12_in
set_option maxRecDepth 20000 in
theorem ggX12_crowd_X12_hand : GoodIn wsX12_crowd wsX12_hand := goodIn_r _ [10, 11, 12, 13, 14, 15, 5, 16, 17, 3, 4, 6, 18, 19, 20, 21, 22, 23, 24, 25, 26, 27, 28, 29, 30, 31, 32, 33, 63, 64, 65, 66, 67, 68, 69, 70, 71, 72, 73, 74, 75, 76, 77, 78, 79, 80, 81, 82, 83, 84, 85, 86, 87, 88, 89, 90, 91, 92, 93, 94, 95, 96, 97, 98, 99, 100, 101, 102, 103, 104, 105, 106, 107, 108, 109, 110, 111, 112, 113, 114, 115, 116, 117, 118, 119, 120, 121, 122, 123] (by decide +kernel) (by decide +kernel)
set_option maxRecDepth 20000 in
theorem gX12_crowd_X12_hand : GoodIn wsX12_crowd (wsV RX12 265 RX12 yX12_hand wsX12_hand) := goodIn_app (goodIn_of _ (by decide +kernel)) ggX12_crowd_X12_hand
set_option maxRecDepth 20000 in
theorem ggX12_crowd_X12_layOut : GoodIn wsX12_crowd wsX12_layOut := goodIn_r _ [37, 2, 28, 38, 39, 40, 5, 41, 42, 43, 44, 45, 27, 46, 47, 48, 49, 50, 51, 29, 31, 32, 33, 52, 53, 54, 55, 56, 57, 58, 18, 19, 20, 21, 22, 11, 59, 60, 61, 62, 63, 64, 65, 66, 67, 68, 69, 70, 71, 72, 73, 74, 75, 76, 77, 78, 79, 80, 81, 82, 83, 84, 85, 86, 87, 88, 89, 90, 91, 92, 93, 94, 95, 96, 97, 98, 99, 100, 101, 102, 103, 104, 105, 106, 107, 108, 109, 110, 111, 112, 113, 114, 115, 116, 117, 118, 119, 120, 121, 122, 123] (by decide +kernel) (by decide +kernel)
set_option maxRecDepth 20000 in
theorem gX12_crowd_X12_layOut : GoodIn wsX12_crowd (wsV RX12 353 RX12 yX12_layOut wsX12_layOut) := goodIn_app (goodIn_of _ (by decide +kernel)) ggX12_crowd_X12_layOut
theorem dX12_crowd_0 : decode cX12_crowd 0 = .ok (.aload_n 0, 1) := by decide +kernel
theorem dX12_crowd_1 : decode cX12_crowd 1 = .ok (.iconst 0, 1) := by decide +kernel
theorem dX12_crowd_2 : decode cX12_crowd 2 = .ok (.putfield 98, 3) := by decide +kernel
theorem dX12_crowd_5 : decode cX12_crowd 5 = .ok (.iload_n 2, 1) := by decide +kernel
theorem dX12_crowd_6 : decode cX12_crowd 6 = .ok (.iconst 0, 1) := by decide +kernel
theorem dX12_crowd_7 : decode cX12_crowd 7 = .ok (.bipush 30, 2) := by decide +kernel
theorem dX12_crowd_9 : decode cX12_crowd 9 = .ok (.invokestatic 110, 3) := by decide +kernel
theorem dX12_crowd_12 : decode cX12_crowd 12 = .ok (.ifCond .eq 11, 3) := by decide +kernel
theorem dX12_crowd_15 : decode cX12_crowd 15 = .ok (.aload_n 0, 1) := by decide +kernel
theorem dX12_crowd_16 : decode cX12_crowd 16 = .ok (.iload_n 1, 1) := by decide +kernel
theorem dX12_crowd_17 : decode cX12_crowd 17 = .ok (.invokevirtual 265, 3) := by decide +kernel
theorem dX12_crowd_20 : decode cX12_crowd 20 = .ok (.ifCond .ne 5, 3) := by decide +kernel
theorem dX12_crowd_23 : decode cX12_crowd 23 = .ok (.iconst (-1), 1) := by decide +kernel
theorem dX12_crowd_24 : decode cX12_crowd 24 = .ok (.ireturn, 1) := by decide +kernel
theorem dX12_crowd_25 : decode cX12_crowd 25 = .ok (.aload_n 0, 1) := by decide +kernel
theorem dX12_crowd_26 : decode cX12_crowd 26 = .ok (.iconst 0, 1) := by decide +kernel
theorem dX12_crowd_27 : decode cX12_crowd 27 = .ok (.invokevirtual 353, 3) := by decide +kernel
theorem dX12_crowd_30 : decode cX12_crowd 30 = .ok (.iconst 0, 1) := by decide +kernel
theorem dX12_crowd_31 : decode cX12_crowd 31 = .ok (.istore_n 3, 1) := by decide +kernel
theorem dX12_crowd_32 : decode cX12_crowd 32 = .ok (.iconst 0, 1) := by decide +kernel
theorem dX12_crowd_33 : decode cX12_crowd 33 = .ok (.istore 4, 2) := by decide +kernel
theorem dX12_crowd_35 : decode cX12_crowd 35 = .ok (.iload 4, 2) := by decide +kernel
theorem dX12_crowd_37 : decode cX12_crowd 37 = .ok (.sipush 4096, 3) := by decide +kernel
theorem dX12_crowd_40 : decode cX12_crowd 40 = .ok (.if_icmp .ge 34, 3) := by decide +kernel
theorem dX12_crowd_43 : decode cX12_crowd 43 = .ok (.iload_n 3, 1) := by decide +kernel
theorem dX12_crowd_44 : decode cX12_crowd 44 = .ok (.aload_n 0, 1) := by decide +kernel
theorem dX12_crowd_45 : decode cX12_crowd 45 = .ok (.getfield 57, 3) := by decide +kernel
theorem dX12_crowd_48 : decode cX12_crowd 48 = .ok (.sipush 4096, 3) := by decide +kernel
theorem dX12_crowd_51 : decode cX12_crowd 51 = .ok (.iload_n 2, 1) := by decide +kernel
theorem dX12_crowd_52 : decode cX12_crowd 52 = .ok (.imul, 1) := by decide +kernel
theorem dX12_crowd_53 : decode cX12_crowd 53 = .ok (.iload 4, 2) := by decide +kernel
theorem dX12_crowd_55 : decode cX12_crowd 55 = .ok (.iadd, 1) := by decide +kernel
theorem dX12_crowd_56 : decode cX12_crowd 56 = .ok (.iaload, 1) := by decide +kernel
theorem dX12_crowd_57 : decode cX12_crowd 57 = .ok (.iconst (-1), 1) := by decide +kernel
theorem dX12_crowd_58 : decode cX12_crowd 58 = .ok (.if_icmp .eq 7, 3) := by decide +kernel
theorem dX12_crowd_61 : decode cX12_crowd 61 = .ok (.iconst 1, 1) := by decide +kernel
theorem dX12_crowd_62 : decode cX12_crowd 62 = .ok (.goto 4, 3) := by decide +kernel
theorem dX12_crowd_65 : decode cX12_crowd 65 = .ok (.iconst 0, 1) := by decide +kernel
theorem dX12_crowd_66 : decode cX12_crowd 66 = .ok (.iadd, 1) := by decide +kernel
theorem dX12_crowd_67 : decode cX12_crowd 67 = .ok (.istore_n 3, 1) := by decide +kernel
theorem dX12_crowd_68 : decode cX12_crowd 68 = .ok (.iinc 4 1, 3) := by decide +kernel
theorem dX12_crowd_71 : decode cX12_crowd 71 = .ok (.goto (-36), 3) := by decide +kernel
theorem dX12_crowd_74 : decode cX12_crowd 74 = .ok (.iload_n 3, 1) := by decide +kernel
theorem dX12_crowd_75 : decode cX12_crowd 75 = .ok (.ireturn, 1) := by decide +kernel
set_option maxRecDepth 20000 in
theorem ggX12_same_X12_in : GoodIn wsX12_same wsX12_in := goodIn_r _ [8] (by decide +kernel) (by decide +kernel)
set_option maxRecDepth 20000 in
theorem gX12_same_X12_in : GoodIn wsX12_same (va_wsS RX12 110 yX12_in wsX12_in) := goodIn_app (goodIn_of _ (by decide +kernel)) ggX12_same_X12_in
set_option maxRecDepth 20000 in
theorem ggX12_same_X12_hand : GoodIn wsX12_same wsX12_hand := goodIn_r _ [12, 13, 14, 15, 16, 17, 7, 18, 19, 5, 6, 8, 20, 21, 22, 23, 24, 25, 26, 27, 28, 3, 2, 29, 30, 31, 32, 33, 42, 43, 44, 45, 46, 47, 48, 49, 50, 51, 52, 53, 54, 55, 56, 57, 58, 59, 60, 61, 62, 63, 64, 65, 66, 67, 68, 69, 70, 71, 72, 73, 74, 75, 76, 77, 78, 79, 80, 81, 82, 83, 84, 85, 86, 87, 88, 89, 90, 91, 92, 93, 94, 95, 96, 97, 98, 99, 100, 101, 102] (by decide +kernel) (by decide +kernel)
set_option maxRecDepth 20000 in
theorem gX12_same_X12_hand : GoodIn wsX12_same (wsV RX12 265 RX12 yX12_hand wsX12_hand) := goodIn_app (goodIn_of _ (by decide +kernel)) ggX12_same_X12_hand
set_option maxRecDepth 20000 in
theorem ggX12_same_X12_next : GoodIn wsX12_same wsX12_next := goodIn_r _ [37, 38, 29, 4, 31, 32, 7, 33, 39, 40, 41, 42, 43, 44, 45, 46, 47, 48, 49, 50, 51, 52, 53, 54, 55, 56, 57, 58, 59, 60, 61, 62, 63, 64, 65, 66, 67, 68, 69, 70, 71, 72, 73, 74, 75, 76, 77, 78, 79, 80, 81, 82, 83, 84, 85, 86, 87, 88, 89, 90, 91, 92, 93, 94, 95, 96, 97, 98, 99, 100, 101, 102] (by decide +kernel) (by decide +kernel)
set_option maxRecDepth 20000 in
theorem gX12_same_X12_next : GoodIn wsX12_same (wsV RX12 335 RX12 yX12_next wsX12_next) := goodIn_app (goodIn_of _ (by decide +kernel)) ggX12_same_X12_next
theorem dX12_same_0 : decode cX12_same 0 = .ok (.aload_n 0, 1) := by decide +kernel
theorem dX12_same_1 : decode cX12_same 1 = .ok (.iconst 0, 1) := by decide +kernel
theorem dX12_same_2 : decode cX12_same 2 = .ok (.putfield 98, 3) := by decide +kernel
theorem dX12_same_5 : decode cX12_same 5 = .ok (.iload_n 2, 1) := by decide +kernel
theorem dX12_same_6 : decode cX12_same 6 = .ok (.iconst 1, 1) := by decide +kernel
theorem dX12_same_7 : decode cX12_same 7 = .ok (.bipush 30, 2) := by decide +kernel
theorem dX12_same_9 : decode cX12_same 9 = .ok (.invokestatic 110, 3) := by decide +kernel
theorem dX12_same_12 : decode cX12_same 12 = .ok (.ifCond .eq 11, 3) := by decide +kernel
theorem dX12_same_15 : decode cX12_same 15 = .ok (.aload_n 0, 1) := by decide +kernel
theorem dX12_same_16 : decode cX12_same 16 = .ok (.iload_n 1, 1) := by decide +kernel
theorem dX12_same_17 : decode cX12_same 17 = .ok (.invokevirtual 265, 3) := by decide +kernel
theorem dX12_same_20 : decode cX12_same 20 = .ok (.ifCond .ne 5, 3) := by decide +kernel
theorem dX12_same_23 : decode cX12_same 23 = .ok (.iconst (-1), 1) := by decide +kernel
theorem dX12_same_24 : decode cX12_same 24 = .ok (.ireturn, 1) := by decide +kernel
theorem dX12_same_25 : decode cX12_same 25 = .ok (.iconst 0, 1) := by decide +kernel
theorem dX12_same_26 : decode cX12_same 26 = .ok (.istore_n 3, 1) := by decide +kernel
theorem dX12_same_27 : decode cX12_same 27 = .ok (.aload_n 0, 1) := by decide +kernel
theorem dX12_same_28 : decode cX12_same 28 = .ok (.getfield 252, 3) := by decide +kernel
theorem dX12_same_31 : decode cX12_same 31 = .ok (.istore 4, 2) := by decide +kernel
theorem dX12_same_33 : decode cX12_same 33 = .ok (.iload_n 3, 1) := by decide +kernel
theorem dX12_same_34 : decode cX12_same 34 = .ok (.iload_n 2, 1) := by decide +kernel
theorem dX12_same_35 : decode cX12_same 35 = .ok (.if_icmp .ge 36, 3) := by decide +kernel
theorem dX12_same_38 : decode cX12_same 38 = .ok (.aload_n 0, 1) := by decide +kernel
theorem dX12_same_39 : decode cX12_same 39 = .ok (.iload 4, 2) := by decide +kernel
theorem dX12_same_41 : decode cX12_same 41 = .ok (.aload_n 0, 1) := by decide +kernel
theorem dX12_same_42 : decode cX12_same 42 = .ok (.getfield 249, 3) := by decide +kernel
theorem dX12_same_45 : decode cX12_same 45 = .ok (.invokevirtual 335, 3) := by decide +kernel
theorem dX12_same_48 : decode cX12_same 48 = .ok (.istore 5, 2) := by decide +kernel
theorem dX12_same_50 : decode cX12_same 50 = .ok (.iload 5, 2) := by decide +kernel
theorem dX12_same_52 : decode cX12_same 52 = .ok (.ifCond .ne 5, 3) := by decide +kernel
theorem dX12_same_55 : decode cX12_same 55 = .ok (.iconst 0, 1) := by decide +kernel
theorem dX12_same_56 : decode cX12_same 56 = .ok (.ireturn, 1) := by decide +kernel
theorem dX12_same_57 : decode cX12_same 57 = .ok (.iload_n 3, 1) := by decide +kernel
theorem dX12_same_58 : decode cX12_same 58 = .ok (.iload 5, 2) := by decide +kernel
theorem dX12_same_60 : decode cX12_same 60 = .ok (.iadd, 1) := by decide +kernel
theorem dX12_same_61 : decode cX12_same 61 = .ok (.istore_n 3, 1) := by decide +kernel
theorem dX12_same_62 : decode cX12_same 62 = .ok (.aload_n 0, 1) := by decide +kernel
theorem dX12_same_63 : decode cX12_same 63 = .ok (.getfield 332, 3) := by decide +kernel
theorem dX12_same_66 : decode cX12_same 66 = .ok (.istore 4, 2) := by decide +kernel
theorem dX12_same_68 : decode cX12_same 68 = .ok (.goto (-35), 3) := by decide +kernel
theorem dX12_same_71 : decode cX12_same 71 = .ok (.iload_n 3, 1) := by decide +kernel
theorem dX12_same_72 : decode cX12_same 72 = .ok (.iload_n 2, 1) := by decide +kernel
theorem dX12_same_73 : decode cX12_same 73 = .ok (.if_icmp .ne 7, 3) := by decide +kernel
theorem dX12_same_76 : decode cX12_same 76 = .ok (.iconst 1, 1) := by decide +kernel
theorem dX12_same_77 : decode cX12_same 77 = .ok (.goto 4, 3) := by decide +kernel
theorem dX12_same_80 : decode cX12_same 80 = .ok (.iconst 0, 1) := by decide +kernel
theorem dX12_same_81 : decode cX12_same 81 = .ok (.ireturn, 1) := by decide +kernel
set_option maxRecDepth 20000 in
theorem ggX12_early_X12_in : GoodIn wsX12_early wsX12_in := goodIn_r _ [11] (by decide +kernel) (by decide +kernel)
set_option maxRecDepth 20000 in
theorem gX12_early_X12_in : GoodIn wsX12_early (va_wsS RX12 110 yX12_in wsX12_in) := goodIn_app (goodIn_of _ (by decide +kernel)) ggX12_early_X12_in
set_option maxRecDepth 20000 in
theorem ggX12_early_X12_hand : GoodIn wsX12_early wsX12_hand := goodIn_r _ [15, 16, 17, 18, 19, 20, 10, 21, 22, 8, 9, 11, 23, 24, 25, 26, 27, 28, 29, 30, 31, 6, 4, 32, 33, 34, 35, 36, 45, 46, 47, 48, 49, 50, 51, 52, 53, 54, 55, 56, 57, 58, 59, 60, 61, 62, 63, 64, 65, 66, 67, 68, 69, 70, 71, 72, 73, 74, 75, 76, 77, 78, 79, 80, 81, 82, 83, 84, 85, 86, 87, 88, 89, 90, 91, 92, 93, 94, 95, 96, 97, 98, 99, 100, 101, 102, 103, 104, 105] (by decide +kernel) (by decide +kernel)
set_option maxRecDepth 20000 in
theorem gX12_early_X12_hand : GoodIn wsX12_early (wsV RX12 265 RX12 yX12_hand wsX12_hand) := goodIn_app (goodIn_of _ (by decide +kernel)) ggX12_early_X12_hand
set_option maxRecDepth 20000 in
theorem ggX12_early_X12_next : GoodIn wsX12_early wsX12_next := goodIn_r _ [40, 41, 32, 7, 34, 35, 10, 36, 42, 43, 44, 45, 46, 47, 48, 49, 50, 51, 52, 53, 54, 55, 56, 57, 58, 59, 60, 61, 62, 63, 64, 65, 66, 67, 68, 69, 70, 71, 72, 73, 74, 75, 76, 77, 78, 79, 80, 81, 82, 83, 84, 85, 86, 87, 88, 89, 90, 91, 92, 93, 94, 95, 96, 97, 98, 99, 100, 101, 102, 103, 104, 105] (by decide +kernel) (by decide +kernel)
set_option maxRecDepth 20000 in
theorem gX12_early_X12_next : GoodIn wsX12_early (wsV RX12 335 RX12 yX12_next wsX12_next) := goodIn_app (goodIn_of _ (by decide +kernel)) ggX12_early_X12_next
set_option maxRecDepth 20000 in
theorem ggX12_early_X12_has : GoodIn wsX12_early wsX12_has := goodIn_r _ [36] (by decide +kernel) (by decide +kernel)
set_option maxRecDepth 20000 in
theorem gX12_early_X12_has : GoodIn wsX12_early (va_wsS RX12 102 yX12_has wsX12_has) := goodIn_app (goodIn_of _ (by decide +kernel)) ggX12_early_X12_has
theorem dX12_early_0 : decode cX12_early 0 = .ok (.aload_n 0, 1) := by decide +kernel
theorem dX12_early_1 : decode cX12_early 1 = .ok (.iconst 0, 1) := by decide +kernel
theorem dX12_early_2 : decode cX12_early 2 = .ok (.putfield 98, 3) := by decide +kernel
theorem dX12_early_5 : decode cX12_early 5 = .ok (.iload_n 2, 1) := by decide +kernel
theorem dX12_early_6 : decode cX12_early 6 = .ok (.iconst 0, 1) := by decide +kernel
theorem dX12_early_7 : decode cX12_early 7 = .ok (.bipush 20, 2) := by decide +kernel
theorem dX12_early_9 : decode cX12_early 9 = .ok (.invokestatic 110, 3) := by decide +kernel
theorem dX12_early_12 : decode cX12_early 12 = .ok (.ifCond .eq 11, 3) := by decide +kernel
theorem dX12_early_15 : decode cX12_early 15 = .ok (.aload_n 0, 1) := by decide +kernel
theorem dX12_early_16 : decode cX12_early 16 = .ok (.iload_n 1, 1) := by decide +kernel
theorem dX12_early_17 : decode cX12_early 17 = .ok (.invokevirtual 265, 3) := by decide +kernel
theorem dX12_early_20 : decode cX12_early 20 = .ok (.ifCond .ne 5, 3) := by decide +kernel
theorem dX12_early_23 : decode cX12_early 23 = .ok (.iconst (-1), 1) := by decide +kernel
theorem dX12_early_24 : decode cX12_early 24 = .ok (.ireturn, 1) := by decide +kernel
theorem dX12_early_25 : decode cX12_early 25 = .ok (.iconst 0, 1) := by decide +kernel
theorem dX12_early_26 : decode cX12_early 26 = .ok (.istore 4, 2) := by decide +kernel
theorem dX12_early_28 : decode cX12_early 28 = .ok (.iload 4, 2) := by decide +kernel
theorem dX12_early_30 : decode cX12_early 30 = .ok (.ldc 56, 2) := by decide +kernel
theorem dX12_early_32 : decode cX12_early 32 = .ok (.if_icmp .ge 17, 3) := by decide +kernel
theorem dX12_early_35 : decode cX12_early 35 = .ok (.aload_n 0, 1) := by decide +kernel
theorem dX12_early_36 : decode cX12_early 36 = .ok (.getfield 66, 3) := by decide +kernel
theorem dX12_early_39 : decode cX12_early 39 = .ok (.iload 4, 2) := by decide +kernel
theorem dX12_early_41 : decode cX12_early 41 = .ok (.iconst 0, 1) := by decide +kernel
theorem dX12_early_42 : decode cX12_early 42 = .ok (.iastore, 1) := by decide +kernel
theorem dX12_early_43 : decode cX12_early 43 = .ok (.iinc 4 1, 3) := by decide +kernel
theorem dX12_early_46 : decode cX12_early 46 = .ok (.goto (-18), 3) := by decide +kernel
theorem dX12_early_49 : decode cX12_early 49 = .ok (.aload_n 0, 1) := by decide +kernel
theorem dX12_early_50 : decode cX12_early 50 = .ok (.getfield 66, 3) := by decide +kernel
theorem dX12_early_53 : decode cX12_early 53 = .ok (.aload_n 0, 1) := by decide +kernel
theorem dX12_early_54 : decode cX12_early 54 = .ok (.getfield 252, 3) := by decide +kernel
theorem dX12_early_57 : decode cX12_early 57 = .ok (.iconst 1, 1) := by decide +kernel
theorem dX12_early_58 : decode cX12_early 58 = .ok (.iastore, 1) := by decide +kernel
theorem dX12_early_59 : decode cX12_early 59 = .ok (.iconst 0, 1) := by decide +kernel
theorem dX12_early_60 : decode cX12_early 60 = .ok (.istore 4, 2) := by decide +kernel
theorem dX12_early_62 : decode cX12_early 62 = .ok (.iload 4, 2) := by decide +kernel
theorem dX12_early_64 : decode cX12_early 64 = .ok (.ldc_w 404, 3) := by decide +kernel
theorem dX12_early_67 : decode cX12_early 67 = .ok (.if_icmp .ge 105, 3) := by decide +kernel
theorem dX12_early_70 : decode cX12_early 70 = .ok (.iconst 0, 1) := by decide +kernel
theorem dX12_early_71 : decode cX12_early 71 = .ok (.istore 5, 2) := by decide +kernel
theorem dX12_early_73 : decode cX12_early 73 = .ok (.iload 5, 2) := by decide +kernel
theorem dX12_early_75 : decode cX12_early 75 = .ok (.aload_n 0, 1) := by decide +kernel
theorem dX12_early_76 : decode cX12_early 76 = .ok (.getfield 249, 3) := by decide +kernel
theorem dX12_early_79 : decode cX12_early 79 = .ok (.if_icmp .gt 87, 3) := by decide +kernel
theorem dX12_early_82 : decode cX12_early 82 = .ok (.aload_n 0, 1) := by decide +kernel
theorem dX12_early_83 : decode cX12_early 83 = .ok (.getfield 66, 3) := by decide +kernel
theorem dX12_early_86 : decode cX12_early 86 = .ok (.iload 4, 2) := by decide +kernel
theorem dX12_early_88 : decode cX12_early 88 = .ok (.iaload, 1) := by decide +kernel
theorem dX12_early_89 : decode cX12_early 89 = .ok (.ifCond .eq 77, 3) := by decide +kernel
theorem dX12_early_92 : decode cX12_early 92 = .ok (.aload_n 0, 1) := by decide +kernel
theorem dX12_early_93 : decode cX12_early 93 = .ok (.iload 4, 2) := by decide +kernel
theorem dX12_early_95 : decode cX12_early 95 = .ok (.sipush 4096, 3) := by decide +kernel
theorem dX12_early_98 : decode cX12_early 98 = .ok (.irem, 1) := by decide +kernel
theorem dX12_early_99 : decode cX12_early 99 = .ok (.iload 5, 2) := by decide +kernel
theorem dX12_early_101 : decode cX12_early 101 = .ok (.invokevirtual 335, 3) := by decide +kernel
theorem dX12_early_104 : decode cX12_early 104 = .ok (.istore 6, 2) := by decide +kernel
theorem dX12_early_106 : decode cX12_early 106 = .ok (.iload 6, 2) := by decide +kernel
theorem dX12_early_108 : decode cX12_early 108 = .ok (.ifCond .le 52, 3) := by decide +kernel
theorem dX12_early_111 : decode cX12_early 111 = .ok (.iload 4, 2) := by decide +kernel
theorem dX12_early_113 : decode cX12_early 113 = .ok (.sipush 4096, 3) := by decide +kernel
theorem dX12_early_116 : decode cX12_early 116 = .ok (.idiv, 1) := by decide +kernel
theorem dX12_early_117 : decode cX12_early 117 = .ok (.iload 6, 2) := by decide +kernel
theorem dX12_early_119 : decode cX12_early 119 = .ok (.iadd, 1) := by decide +kernel
theorem dX12_early_120 : decode cX12_early 120 = .ok (.bipush 30, 2) := by decide +kernel
theorem dX12_early_122 : decode cX12_early 122 = .ok (.if_icmp .gt 38, 3) := by decide +kernel
theorem dX12_early_125 : decode cX12_early 125 = .ok (.aload_n 0, 1) := by decide +kernel
theorem dX12_early_126 : decode cX12_early 126 = .ok (.getfield 66, 3) := by decide +kernel
theorem dX12_early_129 : decode cX12_early 129 = .ok (.sipush 4096, 3) := by decide +kernel
theorem dX12_early_132 : decode cX12_early 132 = .ok (.iload 4, 2) := by decide +kernel
theorem dX12_early_134 : decode cX12_early 134 = .ok (.sipush 4096, 3) := by decide +kernel
theorem dX12_early_137 : decode cX12_early 137 = .ok (.idiv, 1) := by decide +kernel
theorem dX12_early_138 : decode cX12_early 138 = .ok (.iload 6, 2) := by decide +kernel
theorem dX12_early_140 : decode cX12_early 140 = .ok (.iadd, 1) := by decide +kernel
theorem dX12_early_141 : decode cX12_early 141 = .ok (.imul, 1) := by decide +kernel
theorem dX12_early_142 : decode cX12_early 142 = .ok (.aload_n 0, 1) := by decide +kernel
theorem dX12_early_143 : decode cX12_early 143 = .ok (.getfield 332, 3) := by decide +kernel
theorem dX12_early_146 : decode cX12_early 146 = .ok (.iadd, 1) := by decide +kernel
theorem dX12_early_147 : decode cX12_early 147 = .ok (.dup2, 1) := by decide +kernel
theorem dX12_early_148 : decode cX12_early 148 = .ok (.iaload, 1) := by decide +kernel
theorem dX12_early_149 : decode cX12_early 149 = .ok (.aload_n 0, 1) := by decide +kernel
theorem dX12_early_150 : decode cX12_early 150 = .ok (.getfield 66, 3) := by decide +kernel
theorem dX12_early_153 : decode cX12_early 153 = .ok (.iload 4, 2) := by decide +kernel
theorem dX12_early_155 : decode cX12_early 155 = .ok (.iaload, 1) := by decide +kernel
theorem dX12_early_156 : decode cX12_early 156 = .ok (.iconst 1, 1) := by decide +kernel
theorem dX12_early_157 : decode cX12_early 157 = .ok (.ishl, 1) := by decide +kernel
theorem dX12_early_158 : decode cX12_early 158 = .ok (.ior, 1) := by decide +kernel
theorem dX12_early_159 : decode cX12_early 159 = .ok (.iastore, 1) := by decide +kernel
theorem dX12_early_160 : decode cX12_early 160 = .ok (.iinc 5 1, 3) := by decide +kernel
theorem dX12_early_163 : decode cX12_early 163 = .ok (.goto (-90), 3) := by decide +kernel
theorem dX12_early_166 : decode cX12_early 166 = .ok (.iinc 4 1, 3) := by decide +kernel
theorem dX12_early_169 : decode cX12_early 169 = .ok (.goto (-107), 3) := by decide +kernel
theorem dX12_early_172 : decode cX12_early 172 = .ok (.iconst (-1), 1) := by decide +kernel
theorem dX12_early_173 : decode cX12_early 173 = .ok (.istore 4, 2) := by decide +kernel
theorem dX12_early_175 : decode cX12_early 175 = .ok (.iconst 0, 1) := by decide +kernel
theorem dX12_early_176 : decode cX12_early 176 = .ok (.istore 5, 2) := by decide +kernel
theorem dX12_early_178 : decode cX12_early 178 = .ok (.iload 5, 2) := by decide +kernel
theorem dX12_early_180 : decode cX12_early 180 = .ok (.ldc 56, 2) := by decide +kernel
theorem dX12_early_182 : decode cX12_early 182 = .ok (.if_icmp .ge 46, 3) := by decide +kernel
theorem dX12_early_185 : decode cX12_early 185 = .ok (.aload_n 0, 1) := by decide +kernel
theorem dX12_early_186 : decode cX12_early 186 = .ok (.getfield 66, 3) := by decide +kernel
theorem dX12_early_189 : decode cX12_early 189 = .ok (.iload 5, 2) := by decide +kernel
theorem dX12_early_191 : decode cX12_early 191 = .ok (.iaload, 1) := by decide +kernel
theorem dX12_early_192 : decode cX12_early 192 = .ok (.iload_n 2, 1) := by decide +kernel
theorem dX12_early_193 : decode cX12_early 193 = .ok (.invokestatic 102, 3) := by decide +kernel
theorem dX12_early_196 : decode cX12_early 196 = .ok (.ifCond .eq 22, 3) := by decide +kernel
theorem dX12_early_199 : decode cX12_early 199 = .ok (.iload_n 3, 1) := by decide +kernel
theorem dX12_early_200 : decode cX12_early 200 = .ok (.ifCond .ne 9, 3) := by decide +kernel
theorem dX12_early_203 : decode cX12_early 203 = .ok (.iload 4, 2) := by decide +kernel
theorem dX12_early_205 : decode cX12_early 205 = .ok (.iconst (-1), 1) := by decide +kernel
theorem dX12_early_206 : decode cX12_early 206 = .ok (.if_icmp .ne 12, 3) := by decide +kernel
theorem dX12_early_209 : decode cX12_early 209 = .ok (.iload 5, 2) := by decide +kernel
theorem dX12_early_211 : decode cX12_early 211 = .ok (.sipush 4096, 3) := by decide +kernel
theorem dX12_early_214 : decode cX12_early 214 = .ok (.idiv, 1) := by decide +kernel
theorem dX12_early_215 : decode cX12_early 215 = .ok (.goto 5, 3) := by decide +kernel
theorem dX12_early_218 : decode cX12_early 218 = .ok (.iload 4, 2) := by decide +kernel
theorem dX12_early_220 : decode cX12_early 220 = .ok (.istore 4, 2) := by decide +kernel
theorem dX12_early_222 : decode cX12_early 222 = .ok (.iinc 5 1, 3) := by decide +kernel
theorem dX12_early_225 : decode cX12_early 225 = .ok (.goto (-47), 3) := by decide +kernel
theorem dX12_early_228 : decode cX12_early 228 = .ok (.iload 4, 2) := by decide +kernel
theorem dX12_early_230 : decode cX12_early 230 = .ok (.ireturn, 1) := by decide +kernel
set_option maxRecDepth 20000 in
theorem ggX12_after_X12_layAll : GoodIn wsX12_after wsX12_layAll := goodIn_r _ [13, 14, 15, 16, 12, 17, 18, 19, 20, 21, 22, 23, 24, 25, 26, 27, 28, 29, 30, 31, 2, 32, 33, 34, 35, 36, 37, 38, 39, 40, 41, 42, 43, 44, 45, 46, 47, 48, 49, 50, 51, 52, 53, 4, 8, 5, 6, 7, 3, 54, 94, 95, 96, 97, 98, 99, 100, 101, 102, 103, 104, 105, 106, 107, 108, 109, 110, 111, 112, 113, 114, 115, 116, 117, 118, 119, 120, 121, 122, 123, 124, 125, 126, 127, 128, 129, 130, 131, 132, 133, 134, 135, 136, 137, 138, 139, 140, 141, 142, 143, 144, 145, 146, 147, 148, 149, 150, 151, 152, 153, 154] (by decide +kernel) (by decide +kernel)
set_option maxRecDepth 20000 in
theorem gX12_after_X12_layAll : GoodIn wsX12_after (wsV RX12 322 RX12 yX12_layAll wsX12_layAll) := goodIn_app (goodIn_of _ (by decide +kernel)) ggX12_after_X12_layAll
set_option maxRecDepth 20000 in
theorem ggX12_after_X12_in : GoodIn wsX12_after wsX12_in := goodIn_r _ [26] (by decide +kernel) (by decide +kernel)
set_option maxRecDepth 20000 in
theorem gX12_after_X12_in : GoodIn wsX12_after (va_wsS RX12 110 yX12_in wsX12_in) := goodIn_app (goodIn_of _ (by decide +kernel)) ggX12_after_X12_in
set_option maxRecDepth 20000 in
theorem ggX12_after_X12_deeds : GoodIn wsX12_after wsX12_deeds := goodIn_r _ [58, 59, 18, 94, 95, 96, 97, 98, 99, 100, 101, 102, 103, 104, 105, 106, 107, 108, 109, 110, 111, 112, 113, 114, 115, 116, 117, 118, 119, 120, 121, 122, 123, 124, 125, 126, 127, 128, 129, 130, 131, 132, 133, 134, 135, 136, 137, 138, 139, 140, 141, 142, 143, 144, 145, 146, 147, 148, 149, 150, 151, 152, 153, 154] (by decide +kernel) (by decide +kernel)
set_option maxRecDepth 20000 in
theorem gX12_after_X12_deeds : GoodIn wsX12_after (wsV RX12 277 RX12 yX12_deeds wsX12_deeds) := goodIn_app (goodIn_of _ (by decide +kernel)) ggX12_after_X12_deeds
set_option maxRecDepth 20000 in
theorem ggX12_after_X12_play : GoodIn wsX12_after wsX12_play := goodIn_r _ [63, 64, 65, 66, 12, 67, 68, 69, 70, 71, 59, 18, 72, 73, 74, 75, 53, 44, 43, 8, 76, 77, 78, 79, 52, 80, 81, 82, 83, 2, 54, 3, 4, 6, 5, 7, 45, 46, 47, 84, 85, 86, 87, 88, 89, 90, 91, 92, 93, 24, 25, 26, 94, 95, 96, 97, 98, 99, 100, 101, 102, 103, 104, 105, 106, 107, 108, 109, 110, 111, 112, 113, 114, 115, 116, 117, 118, 119, 120, 121, 122, 123, 124, 125, 126, 127, 128, 129, 130, 131, 132, 133, 134, 135, 136, 137, 138, 139, 140, 141, 142, 143, 144, 145, 146, 147, 148, 149, 150, 151, 152, 153, 154] (by decide +kernel) (by decide +kernel)
set_option maxRecDepth 20000 in
theorem gX12_after_X12_play : GoodIn wsX12_after (wsV RX12 325 RX12 yX12_play wsX12_play) := goodIn_app (goodIn_of _ (by decide +kernel)) ggX12_after_X12_play
theorem dX12_after_0 : decode cX12_after 0 = .ok (.aload_n 0, 1) := by decide +kernel
theorem dX12_after_1 : decode cX12_after 1 = .ok (.iconst 0, 1) := by decide +kernel
theorem dX12_after_2 : decode cX12_after 2 = .ok (.putfield 98, 3) := by decide +kernel
theorem dX12_after_5 : decode cX12_after 5 = .ok (.aload_n 0, 1) := by decide +kernel
theorem dX12_after_6 : decode cX12_after 6 = .ok (.iload_n 1, 1) := by decide +kernel
theorem dX12_after_7 : decode cX12_after 7 = .ok (.iload_n 2, 1) := by decide +kernel
theorem dX12_after_8 : decode cX12_after 8 = .ok (.invokevirtual 322, 3) := by decide +kernel
theorem dX12_after_11 : decode cX12_after 11 = .ok (.ifCond .eq 12, 3) := by decide +kernel
theorem dX12_after_14 : decode cX12_after 14 = .ok (.iload_n 3, 1) := by decide +kernel
theorem dX12_after_15 : decode cX12_after 15 = .ok (.iconst 0, 1) := by decide +kernel
theorem dX12_after_16 : decode cX12_after 16 = .ok (.iconst 5, 1) := by decide +kernel
theorem dX12_after_17 : decode cX12_after 17 = .ok (.invokestatic 110, 3) := by decide +kernel
theorem dX12_after_20 : decode cX12_after 20 = .ok (.ifCond .ne 6, 3) := by decide +kernel
theorem dX12_after_23 : decode cX12_after 23 = .ok (.bipush (-2), 2) := by decide +kernel
theorem dX12_after_25 : decode cX12_after 25 = .ok (.ireturn, 1) := by decide +kernel
theorem dX12_after_26 : decode cX12_after 26 = .ok (.aload_n 0, 1) := by decide +kernel
theorem dX12_after_27 : decode cX12_after 27 = .ok (.aload_n 0, 1) := by decide +kernel
theorem dX12_after_28 : decode cX12_after 28 = .ok (.invokevirtual 277, 3) := by decide +kernel
theorem dX12_after_31 : decode cX12_after 31 = .ok (.invokevirtual 325, 3) := by decide +kernel
theorem dX12_after_34 : decode cX12_after 34 = .ok (.pop, 1) := by decide +kernel
theorem dX12_after_35 : decode cX12_after 35 = .ok (.iconst (-1), 1) := by decide +kernel
theorem dX12_after_36 : decode cX12_after 36 = .ok (.istore 4, 2) := by decide +kernel
theorem dX12_after_38 : decode cX12_after 38 = .ok (.iconst 0, 1) := by decide +kernel
theorem dX12_after_39 : decode cX12_after 39 = .ok (.istore 5, 2) := by decide +kernel
theorem dX12_after_41 : decode cX12_after 41 = .ok (.iload 5, 2) := by decide +kernel
theorem dX12_after_43 : decode cX12_after 43 = .ok (.aload_n 0, 1) := by decide +kernel
theorem dX12_after_44 : decode cX12_after 44 = .ok (.getfield 259, 3) := by decide +kernel
theorem dX12_after_47 : decode cX12_after 47 = .ok (.if_icmp .ge 45, 3) := by decide +kernel
theorem dX12_after_50 : decode cX12_after 50 = .ok (.aload_n 0, 1) := by decide +kernel
theorem dX12_after_51 : decode cX12_after 51 = .ok (.getfield 50, 3) := by decide +kernel
theorem dX12_after_54 : decode cX12_after 54 = .ok (.iload 5, 2) := by decide +kernel
theorem dX12_after_56 : decode cX12_after 56 = .ok (.iaload, 1) := by decide +kernel
theorem dX12_after_57 : decode cX12_after 57 = .ok (.iload 4, 2) := by decide +kernel
theorem dX12_after_59 : decode cX12_after 59 = .ok (.iconst (-1), 1) := by decide +kernel
theorem dX12_after_60 : decode cX12_after 60 = .ok (.if_icmp .ne 7, 3) := by decide +kernel
theorem dX12_after_63 : decode cX12_after 63 = .ok (.iconst 0, 1) := by decide +kernel
theorem dX12_after_64 : decode cX12_after 64 = .ok (.goto 10, 3) := by decide +kernel
theorem dX12_after_67 : decode cX12_after 67 = .ok (.aload_n 0, 1) := by decide +kernel
theorem dX12_after_68 : decode cX12_after 68 = .ok (.getfield 50, 3) := by decide +kernel
theorem dX12_after_71 : decode cX12_after 71 = .ok (.iload 4, 2) := by decide +kernel
theorem dX12_after_73 : decode cX12_after 73 = .ok (.iaload, 1) := by decide +kernel
theorem dX12_after_74 : decode cX12_after 74 = .ok (.if_icmp .le 8, 3) := by decide +kernel
theorem dX12_after_77 : decode cX12_after 77 = .ok (.iload 5, 2) := by decide +kernel
theorem dX12_after_79 : decode cX12_after 79 = .ok (.goto 5, 3) := by decide +kernel
theorem dX12_after_82 : decode cX12_after 82 = .ok (.iload 4, 2) := by decide +kernel
theorem dX12_after_84 : decode cX12_after 84 = .ok (.istore 4, 2) := by decide +kernel
theorem dX12_after_86 : decode cX12_after 86 = .ok (.iinc 5 1, 3) := by decide +kernel
theorem dX12_after_89 : decode cX12_after 89 = .ok (.goto (-48), 3) := by decide +kernel
theorem dX12_after_92 : decode cX12_after 92 = .ok (.iload_n 3, 1) := by decide +kernel
theorem dX12_after_93 : decode cX12_after 93 = .ok (.tableswitch 60 0 4 #[35, 40, 45, 50, 55], 35) := by decide +kernel
theorem dX12_after_128 : decode cX12_after 128 = .ok (.aload_n 0, 1) := by decide +kernel
theorem dX12_after_129 : decode cX12_after 129 = .ok (.getfield 289, 3) := by decide +kernel
theorem dX12_after_132 : decode cX12_after 132 = .ok (.ireturn, 1) := by decide +kernel
theorem dX12_after_133 : decode cX12_after 133 = .ok (.aload_n 0, 1) := by decide +kernel
theorem dX12_after_134 : decode cX12_after 134 = .ok (.getfield 295, 3) := by decide +kernel
theorem dX12_after_137 : decode cX12_after 137 = .ok (.ireturn, 1) := by decide +kernel
theorem dX12_after_138 : decode cX12_after 138 = .ok (.aload_n 0, 1) := by decide +kernel
theorem dX12_after_139 : decode cX12_after 139 = .ok (.getfield 298, 3) := by decide +kernel
theorem dX12_after_142 : decode cX12_after 142 = .ok (.ireturn, 1) := by decide +kernel
theorem dX12_after_143 : decode cX12_after 143 = .ok (.aload_n 0, 1) := by decide +kernel
theorem dX12_after_144 : decode cX12_after 144 = .ok (.getfield 301, 3) := by decide +kernel
theorem dX12_after_147 : decode cX12_after 147 = .ok (.ireturn, 1) := by decide +kernel
theorem dX12_after_148 : decode cX12_after 148 = .ok (.aload_n 0, 1) := by decide +kernel
theorem dX12_after_149 : decode cX12_after 149 = .ok (.getfield 292, 3) := by decide +kernel
theorem dX12_after_152 : decode cX12_after 152 = .ok (.ireturn, 1) := by decide +kernel
theorem dX12_after_153 : decode cX12_after 153 = .ok (.iload 4, 2) := by decide +kernel
theorem dX12_after_155 : decode cX12_after 155 = .ok (.ireturn, 1) := by decide +kernel
set_option maxRecDepth 20000 in
theorem ggX12_count_X12_in : GoodIn wsX12_count wsX12_in := goodIn_r _ [6] (by decide +kernel) (by decide +kernel)
set_option maxRecDepth 20000 in
theorem gX12_count_X12_in : GoodIn wsX12_count (va_wsS RX12 110 yX12_in wsX12_in) := goodIn_app (goodIn_of _ (by decide +kernel)) ggX12_count_X12_in
theorem dX12_count_0 : decode cX12_count 0 = .ok (.aload_n 0, 1) := by decide +kernel
theorem dX12_count_1 : decode cX12_count 1 = .ok (.iconst 0, 1) := by decide +kernel
theorem dX12_count_2 : decode cX12_count 2 = .ok (.putfield 98, 3) := by decide +kernel
theorem dX12_count_5 : decode cX12_count 5 = .ok (.iload_n 1, 1) := by decide +kernel
theorem dX12_count_6 : decode cX12_count 6 = .ok (.iconst 0, 1) := by decide +kernel
theorem dX12_count_7 : decode cX12_count 7 = .ok (.iconst 3, 1) := by decide +kernel
theorem dX12_count_8 : decode cX12_count 8 = .ok (.invokestatic 110, 3) := by decide +kernel
theorem dX12_count_11 : decode cX12_count 11 = .ok (.ifCond .eq 12, 3) := by decide +kernel
theorem dX12_count_14 : decode cX12_count 14 = .ok (.aload_n 0, 1) := by decide +kernel
theorem dX12_count_15 : decode cX12_count 15 = .ok (.getfield 23, 3) := by decide +kernel
theorem dX12_count_18 : decode cX12_count 18 = .ok (.iload_n 1, 1) := by decide +kernel
theorem dX12_count_19 : decode cX12_count 19 = .ok (.iaload, 1) := by decide +kernel
theorem dX12_count_20 : decode cX12_count 20 = .ok (.goto 5, 3) := by decide +kernel
theorem dX12_count_23 : decode cX12_count 23 = .ok (.bipush (-2), 2) := by decide +kernel
theorem dX12_count_25 : decode cX12_count 25 = .ok (.ireturn, 1) := by decide +kernel
set_option maxRecDepth 20000 in
theorem ggX12_image_X12_in : GoodIn wsX12_image wsX12_in := goodIn_r _ [6] (by decide +kernel) (by decide +kernel)
set_option maxRecDepth 20000 in
theorem gX12_image_X12_in : GoodIn wsX12_image (va_wsS RX12 110 yX12_in wsX12_in) := goodIn_app (goodIn_of _ (by decide +kernel)) ggX12_image_X12_in
set_option maxRecDepth 20000 in
theorem ggX12_image_X12_copyAll : GoodIn wsX12_image wsX12_copyAll := goodIn_r _ [10, 11, 12, 13, 14, 15, 16, 17, 18, 19, 20, 21, 5, 22, 23, 24, 25, 26, 27, 28, 29, 30, 31, 32, 33, 34, 35, 36, 37, 38, 39, 40, 41, 42, 43, 44, 45, 46, 47, 48, 49, 50, 51, 52, 53, 54, 55, 56, 57, 58, 59, 60, 61, 62, 63, 64, 65, 66, 67, 68, 69, 70, 71, 72, 73, 74, 75, 76, 77, 78, 79, 80, 81, 82, 83] (by decide +kernel) (by decide +kernel)
set_option maxRecDepth 20000 in
theorem gX12_image_X12_copyAll : GoodIn wsX12_image (wsV RX12 528 RX12 yX12_copyAll wsX12_copyAll) := goodIn_app (goodIn_of _ (by decide +kernel)) ggX12_image_X12_copyAll
theorem dX12_image_0 : decode cX12_image 0 = .ok (.aload_n 0, 1) := by decide +kernel
theorem dX12_image_1 : decode cX12_image 1 = .ok (.iconst 0, 1) := by decide +kernel
theorem dX12_image_2 : decode cX12_image 2 = .ok (.putfield 98, 3) := by decide +kernel
theorem dX12_image_5 : decode cX12_image 5 = .ok (.iload_n 1, 1) := by decide +kernel
theorem dX12_image_6 : decode cX12_image 6 = .ok (.iconst 0, 1) := by decide +kernel
theorem dX12_image_7 : decode cX12_image 7 = .ok (.iconst 2, 1) := by decide +kernel
theorem dX12_image_8 : decode cX12_image 8 = .ok (.invokestatic 110, 3) := by decide +kernel
theorem dX12_image_11 : decode cX12_image 11 = .ok (.ifCond .ne 5, 3) := by decide +kernel
theorem dX12_image_14 : decode cX12_image 14 = .ok (.iconst 0, 1) := by decide +kernel
theorem dX12_image_15 : decode cX12_image 15 = .ok (.ireturn, 1) := by decide +kernel
theorem dX12_image_16 : decode cX12_image 16 = .ok (.aload_n 0, 1) := by decide +kernel
theorem dX12_image_17 : decode cX12_image 17 = .ok (.iconst 0, 1) := by decide +kernel
theorem dX12_image_18 : decode cX12_image 18 = .ok (.iload_n 1, 1) := by decide +kernel
theorem dX12_image_19 : decode cX12_image 19 = .ok (.iconst 1, 1) := by decide +kernel
theorem dX12_image_20 : decode cX12_image 20 = .ok (.iadd, 1) := by decide +kernel
theorem dX12_image_21 : decode cX12_image 21 = .ok (.invokevirtual 528, 3) := by decide +kernel
theorem dX12_image_24 : decode cX12_image 24 = .ok (.aload_n 0, 1) := by decide +kernel
theorem dX12_image_25 : decode cX12_image 25 = .ok (.getfield 94, 3) := by decide +kernel
theorem dX12_image_28 : decode cX12_image 28 = .ok (.iload_n 1, 1) := by decide +kernel
theorem dX12_image_29 : decode cX12_image 29 = .ok (.iconst 1, 1) := by decide +kernel
theorem dX12_image_30 : decode cX12_image 30 = .ok (.bastore, 1) := by decide +kernel
theorem dX12_image_31 : decode cX12_image 31 = .ok (.iconst 1, 1) := by decide +kernel
theorem dX12_image_32 : decode cX12_image 32 = .ok (.ireturn, 1) := by decide +kernel
set_option maxRecDepth 20000 in
theorem ggX12_again_X12_in : GoodIn wsX12_again wsX12_in := goodIn_r _ [6] (by decide +kernel) (by decide +kernel)
set_option maxRecDepth 20000 in
theorem gX12_again_X12_in : GoodIn wsX12_again (va_wsS RX12 110 yX12_in wsX12_in) := goodIn_app (goodIn_of _ (by decide +kernel)) ggX12_again_X12_in
set_option maxRecDepth 20000 in
theorem ggX12_again_X12_copyAll : GoodIn wsX12_again wsX12_copyAll := goodIn_r _ [10, 11, 12, 13, 14, 15, 16, 17, 18, 19, 20, 21, 5, 22, 23, 24, 25, 26, 27, 28, 29, 30, 31, 32, 33, 34, 35, 36, 37, 38, 39, 40, 41, 42, 43, 44, 45, 46, 47, 48, 49, 50, 51, 52, 53, 54, 55, 56, 57, 58, 59, 60, 61, 62, 63, 64, 65, 66, 67, 68, 69, 70, 71, 72, 73, 74, 75, 76, 77, 78, 79, 80, 81, 82, 83] (by decide +kernel) (by decide +kernel)
set_option maxRecDepth 20000 in
theorem gX12_again_X12_copyAll : GoodIn wsX12_again (wsV RX12 528 RX12 yX12_copyAll wsX12_copyAll) := goodIn_app (goodIn_of _ (by decide +kernel)) ggX12_again_X12_copyAll
theorem dX12_again_0 : decode cX12_again 0 = .ok (.aload_n 0, 1) := by decide +kernel
theorem dX12_again_1 : decode cX12_again 1 = .ok (.iconst 0, 1) := by decide +kernel
theorem dX12_again_2 : decode cX12_again 2 = .ok (.putfield 98, 3) := by decide +kernel
theorem dX12_again_5 : decode cX12_again 5 = .ok (.iload_n 1, 1) := by decide +kernel
theorem dX12_again_6 : decode cX12_again 6 = .ok (.iconst 0, 1) := by decide +kernel
theorem dX12_again_7 : decode cX12_again 7 = .ok (.iconst 2, 1) := by decide +kernel
theorem dX12_again_8 : decode cX12_again 8 = .ok (.invokestatic 110, 3) := by decide +kernel
theorem dX12_again_11 : decode cX12_again 11 = .ok (.ifCond .eq 12, 3) := by decide +kernel
theorem dX12_again_14 : decode cX12_again 14 = .ok (.aload_n 0, 1) := by decide +kernel
theorem dX12_again_15 : decode cX12_again 15 = .ok (.getfield 94, 3) := by decide +kernel
theorem dX12_again_18 : decode cX12_again 18 = .ok (.iload_n 1, 1) := by decide +kernel
theorem dX12_again_19 : decode cX12_again 19 = .ok (.baload, 1) := by decide +kernel
theorem dX12_again_20 : decode cX12_again 20 = .ok (.ifCond .ne 5, 3) := by decide +kernel
theorem dX12_again_23 : decode cX12_again 23 = .ok (.iconst 0, 1) := by decide +kernel
theorem dX12_again_24 : decode cX12_again 24 = .ok (.ireturn, 1) := by decide +kernel
theorem dX12_again_25 : decode cX12_again 25 = .ok (.aload_n 0, 1) := by decide +kernel
theorem dX12_again_26 : decode cX12_again 26 = .ok (.iload_n 1, 1) := by decide +kernel
theorem dX12_again_27 : decode cX12_again 27 = .ok (.iconst 1, 1) := by decide +kernel
theorem dX12_again_28 : decode cX12_again 28 = .ok (.iadd, 1) := by decide +kernel
theorem dX12_again_29 : decode cX12_again 29 = .ok (.iconst 0, 1) := by decide +kernel
theorem dX12_again_30 : decode cX12_again 30 = .ok (.invokevirtual 528, 3) := by decide +kernel
theorem dX12_again_33 : decode cX12_again 33 = .ok (.iconst 1, 1) := by decide +kernel
theorem dX12_again_34 : decode cX12_again 34 = .ok (.ireturn, 1) := by decide +kernel
