set_option maxRecDepth 20000 in
theorem gX9_orders_X9_isAhead : GoodIn wsX9_orders (wsV RX9 159 RX9 yX9_isAhead wsX9_isAhead) := goodIn_app (goodIn_of _ (by decide +kernel)) ggX9_orders_X9_isAhead
theorem dX9_orders_0 : decode cX9_orders 0 = .ok (.aload_n 0, 1) := by decide +kernel
theorem dX9_orders_1 : decode cX9_orders 1 = .ok (.iconst 0, 1) := by decide +kernel
theorem dX9_orders_2 : decode cX9_orders 2 = .ok (.putfield 156, 3) := by decide +kernel
theorem dX9_orders_5 : decode cX9_orders 5 = .ok (.iconst 0, 1) := by decide +kernel
theorem dX9_orders_6 : decode cX9_orders 6 = .ok (.istore_n 1, 1) := by decide +kernel
theorem dX9_orders_7 : decode cX9_orders 7 = .ok (.iload_n 1, 1) := by decide +kernel
theorem dX9_orders_8 : decode cX9_orders 8 = .ok (.aload_n 0, 1) := by decide +kernel
theorem dX9_orders_9 : decode cX9_orders 9 = .ok (.getfield 7, 3) := by decide +kernel
theorem dX9_orders_12 : decode cX9_orders 12 = .ok (.iconst 2, 1) := by decide +kernel
theorem dX9_orders_13 : decode cX9_orders 13 = .ok (.iaload, 1) := by decide +kernel
theorem dX9_orders_14 : decode cX9_orders 14 = .ok (.if_icmp .ge 88, 3) := by decide +kernel
theorem dX9_orders_17 : decode cX9_orders 17 = .ok (.aload_n 0, 1) := by decide +kernel
theorem dX9_orders_18 : decode cX9_orders 18 = .ok (.getfield 7, 3) := by decide +kernel
theorem dX9_orders_21 : decode cX9_orders 21 = .ok (.iload_n 1, 1) := by decide +kernel
theorem dX9_orders_22 : decode cX9_orders 22 = .ok (.bipush 7, 2) := by decide +kernel
theorem dX9_orders_24 : decode cX9_orders 24 = .ok (.invokestatic 111, 3) := by decide +kernel
theorem dX9_orders_27 : decode cX9_orders 27 = .ok (.iaload, 1) := by decide +kernel
theorem dX9_orders_28 : decode cX9_orders 28 = .ok (.ifCond .eq 6, 3) := by decide +kernel
theorem dX9_orders_31 : decode cX9_orders 31 = .ok (.goto 65, 3) := by decide +kernel
theorem dX9_orders_34 : decode cX9_orders 34 = .ok (.aload_n 0, 1) := by decide +kernel
theorem dX9_orders_35 : decode cX9_orders 35 = .ok (.getfield 156, 3) := by decide +kernel
theorem dX9_orders_38 : decode cX9_orders 38 = .ok (.istore_n 2, 1) := by decide +kernel
theorem dX9_orders_39 : decode cX9_orders 39 = .ok (.iload_n 2, 1) := by decide +kernel
theorem dX9_orders_40 : decode cX9_orders 40 = .ok (.ifCond .le 39, 3) := by decide +kernel
theorem dX9_orders_43 : decode cX9_orders 43 = .ok (.aload_n 0, 1) := by decide +kernel
theorem dX9_orders_44 : decode cX9_orders 44 = .ok (.iload_n 1, 1) := by decide +kernel
theorem dX9_orders_45 : decode cX9_orders 45 = .ok (.aload_n 0, 1) := by decide +kernel
theorem dX9_orders_46 : decode cX9_orders 46 = .ok (.getfield 34, 3) := by decide +kernel
theorem dX9_orders_49 : decode cX9_orders 49 = .ok (.iload_n 2, 1) := by decide +kernel
theorem dX9_orders_50 : decode cX9_orders 50 = .ok (.iconst 1, 1) := by decide +kernel
theorem dX9_orders_51 : decode cX9_orders 51 = .ok (.isub, 1) := by decide +kernel
theorem dX9_orders_52 : decode cX9_orders 52 = .ok (.iaload, 1) := by decide +kernel
theorem dX9_orders_53 : decode cX9_orders 53 = .ok (.invokevirtual 159, 3) := by decide +kernel
theorem dX9_orders_56 : decode cX9_orders 56 = .ok (.ifCond .eq 23, 3) := by decide +kernel
theorem dX9_orders_59 : decode cX9_orders 59 = .ok (.aload_n 0, 1) := by decide +kernel
theorem dX9_orders_60 : decode cX9_orders 60 = .ok (.getfield 34, 3) := by decide +kernel
theorem dX9_orders_63 : decode cX9_orders 63 = .ok (.iload_n 2, 1) := by decide +kernel
theorem dX9_orders_64 : decode cX9_orders 64 = .ok (.aload_n 0, 1) := by decide +kernel
theorem dX9_orders_65 : decode cX9_orders 65 = .ok (.getfield 34, 3) := by decide +kernel
theorem dX9_orders_68 : decode cX9_orders 68 = .ok (.iload_n 2, 1) := by decide +kernel
theorem dX9_orders_69 : decode cX9_orders 69 = .ok (.iconst 1, 1) := by decide +kernel
theorem dX9_orders_70 : decode cX9_orders 70 = .ok (.isub, 1) := by decide +kernel
theorem dX9_orders_71 : decode cX9_orders 71 = .ok (.iaload, 1) := by decide +kernel
theorem dX9_orders_72 : decode cX9_orders 72 = .ok (.iastore, 1) := by decide +kernel
theorem dX9_orders_73 : decode cX9_orders 73 = .ok (.iinc 2 (-1), 3) := by decide +kernel
theorem dX9_orders_76 : decode cX9_orders 76 = .ok (.goto (-37), 3) := by decide +kernel
theorem dX9_orders_79 : decode cX9_orders 79 = .ok (.aload_n 0, 1) := by decide +kernel
theorem dX9_orders_80 : decode cX9_orders 80 = .ok (.getfield 34, 3) := by decide +kernel
theorem dX9_orders_83 : decode cX9_orders 83 = .ok (.iload_n 2, 1) := by decide +kernel
theorem dX9_orders_84 : decode cX9_orders 84 = .ok (.iload_n 1, 1) := by decide +kernel
theorem dX9_orders_85 : decode cX9_orders 85 = .ok (.iastore, 1) := by decide +kernel
theorem dX9_orders_86 : decode cX9_orders 86 = .ok (.aload_n 0, 1) := by decide +kernel
theorem dX9_orders_87 : decode cX9_orders 87 = .ok (.dup, 1) := by decide +kernel
theorem dX9_orders_88 : decode cX9_orders 88 = .ok (.getfield 156, 3) := by decide +kernel
theorem dX9_orders_91 : decode cX9_orders 91 = .ok (.iconst 1, 1) := by decide +kernel
theorem dX9_orders_92 : decode cX9_orders 92 = .ok (.iadd, 1) := by decide +kernel
theorem dX9_orders_93 : decode cX9_orders 93 = .ok (.putfield 156, 3) := by decide +kernel
theorem dX9_orders_96 : decode cX9_orders 96 = .ok (.iinc 1 1, 3) := by decide +kernel
theorem dX9_orders_99 : decode cX9_orders 99 = .ok (.goto (-92), 3) := by decide +kernel
theorem dX9_orders_102 : decode cX9_orders 102 = .ok (.return_, 1) := by decide +kernel
set_option maxRecDepth 20000 in
theorem ggX9_ordered_X9_orders : GoodIn wsX9_ordered wsX9_orders := goodIn_ca (goodIn_r _ [8, 1, 9, 3, 10, 11, 7, 12, 13, 14, 15, 16, 20, 21, 22, 23, 24, 25, 26, 27, 28, 29, 30, 31, 32, 33, 34, 35, 36, 37, 38, 39, 40, 41] (by decide +kernel) (by decide +kernel)) (goodIn_sub (fun _ h => List.mem_cons_of_mem _ (List.mem_append_right _ h)) (by decide +kernel))
set_option maxRecDepth 20000 in
theorem gX9_ordered_X9_orders : GoodIn wsX9_ordered (wsV RX9 162 RX9 yX9_orders wsX9_orders) := goodIn_app (goodIn_of _ (by decide +kernel)) ggX9_ordered_X9_orders
set_option maxRecDepth 20000 in
theorem ggX9_ordered_X9_in : GoodIn wsX9_ordered wsX9_in := goodIn_r _ [19] (by decide +kernel) (by decide +kernel)
set_option maxRecDepth 20000 in
theorem gX9_ordered_X9_in : GoodIn wsX9_ordered (va_wsS RX9 50 yX9_in wsX9_in) := goodIn_app (goodIn_of _ (by decide +kernel)) ggX9_ordered_X9_in
theorem dX9_ordered_0 : decode cX9_ordered 0 = .ok (.aload_n 0, 1) := by decide +kernel
theorem dX9_ordered_1 : decode cX9_ordered 1 = .ok (.invokevirtual 162, 3) := by decide +kernel
theorem dX9_ordered_4 : decode cX9_ordered 4 = .ok (.aload_n 0, 1) := by decide +kernel
theorem dX9_ordered_5 : decode cX9_ordered 5 = .ok (.iload_n 1, 1) := by decide +kernel
theorem dX9_ordered_6 : decode cX9_ordered 6 = .ok (.iconst 0, 1) := by decide +kernel
theorem dX9_ordered_7 : decode cX9_ordered 7 = .ok (.aload_n 0, 1) := by decide +kernel
theorem dX9_ordered_8 : decode cX9_ordered 8 = .ok (.getfield 156, 3) := by decide +kernel
theorem dX9_ordered_11 : decode cX9_ordered 11 = .ok (.iconst 1, 1) := by decide +kernel
theorem dX9_ordered_12 : decode cX9_ordered 12 = .ok (.isub, 1) := by decide +kernel
theorem dX9_ordered_13 : decode cX9_ordered 13 = .ok (.invokestatic 50, 3) := by decide +kernel
theorem dX9_ordered_16 : decode cX9_ordered 16 = .ok (.ifCond .eq 7, 3) := by decide +kernel
theorem dX9_ordered_19 : decode cX9_ordered 19 = .ok (.iconst 0, 1) := by decide +kernel
theorem dX9_ordered_20 : decode cX9_ordered 20 = .ok (.goto 4, 3) := by decide +kernel
theorem dX9_ordered_23 : decode cX9_ordered 23 = .ok (.iconst 1, 1) := by decide +kernel
theorem dX9_ordered_24 : decode cX9_ordered 24 = .ok (.putfield 46, 3) := by decide +kernel
theorem dX9_ordered_27 : decode cX9_ordered 27 = .ok (.aload_n 0, 1) := by decide +kernel
theorem dX9_ordered_28 : decode cX9_ordered 28 = .ok (.getfield 46, 3) := by decide +kernel
theorem dX9_ordered_31 : decode cX9_ordered 31 = .ok (.ifCond .le 7, 3) := by decide +kernel
theorem dX9_ordered_34 : decode cX9_ordered 34 = .ok (.iconst 0, 1) := by decide +kernel
theorem dX9_ordered_35 : decode cX9_ordered 35 = .ok (.goto 9, 3) := by decide +kernel
theorem dX9_ordered_38 : decode cX9_ordered 38 = .ok (.aload_n 0, 1) := by decide +kernel
theorem dX9_ordered_39 : decode cX9_ordered 39 = .ok (.getfield 34, 3) := by decide +kernel
theorem dX9_ordered_42 : decode cX9_ordered 42 = .ok (.iload_n 1, 1) := by decide +kernel
theorem dX9_ordered_43 : decode cX9_ordered 43 = .ok (.iaload, 1) := by decide +kernel
theorem dX9_ordered_44 : decode cX9_ordered 44 = .ok (.ireturn, 1) := by decide +kernel
set_option maxRecDepth 20000 in
theorem ggX9_stock_X9_isMaterial : GoodIn wsX9_stock wsX9_isMaterial := goodIn_r _ [6, 7, 8, 5, 9] (by decide +kernel) (by decide +kernel)
set_option maxRecDepth 20000 in
theorem gX9_stock_X9_isMaterial : GoodIn wsX9_stock (va_wsS RX9 65 yX9_isMaterial wsX9_isMaterial) := goodIn_app (goodIn_of _ (by decide +kernel)) ggX9_stock_X9_isMaterial
set_option maxRecDepth 20000 in
theorem ggX9_stock_X9_in : GoodIn wsX9_stock wsX9_in := goodIn_r _ [9] (by decide +kernel) (by decide +kernel)
set_option maxRecDepth 20000 in
theorem gX9_stock_X9_in : GoodIn wsX9_stock (va_wsS RX9 50 yX9_in wsX9_in) := goodIn_app (goodIn_of _ (by decide +kernel)) ggX9_stock_X9_in
set_option maxRecDepth 20000 in
theorem ggX9_stock_X9_baleAt : GoodIn wsX9_stock wsX9_baleAt := goodIn_r _ [12] (by decide +kernel) (by decide +kernel)
set_option maxRecDepth 20000 in
theorem gX9_stock_X9_baleAt : GoodIn wsX9_stock (va_wsS RX9 111 yX9_baleAt wsX9_baleAt) := goodIn_app (goodIn_of _ (by decide +kernel)) ggX9_stock_X9_baleAt
set_option maxRecDepth 20000 in
theorem ggX9_stock_X9_grade : GoodIn wsX9_stock wsX9_grade := goodIn_ca (goodIn_r _ [16, 2, 10, 11, 5, 12, 17, 18, 19, 28, 29, 30, 31, 32, 33, 34, 35, 36, 37, 38, 39, 40, 41, 42, 43, 44, 45, 46, 47, 48, 49] (by decide +kernel) (by decide +kernel)) (goodIn_sub (fun _ h => List.mem_cons_of_mem _ (List.mem_append_right _ h)) (by decide +kernel))
set_option maxRecDepth 20000 in
theorem gX9_stock_X9_grade : GoodIn wsX9_stock (wsV RX9 124 RX9 yX9_grade wsX9_grade) := goodIn_app (goodIn_of _ (by decide +kernel)) ggX9_stock_X9_grade
set_option maxRecDepth 20000 in
theorem ggX9_stock_X9_kilosOf : GoodIn wsX9_stock wsX9_kilosOf := goodIn_ca (goodIn_r _ [23, 10, 11, 5, 12, 24, 25, 26, 27, 2, 28, 29, 30, 31, 32, 33, 34, 35, 36, 37, 38, 39, 40, 41, 42, 43, 44, 45, 46, 47, 48, 49] (by decide +kernel) (by decide +kernel)) (goodIn_sub (fun _ h => List.mem_cons_of_mem _ (List.mem_append_right _ h)) (by decide +kernel))
set_option maxRecDepth 20000 in
theorem gX9_stock_X9_kilosOf : GoodIn wsX9_stock (wsV RX9 150 RX9 yX9_kilosOf wsX9_kilosOf) := goodIn_app (goodIn_of _ (by decide +kernel)) ggX9_stock_X9_kilosOf
theorem dX9_stock_0 : decode cX9_stock 0 = .ok (.aload_n 0, 1) := by decide +kernel
theorem dX9_stock_1 : decode cX9_stock 1 = .ok (.iload_n 1, 1) := by decide +kernel
theorem dX9_stock_2 : decode cX9_stock 2 = .ok (.invokestatic 65, 3) := by decide +kernel
theorem dX9_stock_5 : decode cX9_stock 5 = .ok (.ifCond .eq 20, 3) := by decide +kernel
theorem dX9_stock_8 : decode cX9_stock 8 = .ok (.iload_n 2, 1) := by decide +kernel
theorem dX9_stock_9 : decode cX9_stock 9 = .ok (.iconst 0, 1) := by decide +kernel
theorem dX9_stock_10 : decode cX9_stock 10 = .ok (.iconst 3, 1) := by decide +kernel
theorem dX9_stock_11 : decode cX9_stock 11 = .ok (.invokestatic 50, 3) := by decide +kernel
theorem dX9_stock_14 : decode cX9_stock 14 = .ok (.ifCond .eq 7, 3) := by decide +kernel
theorem dX9_stock_17 : decode cX9_stock 17 = .ok (.iconst 0, 1) := by decide +kernel
theorem dX9_stock_18 : decode cX9_stock 18 = .ok (.goto 8, 3) := by decide +kernel
theorem dX9_stock_21 : decode cX9_stock 21 = .ok (.iconst 2, 1) := by decide +kernel
theorem dX9_stock_22 : decode cX9_stock 22 = .ok (.goto 4, 3) := by decide +kernel
theorem dX9_stock_25 : decode cX9_stock 25 = .ok (.iconst 1, 1) := by decide +kernel
theorem dX9_stock_26 : decode cX9_stock 26 = .ok (.putfield 46, 3) := by decide +kernel
theorem dX9_stock_29 : decode cX9_stock 29 = .ok (.iconst 0, 1) := by decide +kernel
theorem dX9_stock_30 : decode cX9_stock 30 = .ok (.istore_n 3, 1) := by decide +kernel
theorem dX9_stock_31 : decode cX9_stock 31 = .ok (.iconst 0, 1) := by decide +kernel
theorem dX9_stock_32 : decode cX9_stock 32 = .ok (.istore 4, 2) := by decide +kernel
theorem dX9_stock_34 : decode cX9_stock 34 = .ok (.iload 4, 2) := by decide +kernel
theorem dX9_stock_36 : decode cX9_stock 36 = .ok (.aload_n 0, 1) := by decide +kernel
theorem dX9_stock_37 : decode cX9_stock 37 = .ok (.getfield 7, 3) := by decide +kernel
theorem dX9_stock_40 : decode cX9_stock 40 = .ok (.iconst 2, 1) := by decide +kernel
theorem dX9_stock_41 : decode cX9_stock 41 = .ok (.iaload, 1) := by decide +kernel
theorem dX9_stock_42 : decode cX9_stock 42 = .ok (.if_icmp .ge 69, 3) := by decide +kernel
theorem dX9_stock_45 : decode cX9_stock 45 = .ok (.aload_n 0, 1) := by decide +kernel
theorem dX9_stock_46 : decode cX9_stock 46 = .ok (.getfield 46, 3) := by decide +kernel
theorem dX9_stock_49 : decode cX9_stock 49 = .ok (.ifCond .ne 62, 3) := by decide +kernel
theorem dX9_stock_52 : decode cX9_stock 52 = .ok (.iload_n 3, 1) := by decide +kernel
theorem dX9_stock_53 : decode cX9_stock 53 = .ok (.aload_n 0, 1) := by decide +kernel
theorem dX9_stock_54 : decode cX9_stock 54 = .ok (.getfield 7, 3) := by decide +kernel
theorem dX9_stock_57 : decode cX9_stock 57 = .ok (.iload 4, 2) := by decide +kernel
theorem dX9_stock_59 : decode cX9_stock 59 = .ok (.bipush 7, 2) := by decide +kernel
theorem dX9_stock_61 : decode cX9_stock 61 = .ok (.invokestatic 111, 3) := by decide +kernel
theorem dX9_stock_64 : decode cX9_stock 64 = .ok (.iaload, 1) := by decide +kernel
theorem dX9_stock_65 : decode cX9_stock 65 = .ok (.ifCond .ne 37, 3) := by decide +kernel
theorem dX9_stock_68 : decode cX9_stock 68 = .ok (.aload_n 0, 1) := by decide +kernel
theorem dX9_stock_69 : decode cX9_stock 69 = .ok (.getfield 7, 3) := by decide +kernel
theorem dX9_stock_72 : decode cX9_stock 72 = .ok (.iload 4, 2) := by decide +kernel
theorem dX9_stock_74 : decode cX9_stock 74 = .ok (.iconst 5, 1) := by decide +kernel
theorem dX9_stock_75 : decode cX9_stock 75 = .ok (.invokestatic 111, 3) := by decide +kernel
theorem dX9_stock_78 : decode cX9_stock 78 = .ok (.iaload, 1) := by decide +kernel
theorem dX9_stock_79 : decode cX9_stock 79 = .ok (.iload_n 1, 1) := by decide +kernel
theorem dX9_stock_80 : decode cX9_stock 80 = .ok (.if_icmp .ne 22, 3) := by decide +kernel
theorem dX9_stock_83 : decode cX9_stock 83 = .ok (.aload_n 0, 1) := by decide +kernel
theorem dX9_stock_84 : decode cX9_stock 84 = .ok (.iload 4, 2) := by decide +kernel
theorem dX9_stock_86 : decode cX9_stock 86 = .ok (.invokevirtual 124, 3) := by decide +kernel
theorem dX9_stock_89 : decode cX9_stock 89 = .ok (.iload_n 2, 1) := by decide +kernel
theorem dX9_stock_90 : decode cX9_stock 90 = .ok (.if_icmp .gt 12, 3) := by decide +kernel
theorem dX9_stock_93 : decode cX9_stock 93 = .ok (.aload_n 0, 1) := by decide +kernel
theorem dX9_stock_94 : decode cX9_stock 94 = .ok (.iload 4, 2) := by decide +kernel
theorem dX9_stock_96 : decode cX9_stock 96 = .ok (.invokevirtual 150, 3) := by decide +kernel
theorem dX9_stock_99 : decode cX9_stock 99 = .ok (.goto 4, 3) := by decide +kernel
theorem dX9_stock_102 : decode cX9_stock 102 = .ok (.iconst 0, 1) := by decide +kernel
theorem dX9_stock_103 : decode cX9_stock 103 = .ok (.iadd, 1) := by decide +kernel
theorem dX9_stock_104 : decode cX9_stock 104 = .ok (.istore_n 3, 1) := by decide +kernel
theorem dX9_stock_105 : decode cX9_stock 105 = .ok (.iinc 4 1, 3) := by decide +kernel
theorem dX9_stock_108 : decode cX9_stock 108 = .ok (.goto (-74), 3) := by decide +kernel
theorem dX9_stock_111 : decode cX9_stock 111 = .ok (.iload_n 3, 1) := by decide +kernel
theorem dX9_stock_112 : decode cX9_stock 112 = .ok (.ireturn, 1) := by decide +kernel
set_option maxRecDepth 20000 in
theorem ggX9_againstContract_X9_isMaterial : GoodIn wsX9_againstContract wsX9_isMaterial := goodIn_r _ [5, 6, 7, 4, 8] (by decide +kernel) (by decide +kernel)
set_option maxRecDepth 20000 in
theorem gX9_againstContract_X9_isMaterial : GoodIn wsX9_againstContract (va_wsS RX9 65 yX9_isMaterial wsX9_isMaterial) := goodIn_app (goodIn_of _ (by decide +kernel)) ggX9_againstContract_X9_isMaterial
set_option maxRecDepth 20000 in
theorem ggX9_againstContract_X9_in : GoodIn wsX9_againstContract wsX9_in := goodIn_r _ [8] (by decide +kernel) (by decide +kernel)
set_option maxRecDepth 20000 in
theorem gX9_againstContract_X9_in : GoodIn wsX9_againstContract (va_wsS RX9 50 yX9_in wsX9_in) := goodIn_app (goodIn_of _ (by decide +kernel)) ggX9_againstContract_X9_in
theorem dX9_againstContract_0 : decode cX9_againstContract 0 = .ok (.iload_n 1, 1) := by decide +kernel
theorem dX9_againstContract_1 : decode cX9_againstContract 1 = .ok (.invokestatic 65, 3) := by decide +kernel
theorem dX9_againstContract_4 : decode cX9_againstContract 4 = .ok (.ifCond .ne 7, 3) := by decide +kernel
theorem dX9_againstContract_7 : decode cX9_againstContract 7 = .ok (.iconst 1, 1) := by decide +kernel
theorem dX9_againstContract_8 : decode cX9_againstContract 8 = .ok (.goto 56, 3) := by decide +kernel
theorem dX9_againstContract_11 : decode cX9_againstContract 11 = .ok (.iload_n 2, 1) := by decide +kernel
theorem dX9_againstContract_12 : decode cX9_againstContract 12 = .ok (.iconst 0, 1) := by decide +kernel
theorem dX9_againstContract_13 : decode cX9_againstContract 13 = .ok (.sipush 1000, 3) := by decide +kernel
theorem dX9_againstContract_16 : decode cX9_againstContract 16 = .ok (.invokestatic 50, 3) := by decide +kernel
theorem dX9_againstContract_19 : decode cX9_againstContract 19 = .ok (.ifCond .eq 25, 3) := by decide +kernel
theorem dX9_againstContract_22 : decode cX9_againstContract 22 = .ok (.iload_n 3, 1) := by decide +kernel
theorem dX9_againstContract_23 : decode cX9_againstContract 23 = .ok (.iconst 1, 1) := by decide +kernel
theorem dX9_againstContract_24 : decode cX9_againstContract 24 = .ok (.sipush 9999, 3) := by decide +kernel
theorem dX9_againstContract_27 : decode cX9_againstContract 27 = .ok (.invokestatic 50, 3) := by decide +kernel
theorem dX9_againstContract_30 : decode cX9_againstContract 30 = .ok (.ifCond .eq 14, 3) := by decide +kernel
theorem dX9_againstContract_33 : decode cX9_againstContract 33 = .ok (.iload 4, 2) := by decide +kernel
theorem dX9_againstContract_35 : decode cX9_againstContract 35 = .ok (.iconst 1, 1) := by decide +kernel
theorem dX9_againstContract_36 : decode cX9_againstContract 36 = .ok (.bipush 99, 2) := by decide +kernel
theorem dX9_againstContract_38 : decode cX9_againstContract 38 = .ok (.invokestatic 50, 3) := by decide +kernel
theorem dX9_againstContract_41 : decode cX9_againstContract 41 = .ok (.ifCond .ne 7, 3) := by decide +kernel
theorem dX9_againstContract_44 : decode cX9_againstContract 44 = .ok (.iconst 2, 1) := by decide +kernel
theorem dX9_againstContract_45 : decode cX9_againstContract 45 = .ok (.goto 19, 3) := by decide +kernel
theorem dX9_againstContract_48 : decode cX9_againstContract 48 = .ok (.aload_n 0, 1) := by decide +kernel
theorem dX9_againstContract_49 : decode cX9_againstContract 49 = .ok (.getfield 7, 3) := by decide +kernel
theorem dX9_againstContract_52 : decode cX9_againstContract 52 = .ok (.iconst 3, 1) := by decide +kernel
theorem dX9_againstContract_53 : decode cX9_againstContract 53 = .ok (.iaload, 1) := by decide +kernel
theorem dX9_againstContract_54 : decode cX9_againstContract 54 = .ok (.bipush 8, 2) := by decide +kernel
theorem dX9_againstContract_56 : decode cX9_againstContract 56 = .ok (.if_icmp .ne 7, 3) := by decide +kernel
theorem dX9_againstContract_59 : decode cX9_againstContract 59 = .ok (.iconst 3, 1) := by decide +kernel
theorem dX9_againstContract_60 : decode cX9_againstContract 60 = .ok (.goto 4, 3) := by decide +kernel
theorem dX9_againstContract_63 : decode cX9_againstContract 63 = .ok (.iconst 0, 1) := by decide +kernel
theorem dX9_againstContract_64 : decode cX9_againstContract 64 = .ok (.ireturn, 1) := by decide +kernel
set_option maxRecDepth 20000 in
theorem ggX9_contracts_X9_contractAt : GoodIn wsX9_contracts wsX9_contractAt := goodIn_r _ [5] (by decide +kernel) (by decide +kernel)
set_option maxRecDepth 20000 in
theorem gX9_contracts_X9_contractAt : GoodIn wsX9_contracts (va_wsS RX9 165 yX9_contractAt wsX9_contractAt) := goodIn_app (goodIn_of _ (by decide +kernel)) ggX9_contracts_X9_contractAt
theorem dX9_contracts_0 : decode cX9_contracts 0 = .ok (.aload_n 0, 1) := by decide +kernel
theorem dX9_contracts_1 : decode cX9_contracts 1 = .ok (.getfield 7, 3) := by decide +kernel
theorem dX9_contracts_4 : decode cX9_contracts 4 = .ok (.iconst 3, 1) := by decide +kernel
theorem dX9_contracts_5 : decode cX9_contracts 5 = .ok (.iaload, 1) := by decide +kernel
theorem dX9_contracts_6 : decode cX9_contracts 6 = .ok (.istore 5, 2) := by decide +kernel
theorem dX9_contracts_8 : decode cX9_contracts 8 = .ok (.aload_n 0, 1) := by decide +kernel
theorem dX9_contracts_9 : decode cX9_contracts 9 = .ok (.getfield 7, 3) := by decide +kernel
theorem dX9_contracts_12 : decode cX9_contracts 12 = .ok (.iconst 3, 1) := by decide +kernel
theorem dX9_contracts_13 : decode cX9_contracts 13 = .ok (.dup2, 1) := by decide +kernel
theorem dX9_contracts_14 : decode cX9_contracts 14 = .ok (.iaload, 1) := by decide +kernel
theorem dX9_contracts_15 : decode cX9_contracts 15 = .ok (.iconst 1, 1) := by decide +kernel
theorem dX9_contracts_16 : decode cX9_contracts 16 = .ok (.iadd, 1) := by decide +kernel
theorem dX9_contracts_17 : decode cX9_contracts 17 = .ok (.iastore, 1) := by decide +kernel
theorem dX9_contracts_18 : decode cX9_contracts 18 = .ok (.aload_n 0, 1) := by decide +kernel
theorem dX9_contracts_19 : decode cX9_contracts 19 = .ok (.getfield 7, 3) := by decide +kernel
theorem dX9_contracts_22 : decode cX9_contracts 22 = .ok (.iload 5, 2) := by decide +kernel
theorem dX9_contracts_24 : decode cX9_contracts 24 = .ok (.iconst 0, 1) := by decide +kernel
theorem dX9_contracts_25 : decode cX9_contracts 25 = .ok (.invokestatic 165, 3) := by decide +kernel
theorem dX9_contracts_28 : decode cX9_contracts 28 = .ok (.iload_n 1, 1) := by decide +kernel
theorem dX9_contracts_29 : decode cX9_contracts 29 = .ok (.iastore, 1) := by decide +kernel
theorem dX9_contracts_30 : decode cX9_contracts 30 = .ok (.aload_n 0, 1) := by decide +kernel
theorem dX9_contracts_31 : decode cX9_contracts 31 = .ok (.getfield 7, 3) := by decide +kernel
theorem dX9_contracts_34 : decode cX9_contracts 34 = .ok (.iload 5, 2) := by decide +kernel
theorem dX9_contracts_36 : decode cX9_contracts 36 = .ok (.iconst 1, 1) := by decide +kernel
theorem dX9_contracts_37 : decode cX9_contracts 37 = .ok (.invokestatic 165, 3) := by decide +kernel
theorem dX9_contracts_40 : decode cX9_contracts 40 = .ok (.iload_n 2, 1) := by decide +kernel
theorem dX9_contracts_41 : decode cX9_contracts 41 = .ok (.iastore, 1) := by decide +kernel
theorem dX9_contracts_42 : decode cX9_contracts 42 = .ok (.aload_n 0, 1) := by decide +kernel
theorem dX9_contracts_43 : decode cX9_contracts 43 = .ok (.getfield 7, 3) := by decide +kernel
theorem dX9_contracts_46 : decode cX9_contracts 46 = .ok (.iload 5, 2) := by decide +kernel
theorem dX9_contracts_48 : decode cX9_contracts 48 = .ok (.iconst 2, 1) := by decide +kernel
theorem dX9_contracts_49 : decode cX9_contracts 49 = .ok (.invokestatic 165, 3) := by decide +kernel
theorem dX9_contracts_52 : decode cX9_contracts 52 = .ok (.iload_n 3, 1) := by decide +kernel
theorem dX9_contracts_53 : decode cX9_contracts 53 = .ok (.iastore, 1) := by decide +kernel
theorem dX9_contracts_54 : decode cX9_contracts 54 = .ok (.aload_n 0, 1) := by decide +kernel
theorem dX9_contracts_55 : decode cX9_contracts 55 = .ok (.getfield 7, 3) := by decide +kernel
theorem dX9_contracts_58 : decode cX9_contracts 58 = .ok (.iload 5, 2) := by decide +kernel
theorem dX9_contracts_60 : decode cX9_contracts 60 = .ok (.iconst 3, 1) := by decide +kernel
theorem dX9_contracts_61 : decode cX9_contracts 61 = .ok (.invokestatic 165, 3) := by decide +kernel
theorem dX9_contracts_64 : decode cX9_contracts 64 = .ok (.iload 4, 2) := by decide +kernel
theorem dX9_contracts_66 : decode cX9_contracts 66 = .ok (.iastore, 1) := by decide +kernel
theorem dX9_contracts_67 : decode cX9_contracts 67 = .ok (.aload_n 0, 1) := by decide +kernel
theorem dX9_contracts_68 : decode cX9_contracts 68 = .ok (.getfield 7, 3) := by decide +kernel
theorem dX9_contracts_71 : decode cX9_contracts 71 = .ok (.iload 5, 2) := by decide +kernel
theorem dX9_contracts_73 : decode cX9_contracts 73 = .ok (.iconst 4, 1) := by decide +kernel
theorem dX9_contracts_74 : decode cX9_contracts 74 = .ok (.invokestatic 165, 3) := by decide +kernel
theorem dX9_contracts_77 : decode cX9_contracts 77 = .ok (.iconst 0, 1) := by decide +kernel
theorem dX9_contracts_78 : decode cX9_contracts 78 = .ok (.iastore, 1) := by decide +kernel
theorem dX9_contracts_79 : decode cX9_contracts 79 = .ok (.iload 5, 2) := by decide +kernel
theorem dX9_contracts_81 : decode cX9_contracts 81 = .ok (.ireturn, 1) := by decide +kernel
set_option maxRecDepth 20000 in
theorem ggX9_contract_X9_againstContract : GoodIn wsX9_contract wsX9_againstContract := goodIn_ca (goodIn_r _ [7, 2, 8, 9, 6, 10, 11, 12, 13, 30, 31, 32, 33, 34, 35, 36, 37, 38, 39, 40, 41, 42, 43, 44, 45, 46, 47, 48, 49, 50, 51] (by decide +kernel) (by decide +kernel)) (goodIn_sub (fun _ h => List.mem_cons_of_mem _ (List.mem_append_right _ h)) (by decide +kernel))
set_option maxRecDepth 20000 in
theorem gX9_contract_X9_againstContract : GoodIn wsX9_contract (wsV RX9 168 RX9 yX9_againstContract wsX9_againstContract) := goodIn_app (goodIn_of _ (by decide +kernel)) ggX9_contract_X9_againstContract
set_option maxRecDepth 20000 in
theorem ggX9_contract_X9_changes : GoodIn wsX9_contract wsX9_changes := goodIn_ca (goodIn_r _ [17, 18, 19, 20, 21, 6, 22, 30, 31, 32, 33, 34, 35, 36, 37, 38, 39, 40, 41, 42, 43, 44, 45, 46, 47, 48, 49, 50, 51] (by decide +kernel) (by decide +kernel)) (goodIn_sub (fun _ h => List.mem_cons_of_mem _ (List.mem_append_right _ h)) (by decide +kernel))
set_option maxRecDepth 20000 in
theorem gX9_contract_X9_changes : GoodIn wsX9_contract (wsV RX9 73 RX9 yX9_changes wsX9_changes) := goodIn_app (goodIn_of _ (by decide +kernel)) ggX9_contract_X9_changes
set_option maxRecDepth 20000 in
theorem ggX9_contract_X9_contracts : GoodIn wsX9_contract wsX9_contracts := goodIn_ca (goodIn_r _ [26, 2, 27, 28, 6, 29, 30, 31, 32, 33, 34, 35, 36, 37, 38, 39, 40, 41, 42, 43, 44, 45, 46, 47, 48, 49, 50, 51] (by decide +kernel) (by decide +kernel)) (goodIn_sub (fun _ h => List.mem_cons_of_mem _ (List.mem_append_right _ h)) (by decide +kernel))
set_option maxRecDepth 20000 in
theorem gX9_contract_X9_contracts : GoodIn wsX9_contract (wsV RX9 171 RX9 yX9_contracts wsX9_contracts) := goodIn_app (goodIn_of _ (by decide +kernel)) ggX9_contract_X9_contracts
theorem dX9_contract_0 : decode cX9_contract 0 = .ok (.aload_n 0, 1) := by decide +kernel
theorem dX9_contract_1 : decode cX9_contract 1 = .ok (.aload_n 0, 1) := by decide +kernel
theorem dX9_contract_2 : decode cX9_contract 2 = .ok (.iload_n 1, 1) := by decide +kernel
theorem dX9_contract_3 : decode cX9_contract 3 = .ok (.iload_n 2, 1) := by decide +kernel
theorem dX9_contract_4 : decode cX9_contract 4 = .ok (.iload_n 3, 1) := by decide +kernel
theorem dX9_contract_5 : decode cX9_contract 5 = .ok (.iload 4, 2) := by decide +kernel
theorem dX9_contract_7 : decode cX9_contract 7 = .ok (.invokevirtual 168, 3) := by decide +kernel
theorem dX9_contract_10 : decode cX9_contract 10 = .ok (.putfield 46, 3) := by decide +kernel
theorem dX9_contract_13 : decode cX9_contract 13 = .ok (.aload_n 0, 1) := by decide +kernel
theorem dX9_contract_14 : decode cX9_contract 14 = .ok (.getfield 46, 3) := by decide +kernel
theorem dX9_contract_17 : decode cX9_contract 17 = .ok (.ifCond .le 5, 3) := by decide +kernel
theorem dX9_contract_20 : decode cX9_contract 20 = .ok (.iconst 0, 1) := by decide +kernel
theorem dX9_contract_21 : decode cX9_contract 21 = .ok (.ireturn, 1) := by decide +kernel
theorem dX9_contract_22 : decode cX9_contract 22 = .ok (.aload_n 0, 1) := by decide +kernel
theorem dX9_contract_23 : decode cX9_contract 23 = .ok (.aload_n 0, 1) := by decide +kernel
theorem dX9_contract_24 : decode cX9_contract 24 = .ok (.getfield 7, 3) := by decide +kernel
theorem dX9_contract_27 : decode cX9_contract 27 = .ok (.invokevirtual 73, 3) := by decide +kernel
theorem dX9_contract_30 : decode cX9_contract 30 = .ok (.aload_n 0, 1) := by decide +kernel
theorem dX9_contract_31 : decode cX9_contract 31 = .ok (.iload_n 1, 1) := by decide +kernel
theorem dX9_contract_32 : decode cX9_contract 32 = .ok (.iload_n 2, 1) := by decide +kernel
theorem dX9_contract_33 : decode cX9_contract 33 = .ok (.iload_n 3, 1) := by decide +kernel
theorem dX9_contract_34 : decode cX9_contract 34 = .ok (.iload 4, 2) := by decide +kernel
theorem dX9_contract_36 : decode cX9_contract 36 = .ok (.invokevirtual 171, 3) := by decide +kernel
theorem dX9_contract_39 : decode cX9_contract 39 = .ok (.ireturn, 1) := by decide +kernel
set_option maxRecDepth 20000 in
theorem ggX9_contractOf_X9_in : GoodIn wsX9_contractOf wsX9_in := goodIn_r _ [6] (by decide +kernel) (by decide +kernel)
set_option maxRecDepth 20000 in
theorem gX9_contractOf_X9_in : GoodIn wsX9_contractOf (va_wsS RX9 50 yX9_in wsX9_in) := goodIn_app (goodIn_of _ (by decide +kernel)) ggX9_contractOf_X9_in
set_option maxRecDepth 20000 in
theorem ggX9_contractOf_X9_contractAt : GoodIn wsX9_contractOf wsX9_contractAt := goodIn_r _ [9] (by decide +kernel) (by decide +kernel)
set_option maxRecDepth 20000 in
theorem gX9_contractOf_X9_contractAt : GoodIn wsX9_contractOf (va_wsS RX9 165 yX9_contractAt wsX9_contractAt) := goodIn_app (goodIn_of _ (by decide +kernel)) ggX9_contractOf_X9_contractAt
theorem dX9_contractOf_0 : decode cX9_contractOf 0 = .ok (.aload_n 0, 1) := by decide +kernel
theorem dX9_contractOf_1 : decode cX9_contractOf 1 = .ok (.iload_n 1, 1) := by decide +kernel
theorem dX9_contractOf_2 : decode cX9_contractOf 2 = .ok (.iconst 0, 1) := by decide +kernel
theorem dX9_contractOf_3 : decode cX9_contractOf 3 = .ok (.aload_n 0, 1) := by decide +kernel
theorem dX9_contractOf_4 : decode cX9_contractOf 4 = .ok (.getfield 7, 3) := by decide +kernel
theorem dX9_contractOf_7 : decode cX9_contractOf 7 = .ok (.iconst 3, 1) := by decide +kernel
theorem dX9_contractOf_8 : decode cX9_contractOf 8 = .ok (.iaload, 1) := by decide +kernel
theorem dX9_contractOf_9 : decode cX9_contractOf 9 = .ok (.iconst 1, 1) := by decide +kernel
theorem dX9_contractOf_10 : decode cX9_contractOf 10 = .ok (.isub, 1) := by decide +kernel
theorem dX9_contractOf_11 : decode cX9_contractOf 11 = .ok (.invokestatic 50, 3) := by decide +kernel
theorem dX9_contractOf_14 : decode cX9_contractOf 14 = .ok (.ifCond .eq 20, 3) := by decide +kernel
theorem dX9_contractOf_17 : decode cX9_contractOf 17 = .ok (.iload_n 2, 1) := by decide +kernel
theorem dX9_contractOf_18 : decode cX9_contractOf 18 = .ok (.iconst 0, 1) := by decide +kernel
theorem dX9_contractOf_19 : decode cX9_contractOf 19 = .ok (.iconst 4, 1) := by decide +kernel
theorem dX9_contractOf_20 : decode cX9_contractOf 20 = .ok (.invokestatic 50, 3) := by decide +kernel
theorem dX9_contractOf_23 : decode cX9_contractOf 23 = .ok (.ifCond .eq 7, 3) := by decide +kernel
theorem dX9_contractOf_26 : decode cX9_contractOf 26 = .ok (.iconst 0, 1) := by decide +kernel
theorem dX9_contractOf_27 : decode cX9_contractOf 27 = .ok (.goto 8, 3) := by decide +kernel
theorem dX9_contractOf_30 : decode cX9_contractOf 30 = .ok (.iconst 2, 1) := by decide +kernel
theorem dX9_contractOf_31 : decode cX9_contractOf 31 = .ok (.goto 4, 3) := by decide +kernel
theorem dX9_contractOf_34 : decode cX9_contractOf 34 = .ok (.iconst 1, 1) := by decide +kernel
theorem dX9_contractOf_35 : decode cX9_contractOf 35 = .ok (.putfield 46, 3) := by decide +kernel
theorem dX9_contractOf_38 : decode cX9_contractOf 38 = .ok (.aload_n 0, 1) := by decide +kernel
theorem dX9_contractOf_39 : decode cX9_contractOf 39 = .ok (.getfield 46, 3) := by decide +kernel
theorem dX9_contractOf_42 : decode cX9_contractOf 42 = .ok (.ifCond .le 7, 3) := by decide +kernel
theorem dX9_contractOf_45 : decode cX9_contractOf 45 = .ok (.iconst 0, 1) := by decide +kernel
theorem dX9_contractOf_46 : decode cX9_contractOf 46 = .ok (.goto 13, 3) := by decide +kernel
theorem dX9_contractOf_49 : decode cX9_contractOf 49 = .ok (.aload_n 0, 1) := by decide +kernel
theorem dX9_contractOf_50 : decode cX9_contractOf 50 = .ok (.getfield 7, 3) := by decide +kernel
theorem dX9_contractOf_53 : decode cX9_contractOf 53 = .ok (.iload_n 1, 1) := by decide +kernel
theorem dX9_contractOf_54 : decode cX9_contractOf 54 = .ok (.iload_n 2, 1) := by decide +kernel
theorem dX9_contractOf_55 : decode cX9_contractOf 55 = .ok (.invokestatic 165, 3) := by decide +kernel
theorem dX9_contractOf_58 : decode cX9_contractOf 58 = .ok (.iaload, 1) := by decide +kernel
theorem dX9_contractOf_59 : decode cX9_contractOf 59 = .ok (.ireturn, 1) := by decide +kernel
set_option maxRecDepth 20000 in
theorem ggX9_isFor_X9_contractAt : GoodIn wsX9_isFor wsX9_contractAt := goodIn_r _ [5] (by decide +kernel) (by decide +kernel)
set_option maxRecDepth 20000 in
theorem gX9_isFor_X9_contractAt : GoodIn wsX9_isFor (va_wsS RX9 165 yX9_contractAt wsX9_contractAt) := goodIn_app (goodIn_of _ (by decide +kernel)) ggX9_isFor_X9_contractAt
set_option maxRecDepth 20000 in
theorem ggX9_isFor_X9_baleAt : GoodIn wsX9_isFor wsX9_baleAt := goodIn_r _ [8] (by decide +kernel) (by decide +kernel)
set_option maxRecDepth 20000 in
theorem gX9_isFor_X9_baleAt : GoodIn wsX9_isFor (va_wsS RX9 111 yX9_baleAt wsX9_baleAt) := goodIn_app (goodIn_of _ (by decide +kernel)) ggX9_isFor_X9_baleAt
theorem dX9_isFor_0 : decode cX9_isFor 0 = .ok (.aload_n 0, 1) := by decide +kernel
theorem dX9_isFor_1 : decode cX9_isFor 1 = .ok (.getfield 7, 3) := by decide +kernel
theorem dX9_isFor_4 : decode cX9_isFor 4 = .ok (.iload_n 1, 1) := by decide +kernel
theorem dX9_isFor_5 : decode cX9_isFor 5 = .ok (.iconst 0, 1) := by decide +kernel
theorem dX9_isFor_6 : decode cX9_isFor 6 = .ok (.invokestatic 165, 3) := by decide +kernel
theorem dX9_isFor_9 : decode cX9_isFor 9 = .ok (.iaload, 1) := by decide +kernel
theorem dX9_isFor_10 : decode cX9_isFor 10 = .ok (.aload_n 0, 1) := by decide +kernel
theorem dX9_isFor_11 : decode cX9_isFor 11 = .ok (.getfield 7, 3) := by decide +kernel
theorem dX9_isFor_14 : decode cX9_isFor 14 = .ok (.iload_n 2, 1) := by decide +kernel
theorem dX9_isFor_15 : decode cX9_isFor 15 = .ok (.iconst 5, 1) := by decide +kernel
theorem dX9_isFor_16 : decode cX9_isFor 16 = .ok (.invokestatic 111, 3) := by decide +kernel
theorem dX9_isFor_19 : decode cX9_isFor 19 = .ok (.iaload, 1) := by decide +kernel
theorem dX9_isFor_20 : decode cX9_isFor 20 = .ok (.if_icmp .ne 7, 3) := by decide +kernel
theorem dX9_isFor_23 : decode cX9_isFor 23 = .ok (.iconst 1, 1) := by decide +kernel
theorem dX9_isFor_24 : decode cX9_isFor 24 = .ok (.goto 4, 3) := by decide +kernel
theorem dX9_isFor_27 : decode cX9_isFor 27 = .ok (.iconst 0, 1) := by decide +kernel
theorem dX9_isFor_28 : decode cX9_isFor 28 = .ok (.ireturn, 1) := by decide +kernel
set_option maxRecDepth 20000 in
theorem ggX9_reaches_X9_isFor : GoodIn wsX9_reaches wsX9_isFor := goodIn_ca (goodIn_r _ [6, 1, 7, 8, 5, 9, 10, 11, 12, 13, 14, 15, 16, 17, 18, 19, 20, 21, 22, 23, 24, 25, 26, 27, 28, 29, 30, 31, 32, 33, 34] (by decide +kernel) (by decide +kernel)) (goodIn_sub (fun _ h => List.mem_cons_of_mem _ (List.mem_append_right _ h)) (by decide +kernel))
set_option maxRecDepth 20000 in
theorem gX9_reaches_X9_isFor : GoodIn wsX9_reaches (wsV RX9 174 RX9 yX9_isFor wsX9_isFor) := goodIn_app (goodIn_of _ (by decide +kernel)) ggX9_reaches_X9_isFor
set_option maxRecDepth 20000 in
theorem ggX9_reaches_X9_baleAt : GoodIn wsX9_reaches wsX9_baleAt := goodIn_r _ [12] (by decide +kernel) (by decide +kernel)
set_option maxRecDepth 20000 in
theorem gX9_reaches_X9_baleAt : GoodIn wsX9_reaches (va_wsS RX9 111 yX9_baleAt wsX9_baleAt) := goodIn_app (goodIn_of _ (by decide +kernel)) ggX9_reaches_X9_baleAt
set_option maxRecDepth 20000 in
theorem ggX9_reaches_X9_contractAt : GoodIn wsX9_reaches wsX9_contractAt := goodIn_r _ [9] (by decide +kernel) (by decide +kernel)
set_option maxRecDepth 20000 in
theorem gX9_reaches_X9_contractAt : GoodIn wsX9_reaches (va_wsS RX9 165 yX9_contractAt wsX9_contractAt) := goodIn_app (goodIn_of _ (by decide +kernel)) ggX9_reaches_X9_contractAt
theorem dX9_reaches_0 : decode cX9_reaches 0 = .ok (.aload_n 0, 1) := by decide +kernel
theorem dX9_reaches_1 : decode cX9_reaches 1 = .ok (.iload_n 2, 1) := by decide +kernel
theorem dX9_reaches_2 : decode cX9_reaches 2 = .ok (.iload_n 1, 1) := by decide +kernel
theorem dX9_reaches_3 : decode cX9_reaches 3 = .ok (.invokevirtual 174, 3) := by decide +kernel
theorem dX9_reaches_6 : decode cX9_reaches 6 = .ok (.ifCond .eq 31, 3) := by decide +kernel
theorem dX9_reaches_9 : decode cX9_reaches 9 = .ok (.aload_n 0, 1) := by decide +kernel
theorem dX9_reaches_10 : decode cX9_reaches 10 = .ok (.getfield 7, 3) := by decide +kernel
theorem dX9_reaches_13 : decode cX9_reaches 13 = .ok (.iload_n 1, 1) := by decide +kernel
theorem dX9_reaches_14 : decode cX9_reaches 14 = .ok (.bipush 6, 2) := by decide +kernel
theorem dX9_reaches_16 : decode cX9_reaches 16 = .ok (.invokestatic 111, 3) := by decide +kernel
theorem dX9_reaches_19 : decode cX9_reaches 19 = .ok (.iaload, 1) := by decide +kernel
theorem dX9_reaches_20 : decode cX9_reaches 20 = .ok (.aload_n 0, 1) := by decide +kernel
theorem dX9_reaches_21 : decode cX9_reaches 21 = .ok (.getfield 7, 3) := by decide +kernel
theorem dX9_reaches_24 : decode cX9_reaches 24 = .ok (.iload_n 2, 1) := by decide +kernel
theorem dX9_reaches_25 : decode cX9_reaches 25 = .ok (.iconst 1, 1) := by decide +kernel
theorem dX9_reaches_26 : decode cX9_reaches 26 = .ok (.invokestatic 165, 3) := by decide +kernel
theorem dX9_reaches_29 : decode cX9_reaches 29 = .ok (.iaload, 1) := by decide +kernel
theorem dX9_reaches_30 : decode cX9_reaches 30 = .ok (.if_icmp .lt 7, 3) := by decide +kernel
theorem dX9_reaches_33 : decode cX9_reaches 33 = .ok (.iconst 1, 1) := by decide +kernel
theorem dX9_reaches_34 : decode cX9_reaches 34 = .ok (.goto 4, 3) := by decide +kernel
theorem dX9_reaches_37 : decode cX9_reaches 37 = .ok (.iconst 0, 1) := by decide +kernel
theorem dX9_reaches_38 : decode cX9_reaches 38 = .ok (.ireturn, 1) := by decide +kernel
set_option maxRecDepth 20000 in
theorem ggX9_suits_X9_reaches : GoodIn wsX9_suits wsX9_reaches := goodIn_ca (goodIn_r _ [6, 1, 7, 8, 9, 5, 10, 11, 12, 13, 14, 15, 16, 25, 26, 27, 28, 29, 30, 31, 32, 33, 34, 35, 36, 37, 38, 39, 40, 41, 42, 43, 44, 45, 46] (by decide +kernel) (by decide +kernel)) (goodIn_sub (fun _ h => List.mem_cons_of_mem _ (List.mem_append_right _ h)) (by decide +kernel))
set_option maxRecDepth 20000 in
theorem gX9_suits_X9_reaches : GoodIn wsX9_suits (wsV RX9 177 RX9 yX9_reaches wsX9_reaches) := goodIn_app (goodIn_of _ (by decide +kernel)) ggX9_suits_X9_reaches
set_option maxRecDepth 20000 in
theorem ggX9_suits_X9_contractAt : GoodIn wsX9_suits wsX9_contractAt := goodIn_r _ [13] (by decide +kernel) (by decide +kernel)
set_option maxRecDepth 20000 in
theorem gX9_suits_X9_contractAt : GoodIn wsX9_suits (va_wsS RX9 165 yX9_contractAt wsX9_contractAt) := goodIn_app (goodIn_of _ (by decide +kernel)) ggX9_suits_X9_contractAt
set_option maxRecDepth 20000 in
theorem ggX9_suits_X9_kilosOf : GoodIn wsX9_suits wsX9_kilosOf := goodIn_ca (goodIn_r _ [20, 14, 15, 5, 16, 21, 22, 23, 24, 1, 25, 26, 27, 28, 29, 30, 31, 32, 33, 34, 35, 36, 37, 38, 39, 40, 41, 42, 43, 44, 45, 46] (by decide +kernel) (by decide +kernel)) (goodIn_sub (fun _ h => List.mem_cons_of_mem _ (List.mem_append_right _ h)) (by decide +kernel))
set_option maxRecDepth 20000 in
theorem gX9_suits_X9_kilosOf : GoodIn wsX9_suits (wsV RX9 150 RX9 yX9_kilosOf wsX9_kilosOf) := goodIn_app (goodIn_of _ (by decide +kernel)) ggX9_suits_X9_kilosOf
theorem dX9_suits_0 : decode cX9_suits 0 = .ok (.aload_n 0, 1) := by decide +kernel
theorem dX9_suits_1 : decode cX9_suits 1 = .ok (.iload_n 1, 1) := by decide +kernel
theorem dX9_suits_2 : decode cX9_suits 2 = .ok (.iload_n 2, 1) := by decide +kernel
theorem dX9_suits_3 : decode cX9_suits 3 = .ok (.invokevirtual 177, 3) := by decide +kernel
theorem dX9_suits_6 : decode cX9_suits 6 = .ok (.ifCond .eq 25, 3) := by decide +kernel
theorem dX9_suits_9 : decode cX9_suits 9 = .ok (.aload_n 0, 1) := by decide +kernel
theorem dX9_suits_10 : decode cX9_suits 10 = .ok (.getfield 7, 3) := by decide +kernel
theorem dX9_suits_13 : decode cX9_suits 13 = .ok (.iload_n 2, 1) := by decide +kernel
theorem dX9_suits_14 : decode cX9_suits 14 = .ok (.iconst 2, 1) := by decide +kernel
theorem dX9_suits_15 : decode cX9_suits 15 = .ok (.invokestatic 165, 3) := by decide +kernel
theorem dX9_suits_18 : decode cX9_suits 18 = .ok (.iaload, 1) := by decide +kernel
theorem dX9_suits_19 : decode cX9_suits 19 = .ok (.aload_n 0, 1) := by decide +kernel
theorem dX9_suits_20 : decode cX9_suits 20 = .ok (.iload_n 1, 1) := by decide +kernel
theorem dX9_suits_21 : decode cX9_suits 21 = .ok (.invokevirtual 150, 3) := by decide +kernel
theorem dX9_suits_24 : decode cX9_suits 24 = .ok (.if_icmp .lt 7, 3) := by decide +kernel
theorem dX9_suits_27 : decode cX9_suits 27 = .ok (.iconst 1, 1) := by decide +kernel
theorem dX9_suits_28 : decode cX9_suits 28 = .ok (.goto 4, 3) := by decide +kernel
theorem dX9_suits_31 : decode cX9_suits 31 = .ok (.iconst 0, 1) := by decide +kernel
theorem dX9_suits_32 : decode cX9_suits 32 = .ok (.ireturn, 1) := by decide +kernel
set_option maxRecDepth 20000 in
theorem ggX9_isBetter_X9_contractAt : GoodIn wsX9_isBetter wsX9_contractAt := goodIn_r _ [5] (by decide +kernel) (by decide +kernel)
set_option maxRecDepth 20000 in
theorem gX9_isBetter_X9_contractAt : GoodIn wsX9_isBetter (va_wsS RX9 165 yX9_contractAt wsX9_contractAt) := goodIn_app (goodIn_of _ (by decide +kernel)) ggX9_isBetter_X9_contractAt
theorem dX9_isBetter_0 : decode cX9_isBetter 0 = .ok (.aload_n 0, 1) := by decide +kernel
theorem dX9_isBetter_1 : decode cX9_isBetter 1 = .ok (.getfield 7, 3) := by decide +kernel
theorem dX9_isBetter_4 : decode cX9_isBetter 4 = .ok (.iload_n 1, 1) := by decide +kernel
theorem dX9_isBetter_5 : decode cX9_isBetter 5 = .ok (.iconst 3, 1) := by decide +kernel
theorem dX9_isBetter_6 : decode cX9_isBetter 6 = .ok (.invokestatic 165, 3) := by decide +kernel
theorem dX9_isBetter_9 : decode cX9_isBetter 9 = .ok (.iaload, 1) := by decide +kernel
theorem dX9_isBetter_10 : decode cX9_isBetter 10 = .ok (.aload_n 0, 1) := by decide +kernel
theorem dX9_isBetter_11 : decode cX9_isBetter 11 = .ok (.getfield 7, 3) := by decide +kernel
theorem dX9_isBetter_14 : decode cX9_isBetter 14 = .ok (.iload_n 2, 1) := by decide +kernel
theorem dX9_isBetter_15 : decode cX9_isBetter 15 = .ok (.iconst 3, 1) := by decide +kernel
theorem dX9_isBetter_16 : decode cX9_isBetter 16 = .ok (.invokestatic 165, 3) := by decide +kernel
theorem dX9_isBetter_19 : decode cX9_isBetter 19 = .ok (.iaload, 1) := by decide +kernel
theorem dX9_isBetter_20 : decode cX9_isBetter 20 = .ok (.if_icmp .eq 34, 3) := by decide +kernel
theorem dX9_isBetter_23 : decode cX9_isBetter 23 = .ok (.aload_n 0, 1) := by decide +kernel
theorem dX9_isBetter_24 : decode cX9_isBetter 24 = .ok (.getfield 7, 3) := by decide +kernel
theorem dX9_isBetter_27 : decode cX9_isBetter 27 = .ok (.iload_n 1, 1) := by decide +kernel
theorem dX9_isBetter_28 : decode cX9_isBetter 28 = .ok (.iconst 3, 1) := by decide +kernel
theorem dX9_isBetter_29 : decode cX9_isBetter 29 = .ok (.invokestatic 165, 3) := by decide +kernel
theorem dX9_isBetter_32 : decode cX9_isBetter 32 = .ok (.iaload, 1) := by decide +kernel
theorem dX9_isBetter_33 : decode cX9_isBetter 33 = .ok (.aload_n 0, 1) := by decide +kernel
theorem dX9_isBetter_34 : decode cX9_isBetter 34 = .ok (.getfield 7, 3) := by decide +kernel
theorem dX9_isBetter_37 : decode cX9_isBetter 37 = .ok (.iload_n 2, 1) := by decide +kernel
theorem dX9_isBetter_38 : decode cX9_isBetter 38 = .ok (.iconst 3, 1) := by decide +kernel
theorem dX9_isBetter_39 : decode cX9_isBetter 39 = .ok (.invokestatic 165, 3) := by decide +kernel
theorem dX9_isBetter_42 : decode cX9_isBetter 42 = .ok (.iaload, 1) := by decide +kernel
theorem dX9_isBetter_43 : decode cX9_isBetter 43 = .ok (.if_icmp .le 7, 3) := by decide +kernel
theorem dX9_isBetter_46 : decode cX9_isBetter 46 = .ok (.iconst 1, 1) := by decide +kernel
theorem dX9_isBetter_47 : decode cX9_isBetter 47 = .ok (.goto 35, 3) := by decide +kernel
theorem dX9_isBetter_50 : decode cX9_isBetter 50 = .ok (.iconst 0, 1) := by decide +kernel
theorem dX9_isBetter_51 : decode cX9_isBetter 51 = .ok (.goto 31, 3) := by decide +kernel
theorem dX9_isBetter_54 : decode cX9_isBetter 54 = .ok (.aload_n 0, 1) := by decide +kernel
theorem dX9_isBetter_55 : decode cX9_isBetter 55 = .ok (.getfield 7, 3) := by decide +kernel
theorem dX9_isBetter_58 : decode cX9_isBetter 58 = .ok (.iload_n 1, 1) := by decide +kernel
theorem dX9_isBetter_59 : decode cX9_isBetter 59 = .ok (.iconst 1, 1) := by decide +kernel
theorem dX9_isBetter_60 : decode cX9_isBetter 60 = .ok (.invokestatic 165, 3) := by decide +kernel
theorem dX9_isBetter_63 : decode cX9_isBetter 63 = .ok (.iaload, 1) := by decide +kernel
theorem dX9_isBetter_64 : decode cX9_isBetter 64 = .ok (.aload_n 0, 1) := by decide +kernel
theorem dX9_isBetter_65 : decode cX9_isBetter 65 = .ok (.getfield 7, 3) := by decide +kernel
theorem dX9_isBetter_68 : decode cX9_isBetter 68 = .ok (.iload_n 2, 1) := by decide +kernel
theorem dX9_isBetter_69 : decode cX9_isBetter 69 = .ok (.iconst 1, 1) := by decide +kernel
theorem dX9_isBetter_70 : decode cX9_isBetter 70 = .ok (.invokestatic 165, 3) := by decide +kernel
theorem dX9_isBetter_73 : decode cX9_isBetter 73 = .ok (.iaload, 1) := by decide +kernel
theorem dX9_isBetter_74 : decode cX9_isBetter 74 = .ok (.if_icmp .le 7, 3) := by decide +kernel
theorem dX9_isBetter_77 : decode cX9_isBetter 77 = .ok (.iconst 1, 1) := by decide +kernel
theorem dX9_isBetter_78 : decode cX9_isBetter 78 = .ok (.goto 4, 3) := by decide +kernel
theorem dX9_isBetter_81 : decode cX9_isBetter 81 = .ok (.iconst 0, 1) := by decide +kernel
theorem dX9_isBetter_82 : decode cX9_isBetter 82 = .ok (.ireturn, 1) := by decide +kernel
set_option maxRecDepth 20000 in
theorem ggX9_bestFor_X9_suits : GoodIn wsX9_bestFor wsX9_suits := goodIn_ca (goodIn_r _ [6, 1, 7, 8, 9, 5, 10, 11, 12, 13, 14, 15, 16, 17, 18, 19, 20, 21, 22, 23, 24, 25, 26, 27, 28, 33, 34, 35, 36, 37, 38, 39, 40, 41, 42, 43, 44, 45, 46, 47, 48, 49, 50, 51, 52, 53, 54] (by decide +kernel) (by decide +kernel)) (goodIn_sub (fun _ h => List.mem_cons_of_mem _ (List.mem_append_right _ h)) (by decide +kernel))
set_option maxRecDepth 20000 in
theorem gX9_bestFor_X9_suits : GoodIn wsX9_bestFor (wsV RX9 180 RX9 yX9_suits wsX9_suits) := goodIn_app (goodIn_of _ (by decide +kernel)) ggX9_bestFor_X9_suits
set_option maxRecDepth 20000 in
theorem ggX9_bestFor_X9_isBetter : GoodIn wsX9_bestFor wsX9_isBetter := goodIn_ca (goodIn_r _ [32, 1, 15, 16, 5, 17, 33, 34, 35, 36, 37, 38, 39, 40, 41, 42, 43, 44, 45, 46, 47, 48, 49, 50, 51, 52, 53, 54] (by decide +kernel) (by decide +kernel)) (goodIn_sub (fun _ h => List.mem_cons_of_mem _ (List.mem_append_right _ h)) (by decide +kernel))
set_option maxRecDepth 20000 in
theorem gX9_bestFor_X9_isBetter : GoodIn wsX9_bestFor (wsV RX9 183 RX9 yX9_isBetter wsX9_isBetter) := goodIn_app (goodIn_of _ (by decide +kernel)) ggX9_bestFor_X9_isBetter
theorem dX9_bestFor_0 : decode cX9_bestFor 0 = .ok (.iconst (-1), 1) := by decide +kernel
theorem dX9_bestFor_1 : decode cX9_bestFor 1 = .ok (.istore_n 2, 1) := by decide +kernel
theorem dX9_bestFor_2 : decode cX9_bestFor 2 = .ok (.iconst 0, 1) := by decide +kernel
theorem dX9_bestFor_3 : decode cX9_bestFor 3 = .ok (.istore_n 3, 1) := by decide +kernel
theorem dX9_bestFor_4 : decode cX9_bestFor 4 = .ok (.iload_n 3, 1) := by decide +kernel
theorem dX9_bestFor_5 : decode cX9_bestFor 5 = .ok (.aload_n 0, 1) := by decide +kernel
theorem dX9_bestFor_6 : decode cX9_bestFor 6 = .ok (.getfield 7, 3) := by decide +kernel
theorem dX9_bestFor_9 : decode cX9_bestFor 9 = .ok (.iconst 3, 1) := by decide +kernel
theorem dX9_bestFor_10 : decode cX9_bestFor 10 = .ok (.iaload, 1) := by decide +kernel
theorem dX9_bestFor_11 : decode cX9_bestFor 11 = .ok (.if_icmp .ge 37, 3) := by decide +kernel
theorem dX9_bestFor_14 : decode cX9_bestFor 14 = .ok (.aload_n 0, 1) := by decide +kernel
theorem dX9_bestFor_15 : decode cX9_bestFor 15 = .ok (.iload_n 1, 1) := by decide +kernel
theorem dX9_bestFor_16 : decode cX9_bestFor 16 = .ok (.iload_n 3, 1) := by decide +kernel
theorem dX9_bestFor_17 : decode cX9_bestFor 17 = .ok (.invokevirtual 180, 3) := by decide +kernel
theorem dX9_bestFor_20 : decode cX9_bestFor 20 = .ok (.ifCond .eq 20, 3) := by decide +kernel
theorem dX9_bestFor_23 : decode cX9_bestFor 23 = .ok (.iload_n 2, 1) := by decide +kernel
theorem dX9_bestFor_24 : decode cX9_bestFor 24 = .ok (.ifCond .lt 12, 3) := by decide +kernel
theorem dX9_bestFor_27 : decode cX9_bestFor 27 = .ok (.aload_n 0, 1) := by decide +kernel
theorem dX9_bestFor_28 : decode cX9_bestFor 28 = .ok (.iload_n 3, 1) := by decide +kernel
theorem dX9_bestFor_29 : decode cX9_bestFor 29 = .ok (.iload_n 2, 1) := by decide +kernel
theorem dX9_bestFor_30 : decode cX9_bestFor 30 = .ok (.invokevirtual 183, 3) := by decide +kernel
theorem dX9_bestFor_33 : decode cX9_bestFor 33 = .ok (.ifCond .eq 7, 3) := by decide +kernel
theorem dX9_bestFor_36 : decode cX9_bestFor 36 = .ok (.iload_n 3, 1) := by decide +kernel
theorem dX9_bestFor_37 : decode cX9_bestFor 37 = .ok (.goto 4, 3) := by decide +kernel
theorem dX9_bestFor_40 : decode cX9_bestFor 40 = .ok (.iload_n 2, 1) := by decide +kernel
theorem dX9_bestFor_41 : decode cX9_bestFor 41 = .ok (.istore_n 2, 1) := by decide +kernel
theorem dX9_bestFor_42 : decode cX9_bestFor 42 = .ok (.iinc 3 1, 3) := by decide +kernel
theorem dX9_bestFor_45 : decode cX9_bestFor 45 = .ok (.goto (-41), 3) := by decide +kernel
theorem dX9_bestFor_48 : decode cX9_bestFor 48 = .ok (.iload_n 2, 1) := by decide +kernel
theorem dX9_bestFor_49 : decode cX9_bestFor 49 = .ok (.ireturn, 1) := by decide +kernel
theorem dX9_refuses_0 : decode cX9_refuses 0 = .ok (.aload_n 0, 1) := by decide +kernel
theorem dX9_refuses_1 : decode cX9_refuses 1 = .ok (.iload_n 2, 1) := by decide +kernel
theorem dX9_refuses_2 : decode cX9_refuses 2 = .ok (.putfield 186, 3) := by decide +kernel
theorem dX9_refuses_5 : decode cX9_refuses 5 = .ok (.iload_n 1, 1) := by decide +kernel
theorem dX9_refuses_6 : decode cX9_refuses 6 = .ok (.ireturn, 1) := by decide +kernel
set_option maxRecDepth 20000 in
theorem ggX9_against_X9_baleAt : GoodIn wsX9_against wsX9_baleAt := goodIn_r _ [5] (by decide +kernel) (by decide +kernel)
set_option maxRecDepth 20000 in
theorem gX9_against_X9_baleAt : GoodIn wsX9_against (va_wsS RX9 111 yX9_baleAt wsX9_baleAt) := goodIn_app (goodIn_of _ (by decide +kernel)) ggX9_against_X9_baleAt
set_option maxRecDepth 20000 in
theorem ggX9_against_X9_refuses : GoodIn wsX9_against wsX9_refuses := goodIn_r _ [9, 10, 42, 43, 44, 45, 46, 47, 48, 49, 50, 51, 52, 53, 54, 55, 56, 57, 58, 59, 60, 61, 62, 63] (by decide +kernel) (by decide +kernel)
set_option maxRecDepth 20000 in
theorem gX9_against_X9_refuses : GoodIn wsX9_against (wsV RX9 189 RX9 yX9_refuses wsX9_refuses) := goodIn_app (goodIn_of _ (by decide +kernel)) ggX9_against_X9_refuses
set_option maxRecDepth 20000 in
theorem ggX9_against_X9_isFor : GoodIn wsX9_against wsX9_isFor := goodIn_ca (goodIn_r _ [14, 1, 15, 16, 4, 17, 2, 3, 5, 42, 43, 44, 45, 46, 47, 48, 49, 50, 51, 52, 53, 54, 55, 56, 57, 58, 59, 60, 61, 62, 63] (by decide +kernel) (by decide +kernel)) (goodIn_sub (fun _ h => List.mem_cons_of_mem _ (List.mem_append_right _ h)) (by decide +kernel))
set_option maxRecDepth 20000 in
theorem gX9_against_X9_isFor : GoodIn wsX9_against (wsV RX9 174 RX9 yX9_isFor wsX9_isFor) := goodIn_app (goodIn_of _ (by decide +kernel)) ggX9_against_X9_isFor
set_option maxRecDepth 20000 in
theorem ggX9_against_X9_contractAt : GoodIn wsX9_against wsX9_contractAt := goodIn_r _ [17] (by decide +kernel) (by decide +kernel)
set_option maxRecDepth 20000 in
theorem gX9_against_X9_contractAt : GoodIn wsX9_against (va_wsS RX9 165 yX9_contractAt wsX9_contractAt) := goodIn_app (goodIn_of _ (by decide +kernel)) ggX9_against_X9_contractAt
set_option maxRecDepth 20000 in
theorem ggX9_against_X9_reaches : GoodIn wsX9_against wsX9_reaches := goodIn_ca (goodIn_r _ [21, 1, 11, 12, 13, 4, 14, 15, 16, 17, 2, 3, 5, 42, 43, 44, 45, 46, 47, 48, 49, 50, 51, 52, 53, 54, 55, 56, 57, 58, 59, 60, 61, 62, 63] (by decide +kernel) (by decide +kernel)) (goodIn_sub (fun _ h => List.mem_cons_of_mem _ (List.mem_append_right _ h)) (by decide +kernel))
set_option maxRecDepth 20000 in
theorem gX9_against_X9_reaches : GoodIn wsX9_against (wsV RX9 177 RX9 yX9_reaches wsX9_reaches) := goodIn_app (goodIn_of _ (by decide +kernel)) ggX9_against_X9_reaches
set_option maxRecDepth 20000 in
theorem ggX9_against_X9_bestFor : GoodIn wsX9_against wsX9_bestFor := goodIn_ca (goodIn_r _ [25, 1, 26, 27, 28, 4, 29, 18, 19, 20, 21, 11, 12, 13, 14, 15, 16, 17, 2, 3, 5, 30, 31, 32, 33, 34, 35, 36, 37, 38, 39, 40, 41, 42, 43, 44, 45, 46, 47, 48, 49, 50, 51, 52, 53, 54, 55, 56, 57, 58, 59, 60, 61, 62, 63] (by decide +kernel) (by decide +kernel)) (goodIn_sub (fun _ h => List.mem_cons_of_mem _ (List.mem_append_right _ h)) (by decide +kernel))
set_option maxRecDepth 20000 in
theorem gX9_against_X9_bestFor : GoodIn wsX9_against (wsV RX9 192 RX9 yX9_bestFor wsX9_bestFor) := goodIn_app (goodIn_of _ (by decide +kernel)) ggX9_against_X9_bestFor
theorem dX9_against_0 : decode cX9_against 0 = .ok (.aload_n 0, 1) := by decide +kernel
theorem dX9_against_1 : decode cX9_against 1 = .ok (.getfield 7, 3) := by decide +kernel
theorem dX9_against_4 : decode cX9_against 4 = .ok (.iload_n 1, 1) := by decide +kernel
theorem dX9_against_5 : decode cX9_against 5 = .ok (.bipush 7, 2) := by decide +kernel
theorem dX9_against_7 : decode cX9_against 7 = .ok (.invokestatic 111, 3) := by decide +kernel
theorem dX9_against_10 : decode cX9_against 10 = .ok (.iaload, 1) := by decide +kernel
theorem dX9_against_11 : decode cX9_against 11 = .ok (.ifCond .eq 20, 3) := by decide +kernel
theorem dX9_against_14 : decode cX9_against 14 = .ok (.aload_n 0, 1) := by decide +kernel
theorem dX9_against_15 : decode cX9_against 15 = .ok (.iconst 1, 1) := by decide +kernel
theorem dX9_against_16 : decode cX9_against 16 = .ok (.aload_n 0, 1) := by decide +kernel
theorem dX9_against_17 : decode cX9_against 17 = .ok (.getfield 7, 3) := by decide +kernel
theorem dX9_against_20 : decode cX9_against 20 = .ok (.iload_n 1, 1) := by decide +kernel
theorem dX9_against_21 : decode cX9_against 21 = .ok (.bipush 7, 2) := by decide +kernel
theorem dX9_against_23 : decode cX9_against 23 = .ok (.invokestatic 111, 3) := by decide +kernel
theorem dX9_against_26 : decode cX9_against 26 = .ok (.iaload, 1) := by decide +kernel
theorem dX9_against_27 : decode cX9_against 27 = .ok (.invokevirtual 189, 3) := by decide +kernel
theorem dX9_against_30 : decode cX9_against 30 = .ok (.ireturn, 1) := by decide +kernel
theorem dX9_against_31 : decode cX9_against 31 = .ok (.iconst 0, 1) := by decide +kernel
theorem dX9_against_32 : decode cX9_against 32 = .ok (.istore_n 2, 1) := by decide +kernel
theorem dX9_against_33 : decode cX9_against 33 = .ok (.sipush 1001, 3) := by decide +kernel
theorem dX9_against_36 : decode cX9_against 36 = .ok (.istore_n 3, 1) := by decide +kernel
theorem dX9_against_37 : decode cX9_against 37 = .ok (.iconst (-1), 1) := by decide +kernel
theorem dX9_against_38 : decode cX9_against 38 = .ok (.istore 4, 2) := by decide +kernel
theorem dX9_against_40 : decode cX9_against 40 = .ok (.iconst 0, 1) := by decide +kernel
theorem dX9_against_41 : decode cX9_against 41 = .ok (.istore 5, 2) := by decide +kernel
theorem dX9_against_43 : decode cX9_against 43 = .ok (.iload 5, 2) := by decide +kernel
theorem dX9_against_45 : decode cX9_against 45 = .ok (.aload_n 0, 1) := by decide +kernel
theorem dX9_against_46 : decode cX9_against 46 = .ok (.getfield 7, 3) := by decide +kernel
theorem dX9_against_49 : decode cX9_against 49 = .ok (.iconst 3, 1) := by decide +kernel
theorem dX9_against_50 : decode cX9_against 50 = .ok (.iaload, 1) := by decide +kernel
theorem dX9_against_51 : decode cX9_against 51 = .ok (.if_icmp .ge 97, 3) := by decide +kernel
theorem dX9_against_54 : decode cX9_against 54 = .ok (.aload_n 0, 1) := by decide +kernel
theorem dX9_against_55 : decode cX9_against 55 = .ok (.iload 5, 2) := by decide +kernel
theorem dX9_against_57 : decode cX9_against 57 = .ok (.iload_n 1, 1) := by decide +kernel
theorem dX9_against_58 : decode cX9_against 58 = .ok (.invokevirtual 174, 3) := by decide +kernel
theorem dX9_against_61 : decode cX9_against 61 = .ok (.ifCond .eq 81, 3) := by decide +kernel
theorem dX9_against_64 : decode cX9_against 64 = .ok (.iinc 2 1, 3) := by decide +kernel
theorem dX9_against_67 : decode cX9_against 67 = .ok (.aload_n 0, 1) := by decide +kernel
theorem dX9_against_68 : decode cX9_against 68 = .ok (.getfield 7, 3) := by decide +kernel
theorem dX9_against_71 : decode cX9_against 71 = .ok (.iload 5, 2) := by decide +kernel
theorem dX9_against_73 : decode cX9_against 73 = .ok (.iconst 1, 1) := by decide +kernel
theorem dX9_against_74 : decode cX9_against 74 = .ok (.invokestatic 165, 3) := by decide +kernel
theorem dX9_against_77 : decode cX9_against 77 = .ok (.iaload, 1) := by decide +kernel
theorem dX9_against_78 : decode cX9_against 78 = .ok (.iload_n 3, 1) := by decide +kernel
theorem dX9_against_79 : decode cX9_against 79 = .ok (.if_icmp .ge 17, 3) := by decide +kernel
theorem dX9_against_82 : decode cX9_against 82 = .ok (.aload_n 0, 1) := by decide +kernel
theorem dX9_against_83 : decode cX9_against 83 = .ok (.getfield 7, 3) := by decide +kernel
theorem dX9_against_86 : decode cX9_against 86 = .ok (.iload 5, 2) := by decide +kernel
theorem dX9_against_88 : decode cX9_against 88 = .ok (.iconst 1, 1) := by decide +kernel
theorem dX9_against_89 : decode cX9_against 89 = .ok (.invokestatic 165, 3) := by decide +kernel
theorem dX9_against_92 : decode cX9_against 92 = .ok (.iaload, 1) := by decide +kernel
theorem dX9_against_93 : decode cX9_against 93 = .ok (.goto 4, 3) := by decide +kernel
theorem dX9_against_96 : decode cX9_against 96 = .ok (.iload_n 3, 1) := by decide +kernel
theorem dX9_against_97 : decode cX9_against 97 = .ok (.istore_n 3, 1) := by decide +kernel
theorem dX9_against_98 : decode cX9_against 98 = .ok (.aload_n 0, 1) := by decide +kernel
theorem dX9_against_99 : decode cX9_against 99 = .ok (.iload_n 1, 1) := by decide +kernel
theorem dX9_against_100 : decode cX9_against 100 = .ok (.iload 5, 2) := by decide +kernel
theorem dX9_against_102 : decode cX9_against 102 = .ok (.invokevirtual 177, 3) := by decide +kernel
theorem dX9_against_105 : decode cX9_against 105 = .ok (.ifCond .eq 33, 3) := by decide +kernel
theorem dX9_against_108 : decode cX9_against 108 = .ok (.aload_n 0, 1) := by decide +kernel
theorem dX9_against_109 : decode cX9_against 109 = .ok (.getfield 7, 3) := by decide +kernel
theorem dX9_against_112 : decode cX9_against 112 = .ok (.iload 5, 2) := by decide +kernel
theorem dX9_against_114 : decode cX9_against 114 = .ok (.iconst 2, 1) := by decide +kernel
theorem dX9_against_115 : decode cX9_against 115 = .ok (.invokestatic 165, 3) := by decide +kernel
theorem dX9_against_118 : decode cX9_against 118 = .ok (.iaload, 1) := by decide +kernel
theorem dX9_against_119 : decode cX9_against 119 = .ok (.iload 4, 2) := by decide +kernel
theorem dX9_against_121 : decode cX9_against 121 = .ok (.if_icmp .le 17, 3) := by decide +kernel
theorem dX9_against_124 : decode cX9_against 124 = .ok (.aload_n 0, 1) := by decide +kernel
theorem dX9_against_125 : decode cX9_against 125 = .ok (.getfield 7, 3) := by decide +kernel
theorem dX9_against_128 : decode cX9_against 128 = .ok (.iload 5, 2) := by decide +kernel
theorem dX9_against_130 : decode cX9_against 130 = .ok (.iconst 2, 1) := by decide +kernel
theorem dX9_against_131 : decode cX9_against 131 = .ok (.invokestatic 165, 3) := by decide +kernel
theorem dX9_against_134 : decode cX9_against 134 = .ok (.iaload, 1) := by decide +kernel
theorem dX9_against_135 : decode cX9_against 135 = .ok (.goto 5, 3) := by decide +kernel
theorem dX9_against_138 : decode cX9_against 138 = .ok (.iload 4, 2) := by decide +kernel
theorem dX9_against_140 : decode cX9_against 140 = .ok (.istore 4, 2) := by decide +kernel
theorem dX9_against_142 : decode cX9_against 142 = .ok (.iinc 5 1, 3) := by decide +kernel
theorem dX9_against_145 : decode cX9_against 145 = .ok (.goto (-102), 3) := by decide +kernel
theorem dX9_against_148 : decode cX9_against 148 = .ok (.iload_n 2, 1) := by decide +kernel
theorem dX9_against_149 : decode cX9_against 149 = .ok (.ifCond .ne 19, 3) := by decide +kernel
theorem dX9_against_152 : decode cX9_against 152 = .ok (.aload_n 0, 1) := by decide +kernel
theorem dX9_against_153 : decode cX9_against 153 = .ok (.iconst 2, 1) := by decide +kernel
theorem dX9_against_154 : decode cX9_against 154 = .ok (.aload_n 0, 1) := by decide +kernel
theorem dX9_against_155 : decode cX9_against 155 = .ok (.getfield 7, 3) := by decide +kernel
theorem dX9_against_158 : decode cX9_against 158 = .ok (.iload_n 1, 1) := by decide +kernel
theorem dX9_against_159 : decode cX9_against 159 = .ok (.iconst 5, 1) := by decide +kernel
theorem dX9_against_160 : decode cX9_against 160 = .ok (.invokestatic 111, 3) := by decide +kernel
theorem dX9_against_163 : decode cX9_against 163 = .ok (.iaload, 1) := by decide +kernel
theorem dX9_against_164 : decode cX9_against 164 = .ok (.invokevirtual 189, 3) := by decide +kernel
theorem dX9_against_167 : decode cX9_against 167 = .ok (.ireturn, 1) := by decide +kernel
theorem dX9_against_168 : decode cX9_against 168 = .ok (.iload 4, 2) := by decide +kernel
theorem dX9_against_170 : decode cX9_against 170 = .ok (.ifCond .ge 10, 3) := by decide +kernel
theorem dX9_against_173 : decode cX9_against 173 = .ok (.aload_n 0, 1) := by decide +kernel
theorem dX9_against_174 : decode cX9_against 174 = .ok (.iconst 3, 1) := by decide +kernel
theorem dX9_against_175 : decode cX9_against 175 = .ok (.iload_n 3, 1) := by decide +kernel
theorem dX9_against_176 : decode cX9_against 176 = .ok (.invokevirtual 189, 3) := by decide +kernel
theorem dX9_against_179 : decode cX9_against 179 = .ok (.ireturn, 1) := by decide +kernel
theorem dX9_against_180 : decode cX9_against 180 = .ok (.aload_n 0, 1) := by decide +kernel
theorem dX9_against_181 : decode cX9_against 181 = .ok (.iload_n 1, 1) := by decide +kernel
theorem dX9_against_182 : decode cX9_against 182 = .ok (.invokevirtual 192, 3) := by decide +kernel
theorem dX9_against_185 : decode cX9_against 185 = .ok (.ifCond .ge 13, 3) := by decide +kernel
theorem dX9_against_188 : decode cX9_against 188 = .ok (.aload_n 0, 1) := by decide +kernel
theorem dX9_against_189 : decode cX9_against 189 = .ok (.iconst 4, 1) := by decide +kernel
theorem dX9_against_190 : decode cX9_against 190 = .ok (.iload 4, 2) := by decide +kernel
theorem dX9_against_192 : decode cX9_against 192 = .ok (.invokevirtual 189, 3) := by decide +kernel
theorem dX9_against_195 : decode cX9_against 195 = .ok (.goto 4, 3) := by decide +kernel
theorem dX9_against_198 : decode cX9_against 198 = .ok (.iconst 0, 1) := by decide +kernel
theorem dX9_against_199 : decode cX9_against 199 = .ok (.ireturn, 1) := by decide +kernel
set_option maxRecDepth 20000 in
theorem ggX9_sells_X9_bestFor : GoodIn wsX9_sells wsX9_bestFor := goodIn_ca (goodIn_r _ [6, 1, 7, 8, 9, 5, 10, 11, 12, 13, 14, 15, 16, 17, 18, 19, 20, 21, 22, 23, 24, 25, 26, 27, 28, 29, 30, 31, 32, 33, 34, 35, 36, 37, 38, 39, 40, 41, 42, 43, 44, 45, 46, 47, 48, 49, 50, 51, 52, 53, 54, 55, 56, 57, 58] (by decide +kernel) (by decide +kernel)) (goodIn_sub (fun _ h => List.mem_cons_of_mem _ (List.mem_append_right _ h)) (by decide +kernel))
set_option maxRecDepth 20000 in
theorem gX9_sells_X9_bestFor : GoodIn wsX9_sells (wsV RX9 192 RX9 yX9_bestFor wsX9_bestFor) := goodIn_app (goodIn_of _ (by decide +kernel)) ggX9_sells_X9_bestFor
set_option maxRecDepth 20000 in
theorem ggX9_sells_X9_kilosOf : GoodIn wsX9_sells wsX9_kilosOf := goodIn_ca (goodIn_r _ [28, 22, 23, 5, 24, 29, 30, 31, 32, 1, 37, 38, 39, 40, 41, 42, 43, 44, 45, 46, 47, 48, 49, 50, 51, 52, 53, 54, 55, 56, 57, 58] (by decide +kernel) (by decide +kernel)) (goodIn_sub (fun _ h => List.mem_cons_of_mem _ (List.mem_append_right _ h)) (by decide +kernel))
set_option maxRecDepth 20000 in
theorem gX9_sells_X9_kilosOf : GoodIn wsX9_sells (wsV RX9 150 RX9 yX9_kilosOf wsX9_kilosOf) := goodIn_app (goodIn_of _ (by decide +kernel)) ggX9_sells_X9_kilosOf
set_option maxRecDepth 20000 in
theorem ggX9_sells_X9_contractAt : GoodIn wsX9_sells wsX9_contractAt := goodIn_r _ [21] (by decide +kernel) (by decide +kernel)
set_option maxRecDepth 20000 in
theorem gX9_sells_X9_contractAt : GoodIn wsX9_sells (va_wsS RX9 165 yX9_contractAt wsX9_contractAt) := goodIn_app (goodIn_of _ (by decide +kernel)) ggX9_sells_X9_contractAt
set_option maxRecDepth 20000 in
theorem ggX9_sells_X9_baleAt : GoodIn wsX9_sells wsX9_baleAt := goodIn_r _ [24] (by decide +kernel) (by decide +kernel)
set_option maxRecDepth 20000 in
theorem gX9_sells_X9_baleAt : GoodIn wsX9_sells (va_wsS RX9 111 yX9_baleAt wsX9_baleAt) := goodIn_app (goodIn_of _ (by decide +kernel)) ggX9_sells_X9_baleAt
theorem dX9_sells_0 : decode cX9_sells 0 = .ok (.aload_n 0, 1) := by decide +kernel
theorem dX9_sells_1 : decode cX9_sells 1 = .ok (.iload_n 1, 1) := by decide +kernel
theorem dX9_sells_2 : decode cX9_sells 2 = .ok (.invokevirtual 192, 3) := by decide +kernel
theorem dX9_sells_5 : decode cX9_sells 5 = .ok (.istore_n 2, 1) := by decide +kernel
theorem dX9_sells_6 : decode cX9_sells 6 = .ok (.aload_n 0, 1) := by decide +kernel
theorem dX9_sells_7 : decode cX9_sells 7 = .ok (.iload_n 1, 1) := by decide +kernel
theorem dX9_sells_8 : decode cX9_sells 8 = .ok (.invokevirtual 150, 3) := by decide +kernel
theorem dX9_sells_11 : decode cX9_sells 11 = .ok (.istore_n 3, 1) := by decide +kernel
theorem dX9_sells_12 : decode cX9_sells 12 = .ok (.aload_n 0, 1) := by decide +kernel
theorem dX9_sells_13 : decode cX9_sells 13 = .ok (.getfield 7, 3) := by decide +kernel
theorem dX9_sells_16 : decode cX9_sells 16 = .ok (.iload_n 2, 1) := by decide +kernel
theorem dX9_sells_17 : decode cX9_sells 17 = .ok (.iconst 2, 1) := by decide +kernel
theorem dX9_sells_18 : decode cX9_sells 18 = .ok (.invokestatic 165, 3) := by decide +kernel
theorem dX9_sells_21 : decode cX9_sells 21 = .ok (.dup2, 1) := by decide +kernel
theorem dX9_sells_22 : decode cX9_sells 22 = .ok (.iaload, 1) := by decide +kernel
theorem dX9_sells_23 : decode cX9_sells 23 = .ok (.iload_n 3, 1) := by decide +kernel
theorem dX9_sells_24 : decode cX9_sells 24 = .ok (.isub, 1) := by decide +kernel
theorem dX9_sells_25 : decode cX9_sells 25 = .ok (.iastore, 1) := by decide +kernel
theorem dX9_sells_26 : decode cX9_sells 26 = .ok (.aload_n 0, 1) := by decide +kernel
theorem dX9_sells_27 : decode cX9_sells 27 = .ok (.getfield 7, 3) := by decide +kernel
theorem dX9_sells_30 : decode cX9_sells 30 = .ok (.iload_n 2, 1) := by decide +kernel
theorem dX9_sells_31 : decode cX9_sells 31 = .ok (.iconst 4, 1) := by decide +kernel
theorem dX9_sells_32 : decode cX9_sells 32 = .ok (.invokestatic 165, 3) := by decide +kernel
theorem dX9_sells_35 : decode cX9_sells 35 = .ok (.dup2, 1) := by decide +kernel
theorem dX9_sells_36 : decode cX9_sells 36 = .ok (.iaload, 1) := by decide +kernel
theorem dX9_sells_37 : decode cX9_sells 37 = .ok (.iconst 1, 1) := by decide +kernel
theorem dX9_sells_38 : decode cX9_sells 38 = .ok (.iadd, 1) := by decide +kernel
theorem dX9_sells_39 : decode cX9_sells 39 = .ok (.iastore, 1) := by decide +kernel
theorem dX9_sells_40 : decode cX9_sells 40 = .ok (.aload_n 0, 1) := by decide +kernel
theorem dX9_sells_41 : decode cX9_sells 41 = .ok (.getfield 7, 3) := by decide +kernel
theorem dX9_sells_44 : decode cX9_sells 44 = .ok (.iconst 5, 1) := by decide +kernel
theorem dX9_sells_45 : decode cX9_sells 45 = .ok (.dup2, 1) := by decide +kernel
theorem dX9_sells_46 : decode cX9_sells 46 = .ok (.iaload, 1) := by decide +kernel
theorem dX9_sells_47 : decode cX9_sells 47 = .ok (.iload_n 3, 1) := by decide +kernel
theorem dX9_sells_48 : decode cX9_sells 48 = .ok (.aload_n 0, 1) := by decide +kernel
theorem dX9_sells_49 : decode cX9_sells 49 = .ok (.getfield 7, 3) := by decide +kernel
theorem dX9_sells_52 : decode cX9_sells 52 = .ok (.iload_n 2, 1) := by decide +kernel
theorem dX9_sells_53 : decode cX9_sells 53 = .ok (.iconst 3, 1) := by decide +kernel
theorem dX9_sells_54 : decode cX9_sells 54 = .ok (.invokestatic 165, 3) := by decide +kernel
theorem dX9_sells_57 : decode cX9_sells 57 = .ok (.iaload, 1) := by decide +kernel
theorem dX9_sells_58 : decode cX9_sells 58 = .ok (.imul, 1) := by decide +kernel
theorem dX9_sells_59 : decode cX9_sells 59 = .ok (.iadd, 1) := by decide +kernel
theorem dX9_sells_60 : decode cX9_sells 60 = .ok (.iastore, 1) := by decide +kernel
theorem dX9_sells_61 : decode cX9_sells 61 = .ok (.aload_n 0, 1) := by decide +kernel
theorem dX9_sells_62 : decode cX9_sells 62 = .ok (.getfield 7, 3) := by decide +kernel
theorem dX9_sells_65 : decode cX9_sells 65 = .ok (.iload_n 1, 1) := by decide +kernel
theorem dX9_sells_66 : decode cX9_sells 66 = .ok (.bipush 7, 2) := by decide +kernel
theorem dX9_sells_68 : decode cX9_sells 68 = .ok (.invokestatic 111, 3) := by decide +kernel
theorem dX9_sells_71 : decode cX9_sells 71 = .ok (.iconst 1, 1) := by decide +kernel
theorem dX9_sells_72 : decode cX9_sells 72 = .ok (.iastore, 1) := by decide +kernel
theorem dX9_sells_73 : decode cX9_sells 73 = .ok (.aload_n 0, 1) := by decide +kernel
theorem dX9_sells_74 : decode cX9_sells 74 = .ok (.getfield 7, 3) := by decide +kernel
theorem dX9_sells_77 : decode cX9_sells 77 = .ok (.iload_n 1, 1) := by decide +kernel
theorem dX9_sells_78 : decode cX9_sells 78 = .ok (.bipush 8, 2) := by decide +kernel
theorem dX9_sells_80 : decode cX9_sells 80 = .ok (.invokestatic 111, 3) := by decide +kernel
theorem dX9_sells_83 : decode cX9_sells 83 = .ok (.iload_n 2, 1) := by decide +kernel
theorem dX9_sells_84 : decode cX9_sells 84 = .ok (.iastore, 1) := by decide +kernel
theorem dX9_sells_85 : decode cX9_sells 85 = .ok (.iload_n 2, 1) := by decide +kernel
theorem dX9_sells_86 : decode cX9_sells 86 = .ok (.ireturn, 1) := by decide +kernel
theorem dX9_reports_0 : decode cX9_reports 0 = .ok (.aload_n 0, 1) := by decide +kernel
theorem dX9_reports_1 : decode cX9_reports 1 = .ok (.getfield 25, 3) := by decide +kernel
theorem dX9_reports_4 : decode cX9_reports 4 = .ok (.iconst 2, 1) := by decide +kernel
theorem dX9_reports_5 : decode cX9_reports 5 = .ok (.iload_n 1, 1) := by decide +kernel
theorem dX9_reports_6 : decode cX9_reports 6 = .ok (.imul, 1) := by decide +kernel
theorem dX9_reports_7 : decode cX9_reports 7 = .ok (.iload_n 2, 1) := by decide +kernel
theorem dX9_reports_8 : decode cX9_reports 8 = .ok (.iastore, 1) := by decide +kernel
theorem dX9_reports_9 : decode cX9_reports 9 = .ok (.aload_n 0, 1) := by decide +kernel
theorem dX9_reports_10 : decode cX9_reports 10 = .ok (.getfield 25, 3) := by decide +kernel
theorem dX9_reports_13 : decode cX9_reports 13 = .ok (.iconst 2, 1) := by decide +kernel
theorem dX9_reports_14 : decode cX9_reports 14 = .ok (.iload_n 1, 1) := by decide +kernel
theorem dX9_reports_15 : decode cX9_reports 15 = .ok (.imul, 1) := by decide +kernel
theorem dX9_reports_16 : decode cX9_reports 16 = .ok (.iconst 1, 1) := by decide +kernel
theorem dX9_reports_17 : decode cX9_reports 17 = .ok (.iadd, 1) := by decide +kernel
theorem dX9_reports_18 : decode cX9_reports 18 = .ok (.iload_n 3, 1) := by decide +kernel
theorem dX9_reports_19 : decode cX9_reports 19 = .ok (.iastore, 1) := by decide +kernel
theorem dX9_reports_20 : decode cX9_reports 20 = .ok (.aload_n 0, 1) := by decide +kernel
theorem dX9_reports_21 : decode cX9_reports 21 = .ok (.iload_n 1, 1) := by decide +kernel
theorem dX9_reports_22 : decode cX9_reports 22 = .ok (.iconst 1, 1) := by decide +kernel
theorem dX9_reports_23 : decode cX9_reports 23 = .ok (.iadd, 1) := by decide +kernel
theorem dX9_reports_24 : decode cX9_reports 24 = .ok (.putfield 195, 3) := by decide +kernel
theorem dX9_reports_27 : decode cX9_reports 27 = .ok (.return_, 1) := by decide +kernel
set_option maxRecDepth 20000 in
theorem ggX9_sell_X9_isBale : GoodIn wsX9_sell wsX9_isBale := goodIn_ca (goodIn_r _ [8, 2, 9, 10, 7, 11, 77, 78, 79, 80, 81, 82, 83, 84, 85, 86, 87, 88, 89, 90, 91, 92, 93, 94, 95, 96, 97, 98] (by decide +kernel) (by decide +kernel)) (goodIn_sub (fun _ h => List.mem_cons_of_mem _ (List.mem_append_right _ h)) (by decide +kernel))
set_option maxRecDepth 20000 in
theorem gX9_sell_X9_isBale : GoodIn wsX9_sell (wsV RX9 147 RX9 yX9_isBale wsX9_isBale) := goodIn_app (goodIn_of _ (by decide +kernel)) ggX9_sell_X9_isBale
set_option maxRecDepth 20000 in
theorem ggX9_sell_X9_against : GoodIn wsX9_sell wsX9_against := goodIn_ca (goodIn_r _ [15, 2, 16, 17, 7, 18, 19, 20, 21, 22, 3, 23, 24, 25, 26, 27, 28, 29, 30, 31, 32, 33, 34, 35, 36, 37, 38, 39, 40, 41, 42, 43, 44, 45, 46, 47, 48, 49, 50, 51, 52, 53, 77, 78, 79, 80, 81, 82, 83, 84, 85, 86, 87, 88, 89, 90, 91, 92, 93, 94, 95, 96, 97, 98] (by decide +kernel) (by decide +kernel)) (goodIn_sub (fun _ h => List.mem_cons_of_mem _ (List.mem_append_right _ h)) (by decide +kernel))
set_option maxRecDepth 20000 in
theorem gX9_sell_X9_against : GoodIn wsX9_sell (wsV RX9 198 RX9 yX9_against wsX9_against) := goodIn_app (goodIn_of _ (by decide +kernel)) ggX9_sell_X9_against
set_option maxRecDepth 20000 in
theorem ggX9_sell_X9_baleAt : GoodIn wsX9_sell wsX9_baleAt := goodIn_r _ [18] (by decide +kernel) (by decide +kernel)
set_option maxRecDepth 20000 in
theorem gX9_sell_X9_baleAt : GoodIn wsX9_sell (va_wsS RX9 111 yX9_baleAt wsX9_baleAt) := goodIn_app (goodIn_of _ (by decide +kernel)) ggX9_sell_X9_baleAt
set_option maxRecDepth 20000 in
theorem ggX9_sell_X9_reports : GoodIn wsX9_sell wsX9_reports := goodIn_ca (goodIn_r _ [57, 58, 59, 77, 78, 79, 80, 81, 82, 83, 84, 85, 86, 87, 88, 89, 90, 91, 92, 93, 94, 95, 96, 97, 98] (by decide +kernel) (by decide +kernel)) (goodIn_sub (fun _ h => List.mem_cons_of_mem _ (List.mem_append_right _ h)) (by decide +kernel))
set_option maxRecDepth 20000 in
theorem gX9_sell_X9_reports : GoodIn wsX9_sell (wsV RX9 201 RX9 yX9_reports wsX9_reports) := goodIn_app (goodIn_of _ (by decide +kernel)) ggX9_sell_X9_reports
set_option maxRecDepth 20000 in
theorem ggX9_sell_X9_fails : GoodIn wsX9_sell wsX9_fails := goodIn_r _ [63, 1, 77, 78, 79, 80, 81, 82, 83, 84, 85, 86, 87, 88, 89, 90, 91, 92, 93, 94, 95, 96, 97, 98] (by decide +kernel) (by decide +kernel)
set_option maxRecDepth 20000 in
theorem gX9_sell_X9_fails : GoodIn wsX9_sell (wsV RX9 144 RX9 yX9_fails wsX9_fails) := goodIn_app (goodIn_of _ (by decide +kernel)) ggX9_sell_X9_fails
set_option maxRecDepth 20000 in
theorem ggX9_sell_X9_changes : GoodIn wsX9_sell wsX9_changes := goodIn_ca (goodIn_r _ [67, 68, 69, 70, 71, 7, 72, 77, 78, 79, 80, 81, 82, 83, 84, 85, 86, 87, 88, 89, 90, 91, 92, 93, 94, 95, 96, 97, 98] (by decide +kernel) (by decide +kernel)) (goodIn_sub (fun _ h => List.mem_cons_of_mem _ (List.mem_append_right _ h)) (by decide +kernel))
set_option maxRecDepth 20000 in
theorem gX9_sell_X9_changes : GoodIn wsX9_sell (wsV RX9 73 RX9 yX9_changes wsX9_changes) := goodIn_app (goodIn_of _ (by decide +kernel)) ggX9_sell_X9_changes
set_option maxRecDepth 20000 in
theorem ggX9_sell_X9_sells : GoodIn wsX9_sell wsX9_sells := goodIn_ca (goodIn_r _ [76, 2, 34, 35, 36, 7, 37, 38, 39, 40, 41, 30, 31, 32, 33, 23, 24, 25, 26, 27, 28, 29, 16, 17, 18, 42, 43, 44, 45, 46, 47, 48, 49, 50, 51, 52, 53, 77, 78, 79, 80, 81, 82, 83, 84, 85, 86, 87, 88, 89, 90, 91, 92, 93, 94, 95, 96, 97, 98] (by decide +kernel) (by decide +kernel)) (goodIn_sub (fun _ h => List.mem_cons_of_mem _ (List.mem_append_right _ h)) (by decide +kernel))
set_option maxRecDepth 20000 in
theorem gX9_sell_X9_sells : GoodIn wsX9_sell (wsV RX9 204 RX9 yX9_sells wsX9_sells) := goodIn_app (goodIn_of _ (by decide +kernel)) ggX9_sell_X9_sells
theorem dX9_sell_0 : decode cX9_sell 0 = .ok (.aload_n 0, 1) := by decide +kernel
theorem dX9_sell_1 : decode cX9_sell 1 = .ok (.aload_n 0, 1) := by decide +kernel
theorem dX9_sell_2 : decode cX9_sell 2 = .ok (.iload_n 1, 1) := by decide +kernel
theorem dX9_sell_3 : decode cX9_sell 3 = .ok (.invokevirtual 147, 3) := by decide +kernel
theorem dX9_sell_6 : decode cX9_sell 6 = .ok (.ifCond .eq 7, 3) := by decide +kernel
theorem dX9_sell_9 : decode cX9_sell 9 = .ok (.iconst 0, 1) := by decide +kernel
theorem dX9_sell_10 : decode cX9_sell 10 = .ok (.goto 4, 3) := by decide +kernel
theorem dX9_sell_13 : decode cX9_sell 13 = .ok (.iconst 1, 1) := by decide +kernel
theorem dX9_sell_14 : decode cX9_sell 14 = .ok (.putfield 46, 3) := by decide +kernel
theorem dX9_sell_17 : decode cX9_sell 17 = .ok (.aload_n 0, 1) := by decide +kernel
theorem dX9_sell_18 : decode cX9_sell 18 = .ok (.getfield 46, 3) := by decide +kernel
theorem dX9_sell_21 : decode cX9_sell 21 = .ok (.ifCond .le 5, 3) := by decide +kernel
theorem dX9_sell_24 : decode cX9_sell 24 = .ok (.iconst 0, 1) := by decide +kernel
theorem dX9_sell_25 : decode cX9_sell 25 = .ok (.ireturn, 1) := by decide +kernel
theorem dX9_sell_26 : decode cX9_sell 26 = .ok (.aload_n 0, 1) := by decide +kernel
theorem dX9_sell_27 : decode cX9_sell 27 = .ok (.iload_n 1, 1) := by decide +kernel
theorem dX9_sell_28 : decode cX9_sell 28 = .ok (.invokevirtual 198, 3) := by decide +kernel
theorem dX9_sell_31 : decode cX9_sell 31 = .ok (.istore_n 2, 1) := by decide +kernel
theorem dX9_sell_32 : decode cX9_sell 32 = .ok (.iload_n 2, 1) := by decide +kernel
theorem dX9_sell_33 : decode cX9_sell 33 = .ok (.ifCond .le 35, 3) := by decide +kernel
theorem dX9_sell_36 : decode cX9_sell 36 = .ok (.aload_n 0, 1) := by decide +kernel
theorem dX9_sell_37 : decode cX9_sell 37 = .ok (.iconst 0, 1) := by decide +kernel
theorem dX9_sell_38 : decode cX9_sell 38 = .ok (.iload_n 1, 1) := by decide +kernel
theorem dX9_sell_39 : decode cX9_sell 39 = .ok (.aload_n 0, 1) := by decide +kernel
theorem dX9_sell_40 : decode cX9_sell 40 = .ok (.getfield 7, 3) := by decide +kernel
theorem dX9_sell_43 : decode cX9_sell 43 = .ok (.iload_n 1, 1) := by decide +kernel
theorem dX9_sell_44 : decode cX9_sell 44 = .ok (.iconst 5, 1) := by decide +kernel
theorem dX9_sell_45 : decode cX9_sell 45 = .ok (.invokestatic 111, 3) := by decide +kernel
theorem dX9_sell_48 : decode cX9_sell 48 = .ok (.iaload, 1) := by decide +kernel
theorem dX9_sell_49 : decode cX9_sell 49 = .ok (.invokevirtual 201, 3) := by decide +kernel
theorem dX9_sell_52 : decode cX9_sell 52 = .ok (.aload_n 0, 1) := by decide +kernel
theorem dX9_sell_53 : decode cX9_sell 53 = .ok (.iconst 1, 1) := by decide +kernel
theorem dX9_sell_54 : decode cX9_sell 54 = .ok (.iload_n 2, 1) := by decide +kernel
theorem dX9_sell_55 : decode cX9_sell 55 = .ok (.aload_n 0, 1) := by decide +kernel
theorem dX9_sell_56 : decode cX9_sell 56 = .ok (.getfield 186, 3) := by decide +kernel
theorem dX9_sell_59 : decode cX9_sell 59 = .ok (.invokevirtual 201, 3) := by decide +kernel
theorem dX9_sell_62 : decode cX9_sell 62 = .ok (.aload_n 0, 1) := by decide +kernel
theorem dX9_sell_63 : decode cX9_sell 63 = .ok (.iconst 2, 1) := by decide +kernel
theorem dX9_sell_64 : decode cX9_sell 64 = .ok (.invokevirtual 144, 3) := by decide +kernel
theorem dX9_sell_67 : decode cX9_sell 67 = .ok (.ireturn, 1) := by decide +kernel
theorem dX9_sell_68 : decode cX9_sell 68 = .ok (.aload_n 0, 1) := by decide +kernel
theorem dX9_sell_69 : decode cX9_sell 69 = .ok (.aload_n 0, 1) := by decide +kernel
theorem dX9_sell_70 : decode cX9_sell 70 = .ok (.getfield 7, 3) := by decide +kernel
theorem dX9_sell_73 : decode cX9_sell 73 = .ok (.invokevirtual 73, 3) := by decide +kernel
theorem dX9_sell_76 : decode cX9_sell 76 = .ok (.aload_n 0, 1) := by decide +kernel
theorem dX9_sell_77 : decode cX9_sell 77 = .ok (.iload_n 1, 1) := by decide +kernel
theorem dX9_sell_78 : decode cX9_sell 78 = .ok (.invokevirtual 204, 3) := by decide +kernel
theorem dX9_sell_81 : decode cX9_sell 81 = .ok (.ireturn, 1) := by decide +kernel
set_option maxRecDepth 20000 in
theorem ggX9_sellAll_X9_changes : GoodIn wsX9_sellAll wsX9_changes := goodIn_ca (goodIn_r _ [9, 10, 11, 12, 13, 8, 14, 61, 62, 63, 64, 65, 66, 67, 68, 69, 70, 71, 72, 73, 74, 75, 76, 77, 78, 79, 80, 81, 82] (by decide +kernel) (by decide +kernel)) (goodIn_sub (fun _ h => List.mem_cons_of_mem _ (List.mem_append_right _ h)) (by decide +kernel))
set_option maxRecDepth 20000 in
theorem gX9_sellAll_X9_changes : GoodIn wsX9_sellAll (wsV RX9 73 RX9 yX9_changes wsX9_changes) := goodIn_app (goodIn_of _ (by decide +kernel)) ggX9_sellAll_X9_changes
set_option maxRecDepth 20000 in
theorem ggX9_sellAll_X9_orders : GoodIn wsX9_sellAll wsX9_orders := goodIn_ca (goodIn_r _ [18, 3, 2, 4, 19, 20, 8, 21, 22, 23, 24, 25, 61, 62, 63, 64, 65, 66, 67, 68, 69, 70, 71, 72, 73, 74, 75, 76, 77, 78, 79, 80, 81, 82] (by decide +kernel) (by decide +kernel)) (goodIn_sub (fun _ h => List.mem_cons_of_mem _ (List.mem_append_right _ h)) (by decide +kernel))
set_option maxRecDepth 20000 in
theorem gX9_sellAll_X9_orders : GoodIn wsX9_sellAll (wsV RX9 162 RX9 yX9_orders wsX9_orders) := goodIn_app (goodIn_of _ (by decide +kernel)) ggX9_sellAll_X9_orders
set_option maxRecDepth 20000 in
theorem ggX9_sellAll_X9_bestFor : GoodIn wsX9_sellAll wsX9_bestFor := goodIn_ca (goodIn_r _ [29, 2, 30, 31, 32, 8, 33, 34, 35, 36, 37, 38, 39, 40, 41, 42, 43, 44, 19, 20, 21, 45, 46, 47, 48, 49, 50, 51, 52, 53, 54, 55, 56, 61, 62, 63, 64, 65, 66, 67, 68, 69, 70, 71, 72, 73, 74, 75, 76, 77, 78, 79, 80, 81, 82] (by decide +kernel) (by decide +kernel)) (goodIn_sub (fun _ h => List.mem_cons_of_mem _ (List.mem_append_right _ h)) (by decide +kernel))
set_option maxRecDepth 20000 in
theorem gX9_sellAll_X9_bestFor : GoodIn wsX9_sellAll (wsV RX9 192 RX9 yX9_bestFor wsX9_bestFor) := goodIn_app (goodIn_of _ (by decide +kernel)) ggX9_sellAll_X9_bestFor
set_option maxRecDepth 20000 in
theorem ggX9_sellAll_X9_sells : GoodIn wsX9_sellAll wsX9_sells := goodIn_ca (goodIn_r _ [60, 2, 26, 27, 28, 8, 29, 30, 31, 32, 33, 34, 35, 36, 37, 38, 39, 40, 41, 42, 43, 44, 19, 20, 21, 45, 46, 47, 48, 49, 50, 51, 52, 53, 54, 55, 56, 61, 62, 63, 64, 65, 66, 67, 68, 69, 70, 71, 72, 73, 74, 75, 76, 77, 78, 79, 80, 81, 82] (by decide +kernel) (by decide +kernel)) (goodIn_sub (fun _ h => List.mem_cons_of_mem _ (List.mem_append_right _ h)) (by decide +kernel))
set_option maxRecDepth 20000 in
theorem gX9_sellAll_X9_sells : GoodIn wsX9_sellAll (wsV RX9 204 RX9 yX9_sells wsX9_sells) := goodIn_app (goodIn_of _ (by decide +kernel)) ggX9_sellAll_X9_sells
theorem dX9_sellAll_0 : decode cX9_sellAll 0 = .ok (.aload_n 0, 1) := by decide +kernel
theorem dX9_sellAll_1 : decode cX9_sellAll 1 = .ok (.iconst 0, 1) := by decide +kernel
theorem dX9_sellAll_2 : decode cX9_sellAll 2 = .ok (.putfield 46, 3) := by decide +kernel
theorem dX9_sellAll_5 : decode cX9_sellAll 5 = .ok (.aload_n 0, 1) := by decide +kernel
theorem dX9_sellAll_6 : decode cX9_sellAll 6 = .ok (.aload_n 0, 1) := by decide +kernel
theorem dX9_sellAll_7 : decode cX9_sellAll 7 = .ok (.getfield 7, 3) := by decide +kernel
theorem dX9_sellAll_10 : decode cX9_sellAll 10 = .ok (.invokevirtual 73, 3) := by decide +kernel
theorem dX9_sellAll_13 : decode cX9_sellAll 13 = .ok (.aload_n 0, 1) := by decide +kernel
theorem dX9_sellAll_14 : decode cX9_sellAll 14 = .ok (.invokevirtual 162, 3) := by decide +kernel
theorem dX9_sellAll_17 : decode cX9_sellAll 17 = .ok (.iconst 0, 1) := by decide +kernel
theorem dX9_sellAll_18 : decode cX9_sellAll 18 = .ok (.istore_n 1, 1) := by decide +kernel
theorem dX9_sellAll_19 : decode cX9_sellAll 19 = .ok (.iconst 0, 1) := by decide +kernel
theorem dX9_sellAll_20 : decode cX9_sellAll 20 = .ok (.istore_n 2, 1) := by decide +kernel
theorem dX9_sellAll_21 : decode cX9_sellAll 21 = .ok (.iload_n 2, 1) := by decide +kernel
theorem dX9_sellAll_22 : decode cX9_sellAll 22 = .ok (.aload_n 0, 1) := by decide +kernel
theorem dX9_sellAll_23 : decode cX9_sellAll 23 = .ok (.getfield 156, 3) := by decide +kernel
theorem dX9_sellAll_26 : decode cX9_sellAll 26 = .ok (.if_icmp .ge 36, 3) := by decide +kernel
theorem dX9_sellAll_29 : decode cX9_sellAll 29 = .ok (.aload_n 0, 1) := by decide +kernel
theorem dX9_sellAll_30 : decode cX9_sellAll 30 = .ok (.aload_n 0, 1) := by decide +kernel
theorem dX9_sellAll_31 : decode cX9_sellAll 31 = .ok (.getfield 34, 3) := by decide +kernel
theorem dX9_sellAll_34 : decode cX9_sellAll 34 = .ok (.iload_n 2, 1) := by decide +kernel
theorem dX9_sellAll_35 : decode cX9_sellAll 35 = .ok (.iaload, 1) := by decide +kernel
theorem dX9_sellAll_36 : decode cX9_sellAll 36 = .ok (.invokevirtual 192, 3) := by decide +kernel
theorem dX9_sellAll_39 : decode cX9_sellAll 39 = .ok (.ifCond .lt 17, 3) := by decide +kernel
theorem dX9_sellAll_42 : decode cX9_sellAll 42 = .ok (.aload_n 0, 1) := by decide +kernel
theorem dX9_sellAll_43 : decode cX9_sellAll 43 = .ok (.aload_n 0, 1) := by decide +kernel
theorem dX9_sellAll_44 : decode cX9_sellAll 44 = .ok (.getfield 34, 3) := by decide +kernel
theorem dX9_sellAll_47 : decode cX9_sellAll 47 = .ok (.iload_n 2, 1) := by decide +kernel
theorem dX9_sellAll_48 : decode cX9_sellAll 48 = .ok (.iaload, 1) := by decide +kernel
theorem dX9_sellAll_49 : decode cX9_sellAll 49 = .ok (.invokevirtual 204, 3) := by decide +kernel
theorem dX9_sellAll_52 : decode cX9_sellAll 52 = .ok (.pop, 1) := by decide +kernel
theorem dX9_sellAll_53 : decode cX9_sellAll 53 = .ok (.iinc 1 1, 3) := by decide +kernel
theorem dX9_sellAll_56 : decode cX9_sellAll 56 = .ok (.iinc 2 1, 3) := by decide +kernel
theorem dX9_sellAll_59 : decode cX9_sellAll 59 = .ok (.goto (-38), 3) := by decide +kernel
theorem dX9_sellAll_62 : decode cX9_sellAll 62 = .ok (.iload_n 1, 1) := by decide +kernel
theorem dX9_sellAll_63 : decode cX9_sellAll 63 = .ok (.ireturn, 1) := by decide +kernel
set_option maxRecDepth 20000 in
theorem ggX9_wouldSell_X9_isBale : GoodIn wsX9_wouldSell wsX9_isBale := goodIn_ca (goodIn_r _ [6, 7, 8, 9, 5, 10, 54, 55, 56, 57, 58, 59, 60, 61, 62, 63, 64, 65, 66, 67, 68, 69, 70, 71, 72, 73, 74, 75] (by decide +kernel) (by decide +kernel)) (goodIn_sub (fun _ h => List.mem_cons_of_mem _ (List.mem_append_right _ h)) (by decide +kernel))
set_option maxRecDepth 20000 in
theorem gX9_wouldSell_X9_isBale : GoodIn wsX9_wouldSell (wsV RX9 147 RX9 yX9_isBale wsX9_isBale) := goodIn_app (goodIn_of _ (by decide +kernel)) ggX9_wouldSell_X9_isBale
set_option maxRecDepth 20000 in
theorem ggX9_wouldSell_X9_against : GoodIn wsX9_wouldSell wsX9_against := goodIn_ca (goodIn_r _ [14, 7, 15, 16, 5, 17, 18, 19, 20, 21, 22, 23, 24, 25, 26, 27, 28, 29, 30, 31, 32, 33, 34, 35, 36, 37, 38, 39, 40, 41, 42, 43, 44, 45, 46, 47, 48, 49, 50, 51, 52, 53, 54, 55, 56, 57, 58, 59, 60, 61, 62, 63, 64, 65, 66, 67, 68, 69, 70, 71, 72, 73, 74, 75] (by decide +kernel) (by decide +kernel)) (goodIn_sub (fun _ h => List.mem_cons_of_mem _ (List.mem_append_right _ h)) (by decide +kernel))
set_option maxRecDepth 20000 in
theorem gX9_wouldSell_X9_against : GoodIn wsX9_wouldSell (wsV RX9 198 RX9 yX9_against wsX9_against) := goodIn_app (goodIn_of _ (by decide +kernel)) ggX9_wouldSell_X9_against
set_option maxRecDepth 20000 in
theorem ggX9_wouldSell_X9_bestFor : GoodIn wsX9_wouldSell wsX9_bestFor := goodIn_ca (goodIn_r _ [37, 7, 38, 39, 40, 5, 41, 30, 31, 32, 33, 23, 24, 25, 26, 27, 28, 29, 15, 16, 17, 42, 43, 44, 45, 46, 47, 48, 49, 50, 51, 52, 53, 54, 55, 56, 57, 58, 59, 60, 61, 62, 63, 64, 65, 66, 67, 68, 69, 70, 71, 72, 73, 74, 75] (by decide +kernel) (by decide +kernel)) (goodIn_sub (fun _ h => List.mem_cons_of_mem _ (List.mem_append_right _ h)) (by decide +kernel))
set_option maxRecDepth 20000 in
theorem gX9_wouldSell_X9_bestFor : GoodIn wsX9_wouldSell (wsV RX9 192 RX9 yX9_bestFor wsX9_bestFor) := goodIn_app (goodIn_of _ (by decide +kernel)) ggX9_wouldSell_X9_bestFor
theorem dX9_wouldSell_0 : decode cX9_wouldSell 0 = .ok (.aload_n 0, 1) := by decide +kernel
theorem dX9_wouldSell_1 : decode cX9_wouldSell 1 = .ok (.aload_n 0, 1) := by decide +kernel
theorem dX9_wouldSell_2 : decode cX9_wouldSell 2 = .ok (.iload_n 1, 1) := by decide +kernel
theorem dX9_wouldSell_3 : decode cX9_wouldSell 3 = .ok (.invokevirtual 147, 3) := by decide +kernel
theorem dX9_wouldSell_6 : decode cX9_wouldSell 6 = .ok (.ifCond .eq 19, 3) := by decide +kernel
theorem dX9_wouldSell_9 : decode cX9_wouldSell 9 = .ok (.aload_n 0, 1) := by decide +kernel
theorem dX9_wouldSell_10 : decode cX9_wouldSell 10 = .ok (.iload_n 1, 1) := by decide +kernel
theorem dX9_wouldSell_11 : decode cX9_wouldSell 11 = .ok (.invokevirtual 198, 3) := by decide +kernel
theorem dX9_wouldSell_14 : decode cX9_wouldSell 14 = .ok (.ifCond .le 7, 3) := by decide +kernel
theorem dX9_wouldSell_17 : decode cX9_wouldSell 17 = .ok (.iconst 2, 1) := by decide +kernel
theorem dX9_wouldSell_18 : decode cX9_wouldSell 18 = .ok (.goto 8, 3) := by decide +kernel
theorem dX9_wouldSell_21 : decode cX9_wouldSell 21 = .ok (.iconst 0, 1) := by decide +kernel
theorem dX9_wouldSell_22 : decode cX9_wouldSell 22 = .ok (.goto 4, 3) := by decide +kernel
theorem dX9_wouldSell_25 : decode cX9_wouldSell 25 = .ok (.iconst 1, 1) := by decide +kernel
theorem dX9_wouldSell_26 : decode cX9_wouldSell 26 = .ok (.putfield 46, 3) := by decide +kernel
theorem dX9_wouldSell_29 : decode cX9_wouldSell 29 = .ok (.aload_n 0, 1) := by decide +kernel
theorem dX9_wouldSell_30 : decode cX9_wouldSell 30 = .ok (.getfield 46, 3) := by decide +kernel
theorem dX9_wouldSell_33 : decode cX9_wouldSell 33 = .ok (.ifCond .le 7, 3) := by decide +kernel
theorem dX9_wouldSell_36 : decode cX9_wouldSell 36 = .ok (.iconst 0, 1) := by decide +kernel
theorem dX9_wouldSell_37 : decode cX9_wouldSell 37 = .ok (.goto 8, 3) := by decide +kernel
theorem dX9_wouldSell_40 : decode cX9_wouldSell 40 = .ok (.aload_n 0, 1) := by decide +kernel
theorem dX9_wouldSell_41 : decode cX9_wouldSell 41 = .ok (.iload_n 1, 1) := by decide +kernel
theorem dX9_wouldSell_42 : decode cX9_wouldSell 42 = .ok (.invokevirtual 192, 3) := by decide +kernel
theorem dX9_wouldSell_45 : decode cX9_wouldSell 45 = .ok (.ireturn, 1) := by decide +kernel
set_option maxRecDepth 20000 in
theorem ggX9_report_X9_in : GoodIn wsX9_report wsX9_in := goodIn_r _ [7] (by decide +kernel) (by decide +kernel)
set_option maxRecDepth 20000 in
theorem gX9_report_X9_in : GoodIn wsX9_report (va_wsS RX9 50 yX9_in wsX9_in) := goodIn_app (goodIn_of _ (by decide +kernel)) ggX9_report_X9_in
theorem dX9_report_0 : decode cX9_report 0 = .ok (.aload_n 0, 1) := by decide +kernel
theorem dX9_report_1 : decode cX9_report 1 = .ok (.iload_n 1, 1) := by decide +kernel
theorem dX9_report_2 : decode cX9_report 2 = .ok (.iconst 0, 1) := by decide +kernel
theorem dX9_report_3 : decode cX9_report 3 = .ok (.aload_n 0, 1) := by decide +kernel
theorem dX9_report_4 : decode cX9_report 4 = .ok (.getfield 195, 3) := by decide +kernel
theorem dX9_report_7 : decode cX9_report 7 = .ok (.iconst 1, 1) := by decide +kernel
theorem dX9_report_8 : decode cX9_report 8 = .ok (.isub, 1) := by decide +kernel
theorem dX9_report_9 : decode cX9_report 9 = .ok (.invokestatic 50, 3) := by decide +kernel
theorem dX9_report_12 : decode cX9_report 12 = .ok (.ifCond .eq 7, 3) := by decide +kernel
theorem dX9_report_15 : decode cX9_report 15 = .ok (.iconst 0, 1) := by decide +kernel
theorem dX9_report_16 : decode cX9_report 16 = .ok (.goto 4, 3) := by decide +kernel
theorem dX9_report_19 : decode cX9_report 19 = .ok (.iconst 1, 1) := by decide +kernel
theorem dX9_report_20 : decode cX9_report 20 = .ok (.putfield 46, 3) := by decide +kernel
theorem dX9_report_23 : decode cX9_report 23 = .ok (.aload_n 0, 1) := by decide +kernel
theorem dX9_report_24 : decode cX9_report 24 = .ok (.getfield 46, 3) := by decide +kernel
theorem dX9_report_27 : decode cX9_report 27 = .ok (.ifCond .le 7, 3) := by decide +kernel
theorem dX9_report_30 : decode cX9_report 30 = .ok (.iconst 0, 1) := by decide +kernel
theorem dX9_report_31 : decode cX9_report 31 = .ok (.goto 21, 3) := by decide +kernel
theorem dX9_report_34 : decode cX9_report 34 = .ok (.aload_n 0, 1) := by decide +kernel
theorem dX9_report_35 : decode cX9_report 35 = .ok (.getfield 25, 3) := by decide +kernel
theorem dX9_report_38 : decode cX9_report 38 = .ok (.iconst 2, 1) := by decide +kernel
theorem dX9_report_39 : decode cX9_report 39 = .ok (.iload_n 1, 1) := by decide +kernel
theorem dX9_report_40 : decode cX9_report 40 = .ok (.imul, 1) := by decide +kernel
theorem dX9_report_41 : decode cX9_report 41 = .ok (.iload_n 2, 1) := by decide +kernel
theorem dX9_report_42 : decode cX9_report 42 = .ok (.ifCond .eq 7, 3) := by decide +kernel
theorem dX9_report_45 : decode cX9_report 45 = .ok (.iconst 1, 1) := by decide +kernel
theorem dX9_report_46 : decode cX9_report 46 = .ok (.goto 4, 3) := by decide +kernel
theorem dX9_report_49 : decode cX9_report 49 = .ok (.iconst 0, 1) := by decide +kernel
theorem dX9_report_50 : decode cX9_report 50 = .ok (.iadd, 1) := by decide +kernel
theorem dX9_report_51 : decode cX9_report 51 = .ok (.iaload, 1) := by decide +kernel
theorem dX9_report_52 : decode cX9_report 52 = .ok (.ireturn, 1) := by decide +kernel
set_option maxRecDepth 20000 in
theorem ggX9_balesIn_X9_baleAt : GoodIn wsX9_balesIn wsX9_baleAt := goodIn_r _ [5] (by decide +kernel) (by decide +kernel)
set_option maxRecDepth 20000 in
theorem gX9_balesIn_X9_baleAt : GoodIn wsX9_balesIn (va_wsS RX9 111 yX9_baleAt wsX9_baleAt) := goodIn_app (goodIn_of _ (by decide +kernel)) ggX9_balesIn_X9_baleAt
set_option maxRecDepth 20000 in
theorem ggX9_balesIn_X9_kilosOf : GoodIn wsX9_balesIn wsX9_kilosOf := goodIn_ca (goodIn_r _ [9, 2, 3, 4, 5, 10, 11, 12, 13, 1, 14, 15, 16, 17, 18, 19, 20, 21, 22, 23, 24, 25, 26, 27, 28, 29, 30, 31, 32, 33, 34, 35] (by decide +kernel) (by decide +kernel)) (goodIn_sub (fun _ h => List.mem_cons_of_mem _ (List.mem_append_right _ h)) (by decide +kernel))
set_option maxRecDepth 20000 in
theorem gX9_balesIn_X9_kilosOf : GoodIn wsX9_balesIn (wsV RX9 150 RX9 yX9_kilosOf wsX9_kilosOf) := goodIn_app (goodIn_of _ (by decide +kernel)) ggX9_balesIn_X9_kilosOf
theorem dX9_balesIn_0 : decode cX9_balesIn 0 = .ok (.iconst 0, 1) := by decide +kernel
theorem dX9_balesIn_1 : decode cX9_balesIn 1 = .ok (.istore_n 2, 1) := by decide +kernel
theorem dX9_balesIn_2 : decode cX9_balesIn 2 = .ok (.iconst 0, 1) := by decide +kernel
theorem dX9_balesIn_3 : decode cX9_balesIn 3 = .ok (.istore_n 3, 1) := by decide +kernel
theorem dX9_balesIn_4 : decode cX9_balesIn 4 = .ok (.iload_n 3, 1) := by decide +kernel
theorem dX9_balesIn_5 : decode cX9_balesIn 5 = .ok (.aload_n 0, 1) := by decide +kernel
theorem dX9_balesIn_6 : decode cX9_balesIn 6 = .ok (.getfield 7, 3) := by decide +kernel
theorem dX9_balesIn_9 : decode cX9_balesIn 9 = .ok (.iconst 2, 1) := by decide +kernel
theorem dX9_balesIn_10 : decode cX9_balesIn 10 = .ok (.iaload, 1) := by decide +kernel
theorem dX9_balesIn_11 : decode cX9_balesIn 11 = .ok (.if_icmp .ge 36, 3) := by decide +kernel
theorem dX9_balesIn_14 : decode cX9_balesIn 14 = .ok (.iload_n 2, 1) := by decide +kernel
theorem dX9_balesIn_15 : decode cX9_balesIn 15 = .ok (.aload_n 0, 1) := by decide +kernel
theorem dX9_balesIn_16 : decode cX9_balesIn 16 = .ok (.getfield 7, 3) := by decide +kernel
theorem dX9_balesIn_19 : decode cX9_balesIn 19 = .ok (.iload_n 3, 1) := by decide +kernel
theorem dX9_balesIn_20 : decode cX9_balesIn 20 = .ok (.bipush 7, 2) := by decide +kernel
theorem dX9_balesIn_22 : decode cX9_balesIn 22 = .ok (.invokestatic 111, 3) := by decide +kernel
theorem dX9_balesIn_25 : decode cX9_balesIn 25 = .ok (.iaload, 1) := by decide +kernel
theorem dX9_balesIn_26 : decode cX9_balesIn 26 = .ok (.iload_n 1, 1) := by decide +kernel
theorem dX9_balesIn_27 : decode cX9_balesIn 27 = .ok (.if_icmp .ne 11, 3) := by decide +kernel
theorem dX9_balesIn_30 : decode cX9_balesIn 30 = .ok (.aload_n 0, 1) := by decide +kernel
theorem dX9_balesIn_31 : decode cX9_balesIn 31 = .ok (.iload_n 3, 1) := by decide +kernel
theorem dX9_balesIn_32 : decode cX9_balesIn 32 = .ok (.invokevirtual 150, 3) := by decide +kernel
theorem dX9_balesIn_35 : decode cX9_balesIn 35 = .ok (.goto 4, 3) := by decide +kernel
theorem dX9_balesIn_38 : decode cX9_balesIn 38 = .ok (.iconst 0, 1) := by decide +kernel
theorem dX9_balesIn_39 : decode cX9_balesIn 39 = .ok (.iadd, 1) := by decide +kernel
theorem dX9_balesIn_40 : decode cX9_balesIn 40 = .ok (.istore_n 2, 1) := by decide +kernel
theorem dX9_balesIn_41 : decode cX9_balesIn 41 = .ok (.iinc 3 1, 3) := by decide +kernel
theorem dX9_balesIn_44 : decode cX9_balesIn 44 = .ok (.goto (-40), 3) := by decide +kernel
theorem dX9_balesIn_47 : decode cX9_balesIn 47 = .ok (.iload_n 2, 1) := by decide +kernel
theorem dX9_balesIn_48 : decode cX9_balesIn 48 = .ok (.ireturn, 1) := by decide +kernel
set_option maxRecDepth 20000 in
theorem ggX9_bunkers_X9_machineAt : GoodIn wsX9_bunkers wsX9_machineAt := goodIn_r _ [5] (by decide +kernel) (by decide +kernel)
set_option maxRecDepth 20000 in
theorem gX9_bunkers_X9_machineAt : GoodIn wsX9_bunkers (va_wsS RX9 77 yX9_machineAt wsX9_machineAt) := goodIn_app (goodIn_of _ (by decide +kernel)) ggX9_bunkers_X9_machineAt
set_option maxRecDepth 20000 in
theorem ggX9_bunkers_X9_sum : GoodIn wsX9_bunkers wsX9_sum := goodIn_ca (goodIn_r _ [9, 1, 10, 11, 12, 13, 14, 15, 16, 17, 18, 19, 20, 21, 22, 23, 24, 25, 26, 27, 28, 29, 30, 31] (by decide +kernel) (by decide +kernel)) (goodIn_sub (fun _ h => List.mem_cons_of_mem _ (List.mem_append_right _ h)) (by decide +kernel))
set_option maxRecDepth 20000 in
theorem gX9_bunkers_X9_sum : GoodIn wsX9_bunkers (wsV RX9 81 RX9 yX9_sum wsX9_sum) := goodIn_app (goodIn_of _ (by decide +kernel)) ggX9_bunkers_X9_sum
theorem dX9_bunkers_0 : decode cX9_bunkers 0 = .ok (.iconst 0, 1) := by decide +kernel
theorem dX9_bunkers_1 : decode cX9_bunkers 1 = .ok (.istore_n 1, 1) := by decide +kernel
theorem dX9_bunkers_2 : decode cX9_bunkers 2 = .ok (.iconst 0, 1) := by decide +kernel
theorem dX9_bunkers_3 : decode cX9_bunkers 3 = .ok (.istore_n 2, 1) := by decide +kernel
theorem dX9_bunkers_4 : decode cX9_bunkers 4 = .ok (.iload_n 2, 1) := by decide +kernel
theorem dX9_bunkers_5 : decode cX9_bunkers 5 = .ok (.aload_n 0, 1) := by decide +kernel
theorem dX9_bunkers_6 : decode cX9_bunkers 6 = .ok (.getfield 7, 3) := by decide +kernel
theorem dX9_bunkers_9 : decode cX9_bunkers 9 = .ok (.iconst 0, 1) := by decide +kernel
theorem dX9_bunkers_10 : decode cX9_bunkers 10 = .ok (.iaload, 1) := by decide +kernel
theorem dX9_bunkers_11 : decode cX9_bunkers 11 = .ok (.if_icmp .ge 21, 3) := by decide +kernel
theorem dX9_bunkers_14 : decode cX9_bunkers 14 = .ok (.iload_n 1, 1) := by decide +kernel
theorem dX9_bunkers_15 : decode cX9_bunkers 15 = .ok (.aload_n 0, 1) := by decide +kernel
theorem dX9_bunkers_16 : decode cX9_bunkers 16 = .ok (.iload_n 2, 1) := by decide +kernel
theorem dX9_bunkers_17 : decode cX9_bunkers 17 = .ok (.iconst 5, 1) := by decide +kernel
theorem dX9_bunkers_18 : decode cX9_bunkers 18 = .ok (.invokestatic 77, 3) := by decide +kernel
theorem dX9_bunkers_21 : decode cX9_bunkers 21 = .ok (.invokevirtual 81, 3) := by decide +kernel
theorem dX9_bunkers_24 : decode cX9_bunkers 24 = .ok (.iadd, 1) := by decide +kernel
theorem dX9_bunkers_25 : decode cX9_bunkers 25 = .ok (.istore_n 1, 1) := by decide +kernel
theorem dX9_bunkers_26 : decode cX9_bunkers 26 = .ok (.iinc 2 1, 3) := by decide +kernel
theorem dX9_bunkers_29 : decode cX9_bunkers 29 = .ok (.goto (-25), 3) := by decide +kernel
theorem dX9_bunkers_32 : decode cX9_bunkers 32 = .ok (.iload_n 1, 1) := by decide +kernel
theorem dX9_bunkers_33 : decode cX9_bunkers 33 = .ok (.ireturn, 1) := by decide +kernel
set_option maxRecDepth 20000 in
theorem ggX9_account_X9_in : GoodIn wsX9_account wsX9_in := goodIn_r _ [6] (by decide +kernel) (by decide +kernel)
set_option maxRecDepth 20000 in
theorem gX9_account_X9_in : GoodIn wsX9_account (va_wsS RX9 50 yX9_in wsX9_in) := goodIn_app (goodIn_of _ (by decide +kernel)) ggX9_account_X9_in
set_option maxRecDepth 20000 in
theorem ggX9_account_X9_sum : GoodIn wsX9_account wsX9_sum := goodIn_ca (goodIn_r _ [10, 2, 29, 30, 31, 32, 33, 34, 35, 36, 37, 38, 39, 40, 41, 42, 43, 44, 45, 46, 47, 48, 49, 50] (by decide +kernel) (by decide +kernel)) (goodIn_sub (fun _ h => List.mem_cons_of_mem _ (List.mem_append_right _ h)) (by decide +kernel))
set_option maxRecDepth 20000 in
theorem gX9_account_X9_sum : GoodIn wsX9_account (wsV RX9 81 RX9 yX9_sum wsX9_sum) := goodIn_app (goodIn_of _ (by decide +kernel)) ggX9_account_X9_sum
set_option maxRecDepth 20000 in
theorem ggX9_account_X9_bunkers : GoodIn wsX9_account wsX9_bunkers := goodIn_ca (goodIn_r _ [14, 2, 15, 16, 5, 17, 7, 8, 9, 10, 29, 30, 31, 32, 33, 34, 35, 36, 37, 38, 39, 40, 41, 42, 43, 44, 45, 46, 47, 48, 49, 50] (by decide +kernel) (by decide +kernel)) (goodIn_sub (fun _ h => List.mem_cons_of_mem _ (List.mem_append_right _ h)) (by decide +kernel))
set_option maxRecDepth 20000 in
theorem gX9_account_X9_bunkers : GoodIn wsX9_account (wsV RX9 207 RX9 yX9_bunkers wsX9_bunkers) := goodIn_app (goodIn_of _ (by decide +kernel)) ggX9_account_X9_bunkers
set_option maxRecDepth 20000 in
theorem ggX9_account_X9_balesIn : GoodIn wsX9_account wsX9_balesIn := goodIn_ca (goodIn_r _ [21, 2, 22, 23, 5, 24, 25, 26, 27, 28, 7, 8, 9, 10, 29, 30, 31, 32, 33, 34, 35, 36, 37, 38, 39, 40, 41, 42, 43, 44, 45, 46, 47, 48, 49, 50] (by decide +kernel) (by decide +kernel)) (goodIn_sub (fun _ h => List.mem_cons_of_mem _ (List.mem_append_right _ h)) (by decide +kernel))
set_option maxRecDepth 20000 in
theorem gX9_account_X9_balesIn : GoodIn wsX9_account (wsV RX9 211 RX9 yX9_balesIn wsX9_balesIn) := goodIn_app (goodIn_of _ (by decide +kernel)) ggX9_account_X9_balesIn
theorem dX9_account_0 : decode cX9_account 0 = .ok (.aload_n 0, 1) := by decide +kernel
theorem dX9_account_1 : decode cX9_account 1 = .ok (.iload_n 1, 1) := by decide +kernel
theorem dX9_account_2 : decode cX9_account 2 = .ok (.iconst 0, 1) := by decide +kernel
theorem dX9_account_3 : decode cX9_account 3 = .ok (.bipush 15, 2) := by decide +kernel
theorem dX9_account_5 : decode cX9_account 5 = .ok (.invokestatic 50, 3) := by decide +kernel
theorem dX9_account_8 : decode cX9_account 8 = .ok (.ifCond .eq 7, 3) := by decide +kernel
theorem dX9_account_11 : decode cX9_account 11 = .ok (.iconst 0, 1) := by decide +kernel
theorem dX9_account_12 : decode cX9_account 12 = .ok (.goto 4, 3) := by decide +kernel
theorem dX9_account_15 : decode cX9_account 15 = .ok (.iconst 1, 1) := by decide +kernel
theorem dX9_account_16 : decode cX9_account 16 = .ok (.putfield 46, 3) := by decide +kernel
theorem dX9_account_19 : decode cX9_account 19 = .ok (.aload_n 0, 1) := by decide +kernel
theorem dX9_account_20 : decode cX9_account 20 = .ok (.getfield 46, 3) := by decide +kernel
theorem dX9_account_23 : decode cX9_account 23 = .ok (.ifCond .le 5, 3) := by decide +kernel
theorem dX9_account_26 : decode cX9_account 26 = .ok (.lconst 0, 1) := by decide +kernel
theorem dX9_account_27 : decode cX9_account 27 = .ok (.lreturn, 1) := by decide +kernel
theorem dX9_account_28 : decode cX9_account 28 = .ok (.iload_n 1, 1) := by decide +kernel
theorem dX9_account_29 : decode cX9_account 29 = .ok (.tableswitch 143 5 15 #[59, 67, 73, 80, 87, 95, 103, 111, 119, 127, 135], 59) := by decide +kernel
theorem dX9_account_88 : decode cX9_account 88 = .ok (.aload_n 0, 1) := by decide +kernel
theorem dX9_account_89 : decode cX9_account 89 = .ok (.bipush 11, 2) := by decide +kernel
theorem dX9_account_91 : decode cX9_account 91 = .ok (.invokevirtual 81, 3) := by decide +kernel
theorem dX9_account_94 : decode cX9_account 94 = .ok (.i2l, 1) := by decide +kernel
theorem dX9_account_95 : decode cX9_account 95 = .ok (.lreturn, 1) := by decide +kernel
theorem dX9_account_96 : decode cX9_account 96 = .ok (.aload_n 0, 1) := by decide +kernel
theorem dX9_account_97 : decode cX9_account 97 = .ok (.invokevirtual 207, 3) := by decide +kernel
theorem dX9_account_100 : decode cX9_account 100 = .ok (.i2l, 1) := by decide +kernel
theorem dX9_account_101 : decode cX9_account 101 = .ok (.lreturn, 1) := by decide +kernel
theorem dX9_account_102 : decode cX9_account 102 = .ok (.aload_n 0, 1) := by decide +kernel
theorem dX9_account_103 : decode cX9_account 103 = .ok (.iconst 0, 1) := by decide +kernel
theorem dX9_account_104 : decode cX9_account 104 = .ok (.invokevirtual 211, 3) := by decide +kernel
theorem dX9_account_107 : decode cX9_account 107 = .ok (.i2l, 1) := by decide +kernel
theorem dX9_account_108 : decode cX9_account 108 = .ok (.lreturn, 1) := by decide +kernel
theorem dX9_account_109 : decode cX9_account 109 = .ok (.aload_n 0, 1) := by decide +kernel
theorem dX9_account_110 : decode cX9_account 110 = .ok (.iconst 1, 1) := by decide +kernel
theorem dX9_account_111 : decode cX9_account 111 = .ok (.invokevirtual 211, 3) := by decide +kernel
theorem dX9_account_114 : decode cX9_account 114 = .ok (.i2l, 1) := by decide +kernel
theorem dX9_account_115 : decode cX9_account 115 = .ok (.lreturn, 1) := by decide +kernel
theorem dX9_account_116 : decode cX9_account 116 = .ok (.aload_n 0, 1) := by decide +kernel
theorem dX9_account_117 : decode cX9_account 117 = .ok (.bipush 16, 2) := by decide +kernel
theorem dX9_account_119 : decode cX9_account 119 = .ok (.invokevirtual 81, 3) := by decide +kernel
theorem dX9_account_122 : decode cX9_account 122 = .ok (.i2l, 1) := by decide +kernel
theorem dX9_account_123 : decode cX9_account 123 = .ok (.lreturn, 1) := by decide +kernel
theorem dX9_account_124 : decode cX9_account 124 = .ok (.aload_n 0, 1) := by decide +kernel
theorem dX9_account_125 : decode cX9_account 125 = .ok (.getfield 7, 3) := by decide +kernel
theorem dX9_account_128 : decode cX9_account 128 = .ok (.iconst 2, 1) := by decide +kernel
theorem dX9_account_129 : decode cX9_account 129 = .ok (.iaload, 1) := by decide +kernel
theorem dX9_account_130 : decode cX9_account 130 = .ok (.i2l, 1) := by decide +kernel
theorem dX9_account_131 : decode cX9_account 131 = .ok (.lreturn, 1) := by decide +kernel
theorem dX9_account_132 : decode cX9_account 132 = .ok (.aload_n 0, 1) := by decide +kernel
theorem dX9_account_133 : decode cX9_account 133 = .ok (.getfield 7, 3) := by decide +kernel
theorem dX9_account_136 : decode cX9_account 136 = .ok (.iconst 3, 1) := by decide +kernel
theorem dX9_account_137 : decode cX9_account 137 = .ok (.iaload, 1) := by decide +kernel
theorem dX9_account_138 : decode cX9_account 138 = .ok (.i2l, 1) := by decide +kernel
theorem dX9_account_139 : decode cX9_account 139 = .ok (.lreturn, 1) := by decide +kernel
theorem dX9_account_140 : decode cX9_account 140 = .ok (.aload_n 0, 1) := by decide +kernel
theorem dX9_account_141 : decode cX9_account 141 = .ok (.getfield 7, 3) := by decide +kernel
theorem dX9_account_144 : decode cX9_account 144 = .ok (.iconst 4, 1) := by decide +kernel
theorem dX9_account_145 : decode cX9_account 145 = .ok (.iaload, 1) := by decide +kernel
theorem dX9_account_146 : decode cX9_account 146 = .ok (.i2l, 1) := by decide +kernel
theorem dX9_account_147 : decode cX9_account 147 = .ok (.lreturn, 1) := by decide +kernel
theorem dX9_account_148 : decode cX9_account 148 = .ok (.aload_n 0, 1) := by decide +kernel
theorem dX9_account_149 : decode cX9_account 149 = .ok (.getfield 7, 3) := by decide +kernel
theorem dX9_account_152 : decode cX9_account 152 = .ok (.iconst 5, 1) := by decide +kernel
theorem dX9_account_153 : decode cX9_account 153 = .ok (.iaload, 1) := by decide +kernel
theorem dX9_account_154 : decode cX9_account 154 = .ok (.i2l, 1) := by decide +kernel
theorem dX9_account_155 : decode cX9_account 155 = .ok (.lreturn, 1) := by decide +kernel
theorem dX9_account_156 : decode cX9_account 156 = .ok (.aload_n 0, 1) := by decide +kernel
theorem dX9_account_157 : decode cX9_account 157 = .ok (.getfield 7, 3) := by decide +kernel
theorem dX9_account_160 : decode cX9_account 160 = .ok (.iconst 0, 1) := by decide +kernel
theorem dX9_account_161 : decode cX9_account 161 = .ok (.iaload, 1) := by decide +kernel
theorem dX9_account_162 : decode cX9_account 162 = .ok (.i2l, 1) := by decide +kernel
theorem dX9_account_163 : decode cX9_account 163 = .ok (.lreturn, 1) := by decide +kernel
theorem dX9_account_164 : decode cX9_account 164 = .ok (.aload_n 0, 1) := by decide +kernel
theorem dX9_account_165 : decode cX9_account 165 = .ok (.getfield 7, 3) := by decide +kernel
theorem dX9_account_168 : decode cX9_account 168 = .ok (.iconst 1, 1) := by decide +kernel
theorem dX9_account_169 : decode cX9_account 169 = .ok (.iaload, 1) := by decide +kernel
theorem dX9_account_170 : decode cX9_account 170 = .ok (.i2l, 1) := by decide +kernel
theorem dX9_account_171 : decode cX9_account 171 = .ok (.lreturn, 1) := by decide +kernel
theorem dX9_account_172 : decode cX9_account 172 = .ok (.aload_n 0, 1) := by decide +kernel
theorem dX9_account_173 : decode cX9_account 173 = .ok (.getfield 7, 3) := by decide +kernel
theorem dX9_account_176 : decode cX9_account 176 = .ok (.bipush 21, 2) := by decide +kernel
theorem dX9_account_178 : decode cX9_account 178 = .ok (.iload_n 1, 1) := by decide +kernel
theorem dX9_account_179 : decode cX9_account 179 = .ok (.iadd, 1) := by decide +kernel
theorem dX9_account_180 : decode cX9_account 180 = .ok (.iaload, 1) := by decide +kernel
theorem dX9_account_181 : decode cX9_account 181 = .ok (.i2l, 1) := by decide +kernel
theorem dX9_account_182 : decode cX9_account 182 = .ok (.lreturn, 1) := by decide +kernel
set_option maxRecDepth 20000 in
theorem ggX9_purity_X9_baleAt : GoodIn wsX9_purity wsX9_baleAt := goodIn_r _ [6] (by decide +kernel) (by decide +kernel)
set_option maxRecDepth 20000 in
theorem gX9_purity_X9_baleAt : GoodIn wsX9_purity (va_wsS RX9 111 yX9_baleAt wsX9_baleAt) := goodIn_app (goodIn_of _ (by decide +kernel)) ggX9_purity_X9_baleAt
set_option maxRecDepth 20000 in
theorem ggX9_purity_X9_pure : GoodIn wsX9_purity wsX9_pure := goodIn_ca (goodIn_r _ [10, 1, 3, 4, 5, 6, 19, 20, 21, 22, 23, 24, 25, 26, 27, 28, 29, 30, 31, 32, 33, 34, 35, 36, 37, 38, 39, 40] (by decide +kernel) (by decide +kernel)) (goodIn_sub (fun _ h => List.mem_cons_of_mem _ (List.mem_append_right _ h)) (by decide +kernel))
set_option maxRecDepth 20000 in
theorem gX9_purity_X9_pure : GoodIn wsX9_purity (wsV RX9 153 RX9 yX9_pure wsX9_pure) := goodIn_app (goodIn_of _ (by decide +kernel)) ggX9_purity_X9_pure
set_option maxRecDepth 20000 in
theorem ggX9_purity_X9_kilosOf : GoodIn wsX9_purity wsX9_kilosOf := goodIn_ca (goodIn_r _ [14, 3, 4, 5, 6, 15, 16, 17, 18, 1, 19, 20, 21, 22, 23, 24, 25, 26, 27, 28, 29, 30, 31, 32, 33, 34, 35, 36, 37, 38, 39, 40] (by decide +kernel) (by decide +kernel)) (goodIn_sub (fun _ h => List.mem_cons_of_mem _ (List.mem_append_right _ h)) (by decide +kernel))
set_option maxRecDepth 20000 in
theorem gX9_purity_X9_kilosOf : GoodIn wsX9_purity (wsV RX9 150 RX9 yX9_kilosOf wsX9_kilosOf) := goodIn_app (goodIn_of _ (by decide +kernel)) ggX9_purity_X9_kilosOf
theorem dX9_purity_0 : decode cX9_purity 0 = .ok (.iconst 0, 1) := by decide +kernel
theorem dX9_purity_1 : decode cX9_purity 1 = .ok (.istore_n 1, 1) := by decide +kernel
theorem dX9_purity_2 : decode cX9_purity 2 = .ok (.iconst 0, 1) := by decide +kernel
theorem dX9_purity_3 : decode cX9_purity 3 = .ok (.istore_n 2, 1) := by decide +kernel
theorem dX9_purity_4 : decode cX9_purity 4 = .ok (.iconst 0, 1) := by decide +kernel
theorem dX9_purity_5 : decode cX9_purity 5 = .ok (.istore_n 3, 1) := by decide +kernel
theorem dX9_purity_6 : decode cX9_purity 6 = .ok (.iload_n 3, 1) := by decide +kernel
theorem dX9_purity_7 : decode cX9_purity 7 = .ok (.aload_n 0, 1) := by decide +kernel
theorem dX9_purity_8 : decode cX9_purity 8 = .ok (.getfield 7, 3) := by decide +kernel
theorem dX9_purity_11 : decode cX9_purity 11 = .ok (.iconst 2, 1) := by decide +kernel
theorem dX9_purity_12 : decode cX9_purity 12 = .ok (.iaload, 1) := by decide +kernel
theorem dX9_purity_13 : decode cX9_purity 13 = .ok (.if_icmp .ge 63, 3) := by decide +kernel
theorem dX9_purity_16 : decode cX9_purity 16 = .ok (.iload_n 1, 1) := by decide +kernel
theorem dX9_purity_17 : decode cX9_purity 17 = .ok (.aload_n 0, 1) := by decide +kernel
theorem dX9_purity_18 : decode cX9_purity 18 = .ok (.getfield 7, 3) := by decide +kernel
theorem dX9_purity_21 : decode cX9_purity 21 = .ok (.iload_n 3, 1) := by decide +kernel
theorem dX9_purity_22 : decode cX9_purity 22 = .ok (.bipush 7, 2) := by decide +kernel
theorem dX9_purity_24 : decode cX9_purity 24 = .ok (.invokestatic 111, 3) := by decide +kernel
theorem dX9_purity_27 : decode cX9_purity 27 = .ok (.iaload, 1) := by decide +kernel
theorem dX9_purity_28 : decode cX9_purity 28 = .ok (.iconst 2, 1) := by decide +kernel
theorem dX9_purity_29 : decode cX9_purity 29 = .ok (.if_icmp .ne 7, 3) := by decide +kernel
theorem dX9_purity_32 : decode cX9_purity 32 = .ok (.iconst 0, 1) := by decide +kernel
theorem dX9_purity_33 : decode cX9_purity 33 = .ok (.goto 8, 3) := by decide +kernel
theorem dX9_purity_36 : decode cX9_purity 36 = .ok (.aload_n 0, 1) := by decide +kernel
theorem dX9_purity_37 : decode cX9_purity 37 = .ok (.iload_n 3, 1) := by decide +kernel
theorem dX9_purity_38 : decode cX9_purity 38 = .ok (.invokevirtual 153, 3) := by decide +kernel
theorem dX9_purity_41 : decode cX9_purity 41 = .ok (.iadd, 1) := by decide +kernel
theorem dX9_purity_42 : decode cX9_purity 42 = .ok (.istore_n 1, 1) := by decide +kernel
theorem dX9_purity_43 : decode cX9_purity 43 = .ok (.iload_n 2, 1) := by decide +kernel
theorem dX9_purity_44 : decode cX9_purity 44 = .ok (.aload_n 0, 1) := by decide +kernel
theorem dX9_purity_45 : decode cX9_purity 45 = .ok (.getfield 7, 3) := by decide +kernel
theorem dX9_purity_48 : decode cX9_purity 48 = .ok (.iload_n 3, 1) := by decide +kernel
theorem dX9_purity_49 : decode cX9_purity 49 = .ok (.bipush 7, 2) := by decide +kernel
theorem dX9_purity_51 : decode cX9_purity 51 = .ok (.invokestatic 111, 3) := by decide +kernel
theorem dX9_purity_54 : decode cX9_purity 54 = .ok (.iaload, 1) := by decide +kernel
theorem dX9_purity_55 : decode cX9_purity 55 = .ok (.iconst 2, 1) := by decide +kernel
theorem dX9_purity_56 : decode cX9_purity 56 = .ok (.if_icmp .ne 7, 3) := by decide +kernel
theorem dX9_purity_59 : decode cX9_purity 59 = .ok (.iconst 0, 1) := by decide +kernel
theorem dX9_purity_60 : decode cX9_purity 60 = .ok (.goto 8, 3) := by decide +kernel
theorem dX9_purity_63 : decode cX9_purity 63 = .ok (.aload_n 0, 1) := by decide +kernel
theorem dX9_purity_64 : decode cX9_purity 64 = .ok (.iload_n 3, 1) := by decide +kernel
theorem dX9_purity_65 : decode cX9_purity 65 = .ok (.invokevirtual 150, 3) := by decide +kernel
theorem dX9_purity_68 : decode cX9_purity 68 = .ok (.iadd, 1) := by decide +kernel
theorem dX9_purity_69 : decode cX9_purity 69 = .ok (.istore_n 2, 1) := by decide +kernel
theorem dX9_purity_70 : decode cX9_purity 70 = .ok (.iinc 3 1, 3) := by decide +kernel
theorem dX9_purity_73 : decode cX9_purity 73 = .ok (.goto (-67), 3) := by decide +kernel
theorem dX9_purity_76 : decode cX9_purity 76 = .ok (.aload_n 0, 1) := by decide +kernel
theorem dX9_purity_77 : decode cX9_purity 77 = .ok (.iload_n 2, 1) := by decide +kernel
theorem dX9_purity_78 : decode cX9_purity 78 = .ok (.ifCond .ne 7, 3) := by decide +kernel
theorem dX9_purity_81 : decode cX9_purity 81 = .ok (.iconst 1, 1) := by decide +kernel
theorem dX9_purity_82 : decode cX9_purity 82 = .ok (.goto 4, 3) := by decide +kernel
theorem dX9_purity_85 : decode cX9_purity 85 = .ok (.iconst 0, 1) := by decide +kernel
theorem dX9_purity_86 : decode cX9_purity 86 = .ok (.putfield 46, 3) := by decide +kernel
theorem dX9_purity_89 : decode cX9_purity 89 = .ok (.iload_n 2, 1) := by decide +kernel
theorem dX9_purity_90 : decode cX9_purity 90 = .ok (.ifCond .ne 7, 3) := by decide +kernel
theorem dX9_purity_93 : decode cX9_purity 93 = .ok (.dconst 0, 1) := by decide +kernel
theorem dX9_purity_94 : decode cX9_purity 94 = .ok (.goto 8, 3) := by decide +kernel
theorem dX9_purity_97 : decode cX9_purity 97 = .ok (.iload_n 1, 1) := by decide +kernel
theorem dX9_purity_98 : decode cX9_purity 98 = .ok (.i2d, 1) := by decide +kernel
theorem dX9_purity_99 : decode cX9_purity 99 = .ok (.iload_n 2, 1) := by decide +kernel
theorem dX9_purity_100 : decode cX9_purity 100 = .ok (.i2d, 1) := by decide +kernel
theorem dX9_purity_101 : decode cX9_purity 101 = .ok (.ddiv, 1) := by decide +kernel
theorem dX9_purity_102 : decode cX9_purity 102 = .ok (.dreturn, 1) := by decide +kernel
set_option maxRecDepth 20000 in
theorem ggX9_wasted_X9_isMaterial : GoodIn wsX9_wasted wsX9_isMaterial := goodIn_r _ [6, 7, 8, 5, 9] (by decide +kernel) (by decide +kernel)
set_option maxRecDepth 20000 in
theorem gX9_wasted_X9_isMaterial : GoodIn wsX9_wasted (va_wsS RX9 65 yX9_isMaterial wsX9_isMaterial) := goodIn_app (goodIn_of _ (by decide +kernel)) ggX9_wasted_X9_isMaterial
theorem dX9_wasted_0 : decode cX9_wasted 0 = .ok (.aload_n 0, 1) := by decide +kernel
theorem dX9_wasted_1 : decode cX9_wasted 1 = .ok (.iload_n 1, 1) := by decide +kernel
theorem dX9_wasted_2 : decode cX9_wasted 2 = .ok (.invokestatic 65, 3) := by decide +kernel
theorem dX9_wasted_5 : decode cX9_wasted 5 = .ok (.ifCond .eq 23, 3) := by decide +kernel
theorem dX9_wasted_8 : decode cX9_wasted 8 = .ok (.aload_n 0, 1) := by decide +kernel
theorem dX9_wasted_9 : decode cX9_wasted 9 = .ok (.getfield 7, 3) := by decide +kernel
theorem dX9_wasted_12 : decode cX9_wasted 12 = .ok (.bipush 21, 2) := by decide +kernel
theorem dX9_wasted_14 : decode cX9_wasted 14 = .ok (.iload_n 1, 1) := by decide +kernel
theorem dX9_wasted_15 : decode cX9_wasted 15 = .ok (.iadd, 1) := by decide +kernel
theorem dX9_wasted_16 : decode cX9_wasted 16 = .ok (.iaload, 1) := by decide +kernel
theorem dX9_wasted_17 : decode cX9_wasted 17 = .ok (.ifCond .ne 7, 3) := by decide +kernel
theorem dX9_wasted_20 : decode cX9_wasted 20 = .ok (.iconst 2, 1) := by decide +kernel
theorem dX9_wasted_21 : decode cX9_wasted 21 = .ok (.goto 8, 3) := by decide +kernel
theorem dX9_wasted_24 : decode cX9_wasted 24 = .ok (.iconst 0, 1) := by decide +kernel
theorem dX9_wasted_25 : decode cX9_wasted 25 = .ok (.goto 4, 3) := by decide +kernel
theorem dX9_wasted_28 : decode cX9_wasted 28 = .ok (.iconst 1, 1) := by decide +kernel
theorem dX9_wasted_29 : decode cX9_wasted 29 = .ok (.putfield 46, 3) := by decide +kernel
theorem dX9_wasted_32 : decode cX9_wasted 32 = .ok (.aload_n 0, 1) := by decide +kernel
theorem dX9_wasted_33 : decode cX9_wasted 33 = .ok (.getfield 46, 3) := by decide +kernel
theorem dX9_wasted_36 : decode cX9_wasted 36 = .ok (.ifCond .le 7, 3) := by decide +kernel
theorem dX9_wasted_39 : decode cX9_wasted 39 = .ok (.fconst 0, 1) := by decide +kernel
theorem dX9_wasted_40 : decode cX9_wasted 40 = .ok (.goto 24, 3) := by decide +kernel
theorem dX9_wasted_43 : decode cX9_wasted 43 = .ok (.aload_n 0, 1) := by decide +kernel
theorem dX9_wasted_44 : decode cX9_wasted 44 = .ok (.getfield 7, 3) := by decide +kernel
theorem dX9_wasted_47 : decode cX9_wasted 47 = .ok (.bipush 16, 2) := by decide +kernel
theorem dX9_wasted_49 : decode cX9_wasted 49 = .ok (.iload_n 1, 1) := by decide +kernel
theorem dX9_wasted_50 : decode cX9_wasted 50 = .ok (.iadd, 1) := by decide +kernel
theorem dX9_wasted_51 : decode cX9_wasted 51 = .ok (.iaload, 1) := by decide +kernel
theorem dX9_wasted_52 : decode cX9_wasted 52 = .ok (.i2f, 1) := by decide +kernel
theorem dX9_wasted_53 : decode cX9_wasted 53 = .ok (.aload_n 0, 1) := by decide +kernel
theorem dX9_wasted_54 : decode cX9_wasted 54 = .ok (.getfield 7, 3) := by decide +kernel
theorem dX9_wasted_57 : decode cX9_wasted 57 = .ok (.bipush 21, 2) := by decide +kernel
theorem dX9_wasted_59 : decode cX9_wasted 59 = .ok (.iload_n 1, 1) := by decide +kernel
theorem dX9_wasted_60 : decode cX9_wasted 60 = .ok (.iadd, 1) := by decide +kernel
theorem dX9_wasted_61 : decode cX9_wasted 61 = .ok (.iaload, 1) := by decide +kernel
theorem dX9_wasted_62 : decode cX9_wasted 62 = .ok (.i2f, 1) := by decide +kernel
theorem dX9_wasted_63 : decode cX9_wasted 63 = .ok (.fdiv, 1) := by decide +kernel
theorem dX9_wasted_64 : decode cX9_wasted 64 = .ok (.freturn, 1) := by decide +kernel
theorem dX9_append_0 : decode cX9_append 0 = .ok (.aload_n 0, 1) := by decide +kernel
theorem dX9_append_1 : decode cX9_append 1 = .ok (.aload_n 0, 1) := by decide +kernel
theorem dX9_append_2 : decode cX9_append 2 = .ok (.getfield 214, 3) := by decide +kernel
theorem dX9_append_5 : decode cX9_append 5 = .ok (.bipush 80, 2) := by decide +kernel
theorem dX9_append_7 : decode cX9_append 7 = .ok (.if_icmp .ne 7, 3) := by decide +kernel
theorem dX9_append_10 : decode cX9_append 10 = .ok (.iconst 1, 1) := by decide +kernel
theorem dX9_append_11 : decode cX9_append 11 = .ok (.goto 4, 3) := by decide +kernel
theorem dX9_append_14 : decode cX9_append 14 = .ok (.iconst 0, 1) := by decide +kernel
theorem dX9_append_15 : decode cX9_append 15 = .ok (.putfield 46, 3) := by decide +kernel
theorem dX9_append_18 : decode cX9_append 18 = .ok (.aload_n 0, 1) := by decide +kernel
theorem dX9_append_19 : decode cX9_append 19 = .ok (.getfield 46, 3) := by decide +kernel
theorem dX9_append_22 : decode cX9_append 22 = .ok (.ifCond .le 5, 3) := by decide +kernel
theorem dX9_append_25 : decode cX9_append 25 = .ok (.iconst 0, 1) := by decide +kernel
theorem dX9_append_26 : decode cX9_append 26 = .ok (.ireturn, 1) := by decide +kernel
theorem dX9_append_27 : decode cX9_append 27 = .ok (.aload_n 0, 1) := by decide +kernel
theorem dX9_append_28 : decode cX9_append 28 = .ok (.getfield 37, 3) := by decide +kernel
theorem dX9_append_31 : decode cX9_append 31 = .ok (.aload_n 0, 1) := by decide +kernel
theorem dX9_append_32 : decode cX9_append 32 = .ok (.getfield 214, 3) := by decide +kernel
theorem dX9_append_35 : decode cX9_append 35 = .ok (.iload_n 1, 1) := by decide +kernel
theorem dX9_append_36 : decode cX9_append 36 = .ok (.iastore, 1) := by decide +kernel
theorem dX9_append_37 : decode cX9_append 37 = .ok (.aload_n 0, 1) := by decide +kernel
theorem dX9_append_38 : decode cX9_append 38 = .ok (.dup, 1) := by decide +kernel
theorem dX9_append_39 : decode cX9_append 39 = .ok (.getfield 214, 3) := by decide +kernel
theorem dX9_append_42 : decode cX9_append 42 = .ok (.iconst 1, 1) := by decide +kernel
theorem dX9_append_43 : decode cX9_append 43 = .ok (.iadd, 1) := by decide +kernel
theorem dX9_append_44 : decode cX9_append 44 = .ok (.putfield 214, 3) := by decide +kernel
theorem dX9_append_47 : decode cX9_append 47 = .ok (.aload_n 0, 1) := by decide +kernel
theorem dX9_append_48 : decode cX9_append 48 = .ok (.getfield 214, 3) := by decide +kernel
theorem dX9_append_51 : decode cX9_append 51 = .ok (.ireturn, 1) := by decide +kernel
theorem dX9_here_0 : decode cX9_here 0 = .ok (.aload_n 0, 1) := by decide +kernel
theorem dX9_here_1 : decode cX9_here 1 = .ok (.getfield 217, 3) := by decide +kernel
theorem dX9_here_4 : decode cX9_here 4 = .ok (.aload_n 0, 1) := by decide +kernel
theorem dX9_here_5 : decode cX9_here 5 = .ok (.getfield 214, 3) := by decide +kernel
theorem dX9_here_8 : decode cX9_here 8 = .ok (.if_icmp .ge 15, 3) := by decide +kernel
theorem dX9_here_11 : decode cX9_here 11 = .ok (.aload_n 0, 1) := by decide +kernel
theorem dX9_here_12 : decode cX9_here 12 = .ok (.getfield 37, 3) := by decide +kernel
theorem dX9_here_15 : decode cX9_here 15 = .ok (.aload_n 0, 1) := by decide +kernel
theorem dX9_here_16 : decode cX9_here 16 = .ok (.getfield 217, 3) := by decide +kernel
theorem dX9_here_19 : decode cX9_here 19 = .ok (.iaload, 1) := by decide +kernel
theorem dX9_here_20 : decode cX9_here 20 = .ok (.goto 4, 3) := by decide +kernel
theorem dX9_here_23 : decode cX9_here 23 = .ok (.iconst (-1), 1) := by decide +kernel
theorem dX9_here_24 : decode cX9_here 24 = .ok (.ireturn, 1) := by decide +kernel
set_option maxRecDepth 20000 in
theorem ggX9_skips_X9_here : GoodIn wsX9_skips wsX9_here := goodIn_ca (goodIn_r _ [6, 1, 7, 8, 9, 10, 11, 12, 13, 14, 15, 16, 17, 18, 19, 20, 21, 22, 23, 24, 25, 26, 27, 28, 29, 30] (by decide +kernel) (by decide +kernel)) (goodIn_sub (fun _ h => List.mem_cons_of_mem _ (List.mem_append_right _ h)) (by decide +kernel))
set_option maxRecDepth 20000 in
theorem gX9_skips_X9_here : GoodIn wsX9_skips (wsV RX9 220 RX9 yX9_here wsX9_here) := goodIn_app (goodIn_of _ (by decide +kernel)) ggX9_skips_X9_here
theorem dX9_skips_0 : decode cX9_skips 0 = .ok (.aload_n 0, 1) := by decide +kernel
theorem dX9_skips_1 : decode cX9_skips 1 = .ok (.invokevirtual 220, 3) := by decide +kernel
theorem dX9_skips_4 : decode cX9_skips 4 = .ok (.iload_n 1, 1) := by decide +kernel
theorem dX9_skips_5 : decode cX9_skips 5 = .ok (.if_icmp .ne 7, 3) := by decide +kernel
theorem dX9_skips_8 : decode cX9_skips 8 = .ok (.iconst 1, 1) := by decide +kernel
theorem dX9_skips_9 : decode cX9_skips 9 = .ok (.goto 4, 3) := by decide +kernel
theorem dX9_skips_12 : decode cX9_skips 12 = .ok (.iconst 0, 1) := by decide +kernel
theorem dX9_skips_13 : decode cX9_skips 13 = .ok (.istore_n 2, 1) := by decide +kernel
theorem dX9_skips_14 : decode cX9_skips 14 = .ok (.aload_n 0, 1) := by decide +kernel
theorem dX9_skips_15 : decode cX9_skips 15 = .ok (.dup, 1) := by decide +kernel
theorem dX9_skips_16 : decode cX9_skips 16 = .ok (.getfield 217, 3) := by decide +kernel
theorem dX9_skips_19 : decode cX9_skips 19 = .ok (.iload_n 2, 1) := by decide +kernel
theorem dX9_skips_20 : decode cX9_skips 20 = .ok (.ifCond .eq 7, 3) := by decide +kernel
theorem dX9_skips_23 : decode cX9_skips 23 = .ok (.iconst 1, 1) := by decide +kernel
theorem dX9_skips_24 : decode cX9_skips 24 = .ok (.goto 4, 3) := by decide +kernel
theorem dX9_skips_27 : decode cX9_skips 27 = .ok (.iconst 0, 1) := by decide +kernel
theorem dX9_skips_28 : decode cX9_skips 28 = .ok (.iadd, 1) := by decide +kernel
theorem dX9_skips_29 : decode cX9_skips 29 = .ok (.putfield 217, 3) := by decide +kernel
theorem dX9_skips_32 : decode cX9_skips 32 = .ok (.iload_n 2, 1) := by decide +kernel
theorem dX9_skips_33 : decode cX9_skips 33 = .ok (.ireturn, 1) := by decide +kernel
set_option maxRecDepth 20000 in
theorem ggX9_numberHere_X9_here : GoodIn wsX9_numberHere wsX9_here := goodIn_ca (goodIn_r _ [7, 2, 8, 9, 13, 14, 15, 16, 17, 18, 19, 20, 21, 22, 23, 24, 25, 26, 27, 28, 29, 30, 31, 32, 33, 34] (by decide +kernel) (by decide +kernel)) (goodIn_sub (fun _ h => List.mem_cons_of_mem _ (List.mem_append_right _ h)) (by decide +kernel))
set_option maxRecDepth 20000 in
theorem gX9_numberHere_X9_here : GoodIn wsX9_numberHere (wsV RX9 220 RX9 yX9_here wsX9_here) := goodIn_app (goodIn_of _ (by decide +kernel)) ggX9_numberHere_X9_here
set_option maxRecDepth 20000 in
theorem ggX9_numberHere_X9_in : GoodIn wsX9_numberHere wsX9_in := goodIn_r _ [12] (by decide +kernel) (by decide +kernel)
set_option maxRecDepth 20000 in
theorem gX9_numberHere_X9_in : GoodIn wsX9_numberHere (va_wsS RX9 50 yX9_in wsX9_in) := goodIn_app (goodIn_of _ (by decide +kernel)) ggX9_numberHere_X9_in
theorem dX9_numberHere_0 : decode cX9_numberHere 0 = .ok (.aload_n 0, 1) := by decide +kernel
theorem dX9_numberHere_1 : decode cX9_numberHere 1 = .ok (.invokevirtual 220, 3) := by decide +kernel
theorem dX9_numberHere_4 : decode cX9_numberHere 4 = .ok (.bipush 48, 2) := by decide +kernel
theorem dX9_numberHere_6 : decode cX9_numberHere 6 = .ok (.bipush 57, 2) := by decide +kernel
theorem dX9_numberHere_8 : decode cX9_numberHere 8 = .ok (.invokestatic 50, 3) := by decide +kernel
theorem dX9_numberHere_11 : decode cX9_numberHere 11 = .ok (.ifCond .ne 5, 3) := by decide +kernel
theorem dX9_numberHere_14 : decode cX9_numberHere 14 = .ok (.iconst 0, 1) := by decide +kernel
theorem dX9_numberHere_15 : decode cX9_numberHere 15 = .ok (.ireturn, 1) := by decide +kernel
theorem dX9_numberHere_16 : decode cX9_numberHere 16 = .ok (.aload_n 0, 1) := by decide +kernel
theorem dX9_numberHere_17 : decode cX9_numberHere 17 = .ok (.iconst 0, 1) := by decide +kernel
theorem dX9_numberHere_18 : decode cX9_numberHere 18 = .ok (.putfield 223, 3) := by decide +kernel
theorem dX9_numberHere_21 : decode cX9_numberHere 21 = .ok (.iconst 0, 1) := by decide +kernel
theorem dX9_numberHere_22 : decode cX9_numberHere 22 = .ok (.istore_n 2, 1) := by decide +kernel
theorem dX9_numberHere_23 : decode cX9_numberHere 23 = .ok (.iload_n 2, 1) := by decide +kernel
theorem dX9_numberHere_24 : decode cX9_numberHere 24 = .ok (.iload_n 1, 1) := by decide +kernel
theorem dX9_numberHere_25 : decode cX9_numberHere 25 = .ok (.if_icmp .ge 52, 3) := by decide +kernel
theorem dX9_numberHere_28 : decode cX9_numberHere 28 = .ok (.aload_n 0, 1) := by decide +kernel
theorem dX9_numberHere_29 : decode cX9_numberHere 29 = .ok (.invokevirtual 220, 3) := by decide +kernel
theorem dX9_numberHere_32 : decode cX9_numberHere 32 = .ok (.bipush 48, 2) := by decide +kernel
theorem dX9_numberHere_34 : decode cX9_numberHere 34 = .ok (.bipush 57, 2) := by decide +kernel
theorem dX9_numberHere_36 : decode cX9_numberHere 36 = .ok (.invokestatic 50, 3) := by decide +kernel
theorem dX9_numberHere_39 : decode cX9_numberHere 39 = .ok (.ifCond .eq 38, 3) := by decide +kernel
theorem dX9_numberHere_42 : decode cX9_numberHere 42 = .ok (.aload_n 0, 1) := by decide +kernel
theorem dX9_numberHere_43 : decode cX9_numberHere 43 = .ok (.bipush 10, 2) := by decide +kernel
theorem dX9_numberHere_45 : decode cX9_numberHere 45 = .ok (.aload_n 0, 1) := by decide +kernel
theorem dX9_numberHere_46 : decode cX9_numberHere 46 = .ok (.getfield 223, 3) := by decide +kernel
theorem dX9_numberHere_49 : decode cX9_numberHere 49 = .ok (.imul, 1) := by decide +kernel
theorem dX9_numberHere_50 : decode cX9_numberHere 50 = .ok (.aload_n 0, 1) := by decide +kernel
theorem dX9_numberHere_51 : decode cX9_numberHere 51 = .ok (.invokevirtual 220, 3) := by decide +kernel
theorem dX9_numberHere_54 : decode cX9_numberHere 54 = .ok (.iadd, 1) := by decide +kernel
theorem dX9_numberHere_55 : decode cX9_numberHere 55 = .ok (.bipush 48, 2) := by decide +kernel
theorem dX9_numberHere_57 : decode cX9_numberHere 57 = .ok (.isub, 1) := by decide +kernel
theorem dX9_numberHere_58 : decode cX9_numberHere 58 = .ok (.putfield 223, 3) := by decide +kernel
theorem dX9_numberHere_61 : decode cX9_numberHere 61 = .ok (.aload_n 0, 1) := by decide +kernel
theorem dX9_numberHere_62 : decode cX9_numberHere 62 = .ok (.dup, 1) := by decide +kernel
theorem dX9_numberHere_63 : decode cX9_numberHere 63 = .ok (.getfield 217, 3) := by decide +kernel
theorem dX9_numberHere_66 : decode cX9_numberHere 66 = .ok (.iconst 1, 1) := by decide +kernel
theorem dX9_numberHere_67 : decode cX9_numberHere 67 = .ok (.iadd, 1) := by decide +kernel
theorem dX9_numberHere_68 : decode cX9_numberHere 68 = .ok (.putfield 217, 3) := by decide +kernel
theorem dX9_numberHere_71 : decode cX9_numberHere 71 = .ok (.iinc 2 1, 3) := by decide +kernel
theorem dX9_numberHere_74 : decode cX9_numberHere 74 = .ok (.goto (-51), 3) := by decide +kernel
theorem dX9_numberHere_77 : decode cX9_numberHere 77 = .ok (.iconst 1, 1) := by decide +kernel
theorem dX9_numberHere_78 : decode cX9_numberHere 78 = .ok (.ireturn, 1) := by decide +kernel
set_option maxRecDepth 20000 in
theorem ggX9_puts_X9_numberHere : GoodIn wsX9_puts wsX9_numberHere := goodIn_ca (goodIn_r _ [7, 2, 8, 9, 10, 11, 6, 12, 13, 14, 15, 16, 17, 18, 19, 20, 21, 22, 23, 24, 25, 26, 27, 28, 29, 30, 31, 32, 33, 34, 35, 36, 37, 38, 39] (by decide +kernel) (by decide +kernel)) (goodIn_sub (fun _ h => List.mem_cons_of_mem _ (List.mem_append_right _ h)) (by decide +kernel))
set_option maxRecDepth 20000 in
theorem gX9_puts_X9_numberHere : GoodIn wsX9_puts (wsV RX9 226 RX9 yX9_numberHere wsX9_numberHere) := goodIn_app (goodIn_of _ (by decide +kernel)) ggX9_puts_X9_numberHere
theorem dX9_puts_0 : decode cX9_puts 0 = .ok (.aload_n 0, 1) := by decide +kernel
theorem dX9_puts_1 : decode cX9_puts 1 = .ok (.iload_n 2, 1) := by decide +kernel
theorem dX9_puts_2 : decode cX9_puts 2 = .ok (.invokevirtual 226, 3) := by decide +kernel
theorem dX9_puts_5 : decode cX9_puts 5 = .ok (.istore_n 3, 1) := by decide +kernel
theorem dX9_puts_6 : decode cX9_puts 6 = .ok (.aload_n 0, 1) := by decide +kernel
theorem dX9_puts_7 : decode cX9_puts 7 = .ok (.getfield 40, 3) := by decide +kernel
theorem dX9_puts_10 : decode cX9_puts 10 = .ok (.iload_n 1, 1) := by decide +kernel
theorem dX9_puts_11 : decode cX9_puts 11 = .ok (.aload_n 0, 1) := by decide +kernel
theorem dX9_puts_12 : decode cX9_puts 12 = .ok (.getfield 223, 3) := by decide +kernel
theorem dX9_puts_15 : decode cX9_puts 15 = .ok (.iastore, 1) := by decide +kernel
theorem dX9_puts_16 : decode cX9_puts 16 = .ok (.iload_n 3, 1) := by decide +kernel
theorem dX9_puts_17 : decode cX9_puts 17 = .ok (.ireturn, 1) := by decide +kernel
set_option maxRecDepth 20000 in
theorem ggX9_command_X9_here : GoodIn wsX9_command wsX9_here := goodIn_ca (goodIn_r _ [8, 3, 9, 10, 27, 28, 29, 30, 31, 32, 33, 34, 35, 36, 37, 38, 39, 40, 41, 42, 43, 44, 45, 46, 47, 48] (by decide +kernel) (by decide +kernel)) (goodIn_sub (fun _ h => List.mem_cons_of_mem _ (List.mem_append_right _ h)) (by decide +kernel))
set_option maxRecDepth 20000 in
theorem gX9_command_X9_here : GoodIn wsX9_command (wsV RX9 220 RX9 yX9_here wsX9_here) := goodIn_app (goodIn_of _ (by decide +kernel)) ggX9_command_X9_here
set_option maxRecDepth 20000 in
theorem ggX9_command_X9_puts : GoodIn wsX9_command wsX9_puts := goodIn_ca (goodIn_r _ [14, 2, 15, 16, 17, 18, 7, 19, 3, 4, 5, 6, 8, 9, 10, 20, 21, 22, 27, 28, 29, 30, 31, 32, 33, 34, 35, 36, 37, 38, 39, 40, 41, 42, 43, 44, 45, 46, 47, 48] (by decide +kernel) (by decide +kernel)) (goodIn_sub (fun _ h => List.mem_cons_of_mem _ (List.mem_append_right _ h)) (by decide +kernel))
set_option maxRecDepth 20000 in
theorem gX9_command_X9_puts : GoodIn wsX9_command (wsV RX9 232 RX9 yX9_puts wsX9_puts) := goodIn_app (goodIn_of _ (by decide +kernel)) ggX9_command_X9_puts
set_option maxRecDepth 20000 in
theorem ggX9_command_X9_skips : GoodIn wsX9_command wsX9_skips := goodIn_ca (goodIn_r _ [26, 3, 4, 5, 6, 7, 8, 9, 10, 27, 28, 29, 30, 31, 32, 33, 34, 35, 36, 37, 38, 39, 40, 41, 42, 43, 44, 45, 46, 47, 48] (by decide +kernel) (by decide +kernel)) (goodIn_sub (fun _ h => List.mem_cons_of_mem _ (List.mem_append_right _ h)) (by decide +kernel))
set_option maxRecDepth 20000 in
theorem gX9_command_X9_skips : GoodIn wsX9_command (wsV RX9 235 RX9 yX9_skips wsX9_skips) := goodIn_app (goodIn_of _ (by decide +kernel)) ggX9_command_X9_skips
theorem dX9_command_0 : decode cX9_command 0 = .ok (.iconst 5, 1) := by decide +kernel
theorem dX9_command_1 : decode cX9_command 1 = .ok (.aload_n 0, 1) := by decide +kernel
theorem dX9_command_2 : decode cX9_command 2 = .ok (.getfield 229, 3) := by decide +kernel
theorem dX9_command_5 : decode cX9_command 5 = .ok (.imul, 1) := by decide +kernel
theorem dX9_command_6 : decode cX9_command 6 = .ok (.istore_n 1, 1) := by decide +kernel
theorem dX9_command_7 : decode cX9_command 7 = .ok (.aload_n 0, 1) := by decide +kernel
theorem dX9_command_8 : decode cX9_command 8 = .ok (.invokevirtual 220, 3) := by decide +kernel
theorem dX9_command_11 : decode cX9_command 11 = .ok (.istore_n 2, 1) := by decide +kernel
theorem dX9_command_12 : decode cX9_command 12 = .ok (.iload_n 2, 1) := by decide +kernel
theorem dX9_command_13 : decode cX9_command 13 = .ok (.bipush 102, 2) := by decide +kernel
theorem dX9_command_15 : decode cX9_command 15 = .ok (.if_icmp .eq 23, 3) := by decide +kernel
theorem dX9_command_18 : decode cX9_command 18 = .ok (.iload_n 2, 1) := by decide +kernel
theorem dX9_command_19 : decode cX9_command 19 = .ok (.bipush 114, 2) := by decide +kernel
theorem dX9_command_21 : decode cX9_command 21 = .ok (.if_icmp .eq 17, 3) := by decide +kernel
theorem dX9_command_24 : decode cX9_command 24 = .ok (.iload_n 2, 1) := by decide +kernel
theorem dX9_command_25 : decode cX9_command 25 = .ok (.bipush 99, 2) := by decide +kernel
theorem dX9_command_27 : decode cX9_command 27 = .ok (.if_icmp .eq 11, 3) := by decide +kernel
theorem dX9_command_30 : decode cX9_command 30 = .ok (.iload_n 2, 1) := by decide +kernel
theorem dX9_command_31 : decode cX9_command 31 = .ok (.bipush 115, 2) := by decide +kernel
theorem dX9_command_33 : decode cX9_command 33 = .ok (.if_icmp .eq 5, 3) := by decide +kernel
theorem dX9_command_36 : decode cX9_command 36 = .ok (.iconst 0, 1) := by decide +kernel
theorem dX9_command_37 : decode cX9_command 37 = .ok (.ireturn, 1) := by decide +kernel
theorem dX9_command_38 : decode cX9_command 38 = .ok (.aload_n 0, 1) := by decide +kernel
theorem dX9_command_39 : decode cX9_command 39 = .ok (.getfield 40, 3) := by decide +kernel
theorem dX9_command_42 : decode cX9_command 42 = .ok (.iload_n 1, 1) := by decide +kernel
theorem dX9_command_43 : decode cX9_command 43 = .ok (.iload_n 2, 1) := by decide +kernel
theorem dX9_command_44 : decode cX9_command 44 = .ok (.iastore, 1) := by decide +kernel
theorem dX9_command_45 : decode cX9_command 45 = .ok (.aload_n 0, 1) := by decide +kernel
theorem dX9_command_46 : decode cX9_command 46 = .ok (.dup, 1) := by decide +kernel
theorem dX9_command_47 : decode cX9_command 47 = .ok (.getfield 217, 3) := by decide +kernel
theorem dX9_command_50 : decode cX9_command 50 = .ok (.iconst 1, 1) := by decide +kernel
theorem dX9_command_51 : decode cX9_command 51 = .ok (.iadd, 1) := by decide +kernel
theorem dX9_command_52 : decode cX9_command 52 = .ok (.putfield 217, 3) := by decide +kernel
theorem dX9_command_55 : decode cX9_command 55 = .ok (.aload_n 0, 1) := by decide +kernel
theorem dX9_command_56 : decode cX9_command 56 = .ok (.dup, 1) := by decide +kernel
theorem dX9_command_57 : decode cX9_command 57 = .ok (.getfield 229, 3) := by decide +kernel
theorem dX9_command_60 : decode cX9_command 60 = .ok (.iconst 1, 1) := by decide +kernel
theorem dX9_command_61 : decode cX9_command 61 = .ok (.iadd, 1) := by decide +kernel
theorem dX9_command_62 : decode cX9_command 62 = .ok (.putfield 229, 3) := by decide +kernel
theorem dX9_command_65 : decode cX9_command 65 = .ok (.iload_n 2, 1) := by decide +kernel
theorem dX9_command_66 : decode cX9_command 66 = .ok (.bipush 114, 2) := by decide +kernel
theorem dX9_command_68 : decode cX9_command 68 = .ok (.if_icmp .eq 9, 3) := by decide +kernel
theorem dX9_command_71 : decode cX9_command 71 = .ok (.iload_n 2, 1) := by decide +kernel
theorem dX9_command_72 : decode cX9_command 72 = .ok (.bipush 115, 2) := by decide +kernel
theorem dX9_command_74 : decode cX9_command 74 = .ok (.if_icmp .ne 12, 3) := by decide +kernel
theorem dX9_command_77 : decode cX9_command 77 = .ok (.aload_n 0, 1) := by decide +kernel
theorem dX9_command_78 : decode cX9_command 78 = .ok (.iload_n 1, 1) := by decide +kernel
theorem dX9_command_79 : decode cX9_command 79 = .ok (.iconst 1, 1) := by decide +kernel
theorem dX9_command_80 : decode cX9_command 80 = .ok (.iadd, 1) := by decide +kernel
theorem dX9_command_81 : decode cX9_command 81 = .ok (.iconst 4, 1) := by decide +kernel
theorem dX9_command_82 : decode cX9_command 82 = .ok (.invokevirtual 232, 3) := by decide +kernel
theorem dX9_command_85 : decode cX9_command 85 = .ok (.ireturn, 1) := by decide +kernel
theorem dX9_command_86 : decode cX9_command 86 = .ok (.aload_n 0, 1) := by decide +kernel
theorem dX9_command_87 : decode cX9_command 87 = .ok (.iload_n 1, 1) := by decide +kernel
theorem dX9_command_88 : decode cX9_command 88 = .ok (.iconst 1, 1) := by decide +kernel
theorem dX9_command_89 : decode cX9_command 89 = .ok (.iadd, 1) := by decide +kernel
theorem dX9_command_90 : decode cX9_command 90 = .ok (.iconst 1, 1) := by decide +kernel
theorem dX9_command_91 : decode cX9_command 91 = .ok (.invokevirtual 232, 3) := by decide +kernel
theorem dX9_command_94 : decode cX9_command 94 = .ok (.ifCond .eq 34, 3) := by decide +kernel
theorem dX9_command_97 : decode cX9_command 97 = .ok (.aload_n 0, 1) := by decide +kernel
theorem dX9_command_98 : decode cX9_command 98 = .ok (.iload_n 2, 1) := by decide +kernel
theorem dX9_command_99 : decode cX9_command 99 = .ok (.bipush 102, 2) := by decide +kernel
theorem dX9_command_101 : decode cX9_command 101 = .ok (.if_icmp .ne 8, 3) := by decide +kernel
theorem dX9_command_104 : decode cX9_command 104 = .ok (.bipush 61, 2) := by decide +kernel
theorem dX9_command_106 : decode cX9_command 106 = .ok (.goto 5, 3) := by decide +kernel
theorem dX9_command_109 : decode cX9_command 109 = .ok (.bipush 64, 2) := by decide +kernel
theorem dX9_command_111 : decode cX9_command 111 = .ok (.invokevirtual 235, 3) := by decide +kernel
theorem dX9_command_114 : decode cX9_command 114 = .ok (.ifCond .eq 14, 3) := by decide +kernel
theorem dX9_command_117 : decode cX9_command 117 = .ok (.aload_n 0, 1) := by decide +kernel
theorem dX9_command_118 : decode cX9_command 118 = .ok (.iload_n 1, 1) := by decide +kernel
theorem dX9_command_119 : decode cX9_command 119 = .ok (.iconst 2, 1) := by decide +kernel
theorem dX9_command_120 : decode cX9_command 120 = .ok (.iadd, 1) := by decide +kernel
theorem dX9_command_121 : decode cX9_command 121 = .ok (.iconst 4, 1) := by decide +kernel
theorem dX9_command_122 : decode cX9_command 122 = .ok (.invokevirtual 232, 3) := by decide +kernel
theorem dX9_command_125 : decode cX9_command 125 = .ok (.ifCond .ne 5, 3) := by decide +kernel
theorem dX9_command_128 : decode cX9_command 128 = .ok (.iconst 0, 1) := by decide +kernel
theorem dX9_command_129 : decode cX9_command 129 = .ok (.ireturn, 1) := by decide +kernel
theorem dX9_command_130 : decode cX9_command 130 = .ok (.iload_n 2, 1) := by decide +kernel
theorem dX9_command_131 : decode cX9_command 131 = .ok (.bipush 102, 2) := by decide +kernel
theorem dX9_command_133 : decode cX9_command 133 = .ok (.if_icmp .eq 43, 3) := by decide +kernel
theorem dX9_command_136 : decode cX9_command 136 = .ok (.aload_n 0, 1) := by decide +kernel
theorem dX9_command_137 : decode cX9_command 137 = .ok (.bipush 42, 2) := by decide +kernel
theorem dX9_command_139 : decode cX9_command 139 = .ok (.invokevirtual 235, 3) := by decide +kernel
theorem dX9_command_142 : decode cX9_command 142 = .ok (.ifCond .eq 38, 3) := by decide +kernel
theorem dX9_command_145 : decode cX9_command 145 = .ok (.aload_n 0, 1) := by decide +kernel
theorem dX9_command_146 : decode cX9_command 146 = .ok (.iload_n 1, 1) := by decide +kernel
theorem dX9_command_147 : decode cX9_command 147 = .ok (.iconst 3, 1) := by decide +kernel
theorem dX9_command_148 : decode cX9_command 148 = .ok (.iadd, 1) := by decide +kernel
theorem dX9_command_149 : decode cX9_command 149 = .ok (.iconst 4, 1) := by decide +kernel
theorem dX9_command_150 : decode cX9_command 150 = .ok (.invokevirtual 232, 3) := by decide +kernel
theorem dX9_command_153 : decode cX9_command 153 = .ok (.ifCond .eq 27, 3) := by decide +kernel
theorem dX9_command_156 : decode cX9_command 156 = .ok (.aload_n 0, 1) := by decide +kernel
theorem dX9_command_157 : decode cX9_command 157 = .ok (.bipush 36, 2) := by decide +kernel
theorem dX9_command_159 : decode cX9_command 159 = .ok (.invokevirtual 235, 3) := by decide +kernel
theorem dX9_command_162 : decode cX9_command 162 = .ok (.ifCond .eq 18, 3) := by decide +kernel
theorem dX9_command_165 : decode cX9_command 165 = .ok (.aload_n 0, 1) := by decide +kernel
theorem dX9_command_166 : decode cX9_command 166 = .ok (.iload_n 1, 1) := by decide +kernel
theorem dX9_command_167 : decode cX9_command 167 = .ok (.iconst 4, 1) := by decide +kernel
theorem dX9_command_168 : decode cX9_command 168 = .ok (.iadd, 1) := by decide +kernel
theorem dX9_command_169 : decode cX9_command 169 = .ok (.iconst 4, 1) := by decide +kernel
theorem dX9_command_170 : decode cX9_command 170 = .ok (.invokevirtual 232, 3) := by decide +kernel
theorem dX9_command_173 : decode cX9_command 173 = .ok (.ifCond .eq 7, 3) := by decide +kernel
theorem dX9_command_176 : decode cX9_command 176 = .ok (.iconst 1, 1) := by decide +kernel
theorem dX9_command_177 : decode cX9_command 177 = .ok (.goto 4, 3) := by decide +kernel
theorem dX9_command_180 : decode cX9_command 180 = .ok (.iconst 0, 1) := by decide +kernel
theorem dX9_command_181 : decode cX9_command 181 = .ok (.ireturn, 1) := by decide +kernel
set_option maxRecDepth 20000 in
theorem ggX9_isText_X9_command : GoodIn wsX9_isText wsX9_command := goodIn_ca (goodIn_r _ [8, 2, 9, 1, 10, 11, 12, 7, 13, 3, 14, 15, 16, 17, 18, 19, 20, 21, 22, 23, 24, 25, 26, 27, 28, 29, 30, 31, 32, 33, 34, 35, 36, 37, 38, 39, 40, 41, 42, 43, 44, 45, 46, 47, 48, 49, 50, 51, 52] (by decide +kernel) (by decide +kernel)) (goodIn_sub (fun _ h => List.mem_cons_of_mem _ (List.mem_append_right _ h)) (by decide +kernel))
set_option maxRecDepth 20000 in
theorem gX9_isText_X9_command : GoodIn wsX9_isText (wsV RX9 238 RX9 yX9_command wsX9_command) := goodIn_app (goodIn_of _ (by decide +kernel)) ggX9_isText_X9_command
set_option maxRecDepth 20000 in
theorem ggX9_isText_X9_skips : GoodIn wsX9_isText wsX9_skips := goodIn_ca (goodIn_r _ [30, 1, 10, 11, 12, 7, 13, 3, 14, 31, 32, 33, 34, 35, 36, 37, 38, 39, 40, 41, 42, 43, 44, 45, 46, 47, 48, 49, 50, 51, 52] (by decide +kernel) (by decide +kernel)) (goodIn_sub (fun _ h => List.mem_cons_of_mem _ (List.mem_append_right _ h)) (by decide +kernel))
set_option maxRecDepth 20000 in
theorem gX9_isText_X9_skips : GoodIn wsX9_isText (wsV RX9 235 RX9 yX9_skips wsX9_skips) := goodIn_app (goodIn_of _ (by decide +kernel)) ggX9_isText_X9_skips
theorem dX9_isText_0 : decode cX9_isText 0 = .ok (.aload_n 0, 1) := by decide +kernel
theorem dX9_isText_1 : decode cX9_isText 1 = .ok (.iconst 0, 1) := by decide +kernel
theorem dX9_isText_2 : decode cX9_isText 2 = .ok (.putfield 217, 3) := by decide +kernel
theorem dX9_isText_5 : decode cX9_isText 5 = .ok (.aload_n 0, 1) := by decide +kernel
theorem dX9_isText_6 : decode cX9_isText 6 = .ok (.iconst 0, 1) := by decide +kernel
theorem dX9_isText_7 : decode cX9_isText 7 = .ok (.putfield 229, 3) := by decide +kernel
theorem dX9_isText_10 : decode cX9_isText 10 = .ok (.aload_n 0, 1) := by decide +kernel
theorem dX9_isText_11 : decode cX9_isText 11 = .ok (.invokevirtual 238, 3) := by decide +kernel
theorem dX9_isText_14 : decode cX9_isText 14 = .ok (.ifCond .ne 5, 3) := by decide +kernel
theorem dX9_isText_17 : decode cX9_isText 17 = .ok (.iconst 0, 1) := by decide +kernel
theorem dX9_isText_18 : decode cX9_isText 18 = .ok (.ireturn, 1) := by decide +kernel
theorem dX9_isText_19 : decode cX9_isText 19 = .ok (.aload_n 0, 1) := by decide +kernel
theorem dX9_isText_20 : decode cX9_isText 20 = .ok (.bipush 59, 2) := by decide +kernel
theorem dX9_isText_22 : decode cX9_isText 22 = .ok (.invokevirtual 235, 3) := by decide +kernel
theorem dX9_isText_25 : decode cX9_isText 25 = .ok (.ifCond .ne (-15), 3) := by decide +kernel
theorem dX9_isText_28 : decode cX9_isText 28 = .ok (.aload_n 0, 1) := by decide +kernel
theorem dX9_isText_29 : decode cX9_isText 29 = .ok (.getfield 217, 3) := by decide +kernel
theorem dX9_isText_32 : decode cX9_isText 32 = .ok (.aload_n 0, 1) := by decide +kernel
theorem dX9_isText_33 : decode cX9_isText 33 = .ok (.getfield 214, 3) := by decide +kernel
theorem dX9_isText_36 : decode cX9_isText 36 = .ok (.if_icmp .ne 7, 3) := by decide +kernel
theorem dX9_isText_39 : decode cX9_isText 39 = .ok (.iconst 1, 1) := by decide +kernel
theorem dX9_isText_40 : decode cX9_isText 40 = .ok (.goto 4, 3) := by decide +kernel
theorem dX9_isText_43 : decode cX9_isText 43 = .ok (.iconst 0, 1) := by decide +kernel
theorem dX9_isText_44 : decode cX9_isText 44 = .ok (.ireturn, 1) := by decide +kernel
set_option maxRecDepth 20000 in
theorem ggX9_does_X9_againstFeed : GoodIn wsX9_does wsX9_againstFeed := goodIn_ca (goodIn_r _ [6, 7, 8, 5, 9, 10, 11, 12, 13, 14, 15, 16, 17, 138, 139, 140, 141, 142, 143, 144, 145, 146, 147, 148, 149, 150, 151, 152, 153, 154, 155, 156, 157, 158, 159] (by decide +kernel) (by decide +kernel)) (goodIn_sub (fun _ h => List.mem_cons_of_mem _ (List.mem_append_left _ (List.mem_append_right _ h))) (by decide +kernel))
set_option maxRecDepth 20000 in
theorem gX9_does_X9_againstFeed : GoodIn wsX9_does (wsV RX9 100 RX9 yX9_againstFeed wsX9_againstFeed) := goodIn_app (goodIn_of _ (by decide +kernel)) ggX9_does_X9_againstFeed
set_option maxRecDepth 20000 in
theorem ggX9_does_X9_feeds : GoodIn wsX9_does wsX9_feeds := goodIn_ca (goodIn_r _ [21, 17, 138, 139, 140, 141, 142, 143, 144, 145, 146, 147, 148, 149, 150, 151, 152, 153, 154, 155, 156, 157, 158, 159] (by decide +kernel) (by decide +kernel)) (goodIn_sub (fun _ h => List.mem_cons_of_mem _ (List.mem_append_left _ (List.mem_append_right _ h))) (by decide +kernel))
set_option maxRecDepth 20000 in
theorem gX9_does_X9_feeds : GoodIn wsX9_does (wsV RX9 103 RX9 yX9_feeds wsX9_feeds) := goodIn_app (goodIn_of _ (by decide +kernel)) ggX9_does_X9_feeds
set_option maxRecDepth 20000 in
theorem ggX9_does_X9_againstRun : GoodIn wsX9_does wsX9_againstRun := goodIn_ca (goodIn_r _ [25, 17, 10, 11, 5, 12, 138, 139, 140, 141, 142, 143, 144, 145, 146, 147, 148, 149, 150, 151, 152, 153, 154, 155, 156, 157, 158, 159] (by decide +kernel) (by decide +kernel)) (goodIn_sub (fun _ h => List.mem_cons_of_mem _ (List.mem_append_left _ (List.mem_append_right _ h))) (by decide +kernel))
set_option maxRecDepth 20000 in
theorem gX9_does_X9_againstRun : GoodIn wsX9_does (wsV RX9 138 RX9 yX9_againstRun wsX9_againstRun) := goodIn_app (goodIn_of _ (by decide +kernel)) ggX9_does_X9_againstRun
set_option maxRecDepth 20000 in
theorem ggX9_does_X9_runs : GoodIn wsX9_does wsX9_runs := goodIn_ca (goodIn_ca (goodIn_r _ [29, 13, 14, 15, 5, 16, 17, 30, 31, 32, 33, 34, 35, 36, 37, 38, 39, 40, 41, 42, 43, 44, 45, 46, 47, 48, 49, 50, 51, 52, 53, 54, 55, 56, 57, 58, 59, 60, 61, 62, 63, 64, 65, 66, 67, 68, 69, 70, 71, 72, 73, 74, 75, 76, 77, 78, 79, 80, 81, 82, 83, 84, 85, 138, 139, 140, 141, 142, 143, 144, 145, 146, 147, 148, 149, 150, 151, 152, 153, 154, 155, 156, 157, 158, 159] (by decide +kernel) (by decide +kernel)) (goodIn_sub (fun _ h => List.mem_cons_of_mem _ (List.mem_append_left _ (List.mem_append_right _ h))) (by decide +kernel))) (goodIn_sub (fun _ h => List.mem_cons_of_mem _ (List.mem_append_right _ h)) (by decide +kernel))
set_option maxRecDepth 20000 in
theorem gX9_does_X9_runs : GoodIn wsX9_does (wsV RX9 141 RX9 yX9_runs wsX9_runs) := goodIn_app (goodIn_of _ (by decide +kernel)) ggX9_does_X9_runs
set_option maxRecDepth 20000 in
theorem ggX9_does_X9_againstContract : GoodIn wsX9_does wsX9_againstContract := goodIn_ca (goodIn_r _ [89, 17, 7, 8, 5, 9, 10, 11, 12, 138, 139, 140, 141, 142, 143, 144, 145, 146, 147, 148, 149, 150, 151, 152, 153, 154, 155, 156, 157, 158, 159] (by decide +kernel) (by decide +kernel)) (goodIn_sub (fun _ h => List.mem_cons_of_mem _ (List.mem_append_left _ (List.mem_append_right _ h))) (by decide +kernel))
set_option maxRecDepth 20000 in
theorem gX9_does_X9_againstContract : GoodIn wsX9_does (wsV RX9 168 RX9 yX9_againstContract wsX9_againstContract) := goodIn_app (goodIn_of _ (by decide +kernel)) ggX9_does_X9_againstContract
set_option maxRecDepth 20000 in
theorem ggX9_does_X9_contracts : GoodIn wsX9_does wsX9_contracts := goodIn_ca (goodIn_r _ [93, 17, 94, 95, 5, 96, 138, 139, 140, 141, 142, 143, 144, 145, 146, 147, 148, 149, 150, 151, 152, 153, 154, 155, 156, 157, 158, 159] (by decide +kernel) (by decide +kernel)) (goodIn_sub (fun _ h => List.mem_cons_of_mem _ (List.mem_append_left _ (List.mem_append_right _ h))) (by decide +kernel))
set_option maxRecDepth 20000 in
theorem gX9_does_X9_contracts : GoodIn wsX9_does (wsV RX9 171 RX9 yX9_contracts wsX9_contracts) := goodIn_app (goodIn_of _ (by decide +kernel)) ggX9_does_X9_contracts
set_option maxRecDepth 20000 in
theorem ggX9_does_X9_isBale : GoodIn wsX9_does wsX9_isBale := goodIn_ca (goodIn_r _ [100, 17, 10, 11, 5, 12, 138, 139, 140, 141, 142, 143, 144, 145, 146, 147, 148, 149, 150, 151, 152, 153, 154, 155, 156, 157, 158, 159] (by decide +kernel) (by decide +kernel)) (goodIn_sub (fun _ h => List.mem_cons_of_mem _ (List.mem_append_left _ (List.mem_append_right _ h))) (by decide +kernel))
set_option maxRecDepth 20000 in
theorem gX9_does_X9_isBale : GoodIn wsX9_does (wsV RX9 147 RX9 yX9_isBale wsX9_isBale) := goodIn_app (goodIn_of _ (by decide +kernel)) ggX9_does_X9_isBale
set_option maxRecDepth 20000 in
theorem ggX9_does_X9_against : GoodIn wsX9_does wsX9_against := goodIn_ca (goodIn_r _ [104, 17, 71, 72, 5, 73, 105, 106, 107, 108, 109, 110, 111, 112, 113, 94, 95, 96, 114, 115, 116, 117, 118, 119, 120, 121, 122, 123, 124, 125, 126, 127, 128, 129, 13, 14, 15, 16, 130, 131, 132, 133, 138, 139, 140, 141, 142, 143, 144, 145, 146, 147, 148, 149, 150, 151, 152, 153, 154, 155, 156, 157, 158, 159] (by decide +kernel) (by decide +kernel)) (goodIn_sub (fun _ h => List.mem_cons_of_mem _ (List.mem_append_left _ (List.mem_append_right _ h))) (by decide +kernel))
set_option maxRecDepth 20000 in
theorem gX9_does_X9_against : GoodIn wsX9_does (wsV RX9 198 RX9 yX9_against wsX9_against) := goodIn_app (goodIn_of _ (by decide +kernel)) ggX9_does_X9_against
set_option maxRecDepth 20000 in
theorem ggX9_does_X9_sells : GoodIn wsX9_does wsX9_sells := goodIn_ca (goodIn_r _ [137, 17, 118, 119, 120, 5, 121, 122, 123, 124, 125, 114, 115, 116, 117, 110, 111, 112, 113, 94, 95, 96, 71, 72, 73, 126, 127, 128, 129, 13, 14, 15, 16, 130, 131, 132, 133, 138, 139, 140, 141, 142, 143, 144, 145, 146, 147, 148, 149, 150, 151, 152, 153, 154, 155, 156, 157, 158, 159] (by decide +kernel) (by decide +kernel)) (goodIn_sub (fun _ h => List.mem_cons_of_mem _ (List.mem_append_left _ (List.mem_append_right _ h))) (by decide +kernel))
set_option maxRecDepth 20000 in
theorem gX9_does_X9_sells : GoodIn wsX9_does (wsV RX9 204 RX9 yX9_sells wsX9_sells) := goodIn_app (goodIn_of _ (by decide +kernel)) ggX9_does_X9_sells
theorem dX9_does_0 : decode cX9_does 0 = .ok (.aload_n 0, 1) := by decide +kernel
theorem dX9_does_1 : decode cX9_does 1 = .ok (.getfield 40, 3) := by decide +kernel
theorem dX9_does_4 : decode cX9_does 4 = .ok (.iconst 5, 1) := by decide +kernel
theorem dX9_does_5 : decode cX9_does 5 = .ok (.iload_n 1, 1) := by decide +kernel
theorem dX9_does_6 : decode cX9_does 6 = .ok (.imul, 1) := by decide +kernel
theorem dX9_does_7 : decode cX9_does 7 = .ok (.iconst 1, 1) := by decide +kernel
theorem dX9_does_8 : decode cX9_does 8 = .ok (.iadd, 1) := by decide +kernel
theorem dX9_does_9 : decode cX9_does 9 = .ok (.iaload, 1) := by decide +kernel
theorem dX9_does_10 : decode cX9_does 10 = .ok (.istore_n 2, 1) := by decide +kernel
theorem dX9_does_11 : decode cX9_does 11 = .ok (.aload_n 0, 1) := by decide +kernel
theorem dX9_does_12 : decode cX9_does 12 = .ok (.getfield 40, 3) := by decide +kernel
theorem dX9_does_15 : decode cX9_does 15 = .ok (.iconst 5, 1) := by decide +kernel
theorem dX9_does_16 : decode cX9_does 16 = .ok (.iload_n 1, 1) := by decide +kernel
theorem dX9_does_17 : decode cX9_does 17 = .ok (.imul, 1) := by decide +kernel
theorem dX9_does_18 : decode cX9_does 18 = .ok (.iconst 2, 1) := by decide +kernel
theorem dX9_does_19 : decode cX9_does 19 = .ok (.iadd, 1) := by decide +kernel
theorem dX9_does_20 : decode cX9_does 20 = .ok (.iaload, 1) := by decide +kernel
theorem dX9_does_21 : decode cX9_does 21 = .ok (.istore_n 3, 1) := by decide +kernel
theorem dX9_does_22 : decode cX9_does 22 = .ok (.aload_n 0, 1) := by decide +kernel
theorem dX9_does_23 : decode cX9_does 23 = .ok (.getfield 40, 3) := by decide +kernel
theorem dX9_does_26 : decode cX9_does 26 = .ok (.iconst 5, 1) := by decide +kernel
theorem dX9_does_27 : decode cX9_does 27 = .ok (.iload_n 1, 1) := by decide +kernel
theorem dX9_does_28 : decode cX9_does 28 = .ok (.imul, 1) := by decide +kernel
theorem dX9_does_29 : decode cX9_does 29 = .ok (.iconst 3, 1) := by decide +kernel
theorem dX9_does_30 : decode cX9_does 30 = .ok (.iadd, 1) := by decide +kernel
theorem dX9_does_31 : decode cX9_does 31 = .ok (.iaload, 1) := by decide +kernel
theorem dX9_does_32 : decode cX9_does 32 = .ok (.istore 4, 2) := by decide +kernel
theorem dX9_does_34 : decode cX9_does 34 = .ok (.aload_n 0, 1) := by decide +kernel
theorem dX9_does_35 : decode cX9_does 35 = .ok (.getfield 40, 3) := by decide +kernel
theorem dX9_does_38 : decode cX9_does 38 = .ok (.iconst 5, 1) := by decide +kernel
theorem dX9_does_39 : decode cX9_does 39 = .ok (.iload_n 1, 1) := by decide +kernel
theorem dX9_does_40 : decode cX9_does 40 = .ok (.imul, 1) := by decide +kernel
theorem dX9_does_41 : decode cX9_does 41 = .ok (.iconst 4, 1) := by decide +kernel
theorem dX9_does_42 : decode cX9_does 42 = .ok (.iadd, 1) := by decide +kernel
theorem dX9_does_43 : decode cX9_does 43 = .ok (.iaload, 1) := by decide +kernel
theorem dX9_does_44 : decode cX9_does 44 = .ok (.istore 5, 2) := by decide +kernel
theorem dX9_does_46 : decode cX9_does 46 = .ok (.aload_n 0, 1) := by decide +kernel
theorem dX9_does_47 : decode cX9_does 47 = .ok (.getfield 40, 3) := by decide +kernel
theorem dX9_does_50 : decode cX9_does 50 = .ok (.iconst 5, 1) := by decide +kernel
theorem dX9_does_51 : decode cX9_does 51 = .ok (.iload_n 1, 1) := by decide +kernel
theorem dX9_does_52 : decode cX9_does 52 = .ok (.imul, 1) := by decide +kernel
theorem dX9_does_53 : decode cX9_does 53 = .ok (.iaload, 1) := by decide +kernel
theorem dX9_does_54 : decode cX9_does 54 = .ok (.lookupswitch 112 #[(99, 80), (102, 34), (114, 58)], 34) := by decide +kernel
theorem dX9_does_88 : decode cX9_does 88 = .ok (.aload_n 0, 1) := by decide +kernel
theorem dX9_does_89 : decode cX9_does 89 = .ok (.iload_n 2, 1) := by decide +kernel
theorem dX9_does_90 : decode cX9_does 90 = .ok (.iload_n 3, 1) := by decide +kernel
theorem dX9_does_91 : decode cX9_does 91 = .ok (.invokevirtual 100, 3) := by decide +kernel
theorem dX9_does_94 : decode cX9_does 94 = .ok (.ifCond .ne 16, 3) := by decide +kernel
theorem dX9_does_97 : decode cX9_does 97 = .ok (.aload_n 0, 1) := by decide +kernel
theorem dX9_does_98 : decode cX9_does 98 = .ok (.iload_n 2, 1) := by decide +kernel
theorem dX9_does_99 : decode cX9_does 99 = .ok (.iload_n 3, 1) := by decide +kernel
theorem dX9_does_100 : decode cX9_does 100 = .ok (.invokevirtual 103, 3) := by decide +kernel
theorem dX9_does_103 : decode cX9_does 103 = .ok (.ifCond .le 7, 3) := by decide +kernel
theorem dX9_does_106 : decode cX9_does 106 = .ok (.iconst 1, 1) := by decide +kernel
theorem dX9_does_107 : decode cX9_does 107 = .ok (.goto 4, 3) := by decide +kernel
theorem dX9_does_110 : decode cX9_does 110 = .ok (.iconst 0, 1) := by decide +kernel
theorem dX9_does_111 : decode cX9_does 111 = .ok (.ireturn, 1) := by decide +kernel
theorem dX9_does_112 : decode cX9_does 112 = .ok (.aload_n 0, 1) := by decide +kernel
theorem dX9_does_113 : decode cX9_does 113 = .ok (.iload_n 2, 1) := by decide +kernel
theorem dX9_does_114 : decode cX9_does 114 = .ok (.invokevirtual 138, 3) := by decide +kernel
theorem dX9_does_117 : decode cX9_does 117 = .ok (.ifCond .ne 15, 3) := by decide +kernel
theorem dX9_does_120 : decode cX9_does 120 = .ok (.aload_n 0, 1) := by decide +kernel
theorem dX9_does_121 : decode cX9_does 121 = .ok (.iload_n 2, 1) := by decide +kernel
theorem dX9_does_122 : decode cX9_does 122 = .ok (.invokevirtual 141, 3) := by decide +kernel
theorem dX9_does_125 : decode cX9_does 125 = .ok (.ifCond .lt 7, 3) := by decide +kernel
theorem dX9_does_128 : decode cX9_does 128 = .ok (.iconst 1, 1) := by decide +kernel
theorem dX9_does_129 : decode cX9_does 129 = .ok (.goto 4, 3) := by decide +kernel
theorem dX9_does_132 : decode cX9_does 132 = .ok (.iconst 0, 1) := by decide +kernel
theorem dX9_does_133 : decode cX9_does 133 = .ok (.ireturn, 1) := by decide +kernel
theorem dX9_does_134 : decode cX9_does 134 = .ok (.aload_n 0, 1) := by decide +kernel
theorem dX9_does_135 : decode cX9_does 135 = .ok (.iload_n 2, 1) := by decide +kernel
theorem dX9_does_136 : decode cX9_does 136 = .ok (.iload_n 3, 1) := by decide +kernel
theorem dX9_does_137 : decode cX9_does 137 = .ok (.iload 4, 2) := by decide +kernel
theorem dX9_does_139 : decode cX9_does 139 = .ok (.iload 5, 2) := by decide +kernel
theorem dX9_does_141 : decode cX9_does 141 = .ok (.invokevirtual 168, 3) := by decide +kernel
theorem dX9_does_144 : decode cX9_does 144 = .ok (.ifCond .ne 20, 3) := by decide +kernel
theorem dX9_does_147 : decode cX9_does 147 = .ok (.aload_n 0, 1) := by decide +kernel
theorem dX9_does_148 : decode cX9_does 148 = .ok (.iload_n 2, 1) := by decide +kernel
theorem dX9_does_149 : decode cX9_does 149 = .ok (.iload_n 3, 1) := by decide +kernel
theorem dX9_does_150 : decode cX9_does 150 = .ok (.iload 4, 2) := by decide +kernel
theorem dX9_does_152 : decode cX9_does 152 = .ok (.iload 5, 2) := by decide +kernel
theorem dX9_does_154 : decode cX9_does 154 = .ok (.invokevirtual 171, 3) := by decide +kernel
theorem dX9_does_157 : decode cX9_does 157 = .ok (.ifCond .lt 7, 3) := by decide +kernel
theorem dX9_does_160 : decode cX9_does 160 = .ok (.iconst 1, 1) := by decide +kernel
theorem dX9_does_161 : decode cX9_does 161 = .ok (.goto 4, 3) := by decide +kernel
theorem dX9_does_164 : decode cX9_does 164 = .ok (.iconst 0, 1) := by decide +kernel
theorem dX9_does_165 : decode cX9_does 165 = .ok (.ireturn, 1) := by decide +kernel
theorem dX9_does_166 : decode cX9_does 166 = .ok (.aload_n 0, 1) := by decide +kernel
theorem dX9_does_167 : decode cX9_does 167 = .ok (.iload_n 2, 1) := by decide +kernel
theorem dX9_does_168 : decode cX9_does 168 = .ok (.invokevirtual 147, 3) := by decide +kernel
theorem dX9_does_171 : decode cX9_does 171 = .ok (.ifCond .eq 23, 3) := by decide +kernel
theorem dX9_does_174 : decode cX9_does 174 = .ok (.aload_n 0, 1) := by decide +kernel
theorem dX9_does_175 : decode cX9_does 175 = .ok (.iload_n 2, 1) := by decide +kernel
theorem dX9_does_176 : decode cX9_does 176 = .ok (.invokevirtual 198, 3) := by decide +kernel
theorem dX9_does_179 : decode cX9_does 179 = .ok (.ifCond .ne 15, 3) := by decide +kernel
theorem dX9_does_182 : decode cX9_does 182 = .ok (.aload_n 0, 1) := by decide +kernel
theorem dX9_does_183 : decode cX9_does 183 = .ok (.iload_n 2, 1) := by decide +kernel
theorem dX9_does_184 : decode cX9_does 184 = .ok (.invokevirtual 204, 3) := by decide +kernel
theorem dX9_does_187 : decode cX9_does 187 = .ok (.ifCond .lt 7, 3) := by decide +kernel
theorem dX9_does_190 : decode cX9_does 190 = .ok (.iconst 1, 1) := by decide +kernel
theorem dX9_does_191 : decode cX9_does 191 = .ok (.goto 4, 3) := by decide +kernel
theorem dX9_does_194 : decode cX9_does 194 = .ok (.iconst 0, 1) := by decide +kernel
theorem dX9_does_195 : decode cX9_does 195 = .ok (.ireturn, 1) := by decide +kernel
set_option maxRecDepth 20000 in
theorem ggX9_perform_X9_isText : GoodIn wsX9_perform wsX9_isText := goodIn_ca (goodIn_r _ [13, 3, 6, 2, 14, 15, 16, 12, 17, 7, 18, 19, 20, 21, 22, 23, 24, 25, 26, 27, 28, 29, 30, 31, 32, 33, 34, 35, 36, 37, 38, 189, 190, 191, 192, 193, 194, 195, 196, 197, 198, 199, 200, 201, 202, 203, 204, 205, 206, 207, 208, 209, 210] (by decide +kernel) (by decide +kernel)) (goodIn_sub (fun _ h => List.mem_cons_of_mem _ (List.mem_append_left _ (List.mem_append_right _ h))) (by decide +kernel))
set_option maxRecDepth 20000 in
theorem gX9_perform_X9_isText : GoodIn wsX9_perform (wsV RX9 241 RX9 yX9_isText wsX9_isText) := goodIn_app (goodIn_of _ (by decide +kernel)) ggX9_perform_X9_isText
set_option maxRecDepth 20000 in
theorem ggX9_perform_X9_copies : GoodIn wsX9_perform wsX9_copies := goodIn_ca (goodIn_r _ [41] (by decide +kernel) (by decide +kernel)) (goodIn_sub (fun _ h => List.mem_cons_of_mem _ (List.mem_append_left _ (List.mem_append_right _ h))) (by decide +kernel))
set_option maxRecDepth 20000 in
theorem gX9_perform_X9_copies : GoodIn wsX9_perform (va_wsS RX9 57 yX9_copies wsX9_copies) := goodIn_app (goodIn_of _ (by decide +kernel)) ggX9_perform_X9_copies
set_option maxRecDepth 20000 in
theorem ggX9_perform_X9_does : GoodIn wsX9_perform wsX9_does := goodIn_ca (goodIn_ca (goodIn_r _ [45, 7, 46, 47, 48, 12, 49, 50, 51, 52, 32, 33, 34, 53, 54, 55, 56, 4, 57, 58, 59, 60, 61, 62, 63, 64, 65, 66, 67, 68, 69, 70, 71, 72, 73, 39, 40, 41, 74, 75, 76, 77, 78, 79, 80, 81, 82, 83, 84, 85, 86, 87, 88, 89, 90, 91, 92, 93, 94, 95, 96, 97, 98, 99, 100, 101, 102, 103, 104, 105, 106, 107, 108, 109, 110, 111, 112, 113, 114, 115, 116, 117, 118, 119, 120, 121, 122, 123, 124, 125, 126, 127, 128, 129, 130, 131, 132, 133, 134, 135, 136, 137, 138, 139, 140, 141, 142, 143, 144, 8, 145, 146, 147, 148, 149, 150, 151, 152, 153, 154, 155, 156, 157, 158, 159, 160, 161, 162, 163, 164, 165, 166, 167, 168, 169, 170, 171, 172, 189, 190, 191, 192, 193, 194, 195, 196, 197, 198, 199, 200, 201, 202, 203, 204, 205, 206, 207, 208, 209, 210] (by decide +kernel) (by decide +kernel)) (goodIn_sub (fun _ h => List.mem_cons_of_mem _ (List.mem_append_left _ (List.mem_append_right _ h))) (by decide +kernel))) (goodIn_sub (fun _ h => List.mem_cons_of_mem _ (List.mem_append_right _ h)) (by decide +kernel))
set_option maxRecDepth 20000 in
theorem gX9_perform_X9_does : GoodIn wsX9_perform (wsV RX9 244 RX9 yX9_does wsX9_does) := goodIn_app (goodIn_of _ (by decide +kernel)) ggX9_perform_X9_does
set_option maxRecDepth 20000 in
theorem ggX9_perform_X9_isBale : GoodIn wsX9_perform wsX9_isBale := goodIn_ca (goodIn_r _ [136, 4, 32, 33, 12, 34, 189, 190, 191, 192, 193, 194, 195, 196, 197, 198, 199, 200, 201, 202, 203, 204, 205, 206, 207, 208, 209, 210] (by decide +kernel) (by decide +kernel)) (goodIn_sub (fun _ h => List.mem_cons_of_mem _ (List.mem_append_left _ (List.mem_append_right _ h))) (by decide +kernel))
set_option maxRecDepth 20000 in
theorem gX9_perform_X9_isBale : GoodIn wsX9_perform (wsV RX9 147 RX9 yX9_isBale wsX9_isBale) := goodIn_app (goodIn_of _ (by decide +kernel)) ggX9_perform_X9_isBale
set_option maxRecDepth 20000 in
theorem ggX9_perform_X9_against : GoodIn wsX9_perform wsX9_against := goodIn_ca (goodIn_r _ [140, 4, 107, 108, 12, 109, 141, 142, 143, 144, 8, 145, 146, 147, 148, 130, 131, 132, 149, 150, 151, 152, 153, 154, 155, 156, 157, 158, 159, 160, 161, 162, 163, 164, 53, 54, 55, 56, 165, 166, 167, 168, 189, 190, 191, 192, 193, 194, 195, 196, 197, 198, 199, 200, 201, 202, 203, 204, 205, 206, 207, 208, 209, 210] (by decide +kernel) (by decide +kernel)) (goodIn_sub (fun _ h => List.mem_cons_of_mem _ (List.mem_append_left _ (List.mem_append_right _ h))) (by decide +kernel))
set_option maxRecDepth 20000 in
theorem gX9_perform_X9_against : GoodIn wsX9_perform (wsV RX9 198 RX9 yX9_against wsX9_against) := goodIn_app (goodIn_of _ (by decide +kernel)) ggX9_perform_X9_against
set_option maxRecDepth 20000 in
theorem ggX9_perform_X9_reports : GoodIn wsX9_perform wsX9_reports := goodIn_ca (goodIn_r _ [176, 177, 178, 189, 190, 191, 192, 193, 194, 195, 196, 197, 198, 199, 200, 201, 202, 203, 204, 205, 206, 207, 208, 209, 210] (by decide +kernel) (by decide +kernel)) (goodIn_sub (fun _ h => List.mem_cons_of_mem _ (List.mem_append_left _ (List.mem_append_right _ h))) (by decide +kernel))
set_option maxRecDepth 20000 in
theorem gX9_perform_X9_reports : GoodIn wsX9_perform (wsV RX9 201 RX9 yX9_reports wsX9_reports) := goodIn_app (goodIn_of _ (by decide +kernel)) ggX9_perform_X9_reports
set_option maxRecDepth 20000 in
theorem ggX9_perform_X9_baleAt : GoodIn wsX9_perform wsX9_baleAt := goodIn_r _ [109] (by decide +kernel) (by decide +kernel)
set_option maxRecDepth 20000 in
theorem gX9_perform_X9_baleAt : GoodIn wsX9_perform (va_wsS RX9 111 yX9_baleAt wsX9_baleAt) := goodIn_app (goodIn_of _ (by decide +kernel)) ggX9_perform_X9_baleAt
set_option maxRecDepth 20000 in
theorem ggX9_perform_X9_fails : GoodIn wsX9_perform wsX9_fails := goodIn_r _ [182, 1, 189, 190, 191, 192, 193, 194, 195, 196, 197, 198, 199, 200, 201, 202, 203, 204, 205, 206, 207, 208, 209, 210] (by decide +kernel) (by decide +kernel)
set_option maxRecDepth 20000 in
theorem gX9_perform_X9_fails : GoodIn wsX9_perform (wsV RX9 144 RX9 yX9_fails wsX9_fails) := goodIn_app (goodIn_of _ (by decide +kernel)) ggX9_perform_X9_fails
set_option maxRecDepth 20000 in
theorem ggX9_perform_X9_changes : GoodIn wsX9_perform wsX9_changes := goodIn_ca (goodIn_r _ [186, 187, 188, 39, 40, 12, 41, 189, 190, 191, 192, 193, 194, 195, 196, 197, 198, 199, 200, 201, 202, 203, 204, 205, 206, 207, 208, 209, 210] (by decide +kernel) (by decide +kernel)) (goodIn_sub (fun _ h => List.mem_cons_of_mem _ (List.mem_append_left _ (List.mem_append_right _ h))) (by decide +kernel))
set_option maxRecDepth 20000 in
theorem gX9_perform_X9_changes : GoodIn wsX9_perform (wsV RX9 73 RX9 yX9_changes wsX9_changes) := goodIn_app (goodIn_of _ (by decide +kernel)) ggX9_perform_X9_changes
theorem dX9_perform_0 : decode cX9_perform 0 = .ok (.aload_n 0, 1) := by decide +kernel
theorem dX9_perform_1 : decode cX9_perform 1 = .ok (.iconst 0, 1) := by decide +kernel
theorem dX9_perform_2 : decode cX9_perform 2 = .ok (.putfield 46, 3) := by decide +kernel
theorem dX9_perform_5 : decode cX9_perform 5 = .ok (.aload_n 0, 1) := by decide +kernel
theorem dX9_perform_6 : decode cX9_perform 6 = .ok (.invokevirtual 241, 3) := by decide +kernel
theorem dX9_perform_9 : decode cX9_perform 9 = .ok (.istore_n 1, 1) := by decide +kernel
theorem dX9_perform_10 : decode cX9_perform 10 = .ok (.aload_n 0, 1) := by decide +kernel
theorem dX9_perform_11 : decode cX9_perform 11 = .ok (.iconst 0, 1) := by decide +kernel
theorem dX9_perform_12 : decode cX9_perform 12 = .ok (.putfield 214, 3) := by decide +kernel
theorem dX9_perform_15 : decode cX9_perform 15 = .ok (.iload_n 1, 1) := by decide +kernel
theorem dX9_perform_16 : decode cX9_perform 16 = .ok (.ifCond .ne 11, 3) := by decide +kernel
theorem dX9_perform_19 : decode cX9_perform 19 = .ok (.bipush (-100), 2) := by decide +kernel
theorem dX9_perform_21 : decode cX9_perform 21 = .ok (.aload_n 0, 1) := by decide +kernel
theorem dX9_perform_22 : decode cX9_perform 22 = .ok (.getfield 217, 3) := by decide +kernel
theorem dX9_perform_25 : decode cX9_perform 25 = .ok (.isub, 1) := by decide +kernel
theorem dX9_perform_26 : decode cX9_perform 26 = .ok (.ireturn, 1) := by decide +kernel
theorem dX9_perform_27 : decode cX9_perform 27 = .ok (.aload_n 0, 1) := by decide +kernel
theorem dX9_perform_28 : decode cX9_perform 28 = .ok (.getfield 7, 3) := by decide +kernel
theorem dX9_perform_31 : decode cX9_perform 31 = .ok (.iconst 0, 1) := by decide +kernel
theorem dX9_perform_32 : decode cX9_perform 32 = .ok (.aload_n 0, 1) := by decide +kernel
theorem dX9_perform_33 : decode cX9_perform 33 = .ok (.getfield 43, 3) := by decide +kernel
theorem dX9_perform_36 : decode cX9_perform 36 = .ok (.iconst 0, 1) := by decide +kernel
theorem dX9_perform_37 : decode cX9_perform 37 = .ok (.invokestatic 57, 3) := by decide +kernel
theorem dX9_perform_40 : decode cX9_perform 40 = .ok (.iconst 0, 1) := by decide +kernel
theorem dX9_perform_41 : decode cX9_perform 41 = .ok (.istore_n 2, 1) := by decide +kernel
theorem dX9_perform_42 : decode cX9_perform 42 = .ok (.iload_n 2, 1) := by decide +kernel
theorem dX9_perform_43 : decode cX9_perform 43 = .ok (.aload_n 0, 1) := by decide +kernel
theorem dX9_perform_44 : decode cX9_perform 44 = .ok (.getfield 229, 3) := by decide +kernel
theorem dX9_perform_47 : decode cX9_perform 47 = .ok (.if_icmp .ge 110, 3) := by decide +kernel
theorem dX9_perform_50 : decode cX9_perform 50 = .ok (.aload_n 0, 1) := by decide +kernel
theorem dX9_perform_51 : decode cX9_perform 51 = .ok (.iload_n 2, 1) := by decide +kernel
theorem dX9_perform_52 : decode cX9_perform 52 = .ok (.invokevirtual 244, 3) := by decide +kernel
theorem dX9_perform_55 : decode cX9_perform 55 = .ok (.ifCond .ne 96, 3) := by decide +kernel
theorem dX9_perform_58 : decode cX9_perform 58 = .ok (.aload_n 0, 1) := by decide +kernel
theorem dX9_perform_59 : decode cX9_perform 59 = .ok (.getfield 40, 3) := by decide +kernel
theorem dX9_perform_62 : decode cX9_perform 62 = .ok (.iconst 5, 1) := by decide +kernel
theorem dX9_perform_63 : decode cX9_perform 63 = .ok (.iload_n 2, 1) := by decide +kernel
theorem dX9_perform_64 : decode cX9_perform 64 = .ok (.imul, 1) := by decide +kernel
theorem dX9_perform_65 : decode cX9_perform 65 = .ok (.iconst 1, 1) := by decide +kernel
theorem dX9_perform_66 : decode cX9_perform 66 = .ok (.iadd, 1) := by decide +kernel
theorem dX9_perform_67 : decode cX9_perform 67 = .ok (.iaload, 1) := by decide +kernel
theorem dX9_perform_68 : decode cX9_perform 68 = .ok (.istore_n 3, 1) := by decide +kernel
theorem dX9_perform_69 : decode cX9_perform 69 = .ok (.aload_n 0, 1) := by decide +kernel
theorem dX9_perform_70 : decode cX9_perform 70 = .ok (.getfield 40, 3) := by decide +kernel
theorem dX9_perform_73 : decode cX9_perform 73 = .ok (.iconst 5, 1) := by decide +kernel
theorem dX9_perform_74 : decode cX9_perform 74 = .ok (.iload_n 2, 1) := by decide +kernel
theorem dX9_perform_75 : decode cX9_perform 75 = .ok (.imul, 1) := by decide +kernel
theorem dX9_perform_76 : decode cX9_perform 76 = .ok (.iaload, 1) := by decide +kernel
theorem dX9_perform_77 : decode cX9_perform 77 = .ok (.bipush 115, 2) := by decide +kernel
theorem dX9_perform_79 : decode cX9_perform 79 = .ok (.if_icmp .ne 53, 3) := by decide +kernel
theorem dX9_perform_82 : decode cX9_perform 82 = .ok (.aload_n 0, 1) := by decide +kernel
theorem dX9_perform_83 : decode cX9_perform 83 = .ok (.iload_n 3, 1) := by decide +kernel
theorem dX9_perform_84 : decode cX9_perform 84 = .ok (.invokevirtual 147, 3) := by decide +kernel
theorem dX9_perform_87 : decode cX9_perform 87 = .ok (.ifCond .eq 45, 3) := by decide +kernel
theorem dX9_perform_90 : decode cX9_perform 90 = .ok (.aload_n 0, 1) := by decide +kernel
theorem dX9_perform_91 : decode cX9_perform 91 = .ok (.iload_n 3, 1) := by decide +kernel
theorem dX9_perform_92 : decode cX9_perform 92 = .ok (.invokevirtual 198, 3) := by decide +kernel
theorem dX9_perform_95 : decode cX9_perform 95 = .ok (.istore 4, 2) := by decide +kernel
theorem dX9_perform_97 : decode cX9_perform 97 = .ok (.aload_n 0, 1) := by decide +kernel
theorem dX9_perform_98 : decode cX9_perform 98 = .ok (.iconst 0, 1) := by decide +kernel
theorem dX9_perform_99 : decode cX9_perform 99 = .ok (.bipush 9, 2) := by decide +kernel
theorem dX9_perform_101 : decode cX9_perform 101 = .ok (.iload_n 2, 1) := by decide +kernel
theorem dX9_perform_102 : decode cX9_perform 102 = .ok (.invokevirtual 201, 3) := by decide +kernel
theorem dX9_perform_105 : decode cX9_perform 105 = .ok (.aload_n 0, 1) := by decide +kernel
theorem dX9_perform_106 : decode cX9_perform 106 = .ok (.iconst 1, 1) := by decide +kernel
theorem dX9_perform_107 : decode cX9_perform 107 = .ok (.iload_n 3, 1) := by decide +kernel
theorem dX9_perform_108 : decode cX9_perform 108 = .ok (.aload_n 0, 1) := by decide +kernel
theorem dX9_perform_109 : decode cX9_perform 109 = .ok (.getfield 7, 3) := by decide +kernel
theorem dX9_perform_112 : decode cX9_perform 112 = .ok (.iload_n 3, 1) := by decide +kernel
theorem dX9_perform_113 : decode cX9_perform 113 = .ok (.iconst 5, 1) := by decide +kernel
theorem dX9_perform_114 : decode cX9_perform 114 = .ok (.invokestatic 111, 3) := by decide +kernel
theorem dX9_perform_117 : decode cX9_perform 117 = .ok (.iaload, 1) := by decide +kernel
theorem dX9_perform_118 : decode cX9_perform 118 = .ok (.invokevirtual 201, 3) := by decide +kernel
theorem dX9_perform_121 : decode cX9_perform 121 = .ok (.aload_n 0, 1) := by decide +kernel
theorem dX9_perform_122 : decode cX9_perform 122 = .ok (.iconst 2, 1) := by decide +kernel
theorem dX9_perform_123 : decode cX9_perform 123 = .ok (.iload 4, 2) := by decide +kernel
theorem dX9_perform_125 : decode cX9_perform 125 = .ok (.aload_n 0, 1) := by decide +kernel
theorem dX9_perform_126 : decode cX9_perform 126 = .ok (.getfield 186, 3) := by decide +kernel
theorem dX9_perform_129 : decode cX9_perform 129 = .ok (.invokevirtual 201, 3) := by decide +kernel
theorem dX9_perform_132 : decode cX9_perform 132 = .ok (.aload_n 0, 1) := by decide +kernel
theorem dX9_perform_133 : decode cX9_perform 133 = .ok (.getfield 43, 3) := by decide +kernel
theorem dX9_perform_136 : decode cX9_perform 136 = .ok (.iconst 0, 1) := by decide +kernel
theorem dX9_perform_137 : decode cX9_perform 137 = .ok (.aload_n 0, 1) := by decide +kernel
theorem dX9_perform_138 : decode cX9_perform 138 = .ok (.getfield 7, 3) := by decide +kernel
theorem dX9_perform_141 : decode cX9_perform 141 = .ok (.iconst 0, 1) := by decide +kernel
theorem dX9_perform_142 : decode cX9_perform 142 = .ok (.invokestatic 57, 3) := by decide +kernel
theorem dX9_perform_145 : decode cX9_perform 145 = .ok (.aload_n 0, 1) := by decide +kernel
theorem dX9_perform_146 : decode cX9_perform 146 = .ok (.iconst 1, 1) := by decide +kernel
theorem dX9_perform_147 : decode cX9_perform 147 = .ok (.invokevirtual 144, 3) := by decide +kernel
theorem dX9_perform_150 : decode cX9_perform 150 = .ok (.ireturn, 1) := by decide +kernel
theorem dX9_perform_151 : decode cX9_perform 151 = .ok (.iinc 2 1, 3) := by decide +kernel
theorem dX9_perform_154 : decode cX9_perform 154 = .ok (.goto (-112), 3) := by decide +kernel
theorem dX9_perform_157 : decode cX9_perform 157 = .ok (.aload_n 0, 1) := by decide +kernel
theorem dX9_perform_158 : decode cX9_perform 158 = .ok (.aload_n 0, 1) := by decide +kernel
theorem dX9_perform_159 : decode cX9_perform 159 = .ok (.getfield 43, 3) := by decide +kernel
theorem dX9_perform_162 : decode cX9_perform 162 = .ok (.invokevirtual 73, 3) := by decide +kernel
theorem dX9_perform_165 : decode cX9_perform 165 = .ok (.aload_n 0, 1) := by decide +kernel
theorem dX9_perform_166 : decode cX9_perform 166 = .ok (.getfield 229, 3) := by decide +kernel
theorem dX9_perform_169 : decode cX9_perform 169 = .ok (.ireturn, 1) := by decide +kernel
theorem dJx00060_init_a7421_0 : decode cJx00060_init_a7421 0 = .ok (.aload_n 0, 1) := by decide +kernel
theorem dJx00060_init_a7421_1 : decode cJx00060_init_a7421 1 = .ok (.aload_n 1, 1) := by decide +kernel
theorem dJx00060_init_a7421_2 : decode cJx00060_init_a7421 2 = .ok (.invokespecial 7, 3) := by decide +kernel
theorem dJx00060_init_a7421_5 : decode cJx00060_init_a7421 5 = .ok (.return_, 1) := by decide +kernel
theorem dJ9_abs_0f7a4_0 : decode cJ9_abs_0f7a4 0 = .ok (.iload_n 0, 1) := by decide +kernel
theorem dJ9_abs_0f7a4_1 : decode cJ9_abs_0f7a4 1 = .ok (.ifCond .ge 8, 3) := by decide +kernel
theorem dJ9_abs_0f7a4_4 : decode cJ9_abs_0f7a4 4 = .ok (.iload_n 0, 1) := by decide +kernel
theorem dJ9_abs_0f7a4_5 : decode cJ9_abs_0f7a4 5 = .ok (.ineg, 1) := by decide +kernel
theorem dJ9_abs_0f7a4_6 : decode cJ9_abs_0f7a4 6 = .ok (.goto 4, 3) := by decide +kernel
theorem dJ9_abs_0f7a4_9 : decode cJ9_abs_0f7a4 9 = .ok (.iload_n 0, 1) := by decide +kernel
theorem dJ9_abs_0f7a4_10 : decode cJ9_abs_0f7a4 10 = .ok (.ireturn, 1) := by decide +kernel
theorem dJ9_max_7cf53_0 : decode cJ9_max_7cf53 0 = .ok (.iload_n 0, 1) := by decide +kernel
theorem dJ9_max_7cf53_1 : decode cJ9_max_7cf53 1 = .ok (.iload_n 1, 1) := by decide +kernel
theorem dJ9_max_7cf53_2 : decode cJ9_max_7cf53 2 = .ok (.if_icmp .lt 7, 3) := by decide +kernel
theorem dJ9_max_7cf53_5 : decode cJ9_max_7cf53 5 = .ok (.iload_n 0, 1) := by decide +kernel
theorem dJ9_max_7cf53_6 : decode cJ9_max_7cf53 6 = .ok (.goto 4, 3) := by decide +kernel
theorem dJ9_max_7cf53_9 : decode cJ9_max_7cf53 9 = .ok (.iload_n 1, 1) := by decide +kernel
theorem dJ9_max_7cf53_10 : decode cJ9_max_7cf53 10 = .ok (.ireturn, 1) := by decide +kernel
theorem dJ9_min_7cf53_0 : decode cJ9_min_7cf53 0 = .ok (.iload_n 0, 1) := by decide +kernel
theorem dJ9_min_7cf53_1 : decode cJ9_min_7cf53 1 = .ok (.iload_n 1, 1) := by decide +kernel
theorem dJ9_min_7cf53_2 : decode cJ9_min_7cf53 2 = .ok (.if_icmp .gt 7, 3) := by decide +kernel
theorem dJ9_min_7cf53_5 : decode cJ9_min_7cf53 5 = .ok (.iload_n 0, 1) := by decide +kernel
theorem dJ9_min_7cf53_6 : decode cJ9_min_7cf53 6 = .ok (.goto 4, 3) := by decide +kernel
theorem dJ9_min_7cf53_9 : decode cJ9_min_7cf53 9 = .ok (.iload_n 1, 1) := by decide +kernel
theorem dJ9_min_7cf53_10 : decode cJ9_min_7cf53 10 = .ok (.ireturn, 1) := by decide +kernel
set_option maxRecDepth 20000 in
theorem ggJ0_length_8abf5_J0_coder_7d493 : GoodIn wsJ0_length_8abf5 wsJ0_coder_7d493 := goodIn_r _ [6, 7, 8, 9, 10] (by decide +kernel) (by decide +kernel)
set_option maxRecDepth 20000 in
theorem gJ0_length_8abf5_J0_coder_7d493 : GoodIn wsJ0_length_8abf5 (wsV RJ0 335 RJ0 yJ0_coder_7d493 wsJ0_coder_7d493) := goodIn_app (goodIn_of _ (by decide +kernel)) ggJ0_length_8abf5_J0_coder_7d493
theorem dJ0_length_8abf5_0 : decode cJ0_length_8abf5 0 = .ok (.aload_n 0, 1) := by decide +kernel
theorem dJ0_length_8abf5_1 : decode cJ0_length_8abf5 1 = .ok (.getfield 9, 3) := by decide +kernel
theorem dJ0_length_8abf5_4 : decode cJ0_length_8abf5 4 = .ok (.arraylength, 1) := by decide +kernel
theorem dJ0_length_8abf5_5 : decode cJ0_length_8abf5 5 = .ok (.aload_n 0, 1) := by decide +kernel
theorem dJ0_length_8abf5_6 : decode cJ0_length_8abf5 6 = .ok (.invokevirtual 335, 3) := by decide +kernel
theorem dJ0_length_8abf5_9 : decode cJ0_length_8abf5 9 = .ok (.ishr, 1) := by decide +kernel
theorem dJ0_length_8abf5_10 : decode cJ0_length_8abf5 10 = .ok (.ireturn, 1) := by decide +kernel
theorem dJ0_isEmpty_aae02_0 : decode cJ0_isEmpty_aae02 0 = .ok (.aload_n 0, 1) := by decide +kernel
theorem dJ0_isEmpty_aae02_1 : decode cJ0_isEmpty_aae02 1 = .ok (.getfield 9, 3) := by decide +kernel
theorem dJ0_isEmpty_aae02_4 : decode cJ0_isEmpty_aae02 4 = .ok (.arraylength, 1) := by decide +kernel
theorem dJ0_isEmpty_aae02_5 : decode cJ0_isEmpty_aae02 5 = .ok (.ifCond .ne 7, 3) := by decide +kernel
theorem dJ0_isEmpty_aae02_8 : decode cJ0_isEmpty_aae02 8 = .ok (.iconst 1, 1) := by decide +kernel
theorem dJ0_isEmpty_aae02_9 : decode cJ0_isEmpty_aae02 9 = .ok (.goto 4, 3) := by decide +kernel
theorem dJ0_isEmpty_aae02_12 : decode cJ0_isEmpty_aae02 12 = .ok (.iconst 0, 1) := by decide +kernel
theorem dJ0_isEmpty_aae02_13 : decode cJ0_isEmpty_aae02 13 = .ok (.ireturn, 1) := by decide +kernel
set_option maxRecDepth 20000 in
theorem ggJ0_charAt_5068e_J0_isLatin1_aae02 : GoodIn wsJ0_charAt_5068e wsJ0_isLatin1_aae02 := goodIn_r _ [6, 7, 8, 38, 39] (by decide +kernel) (by decide +kernel)
set_option maxRecDepth 20000 in
theorem gJ0_charAt_5068e_J0_isLatin1_aae02 : GoodIn wsJ0_charAt_5068e (wsV RJ0 492 RJ0 yJ0_isLatin1_aae02 wsJ0_isLatin1_aae02) := goodIn_app (goodIn_of _ (by decide +kernel)) ggJ0_charAt_5068e_J0_isLatin1_aae02
set_option maxRecDepth 20000 in
theorem ggJ0_charAt_5068e_J1_charAt_3b067 : GoodIn wsJ0_charAt_5068e wsJ1_charAt_3b067 := goodIn_r _ [12, 13, 14, 5, 15, 16, 17, 18, 19, 20] (by decide +kernel) (by decide +kernel)
set_option maxRecDepth 20000 in
theorem gJ0_charAt_5068e_J1_charAt_3b067 : GoodIn wsJ0_charAt_5068e (va_wsS RJ0 495 yJ1_charAt_3b067 wsJ1_charAt_3b067) := goodIn_app (goodIn_of _ (by decide +kernel)) ggJ0_charAt_5068e_J1_charAt_3b067
set_option maxRecDepth 20000 in
theorem ggJ0_charAt_5068e_J2_charAt_3b067 : GoodIn wsJ0_charAt_5068e wsJ2_charAt_3b067 := goodIn_r _ [24, 25, 26, 23, 27, 28, 29, 30, 31, 14, 5, 15, 16, 17, 18, 19, 20, 32, 33, 34, 35, 36, 37] (by decide +kernel) (by decide +kernel)
set_option maxRecDepth 20000 in
theorem gJ0_charAt_5068e_J2_charAt_3b067 : GoodIn wsJ0_charAt_5068e (va_wsS RJ0 498 yJ2_charAt_3b067 wsJ2_charAt_3b067) := goodIn_app (goodIn_of _ (by decide +kernel)) ggJ0_charAt_5068e_J2_charAt_3b067
theorem dJ0_charAt_5068e_0 : decode cJ0_charAt_5068e 0 = .ok (.aload_n 0, 1) := by decide +kernel
theorem dJ0_charAt_5068e_1 : decode cJ0_charAt_5068e 1 = .ok (.invokevirtual 492, 3) := by decide +kernel
theorem dJ0_charAt_5068e_4 : decode cJ0_charAt_5068e 4 = .ok (.ifCond .eq 12, 3) := by decide +kernel
theorem dJ0_charAt_5068e_7 : decode cJ0_charAt_5068e 7 = .ok (.aload_n 0, 1) := by decide +kernel
theorem dJ0_charAt_5068e_8 : decode cJ0_charAt_5068e 8 = .ok (.getfield 9, 3) := by decide +kernel
theorem dJ0_charAt_5068e_11 : decode cJ0_charAt_5068e 11 = .ok (.iload_n 1, 1) := by decide +kernel
theorem dJ0_charAt_5068e_12 : decode cJ0_charAt_5068e 12 = .ok (.invokestatic 495, 3) := by decide +kernel
theorem dJ0_charAt_5068e_15 : decode cJ0_charAt_5068e 15 = .ok (.ireturn, 1) := by decide +kernel
theorem dJ0_charAt_5068e_16 : decode cJ0_charAt_5068e 16 = .ok (.aload_n 0, 1) := by decide +kernel
theorem dJ0_charAt_5068e_17 : decode cJ0_charAt_5068e 17 = .ok (.getfield 9, 3) := by decide +kernel
theorem dJ0_charAt_5068e_20 : decode cJ0_charAt_5068e 20 = .ok (.iload_n 1, 1) := by decide +kernel
theorem dJ0_charAt_5068e_21 : decode cJ0_charAt_5068e 21 = .ok (.invokestatic 498, 3) := by decide +kernel
theorem dJ0_charAt_5068e_24 : decode cJ0_charAt_5068e 24 = .ok (.ireturn, 1) := by decide +kernel
theorem dJ0_coder_7d493_0 : decode cJ0_coder_7d493 0 = .ok (.getstatic 38, 3) := by decide +kernel
theorem dJ0_coder_7d493_3 : decode cJ0_coder_7d493 3 = .ok (.ifCond .eq 10, 3) := by decide +kernel
theorem dJ0_coder_7d493_6 : decode cJ0_coder_7d493 6 = .ok (.aload_n 0, 1) := by decide +kernel
theorem dJ0_coder_7d493_7 : decode cJ0_coder_7d493 7 = .ok (.getfield 15, 3) := by decide +kernel
theorem dJ0_coder_7d493_10 : decode cJ0_coder_7d493 10 = .ok (.goto 4, 3) := by decide +kernel
theorem dJ0_coder_7d493_13 : decode cJ0_coder_7d493 13 = .ok (.iconst 1, 1) := by decide +kernel
theorem dJ0_coder_7d493_14 : decode cJ0_coder_7d493 14 = .ok (.ireturn, 1) := by decide +kernel
theorem dJ0_isLatin1_aae02_0 : decode cJ0_isLatin1_aae02 0 = .ok (.getstatic 38, 3) := by decide +kernel
theorem dJ0_isLatin1_aae02_3 : decode cJ0_isLatin1_aae02 3 = .ok (.ifCond .eq 14, 3) := by decide +kernel
theorem dJ0_isLatin1_aae02_6 : decode cJ0_isLatin1_aae02 6 = .ok (.aload_n 0, 1) := by decide +kernel
theorem dJ0_isLatin1_aae02_7 : decode cJ0_isLatin1_aae02 7 = .ok (.getfield 15, 3) := by decide +kernel
theorem dJ0_isLatin1_aae02_10 : decode cJ0_isLatin1_aae02 10 = .ok (.ifCond .ne 7, 3) := by decide +kernel
theorem dJ0_isLatin1_aae02_13 : decode cJ0_isLatin1_aae02 13 = .ok (.iconst 1, 1) := by decide +kernel
theorem dJ0_isLatin1_aae02_14 : decode cJ0_isLatin1_aae02 14 = .ok (.goto 4, 3) := by decide +kernel
theorem dJ0_isLatin1_aae02_17 : decode cJ0_isLatin1_aae02 17 = .ok (.iconst 0, 1) := by decide +kernel
theorem dJ0_isLatin1_aae02_18 : decode cJ0_isLatin1_aae02 18 = .ok (.ireturn, 1) := by decide +kernel
set_option maxRecDepth 20000 in
theorem ggJ0_checkIndex_df160_J3_checkIndex_8e157 : GoodIn wsJ0_checkIndex_df160 wsJ3_checkIndex_8e157 := goodIn_r _ [5] (by decide +kernel) (by decide +kernel)
set_option maxRecDepth 20000 in
theorem gJ0_checkIndex_df160_J3_checkIndex_8e157 : GoodIn wsJ0_checkIndex_df160 (va_wsS RJ0 1059 yJ3_checkIndex_8e157 wsJ3_checkIndex_8e157) := goodIn_app (goodIn_of _ (by decide +kernel)) ggJ0_checkIndex_df160_J3_checkIndex_8e157
theorem dJ0_checkIndex_df160_0 : decode cJ0_checkIndex_df160 0 = .ok (.iload_n 0, 1) := by decide +kernel
theorem dJ0_checkIndex_df160_1 : decode cJ0_checkIndex_df160 1 = .ok (.iload_n 1, 1) := by decide +kernel
theorem dJ0_checkIndex_df160_2 : decode cJ0_checkIndex_df160 2 = .ok (.getstatic 1053, 3) := by decide +kernel
theorem dJ0_checkIndex_df160_5 : decode cJ0_checkIndex_df160 5 = .ok (.invokestatic 1059, 3) := by decide +kernel
theorem dJ0_checkIndex_df160_8 : decode cJ0_checkIndex_df160 8 = .ok (.pop, 1) := by decide +kernel
theorem dJ0_checkIndex_df160_9 : decode cJ0_checkIndex_df160 9 = .ok (.return_, 1) := by decide +kernel
set_option maxRecDepth 20000 in
theorem ggJ1_charAt_3b067_J0_checkIndex_df160 : GoodIn wsJ1_charAt_3b067 wsJ0_checkIndex_df160 := goodIn_r _ [4, 5, 6, 7, 8, 9] (by decide +kernel) (by decide +kernel)
set_option maxRecDepth 20000 in
theorem gJ1_charAt_3b067_J0_checkIndex_df160 : GoodIn wsJ1_charAt_3b067 (va_wsS RJ1 9 yJ0_checkIndex_df160 wsJ0_checkIndex_df160) := goodIn_app (goodIn_of _ (by decide +kernel)) ggJ1_charAt_3b067_J0_checkIndex_df160
theorem dJ1_charAt_3b067_0 : decode cJ1_charAt_3b067 0 = .ok (.iload_n 1, 1) := by decide +kernel
theorem dJ1_charAt_3b067_1 : decode cJ1_charAt_3b067 1 = .ok (.aload_n 0, 1) := by decide +kernel
theorem dJ1_charAt_3b067_2 : decode cJ1_charAt_3b067 2 = .ok (.arraylength, 1) := by decide +kernel
theorem dJ1_charAt_3b067_3 : decode cJ1_charAt_3b067 3 = .ok (.invokestatic 9, 3) := by decide +kernel
theorem dJ1_charAt_3b067_6 : decode cJ1_charAt_3b067 6 = .ok (.aload_n 0, 1) := by decide +kernel
theorem dJ1_charAt_3b067_7 : decode cJ1_charAt_3b067 7 = .ok (.iload_n 1, 1) := by decide +kernel
theorem dJ1_charAt_3b067_8 : decode cJ1_charAt_3b067 8 = .ok (.baload, 1) := by decide +kernel
theorem dJ1_charAt_3b067_9 : decode cJ1_charAt_3b067 9 = .ok (.sipush 255, 3) := by decide +kernel
theorem dJ1_charAt_3b067_12 : decode cJ1_charAt_3b067 12 = .ok (.iand, 1) := by decide +kernel
theorem dJ1_charAt_3b067_13 : decode cJ1_charAt_3b067 13 = .ok (.i2c, 1) := by decide +kernel
theorem dJ1_charAt_3b067_14 : decode cJ1_charAt_3b067 14 = .ok (.ireturn, 1) := by decide +kernel
set_option maxRecDepth 20000 in
theorem ggJ2_getChar_3b067_J2_length_9d52b : GoodIn wsJ2_getChar_3b067 wsJ2_length_9d52b := goodIn_r _ [7] (by decide +kernel) (by decide +kernel)
set_option maxRecDepth 20000 in
theorem gJ2_getChar_3b067_J2_length_9d52b : GoodIn wsJ2_getChar_3b067 (va_wsS RJ2 48 yJ2_length_9d52b wsJ2_length_9d52b) := goodIn_app (goodIn_of _ (by decide +kernel)) ggJ2_getChar_3b067_J2_length_9d52b
theorem dJ2_getChar_3b067_0 : decode cJ2_getChar_3b067 0 = .ok (.getstatic 44, 3) := by decide +kernel
theorem dJ2_getChar_3b067_3 : decode cJ2_getChar_3b067 3 = .ok (.ifCond .ne 25, 3) := by decide +kernel
theorem dJ2_getChar_3b067_6 : decode cJ2_getChar_3b067 6 = .ok (.iload_n 1, 1) := by decide +kernel
theorem dJ2_getChar_3b067_7 : decode cJ2_getChar_3b067 7 = .ok (.ifCond .lt 11, 3) := by decide +kernel
theorem dJ2_getChar_3b067_10 : decode cJ2_getChar_3b067 10 = .ok (.iload_n 1, 1) := by decide +kernel
theorem dJ2_getChar_3b067_11 : decode cJ2_getChar_3b067 11 = .ok (.aload_n 0, 1) := by decide +kernel
theorem dJ2_getChar_3b067_12 : decode cJ2_getChar_3b067 12 = .ok (.invokestatic 48, 3) := by decide +kernel
theorem dJ2_getChar_3b067_15 : decode cJ2_getChar_3b067 15 = .ok (.if_icmp .lt 13, 3) := by decide +kernel
theorem dJ2_getChar_3b067_18 : decode cJ2_getChar_3b067 18 = .ok (.new 52, 3) := by decide +kernel
theorem dJ2_getChar_3b067_21 : decode cJ2_getChar_3b067 21 = .ok (.dup, 1) := by decide +kernel
theorem dJ2_getChar_3b067_22 : decode cJ2_getChar_3b067 22 = .ok (.ldc 54, 2) := by decide +kernel
theorem dJ2_getChar_3b067_24 : decode cJ2_getChar_3b067 24 = .ok (.invokespecial 56, 3) := by decide +kernel
theorem dJ2_getChar_3b067_27 : decode cJ2_getChar_3b067 27 = .ok (.athrow, 1) := by decide +kernel
theorem dJ2_getChar_3b067_28 : decode cJ2_getChar_3b067 28 = .ok (.iload_n 1, 1) := by decide +kernel
theorem dJ2_getChar_3b067_29 : decode cJ2_getChar_3b067 29 = .ok (.iconst 1, 1) := by decide +kernel
theorem dJ2_getChar_3b067_30 : decode cJ2_getChar_3b067 30 = .ok (.ishl, 1) := by decide +kernel
theorem dJ2_getChar_3b067_31 : decode cJ2_getChar_3b067 31 = .ok (.istore_n 1, 1) := by decide +kernel
theorem dJ2_getChar_3b067_32 : decode cJ2_getChar_3b067 32 = .ok (.aload_n 0, 1) := by decide +kernel
theorem dJ2_getChar_3b067_33 : decode cJ2_getChar_3b067 33 = .ok (.iload_n 1, 1) := by decide +kernel
theorem dJ2_getChar_3b067_34 : decode cJ2_getChar_3b067 34 = .ok (.iinc 1 1, 3) := by decide +kernel
theorem dJ2_getChar_3b067_37 : decode cJ2_getChar_3b067 37 = .ok (.baload, 1) := by decide +kernel
theorem dJ2_getChar_3b067_38 : decode cJ2_getChar_3b067 38 = .ok (.sipush 255, 3) := by decide +kernel
theorem dJ2_getChar_3b067_41 : decode cJ2_getChar_3b067 41 = .ok (.iand, 1) := by decide +kernel
theorem dJ2_getChar_3b067_42 : decode cJ2_getChar_3b067 42 = .ok (.getstatic 59, 3) := by decide +kernel
theorem dJ2_getChar_3b067_45 : decode cJ2_getChar_3b067 45 = .ok (.ishl, 1) := by decide +kernel
theorem dJ2_getChar_3b067_46 : decode cJ2_getChar_3b067 46 = .ok (.aload_n 0, 1) := by decide +kernel
theorem dJ2_getChar_3b067_47 : decode cJ2_getChar_3b067 47 = .ok (.iload_n 1, 1) := by decide +kernel
theorem dJ2_getChar_3b067_48 : decode cJ2_getChar_3b067 48 = .ok (.baload, 1) := by decide +kernel
theorem dJ2_getChar_3b067_49 : decode cJ2_getChar_3b067 49 = .ok (.sipush 255, 3) := by decide +kernel
theorem dJ2_getChar_3b067_52 : decode cJ2_getChar_3b067 52 = .ok (.iand, 1) := by decide +kernel
theorem dJ2_getChar_3b067_53 : decode cJ2_getChar_3b067 53 = .ok (.getstatic 63, 3) := by decide +kernel
theorem dJ2_getChar_3b067_56 : decode cJ2_getChar_3b067 56 = .ok (.ishl, 1) := by decide +kernel
theorem dJ2_getChar_3b067_57 : decode cJ2_getChar_3b067 57 = .ok (.ior, 1) := by decide +kernel
theorem dJ2_getChar_3b067_58 : decode cJ2_getChar_3b067 58 = .ok (.i2c, 1) := by decide +kernel
theorem dJ2_getChar_3b067_59 : decode cJ2_getChar_3b067 59 = .ok (.ireturn, 1) := by decide +kernel
theorem dJ2_length_9d52b_0 : decode cJ2_length_9d52b 0 = .ok (.aload_n 0, 1) := by decide +kernel
theorem dJ2_length_9d52b_1 : decode cJ2_length_9d52b 1 = .ok (.arraylength, 1) := by decide +kernel
theorem dJ2_length_9d52b_2 : decode cJ2_length_9d52b 2 = .ok (.iconst 1, 1) := by decide +kernel
theorem dJ2_length_9d52b_3 : decode cJ2_length_9d52b 3 = .ok (.ishr, 1) := by decide +kernel
theorem dJ2_length_9d52b_4 : decode cJ2_length_9d52b 4 = .ok (.ireturn, 1) := by decide +kernel
set_option maxRecDepth 20000 in
theorem ggJ2_charAt_3b067_J2_checkIndex_2214a : GoodIn wsJ2_charAt_3b067 wsJ2_checkIndex_2214a := goodIn_r _ [4, 5, 6, 3, 7, 8, 9, 10, 11, 12, 13, 14, 15, 16] (by decide +kernel) (by decide +kernel)
set_option maxRecDepth 20000 in
theorem gJ2_charAt_3b067_J2_checkIndex_2214a : GoodIn wsJ2_charAt_3b067 (va_wsS RJ2 67 yJ2_checkIndex_2214a wsJ2_checkIndex_2214a) := goodIn_app (goodIn_of _ (by decide +kernel)) ggJ2_charAt_3b067_J2_checkIndex_2214a
set_option maxRecDepth 20000 in
theorem ggJ2_charAt_3b067_J2_getChar_3b067 : GoodIn wsJ2_charAt_3b067 wsJ2_getChar_3b067 := goodIn_r _ [19, 20, 21, 22, 5, 6, 3, 7] (by decide +kernel) (by decide +kernel)
set_option maxRecDepth 20000 in
theorem gJ2_charAt_3b067_J2_getChar_3b067 : GoodIn wsJ2_charAt_3b067 (va_wsS RJ2 71 yJ2_getChar_3b067 wsJ2_getChar_3b067) := goodIn_app (goodIn_of _ (by decide +kernel)) ggJ2_charAt_3b067_J2_getChar_3b067
theorem dJ2_charAt_3b067_0 : decode cJ2_charAt_3b067 0 = .ok (.iload_n 1, 1) := by decide +kernel
theorem dJ2_charAt_3b067_1 : decode cJ2_charAt_3b067 1 = .ok (.aload_n 0, 1) := by decide +kernel
theorem dJ2_charAt_3b067_2 : decode cJ2_charAt_3b067 2 = .ok (.invokestatic 67, 3) := by decide +kernel
theorem dJ2_charAt_3b067_5 : decode cJ2_charAt_3b067 5 = .ok (.aload_n 0, 1) := by decide +kernel
theorem dJ2_charAt_3b067_6 : decode cJ2_charAt_3b067 6 = .ok (.iload_n 1, 1) := by decide +kernel
theorem dJ2_charAt_3b067_7 : decode cJ2_charAt_3b067 7 = .ok (.invokestatic 71, 3) := by decide +kernel
theorem dJ2_charAt_3b067_10 : decode cJ2_charAt_3b067 10 = .ok (.ireturn, 1) := by decide +kernel
set_option maxRecDepth 20000 in
theorem ggJ2_checkIndex_2214a_J2_length_9d52b : GoodIn wsJ2_checkIndex_2214a wsJ2_length_9d52b := goodIn_r _ [4] (by decide +kernel) (by decide +kernel)
set_option maxRecDepth 20000 in
theorem gJ2_checkIndex_2214a_J2_length_9d52b : GoodIn wsJ2_checkIndex_2214a (va_wsS RJ2 48 yJ2_length_9d52b wsJ2_length_9d52b) := goodIn_app (goodIn_of _ (by decide +kernel)) ggJ2_checkIndex_2214a_J2_length_9d52b
set_option maxRecDepth 20000 in
theorem ggJ2_checkIndex_2214a_J0_checkIndex_df160 : GoodIn wsJ2_checkIndex_2214a wsJ0_checkIndex_df160 := goodIn_r _ [8, 9, 10, 11, 12, 13] (by decide +kernel) (by decide +kernel)
set_option maxRecDepth 20000 in
theorem gJ2_checkIndex_2214a_J0_checkIndex_df160 : GoodIn wsJ2_checkIndex_2214a (va_wsS RJ2 414 yJ0_checkIndex_df160 wsJ0_checkIndex_df160) := goodIn_app (goodIn_of _ (by decide +kernel)) ggJ2_checkIndex_2214a_J0_checkIndex_df160
theorem dJ2_checkIndex_2214a_0 : decode cJ2_checkIndex_2214a 0 = .ok (.iload_n 0, 1) := by decide +kernel
theorem dJ2_checkIndex_2214a_1 : decode cJ2_checkIndex_2214a 1 = .ok (.aload_n 1, 1) := by decide +kernel
theorem dJ2_checkIndex_2214a_2 : decode cJ2_checkIndex_2214a 2 = .ok (.invokestatic 48, 3) := by decide +kernel
theorem dJ2_checkIndex_2214a_5 : decode cJ2_checkIndex_2214a 5 = .ok (.invokestatic 414, 3) := by decide +kernel
theorem dJ2_checkIndex_2214a_8 : decode cJ2_checkIndex_2214a 8 = .ok (.return_, 1) := by decide +kernel
theorem dJ3_checkIndex_8e157_0 : decode cJ3_checkIndex_8e157 0 = .ok (.iload_n 0, 1) := by decide +kernel
theorem dJ3_checkIndex_8e157_1 : decode cJ3_checkIndex_8e157 1 = .ok (.ifCond .lt 8, 3) := by decide +kernel
theorem dJ3_checkIndex_8e157_4 : decode cJ3_checkIndex_8e157 4 = .ok (.iload_n 0, 1) := by decide +kernel
theorem dJ3_checkIndex_8e157_5 : decode cJ3_checkIndex_8e157 5 = .ok (.iload_n 1, 1) := by decide +kernel
theorem dJ3_checkIndex_8e157_6 : decode cJ3_checkIndex_8e157 6 = .ok (.if_icmp .lt 10, 3) := by decide +kernel
theorem dJ3_checkIndex_8e157_9 : decode cJ3_checkIndex_8e157 9 = .ok (.aload_n 2, 1) := by decide +kernel
theorem dJ3_checkIndex_8e157_10 : decode cJ3_checkIndex_8e157 10 = .ok (.iload_n 0, 1) := by decide +kernel
theorem dJ3_checkIndex_8e157_11 : decode cJ3_checkIndex_8e157 11 = .ok (.iload_n 1, 1) := by decide +kernel
theorem dJ3_checkIndex_8e157_12 : decode cJ3_checkIndex_8e157 12 = .ok (.invokestatic 95, 3) := by decide +kernel
theorem dJ3_checkIndex_8e157_15 : decode cJ3_checkIndex_8e157 15 = .ok (.athrow, 1) := by decide +kernel
theorem dJ3_checkIndex_8e157_16 : decode cJ3_checkIndex_8e157 16 = .ok (.iload_n 0, 1) := by decide +kernel
theorem dJ3_checkIndex_8e157_17 : decode cJ3_checkIndex_8e157 17 = .ok (.ireturn, 1) := by decide +kernel
set_option maxRecDepth 20000 in
theorem ggL_addMachine_X8_addMachine : GoodIn wsL_addMachine wsX8_addMachine := goodIn_ca (goodIn_ca (goodIn_ca (goodIn_ca (goodIn_r _ [8, 9, 10, 11, 12, 13, 14, 15, 16, 17, 7, 18, 19, 20, 21, 22, 23, 24, 25, 26, 27, 28, 29, 30, 31, 32, 33, 34, 35, 36, 37, 38, 39, 40, 41, 42, 43, 44, 45, 46, 47, 48, 49, 50, 51, 52, 53, 54, 55, 56, 57, 58, 59, 60, 61, 62, 63, 64, 65, 66, 67, 68, 69, 70, 71, 72, 73, 74, 75, 76, 77, 78, 79, 80, 81, 82, 83, 84, 85, 86, 87, 88, 89, 90, 91, 92, 93, 94, 95, 96, 97, 98, 99, 100, 101, 102, 103, 104, 105, 106, 107, 108, 109, 110, 111, 112, 113, 114, 115, 116, 117, 118, 119, 120, 121, 122, 123, 124, 125] (by decide +kernel) (by decide +kernel)) (goodIn_sub (fun _ h => List.mem_cons_of_mem _ (List.mem_append_left _ (List.mem_append_left _ (List.mem_append_right _ h)))) (by decide +kernel))) (goodIn_sub (fun _ h => List.mem_cons_of_mem _ (List.mem_append_left _ (List.mem_append_right _ h))) (by decide +kernel))) (goodIn_sub (fun _ h => List.mem_cons_of_mem _ (List.mem_append_right _ h)) (by decide +kernel))) (goodIn_sub (fun _ h => List.mem_cons_of_mem _ (List.mem_append_left _ (List.mem_append_left _ (List.mem_append_left _ (List.mem_append_right _ h))))) (by decide +kernel))
set_option maxRecDepth 20000 in
theorem gL_addMachine_X8_addMachine : GoodIn wsL_addMachine (wsV RL 7 RX8 yX8_addMachine wsX8_addMachine) := goodIn_app (goodIn_of _ (by decide +kernel)) ggL_addMachine_X8_addMachine
theorem dL_addMachine_0 : decode cL_addMachine 0 = .ok (.aload 6, 2) := by decide +kernel
theorem dL_addMachine_2 : decode cL_addMachine 2 = .ok (.iconst 0, 1) := by decide +kernel
theorem dL_addMachine_3 : decode cL_addMachine 3 = .ok (.aload_n 0, 1) := by decide +kernel
theorem dL_addMachine_4 : decode cL_addMachine 4 = .ok (.iload_n 1, 1) := by decide +kernel
theorem dL_addMachine_5 : decode cL_addMachine 5 = .ok (.iload_n 2, 1) := by decide +kernel
theorem dL_addMachine_6 : decode cL_addMachine 6 = .ok (.iload_n 3, 1) := by decide +kernel
theorem dL_addMachine_7 : decode cL_addMachine 7 = .ok (.iload 4, 2) := by decide +kernel
theorem dL_addMachine_9 : decode cL_addMachine 9 = .ok (.iload 5, 2) := by decide +kernel
theorem dL_addMachine_11 : decode cL_addMachine 11 = .ok (.invokevirtual 7, 3) := by decide +kernel
theorem dL_addMachine_14 : decode cL_addMachine 14 = .ok (.i2l, 1) := by decide +kernel
theorem dL_addMachine_15 : decode cL_addMachine 15 = .ok (.lastore, 1) := by decide +kernel
theorem dL_addMachine_16 : decode cL_addMachine 16 = .ok (.goto 15, 3) := by decide +kernel
theorem dL_addMachine_19 : decode cL_addMachine 19 = .ok (.astore 7, 2) := by decide +kernel
theorem dL_addMachine_21 : decode cL_addMachine 21 = .ok (.iconst 1, 1) := by decide +kernel
theorem dL_addMachine_22 : decode cL_addMachine 22 = .ok (.ireturn, 1) := by decide +kernel
theorem dL_addMachine_23 : decode cL_addMachine 23 = .ok (.astore 7, 2) := by decide +kernel
theorem dL_addMachine_25 : decode cL_addMachine 25 = .ok (.iconst 2, 1) := by decide +kernel
theorem dL_addMachine_26 : decode cL_addMachine 26 = .ok (.ireturn, 1) := by decide +kernel
theorem dL_addMachine_27 : decode cL_addMachine 27 = .ok (.astore 7, 2) := by decide +kernel
theorem dL_addMachine_29 : decode cL_addMachine 29 = .ok (.iconst 3, 1) := by decide +kernel
theorem dL_addMachine_30 : decode cL_addMachine 30 = .ok (.ireturn, 1) := by decide +kernel
theorem dL_addMachine_31 : decode cL_addMachine 31 = .ok (.iconst 0, 1) := by decide +kernel
theorem dL_addMachine_32 : decode cL_addMachine 32 = .ok (.ireturn, 1) := by decide +kernel
set_option maxRecDepth 20000 in
theorem ggL_removeMachine_X8_removeMachine : GoodIn wsL_removeMachine wsX8_removeMachine := goodIn_ca (goodIn_ca (goodIn_r _ [6, 7, 8, 9, 10, 11, 12, 13, 14, 15, 16, 17, 18, 19, 20, 21, 22, 23, 24, 25, 26, 27, 28, 29, 30, 31, 32, 33, 34, 35, 36, 37, 38, 39, 40, 41, 42, 43, 44, 45, 46, 47, 48, 49, 50, 51, 52, 53, 54, 55, 56, 57, 58, 59, 60, 61, 62, 63, 64, 65, 66, 67, 68, 69, 70, 71, 72, 73, 74, 75, 76, 77, 78, 79, 80, 81, 82, 83, 84, 85, 86, 87, 88, 89, 90, 91, 92, 93, 94, 95, 96, 97, 98, 99, 100, 101, 102, 103, 104, 105, 106, 107, 108, 109, 110, 111, 112, 113, 114, 115, 116, 117, 118, 119] (by decide +kernel) (by decide +kernel)) (goodIn_sub (fun _ h => List.mem_cons_of_mem _ (List.mem_append_right _ h)) (by decide +kernel))) (goodIn_sub (fun _ h => List.mem_cons_of_mem _ (List.mem_append_left _ (List.mem_append_right _ h))) (by decide +kernel))
set_option maxRecDepth 20000 in
theorem gL_removeMachine_X8_removeMachine : GoodIn wsL_removeMachine (wsV RL 19 RX8 yX8_removeMachine wsX8_removeMachine) := goodIn_app (goodIn_of _ (by decide +kernel)) ggL_removeMachine_X8_removeMachine
theorem dL_removeMachine_0 : decode cL_removeMachine 0 = .ok (.aload_n 1, 1) := by decide +kernel
theorem dL_removeMachine_1 : decode cL_removeMachine 1 = .ok (.iconst 0, 1) := by decide +kernel
theorem dL_removeMachine_2 : decode cL_removeMachine 2 = .ok (.aload_n 0, 1) := by decide +kernel
theorem dL_removeMachine_3 : decode cL_removeMachine 3 = .ok (.invokevirtual 19, 3) := by decide +kernel
theorem dL_removeMachine_6 : decode cL_removeMachine 6 = .ok (.i2l, 1) := by decide +kernel
theorem dL_removeMachine_7 : decode cL_removeMachine 7 = .ok (.lastore, 1) := by decide +kernel
theorem dL_removeMachine_8 : decode cL_removeMachine 8 = .ok (.goto 6, 3) := by decide +kernel
theorem dL_removeMachine_11 : decode cL_removeMachine 11 = .ok (.astore_n 2, 1) := by decide +kernel
theorem dL_removeMachine_12 : decode cL_removeMachine 12 = .ok (.iconst 1, 1) := by decide +kernel
theorem dL_removeMachine_13 : decode cL_removeMachine 13 = .ok (.ireturn, 1) := by decide +kernel
theorem dL_removeMachine_14 : decode cL_removeMachine 14 = .ok (.iconst 0, 1) := by decide +kernel
theorem dL_removeMachine_15 : decode cL_removeMachine 15 = .ok (.ireturn, 1) := by decide +kernel
set_option maxRecDepth 20000 in
theorem ggL_exchange_X8_exchange : GoodIn wsL_exchange wsX8_exchange := goodIn_ca (goodIn_ca (goodIn_r _ [6, 7, 8, 9, 10, 11, 12, 13, 14, 15, 16, 17, 5, 18, 19, 20, 21, 22, 23, 24, 25, 26, 27, 28, 29, 30, 31, 32, 33, 34, 35, 36, 37, 38, 39, 40, 41, 42, 43, 44, 45, 46, 47, 48, 49, 50, 51, 52, 53, 54, 55, 56, 57, 58, 59, 60, 61, 62, 63, 64, 65, 66, 67, 68, 69, 70, 71, 72, 73, 74, 75, 76, 77, 78, 79, 80, 81, 82, 83, 84, 85, 86, 87, 88, 89, 90, 91, 92, 93, 94, 95, 96, 97, 98, 99, 100, 101, 102, 103, 104, 105, 106, 107, 108, 109, 110, 111, 112, 113, 114, 115, 116, 117, 118] (by decide +kernel) (by decide +kernel)) (goodIn_sub (fun _ h => List.mem_cons_of_mem _ (List.mem_append_right _ h)) (by decide +kernel))) (goodIn_sub (fun _ h => List.mem_cons_of_mem _ (List.mem_append_left _ (List.mem_append_right _ h))) (by decide +kernel))
set_option maxRecDepth 20000 in
theorem gL_exchange_X8_exchange : GoodIn wsL_exchange (wsV RL 25 RX8 yX8_exchange wsX8_exchange) := goodIn_app (goodIn_of _ (by decide +kernel)) ggL_exchange_X8_exchange
theorem dL_exchange_0 : decode cL_exchange 0 = .ok (.aload_n 3, 1) := by decide +kernel
theorem dL_exchange_1 : decode cL_exchange 1 = .ok (.iconst 0, 1) := by decide +kernel
theorem dL_exchange_2 : decode cL_exchange 2 = .ok (.aload_n 0, 1) := by decide +kernel
theorem dL_exchange_3 : decode cL_exchange 3 = .ok (.iload_n 1, 1) := by decide +kernel
theorem dL_exchange_4 : decode cL_exchange 4 = .ok (.iload_n 2, 1) := by decide +kernel
theorem dL_exchange_5 : decode cL_exchange 5 = .ok (.invokevirtual 25, 3) := by decide +kernel
theorem dL_exchange_8 : decode cL_exchange 8 = .ok (.i2l, 1) := by decide +kernel
theorem dL_exchange_9 : decode cL_exchange 9 = .ok (.lastore, 1) := by decide +kernel
theorem dL_exchange_10 : decode cL_exchange 10 = .ok (.goto 7, 3) := by decide +kernel
theorem dL_exchange_13 : decode cL_exchange 13 = .ok (.astore 4, 2) := by decide +kernel
theorem dL_exchange_15 : decode cL_exchange 15 = .ok (.iconst 1, 1) := by decide +kernel
theorem dL_exchange_16 : decode cL_exchange 16 = .ok (.ireturn, 1) := by decide +kernel
theorem dL_exchange_17 : decode cL_exchange 17 = .ok (.iconst 0, 1) := by decide +kernel
theorem dL_exchange_18 : decode cL_exchange 18 = .ok (.ireturn, 1) := by decide +kernel
set_option maxRecDepth 20000 in
theorem ggL_setMachine_X8_setMachine : GoodIn wsL_setMachine wsX8_setMachine := goodIn_ca (goodIn_ca (goodIn_ca (goodIn_r _ [7, 8, 9, 10, 11, 12, 13, 14, 15, 6, 16, 17, 18, 19, 20, 21, 22, 23, 24, 25, 26, 27, 28, 29, 30, 31, 32, 33, 34, 35, 36, 37, 38, 39, 40, 41, 42, 43, 44, 45, 46, 47, 48, 49, 50, 51, 52, 53, 54, 55, 56, 57, 58, 59, 60, 61, 62, 63, 64, 65, 66, 67, 68, 69, 70, 71, 72, 73, 74, 75, 76, 77, 78, 79, 80, 81, 82, 83, 84, 85, 86, 87, 88, 89, 90, 91, 92, 93, 94, 95, 96, 97, 98, 99, 100, 101, 102, 103, 104, 105, 106, 107, 108, 109, 110, 111, 112, 113, 114, 115, 116, 117, 118, 119, 120, 121] (by decide +kernel) (by decide +kernel)) (goodIn_sub (fun _ h => List.mem_cons_of_mem _ (List.mem_append_left _ (List.mem_append_right _ h))) (by decide +kernel))) (goodIn_sub (fun _ h => List.mem_cons_of_mem _ (List.mem_append_right _ h)) (by decide +kernel))) (goodIn_sub (fun _ h => List.mem_cons_of_mem _ (List.mem_append_left _ (List.mem_append_left _ (List.mem_append_right _ h)))) (by decide +kernel))
set_option maxRecDepth 20000 in
theorem gL_setMachine_X8_setMachine : GoodIn wsL_setMachine (wsV RL 29 RX8 yX8_setMachine wsX8_setMachine) := goodIn_app (goodIn_of _ (by decide +kernel)) ggL_setMachine_X8_setMachine
theorem dL_setMachine_0 : decode cL_setMachine 0 = .ok (.aload 4, 2) := by decide +kernel
theorem dL_setMachine_2 : decode cL_setMachine 2 = .ok (.iconst 0, 1) := by decide +kernel
theorem dL_setMachine_3 : decode cL_setMachine 3 = .ok (.aload_n 0, 1) := by decide +kernel
theorem dL_setMachine_4 : decode cL_setMachine 4 = .ok (.iload_n 1, 1) := by decide +kernel
theorem dL_setMachine_5 : decode cL_setMachine 5 = .ok (.iload_n 2, 1) := by decide +kernel
theorem dL_setMachine_6 : decode cL_setMachine 6 = .ok (.iload_n 3, 1) := by decide +kernel
theorem dL_setMachine_7 : decode cL_setMachine 7 = .ok (.invokevirtual 29, 3) := by decide +kernel
theorem dL_setMachine_10 : decode cL_setMachine 10 = .ok (.i2l, 1) := by decide +kernel
theorem dL_setMachine_11 : decode cL_setMachine 11 = .ok (.lastore, 1) := by decide +kernel
theorem dL_setMachine_12 : decode cL_setMachine 12 = .ok (.goto 11, 3) := by decide +kernel
theorem dL_setMachine_15 : decode cL_setMachine 15 = .ok (.astore 5, 2) := by decide +kernel
theorem dL_setMachine_17 : decode cL_setMachine 17 = .ok (.iconst 1, 1) := by decide +kernel
theorem dL_setMachine_18 : decode cL_setMachine 18 = .ok (.ireturn, 1) := by decide +kernel
theorem dL_setMachine_19 : decode cL_setMachine 19 = .ok (.astore 5, 2) := by decide +kernel
theorem dL_setMachine_21 : decode cL_setMachine 21 = .ok (.iconst 2, 1) := by decide +kernel
theorem dL_setMachine_22 : decode cL_setMachine 22 = .ok (.ireturn, 1) := by decide +kernel
theorem dL_setMachine_23 : decode cL_setMachine 23 = .ok (.iconst 0, 1) := by decide +kernel
theorem dL_setMachine_24 : decode cL_setMachine 24 = .ok (.ireturn, 1) := by decide +kernel
set_option maxRecDepth 20000 in
theorem ggL_machine_X8_machine : GoodIn wsL_machine wsX8_machine := goodIn_ca (goodIn_ca (goodIn_ca (goodIn_r _ [7, 8, 9, 10, 11, 12, 13, 14, 15, 6, 16, 17, 18, 19, 20, 21, 22, 23, 24, 25, 26, 27, 28, 29, 30, 31, 32, 33, 34, 35, 36, 37, 38, 39, 40, 41, 42, 43, 44, 45, 46, 47, 48, 49, 50, 51, 52] (by decide +kernel) (by decide +kernel)) (goodIn_sub (fun _ h => List.mem_cons_of_mem _ (List.mem_append_left _ (List.mem_append_right _ h))) (by decide +kernel))) (goodIn_sub (fun _ h => List.mem_cons_of_mem _ (List.mem_append_right _ h)) (by decide +kernel))) (goodIn_sub (fun _ h => List.mem_cons_of_mem _ (List.mem_append_left _ (List.mem_append_left _ (List.mem_append_right _ h)))) (by decide +kernel))
set_option maxRecDepth 20000 in
theorem gL_machine_X8_machine : GoodIn wsL_machine (wsV RL 33 RX8 yX8_machine wsX8_machine) := goodIn_app (goodIn_of _ (by decide +kernel)) ggL_machine_X8_machine
theorem dL_machine_0 : decode cL_machine 0 = .ok (.aload_n 3, 1) := by decide +kernel
theorem dL_machine_1 : decode cL_machine 1 = .ok (.iconst 0, 1) := by decide +kernel
theorem dL_machine_2 : decode cL_machine 2 = .ok (.aload_n 0, 1) := by decide +kernel
theorem dL_machine_3 : decode cL_machine 3 = .ok (.iload_n 1, 1) := by decide +kernel
theorem dL_machine_4 : decode cL_machine 4 = .ok (.iload_n 2, 1) := by decide +kernel
theorem dL_machine_5 : decode cL_machine 5 = .ok (.invokevirtual 33, 3) := by decide +kernel
theorem dL_machine_8 : decode cL_machine 8 = .ok (.i2l, 1) := by decide +kernel
theorem dL_machine_9 : decode cL_machine 9 = .ok (.lastore, 1) := by decide +kernel
theorem dL_machine_10 : decode cL_machine 10 = .ok (.goto 11, 3) := by decide +kernel
theorem dL_machine_13 : decode cL_machine 13 = .ok (.astore 4, 2) := by decide +kernel
theorem dL_machine_15 : decode cL_machine 15 = .ok (.iconst 1, 1) := by decide +kernel
theorem dL_machine_16 : decode cL_machine 16 = .ok (.ireturn, 1) := by decide +kernel
theorem dL_machine_17 : decode cL_machine 17 = .ok (.astore 4, 2) := by decide +kernel
theorem dL_machine_19 : decode cL_machine 19 = .ok (.iconst 2, 1) := by decide +kernel
theorem dL_machine_20 : decode cL_machine 20 = .ok (.ireturn, 1) := by decide +kernel
theorem dL_machine_21 : decode cL_machine 21 = .ok (.iconst 0, 1) := by decide +kernel
theorem dL_machine_22 : decode cL_machine 22 = .ok (.ireturn, 1) := by decide +kernel
set_option maxRecDepth 20000 in
theorem ggL_rate_X8_rate : GoodIn wsL_rate wsX8_rate := goodIn_ca (goodIn_ca (goodIn_ca (goodIn_r _ [7, 8, 9, 10, 11, 12, 13, 6, 14, 15, 16, 17, 18, 19, 20, 21, 22, 23, 24, 25, 26, 27, 28, 29, 30, 31, 32, 33, 34, 35, 36, 37, 38, 39, 40, 41, 42, 43, 44, 45, 46, 47, 48, 49, 50, 51, 52, 53, 54, 55, 56, 57, 58] (by decide +kernel) (by decide +kernel)) (goodIn_sub (fun _ h => List.mem_cons_of_mem _ (List.mem_append_left _ (List.mem_append_right _ h))) (by decide +kernel))) (goodIn_sub (fun _ h => List.mem_cons_of_mem _ (List.mem_append_right _ h)) (by decide +kernel))) (goodIn_sub (fun _ h => List.mem_cons_of_mem _ (List.mem_append_left _ (List.mem_append_left _ (List.mem_append_right _ h)))) (by decide +kernel))
set_option maxRecDepth 20000 in
theorem gL_rate_X8_rate : GoodIn wsL_rate (wsV RL 36 RX8 yX8_rate wsX8_rate) := goodIn_app (goodIn_of _ (by decide +kernel)) ggL_rate_X8_rate
theorem dL_rate_0 : decode cL_rate 0 = .ok (.aload 4, 2) := by decide +kernel
theorem dL_rate_2 : decode cL_rate 2 = .ok (.iconst 0, 1) := by decide +kernel
theorem dL_rate_3 : decode cL_rate 3 = .ok (.aload_n 0, 1) := by decide +kernel
theorem dL_rate_4 : decode cL_rate 4 = .ok (.iload_n 1, 1) := by decide +kernel
theorem dL_rate_5 : decode cL_rate 5 = .ok (.iload_n 2, 1) := by decide +kernel
theorem dL_rate_6 : decode cL_rate 6 = .ok (.iload_n 3, 1) := by decide +kernel
theorem dL_rate_7 : decode cL_rate 7 = .ok (.invokevirtual 36, 3) := by decide +kernel
theorem dL_rate_10 : decode cL_rate 10 = .ok (.i2l, 1) := by decide +kernel
theorem dL_rate_11 : decode cL_rate 11 = .ok (.lastore, 1) := by decide +kernel
theorem dL_rate_12 : decode cL_rate 12 = .ok (.goto 11, 3) := by decide +kernel
theorem dL_rate_15 : decode cL_rate 15 = .ok (.astore 5, 2) := by decide +kernel
theorem dL_rate_17 : decode cL_rate 17 = .ok (.iconst 1, 1) := by decide +kernel
theorem dL_rate_18 : decode cL_rate 18 = .ok (.ireturn, 1) := by decide +kernel
theorem dL_rate_19 : decode cL_rate 19 = .ok (.astore 5, 2) := by decide +kernel
theorem dL_rate_21 : decode cL_rate 21 = .ok (.iconst 2, 1) := by decide +kernel
theorem dL_rate_22 : decode cL_rate 22 = .ok (.ireturn, 1) := by decide +kernel
theorem dL_rate_23 : decode cL_rate 23 = .ok (.iconst 0, 1) := by decide +kernel
theorem dL_rate_24 : decode cL_rate 24 = .ok (.ireturn, 1) := by decide +kernel
set_option maxRecDepth 20000 in
theorem ggL_set_X8_set : GoodIn wsL_set wsX8_set := goodIn_ca (goodIn_ca (goodIn_ca (goodIn_r _ [7, 8, 9, 10, 11, 12, 13, 14, 15, 16, 17, 18, 6, 19, 20, 21, 22, 23, 24, 25, 26, 27, 28, 29, 30, 31, 32, 33, 34, 35, 36, 37, 38, 39, 40, 41, 42, 43, 44, 45, 46, 47, 48, 49, 50, 51, 52, 53, 54, 55, 56, 57, 58, 59, 60, 61, 62, 63, 64, 65, 66, 67, 68, 69, 70, 71, 72, 73, 74, 75, 76, 77, 78, 79, 80, 81, 82, 83, 84, 85, 86, 87, 88, 89, 90, 91, 92, 93, 94, 95, 96, 97, 98, 99, 100, 101, 102, 103, 104, 105, 106, 107, 108, 109, 110, 111, 112, 113, 114, 115, 116, 117] (by decide +kernel) (by decide +kernel)) (goodIn_sub (fun _ h => List.mem_cons_of_mem _ (List.mem_append_left _ (List.mem_append_right _ h))) (by decide +kernel))) (goodIn_sub (fun _ h => List.mem_cons_of_mem _ (List.mem_append_right _ h)) (by decide +kernel))) (goodIn_sub (fun _ h => List.mem_cons_of_mem _ (List.mem_append_left _ (List.mem_append_left _ (List.mem_append_right _ h)))) (by decide +kernel))
set_option maxRecDepth 20000 in
theorem gL_set_X8_set : GoodIn wsL_set (wsV RL 40 RX8 yX8_set wsX8_set) := goodIn_app (goodIn_of _ (by decide +kernel)) ggL_set_X8_set
theorem dL_set_0 : decode cL_set 0 = .ok (.aload_n 3, 1) := by decide +kernel
theorem dL_set_1 : decode cL_set 1 = .ok (.iconst 0, 1) := by decide +kernel
theorem dL_set_2 : decode cL_set 2 = .ok (.aload_n 0, 1) := by decide +kernel
theorem dL_set_3 : decode cL_set 3 = .ok (.iload_n 1, 1) := by decide +kernel
theorem dL_set_4 : decode cL_set 4 = .ok (.iload_n 2, 1) := by decide +kernel
theorem dL_set_5 : decode cL_set 5 = .ok (.invokevirtual 40, 3) := by decide +kernel
theorem dL_set_8 : decode cL_set 8 = .ok (.i2l, 1) := by decide +kernel
theorem dL_set_9 : decode cL_set 9 = .ok (.lastore, 1) := by decide +kernel
theorem dL_set_10 : decode cL_set 10 = .ok (.goto 11, 3) := by decide +kernel
theorem dL_set_13 : decode cL_set 13 = .ok (.astore 4, 2) := by decide +kernel
theorem dL_set_15 : decode cL_set 15 = .ok (.iconst 1, 1) := by decide +kernel
theorem dL_set_16 : decode cL_set 16 = .ok (.ireturn, 1) := by decide +kernel
theorem dL_set_17 : decode cL_set 17 = .ok (.astore 4, 2) := by decide +kernel
theorem dL_set_19 : decode cL_set 19 = .ok (.iconst 2, 1) := by decide +kernel
theorem dL_set_20 : decode cL_set 20 = .ok (.ireturn, 1) := by decide +kernel
theorem dL_set_21 : decode cL_set 21 = .ok (.iconst 0, 1) := by decide +kernel
theorem dL_set_22 : decode cL_set 22 = .ok (.ireturn, 1) := by decide +kernel
set_option maxRecDepth 20000 in
theorem ggL_feed_X8_feed : GoodIn wsL_feed wsX8_feed := goodIn_ca (goodIn_ca (goodIn_ca (goodIn_ca (goodIn_r _ [8, 9, 10, 11, 12, 13, 14, 15, 16, 17, 18, 19, 20, 21, 7, 22, 23, 24, 25, 26, 27, 28, 29, 30, 31, 32, 33, 34, 35, 36, 37, 38, 39, 40, 41, 42, 43, 44, 45, 46, 47, 48, 49, 50, 51, 52, 53, 54, 55, 56, 57, 58, 59, 60, 61, 62, 63, 64, 65, 66, 67, 68, 69, 70, 71, 72, 73, 74, 75, 76, 77, 78, 79, 80, 81, 82, 83, 84, 85, 86, 87, 88, 89, 90, 91, 92, 93, 94, 95, 96, 97, 98, 99, 100, 101, 102, 103, 104, 105, 106, 107, 108, 109, 110, 111, 112, 113, 114, 115, 116, 117, 118, 119, 120, 121, 122, 123, 124, 125, 126, 127, 128, 129, 130, 131, 132, 133, 134, 135, 136, 137, 138, 139] (by decide +kernel) (by decide +kernel)) (goodIn_sub (fun _ h => List.mem_cons_of_mem _ (List.mem_append_left _ (List.mem_append_left _ (List.mem_append_left _ (List.mem_append_right _ h))))) (by decide +kernel))) (goodIn_sub (fun _ h => List.mem_cons_of_mem _ (List.mem_append_left _ (List.mem_append_left _ (List.mem_append_right _ h)))) (by decide +kernel))) (goodIn_sub (fun _ h => List.mem_cons_of_mem _ (List.mem_append_left _ (List.mem_append_right _ h))) (by decide +kernel))) (goodIn_sub (fun _ h => List.mem_cons_of_mem _ (List.mem_append_right _ h)) (by decide +kernel))
set_option maxRecDepth 20000 in
theorem gL_feed_X8_feed : GoodIn wsL_feed (wsV RL 43 RX8 yX8_feed wsX8_feed) := goodIn_app (goodIn_of _ (by decide +kernel)) ggL_feed_X8_feed
