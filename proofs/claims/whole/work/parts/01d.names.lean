theorem dX5_replace_13 : decode cX5_replace 13 = .ok (.iload_n 1, 1) := by decide +kernel
theorem dX5_replace_14 : decode cX5_replace 14 = .ok (.invokevirtual 20, 3) := by decide +kernel
theorem dX5_replace_17 : decode cX5_replace 17 = .ok (.iinc 6 1, 3) := by decide +kernel
theorem dX5_replace_20 : decode cX5_replace 20 = .ok (.aload_n 0, 1) := by decide +kernel
theorem dX5_replace_21 : decode cX5_replace 21 = .ok (.iload 6, 2) := by decide +kernel
theorem dX5_replace_23 : decode cX5_replace 23 = .ok (.iload_n 2, 1) := by decide +kernel
theorem dX5_replace_24 : decode cX5_replace 24 = .ok (.iload_n 3, 1) := by decide +kernel
theorem dX5_replace_25 : decode cX5_replace 25 = .ok (.invokevirtual 20, 3) := by decide +kernel
theorem dX5_replace_28 : decode cX5_replace 28 = .ok (.aload_n 0, 1) := by decide +kernel
theorem dX5_replace_29 : decode cX5_replace 29 = .ok (.iload 6, 2) := by decide +kernel
theorem dX5_replace_31 : decode cX5_replace 31 = .ok (.iconst 1, 1) := by decide +kernel
theorem dX5_replace_32 : decode cX5_replace 32 = .ok (.iadd, 1) := by decide +kernel
theorem dX5_replace_33 : decode cX5_replace 33 = .ok (.iload 4, 2) := by decide +kernel
theorem dX5_replace_35 : decode cX5_replace 35 = .ok (.iload 5, 2) := by decide +kernel
theorem dX5_replace_37 : decode cX5_replace 37 = .ok (.invokevirtual 20, 3) := by decide +kernel
theorem dX5_replace_40 : decode cX5_replace 40 = .ok (.aload_n 0, 1) := by decide +kernel
theorem dX5_replace_41 : decode cX5_replace 41 = .ok (.iload 6, 2) := by decide +kernel
theorem dX5_replace_43 : decode cX5_replace 43 = .ok (.iconst 2, 1) := by decide +kernel
theorem dX5_replace_44 : decode cX5_replace 44 = .ok (.iadd, 1) := by decide +kernel
theorem dX5_replace_45 : decode cX5_replace 45 = .ok (.putfield 24, 3) := by decide +kernel
theorem dX5_replace_48 : decode cX5_replace 48 = .ok (.return_, 1) := by decide +kernel
set_option maxRecDepth 20000 in
theorem ggX5_part_X6_get : GoodIn wsX5_part wsX6_get := goodIn_ca (goodIn_r _ [6, 7, 8, 11, 12] (by decide +kernel) (by decide +kernel)) (goodIn_sub (fun _ h => List.mem_cons_of_mem _ (List.mem_append_right _ h)) (by decide +kernel))
set_option maxRecDepth 20000 in
theorem gX5_part_X6_get : GoodIn wsX5_part (wsV RX5 28 RX6 yX6_get wsX6_get) := goodIn_app (goodIn_of _ (by decide +kernel)) ggX5_part_X6_get
theorem dX5_part_0 : decode cX5_part 0 = .ok (.aload_n 0, 1) := by decide +kernel
theorem dX5_part_1 : decode cX5_part 1 = .ok (.getfield 16, 3) := by decide +kernel
theorem dX5_part_4 : decode cX5_part 4 = .ok (.iload_n 1, 1) := by decide +kernel
theorem dX5_part_5 : decode cX5_part 5 = .ok (.iload_n 2, 1) := by decide +kernel
theorem dX5_part_6 : decode cX5_part 6 = .ok (.ifCond .eq 7, 3) := by decide +kernel
theorem dX5_part_9 : decode cX5_part 9 = .ok (.iconst 1, 1) := by decide +kernel
theorem dX5_part_10 : decode cX5_part 10 = .ok (.goto 4, 3) := by decide +kernel
theorem dX5_part_13 : decode cX5_part 13 = .ok (.iconst 0, 1) := by decide +kernel
theorem dX5_part_14 : decode cX5_part 14 = .ok (.invokevirtual 28, 3) := by decide +kernel
theorem dX5_part_17 : decode cX5_part 17 = .ok (.ireturn, 1) := by decide +kernel
set_option maxRecDepth 20000 in
theorem ggX5_fill_X6_put : GoodIn wsX5_fill wsX6_put := goodIn_ca (goodIn_r _ [6, 7, 8, 11, 12] (by decide +kernel) (by decide +kernel)) (goodIn_sub (fun _ h => List.mem_cons_of_mem _ (List.mem_append_right _ h)) (by decide +kernel))
set_option maxRecDepth 20000 in
theorem gX5_fill_X6_put : GoodIn wsX5_fill (wsV RX5 32 RX6 yX6_put wsX6_put) := goodIn_app (goodIn_of _ (by decide +kernel)) ggX5_fill_X6_put
theorem dX5_fill_0 : decode cX5_fill 0 = .ok (.aload_n 0, 1) := by decide +kernel
theorem dX5_fill_1 : decode cX5_fill 1 = .ok (.getfield 16, 3) := by decide +kernel
theorem dX5_fill_4 : decode cX5_fill 4 = .ok (.iload_n 1, 1) := by decide +kernel
theorem dX5_fill_5 : decode cX5_fill 5 = .ok (.iconst 0, 1) := by decide +kernel
theorem dX5_fill_6 : decode cX5_fill 6 = .ok (.iload_n 2, 1) := by decide +kernel
theorem dX5_fill_7 : decode cX5_fill 7 = .ok (.invokevirtual 32, 3) := by decide +kernel
theorem dX5_fill_10 : decode cX5_fill 10 = .ok (.aload_n 0, 1) := by decide +kernel
theorem dX5_fill_11 : decode cX5_fill 11 = .ok (.getfield 16, 3) := by decide +kernel
theorem dX5_fill_14 : decode cX5_fill 14 = .ok (.iload_n 1, 1) := by decide +kernel
theorem dX5_fill_15 : decode cX5_fill 15 = .ok (.iconst 1, 1) := by decide +kernel
theorem dX5_fill_16 : decode cX5_fill 16 = .ok (.iload_n 3, 1) := by decide +kernel
theorem dX5_fill_17 : decode cX5_fill 17 = .ok (.invokevirtual 32, 3) := by decide +kernel
theorem dX5_fill_20 : decode cX5_fill 20 = .ok (.return_, 1) := by decide +kernel
theorem dX6_init_0 : decode cX6_init 0 = .ok (.aload_n 0, 1) := by decide +kernel
theorem dX6_init_1 : decode cX6_init 1 = .ok (.invokespecial 1, 3) := by decide +kernel
theorem dX6_init_4 : decode cX6_init 4 = .ok (.aload_n 0, 1) := by decide +kernel
theorem dX6_init_5 : decode cX6_init 5 = .ok (.iload_n 2, 1) := by decide +kernel
theorem dX6_init_6 : decode cX6_init 6 = .ok (.putfield 7, 3) := by decide +kernel
theorem dX6_init_9 : decode cX6_init 9 = .ok (.aload_n 0, 1) := by decide +kernel
theorem dX6_init_10 : decode cX6_init 10 = .ok (.iconst 0, 1) := by decide +kernel
theorem dX6_init_11 : decode cX6_init 11 = .ok (.iload_n 1, 1) := by decide +kernel
theorem dX6_init_12 : decode cX6_init 12 = .ok (.iload_n 2, 1) := by decide +kernel
theorem dX6_init_13 : decode cX6_init 13 = .ok (.imul, 1) := by decide +kernel
theorem dX6_init_14 : decode cX6_init 14 = .ok (.invokestatic 13, 3) := by decide +kernel
theorem dX6_init_17 : decode cX6_init 17 = .ok (.newarray .int, 2) := by decide +kernel
theorem dX6_init_19 : decode cX6_init 19 = .ok (.putfield 19, 3) := by decide +kernel
theorem dX6_init_22 : decode cX6_init 22 = .ok (.return_, 1) := by decide +kernel
theorem dX6_get_0 : decode cX6_get 0 = .ok (.iload_n 1, 1) := by decide +kernel
theorem dX6_get_1 : decode cX6_get 1 = .ok (.aload_n 0, 1) := by decide +kernel
theorem dX6_get_2 : decode cX6_get 2 = .ok (.getfield 7, 3) := by decide +kernel
theorem dX6_get_5 : decode cX6_get 5 = .ok (.imul, 1) := by decide +kernel
theorem dX6_get_6 : decode cX6_get 6 = .ok (.iload_n 2, 1) := by decide +kernel
theorem dX6_get_7 : decode cX6_get 7 = .ok (.iadd, 1) := by decide +kernel
theorem dX6_get_8 : decode cX6_get 8 = .ok (.istore_n 3, 1) := by decide +kernel
theorem dX6_get_9 : decode cX6_get 9 = .ok (.iload_n 3, 1) := by decide +kernel
theorem dX6_get_10 : decode cX6_get 10 = .ok (.ifCond .lt 21, 3) := by decide +kernel
theorem dX6_get_13 : decode cX6_get 13 = .ok (.iload_n 3, 1) := by decide +kernel
theorem dX6_get_14 : decode cX6_get 14 = .ok (.aload_n 0, 1) := by decide +kernel
theorem dX6_get_15 : decode cX6_get 15 = .ok (.getfield 19, 3) := by decide +kernel
theorem dX6_get_18 : decode cX6_get 18 = .ok (.arraylength, 1) := by decide +kernel
theorem dX6_get_19 : decode cX6_get 19 = .ok (.if_icmp .ge 12, 3) := by decide +kernel
theorem dX6_get_22 : decode cX6_get 22 = .ok (.aload_n 0, 1) := by decide +kernel
theorem dX6_get_23 : decode cX6_get 23 = .ok (.getfield 19, 3) := by decide +kernel
theorem dX6_get_26 : decode cX6_get 26 = .ok (.iload_n 3, 1) := by decide +kernel
theorem dX6_get_27 : decode cX6_get 27 = .ok (.iaload, 1) := by decide +kernel
theorem dX6_get_28 : decode cX6_get 28 = .ok (.goto 4, 3) := by decide +kernel
theorem dX6_get_31 : decode cX6_get 31 = .ok (.iconst 0, 1) := by decide +kernel
theorem dX6_get_32 : decode cX6_get 32 = .ok (.ireturn, 1) := by decide +kernel
theorem dX6_put_0 : decode cX6_put 0 = .ok (.iload_n 1, 1) := by decide +kernel
theorem dX6_put_1 : decode cX6_put 1 = .ok (.aload_n 0, 1) := by decide +kernel
theorem dX6_put_2 : decode cX6_put 2 = .ok (.getfield 7, 3) := by decide +kernel
theorem dX6_put_5 : decode cX6_put 5 = .ok (.imul, 1) := by decide +kernel
theorem dX6_put_6 : decode cX6_put 6 = .ok (.iload_n 2, 1) := by decide +kernel
theorem dX6_put_7 : decode cX6_put 7 = .ok (.iadd, 1) := by decide +kernel
theorem dX6_put_8 : decode cX6_put 8 = .ok (.istore 4, 2) := by decide +kernel
theorem dX6_put_10 : decode cX6_put 10 = .ok (.iload 4, 2) := by decide +kernel
theorem dX6_put_12 : decode cX6_put 12 = .ok (.ifCond .lt 21, 3) := by decide +kernel
theorem dX6_put_15 : decode cX6_put 15 = .ok (.iload 4, 2) := by decide +kernel
theorem dX6_put_17 : decode cX6_put 17 = .ok (.aload_n 0, 1) := by decide +kernel
theorem dX6_put_18 : decode cX6_put 18 = .ok (.getfield 19, 3) := by decide +kernel
theorem dX6_put_21 : decode cX6_put 21 = .ok (.arraylength, 1) := by decide +kernel
theorem dX6_put_22 : decode cX6_put 22 = .ok (.if_icmp .ge 11, 3) := by decide +kernel
theorem dX6_put_25 : decode cX6_put 25 = .ok (.aload_n 0, 1) := by decide +kernel
theorem dX6_put_26 : decode cX6_put 26 = .ok (.getfield 19, 3) := by decide +kernel
theorem dX6_put_29 : decode cX6_put 29 = .ok (.iload 4, 2) := by decide +kernel
theorem dX6_put_31 : decode cX6_put 31 = .ok (.iload_n 3, 1) := by decide +kernel
theorem dX6_put_32 : decode cX6_put 32 = .ok (.iastore, 1) := by decide +kernel
theorem dX6_put_33 : decode cX6_put 33 = .ok (.return_, 1) := by decide +kernel
set_option maxRecDepth 20000 in
theorem ggX6_add_X6_get : GoodIn wsX6_add wsX6_get := goodIn_ca (goodIn_r _ [5, 6, 7, 12, 13] (by decide +kernel) (by decide +kernel)) (goodIn_sub (fun _ h => List.mem_cons_of_mem _ (List.mem_append_right _ h)) (by decide +kernel))
set_option maxRecDepth 20000 in
theorem gX6_add_X6_get : GoodIn wsX6_add (wsV RX6 23 RX6 yX6_get wsX6_get) := goodIn_app (goodIn_of _ (by decide +kernel)) ggX6_add_X6_get
set_option maxRecDepth 20000 in
theorem ggX6_add_X6_put : GoodIn wsX6_add wsX6_put := goodIn_ca (goodIn_r _ [11, 6, 7, 12, 13] (by decide +kernel) (by decide +kernel)) (goodIn_sub (fun _ h => List.mem_cons_of_mem _ (List.mem_append_right _ h)) (by decide +kernel))
set_option maxRecDepth 20000 in
theorem gX6_add_X6_put : GoodIn wsX6_add (wsV RX6 26 RX6 yX6_put wsX6_put) := goodIn_app (goodIn_of _ (by decide +kernel)) ggX6_add_X6_put
theorem dX6_add_0 : decode cX6_add 0 = .ok (.aload_n 0, 1) := by decide +kernel
theorem dX6_add_1 : decode cX6_add 1 = .ok (.iload_n 1, 1) := by decide +kernel
theorem dX6_add_2 : decode cX6_add 2 = .ok (.iload_n 2, 1) := by decide +kernel
theorem dX6_add_3 : decode cX6_add 3 = .ok (.aload_n 0, 1) := by decide +kernel
theorem dX6_add_4 : decode cX6_add 4 = .ok (.iload_n 1, 1) := by decide +kernel
theorem dX6_add_5 : decode cX6_add 5 = .ok (.iload_n 2, 1) := by decide +kernel
theorem dX6_add_6 : decode cX6_add 6 = .ok (.invokevirtual 23, 3) := by decide +kernel
theorem dX6_add_9 : decode cX6_add 9 = .ok (.iload_n 3, 1) := by decide +kernel
theorem dX6_add_10 : decode cX6_add 10 = .ok (.iadd, 1) := by decide +kernel
theorem dX6_add_11 : decode cX6_add 11 = .ok (.invokevirtual 26, 3) := by decide +kernel
theorem dX6_add_14 : decode cX6_add 14 = .ok (.return_, 1) := by decide +kernel
set_option maxRecDepth 20000 in
theorem ggX6_move_X6_add : GoodIn wsX6_move wsX6_add := goodIn_ca (goodIn_r _ [5, 6, 7, 8, 4, 9, 10, 11, 12, 13, 14, 15, 16, 17] (by decide +kernel) (by decide +kernel)) (goodIn_sub (fun _ h => List.mem_cons_of_mem _ (List.mem_append_right _ h)) (by decide +kernel))
set_option maxRecDepth 20000 in
theorem gX6_move_X6_add : GoodIn wsX6_move (wsV RX6 30 RX6 yX6_add wsX6_add) := goodIn_app (goodIn_of _ (by decide +kernel)) ggX6_move_X6_add
theorem dX6_move_0 : decode cX6_move 0 = .ok (.aload_n 0, 1) := by decide +kernel
theorem dX6_move_1 : decode cX6_move 1 = .ok (.iload_n 1, 1) := by decide +kernel
theorem dX6_move_2 : decode cX6_move 2 = .ok (.iload_n 3, 1) := by decide +kernel
theorem dX6_move_3 : decode cX6_move 3 = .ok (.iload 4, 2) := by decide +kernel
theorem dX6_move_5 : decode cX6_move 5 = .ok (.ineg, 1) := by decide +kernel
theorem dX6_move_6 : decode cX6_move 6 = .ok (.invokevirtual 30, 3) := by decide +kernel
theorem dX6_move_9 : decode cX6_move 9 = .ok (.aload_n 0, 1) := by decide +kernel
theorem dX6_move_10 : decode cX6_move 10 = .ok (.iload_n 2, 1) := by decide +kernel
theorem dX6_move_11 : decode cX6_move 11 = .ok (.iload_n 3, 1) := by decide +kernel
theorem dX6_move_12 : decode cX6_move 12 = .ok (.iload 4, 2) := by decide +kernel
theorem dX6_move_14 : decode cX6_move 14 = .ok (.invokevirtual 30, 3) := by decide +kernel
theorem dX6_move_17 : decode cX6_move 17 = .ok (.return_, 1) := by decide +kernel
set_option maxRecDepth 20000 in
theorem ggX6_sum_X6_get : GoodIn wsX6_sum wsX6_get := goodIn_ca (goodIn_r _ [6, 1, 7, 8, 9] (by decide +kernel) (by decide +kernel)) (goodIn_sub (fun _ h => List.mem_cons_of_mem _ (List.mem_append_right _ h)) (by decide +kernel))
set_option maxRecDepth 20000 in
theorem gX6_sum_X6_get : GoodIn wsX6_sum (wsV RX6 23 RX6 yX6_get wsX6_get) := goodIn_app (goodIn_of _ (by decide +kernel)) ggX6_sum_X6_get
theorem dX6_sum_0 : decode cX6_sum 0 = .ok (.iconst 0, 1) := by decide +kernel
theorem dX6_sum_1 : decode cX6_sum 1 = .ok (.istore_n 2, 1) := by decide +kernel
theorem dX6_sum_2 : decode cX6_sum 2 = .ok (.iconst 0, 1) := by decide +kernel
theorem dX6_sum_3 : decode cX6_sum 3 = .ok (.istore_n 3, 1) := by decide +kernel
theorem dX6_sum_4 : decode cX6_sum 4 = .ok (.iload_n 3, 1) := by decide +kernel
theorem dX6_sum_5 : decode cX6_sum 5 = .ok (.aload_n 0, 1) := by decide +kernel
theorem dX6_sum_6 : decode cX6_sum 6 = .ok (.getfield 7, 3) := by decide +kernel
theorem dX6_sum_9 : decode cX6_sum 9 = .ok (.if_icmp .ge 18, 3) := by decide +kernel
theorem dX6_sum_12 : decode cX6_sum 12 = .ok (.iload_n 2, 1) := by decide +kernel
theorem dX6_sum_13 : decode cX6_sum 13 = .ok (.aload_n 0, 1) := by decide +kernel
theorem dX6_sum_14 : decode cX6_sum 14 = .ok (.iload_n 1, 1) := by decide +kernel
theorem dX6_sum_15 : decode cX6_sum 15 = .ok (.iload_n 3, 1) := by decide +kernel
theorem dX6_sum_16 : decode cX6_sum 16 = .ok (.invokevirtual 23, 3) := by decide +kernel
theorem dX6_sum_19 : decode cX6_sum 19 = .ok (.iadd, 1) := by decide +kernel
theorem dX6_sum_20 : decode cX6_sum 20 = .ok (.istore_n 2, 1) := by decide +kernel
theorem dX6_sum_21 : decode cX6_sum 21 = .ok (.iinc 3 1, 3) := by decide +kernel
theorem dX6_sum_24 : decode cX6_sum 24 = .ok (.goto (-20), 3) := by decide +kernel
theorem dX6_sum_27 : decode cX6_sum 27 = .ok (.iload_n 2, 1) := by decide +kernel
theorem dX6_sum_28 : decode cX6_sum 28 = .ok (.ireturn, 1) := by decide +kernel
set_option maxRecDepth 20000 in
theorem ggX6_columnOfGreatest_X6_get : GoodIn wsX6_columnOfGreatest wsX6_get := goodIn_ca (goodIn_r _ [6, 1, 7, 8, 9] (by decide +kernel) (by decide +kernel)) (goodIn_sub (fun _ h => List.mem_cons_of_mem _ (List.mem_append_right _ h)) (by decide +kernel))
set_option maxRecDepth 20000 in
theorem gX6_columnOfGreatest_X6_get : GoodIn wsX6_columnOfGreatest (wsV RX6 23 RX6 yX6_get wsX6_get) := goodIn_app (goodIn_of _ (by decide +kernel)) ggX6_columnOfGreatest_X6_get
theorem dX6_columnOfGreatest_0 : decode cX6_columnOfGreatest 0 = .ok (.iconst 0, 1) := by decide +kernel
theorem dX6_columnOfGreatest_1 : decode cX6_columnOfGreatest 1 = .ok (.istore_n 2, 1) := by decide +kernel
theorem dX6_columnOfGreatest_2 : decode cX6_columnOfGreatest 2 = .ok (.iconst 1, 1) := by decide +kernel
theorem dX6_columnOfGreatest_3 : decode cX6_columnOfGreatest 3 = .ok (.istore_n 3, 1) := by decide +kernel
theorem dX6_columnOfGreatest_4 : decode cX6_columnOfGreatest 4 = .ok (.iload_n 3, 1) := by decide +kernel
theorem dX6_columnOfGreatest_5 : decode cX6_columnOfGreatest 5 = .ok (.aload_n 0, 1) := by decide +kernel
theorem dX6_columnOfGreatest_6 : decode cX6_columnOfGreatest 6 = .ok (.getfield 7, 3) := by decide +kernel
theorem dX6_columnOfGreatest_9 : decode cX6_columnOfGreatest 9 = .ok (.if_icmp .ge 26, 3) := by decide +kernel
theorem dX6_columnOfGreatest_12 : decode cX6_columnOfGreatest 12 = .ok (.aload_n 0, 1) := by decide +kernel
theorem dX6_columnOfGreatest_13 : decode cX6_columnOfGreatest 13 = .ok (.iload_n 1, 1) := by decide +kernel
theorem dX6_columnOfGreatest_14 : decode cX6_columnOfGreatest 14 = .ok (.iload_n 3, 1) := by decide +kernel
theorem dX6_columnOfGreatest_15 : decode cX6_columnOfGreatest 15 = .ok (.invokevirtual 23, 3) := by decide +kernel
theorem dX6_columnOfGreatest_18 : decode cX6_columnOfGreatest 18 = .ok (.aload_n 0, 1) := by decide +kernel
theorem dX6_columnOfGreatest_19 : decode cX6_columnOfGreatest 19 = .ok (.iload_n 1, 1) := by decide +kernel
theorem dX6_columnOfGreatest_20 : decode cX6_columnOfGreatest 20 = .ok (.iload_n 2, 1) := by decide +kernel
theorem dX6_columnOfGreatest_21 : decode cX6_columnOfGreatest 21 = .ok (.invokevirtual 23, 3) := by decide +kernel
theorem dX6_columnOfGreatest_24 : decode cX6_columnOfGreatest 24 = .ok (.if_icmp .le 5, 3) := by decide +kernel
theorem dX6_columnOfGreatest_27 : decode cX6_columnOfGreatest 27 = .ok (.iload_n 3, 1) := by decide +kernel
theorem dX6_columnOfGreatest_28 : decode cX6_columnOfGreatest 28 = .ok (.istore_n 2, 1) := by decide +kernel
theorem dX6_columnOfGreatest_29 : decode cX6_columnOfGreatest 29 = .ok (.iinc 3 1, 3) := by decide +kernel
theorem dX6_columnOfGreatest_32 : decode cX6_columnOfGreatest 32 = .ok (.goto (-28), 3) := by decide +kernel
theorem dX6_columnOfGreatest_35 : decode cX6_columnOfGreatest 35 = .ok (.iload_n 2, 1) := by decide +kernel
theorem dX6_columnOfGreatest_36 : decode cX6_columnOfGreatest 36 = .ok (.ireturn, 1) := by decide +kernel
set_option maxRecDepth 20000 in
theorem ggX6_swapRows_X6_get : GoodIn wsX6_swapRows wsX6_get := goodIn_ca (goodIn_r _ [6, 1, 7, 12, 13] (by decide +kernel) (by decide +kernel)) (goodIn_sub (fun _ h => List.mem_cons_of_mem _ (List.mem_append_right _ h)) (by decide +kernel))
set_option maxRecDepth 20000 in
theorem gX6_swapRows_X6_get : GoodIn wsX6_swapRows (wsV RX6 23 RX6 yX6_get wsX6_get) := goodIn_app (goodIn_of _ (by decide +kernel)) ggX6_swapRows_X6_get
set_option maxRecDepth 20000 in
theorem ggX6_swapRows_X6_put : GoodIn wsX6_swapRows wsX6_put := goodIn_ca (goodIn_r _ [11, 1, 7, 12, 13] (by decide +kernel) (by decide +kernel)) (goodIn_sub (fun _ h => List.mem_cons_of_mem _ (List.mem_append_right _ h)) (by decide +kernel))
set_option maxRecDepth 20000 in
theorem gX6_swapRows_X6_put : GoodIn wsX6_swapRows (wsV RX6 26 RX6 yX6_put wsX6_put) := goodIn_app (goodIn_of _ (by decide +kernel)) ggX6_swapRows_X6_put
theorem dX6_swapRows_0 : decode cX6_swapRows 0 = .ok (.iconst 0, 1) := by decide +kernel
theorem dX6_swapRows_1 : decode cX6_swapRows 1 = .ok (.istore_n 3, 1) := by decide +kernel
theorem dX6_swapRows_2 : decode cX6_swapRows 2 = .ok (.iload_n 3, 1) := by decide +kernel
theorem dX6_swapRows_3 : decode cX6_swapRows 3 = .ok (.aload_n 0, 1) := by decide +kernel
theorem dX6_swapRows_4 : decode cX6_swapRows 4 = .ok (.getfield 7, 3) := by decide +kernel
theorem dX6_swapRows_7 : decode cX6_swapRows 7 = .ok (.if_icmp .ge 37, 3) := by decide +kernel
theorem dX6_swapRows_10 : decode cX6_swapRows 10 = .ok (.aload_n 0, 1) := by decide +kernel
theorem dX6_swapRows_11 : decode cX6_swapRows 11 = .ok (.iload_n 1, 1) := by decide +kernel
theorem dX6_swapRows_12 : decode cX6_swapRows 12 = .ok (.iload_n 3, 1) := by decide +kernel
theorem dX6_swapRows_13 : decode cX6_swapRows 13 = .ok (.invokevirtual 23, 3) := by decide +kernel
theorem dX6_swapRows_16 : decode cX6_swapRows 16 = .ok (.istore 4, 2) := by decide +kernel
theorem dX6_swapRows_18 : decode cX6_swapRows 18 = .ok (.aload_n 0, 1) := by decide +kernel
theorem dX6_swapRows_19 : decode cX6_swapRows 19 = .ok (.iload_n 1, 1) := by decide +kernel
theorem dX6_swapRows_20 : decode cX6_swapRows 20 = .ok (.iload_n 3, 1) := by decide +kernel
theorem dX6_swapRows_21 : decode cX6_swapRows 21 = .ok (.aload_n 0, 1) := by decide +kernel
theorem dX6_swapRows_22 : decode cX6_swapRows 22 = .ok (.iload_n 2, 1) := by decide +kernel
theorem dX6_swapRows_23 : decode cX6_swapRows 23 = .ok (.iload_n 3, 1) := by decide +kernel
theorem dX6_swapRows_24 : decode cX6_swapRows 24 = .ok (.invokevirtual 23, 3) := by decide +kernel
theorem dX6_swapRows_27 : decode cX6_swapRows 27 = .ok (.invokevirtual 26, 3) := by decide +kernel
theorem dX6_swapRows_30 : decode cX6_swapRows 30 = .ok (.aload_n 0, 1) := by decide +kernel
theorem dX6_swapRows_31 : decode cX6_swapRows 31 = .ok (.iload_n 2, 1) := by decide +kernel
theorem dX6_swapRows_32 : decode cX6_swapRows 32 = .ok (.iload_n 3, 1) := by decide +kernel
theorem dX6_swapRows_33 : decode cX6_swapRows 33 = .ok (.iload 4, 2) := by decide +kernel
theorem dX6_swapRows_35 : decode cX6_swapRows 35 = .ok (.invokevirtual 26, 3) := by decide +kernel
theorem dX6_swapRows_38 : decode cX6_swapRows 38 = .ok (.iinc 3 1, 3) := by decide +kernel
theorem dX6_swapRows_41 : decode cX6_swapRows 41 = .ok (.goto (-39), 3) := by decide +kernel
theorem dX6_swapRows_44 : decode cX6_swapRows 44 = .ok (.return_, 1) := by decide +kernel
theorem dX6_copyFrom_0 : decode cX6_copyFrom 0 = .ok (.aload_n 1, 1) := by decide +kernel
theorem dX6_copyFrom_1 : decode cX6_copyFrom 1 = .ok (.getfield 19, 3) := by decide +kernel
theorem dX6_copyFrom_4 : decode cX6_copyFrom 4 = .ok (.iconst 0, 1) := by decide +kernel
theorem dX6_copyFrom_5 : decode cX6_copyFrom 5 = .ok (.aload_n 0, 1) := by decide +kernel
theorem dX6_copyFrom_6 : decode cX6_copyFrom 6 = .ok (.getfield 19, 3) := by decide +kernel
theorem dX6_copyFrom_9 : decode cX6_copyFrom 9 = .ok (.iconst 0, 1) := by decide +kernel
theorem dX6_copyFrom_10 : decode cX6_copyFrom 10 = .ok (.aload_n 0, 1) := by decide +kernel
theorem dX6_copyFrom_11 : decode cX6_copyFrom 11 = .ok (.getfield 19, 3) := by decide +kernel
theorem dX6_copyFrom_14 : decode cX6_copyFrom 14 = .ok (.arraylength, 1) := by decide +kernel
theorem dX6_copyFrom_15 : decode cX6_copyFrom 15 = .ok (.aload_n 1, 1) := by decide +kernel
theorem dX6_copyFrom_16 : decode cX6_copyFrom 16 = .ok (.getfield 19, 3) := by decide +kernel
theorem dX6_copyFrom_19 : decode cX6_copyFrom 19 = .ok (.arraylength, 1) := by decide +kernel
theorem dX6_copyFrom_20 : decode cX6_copyFrom 20 = .ok (.invokestatic 33, 3) := by decide +kernel
theorem dX6_copyFrom_23 : decode cX6_copyFrom 23 = .ok (.invokestatic 36, 3) := by decide +kernel
theorem dX6_copyFrom_26 : decode cX6_copyFrom 26 = .ok (.return_, 1) := by decide +kernel
set_option maxRecDepth 20000 in
theorem ggX7_init_X6_init : GoodIn wsX7_init wsX6_init := goodIn_r _ [12, 13, 2, 3, 14, 15, 16, 17, 18, 19, 20, 26, 27] (by decide +kernel) (by decide +kernel)
set_option maxRecDepth 20000 in
theorem gX7_init_X6_init : GoodIn wsX7_init (wsX6_init) := ggX7_init_X6_init
theorem dX7_init_0 : decode cX7_init 0 = .ok (.aload_n 0, 1) := by decide +kernel
theorem dX7_init_1 : decode cX7_init 1 = .ok (.invokespecial 5, 3) := by decide +kernel
theorem dX7_init_4 : decode cX7_init 4 = .ok (.aload_n 0, 1) := by decide +kernel
theorem dX7_init_5 : decode cX7_init 5 = .ok (.bipush 80, 2) := by decide +kernel
theorem dX7_init_7 : decode cX7_init 7 = .ok (.newarray .char, 2) := by decide +kernel
theorem dX7_init_9 : decode cX7_init 9 = .ok (.putfield 11, 3) := by decide +kernel
theorem dX7_init_12 : decode cX7_init 12 = .ok (.aload_n 0, 1) := by decide +kernel
theorem dX7_init_13 : decode cX7_init 13 = .ok (.new 15, 3) := by decide +kernel
theorem dX7_init_16 : decode cX7_init 16 = .ok (.dup, 1) := by decide +kernel
theorem dX7_init_17 : decode cX7_init 17 = .ok (.bipush 27, 2) := by decide +kernel
theorem dX7_init_19 : decode cX7_init 19 = .ok (.iconst 5, 1) := by decide +kernel
theorem dX7_init_20 : decode cX7_init 20 = .ok (.invokespecial 17, 3) := by decide +kernel
theorem dX7_init_23 : decode cX7_init 23 = .ok (.putfield 20, 3) := by decide +kernel
theorem dX7_init_26 : decode cX7_init 26 = .ok (.return_, 1) := by decide +kernel
theorem dX7_isFull_0 : decode cX7_isFull 0 = .ok (.aload_n 0, 1) := by decide +kernel
theorem dX7_isFull_1 : decode cX7_isFull 1 = .ok (.getfield 24, 3) := by decide +kernel
theorem dX7_isFull_4 : decode cX7_isFull 4 = .ok (.bipush 80, 2) := by decide +kernel
theorem dX7_isFull_6 : decode cX7_isFull 6 = .ok (.if_icmp .lt 7, 3) := by decide +kernel
theorem dX7_isFull_9 : decode cX7_isFull 9 = .ok (.iconst 1, 1) := by decide +kernel
theorem dX7_isFull_10 : decode cX7_isFull 10 = .ok (.goto 4, 3) := by decide +kernel
theorem dX7_isFull_13 : decode cX7_isFull 13 = .ok (.iconst 0, 1) := by decide +kernel
theorem dX7_isFull_14 : decode cX7_isFull 14 = .ok (.ireturn, 1) := by decide +kernel
theorem dX7_add_0 : decode cX7_add 0 = .ok (.aload_n 0, 1) := by decide +kernel
theorem dX7_add_1 : decode cX7_add 1 = .ok (.getfield 24, 3) := by decide +kernel
theorem dX7_add_4 : decode cX7_add 4 = .ok (.ifCond .lt 35, 3) := by decide +kernel
theorem dX7_add_7 : decode cX7_add 7 = .ok (.aload_n 0, 1) := by decide +kernel
theorem dX7_add_8 : decode cX7_add 8 = .ok (.getfield 24, 3) := by decide +kernel
theorem dX7_add_11 : decode cX7_add 11 = .ok (.aload_n 0, 1) := by decide +kernel
theorem dX7_add_12 : decode cX7_add 12 = .ok (.getfield 11, 3) := by decide +kernel
theorem dX7_add_15 : decode cX7_add 15 = .ok (.arraylength, 1) := by decide +kernel
theorem dX7_add_16 : decode cX7_add 16 = .ok (.if_icmp .ge 23, 3) := by decide +kernel
theorem dX7_add_19 : decode cX7_add 19 = .ok (.aload_n 0, 1) := by decide +kernel
theorem dX7_add_20 : decode cX7_add 20 = .ok (.getfield 11, 3) := by decide +kernel
theorem dX7_add_23 : decode cX7_add 23 = .ok (.aload_n 0, 1) := by decide +kernel
theorem dX7_add_24 : decode cX7_add 24 = .ok (.getfield 24, 3) := by decide +kernel
theorem dX7_add_27 : decode cX7_add 27 = .ok (.iload_n 1, 1) := by decide +kernel
theorem dX7_add_28 : decode cX7_add 28 = .ok (.castore, 1) := by decide +kernel
theorem dX7_add_29 : decode cX7_add 29 = .ok (.aload_n 0, 1) := by decide +kernel
theorem dX7_add_30 : decode cX7_add 30 = .ok (.dup, 1) := by decide +kernel
theorem dX7_add_31 : decode cX7_add 31 = .ok (.getfield 24, 3) := by decide +kernel
theorem dX7_add_34 : decode cX7_add 34 = .ok (.iconst 1, 1) := by decide +kernel
theorem dX7_add_35 : decode cX7_add 35 = .ok (.iadd, 1) := by decide +kernel
theorem dX7_add_36 : decode cX7_add 36 = .ok (.putfield 24, 3) := by decide +kernel
theorem dX7_add_39 : decode cX7_add 39 = .ok (.aload_n 0, 1) := by decide +kernel
theorem dX7_add_40 : decode cX7_add 40 = .ok (.getfield 24, 3) := by decide +kernel
theorem dX7_add_43 : decode cX7_add 43 = .ok (.ireturn, 1) := by decide +kernel
theorem dX7_empty_0 : decode cX7_empty 0 = .ok (.aload_n 0, 1) := by decide +kernel
theorem dX7_empty_1 : decode cX7_empty 1 = .ok (.iconst 0, 1) := by decide +kernel
theorem dX7_empty_2 : decode cX7_empty 2 = .ok (.putfield 24, 3) := by decide +kernel
theorem dX7_empty_5 : decode cX7_empty 5 = .ok (.return_, 1) := by decide +kernel
set_option maxRecDepth 20000 in
theorem ggX7_number_X6_get : GoodIn wsX7_number wsX6_get := goodIn_ca (goodIn_r _ [6, 7, 8, 14, 15] (by decide +kernel) (by decide +kernel)) (goodIn_sub (fun _ h => List.mem_cons_of_mem _ (List.mem_append_right _ h)) (by decide +kernel))
set_option maxRecDepth 20000 in
theorem gX7_number_X6_get : GoodIn wsX7_number (wsV RX7 28 RX6 yX6_get wsX6_get) := goodIn_app (goodIn_of _ (by decide +kernel)) ggX7_number_X6_get
theorem dX7_number_0 : decode cX7_number 0 = .ok (.aload_n 0, 1) := by decide +kernel
theorem dX7_number_1 : decode cX7_number 1 = .ok (.getfield 20, 3) := by decide +kernel
theorem dX7_number_4 : decode cX7_number 4 = .ok (.iload_n 1, 1) := by decide +kernel
theorem dX7_number_5 : decode cX7_number 5 = .ok (.iload_n 2, 1) := by decide +kernel
theorem dX7_number_6 : decode cX7_number 6 = .ok (.invokevirtual 28, 3) := by decide +kernel
theorem dX7_number_9 : decode cX7_number 9 = .ok (.ireturn, 1) := by decide +kernel
set_option maxRecDepth 20000 in
theorem ggX7_parse_X7_takes : GoodIn wsX7_parse wsX7_takes := goodIn_ca (goodIn_r _ [8, 1, 9, 10, 11, 7, 12, 3, 13, 93, 94, 95, 96, 97] (by decide +kernel) (by decide +kernel)) (goodIn_sub (fun _ h => List.mem_cons_of_mem _ (List.mem_append_right _ h)) (by decide +kernel))
set_option maxRecDepth 20000 in
theorem gX7_parse_X7_takes : GoodIn wsX7_parse (wsV RX7 35 RX7 yX7_takes wsX7_takes) := goodIn_app (goodIn_of _ (by decide +kernel)) ggX7_parse_X7_takes
set_option maxRecDepth 20000 in
theorem ggX7_parse_X7_parsesCommand : GoodIn wsX7_parse wsX7_parsesCommand := goodIn_ca (goodIn_r _ [17, 1, 18, 9, 10, 11, 7, 12, 3, 13, 19, 20, 21, 22, 23, 24, 25, 26, 27, 28, 29, 30, 31, 32, 33, 34, 35, 36, 37, 38, 39, 40, 41, 42, 43, 44, 45, 46, 47, 48, 49, 50, 51, 52, 53, 54, 55, 56, 57, 58, 59, 60, 61, 62, 63, 64, 65, 66, 67, 68, 69, 70, 71, 72, 73, 74, 75, 76, 77, 78, 79, 80, 81, 82, 83, 84, 85, 86, 87, 88, 89, 90, 91, 92, 4, 5, 6, 8, 93, 94, 95, 96, 97, 98, 99, 100, 101] (by decide +kernel) (by decide +kernel)) (goodIn_sub (fun _ h => List.mem_cons_of_mem _ (List.mem_append_right _ h)) (by decide +kernel))
set_option maxRecDepth 20000 in
theorem gX7_parse_X7_parsesCommand : GoodIn wsX7_parse (wsV RX7 39 RX7 yX7_parsesCommand wsX7_parsesCommand) := goodIn_app (goodIn_of _ (by decide +kernel)) ggX7_parse_X7_parsesCommand
theorem dX7_parse_0 : decode cX7_parse 0 = .ok (.aload_n 0, 1) := by decide +kernel
theorem dX7_parse_1 : decode cX7_parse 1 = .ok (.iconst 0, 1) := by decide +kernel
theorem dX7_parse_2 : decode cX7_parse 2 = .ok (.putfield 32, 3) := by decide +kernel
theorem dX7_parse_5 : decode cX7_parse 5 = .ok (.iconst 0, 1) := by decide +kernel
theorem dX7_parse_6 : decode cX7_parse 6 = .ok (.istore_n 1, 1) := by decide +kernel
theorem dX7_parse_7 : decode cX7_parse 7 = .ok (.iload_n 1, 1) := by decide +kernel
theorem dX7_parse_8 : decode cX7_parse 8 = .ok (.bipush 27, 2) := by decide +kernel
theorem dX7_parse_10 : decode cX7_parse 10 = .ok (.if_icmp .ge 52, 3) := by decide +kernel
theorem dX7_parse_13 : decode cX7_parse 13 = .ok (.iload_n 1, 1) := by decide +kernel
theorem dX7_parse_14 : decode cX7_parse 14 = .ok (.ifCond .le 12, 3) := by decide +kernel
theorem dX7_parse_17 : decode cX7_parse 17 = .ok (.aload_n 0, 1) := by decide +kernel
theorem dX7_parse_18 : decode cX7_parse 18 = .ok (.bipush 59, 2) := by decide +kernel
theorem dX7_parse_20 : decode cX7_parse 20 = .ok (.invokevirtual 35, 3) := by decide +kernel
theorem dX7_parse_23 : decode cX7_parse 23 = .ok (.ifCond .eq 11, 3) := by decide +kernel
theorem dX7_parse_26 : decode cX7_parse 26 = .ok (.aload_n 0, 1) := by decide +kernel
theorem dX7_parse_27 : decode cX7_parse 27 = .ok (.iload_n 1, 1) := by decide +kernel
theorem dX7_parse_28 : decode cX7_parse 28 = .ok (.invokevirtual 39, 3) := by decide +kernel
theorem dX7_parse_31 : decode cX7_parse 31 = .ok (.ifCond .ne 5, 3) := by decide +kernel
theorem dX7_parse_34 : decode cX7_parse 34 = .ok (.iconst 0, 1) := by decide +kernel
theorem dX7_parse_35 : decode cX7_parse 35 = .ok (.ireturn, 1) := by decide +kernel
theorem dX7_parse_36 : decode cX7_parse 36 = .ok (.aload_n 0, 1) := by decide +kernel
theorem dX7_parse_37 : decode cX7_parse 37 = .ok (.iload_n 1, 1) := by decide +kernel
theorem dX7_parse_38 : decode cX7_parse 38 = .ok (.iconst 1, 1) := by decide +kernel
theorem dX7_parse_39 : decode cX7_parse 39 = .ok (.iadd, 1) := by decide +kernel
theorem dX7_parse_40 : decode cX7_parse 40 = .ok (.putfield 43, 3) := by decide +kernel
theorem dX7_parse_43 : decode cX7_parse 43 = .ok (.aload_n 0, 1) := by decide +kernel
theorem dX7_parse_44 : decode cX7_parse 44 = .ok (.getfield 32, 3) := by decide +kernel
theorem dX7_parse_47 : decode cX7_parse 47 = .ok (.aload_n 0, 1) := by decide +kernel
theorem dX7_parse_48 : decode cX7_parse 48 = .ok (.getfield 24, 3) := by decide +kernel
theorem dX7_parse_51 : decode cX7_parse 51 = .ok (.if_icmp .lt 5, 3) := by decide +kernel
theorem dX7_parse_54 : decode cX7_parse 54 = .ok (.iconst 1, 1) := by decide +kernel
theorem dX7_parse_55 : decode cX7_parse 55 = .ok (.ireturn, 1) := by decide +kernel
theorem dX7_parse_56 : decode cX7_parse 56 = .ok (.iinc 1 1, 3) := by decide +kernel
theorem dX7_parse_59 : decode cX7_parse 59 = .ok (.goto (-52), 3) := by decide +kernel
theorem dX7_parse_62 : decode cX7_parse 62 = .ok (.iconst 0, 1) := by decide +kernel
theorem dX7_parse_63 : decode cX7_parse 63 = .ok (.ireturn, 1) := by decide +kernel
set_option maxRecDepth 20000 in
theorem ggX7_parsesCommand_X7_peek : GoodIn wsX7_parsesCommand wsX7_peek := goodIn_ca (goodIn_r _ [7, 1, 8, 9, 88, 89, 90, 91, 92] (by decide +kernel) (by decide +kernel)) (goodIn_sub (fun _ h => List.mem_cons_of_mem _ (List.mem_append_right _ h)) (by decide +kernel))
set_option maxRecDepth 20000 in
theorem gX7_parsesCommand_X7_peek : GoodIn wsX7_parsesCommand (wsV RX7 46 RX7 yX7_peek wsX7_peek) := goodIn_app (goodIn_of _ (by decide +kernel)) ggX7_parsesCommand_X7_peek
set_option maxRecDepth 20000 in
theorem ggX7_parsesCommand_X7_formOf : GoodIn wsX7_parsesCommand wsX7_formOf := goodIn_r _ [12] (by decide +kernel) (by decide +kernel)
set_option maxRecDepth 20000 in
theorem gX7_parsesCommand_X7_formOf : GoodIn wsX7_parsesCommand (va_wsS RX7 50 yX7_formOf wsX7_formOf) := goodIn_app (goodIn_of _ (by decide +kernel)) ggX7_parsesCommand_X7_formOf
set_option maxRecDepth 20000 in
theorem ggX7_parsesCommand_J0_isEmpty_aae02 : GoodIn wsX7_parsesCommand wsJ0_isEmpty_aae02 := goodIn_r _ [17, 18, 93, 94] (by decide +kernel) (by decide +kernel)
set_option maxRecDepth 20000 in
theorem gX7_parsesCommand_J0_isEmpty_aae02 : GoodIn wsX7_parsesCommand (wsV RX7 54 RJ0 yJ0_isEmpty_aae02 wsJ0_isEmpty_aae02) := goodIn_app (goodIn_of _ (by decide +kernel)) ggX7_parsesCommand_J0_isEmpty_aae02
set_option maxRecDepth 20000 in
theorem ggX7_parsesCommand_X6_put : GoodIn wsX7_parsesCommand wsX6_put := goodIn_ca (goodIn_r _ [23, 24, 25, 95, 96] (by decide +kernel) (by decide +kernel)) (goodIn_sub (fun _ h => List.mem_cons_of_mem _ (List.mem_append_right _ h)) (by decide +kernel))
set_option maxRecDepth 20000 in
theorem gX7_parsesCommand_X6_put : GoodIn wsX7_parsesCommand (wsV RX7 60 RX6 yX6_put wsX6_put) := goodIn_app (goodIn_of _ (by decide +kernel)) ggX7_parsesCommand_X6_put
set_option maxRecDepth 20000 in
theorem ggX7_parsesCommand_J0_length_8abf5 : GoodIn wsX7_parsesCommand wsJ0_length_8abf5 := goodIn_r _ [29, 18, 30, 31, 32, 16, 33, 34, 35, 93, 94] (by decide +kernel) (by decide +kernel)
set_option maxRecDepth 20000 in
theorem gX7_parsesCommand_J0_length_8abf5 : GoodIn wsX7_parsesCommand (wsV RX7 64 RJ0 yJ0_length_8abf5 wsJ0_length_8abf5) := goodIn_app (goodIn_of _ (by decide +kernel)) ggX7_parsesCommand_J0_length_8abf5
set_option maxRecDepth 20000 in
theorem ggX7_parsesCommand_J0_charAt_5068e : GoodIn wsX7_parsesCommand wsJ0_charAt_5068e := goodIn_r _ [39, 18, 40, 41, 42, 16, 43, 34, 35, 44, 45, 46, 47, 48, 49, 50, 51, 52, 53, 54, 55, 56, 57, 58, 59, 60, 61, 62, 63, 64, 65, 66, 67, 68, 69, 70, 71, 72, 93, 94] (by decide +kernel) (by decide +kernel)
set_option maxRecDepth 20000 in
theorem gX7_parsesCommand_J0_charAt_5068e : GoodIn wsX7_parsesCommand (wsV RX7 66 RJ0 yJ0_charAt_5068e wsJ0_charAt_5068e) := goodIn_app (goodIn_of _ (by decide +kernel)) ggX7_parsesCommand_J0_charAt_5068e
set_option maxRecDepth 20000 in
theorem ggX7_parsesCommand_X7_parseNumber : GoodIn wsX7_parsesCommand wsX7_parseNumber := goodIn_ca (goodIn_r _ [76, 77, 78, 79, 80, 1, 3, 4, 5, 6, 7, 8, 9, 81, 82, 83, 88, 89, 90, 91, 92] (by decide +kernel) (by decide +kernel)) (goodIn_sub (fun _ h => List.mem_cons_of_mem _ (List.mem_append_right _ h)) (by decide +kernel))
set_option maxRecDepth 20000 in
theorem gX7_parsesCommand_X7_parseNumber : GoodIn wsX7_parsesCommand (wsV RX7 70 RX7 yX7_parseNumber wsX7_parseNumber) := goodIn_app (goodIn_of _ (by decide +kernel)) ggX7_parsesCommand_X7_parseNumber
set_option maxRecDepth 20000 in
theorem ggX7_parsesCommand_X7_takes : GoodIn wsX7_parsesCommand wsX7_takes := goodIn_ca (goodIn_r _ [87, 1, 3, 4, 5, 6, 7, 8, 9, 88, 89, 90, 91, 92] (by decide +kernel) (by decide +kernel)) (goodIn_sub (fun _ h => List.mem_cons_of_mem _ (List.mem_append_right _ h)) (by decide +kernel))
set_option maxRecDepth 20000 in
theorem gX7_parsesCommand_X7_takes : GoodIn wsX7_parsesCommand (wsV RX7 35 RX7 yX7_takes wsX7_takes) := goodIn_app (goodIn_of _ (by decide +kernel)) ggX7_parsesCommand_X7_takes
theorem dX7_parsesCommand_0 : decode cX7_parsesCommand 0 = .ok (.aload_n 0, 1) := by decide +kernel
theorem dX7_parsesCommand_1 : decode cX7_parsesCommand 1 = .ok (.invokevirtual 46, 3) := by decide +kernel
theorem dX7_parsesCommand_4 : decode cX7_parsesCommand 4 = .ok (.istore_n 2, 1) := by decide +kernel
theorem dX7_parsesCommand_5 : decode cX7_parsesCommand 5 = .ok (.iload_n 2, 1) := by decide +kernel
theorem dX7_parsesCommand_6 : decode cX7_parsesCommand 6 = .ok (.invokestatic 50, 3) := by decide +kernel
theorem dX7_parsesCommand_9 : decode cX7_parsesCommand 9 = .ok (.astore_n 3, 1) := by decide +kernel
theorem dX7_parsesCommand_10 : decode cX7_parsesCommand 10 = .ok (.aload_n 3, 1) := by decide +kernel
theorem dX7_parsesCommand_11 : decode cX7_parsesCommand 11 = .ok (.invokevirtual 54, 3) := by decide +kernel
theorem dX7_parsesCommand_14 : decode cX7_parsesCommand 14 = .ok (.ifCond .eq 5, 3) := by decide +kernel
theorem dX7_parsesCommand_17 : decode cX7_parsesCommand 17 = .ok (.iconst 0, 1) := by decide +kernel
theorem dX7_parsesCommand_18 : decode cX7_parsesCommand 18 = .ok (.ireturn, 1) := by decide +kernel
theorem dX7_parsesCommand_19 : decode cX7_parsesCommand 19 = .ok (.aload_n 0, 1) := by decide +kernel
theorem dX7_parsesCommand_20 : decode cX7_parsesCommand 20 = .ok (.dup, 1) := by decide +kernel
theorem dX7_parsesCommand_21 : decode cX7_parsesCommand 21 = .ok (.getfield 32, 3) := by decide +kernel
theorem dX7_parsesCommand_24 : decode cX7_parsesCommand 24 = .ok (.iconst 1, 1) := by decide +kernel
theorem dX7_parsesCommand_25 : decode cX7_parsesCommand 25 = .ok (.iadd, 1) := by decide +kernel
theorem dX7_parsesCommand_26 : decode cX7_parsesCommand 26 = .ok (.putfield 32, 3) := by decide +kernel
theorem dX7_parsesCommand_29 : decode cX7_parsesCommand 29 = .ok (.aload_n 0, 1) := by decide +kernel
theorem dX7_parsesCommand_30 : decode cX7_parsesCommand 30 = .ok (.getfield 20, 3) := by decide +kernel
theorem dX7_parsesCommand_33 : decode cX7_parsesCommand 33 = .ok (.iload_n 1, 1) := by decide +kernel
theorem dX7_parsesCommand_34 : decode cX7_parsesCommand 34 = .ok (.iconst 0, 1) := by decide +kernel
theorem dX7_parsesCommand_35 : decode cX7_parsesCommand 35 = .ok (.iload_n 2, 1) := by decide +kernel
theorem dX7_parsesCommand_36 : decode cX7_parsesCommand 36 = .ok (.invokevirtual 60, 3) := by decide +kernel
theorem dX7_parsesCommand_39 : decode cX7_parsesCommand 39 = .ok (.iconst 0, 1) := by decide +kernel
theorem dX7_parsesCommand_40 : decode cX7_parsesCommand 40 = .ok (.istore 4, 2) := by decide +kernel
theorem dX7_parsesCommand_42 : decode cX7_parsesCommand 42 = .ok (.iconst 0, 1) := by decide +kernel
theorem dX7_parsesCommand_43 : decode cX7_parsesCommand 43 = .ok (.istore 5, 2) := by decide +kernel
theorem dX7_parsesCommand_45 : decode cX7_parsesCommand 45 = .ok (.iload 5, 2) := by decide +kernel
theorem dX7_parsesCommand_47 : decode cX7_parsesCommand 47 = .ok (.aload_n 3, 1) := by decide +kernel
theorem dX7_parsesCommand_48 : decode cX7_parsesCommand 48 = .ok (.invokevirtual 64, 3) := by decide +kernel
theorem dX7_parsesCommand_51 : decode cX7_parsesCommand 51 = .ok (.if_icmp .ge 86, 3) := by decide +kernel
theorem dX7_parsesCommand_54 : decode cX7_parsesCommand 54 = .ok (.aload_n 3, 1) := by decide +kernel
theorem dX7_parsesCommand_55 : decode cX7_parsesCommand 55 = .ok (.iload 5, 2) := by decide +kernel
theorem dX7_parsesCommand_57 : decode cX7_parsesCommand 57 = .ok (.invokevirtual 66, 3) := by decide +kernel
theorem dX7_parsesCommand_60 : decode cX7_parsesCommand 60 = .ok (.istore 6, 2) := by decide +kernel
theorem dX7_parsesCommand_62 : decode cX7_parsesCommand 62 = .ok (.iload 6, 2) := by decide +kernel
theorem dX7_parsesCommand_64 : decode cX7_parsesCommand 64 = .ok (.bipush 100, 2) := by decide +kernel
theorem dX7_parsesCommand_66 : decode cX7_parsesCommand 66 = .ok (.if_icmp .eq 10, 3) := by decide +kernel
theorem dX7_parsesCommand_69 : decode cX7_parsesCommand 69 = .ok (.iload 6, 2) := by decide +kernel
theorem dX7_parsesCommand_71 : decode cX7_parsesCommand 71 = .ok (.bipush 110, 2) := by decide +kernel
theorem dX7_parsesCommand_73 : decode cX7_parsesCommand 73 = .ok (.if_icmp .ne 47, 3) := by decide +kernel
theorem dX7_parsesCommand_76 : decode cX7_parsesCommand 76 = .ok (.aload_n 0, 1) := by decide +kernel
theorem dX7_parsesCommand_77 : decode cX7_parsesCommand 77 = .ok (.iload 6, 2) := by decide +kernel
theorem dX7_parsesCommand_79 : decode cX7_parsesCommand 79 = .ok (.bipush 100, 2) := by decide +kernel
theorem dX7_parsesCommand_81 : decode cX7_parsesCommand 81 = .ok (.if_icmp .ne 7, 3) := by decide +kernel
theorem dX7_parsesCommand_84 : decode cX7_parsesCommand 84 = .ok (.iconst 1, 1) := by decide +kernel
theorem dX7_parsesCommand_85 : decode cX7_parsesCommand 85 = .ok (.goto 4, 3) := by decide +kernel
theorem dX7_parsesCommand_88 : decode cX7_parsesCommand 88 = .ok (.iconst 4, 1) := by decide +kernel
theorem dX7_parsesCommand_89 : decode cX7_parsesCommand 89 = .ok (.invokevirtual 70, 3) := by decide +kernel
theorem dX7_parsesCommand_92 : decode cX7_parsesCommand 92 = .ok (.istore 7, 2) := by decide +kernel
theorem dX7_parsesCommand_94 : decode cX7_parsesCommand 94 = .ok (.iload 7, 2) := by decide +kernel
theorem dX7_parsesCommand_96 : decode cX7_parsesCommand 96 = .ok (.iconst (-1), 1) := by decide +kernel
theorem dX7_parsesCommand_97 : decode cX7_parsesCommand 97 = .ok (.if_icmp .ne 5, 3) := by decide +kernel
theorem dX7_parsesCommand_100 : decode cX7_parsesCommand 100 = .ok (.iconst 0, 1) := by decide +kernel
theorem dX7_parsesCommand_101 : decode cX7_parsesCommand 101 = .ok (.ireturn, 1) := by decide +kernel
theorem dX7_parsesCommand_102 : decode cX7_parsesCommand 102 = .ok (.iinc 4 1, 3) := by decide +kernel
theorem dX7_parsesCommand_105 : decode cX7_parsesCommand 105 = .ok (.aload_n 0, 1) := by decide +kernel
theorem dX7_parsesCommand_106 : decode cX7_parsesCommand 106 = .ok (.getfield 20, 3) := by decide +kernel
theorem dX7_parsesCommand_109 : decode cX7_parsesCommand 109 = .ok (.iload_n 1, 1) := by decide +kernel
theorem dX7_parsesCommand_110 : decode cX7_parsesCommand 110 = .ok (.iload 4, 2) := by decide +kernel
theorem dX7_parsesCommand_112 : decode cX7_parsesCommand 112 = .ok (.iload 7, 2) := by decide +kernel
theorem dX7_parsesCommand_114 : decode cX7_parsesCommand 114 = .ok (.invokevirtual 60, 3) := by decide +kernel
theorem dX7_parsesCommand_117 : decode cX7_parsesCommand 117 = .ok (.goto 14, 3) := by decide +kernel
theorem dX7_parsesCommand_120 : decode cX7_parsesCommand 120 = .ok (.aload_n 0, 1) := by decide +kernel
theorem dX7_parsesCommand_121 : decode cX7_parsesCommand 121 = .ok (.iload 6, 2) := by decide +kernel
theorem dX7_parsesCommand_123 : decode cX7_parsesCommand 123 = .ok (.invokevirtual 35, 3) := by decide +kernel
theorem dX7_parsesCommand_126 : decode cX7_parsesCommand 126 = .ok (.ifCond .ne 5, 3) := by decide +kernel
theorem dX7_parsesCommand_129 : decode cX7_parsesCommand 129 = .ok (.iconst 0, 1) := by decide +kernel
theorem dX7_parsesCommand_130 : decode cX7_parsesCommand 130 = .ok (.ireturn, 1) := by decide +kernel
theorem dX7_parsesCommand_131 : decode cX7_parsesCommand 131 = .ok (.iinc 5 1, 3) := by decide +kernel
theorem dX7_parsesCommand_134 : decode cX7_parsesCommand 134 = .ok (.goto (-89), 3) := by decide +kernel
theorem dX7_parsesCommand_137 : decode cX7_parsesCommand 137 = .ok (.iconst 1, 1) := by decide +kernel
theorem dX7_parsesCommand_138 : decode cX7_parsesCommand 138 = .ok (.ireturn, 1) := by decide +kernel
theorem dX7_formOf_0 : decode cX7_formOf 0 = .ok (.iload_n 0, 1) := by decide +kernel
theorem dX7_formOf_1 : decode cX7_formOf 1 = .ok (.lookupswitch 52 #[(99, 46), (102, 43), (114, 49), (115, 49)], 43) := by decide +kernel
theorem dX7_formOf_44 : decode cX7_formOf 44 = .ok (.ldc 74, 2) := by decide +kernel
theorem dX7_formOf_46 : decode cX7_formOf 46 = .ok (.areturn, 1) := by decide +kernel
theorem dX7_formOf_47 : decode cX7_formOf 47 = .ok (.ldc 76, 2) := by decide +kernel
theorem dX7_formOf_49 : decode cX7_formOf 49 = .ok (.areturn, 1) := by decide +kernel
theorem dX7_formOf_50 : decode cX7_formOf 50 = .ok (.ldc 78, 2) := by decide +kernel
theorem dX7_formOf_52 : decode cX7_formOf 52 = .ok (.areturn, 1) := by decide +kernel
theorem dX7_formOf_53 : decode cX7_formOf 53 = .ok (.ldc 80, 2) := by decide +kernel
theorem dX7_formOf_55 : decode cX7_formOf 55 = .ok (.areturn, 1) := by decide +kernel
set_option maxRecDepth 20000 in
theorem ggX7_parseNumber_X7_peek : GoodIn wsX7_parseNumber wsX7_peek := goodIn_ca (goodIn_r _ [10, 5, 11, 12, 16, 17, 18, 19, 20] (by decide +kernel) (by decide +kernel)) (goodIn_sub (fun _ h => List.mem_cons_of_mem _ (List.mem_append_right _ h)) (by decide +kernel))
set_option maxRecDepth 20000 in
theorem gX7_parseNumber_X7_peek : GoodIn wsX7_parseNumber (wsV RX7 46 RX7 yX7_peek wsX7_peek) := goodIn_app (goodIn_of _ (by decide +kernel)) ggX7_parseNumber_X7_peek
set_option maxRecDepth 20000 in
theorem ggX7_parseNumber_X8_isWithin : GoodIn wsX7_parseNumber wsX8_isWithin := goodIn_r _ [15] (by decide +kernel) (by decide +kernel)
set_option maxRecDepth 20000 in
theorem gX7_parseNumber_X8_isWithin_n82 : GoodIn wsX7_parseNumber (wsX8_isWithin) := ggX7_parseNumber_X8_isWithin
theorem dX7_parseNumber_0 : decode cX7_parseNumber 0 = .ok (.iconst (-1), 1) := by decide +kernel
theorem dX7_parseNumber_1 : decode cX7_parseNumber 1 = .ok (.istore_n 2, 1) := by decide +kernel
theorem dX7_parseNumber_2 : decode cX7_parseNumber 2 = .ok (.iconst 0, 1) := by decide +kernel
theorem dX7_parseNumber_3 : decode cX7_parseNumber 3 = .ok (.istore_n 3, 1) := by decide +kernel
theorem dX7_parseNumber_4 : decode cX7_parseNumber 4 = .ok (.iload_n 3, 1) := by decide +kernel
theorem dX7_parseNumber_5 : decode cX7_parseNumber 5 = .ok (.iload_n 1, 1) := by decide +kernel
theorem dX7_parseNumber_6 : decode cX7_parseNumber 6 = .ok (.if_icmp .ge 50, 3) := by decide +kernel
theorem dX7_parseNumber_9 : decode cX7_parseNumber 9 = .ok (.aload_n 0, 1) := by decide +kernel
theorem dX7_parseNumber_10 : decode cX7_parseNumber 10 = .ok (.invokevirtual 46, 3) := by decide +kernel
theorem dX7_parseNumber_13 : decode cX7_parseNumber 13 = .ok (.bipush 48, 2) := by decide +kernel
theorem dX7_parseNumber_15 : decode cX7_parseNumber 15 = .ok (.bipush 57, 2) := by decide +kernel
theorem dX7_parseNumber_17 : decode cX7_parseNumber 17 = .ok (.invokestatic 82, 3) := by decide +kernel
theorem dX7_parseNumber_20 : decode cX7_parseNumber 20 = .ok (.ifCond .eq 36, 3) := by decide +kernel
theorem dX7_parseNumber_23 : decode cX7_parseNumber 23 = .ok (.iconst 0, 1) := by decide +kernel
theorem dX7_parseNumber_24 : decode cX7_parseNumber 24 = .ok (.iload_n 2, 1) := by decide +kernel
theorem dX7_parseNumber_25 : decode cX7_parseNumber 25 = .ok (.invokestatic 86, 3) := by decide +kernel
theorem dX7_parseNumber_28 : decode cX7_parseNumber 28 = .ok (.bipush 10, 2) := by decide +kernel
theorem dX7_parseNumber_30 : decode cX7_parseNumber 30 = .ok (.imul, 1) := by decide +kernel
theorem dX7_parseNumber_31 : decode cX7_parseNumber 31 = .ok (.aload_n 0, 1) := by decide +kernel
theorem dX7_parseNumber_32 : decode cX7_parseNumber 32 = .ok (.invokevirtual 46, 3) := by decide +kernel
theorem dX7_parseNumber_35 : decode cX7_parseNumber 35 = .ok (.iadd, 1) := by decide +kernel
theorem dX7_parseNumber_36 : decode cX7_parseNumber 36 = .ok (.bipush 48, 2) := by decide +kernel
theorem dX7_parseNumber_38 : decode cX7_parseNumber 38 = .ok (.isub, 1) := by decide +kernel
theorem dX7_parseNumber_39 : decode cX7_parseNumber 39 = .ok (.istore_n 2, 1) := by decide +kernel
theorem dX7_parseNumber_40 : decode cX7_parseNumber 40 = .ok (.aload_n 0, 1) := by decide +kernel
theorem dX7_parseNumber_41 : decode cX7_parseNumber 41 = .ok (.dup, 1) := by decide +kernel
theorem dX7_parseNumber_42 : decode cX7_parseNumber 42 = .ok (.getfield 32, 3) := by decide +kernel
theorem dX7_parseNumber_45 : decode cX7_parseNumber 45 = .ok (.iconst 1, 1) := by decide +kernel
theorem dX7_parseNumber_46 : decode cX7_parseNumber 46 = .ok (.iadd, 1) := by decide +kernel
theorem dX7_parseNumber_47 : decode cX7_parseNumber 47 = .ok (.putfield 32, 3) := by decide +kernel
theorem dX7_parseNumber_50 : decode cX7_parseNumber 50 = .ok (.iinc 3 1, 3) := by decide +kernel
theorem dX7_parseNumber_53 : decode cX7_parseNumber 53 = .ok (.goto (-49), 3) := by decide +kernel
theorem dX7_parseNumber_56 : decode cX7_parseNumber 56 = .ok (.iload_n 2, 1) := by decide +kernel
theorem dX7_parseNumber_57 : decode cX7_parseNumber 57 = .ok (.ireturn, 1) := by decide +kernel
set_option maxRecDepth 20000 in
theorem ggX7_takes_X7_peek : GoodIn wsX7_takes wsX7_peek := goodIn_ca (goodIn_r _ [6, 1, 7, 8, 9, 10, 11, 12, 13] (by decide +kernel) (by decide +kernel)) (goodIn_sub (fun _ h => List.mem_cons_of_mem _ (List.mem_append_right _ h)) (by decide +kernel))
set_option maxRecDepth 20000 in
theorem gX7_takes_X7_peek : GoodIn wsX7_takes (wsV RX7 46 RX7 yX7_peek wsX7_peek) := goodIn_app (goodIn_of _ (by decide +kernel)) ggX7_takes_X7_peek
theorem dX7_takes_0 : decode cX7_takes 0 = .ok (.aload_n 0, 1) := by decide +kernel
theorem dX7_takes_1 : decode cX7_takes 1 = .ok (.invokevirtual 46, 3) := by decide +kernel
theorem dX7_takes_4 : decode cX7_takes 4 = .ok (.iload_n 1, 1) := by decide +kernel
theorem dX7_takes_5 : decode cX7_takes 5 = .ok (.if_icmp .eq 5, 3) := by decide +kernel
theorem dX7_takes_8 : decode cX7_takes 8 = .ok (.iconst 0, 1) := by decide +kernel
theorem dX7_takes_9 : decode cX7_takes 9 = .ok (.ireturn, 1) := by decide +kernel
theorem dX7_takes_10 : decode cX7_takes 10 = .ok (.aload_n 0, 1) := by decide +kernel
theorem dX7_takes_11 : decode cX7_takes 11 = .ok (.dup, 1) := by decide +kernel
theorem dX7_takes_12 : decode cX7_takes 12 = .ok (.getfield 32, 3) := by decide +kernel
theorem dX7_takes_15 : decode cX7_takes 15 = .ok (.iconst 1, 1) := by decide +kernel
theorem dX7_takes_16 : decode cX7_takes 16 = .ok (.iadd, 1) := by decide +kernel
theorem dX7_takes_17 : decode cX7_takes 17 = .ok (.putfield 32, 3) := by decide +kernel
theorem dX7_takes_20 : decode cX7_takes 20 = .ok (.iconst 1, 1) := by decide +kernel
theorem dX7_takes_21 : decode cX7_takes 21 = .ok (.ireturn, 1) := by decide +kernel
theorem dX7_peek_0 : decode cX7_peek 0 = .ok (.aload_n 0, 1) := by decide +kernel
theorem dX7_peek_1 : decode cX7_peek 1 = .ok (.getfield 32, 3) := by decide +kernel
theorem dX7_peek_4 : decode cX7_peek 4 = .ok (.ifCond .lt 30, 3) := by decide +kernel
theorem dX7_peek_7 : decode cX7_peek 7 = .ok (.aload_n 0, 1) := by decide +kernel
theorem dX7_peek_8 : decode cX7_peek 8 = .ok (.getfield 32, 3) := by decide +kernel
theorem dX7_peek_11 : decode cX7_peek 11 = .ok (.aload_n 0, 1) := by decide +kernel
theorem dX7_peek_12 : decode cX7_peek 12 = .ok (.getfield 24, 3) := by decide +kernel
theorem dX7_peek_15 : decode cX7_peek 15 = .ok (.if_icmp .ge 19, 3) := by decide +kernel
theorem dX7_peek_18 : decode cX7_peek 18 = .ok (.aload_n 0, 1) := by decide +kernel
theorem dX7_peek_19 : decode cX7_peek 19 = .ok (.getfield 32, 3) := by decide +kernel
theorem dX7_peek_22 : decode cX7_peek 22 = .ok (.aload_n 0, 1) := by decide +kernel
theorem dX7_peek_23 : decode cX7_peek 23 = .ok (.getfield 11, 3) := by decide +kernel
theorem dX7_peek_26 : decode cX7_peek 26 = .ok (.arraylength, 1) := by decide +kernel
theorem dX7_peek_27 : decode cX7_peek 27 = .ok (.if_icmp .ge 7, 3) := by decide +kernel
theorem dX7_peek_30 : decode cX7_peek 30 = .ok (.iconst 1, 1) := by decide +kernel
theorem dX7_peek_31 : decode cX7_peek 31 = .ok (.goto 4, 3) := by decide +kernel
theorem dX7_peek_34 : decode cX7_peek 34 = .ok (.iconst 0, 1) := by decide +kernel
theorem dX7_peek_35 : decode cX7_peek 35 = .ok (.istore_n 1, 1) := by decide +kernel
theorem dX7_peek_36 : decode cX7_peek 36 = .ok (.iload_n 1, 1) := by decide +kernel
theorem dX7_peek_37 : decode cX7_peek 37 = .ok (.ifCond .ne 5, 3) := by decide +kernel
theorem dX7_peek_40 : decode cX7_peek 40 = .ok (.iconst (-1), 1) := by decide +kernel
theorem dX7_peek_41 : decode cX7_peek 41 = .ok (.ireturn, 1) := by decide +kernel
theorem dX7_peek_42 : decode cX7_peek 42 = .ok (.aload_n 0, 1) := by decide +kernel
theorem dX7_peek_43 : decode cX7_peek 43 = .ok (.getfield 11, 3) := by decide +kernel
theorem dX7_peek_46 : decode cX7_peek 46 = .ok (.aload_n 0, 1) := by decide +kernel
theorem dX7_peek_47 : decode cX7_peek 47 = .ok (.getfield 32, 3) := by decide +kernel
theorem dX7_peek_50 : decode cX7_peek 50 = .ok (.caload, 1) := by decide +kernel
theorem dX7_peek_51 : decode cX7_peek 51 = .ok (.ireturn, 1) := by decide +kernel
set_option maxRecDepth 20000 in
theorem ggX8_init_X4_init : GoodIn wsX8_init wsX4_init := goodIn_ca (goodIn_r _ [24, 25, 2, 3, 26, 27, 28, 29, 30, 31, 32, 33, 34, 35, 36, 37, 38, 39, 40, 41, 42, 43, 44, 45, 46, 47, 48, 49, 50, 51, 52, 53, 54, 55, 56, 57, 58, 59, 60, 61, 62, 63, 64, 65, 66, 67, 68, 69, 117, 118, 91, 92, 93, 94, 95, 96, 97, 98, 99, 119, 120, 121, 122, 123] (by decide +kernel) (by decide +kernel)) (goodIn_sub (fun _ h => List.mem_cons_of_mem _ (List.mem_append_right _ h)) (by decide +kernel))
set_option maxRecDepth 20000 in
theorem gX8_init_X4_init : GoodIn wsX8_init (wsX4_init) := ggX8_init_X4_init
set_option maxRecDepth 20000 in
theorem ggX8_init_X3_init : GoodIn wsX8_init wsX3_init := goodIn_ca (goodIn_r _ [72, 73, 2, 3, 74, 75, 5, 6, 76, 23, 24, 25, 26, 27, 28, 29, 30, 31, 32, 33, 34, 35, 36, 37, 38, 39, 40, 41, 42, 43, 44, 45, 46, 47, 48, 49, 50, 51, 52, 53, 54, 55, 56, 57, 58, 59, 60, 61, 62, 63, 64, 65, 66, 67, 68, 69, 107, 108, 109, 91, 92, 93, 94, 95, 96, 97, 98, 99, 117, 118, 119, 120, 121, 122, 123] (by decide +kernel) (by decide +kernel)) (goodIn_sub (fun _ h => List.mem_cons_of_mem _ (List.mem_append_right _ h)) (by decide +kernel))
set_option maxRecDepth 20000 in
theorem gX8_init_X3_init : GoodIn wsX8_init (wsX3_init) := ggX8_init_X3_init
set_option maxRecDepth 20000 in
theorem ggX8_init_X5_init : GoodIn wsX8_init wsX5_init := goodIn_r _ [78, 79, 2, 3, 80, 27, 28, 81, 82, 43, 44, 45, 46, 47, 48, 49, 50, 51, 52, 117, 118, 110, 111] (by decide +kernel) (by decide +kernel)
set_option maxRecDepth 20000 in
theorem gX8_init_X5_init_n31 : GoodIn wsX8_init (wsX5_init) := ggX8_init_X5_init
set_option maxRecDepth 20000 in
theorem ggX8_init_X7_init : GoodIn wsX8_init wsX7_init := goodIn_r _ [84, 85, 2, 3, 86, 87, 88, 27, 28, 89, 90, 43, 44, 45, 46, 47, 48, 49, 50, 51, 52, 112, 113, 114, 115, 116, 117, 118] (by decide +kernel) (by decide +kernel)
set_option maxRecDepth 20000 in
theorem gX8_init_X7_init_n38 : GoodIn wsX8_init (wsX7_init) := ggX8_init_X7_init
theorem dX8_init_0 : decode cX8_init 0 = .ok (.aload_n 0, 1) := by decide +kernel
theorem dX8_init_1 : decode cX8_init 1 = .ok (.invokespecial 3, 3) := by decide +kernel
theorem dX8_init_4 : decode cX8_init 4 = .ok (.aload_n 0, 1) := by decide +kernel
theorem dX8_init_5 : decode cX8_init 5 = .ok (.new 9, 3) := by decide +kernel
theorem dX8_init_8 : decode cX8_init 8 = .ok (.dup, 1) := by decide +kernel
theorem dX8_init_9 : decode cX8_init 9 = .ok (.invokespecial 11, 3) := by decide +kernel
theorem dX8_init_12 : decode cX8_init 12 = .ok (.putfield 12, 3) := by decide +kernel
theorem dX8_init_15 : decode cX8_init 15 = .ok (.aload_n 0, 1) := by decide +kernel
theorem dX8_init_16 : decode cX8_init 16 = .ok (.new 9, 3) := by decide +kernel
theorem dX8_init_19 : decode cX8_init 19 = .ok (.dup, 1) := by decide +kernel
theorem dX8_init_20 : decode cX8_init 20 = .ok (.invokespecial 11, 3) := by decide +kernel
theorem dX8_init_23 : decode cX8_init 23 = .ok (.putfield 16, 3) := by decide +kernel
theorem dX8_init_26 : decode cX8_init 26 = .ok (.aload_n 0, 1) := by decide +kernel
theorem dX8_init_27 : decode cX8_init 27 = .ok (.new 9, 3) := by decide +kernel
theorem dX8_init_30 : decode cX8_init 30 = .ok (.dup, 1) := by decide +kernel
theorem dX8_init_31 : decode cX8_init 31 = .ok (.invokespecial 11, 3) := by decide +kernel
theorem dX8_init_34 : decode cX8_init 34 = .ok (.putfield 19, 3) := by decide +kernel
theorem dX8_init_37 : decode cX8_init 37 = .ok (.aload_n 0, 1) := by decide +kernel
theorem dX8_init_38 : decode cX8_init 38 = .ok (.new 22, 3) := by decide +kernel
theorem dX8_init_41 : decode cX8_init 41 = .ok (.dup, 1) := by decide +kernel
theorem dX8_init_42 : decode cX8_init 42 = .ok (.invokespecial 24, 3) := by decide +kernel
theorem dX8_init_45 : decode cX8_init 45 = .ok (.putfield 25, 3) := by decide +kernel
theorem dX8_init_48 : decode cX8_init 48 = .ok (.aload_n 0, 1) := by decide +kernel
theorem dX8_init_49 : decode cX8_init 49 = .ok (.new 29, 3) := by decide +kernel
theorem dX8_init_52 : decode cX8_init 52 = .ok (.dup, 1) := by decide +kernel
theorem dX8_init_53 : decode cX8_init 53 = .ok (.invokespecial 31, 3) := by decide +kernel
theorem dX8_init_56 : decode cX8_init 56 = .ok (.putfield 32, 3) := by decide +kernel
theorem dX8_init_59 : decode cX8_init 59 = .ok (.aload_n 0, 1) := by decide +kernel
theorem dX8_init_60 : decode cX8_init 60 = .ok (.new 36, 3) := by decide +kernel
theorem dX8_init_63 : decode cX8_init 63 = .ok (.dup, 1) := by decide +kernel
theorem dX8_init_64 : decode cX8_init 64 = .ok (.invokespecial 38, 3) := by decide +kernel
theorem dX8_init_67 : decode cX8_init 67 = .ok (.putfield 39, 3) := by decide +kernel
theorem dX8_init_70 : decode cX8_init 70 = .ok (.return_, 1) := by decide +kernel
set_option maxRecDepth 20000 in
theorem ggX8_addMachine_X8_needMaterial : GoodIn wsX8_addMachine wsX8_needMaterial := goodIn_ca (goodIn_r _ [11, 12, 13, 14, 15, 10, 16, 17, 18, 19] (by decide +kernel) (by decide +kernel)) (goodIn_sub (fun _ h => List.mem_cons_of_mem _ (List.mem_append_left _ (List.mem_append_right _ h))) (by decide +kernel))
set_option maxRecDepth 20000 in
theorem gX8_addMachine_X8_needMaterial : GoodIn wsX8_addMachine (va_wsS RX8 43 yX8_needMaterial wsX8_needMaterial) := goodIn_app (goodIn_of _ (by decide +kernel)) ggX8_addMachine_X8_needMaterial
set_option maxRecDepth 20000 in
theorem ggX8_addMachine_X8_isOfMachine : GoodIn wsX8_addMachine wsX8_isOfMachine := goodIn_ca (goodIn_r _ [22, 23, 24, 25, 26, 10, 27, 17, 18, 19] (by decide +kernel) (by decide +kernel)) (goodIn_sub (fun _ h => List.mem_cons_of_mem _ (List.mem_append_right _ h)) (by decide +kernel))
set_option maxRecDepth 20000 in
theorem gX8_addMachine_X8_isOfMachine : GoodIn wsX8_addMachine (va_wsS RX8 47 yX8_isOfMachine wsX8_isOfMachine) := goodIn_app (goodIn_of _ (by decide +kernel)) ggX8_addMachine_X8_isOfMachine
set_option maxRecDepth 20000 in
theorem ggX8_addMachine_X3_keep : GoodIn wsX8_addMachine wsX3_keep := goodIn_r _ [32, 33, 34, 35, 36, 37, 38, 39, 40, 41, 31, 42, 43, 44, 45, 46, 47, 48, 49, 50, 51, 52, 53, 54, 55, 56, 57, 58, 59, 60, 61, 62, 63, 64, 65, 66, 67, 68, 69, 70, 71, 72, 73, 74, 75, 76, 77, 78, 79, 80, 81, 82, 83, 109, 110, 111, 100, 101, 102, 103, 104, 105, 106, 107, 108, 112, 113, 114, 115, 116, 117, 118] (by decide +kernel) (by decide +kernel)
set_option maxRecDepth 20000 in
theorem gX8_addMachine_X3_keep : GoodIn wsX8_addMachine (wsV RX8 67 RX3 yX3_keep wsX3_keep) := goodIn_app (goodIn_of _ (by decide +kernel)) ggX8_addMachine_X3_keep
set_option maxRecDepth 20000 in
theorem ggX8_addMachine_X4_addLast : GoodIn wsX8_addMachine wsX4_addLast := goodIn_ca (goodIn_r _ [87, 54, 50, 88, 89, 90, 60, 91, 92, 62, 100, 101, 102, 103, 104, 105, 106, 107, 108, 112, 113] (by decide +kernel) (by decide +kernel)) (goodIn_sub (fun _ h => List.mem_cons_of_mem _ (List.mem_append_right _ h)) (by decide +kernel))
set_option maxRecDepth 20000 in
theorem gX8_addMachine_X4_addLast : GoodIn wsX8_addMachine (wsV RX8 71 RX4 yX4_addLast wsX4_addLast) := goodIn_app (goodIn_of _ (by decide +kernel)) ggX8_addMachine_X4_addLast
theorem dX8_addMachine_0 : decode cX8_addMachine 0 = .ok (.iload_n 1, 1) := by decide +kernel
theorem dX8_addMachine_1 : decode cX8_addMachine 1 = .ok (.invokestatic 43, 3) := by decide +kernel
theorem dX8_addMachine_4 : decode cX8_addMachine 4 = .ok (.iconst 1, 1) := by decide +kernel
theorem dX8_addMachine_5 : decode cX8_addMachine 5 = .ok (.iload_n 2, 1) := by decide +kernel
theorem dX8_addMachine_6 : decode cX8_addMachine 6 = .ok (.invokestatic 47, 3) := by decide +kernel
theorem dX8_addMachine_9 : decode cX8_addMachine 9 = .ok (.ifCond .eq 33, 3) := by decide +kernel
theorem dX8_addMachine_12 : decode cX8_addMachine 12 = .ok (.iconst 2, 1) := by decide +kernel
theorem dX8_addMachine_13 : decode cX8_addMachine 13 = .ok (.iload_n 3, 1) := by decide +kernel
theorem dX8_addMachine_14 : decode cX8_addMachine 14 = .ok (.invokestatic 47, 3) := by decide +kernel
theorem dX8_addMachine_17 : decode cX8_addMachine 17 = .ok (.ifCond .eq 25, 3) := by decide +kernel
theorem dX8_addMachine_20 : decode cX8_addMachine 20 = .ok (.iconst 3, 1) := by decide +kernel
theorem dX8_addMachine_21 : decode cX8_addMachine 21 = .ok (.iload 4, 2) := by decide +kernel
theorem dX8_addMachine_23 : decode cX8_addMachine 23 = .ok (.invokestatic 47, 3) := by decide +kernel
theorem dX8_addMachine_26 : decode cX8_addMachine 26 = .ok (.ifCond .eq 16, 3) := by decide +kernel
theorem dX8_addMachine_29 : decode cX8_addMachine 29 = .ok (.iconst 4, 1) := by decide +kernel
theorem dX8_addMachine_30 : decode cX8_addMachine 30 = .ok (.iload 5, 2) := by decide +kernel
theorem dX8_addMachine_32 : decode cX8_addMachine 32 = .ok (.invokestatic 47, 3) := by decide +kernel
theorem dX8_addMachine_35 : decode cX8_addMachine 35 = .ok (.ifCond .eq 7, 3) := by decide +kernel
theorem dX8_addMachine_38 : decode cX8_addMachine 38 = .ok (.iconst 1, 1) := by decide +kernel
theorem dX8_addMachine_39 : decode cX8_addMachine 39 = .ok (.goto 4, 3) := by decide +kernel
theorem dX8_addMachine_42 : decode cX8_addMachine 42 = .ok (.iconst 0, 1) := by decide +kernel
theorem dX8_addMachine_43 : decode cX8_addMachine 43 = .ok (.istore 6, 2) := by decide +kernel
theorem dX8_addMachine_45 : decode cX8_addMachine 45 = .ok (.iload 6, 2) := by decide +kernel
theorem dX8_addMachine_47 : decode cX8_addMachine 47 = .ok (.ifCond .ne 13, 3) := by decide +kernel
theorem dX8_addMachine_50 : decode cX8_addMachine 50 = .ok (.new 51, 3) := by decide +kernel
theorem dX8_addMachine_53 : decode cX8_addMachine 53 = .ok (.dup, 1) := by decide +kernel
theorem dX8_addMachine_54 : decode cX8_addMachine 54 = .ok (.ldc 53, 2) := by decide +kernel
theorem dX8_addMachine_56 : decode cX8_addMachine 56 = .ok (.invokespecial 55, 3) := by decide +kernel
theorem dX8_addMachine_59 : decode cX8_addMachine 59 = .ok (.athrow, 1) := by decide +kernel
theorem dX8_addMachine_60 : decode cX8_addMachine 60 = .ok (.aload_n 0, 1) := by decide +kernel
theorem dX8_addMachine_61 : decode cX8_addMachine 61 = .ok (.getfield 12, 3) := by decide +kernel
theorem dX8_addMachine_64 : decode cX8_addMachine 64 = .ok (.getfield 58, 3) := by decide +kernel
theorem dX8_addMachine_67 : decode cX8_addMachine 67 = .ok (.bipush 6, 2) := by decide +kernel
theorem dX8_addMachine_69 : decode cX8_addMachine 69 = .ok (.if_icmp .lt 13, 3) := by decide +kernel
theorem dX8_addMachine_72 : decode cX8_addMachine 72 = .ok (.new 62, 3) := by decide +kernel
theorem dX8_addMachine_75 : decode cX8_addMachine 75 = .ok (.dup, 1) := by decide +kernel
theorem dX8_addMachine_76 : decode cX8_addMachine 76 = .ok (.ldc 64, 2) := by decide +kernel
theorem dX8_addMachine_78 : decode cX8_addMachine 78 = .ok (.invokespecial 66, 3) := by decide +kernel
theorem dX8_addMachine_81 : decode cX8_addMachine 81 = .ok (.athrow, 1) := by decide +kernel
theorem dX8_addMachine_82 : decode cX8_addMachine 82 = .ok (.aload_n 0, 1) := by decide +kernel
theorem dX8_addMachine_83 : decode cX8_addMachine 83 = .ok (.getfield 25, 3) := by decide +kernel
theorem dX8_addMachine_86 : decode cX8_addMachine 86 = .ok (.aload_n 0, 1) := by decide +kernel
theorem dX8_addMachine_87 : decode cX8_addMachine 87 = .ok (.getfield 12, 3) := by decide +kernel
theorem dX8_addMachine_90 : decode cX8_addMachine 90 = .ok (.invokevirtual 67, 3) := by decide +kernel
theorem dX8_addMachine_93 : decode cX8_addMachine 93 = .ok (.aload_n 0, 1) := by decide +kernel
theorem dX8_addMachine_94 : decode cX8_addMachine 94 = .ok (.getfield 12, 3) := by decide +kernel
theorem dX8_addMachine_97 : decode cX8_addMachine 97 = .ok (.iload_n 1, 1) := by decide +kernel
theorem dX8_addMachine_98 : decode cX8_addMachine 98 = .ok (.iload_n 2, 1) := by decide +kernel
theorem dX8_addMachine_99 : decode cX8_addMachine 99 = .ok (.iload_n 3, 1) := by decide +kernel
theorem dX8_addMachine_100 : decode cX8_addMachine 100 = .ok (.iload 4, 2) := by decide +kernel
theorem dX8_addMachine_102 : decode cX8_addMachine 102 = .ok (.iload 5, 2) := by decide +kernel
theorem dX8_addMachine_104 : decode cX8_addMachine 104 = .ok (.invokevirtual 71, 3) := by decide +kernel
theorem dX8_addMachine_107 : decode cX8_addMachine 107 = .ok (.ireturn, 1) := by decide +kernel
set_option maxRecDepth 20000 in
theorem ggX8_removeMachine_X3_keep : GoodIn wsX8_removeMachine wsX3_keep := goodIn_r _ [10, 11, 12, 13, 14, 15, 16, 17, 18, 19, 9, 20, 21, 22, 23, 24, 25, 26, 27, 28, 29, 30, 31, 32, 33, 34, 35, 36, 37, 38, 39, 40, 41, 42, 43, 44, 45, 46, 47, 48, 49, 50, 51, 52, 53, 54, 55, 56, 57, 58, 59, 60, 61, 104, 105, 106, 95, 96, 97, 98, 99, 100, 101, 102, 103, 107, 108, 109, 110, 111, 112, 113] (by decide +kernel) (by decide +kernel)
set_option maxRecDepth 20000 in
theorem gX8_removeMachine_X3_keep : GoodIn wsX8_removeMachine (wsV RX8 67 RX3 yX3_keep wsX3_keep) := goodIn_app (goodIn_of _ (by decide +kernel)) ggX8_removeMachine_X3_keep
set_option maxRecDepth 20000 in
theorem ggX8_removeMachine_X4_removeLast : GoodIn wsX8_removeMachine wsX4_removeLast := goodIn_ca (goodIn_r _ [65, 32, 29, 66, 67, 68, 38, 69, 70, 71, 72, 73, 74, 40, 75, 76, 77, 78, 79, 80, 81, 82, 83, 84, 85, 86, 87, 95, 96, 97, 98, 99, 100, 101, 102, 103, 107, 108] (by decide +kernel) (by decide +kernel)) (goodIn_sub (fun _ h => List.mem_cons_of_mem _ (List.mem_append_right _ h)) (by decide +kernel))
set_option maxRecDepth 20000 in
theorem gX8_removeMachine_X4_removeLast : GoodIn wsX8_removeMachine (wsV RX8 80 RX4 yX4_removeLast wsX4_removeLast) := goodIn_app (goodIn_of _ (by decide +kernel)) ggX8_removeMachine_X4_removeLast
theorem dX8_removeMachine_0 : decode cX8_removeMachine 0 = .ok (.aload_n 0, 1) := by decide +kernel
theorem dX8_removeMachine_1 : decode cX8_removeMachine 1 = .ok (.getfield 12, 3) := by decide +kernel
theorem dX8_removeMachine_4 : decode cX8_removeMachine 4 = .ok (.getfield 58, 3) := by decide +kernel
theorem dX8_removeMachine_7 : decode cX8_removeMachine 7 = .ok (.ifCond .gt 13, 3) := by decide +kernel
theorem dX8_removeMachine_10 : decode cX8_removeMachine 10 = .ok (.new 75, 3) := by decide +kernel
theorem dX8_removeMachine_13 : decode cX8_removeMachine 13 = .ok (.dup, 1) := by decide +kernel
theorem dX8_removeMachine_14 : decode cX8_removeMachine 14 = .ok (.ldc 77, 2) := by decide +kernel
theorem dX8_removeMachine_16 : decode cX8_removeMachine 16 = .ok (.invokespecial 79, 3) := by decide +kernel
theorem dX8_removeMachine_19 : decode cX8_removeMachine 19 = .ok (.athrow, 1) := by decide +kernel
theorem dX8_removeMachine_20 : decode cX8_removeMachine 20 = .ok (.aload_n 0, 1) := by decide +kernel
theorem dX8_removeMachine_21 : decode cX8_removeMachine 21 = .ok (.getfield 25, 3) := by decide +kernel
theorem dX8_removeMachine_24 : decode cX8_removeMachine 24 = .ok (.aload_n 0, 1) := by decide +kernel
theorem dX8_removeMachine_25 : decode cX8_removeMachine 25 = .ok (.getfield 12, 3) := by decide +kernel
theorem dX8_removeMachine_28 : decode cX8_removeMachine 28 = .ok (.invokevirtual 67, 3) := by decide +kernel
theorem dX8_removeMachine_31 : decode cX8_removeMachine 31 = .ok (.aload_n 0, 1) := by decide +kernel
theorem dX8_removeMachine_32 : decode cX8_removeMachine 32 = .ok (.getfield 12, 3) := by decide +kernel
theorem dX8_removeMachine_35 : decode cX8_removeMachine 35 = .ok (.invokevirtual 80, 3) := by decide +kernel
theorem dX8_removeMachine_38 : decode cX8_removeMachine 38 = .ok (.ireturn, 1) := by decide +kernel
set_option maxRecDepth 20000 in
theorem ggX8_exchange_X8_needMachine : GoodIn wsX8_exchange wsX8_needMachine := goodIn_ca (goodIn_r _ [13, 14, 15, 2, 16, 17, 18, 12, 19, 88, 89, 90, 91, 92, 93, 94, 95, 96, 97, 98, 99, 100, 101, 102, 103] (by decide +kernel) (by decide +kernel)) (goodIn_sub (fun _ h => List.mem_cons_of_mem _ (List.mem_append_left _ (List.mem_append_right _ h))) (by decide +kernel))
set_option maxRecDepth 20000 in
theorem gX8_exchange_X8_needMachine : GoodIn wsX8_exchange (wsV RX8 84 RX8 yX8_needMachine wsX8_needMachine) := goodIn_app (goodIn_of _ (by decide +kernel)) ggX8_exchange_X8_needMachine
set_option maxRecDepth 20000 in
theorem ggX8_exchange_X3_keep : GoodIn wsX8_exchange wsX3_keep := goodIn_r _ [24, 25, 26, 27, 28, 7, 29, 30, 31, 32, 23, 33, 34, 35, 36, 37, 38, 39, 40, 41, 42, 43, 44, 45, 46, 47, 48, 49, 50, 51, 52, 53, 54, 55, 56, 57, 58, 59, 60, 61, 62, 63, 64, 65, 66, 67, 68, 69, 70, 71, 72, 73, 74, 104, 105, 106, 95, 96, 97, 98, 99, 100, 101, 102, 103, 107, 108, 109, 110, 111, 112, 113] (by decide +kernel) (by decide +kernel)
set_option maxRecDepth 20000 in
theorem gX8_exchange_X3_keep : GoodIn wsX8_exchange (wsV RX8 67 RX3 yX3_keep wsX3_keep) := goodIn_app (goodIn_of _ (by decide +kernel)) ggX8_exchange_X3_keep
set_option maxRecDepth 20000 in
theorem ggX8_exchange_X6_swapRows : GoodIn wsX8_exchange wsX6_swapRows := goodIn_ca (goodIn_r _ [78, 79, 80, 81, 82, 51, 83, 53, 84, 85, 86, 87, 107, 108] (by decide +kernel) (by decide +kernel)) (goodIn_sub (fun _ h => List.mem_cons_of_mem _ (List.mem_append_right _ h)) (by decide +kernel))
set_option maxRecDepth 20000 in
theorem gX8_exchange_X6_swapRows : GoodIn wsX8_exchange (wsV RX8 91 RX6 yX6_swapRows wsX6_swapRows) := goodIn_app (goodIn_of _ (by decide +kernel)) ggX8_exchange_X6_swapRows
theorem dX8_exchange_0 : decode cX8_exchange 0 = .ok (.aload_n 0, 1) := by decide +kernel
theorem dX8_exchange_1 : decode cX8_exchange 1 = .ok (.iload_n 1, 1) := by decide +kernel
theorem dX8_exchange_2 : decode cX8_exchange 2 = .ok (.invokevirtual 84, 3) := by decide +kernel
theorem dX8_exchange_5 : decode cX8_exchange 5 = .ok (.aload_n 0, 1) := by decide +kernel
theorem dX8_exchange_6 : decode cX8_exchange 6 = .ok (.iload_n 2, 1) := by decide +kernel
theorem dX8_exchange_7 : decode cX8_exchange 7 = .ok (.invokevirtual 84, 3) := by decide +kernel
theorem dX8_exchange_10 : decode cX8_exchange 10 = .ok (.aload_n 0, 1) := by decide +kernel
theorem dX8_exchange_11 : decode cX8_exchange 11 = .ok (.getfield 25, 3) := by decide +kernel
theorem dX8_exchange_14 : decode cX8_exchange 14 = .ok (.aload_n 0, 1) := by decide +kernel
theorem dX8_exchange_15 : decode cX8_exchange 15 = .ok (.getfield 12, 3) := by decide +kernel
theorem dX8_exchange_18 : decode cX8_exchange 18 = .ok (.invokevirtual 67, 3) := by decide +kernel
theorem dX8_exchange_21 : decode cX8_exchange 21 = .ok (.aload_n 0, 1) := by decide +kernel
theorem dX8_exchange_22 : decode cX8_exchange 22 = .ok (.getfield 12, 3) := by decide +kernel
theorem dX8_exchange_25 : decode cX8_exchange 25 = .ok (.getfield 87, 3) := by decide +kernel
theorem dX8_exchange_28 : decode cX8_exchange 28 = .ok (.iload_n 1, 1) := by decide +kernel
theorem dX8_exchange_29 : decode cX8_exchange 29 = .ok (.iload_n 2, 1) := by decide +kernel
theorem dX8_exchange_30 : decode cX8_exchange 30 = .ok (.invokevirtual 91, 3) := by decide +kernel
theorem dX8_exchange_33 : decode cX8_exchange 33 = .ok (.aload_n 0, 1) := by decide +kernel
theorem dX8_exchange_34 : decode cX8_exchange 34 = .ok (.getfield 12, 3) := by decide +kernel
theorem dX8_exchange_37 : decode cX8_exchange 37 = .ok (.getfield 97, 3) := by decide +kernel
theorem dX8_exchange_40 : decode cX8_exchange 40 = .ok (.iload_n 1, 1) := by decide +kernel
theorem dX8_exchange_41 : decode cX8_exchange 41 = .ok (.iload_n 2, 1) := by decide +kernel
theorem dX8_exchange_42 : decode cX8_exchange 42 = .ok (.invokevirtual 91, 3) := by decide +kernel
theorem dX8_exchange_45 : decode cX8_exchange 45 = .ok (.iload_n 1, 1) := by decide +kernel
theorem dX8_exchange_46 : decode cX8_exchange 46 = .ok (.iload_n 2, 1) := by decide +kernel
theorem dX8_exchange_47 : decode cX8_exchange 47 = .ok (.if_icmp .ne 7, 3) := by decide +kernel
theorem dX8_exchange_50 : decode cX8_exchange 50 = .ok (.iconst 0, 1) := by decide +kernel
theorem dX8_exchange_51 : decode cX8_exchange 51 = .ok (.goto 11, 3) := by decide +kernel
theorem dX8_exchange_54 : decode cX8_exchange 54 = .ok (.iload_n 1, 1) := by decide +kernel
theorem dX8_exchange_55 : decode cX8_exchange 55 = .ok (.iload_n 2, 1) := by decide +kernel
theorem dX8_exchange_56 : decode cX8_exchange 56 = .ok (.isub, 1) := by decide +kernel
theorem dX8_exchange_57 : decode cX8_exchange 57 = .ok (.invokestatic 100, 3) := by decide +kernel
theorem dX8_exchange_60 : decode cX8_exchange 60 = .ok (.iconst 1, 1) := by decide +kernel
theorem dX8_exchange_61 : decode cX8_exchange 61 = .ok (.isub, 1) := by decide +kernel
theorem dX8_exchange_62 : decode cX8_exchange 62 = .ok (.ireturn, 1) := by decide +kernel
set_option maxRecDepth 20000 in
theorem ggX8_setMachine_X8_needMachine : GoodIn wsX8_setMachine wsX8_needMachine := goodIn_ca (goodIn_r _ [10, 11, 12, 4, 13, 14, 15, 9, 16, 90, 91, 92, 93, 94, 95, 96, 97, 98, 99, 100, 101, 102, 103, 104, 105] (by decide +kernel) (by decide +kernel)) (goodIn_sub (fun _ h => List.mem_cons_of_mem _ (List.mem_append_left _ (List.mem_append_right _ h))) (by decide +kernel))
set_option maxRecDepth 20000 in
theorem gX8_setMachine_X8_needMachine : GoodIn wsX8_setMachine (wsV RX8 84 RX8 yX8_needMachine wsX8_needMachine) := goodIn_app (goodIn_of _ (by decide +kernel)) ggX8_setMachine_X8_needMachine
set_option maxRecDepth 20000 in
theorem ggX8_setMachine_X8_isOfMachine : GoodIn wsX8_setMachine wsX8_isOfMachine := goodIn_ca (goodIn_r _ [19, 20, 21, 22, 23, 9, 24, 14, 15, 16] (by decide +kernel) (by decide +kernel)) (goodIn_sub (fun _ h => List.mem_cons_of_mem _ (List.mem_append_right _ h)) (by decide +kernel))
set_option maxRecDepth 20000 in
theorem gX8_setMachine_X8_isOfMachine : GoodIn wsX8_setMachine (va_wsS RX8 47 yX8_isOfMachine wsX8_isOfMachine) := goodIn_app (goodIn_of _ (by decide +kernel)) ggX8_setMachine_X8_isOfMachine
set_option maxRecDepth 20000 in
theorem ggX8_setMachine_X3_keep : GoodIn wsX8_setMachine wsX3_keep := goodIn_r _ [29, 30, 31, 32, 33, 34, 35, 36, 37, 38, 28, 39, 40, 41, 42, 43, 44, 45, 46, 47, 48, 49, 50, 51, 52, 53, 54, 55, 56, 57, 58, 59, 60, 61, 62, 63, 64, 65, 66, 67, 68, 69, 70, 71, 72, 73, 74, 75, 76, 77, 78, 79, 80, 106, 107, 108, 97, 98, 99, 100, 101, 102, 103, 104, 105, 109, 110, 111, 112, 113, 114, 115] (by decide +kernel) (by decide +kernel)
set_option maxRecDepth 20000 in
theorem gX8_setMachine_X3_keep : GoodIn wsX8_setMachine (wsV RX8 67 RX3 yX3_keep wsX3_keep) := goodIn_app (goodIn_of _ (by decide +kernel)) ggX8_setMachine_X3_keep
set_option maxRecDepth 20000 in
theorem ggX8_setMachine_X6_get : GoodIn wsX8_setMachine wsX6_get := goodIn_ca (goodIn_r _ [84, 85, 59, 109, 110] (by decide +kernel) (by decide +kernel)) (goodIn_sub (fun _ h => List.mem_cons_of_mem _ (List.mem_append_right _ h)) (by decide +kernel))
set_option maxRecDepth 20000 in
theorem gX8_setMachine_X6_get : GoodIn wsX8_setMachine (wsV RX8 108 RX6 yX6_get wsX6_get) := goodIn_app (goodIn_of _ (by decide +kernel)) ggX8_setMachine_X6_get
set_option maxRecDepth 20000 in
theorem ggX8_setMachine_X6_put : GoodIn wsX8_setMachine wsX6_put := goodIn_ca (goodIn_r _ [89, 85, 59, 109, 110] (by decide +kernel) (by decide +kernel)) (goodIn_sub (fun _ h => List.mem_cons_of_mem _ (List.mem_append_right _ h)) (by decide +kernel))
set_option maxRecDepth 20000 in
theorem gX8_setMachine_X6_put : GoodIn wsX8_setMachine (wsV RX8 112 RX6 yX6_put wsX6_put) := goodIn_app (goodIn_of _ (by decide +kernel)) ggX8_setMachine_X6_put
theorem dX8_setMachine_0 : decode cX8_setMachine 0 = .ok (.aload_n 0, 1) := by decide +kernel
theorem dX8_setMachine_1 : decode cX8_setMachine 1 = .ok (.iload_n 1, 1) := by decide +kernel
theorem dX8_setMachine_2 : decode cX8_setMachine 2 = .ok (.invokevirtual 84, 3) := by decide +kernel
theorem dX8_setMachine_5 : decode cX8_setMachine 5 = .ok (.iload_n 2, 1) := by decide +kernel
theorem dX8_setMachine_6 : decode cX8_setMachine 6 = .ok (.iload_n 3, 1) := by decide +kernel
theorem dX8_setMachine_7 : decode cX8_setMachine 7 = .ok (.invokestatic 47, 3) := by decide +kernel
theorem dX8_setMachine_10 : decode cX8_setMachine 10 = .ok (.ifCond .ne 13, 3) := by decide +kernel
theorem dX8_setMachine_13 : decode cX8_setMachine 13 = .ok (.new 51, 3) := by decide +kernel
theorem dX8_setMachine_16 : decode cX8_setMachine 16 = .ok (.dup, 1) := by decide +kernel
theorem dX8_setMachine_17 : decode cX8_setMachine 17 = .ok (.ldc 106, 2) := by decide +kernel
theorem dX8_setMachine_19 : decode cX8_setMachine 19 = .ok (.invokespecial 55, 3) := by decide +kernel
theorem dX8_setMachine_22 : decode cX8_setMachine 22 = .ok (.athrow, 1) := by decide +kernel
theorem dX8_setMachine_23 : decode cX8_setMachine 23 = .ok (.aload_n 0, 1) := by decide +kernel
theorem dX8_setMachine_24 : decode cX8_setMachine 24 = .ok (.getfield 25, 3) := by decide +kernel
theorem dX8_setMachine_27 : decode cX8_setMachine 27 = .ok (.aload_n 0, 1) := by decide +kernel
theorem dX8_setMachine_28 : decode cX8_setMachine 28 = .ok (.getfield 12, 3) := by decide +kernel
theorem dX8_setMachine_31 : decode cX8_setMachine 31 = .ok (.invokevirtual 67, 3) := by decide +kernel
theorem dX8_setMachine_34 : decode cX8_setMachine 34 = .ok (.aload_n 0, 1) := by decide +kernel
theorem dX8_setMachine_35 : decode cX8_setMachine 35 = .ok (.getfield 12, 3) := by decide +kernel
theorem dX8_setMachine_38 : decode cX8_setMachine 38 = .ok (.getfield 87, 3) := by decide +kernel
theorem dX8_setMachine_41 : decode cX8_setMachine 41 = .ok (.iload_n 1, 1) := by decide +kernel
theorem dX8_setMachine_42 : decode cX8_setMachine 42 = .ok (.iload_n 2, 1) := by decide +kernel
theorem dX8_setMachine_43 : decode cX8_setMachine 43 = .ok (.invokevirtual 108, 3) := by decide +kernel
theorem dX8_setMachine_46 : decode cX8_setMachine 46 = .ok (.istore 4, 2) := by decide +kernel
theorem dX8_setMachine_48 : decode cX8_setMachine 48 = .ok (.aload_n 0, 1) := by decide +kernel
theorem dX8_setMachine_49 : decode cX8_setMachine 49 = .ok (.getfield 12, 3) := by decide +kernel
theorem dX8_setMachine_52 : decode cX8_setMachine 52 = .ok (.getfield 87, 3) := by decide +kernel
theorem dX8_setMachine_55 : decode cX8_setMachine 55 = .ok (.iload_n 1, 1) := by decide +kernel
theorem dX8_setMachine_56 : decode cX8_setMachine 56 = .ok (.iload_n 2, 1) := by decide +kernel
theorem dX8_setMachine_57 : decode cX8_setMachine 57 = .ok (.iload_n 3, 1) := by decide +kernel
theorem dX8_setMachine_58 : decode cX8_setMachine 58 = .ok (.invokevirtual 112, 3) := by decide +kernel
theorem dX8_setMachine_61 : decode cX8_setMachine 61 = .ok (.iload 4, 2) := by decide +kernel
theorem dX8_setMachine_63 : decode cX8_setMachine 63 = .ok (.ireturn, 1) := by decide +kernel
set_option maxRecDepth 20000 in
theorem ggX8_machine_X8_needMachine : GoodIn wsX8_machine wsX8_needMachine := goodIn_ca (goodIn_r _ [10, 11, 12, 3, 13, 14, 15, 9, 16, 29, 30, 31, 32, 33, 34, 35, 36, 37, 38, 39, 40, 41, 42, 43, 44] (by decide +kernel) (by decide +kernel)) (goodIn_sub (fun _ h => List.mem_cons_of_mem _ (List.mem_append_left _ (List.mem_append_right _ h))) (by decide +kernel))
set_option maxRecDepth 20000 in
theorem gX8_machine_X8_needMachine : GoodIn wsX8_machine (wsV RX8 84 RX8 yX8_needMachine wsX8_needMachine) := goodIn_app (goodIn_of _ (by decide +kernel)) ggX8_machine_X8_needMachine
set_option maxRecDepth 20000 in
theorem ggX8_machine_X8_isWithin : GoodIn wsX8_machine wsX8_isWithin := goodIn_r _ [16] (by decide +kernel) (by decide +kernel)
set_option maxRecDepth 20000 in
theorem gX8_machine_X8_isWithin : GoodIn wsX8_machine (va_wsS RX8 116 yX8_isWithin wsX8_isWithin) := goodIn_app (goodIn_of _ (by decide +kernel)) ggX8_machine_X8_isWithin
set_option maxRecDepth 20000 in
theorem ggX8_machine_X6_sum : GoodIn wsX8_machine wsX6_sum := goodIn_ca (goodIn_r _ [21, 22, 23, 24, 25, 20, 26, 27, 45, 46] (by decide +kernel) (by decide +kernel)) (goodIn_sub (fun _ h => List.mem_cons_of_mem _ (List.mem_append_right _ h)) (by decide +kernel))
set_option maxRecDepth 20000 in
theorem gX8_machine_X6_sum : GoodIn wsX8_machine (wsV RX8 120 RX6 yX6_sum wsX6_sum) := goodIn_app (goodIn_of _ (by decide +kernel)) ggX8_machine_X6_sum
set_option maxRecDepth 20000 in
theorem ggX8_machine_X6_get : GoodIn wsX8_machine wsX6_get := goodIn_ca (goodIn_r _ [26, 22, 27, 45, 46] (by decide +kernel) (by decide +kernel)) (goodIn_sub (fun _ h => List.mem_cons_of_mem _ (List.mem_append_right _ h)) (by decide +kernel))
set_option maxRecDepth 20000 in
theorem gX8_machine_X6_get : GoodIn wsX8_machine (wsV RX8 108 RX6 yX6_get wsX6_get) := goodIn_app (goodIn_of _ (by decide +kernel)) ggX8_machine_X6_get
theorem dX8_machine_0 : decode cX8_machine 0 = .ok (.aload_n 0, 1) := by decide +kernel
theorem dX8_machine_1 : decode cX8_machine 1 = .ok (.iload_n 1, 1) := by decide +kernel
theorem dX8_machine_2 : decode cX8_machine 2 = .ok (.invokevirtual 84, 3) := by decide +kernel
theorem dX8_machine_5 : decode cX8_machine 5 = .ok (.iload_n 2, 1) := by decide +kernel
theorem dX8_machine_6 : decode cX8_machine 6 = .ok (.iconst 0, 1) := by decide +kernel
theorem dX8_machine_7 : decode cX8_machine 7 = .ok (.bipush 6, 2) := by decide +kernel
theorem dX8_machine_9 : decode cX8_machine 9 = .ok (.invokestatic 116, 3) := by decide +kernel
theorem dX8_machine_12 : decode cX8_machine 12 = .ok (.ifCond .ne 13, 3) := by decide +kernel
theorem dX8_machine_15 : decode cX8_machine 15 = .ok (.new 51, 3) := by decide +kernel
theorem dX8_machine_18 : decode cX8_machine 18 = .ok (.dup, 1) := by decide +kernel
theorem dX8_machine_19 : decode cX8_machine 19 = .ok (.ldc 106, 2) := by decide +kernel
theorem dX8_machine_21 : decode cX8_machine 21 = .ok (.invokespecial 55, 3) := by decide +kernel
theorem dX8_machine_24 : decode cX8_machine 24 = .ok (.athrow, 1) := by decide +kernel
theorem dX8_machine_25 : decode cX8_machine 25 = .ok (.iload_n 2, 1) := by decide +kernel
theorem dX8_machine_26 : decode cX8_machine 26 = .ok (.iconst 5, 1) := by decide +kernel
theorem dX8_machine_27 : decode cX8_machine 27 = .ok (.if_icmp .ne 17, 3) := by decide +kernel
theorem dX8_machine_30 : decode cX8_machine 30 = .ok (.aload_n 0, 1) := by decide +kernel
theorem dX8_machine_31 : decode cX8_machine 31 = .ok (.getfield 12, 3) := by decide +kernel
theorem dX8_machine_34 : decode cX8_machine 34 = .ok (.getfield 97, 3) := by decide +kernel
theorem dX8_machine_37 : decode cX8_machine 37 = .ok (.iload_n 1, 1) := by decide +kernel
theorem dX8_machine_38 : decode cX8_machine 38 = .ok (.invokevirtual 120, 3) := by decide +kernel
theorem dX8_machine_41 : decode cX8_machine 41 = .ok (.goto 15, 3) := by decide +kernel
theorem dX8_machine_44 : decode cX8_machine 44 = .ok (.aload_n 0, 1) := by decide +kernel
theorem dX8_machine_45 : decode cX8_machine 45 = .ok (.getfield 12, 3) := by decide +kernel
theorem dX8_machine_48 : decode cX8_machine 48 = .ok (.getfield 87, 3) := by decide +kernel
theorem dX8_machine_51 : decode cX8_machine 51 = .ok (.iload_n 1, 1) := by decide +kernel
theorem dX8_machine_52 : decode cX8_machine 52 = .ok (.iload_n 2, 1) := by decide +kernel
theorem dX8_machine_53 : decode cX8_machine 53 = .ok (.invokevirtual 108, 3) := by decide +kernel
theorem dX8_machine_56 : decode cX8_machine 56 = .ok (.ireturn, 1) := by decide +kernel
set_option maxRecDepth 20000 in
theorem ggX8_rate_X8_needMachine : GoodIn wsX8_rate wsX8_needMachine := goodIn_ca (goodIn_r _ [8, 9, 10, 3, 11, 12, 13, 7, 14, 35, 36, 37, 38, 39, 40, 41, 42, 43, 44, 45, 46, 47, 48, 49, 50] (by decide +kernel) (by decide +kernel)) (goodIn_sub (fun _ h => List.mem_cons_of_mem _ (List.mem_append_left _ (List.mem_append_right _ h))) (by decide +kernel))
set_option maxRecDepth 20000 in
theorem gX8_rate_X8_needMachine : GoodIn wsX8_rate (wsV RX8 84 RX8 yX8_needMachine wsX8_needMachine) := goodIn_app (goodIn_of _ (by decide +kernel)) ggX8_rate_X8_needMachine
set_option maxRecDepth 20000 in
theorem ggX8_rate_X8_isWithin : GoodIn wsX8_rate wsX8_isWithin := goodIn_r _ [14] (by decide +kernel) (by decide +kernel)
set_option maxRecDepth 20000 in
theorem gX8_rate_X8_isWithin : GoodIn wsX8_rate (va_wsS RX8 116 yX8_isWithin wsX8_isWithin) := goodIn_app (goodIn_of _ (by decide +kernel)) ggX8_rate_X8_isWithin
set_option maxRecDepth 20000 in
theorem ggX8_rate_X4_rateOf : GoodIn wsX8_rate wsX4_rateOf := goodIn_ca (goodIn_r _ [19, 20, 21, 22, 23, 24, 25, 26, 27, 28, 29, 30, 31, 32, 33, 34, 42, 43, 44, 45, 46, 47, 48, 49, 50, 51, 52] (by decide +kernel) (by decide +kernel)) (goodIn_sub (fun _ h => List.mem_cons_of_mem _ (List.mem_append_right _ h)) (by decide +kernel))
set_option maxRecDepth 20000 in
theorem gX8_rate_X4_rateOf : GoodIn wsX8_rate (wsV RX8 125 RX4 yX4_rateOf wsX4_rateOf) := goodIn_app (goodIn_of _ (by decide +kernel)) ggX8_rate_X4_rateOf
theorem dX8_rate_0 : decode cX8_rate 0 = .ok (.aload_n 0, 1) := by decide +kernel
theorem dX8_rate_1 : decode cX8_rate 1 = .ok (.iload_n 1, 1) := by decide +kernel
theorem dX8_rate_2 : decode cX8_rate 2 = .ok (.invokevirtual 84, 3) := by decide +kernel
theorem dX8_rate_5 : decode cX8_rate 5 = .ok (.iload_n 2, 1) := by decide +kernel
theorem dX8_rate_6 : decode cX8_rate 6 = .ok (.iconst 0, 1) := by decide +kernel
theorem dX8_rate_7 : decode cX8_rate 7 = .ok (.sipush 9999, 3) := by decide +kernel
theorem dX8_rate_10 : decode cX8_rate 10 = .ok (.invokestatic 116, 3) := by decide +kernel
theorem dX8_rate_13 : decode cX8_rate 13 = .ok (.ifCond .ne 13, 3) := by decide +kernel
theorem dX8_rate_16 : decode cX8_rate 16 = .ok (.new 51, 3) := by decide +kernel
theorem dX8_rate_19 : decode cX8_rate 19 = .ok (.dup, 1) := by decide +kernel
theorem dX8_rate_20 : decode cX8_rate 20 = .ok (.ldc 123, 2) := by decide +kernel
theorem dX8_rate_22 : decode cX8_rate 22 = .ok (.invokespecial 55, 3) := by decide +kernel
theorem dX8_rate_25 : decode cX8_rate 25 = .ok (.athrow, 1) := by decide +kernel
theorem dX8_rate_26 : decode cX8_rate 26 = .ok (.aload_n 0, 1) := by decide +kernel
theorem dX8_rate_27 : decode cX8_rate 27 = .ok (.getfield 12, 3) := by decide +kernel
theorem dX8_rate_30 : decode cX8_rate 30 = .ok (.iload_n 1, 1) := by decide +kernel
theorem dX8_rate_31 : decode cX8_rate 31 = .ok (.iload_n 2, 1) := by decide +kernel
theorem dX8_rate_32 : decode cX8_rate 32 = .ok (.iload_n 3, 1) := by decide +kernel
theorem dX8_rate_33 : decode cX8_rate 33 = .ok (.invokevirtual 125, 3) := by decide +kernel
theorem dX8_rate_36 : decode cX8_rate 36 = .ok (.ireturn, 1) := by decide +kernel
set_option maxRecDepth 20000 in
theorem ggX8_set_X8_isWithin : GoodIn wsX8_set wsX8_isWithin := goodIn_r _ [13] (by decide +kernel) (by decide +kernel)
set_option maxRecDepth 20000 in
theorem gX8_set_X8_isWithin : GoodIn wsX8_set (va_wsS RX8 116 yX8_isWithin wsX8_isWithin) := goodIn_app (goodIn_of _ (by decide +kernel)) ggX8_set_X8_isWithin
set_option maxRecDepth 20000 in
theorem ggX8_set_X8_isFitting : GoodIn wsX8_set wsX8_isFitting := goodIn_ca (goodIn_r _ [16, 10, 11, 12, 13] (by decide +kernel) (by decide +kernel)) (goodIn_sub (fun _ h => List.mem_cons_of_mem _ (List.mem_append_right _ h)) (by decide +kernel))
set_option maxRecDepth 20000 in
theorem gX8_set_X8_isFitting : GoodIn wsX8_set (va_wsS RX8 141 yX8_isFitting wsX8_isFitting) := goodIn_app (goodIn_of _ (by decide +kernel)) ggX8_set_X8_isFitting
set_option maxRecDepth 20000 in
theorem ggX8_set_X3_keep : GoodIn wsX8_set wsX3_keep := goodIn_r _ [21, 22, 23, 24, 25, 26, 27, 28, 29, 30, 20, 31, 32, 33, 34, 35, 36, 37, 38, 39, 40, 41, 42, 43, 44, 45, 46, 47, 48, 49, 50, 51, 52, 53, 54, 55, 56, 57, 58, 59, 60, 61, 62, 63, 64, 65, 66, 67, 68, 69, 70, 71, 72, 102, 103, 104, 93, 94, 95, 96, 97, 98, 99, 100, 101, 105, 106, 107, 108, 109, 110, 111] (by decide +kernel) (by decide +kernel)
set_option maxRecDepth 20000 in
theorem gX8_set_X3_keep : GoodIn wsX8_set (wsV RX8 67 RX3 yX3_keep wsX3_keep) := goodIn_app (goodIn_of _ (by decide +kernel)) ggX8_set_X3_keep
set_option maxRecDepth 20000 in
theorem ggX8_set_X4_setting : GoodIn wsX8_set wsX4_setting := goodIn_ca (goodIn_r _ [76, 38, 77, 78, 79, 49, 80, 81, 51, 93, 94, 95, 96, 97, 98, 99, 100, 101, 105, 106] (by decide +kernel) (by decide +kernel)) (goodIn_sub (fun _ h => List.mem_cons_of_mem _ (List.mem_append_right _ h)) (by decide +kernel))
set_option maxRecDepth 20000 in
theorem gX8_set_X4_setting : GoodIn wsX8_set (wsV RX8 147 RX4 yX4_setting wsX4_setting) := goodIn_app (goodIn_of _ (by decide +kernel)) ggX8_set_X4_setting
set_option maxRecDepth 20000 in
theorem ggX8_set_X6_put : GoodIn wsX8_set wsX6_put := goodIn_ca (goodIn_r _ [85, 81, 51, 105, 106] (by decide +kernel) (by decide +kernel)) (goodIn_sub (fun _ h => List.mem_cons_of_mem _ (List.mem_append_right _ h)) (by decide +kernel))
set_option maxRecDepth 20000 in
theorem gX8_set_X6_put : GoodIn wsX8_set (wsV RX8 112 RX6 yX6_put wsX6_put) := goodIn_app (goodIn_of _ (by decide +kernel)) ggX8_set_X6_put
theorem dX8_set_0 : decode cX8_set 0 = .ok (.iload_n 1, 1) := by decide +kernel
theorem dX8_set_1 : decode cX8_set 1 = .ok (.iconst 0, 1) := by decide +kernel
theorem dX8_set_2 : decode cX8_set 2 = .ok (.iconst 4, 1) := by decide +kernel
theorem dX8_set_3 : decode cX8_set 3 = .ok (.invokestatic 116, 3) := by decide +kernel
theorem dX8_set_6 : decode cX8_set 6 = .ok (.ifCond .ne 13, 3) := by decide +kernel
theorem dX8_set_9 : decode cX8_set 9 = .ok (.new 129, 3) := by decide +kernel
theorem dX8_set_12 : decode cX8_set 12 = .ok (.dup, 1) := by decide +kernel
theorem dX8_set_13 : decode cX8_set 13 = .ok (.ldc 131, 2) := by decide +kernel
theorem dX8_set_15 : decode cX8_set 15 = .ok (.invokespecial 133, 3) := by decide +kernel
theorem dX8_set_18 : decode cX8_set 18 = .ok (.athrow, 1) := by decide +kernel
theorem dX8_set_19 : decode cX8_set 19 = .ok (.iload_n 1, 1) := by decide +kernel
theorem dX8_set_20 : decode cX8_set 20 = .ok (.iload_n 2, 1) := by decide +kernel
theorem dX8_set_21 : decode cX8_set 21 = .ok (.getstatic 134, 3) := by decide +kernel
theorem dX8_set_24 : decode cX8_set 24 = .ok (.getstatic 138, 3) := by decide +kernel
theorem dX8_set_27 : decode cX8_set 27 = .ok (.invokestatic 141, 3) := by decide +kernel
theorem dX8_set_30 : decode cX8_set 30 = .ok (.ifCond .ne 13, 3) := by decide +kernel
theorem dX8_set_33 : decode cX8_set 33 = .ok (.new 51, 3) := by decide +kernel
theorem dX8_set_36 : decode cX8_set 36 = .ok (.dup, 1) := by decide +kernel
theorem dX8_set_37 : decode cX8_set 37 = .ok (.ldc 145, 2) := by decide +kernel
theorem dX8_set_39 : decode cX8_set 39 = .ok (.invokespecial 55, 3) := by decide +kernel
theorem dX8_set_42 : decode cX8_set 42 = .ok (.athrow, 1) := by decide +kernel
theorem dX8_set_43 : decode cX8_set 43 = .ok (.aload_n 0, 1) := by decide +kernel
theorem dX8_set_44 : decode cX8_set 44 = .ok (.getfield 25, 3) := by decide +kernel
theorem dX8_set_47 : decode cX8_set 47 = .ok (.aload_n 0, 1) := by decide +kernel
theorem dX8_set_48 : decode cX8_set 48 = .ok (.getfield 12, 3) := by decide +kernel
theorem dX8_set_51 : decode cX8_set 51 = .ok (.invokevirtual 67, 3) := by decide +kernel
theorem dX8_set_54 : decode cX8_set 54 = .ok (.aload_n 0, 1) := by decide +kernel
theorem dX8_set_55 : decode cX8_set 55 = .ok (.getfield 12, 3) := by decide +kernel
theorem dX8_set_58 : decode cX8_set 58 = .ok (.iload_n 1, 1) := by decide +kernel
theorem dX8_set_59 : decode cX8_set 59 = .ok (.invokevirtual 147, 3) := by decide +kernel
theorem dX8_set_62 : decode cX8_set 62 = .ok (.istore_n 3, 1) := by decide +kernel
theorem dX8_set_63 : decode cX8_set 63 = .ok (.aload_n 0, 1) := by decide +kernel
theorem dX8_set_64 : decode cX8_set 64 = .ok (.getfield 12, 3) := by decide +kernel
theorem dX8_set_67 : decode cX8_set 67 = .ok (.getfield 150, 3) := by decide +kernel
theorem dX8_set_70 : decode cX8_set 70 = .ok (.iconst 0, 1) := by decide +kernel
theorem dX8_set_71 : decode cX8_set 71 = .ok (.iload_n 1, 1) := by decide +kernel
theorem dX8_set_72 : decode cX8_set 72 = .ok (.iload_n 2, 1) := by decide +kernel
theorem dX8_set_73 : decode cX8_set 73 = .ok (.invokevirtual 112, 3) := by decide +kernel
theorem dX8_set_76 : decode cX8_set 76 = .ok (.iload_n 3, 1) := by decide +kernel
theorem dX8_set_77 : decode cX8_set 77 = .ok (.ireturn, 1) := by decide +kernel
set_option maxRecDepth 20000 in
theorem ggX8_seed_X3_keep : GoodIn wsX8_seed wsX3_keep := goodIn_r _ [8, 9, 10, 11, 12, 13, 14, 15, 16, 17, 7, 18, 19, 20, 21, 22, 23, 24, 25, 26, 27, 28, 29, 30, 31, 32, 33, 34, 35, 36, 37, 38, 39, 40, 41, 42, 43, 44, 45, 46, 47, 48, 49, 50, 51, 52, 53, 54, 55, 56, 57, 58, 59, 76, 77, 78, 67, 68, 69, 70, 71, 72, 73, 74, 75, 79, 80, 81, 82, 83, 84, 85] (by decide +kernel) (by decide +kernel)
set_option maxRecDepth 20000 in
theorem gX8_seed_X3_keep : GoodIn wsX8_seed (wsV RX8 67 RX3 yX3_keep wsX3_keep) := goodIn_app (goodIn_of _ (by decide +kernel)) ggX8_seed_X3_keep
theorem dX8_seed_0 : decode cX8_seed 0 = .ok (.aload_n 0, 1) := by decide +kernel
theorem dX8_seed_1 : decode cX8_seed 1 = .ok (.getfield 25, 3) := by decide +kernel
theorem dX8_seed_4 : decode cX8_seed 4 = .ok (.aload_n 0, 1) := by decide +kernel
theorem dX8_seed_5 : decode cX8_seed 5 = .ok (.getfield 12, 3) := by decide +kernel
theorem dX8_seed_8 : decode cX8_seed 8 = .ok (.invokevirtual 67, 3) := by decide +kernel
theorem dX8_seed_11 : decode cX8_seed 11 = .ok (.aload_n 0, 1) := by decide +kernel
theorem dX8_seed_12 : decode cX8_seed 12 = .ok (.getfield 12, 3) := by decide +kernel
theorem dX8_seed_15 : decode cX8_seed 15 = .ok (.getfield 153, 3) := by decide +kernel
theorem dX8_seed_18 : decode cX8_seed 18 = .ok (.istore_n 2, 1) := by decide +kernel
theorem dX8_seed_19 : decode cX8_seed 19 = .ok (.aload_n 0, 1) := by decide +kernel
theorem dX8_seed_20 : decode cX8_seed 20 = .ok (.getfield 12, 3) := by decide +kernel
theorem dX8_seed_23 : decode cX8_seed 23 = .ok (.iload_n 1, 1) := by decide +kernel
theorem dX8_seed_24 : decode cX8_seed 24 = .ok (.putfield 153, 3) := by decide +kernel
theorem dX8_seed_27 : decode cX8_seed 27 = .ok (.iload_n 2, 1) := by decide +kernel
theorem dX8_seed_28 : decode cX8_seed 28 = .ok (.ireturn, 1) := by decide +kernel
set_option maxRecDepth 20000 in
theorem ggX8_feed_X4_faultOfFeed : GoodIn wsX8_feed wsX4_faultOfFeed := goodIn_ca (goodIn_r _ [7, 8, 9, 10, 11, 12, 13, 14, 15, 16, 17, 18, 19, 20, 21, 22, 23, 24, 25, 26, 27, 28, 29, 114, 115, 116, 117, 118, 119, 120, 121, 122, 123, 124] (by decide +kernel) (by decide +kernel)) (goodIn_sub (fun _ h => List.mem_cons_of_mem _ (List.mem_append_left _ (List.mem_append_left _ (List.mem_append_left _ (List.mem_append_right _ h))))) (by decide +kernel))
set_option maxRecDepth 20000 in
theorem gX8_feed_X4_faultOfFeed : GoodIn wsX8_feed (wsV RX8 156 RX4 yX4_faultOfFeed wsX4_faultOfFeed) := goodIn_app (goodIn_of _ (by decide +kernel)) ggX8_feed_X4_faultOfFeed
set_option maxRecDepth 20000 in
theorem ggX8_feed_X8_refuse : GoodIn wsX8_feed wsX8_refuse := goodIn_ca (goodIn_ca (goodIn_ca (goodIn_r _ [32, 33, 34, 35, 36, 37, 38, 39, 40, 41] (by decide +kernel) (by decide +kernel)) (goodIn_sub (fun _ h => List.mem_cons_of_mem _ (List.mem_append_left _ (List.mem_append_left _ (List.mem_append_right _ h)))) (by decide +kernel))) (goodIn_sub (fun _ h => List.mem_cons_of_mem _ (List.mem_append_left _ (List.mem_append_right _ h))) (by decide +kernel))) (goodIn_sub (fun _ h => List.mem_cons_of_mem _ (List.mem_append_right _ h)) (by decide +kernel))
set_option maxRecDepth 20000 in
theorem gX8_feed_X8_refuse : GoodIn wsX8_feed (va_wsS RX8 160 yX8_refuse wsX8_refuse) := goodIn_app (goodIn_of _ (by decide +kernel)) ggX8_feed_X8_refuse
set_option maxRecDepth 20000 in
theorem ggX8_feed_X3_keep : GoodIn wsX8_feed wsX3_keep := goodIn_r _ [46, 47, 48, 49, 50, 51, 52, 53, 54, 55, 45, 56, 57, 58, 59, 60, 6, 61, 62, 63, 10, 64, 65, 66, 67, 68, 69, 70, 71, 22, 72, 29, 73, 74, 75, 76, 77, 78, 79, 80, 81, 82, 83, 84, 85, 86, 87, 88, 89, 90, 91, 92, 93, 125, 126, 127, 114, 115, 116, 117, 118, 119, 120, 121, 122, 123, 124, 128, 129, 130, 131, 132] (by decide +kernel) (by decide +kernel)
set_option maxRecDepth 20000 in
theorem gX8_feed_X3_keep : GoodIn wsX8_feed (wsV RX8 67 RX3 yX3_keep wsX3_keep) := goodIn_app (goodIn_of _ (by decide +kernel)) ggX8_feed_X3_keep
set_option maxRecDepth 20000 in
theorem ggX8_feed_X4_fill : GoodIn wsX8_feed wsX4_fill := goodIn_ca (goodIn_r _ [97, 10, 98, 99, 100, 22, 101, 25, 26, 27, 28, 24, 29, 102, 103, 104, 105, 106, 114, 115, 116, 117, 118, 119, 120, 121, 122, 123, 124] (by decide +kernel) (by decide +kernel)) (goodIn_sub (fun _ h => List.mem_cons_of_mem _ (List.mem_append_left _ (List.mem_append_left _ (List.mem_append_left _ (List.mem_append_right _ h))))) (by decide +kernel))
set_option maxRecDepth 20000 in
theorem gX8_feed_X4_fill : GoodIn wsX8_feed (wsV RX8 164 RX4 yX4_fill wsX4_fill) := goodIn_app (goodIn_of _ (by decide +kernel)) ggX8_feed_X4_fill
theorem dX8_feed_0 : decode cX8_feed 0 = .ok (.aload_n 0, 1) := by decide +kernel
theorem dX8_feed_1 : decode cX8_feed 1 = .ok (.getfield 12, 3) := by decide +kernel
theorem dX8_feed_4 : decode cX8_feed 4 = .ok (.iload_n 1, 1) := by decide +kernel
theorem dX8_feed_5 : decode cX8_feed 5 = .ok (.iload_n 2, 1) := by decide +kernel
theorem dX8_feed_6 : decode cX8_feed 6 = .ok (.invokevirtual 156, 3) := by decide +kernel
theorem dX8_feed_9 : decode cX8_feed 9 = .ok (.invokestatic 160, 3) := by decide +kernel
theorem dX8_feed_12 : decode cX8_feed 12 = .ok (.aload_n 0, 1) := by decide +kernel
theorem dX8_feed_13 : decode cX8_feed 13 = .ok (.getfield 25, 3) := by decide +kernel
theorem dX8_feed_16 : decode cX8_feed 16 = .ok (.aload_n 0, 1) := by decide +kernel
theorem dX8_feed_17 : decode cX8_feed 17 = .ok (.getfield 12, 3) := by decide +kernel
theorem dX8_feed_20 : decode cX8_feed 20 = .ok (.invokevirtual 67, 3) := by decide +kernel
theorem dX8_feed_23 : decode cX8_feed 23 = .ok (.aload_n 0, 1) := by decide +kernel
theorem dX8_feed_24 : decode cX8_feed 24 = .ok (.getfield 12, 3) := by decide +kernel
theorem dX8_feed_27 : decode cX8_feed 27 = .ok (.iload_n 1, 1) := by decide +kernel
theorem dX8_feed_28 : decode cX8_feed 28 = .ok (.iload_n 2, 1) := by decide +kernel
theorem dX8_feed_29 : decode cX8_feed 29 = .ok (.invokevirtual 164, 3) := by decide +kernel
theorem dX8_feed_32 : decode cX8_feed 32 = .ok (.ireturn, 1) := by decide +kernel
set_option maxRecDepth 20000 in
theorem ggX8_run_X4_faultOfPasses : GoodIn wsX8_run wsX4_faultOfPasses := goodIn_r _ [7, 8, 9, 10, 11, 12, 13, 14, 164, 165, 166, 167, 168, 169, 170, 171, 172] (by decide +kernel) (by decide +kernel)
set_option maxRecDepth 20000 in
theorem gX8_run_X4_faultOfPasses : GoodIn wsX8_run (wsV RX8 167 RX4 yX4_faultOfPasses wsX4_faultOfPasses) := goodIn_app (goodIn_of _ (by decide +kernel)) ggX8_run_X4_faultOfPasses
set_option maxRecDepth 20000 in
theorem ggX8_run_X8_refuse : GoodIn wsX8_run wsX8_refuse := goodIn_ca (goodIn_ca (goodIn_ca (goodIn_r _ [17, 18, 19, 20, 21, 22, 23, 24, 25, 26] (by decide +kernel) (by decide +kernel)) (goodIn_sub (fun _ h => List.mem_cons_of_mem _ (List.mem_append_left _ (List.mem_append_left _ (List.mem_append_left _ (List.mem_append_left _ (List.mem_append_right _ h)))))) (by decide +kernel))) (goodIn_sub (fun _ h => List.mem_cons_of_mem _ (List.mem_append_left _ (List.mem_append_left _ (List.mem_append_left _ (List.mem_append_right _ h))))) (by decide +kernel))) (goodIn_sub (fun _ h => List.mem_cons_of_mem _ (List.mem_append_left _ (List.mem_append_left _ (List.mem_append_right _ h)))) (by decide +kernel))
set_option maxRecDepth 20000 in
theorem gX8_run_X8_refuse : GoodIn wsX8_run (va_wsS RX8 160 yX8_refuse wsX8_refuse) := goodIn_app (goodIn_of _ (by decide +kernel)) ggX8_run_X8_refuse
set_option maxRecDepth 20000 in
theorem ggX8_run_X3_keep : GoodIn wsX8_run wsX3_keep := goodIn_r _ [31, 32, 33, 34, 35, 36, 37, 38, 39, 40, 30, 41, 42, 43, 44, 45, 6, 46, 47, 48, 49, 50, 51, 9, 52, 53, 54, 55, 56, 57, 58, 59, 60, 61, 62, 63, 64, 65, 66, 67, 68, 69, 70, 71, 72, 73, 74, 75, 76, 77, 78, 79, 80, 173, 174, 175, 164, 165, 166, 167, 168, 169, 170, 171, 172, 176, 177, 178, 179, 180, 181, 182] (by decide +kernel) (by decide +kernel)
set_option maxRecDepth 20000 in
theorem gX8_run_X3_keep : GoodIn wsX8_run (wsV RX8 67 RX3 yX3_keep wsX3_keep) := goodIn_app (goodIn_of _ (by decide +kernel)) ggX8_run_X3_keep
set_option maxRecDepth 20000 in
theorem ggX8_run_X4_makePasses : GoodIn wsX8_run wsX4_makePasses := goodIn_ca (goodIn_ca (goodIn_r _ [84, 49, 53, 85, 86, 87, 57, 88, 89, 90, 91, 92, 93, 59, 94, 95, 96, 6, 97, 50, 98, 99, 35, 36, 37, 9, 100, 101, 102, 103, 47, 104, 105, 106, 107, 108, 109, 110, 111, 112, 113, 114, 115, 116, 117, 118, 119, 120, 121, 122, 123, 124, 125, 126, 48, 127, 128, 129, 130, 131, 132, 133, 134, 135, 136, 137, 138, 139, 140, 141, 142, 143, 144, 145, 146, 147, 148, 149, 150, 151, 52, 152, 12, 13, 14, 153, 154, 155, 156, 164, 165, 166, 167, 168, 169, 170, 171, 172, 176, 177, 178, 179, 180] (by decide +kernel) (by decide +kernel)) (goodIn_sub (fun _ h => List.mem_cons_of_mem _ (List.mem_append_left _ (List.mem_append_right _ h))) (by decide +kernel))) (goodIn_sub (fun _ h => List.mem_cons_of_mem _ (List.mem_append_right _ h)) (by decide +kernel))
set_option maxRecDepth 20000 in
theorem gX8_run_X4_makePasses : GoodIn wsX8_run (wsV RX8 171 RX4 yX4_makePasses wsX4_makePasses) := goodIn_app (goodIn_of _ (by decide +kernel)) ggX8_run_X4_makePasses
theorem dX8_run_0 : decode cX8_run 0 = .ok (.aload_n 0, 1) := by decide +kernel
theorem dX8_run_1 : decode cX8_run 1 = .ok (.getfield 12, 3) := by decide +kernel
theorem dX8_run_4 : decode cX8_run 4 = .ok (.iload_n 1, 1) := by decide +kernel
theorem dX8_run_5 : decode cX8_run 5 = .ok (.invokevirtual 167, 3) := by decide +kernel
theorem dX8_run_8 : decode cX8_run 8 = .ok (.invokestatic 160, 3) := by decide +kernel
theorem dX8_run_11 : decode cX8_run 11 = .ok (.aload_n 0, 1) := by decide +kernel
theorem dX8_run_12 : decode cX8_run 12 = .ok (.getfield 25, 3) := by decide +kernel
theorem dX8_run_15 : decode cX8_run 15 = .ok (.aload_n 0, 1) := by decide +kernel
theorem dX8_run_16 : decode cX8_run 16 = .ok (.getfield 12, 3) := by decide +kernel
theorem dX8_run_19 : decode cX8_run 19 = .ok (.invokevirtual 67, 3) := by decide +kernel
theorem dX8_run_22 : decode cX8_run 22 = .ok (.aload_n 0, 1) := by decide +kernel
theorem dX8_run_23 : decode cX8_run 23 = .ok (.getfield 12, 3) := by decide +kernel
theorem dX8_run_26 : decode cX8_run 26 = .ok (.iload_n 1, 1) := by decide +kernel
theorem dX8_run_27 : decode cX8_run 27 = .ok (.invokevirtual 171, 3) := by decide +kernel
theorem dX8_run_30 : decode cX8_run 30 = .ok (.ireturn, 1) := by decide +kernel
set_option maxRecDepth 20000 in
theorem ggX8_isSettled_X8_needAnyMachine : GoodIn wsX8_isSettled wsX8_needAnyMachine := goodIn_ca (goodIn_r _ [7, 8, 9, 2, 10, 128, 129, 130, 131, 132, 133, 134, 135, 136, 137, 138, 139, 140, 141, 142, 143] (by decide +kernel) (by decide +kernel)) (goodIn_sub (fun _ h => List.mem_cons_of_mem _ (List.mem_append_left _ (List.mem_append_left _ (List.mem_append_right _ h)))) (by decide +kernel))
set_option maxRecDepth 20000 in
theorem gX8_isSettled_X8_needAnyMachine : GoodIn wsX8_isSettled (wsV RX8 174 RX8 yX8_needAnyMachine wsX8_needAnyMachine) := goodIn_app (goodIn_of _ (by decide +kernel)) ggX8_isSettled_X8_needAnyMachine
set_option maxRecDepth 20000 in
theorem ggX8_isSettled_X4_copyFrom : GoodIn wsX8_isSettled wsX4_copyFrom := goodIn_r _ [15, 16, 17, 18, 19, 20, 21, 22, 23, 24, 25, 26, 27, 28, 29, 30, 31, 32, 33, 34, 35, 36, 37, 38, 39, 40, 41, 42, 43, 44, 45, 46, 47, 48, 49, 50, 51, 52, 53, 135, 136, 137, 138, 139, 140, 141, 142, 143, 144, 145, 146, 147, 148, 149, 150] (by decide +kernel) (by decide +kernel)
set_option maxRecDepth 20000 in
theorem gX8_isSettled_X4_copyFrom : GoodIn wsX8_isSettled (wsV RX8 177 RX4 yX4_copyFrom wsX4_copyFrom) := goodIn_app (goodIn_of _ (by decide +kernel)) ggX8_isSettled_X4_copyFrom
set_option maxRecDepth 20000 in
theorem ggX8_isSettled_X4_makePass : GoodIn wsX8_isSettled wsX4_makePass := goodIn_ca (goodIn_ca (goodIn_r _ [57, 19, 58, 18, 59, 31, 32, 33, 21, 60, 61, 62, 14, 63, 16, 64, 65, 66, 27, 67, 68, 29, 69, 70, 71, 72, 73, 74, 75, 76, 77, 78, 79, 80, 81, 82, 83, 84, 85, 86, 87, 88, 89, 90, 91, 92, 93, 94, 95, 17, 96, 97, 98, 99, 100, 101, 102, 103, 104, 105, 106, 107, 108, 109, 110, 111, 112, 113, 114, 115, 116, 117, 118, 119, 120, 22, 121, 122, 6, 123, 124, 125, 126, 127, 135, 136, 137, 138, 139, 140, 141, 142, 143, 146, 147, 148, 144, 145] (by decide +kernel) (by decide +kernel)) (goodIn_sub (fun _ h => List.mem_cons_of_mem _ (List.mem_append_left _ (List.mem_append_right _ h))) (by decide +kernel))) (goodIn_sub (fun _ h => List.mem_cons_of_mem _ (List.mem_append_right _ h)) (by decide +kernel))
set_option maxRecDepth 20000 in
theorem gX8_isSettled_X4_makePass : GoodIn wsX8_isSettled (wsV RX8 180 RX4 yX4_makePass wsX4_makePass) := goodIn_app (goodIn_of _ (by decide +kernel)) ggX8_isSettled_X4_makePass
theorem dX8_isSettled_0 : decode cX8_isSettled 0 = .ok (.aload_n 0, 1) := by decide +kernel
theorem dX8_isSettled_1 : decode cX8_isSettled 1 = .ok (.invokevirtual 174, 3) := by decide +kernel
theorem dX8_isSettled_4 : decode cX8_isSettled 4 = .ok (.aload_n 0, 1) := by decide +kernel
theorem dX8_isSettled_5 : decode cX8_isSettled 5 = .ok (.getfield 16, 3) := by decide +kernel
theorem dX8_isSettled_8 : decode cX8_isSettled 8 = .ok (.aload_n 0, 1) := by decide +kernel
theorem dX8_isSettled_9 : decode cX8_isSettled 9 = .ok (.getfield 12, 3) := by decide +kernel
theorem dX8_isSettled_12 : decode cX8_isSettled 12 = .ok (.invokevirtual 177, 3) := by decide +kernel
theorem dX8_isSettled_15 : decode cX8_isSettled 15 = .ok (.aload_n 0, 1) := by decide +kernel
theorem dX8_isSettled_16 : decode cX8_isSettled 16 = .ok (.getfield 16, 3) := by decide +kernel
theorem dX8_isSettled_19 : decode cX8_isSettled 19 = .ok (.invokevirtual 180, 3) := by decide +kernel
theorem dX8_isSettled_22 : decode cX8_isSettled 22 = .ok (.ifCond .ne 7, 3) := by decide +kernel
theorem dX8_isSettled_25 : decode cX8_isSettled 25 = .ok (.iconst 1, 1) := by decide +kernel
theorem dX8_isSettled_26 : decode cX8_isSettled 26 = .ok (.goto 4, 3) := by decide +kernel
theorem dX8_isSettled_29 : decode cX8_isSettled 29 = .ok (.iconst 0, 1) := by decide +kernel
theorem dX8_isSettled_30 : decode cX8_isSettled 30 = .ok (.ireturn, 1) := by decide +kernel
set_option maxRecDepth 20000 in
theorem ggX8_settlesAfter_X8_needAnyMachine : GoodIn wsX8_settlesAfter wsX8_needAnyMachine := goodIn_ca (goodIn_r _ [9, 10, 11, 4, 12, 130, 131, 132, 133, 134, 135, 136, 137, 138, 139, 140, 141, 142, 143, 144, 145] (by decide +kernel) (by decide +kernel)) (goodIn_sub (fun _ h => List.mem_cons_of_mem _ (List.mem_append_left _ (List.mem_append_left _ (List.mem_append_right _ h)))) (by decide +kernel))
set_option maxRecDepth 20000 in
theorem gX8_settlesAfter_X8_needAnyMachine : GoodIn wsX8_settlesAfter (wsV RX8 174 RX8 yX8_needAnyMachine wsX8_needAnyMachine) := goodIn_app (goodIn_of _ (by decide +kernel)) ggX8_settlesAfter_X8_needAnyMachine
set_option maxRecDepth 20000 in
theorem ggX8_settlesAfter_X4_copyFrom : GoodIn wsX8_settlesAfter wsX4_copyFrom := goodIn_r _ [17, 18, 19, 20, 21, 22, 23, 24, 25, 26, 27, 28, 29, 30, 31, 32, 33, 34, 35, 36, 37, 38, 39, 40, 41, 42, 43, 44, 45, 46, 47, 48, 49, 50, 51, 52, 53, 54, 55, 137, 138, 139, 140, 141, 142, 143, 144, 145, 146, 147, 148, 149, 150, 151, 152] (by decide +kernel) (by decide +kernel)
set_option maxRecDepth 20000 in
theorem gX8_settlesAfter_X4_copyFrom : GoodIn wsX8_settlesAfter (wsV RX8 177 RX4 yX4_copyFrom wsX4_copyFrom) := goodIn_app (goodIn_of _ (by decide +kernel)) ggX8_settlesAfter_X4_copyFrom
set_option maxRecDepth 20000 in
theorem ggX8_settlesAfter_X4_makePass : GoodIn wsX8_settlesAfter wsX4_makePass := goodIn_ca (goodIn_ca (goodIn_r _ [59, 21, 60, 20, 61, 33, 34, 35, 23, 62, 63, 64, 16, 65, 18, 66, 67, 68, 29, 69, 70, 31, 71, 72, 73, 74, 75, 76, 77, 78, 79, 80, 81, 82, 83, 84, 85, 86, 87, 88, 89, 90, 91, 92, 93, 94, 95, 96, 97, 19, 98, 99, 100, 101, 102, 103, 104, 105, 106, 107, 108, 109, 110, 111, 112, 113, 114, 115, 116, 117, 118, 119, 120, 121, 122, 24, 123, 124, 8, 125, 126, 127, 128, 129, 137, 138, 139, 140, 141, 142, 143, 144, 145, 148, 149, 150, 146, 147] (by decide +kernel) (by decide +kernel)) (goodIn_sub (fun _ h => List.mem_cons_of_mem _ (List.mem_append_left _ (List.mem_append_right _ h))) (by decide +kernel))) (goodIn_sub (fun _ h => List.mem_cons_of_mem _ (List.mem_append_right _ h)) (by decide +kernel))
set_option maxRecDepth 20000 in
theorem gX8_settlesAfter_X4_makePass : GoodIn wsX8_settlesAfter (wsV RX8 180 RX4 yX4_makePass wsX4_makePass) := goodIn_app (goodIn_of _ (by decide +kernel)) ggX8_settlesAfter_X4_makePass
theorem dX8_settlesAfter_0 : decode cX8_settlesAfter 0 = .ok (.aload_n 0, 1) := by decide +kernel
theorem dX8_settlesAfter_1 : decode cX8_settlesAfter 1 = .ok (.invokevirtual 174, 3) := by decide +kernel
theorem dX8_settlesAfter_4 : decode cX8_settlesAfter 4 = .ok (.aload_n 0, 1) := by decide +kernel
theorem dX8_settlesAfter_5 : decode cX8_settlesAfter 5 = .ok (.getfield 16, 3) := by decide +kernel
theorem dX8_settlesAfter_8 : decode cX8_settlesAfter 8 = .ok (.aload_n 0, 1) := by decide +kernel
theorem dX8_settlesAfter_9 : decode cX8_settlesAfter 9 = .ok (.getfield 12, 3) := by decide +kernel
theorem dX8_settlesAfter_12 : decode cX8_settlesAfter 12 = .ok (.invokevirtual 177, 3) := by decide +kernel
theorem dX8_settlesAfter_15 : decode cX8_settlesAfter 15 = .ok (.iconst 0, 1) := by decide +kernel
theorem dX8_settlesAfter_16 : decode cX8_settlesAfter 16 = .ok (.istore_n 1, 1) := by decide +kernel
theorem dX8_settlesAfter_17 : decode cX8_settlesAfter 17 = .ok (.iload_n 1, 1) := by decide +kernel
theorem dX8_settlesAfter_18 : decode cX8_settlesAfter 18 = .ok (.sipush 300, 3) := by decide +kernel
theorem dX8_settlesAfter_21 : decode cX8_settlesAfter 21 = .ok (.if_icmp .gt 21, 3) := by decide +kernel
theorem dX8_settlesAfter_24 : decode cX8_settlesAfter 24 = .ok (.aload_n 0, 1) := by decide +kernel
theorem dX8_settlesAfter_25 : decode cX8_settlesAfter 25 = .ok (.getfield 16, 3) := by decide +kernel
theorem dX8_settlesAfter_28 : decode cX8_settlesAfter 28 = .ok (.invokevirtual 180, 3) := by decide +kernel
theorem dX8_settlesAfter_31 : decode cX8_settlesAfter 31 = .ok (.ifCond .ne 5, 3) := by decide +kernel
theorem dX8_settlesAfter_34 : decode cX8_settlesAfter 34 = .ok (.iload_n 1, 1) := by decide +kernel
theorem dX8_settlesAfter_35 : decode cX8_settlesAfter 35 = .ok (.ireturn, 1) := by decide +kernel
theorem dX8_settlesAfter_36 : decode cX8_settlesAfter 36 = .ok (.iinc 1 1, 3) := by decide +kernel
theorem dX8_settlesAfter_39 : decode cX8_settlesAfter 39 = .ok (.goto (-22), 3) := by decide +kernel
theorem dX8_settlesAfter_42 : decode cX8_settlesAfter 42 = .ok (.new 75, 3) := by decide +kernel
theorem dX8_settlesAfter_45 : decode cX8_settlesAfter 45 = .ok (.dup, 1) := by decide +kernel
theorem dX8_settlesAfter_46 : decode cX8_settlesAfter 46 = .ok (.ldc 184, 2) := by decide +kernel
theorem dX8_settlesAfter_48 : decode cX8_settlesAfter 48 = .ok (.invokespecial 79, 3) := by decide +kernel
theorem dX8_settlesAfter_51 : decode cX8_settlesAfter 51 = .ok (.athrow, 1) := by decide +kernel
set_option maxRecDepth 20000 in
theorem ggX8_kilos_X8_rowOf : GoodIn wsX8_kilos wsX8_rowOf := goodIn_r _ [9, 3, 10, 11, 12, 8, 13, 34, 35, 36, 37, 38, 39, 40, 41, 42, 43, 44, 45, 46, 47, 48, 49] (by decide +kernel) (by decide +kernel)
set_option maxRecDepth 20000 in
theorem gX8_kilos_X8_rowOf : GoodIn wsX8_kilos (wsV RX8 186 RX8 yX8_rowOf wsX8_rowOf) := goodIn_app (goodIn_of _ (by decide +kernel)) ggX8_kilos_X8_rowOf
set_option maxRecDepth 20000 in
theorem ggX8_kilos_X6_sum : GoodIn wsX8_kilos wsX6_sum := goodIn_ca (goodIn_r _ [18, 19, 20, 21, 22, 17, 23, 24, 50, 51] (by decide +kernel) (by decide +kernel)) (goodIn_sub (fun _ h => List.mem_cons_of_mem _ (List.mem_append_left _ (List.mem_append_right _ h))) (by decide +kernel))
set_option maxRecDepth 20000 in
theorem gX8_kilos_X6_sum : GoodIn wsX8_kilos (wsV RX8 120 RX6 yX6_sum wsX6_sum) := goodIn_app (goodIn_of _ (by decide +kernel)) ggX8_kilos_X6_sum
set_option maxRecDepth 20000 in
theorem ggX8_kilos_X8_needMaterial : GoodIn wsX8_kilos wsX8_needMaterial := goodIn_ca (goodIn_r _ [27, 28, 29, 30, 31, 8, 32, 11, 12, 13] (by decide +kernel) (by decide +kernel)) (goodIn_sub (fun _ h => List.mem_cons_of_mem _ (List.mem_append_right _ h)) (by decide +kernel))
set_option maxRecDepth 20000 in
theorem gX8_kilos_X8_needMaterial : GoodIn wsX8_kilos (va_wsS RX8 43 yX8_needMaterial wsX8_needMaterial) := goodIn_app (goodIn_of _ (by decide +kernel)) ggX8_kilos_X8_needMaterial
set_option maxRecDepth 20000 in
theorem ggX8_kilos_X6_get : GoodIn wsX8_kilos wsX6_get := goodIn_ca (goodIn_r _ [23, 19, 24, 50, 51] (by decide +kernel) (by decide +kernel)) (goodIn_sub (fun _ h => List.mem_cons_of_mem _ (List.mem_append_left _ (List.mem_append_right _ h))) (by decide +kernel))
set_option maxRecDepth 20000 in
theorem gX8_kilos_X6_get : GoodIn wsX8_kilos (wsV RX8 108 RX6 yX6_get wsX6_get) := goodIn_app (goodIn_of _ (by decide +kernel)) ggX8_kilos_X6_get
theorem dX8_kilos_0 : decode cX8_kilos 0 = .ok (.aload_n 0, 1) := by decide +kernel
theorem dX8_kilos_1 : decode cX8_kilos 1 = .ok (.iload_n 1, 1) := by decide +kernel
theorem dX8_kilos_2 : decode cX8_kilos 2 = .ok (.invokevirtual 186, 3) := by decide +kernel
theorem dX8_kilos_5 : decode cX8_kilos 5 = .ok (.istore_n 3, 1) := by decide +kernel
theorem dX8_kilos_6 : decode cX8_kilos 6 = .ok (.iload_n 3, 1) := by decide +kernel
theorem dX8_kilos_7 : decode cX8_kilos 7 = .ok (.iconst (-1), 1) := by decide +kernel
theorem dX8_kilos_8 : decode cX8_kilos 8 = .ok (.if_icmp .ne 13, 3) := by decide +kernel
theorem dX8_kilos_11 : decode cX8_kilos 11 = .ok (.new 51, 3) := by decide +kernel
theorem dX8_kilos_14 : decode cX8_kilos 14 = .ok (.dup, 1) := by decide +kernel
theorem dX8_kilos_15 : decode cX8_kilos 15 = .ok (.ldc 189, 2) := by decide +kernel
theorem dX8_kilos_17 : decode cX8_kilos 17 = .ok (.invokespecial 55, 3) := by decide +kernel
theorem dX8_kilos_20 : decode cX8_kilos 20 = .ok (.athrow, 1) := by decide +kernel
theorem dX8_kilos_21 : decode cX8_kilos 21 = .ok (.iload_n 2, 1) := by decide +kernel
theorem dX8_kilos_22 : decode cX8_kilos 22 = .ok (.iconst (-1), 1) := by decide +kernel
theorem dX8_kilos_23 : decode cX8_kilos 23 = .ok (.if_icmp .ne 15, 3) := by decide +kernel
theorem dX8_kilos_26 : decode cX8_kilos 26 = .ok (.aload_n 0, 1) := by decide +kernel
theorem dX8_kilos_27 : decode cX8_kilos 27 = .ok (.getfield 12, 3) := by decide +kernel
theorem dX8_kilos_30 : decode cX8_kilos 30 = .ok (.getfield 97, 3) := by decide +kernel
theorem dX8_kilos_33 : decode cX8_kilos 33 = .ok (.iload_n 3, 1) := by decide +kernel
theorem dX8_kilos_34 : decode cX8_kilos 34 = .ok (.invokevirtual 120, 3) := by decide +kernel
theorem dX8_kilos_37 : decode cX8_kilos 37 = .ok (.ireturn, 1) := by decide +kernel
theorem dX8_kilos_38 : decode cX8_kilos 38 = .ok (.iload_n 2, 1) := by decide +kernel
theorem dX8_kilos_39 : decode cX8_kilos 39 = .ok (.invokestatic 43, 3) := by decide +kernel
theorem dX8_kilos_42 : decode cX8_kilos 42 = .ok (.aload_n 0, 1) := by decide +kernel
theorem dX8_kilos_43 : decode cX8_kilos 43 = .ok (.getfield 12, 3) := by decide +kernel
theorem dX8_kilos_46 : decode cX8_kilos 46 = .ok (.getfield 97, 3) := by decide +kernel
theorem dX8_kilos_49 : decode cX8_kilos 49 = .ok (.iload_n 3, 1) := by decide +kernel
theorem dX8_kilos_50 : decode cX8_kilos 50 = .ok (.iload_n 2, 1) := by decide +kernel
theorem dX8_kilos_51 : decode cX8_kilos 51 = .ok (.invokevirtual 108, 3) := by decide +kernel
theorem dX8_kilos_54 : decode cX8_kilos 54 = .ok (.ireturn, 1) := by decide +kernel
set_option maxRecDepth 20000 in
theorem ggX8_bale_X8_needBale : GoodIn wsX8_bale wsX8_needBale := goodIn_ca (goodIn_r _ [10, 11, 12, 3, 4, 13, 14, 15, 16, 17, 18, 19, 9, 20, 29, 30, 31, 32, 33, 34, 35, 36, 37, 38, 39, 40, 41, 42, 43, 44, 45, 46, 47] (by decide +kernel) (by decide +kernel)) (goodIn_sub (fun _ h => List.mem_cons_of_mem _ (List.mem_append_left _ (List.mem_append_right _ h))) (by decide +kernel))
set_option maxRecDepth 20000 in
theorem gX8_bale_X8_needBale : GoodIn wsX8_bale (wsV RX8 191 RX8 yX8_needBale wsX8_needBale) := goodIn_app (goodIn_of _ (by decide +kernel)) ggX8_bale_X8_needBale
set_option maxRecDepth 20000 in
theorem ggX8_bale_X8_isWithin : GoodIn wsX8_bale wsX8_isWithin := goodIn_r _ [20] (by decide +kernel) (by decide +kernel)
set_option maxRecDepth 20000 in
theorem gX8_bale_X8_isWithin : GoodIn wsX8_bale (va_wsS RX8 116 yX8_isWithin wsX8_isWithin) := goodIn_app (goodIn_of _ (by decide +kernel)) ggX8_bale_X8_isWithin
set_option maxRecDepth 20000 in
theorem ggX8_bale_X6_get : GoodIn wsX8_bale wsX6_get := goodIn_ca (goodIn_r _ [26, 27, 28, 48, 49] (by decide +kernel) (by decide +kernel)) (goodIn_sub (fun _ h => List.mem_cons_of_mem _ (List.mem_append_right _ h)) (by decide +kernel))
set_option maxRecDepth 20000 in
theorem gX8_bale_X6_get : GoodIn wsX8_bale (wsV RX8 108 RX6 yX6_get wsX6_get) := goodIn_app (goodIn_of _ (by decide +kernel)) ggX8_bale_X6_get
theorem dX8_bale_0 : decode cX8_bale 0 = .ok (.aload_n 0, 1) := by decide +kernel
theorem dX8_bale_1 : decode cX8_bale 1 = .ok (.iload_n 1, 1) := by decide +kernel
theorem dX8_bale_2 : decode cX8_bale 2 = .ok (.invokevirtual 191, 3) := by decide +kernel
theorem dX8_bale_5 : decode cX8_bale 5 = .ok (.iload_n 2, 1) := by decide +kernel
theorem dX8_bale_6 : decode cX8_bale 6 = .ok (.iconst 0, 1) := by decide +kernel
theorem dX8_bale_7 : decode cX8_bale 7 = .ok (.bipush 11, 2) := by decide +kernel
theorem dX8_bale_9 : decode cX8_bale 9 = .ok (.invokestatic 116, 3) := by decide +kernel
theorem dX8_bale_12 : decode cX8_bale 12 = .ok (.ifCond .ne 13, 3) := by decide +kernel
theorem dX8_bale_15 : decode cX8_bale 15 = .ok (.new 51, 3) := by decide +kernel
theorem dX8_bale_18 : decode cX8_bale 18 = .ok (.dup, 1) := by decide +kernel
theorem dX8_bale_19 : decode cX8_bale 19 = .ok (.ldc 194, 2) := by decide +kernel
theorem dX8_bale_21 : decode cX8_bale 21 = .ok (.invokespecial 55, 3) := by decide +kernel
theorem dX8_bale_24 : decode cX8_bale 24 = .ok (.athrow, 1) := by decide +kernel
theorem dX8_bale_25 : decode cX8_bale 25 = .ok (.aload_n 0, 1) := by decide +kernel
theorem dX8_bale_26 : decode cX8_bale 26 = .ok (.getfield 12, 3) := by decide +kernel
theorem dX8_bale_29 : decode cX8_bale 29 = .ok (.getfield 196, 3) := by decide +kernel
theorem dX8_bale_32 : decode cX8_bale 32 = .ok (.getfield 200, 3) := by decide +kernel
theorem dX8_bale_35 : decode cX8_bale 35 = .ok (.iload_n 1, 1) := by decide +kernel
theorem dX8_bale_36 : decode cX8_bale 36 = .ok (.iload_n 2, 1) := by decide +kernel
theorem dX8_bale_37 : decode cX8_bale 37 = .ok (.invokevirtual 108, 3) := by decide +kernel
theorem dX8_bale_40 : decode cX8_bale 40 = .ok (.ireturn, 1) := by decide +kernel
set_option maxRecDepth 20000 in
theorem ggX8_ordered_X0_putInOrder : GoodIn wsX8_ordered wsX0_putInOrder := goodIn_ca (goodIn_r _ [9, 10, 11, 12, 13, 8, 14, 15, 16, 17, 18, 19, 20, 21, 22, 23, 24, 25, 26, 27, 28, 29, 30, 31, 32, 33, 34, 35, 36, 37, 38, 39, 61, 62, 63, 64, 65] (by decide +kernel) (by decide +kernel)) (goodIn_sub (fun _ h => List.mem_cons_of_mem _ (List.mem_append_right _ h)) (by decide +kernel))
set_option maxRecDepth 20000 in
theorem gX8_ordered_X0_putInOrder : GoodIn wsX8_ordered (wsV RX8 205 RX0 yX0_putInOrder wsX0_putInOrder) := goodIn_app (goodIn_of _ (by decide +kernel)) ggX8_ordered_X0_putInOrder
set_option maxRecDepth 20000 in
theorem ggX8_ordered_X8_isWithin : GoodIn wsX8_ordered wsX8_isWithin := goodIn_r _ [43] (by decide +kernel) (by decide +kernel)
set_option maxRecDepth 20000 in
theorem gX8_ordered_X8_isWithin : GoodIn wsX8_ordered (va_wsS RX8 116 yX8_isWithin wsX8_isWithin) := goodIn_app (goodIn_of _ (by decide +kernel)) ggX8_ordered_X8_isWithin
set_option maxRecDepth 20000 in
theorem ggX8_ordered_X0_atPlace : GoodIn wsX8_ordered wsX0_atPlace := goodIn_ca (goodIn_r _ [31, 27, 16, 17, 18, 19, 20, 21, 22, 61, 62, 63, 64, 65] (by decide +kernel) (by decide +kernel)) (goodIn_sub (fun _ h => List.mem_cons_of_mem _ (List.mem_append_right _ h)) (by decide +kernel))
set_option maxRecDepth 20000 in
theorem gX8_ordered_X0_atPlace : GoodIn wsX8_ordered (wsV RX8 210 RX0 yX0_atPlace wsX0_atPlace) := goodIn_app (goodIn_of _ (by decide +kernel)) ggX8_ordered_X0_atPlace
theorem dX8_ordered_0 : decode cX8_ordered 0 = .ok (.iload_n 1, 1) := by decide +kernel
theorem dX8_ordered_1 : decode cX8_ordered 1 = .ok (.iconst 0, 1) := by decide +kernel
theorem dX8_ordered_2 : decode cX8_ordered 2 = .ok (.aload_n 0, 1) := by decide +kernel
theorem dX8_ordered_3 : decode cX8_ordered 3 = .ok (.getfield 12, 3) := by decide +kernel
theorem dX8_ordered_6 : decode cX8_ordered 6 = .ok (.getfield 196, 3) := by decide +kernel
theorem dX8_ordered_9 : decode cX8_ordered 9 = .ok (.invokevirtual 205, 3) := by decide +kernel
theorem dX8_ordered_12 : decode cX8_ordered 12 = .ok (.iconst 1, 1) := by decide +kernel
theorem dX8_ordered_13 : decode cX8_ordered 13 = .ok (.isub, 1) := by decide +kernel
theorem dX8_ordered_14 : decode cX8_ordered 14 = .ok (.invokestatic 116, 3) := by decide +kernel
theorem dX8_ordered_17 : decode cX8_ordered 17 = .ok (.ifCond .ne 13, 3) := by decide +kernel
theorem dX8_ordered_20 : decode cX8_ordered 20 = .ok (.new 75, 3) := by decide +kernel
theorem dX8_ordered_23 : decode cX8_ordered 23 = .ok (.dup, 1) := by decide +kernel
theorem dX8_ordered_24 : decode cX8_ordered 24 = .ok (.ldc 208, 2) := by decide +kernel
theorem dX8_ordered_26 : decode cX8_ordered 26 = .ok (.invokespecial 79, 3) := by decide +kernel
theorem dX8_ordered_29 : decode cX8_ordered 29 = .ok (.athrow, 1) := by decide +kernel
theorem dX8_ordered_30 : decode cX8_ordered 30 = .ok (.aload_n 0, 1) := by decide +kernel
theorem dX8_ordered_31 : decode cX8_ordered 31 = .ok (.getfield 12, 3) := by decide +kernel
theorem dX8_ordered_34 : decode cX8_ordered 34 = .ok (.getfield 196, 3) := by decide +kernel
theorem dX8_ordered_37 : decode cX8_ordered 37 = .ok (.iload_n 1, 1) := by decide +kernel
theorem dX8_ordered_38 : decode cX8_ordered 38 = .ok (.invokevirtual 210, 3) := by decide +kernel
theorem dX8_ordered_41 : decode cX8_ordered 41 = .ok (.ireturn, 1) := by decide +kernel
set_option maxRecDepth 20000 in
theorem ggX8_stock_X8_needMaterial : GoodIn wsX8_stock wsX8_needMaterial := goodIn_ca (goodIn_r _ [8, 9, 10, 11, 12, 7, 13, 14, 15, 16] (by decide +kernel) (by decide +kernel)) (goodIn_sub (fun _ h => List.mem_cons_of_mem _ (List.mem_append_left _ (List.mem_append_right _ h))) (by decide +kernel))
set_option maxRecDepth 20000 in
theorem gX8_stock_X8_needMaterial : GoodIn wsX8_stock (va_wsS RX8 43 yX8_needMaterial wsX8_needMaterial) := goodIn_app (goodIn_of _ (by decide +kernel)) ggX8_stock_X8_needMaterial
set_option maxRecDepth 20000 in
theorem ggX8_stock_X8_isWithin : GoodIn wsX8_stock wsX8_isWithin := goodIn_r _ [16] (by decide +kernel) (by decide +kernel)
set_option maxRecDepth 20000 in
theorem gX8_stock_X8_isWithin : GoodIn wsX8_stock (va_wsS RX8 116 yX8_isWithin wsX8_isWithin) := goodIn_app (goodIn_of _ (by decide +kernel)) ggX8_stock_X8_isWithin
set_option maxRecDepth 20000 in
theorem ggX8_stock_X0_stockOf : GoodIn wsX8_stock wsX0_stockOf := goodIn_ca (goodIn_r _ [21, 22, 23, 24, 25, 26, 20, 27, 28, 29, 30, 31, 32, 33, 34, 35, 36, 37, 38, 55, 56, 57, 58, 59] (by decide +kernel) (by decide +kernel)) (goodIn_sub (fun _ h => List.mem_cons_of_mem _ (List.mem_append_right _ h)) (by decide +kernel))
set_option maxRecDepth 20000 in
theorem gX8_stock_X0_stockOf : GoodIn wsX8_stock (wsV RX8 215 RX0 yX0_stockOf wsX0_stockOf) := goodIn_app (goodIn_of _ (by decide +kernel)) ggX8_stock_X0_stockOf
theorem dX8_stock_0 : decode cX8_stock 0 = .ok (.iload_n 1, 1) := by decide +kernel
theorem dX8_stock_1 : decode cX8_stock 1 = .ok (.invokestatic 43, 3) := by decide +kernel
theorem dX8_stock_4 : decode cX8_stock 4 = .ok (.iload_n 2, 1) := by decide +kernel
theorem dX8_stock_5 : decode cX8_stock 5 = .ok (.iconst 0, 1) := by decide +kernel
theorem dX8_stock_6 : decode cX8_stock 6 = .ok (.iconst 3, 1) := by decide +kernel
theorem dX8_stock_7 : decode cX8_stock 7 = .ok (.invokestatic 116, 3) := by decide +kernel
theorem dX8_stock_10 : decode cX8_stock 10 = .ok (.ifCond .ne 13, 3) := by decide +kernel
theorem dX8_stock_13 : decode cX8_stock 13 = .ok (.new 51, 3) := by decide +kernel
theorem dX8_stock_16 : decode cX8_stock 16 = .ok (.dup, 1) := by decide +kernel
theorem dX8_stock_17 : decode cX8_stock 17 = .ok (.ldc 213, 2) := by decide +kernel
theorem dX8_stock_19 : decode cX8_stock 19 = .ok (.invokespecial 55, 3) := by decide +kernel
theorem dX8_stock_22 : decode cX8_stock 22 = .ok (.athrow, 1) := by decide +kernel
theorem dX8_stock_23 : decode cX8_stock 23 = .ok (.aload_n 0, 1) := by decide +kernel
theorem dX8_stock_24 : decode cX8_stock 24 = .ok (.getfield 12, 3) := by decide +kernel
theorem dX8_stock_27 : decode cX8_stock 27 = .ok (.getfield 196, 3) := by decide +kernel
theorem dX8_stock_30 : decode cX8_stock 30 = .ok (.iload_n 1, 1) := by decide +kernel
theorem dX8_stock_31 : decode cX8_stock 31 = .ok (.iload_n 2, 1) := by decide +kernel
theorem dX8_stock_32 : decode cX8_stock 32 = .ok (.invokevirtual 215, 3) := by decide +kernel
theorem dX8_stock_35 : decode cX8_stock 35 = .ok (.ireturn, 1) := by decide +kernel
set_option maxRecDepth 20000 in
theorem ggX8_contract_X1_faultOfNew : GoodIn wsX8_contract wsX1_faultOfNew := goodIn_r _ [8, 9, 10, 11, 12, 13, 14, 15, 16, 17, 18, 19, 111, 112] (by decide +kernel) (by decide +kernel)
set_option maxRecDepth 20000 in
theorem gX8_contract_X1_faultOfNew : GoodIn wsX8_contract (wsV RX8 222 RX1 yX1_faultOfNew wsX1_faultOfNew) := goodIn_app (goodIn_of _ (by decide +kernel)) ggX8_contract_X1_faultOfNew
set_option maxRecDepth 20000 in
theorem ggX8_contract_X8_refuse : GoodIn wsX8_contract wsX8_refuse := goodIn_ca (goodIn_ca (goodIn_ca (goodIn_r _ [22, 23, 24, 25, 26, 27, 28, 29, 30, 31] (by decide +kernel) (by decide +kernel)) (goodIn_sub (fun _ h => List.mem_cons_of_mem _ (List.mem_append_left _ (List.mem_append_left _ (List.mem_append_left _ (List.mem_append_right _ h))))) (by decide +kernel))) (goodIn_sub (fun _ h => List.mem_cons_of_mem _ (List.mem_append_left _ (List.mem_append_left _ (List.mem_append_right _ h)))) (by decide +kernel))) (goodIn_sub (fun _ h => List.mem_cons_of_mem _ (List.mem_append_left _ (List.mem_append_right _ h))) (by decide +kernel))
set_option maxRecDepth 20000 in
theorem gX8_contract_X8_refuse : GoodIn wsX8_contract (va_wsS RX8 160 yX8_refuse wsX8_refuse) := goodIn_app (goodIn_of _ (by decide +kernel)) ggX8_contract_X8_refuse
set_option maxRecDepth 20000 in
theorem ggX8_contract_X3_keep : GoodIn wsX8_contract wsX3_keep := goodIn_r _ [36, 37, 38, 39, 40, 41, 42, 43, 44, 45, 35, 46, 47, 48, 49, 50, 51, 52, 53, 54, 55, 56, 57, 58, 59, 60, 61, 62, 63, 64, 65, 66, 67, 68, 69, 70, 71, 72, 73, 74, 75, 76, 77, 78, 79, 80, 81, 82, 7, 83, 84, 11, 85, 113, 114, 115, 102, 103, 104, 105, 106, 107, 108, 109, 110, 116, 117, 118, 119, 120, 111, 112] (by decide +kernel) (by decide +kernel)
set_option maxRecDepth 20000 in
theorem gX8_contract_X3_keep : GoodIn wsX8_contract (wsV RX8 67 RX3 yX3_keep wsX3_keep) := goodIn_app (goodIn_of _ (by decide +kernel)) ggX8_contract_X3_keep
set_option maxRecDepth 20000 in
theorem ggX8_contract_X1_add : GoodIn wsX8_contract wsX1_add := goodIn_ca (goodIn_r _ [89, 11, 84, 90, 91, 92, 64, 93, 94, 66, 111, 112, 116, 117] (by decide +kernel) (by decide +kernel)) (goodIn_sub (fun _ h => List.mem_cons_of_mem _ (List.mem_append_right _ h)) (by decide +kernel))
set_option maxRecDepth 20000 in
theorem gX8_contract_X1_add : GoodIn wsX8_contract (wsV RX8 228 RX1 yX1_add wsX1_add) := goodIn_app (goodIn_of _ (by decide +kernel)) ggX8_contract_X1_add
theorem dX8_contract_0 : decode cX8_contract 0 = .ok (.aload_n 0, 1) := by decide +kernel
theorem dX8_contract_1 : decode cX8_contract 1 = .ok (.getfield 12, 3) := by decide +kernel
theorem dX8_contract_4 : decode cX8_contract 4 = .ok (.getfield 218, 3) := by decide +kernel
theorem dX8_contract_7 : decode cX8_contract 7 = .ok (.iload_n 1, 1) := by decide +kernel
theorem dX8_contract_8 : decode cX8_contract 8 = .ok (.iload_n 2, 1) := by decide +kernel
theorem dX8_contract_9 : decode cX8_contract 9 = .ok (.iload_n 3, 1) := by decide +kernel
theorem dX8_contract_10 : decode cX8_contract 10 = .ok (.iload 4, 2) := by decide +kernel
theorem dX8_contract_12 : decode cX8_contract 12 = .ok (.invokevirtual 222, 3) := by decide +kernel
theorem dX8_contract_15 : decode cX8_contract 15 = .ok (.invokestatic 160, 3) := by decide +kernel
theorem dX8_contract_18 : decode cX8_contract 18 = .ok (.aload_n 0, 1) := by decide +kernel
theorem dX8_contract_19 : decode cX8_contract 19 = .ok (.getfield 25, 3) := by decide +kernel
theorem dX8_contract_22 : decode cX8_contract 22 = .ok (.aload_n 0, 1) := by decide +kernel
theorem dX8_contract_23 : decode cX8_contract 23 = .ok (.getfield 12, 3) := by decide +kernel
theorem dX8_contract_26 : decode cX8_contract 26 = .ok (.invokevirtual 67, 3) := by decide +kernel
theorem dX8_contract_29 : decode cX8_contract 29 = .ok (.aload_n 0, 1) := by decide +kernel
theorem dX8_contract_30 : decode cX8_contract 30 = .ok (.getfield 12, 3) := by decide +kernel
theorem dX8_contract_33 : decode cX8_contract 33 = .ok (.getfield 218, 3) := by decide +kernel
theorem dX8_contract_36 : decode cX8_contract 36 = .ok (.iload_n 1, 1) := by decide +kernel
theorem dX8_contract_37 : decode cX8_contract 37 = .ok (.iload_n 2, 1) := by decide +kernel
theorem dX8_contract_38 : decode cX8_contract 38 = .ok (.iload_n 3, 1) := by decide +kernel
theorem dX8_contract_39 : decode cX8_contract 39 = .ok (.iload 4, 2) := by decide +kernel
theorem dX8_contract_41 : decode cX8_contract 41 = .ok (.invokevirtual 228, 3) := by decide +kernel
theorem dX8_contract_44 : decode cX8_contract 44 = .ok (.ireturn, 1) := by decide +kernel
set_option maxRecDepth 20000 in
theorem ggX8_contractOf_X8_isWithin : GoodIn wsX8_contractOf wsX8_isWithin := goodIn_r _ [12] (by decide +kernel) (by decide +kernel)
set_option maxRecDepth 20000 in
theorem gX8_contractOf_X8_isWithin : GoodIn wsX8_contractOf (va_wsS RX8 116 yX8_isWithin wsX8_isWithin) := goodIn_app (goodIn_of _ (by decide +kernel)) ggX8_contractOf_X8_isWithin
set_option maxRecDepth 20000 in
theorem ggX8_contractOf_X6_get : GoodIn wsX8_contractOf wsX6_get := goodIn_ca (goodIn_r _ [17, 18, 19, 38, 39] (by decide +kernel) (by decide +kernel)) (goodIn_sub (fun _ h => List.mem_cons_of_mem _ (List.mem_append_right _ h)) (by decide +kernel))
set_option maxRecDepth 20000 in
theorem gX8_contractOf_X6_get : GoodIn wsX8_contractOf (wsV RX8 108 RX6 yX6_get wsX6_get) := goodIn_app (goodIn_of _ (by decide +kernel)) ggX8_contractOf_X6_get
theorem dX8_contractOf_0 : decode cX8_contractOf 0 = .ok (.iload_n 1, 1) := by decide +kernel
theorem dX8_contractOf_1 : decode cX8_contractOf 1 = .ok (.iconst 0, 1) := by decide +kernel
theorem dX8_contractOf_2 : decode cX8_contractOf 2 = .ok (.aload_n 0, 1) := by decide +kernel
theorem dX8_contractOf_3 : decode cX8_contractOf 3 = .ok (.getfield 12, 3) := by decide +kernel
theorem dX8_contractOf_6 : decode cX8_contractOf 6 = .ok (.getfield 218, 3) := by decide +kernel
theorem dX8_contractOf_9 : decode cX8_contractOf 9 = .ok (.getfield 232, 3) := by decide +kernel
theorem dX8_contractOf_12 : decode cX8_contractOf 12 = .ok (.iconst 1, 1) := by decide +kernel
theorem dX8_contractOf_13 : decode cX8_contractOf 13 = .ok (.isub, 1) := by decide +kernel
theorem dX8_contractOf_14 : decode cX8_contractOf 14 = .ok (.invokestatic 116, 3) := by decide +kernel
theorem dX8_contractOf_17 : decode cX8_contractOf 17 = .ok (.ifCond .ne 13, 3) := by decide +kernel
theorem dX8_contractOf_20 : decode cX8_contractOf 20 = .ok (.new 129, 3) := by decide +kernel
theorem dX8_contractOf_23 : decode cX8_contractOf 23 = .ok (.dup, 1) := by decide +kernel
theorem dX8_contractOf_24 : decode cX8_contractOf 24 = .ok (.ldc 235, 2) := by decide +kernel
theorem dX8_contractOf_26 : decode cX8_contractOf 26 = .ok (.invokespecial 133, 3) := by decide +kernel
theorem dX8_contractOf_29 : decode cX8_contractOf 29 = .ok (.athrow, 1) := by decide +kernel
theorem dX8_contractOf_30 : decode cX8_contractOf 30 = .ok (.iload_n 2, 1) := by decide +kernel
theorem dX8_contractOf_31 : decode cX8_contractOf 31 = .ok (.iconst 0, 1) := by decide +kernel
theorem dX8_contractOf_32 : decode cX8_contractOf 32 = .ok (.iconst 4, 1) := by decide +kernel
theorem dX8_contractOf_33 : decode cX8_contractOf 33 = .ok (.invokestatic 116, 3) := by decide +kernel
theorem dX8_contractOf_36 : decode cX8_contractOf 36 = .ok (.ifCond .ne 13, 3) := by decide +kernel
theorem dX8_contractOf_39 : decode cX8_contractOf 39 = .ok (.new 51, 3) := by decide +kernel
theorem dX8_contractOf_42 : decode cX8_contractOf 42 = .ok (.dup, 1) := by decide +kernel
theorem dX8_contractOf_43 : decode cX8_contractOf 43 = .ok (.ldc 237, 2) := by decide +kernel
theorem dX8_contractOf_45 : decode cX8_contractOf 45 = .ok (.invokespecial 55, 3) := by decide +kernel
theorem dX8_contractOf_48 : decode cX8_contractOf 48 = .ok (.athrow, 1) := by decide +kernel
theorem dX8_contractOf_49 : decode cX8_contractOf 49 = .ok (.aload_n 0, 1) := by decide +kernel
theorem dX8_contractOf_50 : decode cX8_contractOf 50 = .ok (.getfield 12, 3) := by decide +kernel
theorem dX8_contractOf_53 : decode cX8_contractOf 53 = .ok (.getfield 218, 3) := by decide +kernel
theorem dX8_contractOf_56 : decode cX8_contractOf 56 = .ok (.getfield 239, 3) := by decide +kernel
theorem dX8_contractOf_59 : decode cX8_contractOf 59 = .ok (.iload_n 1, 1) := by decide +kernel
theorem dX8_contractOf_60 : decode cX8_contractOf 60 = .ok (.iload_n 2, 1) := by decide +kernel
theorem dX8_contractOf_61 : decode cX8_contractOf 61 = .ok (.invokevirtual 108, 3) := by decide +kernel
theorem dX8_contractOf_64 : decode cX8_contractOf 64 = .ok (.ireturn, 1) := by decide +kernel
set_option maxRecDepth 20000 in
theorem ggX8_sell_X8_needBale : GoodIn wsX8_sell wsX8_needBale := goodIn_ca (goodIn_r _ [9, 10, 11, 3, 12, 13, 14, 15, 16, 17, 18, 19, 8, 20, 162, 163, 164, 165, 166, 167, 168, 169, 170, 171, 172, 173, 174, 175, 176, 177, 178, 179, 180] (by decide +kernel) (by decide +kernel)) (goodIn_sub (fun _ h => List.mem_cons_of_mem _ (List.mem_append_left _ (List.mem_append_right _ h))) (by decide +kernel))
set_option maxRecDepth 20000 in
theorem gX8_sell_X8_needBale : GoodIn wsX8_sell (wsV RX8 191 RX8 yX8_needBale wsX8_needBale) := goodIn_app (goodIn_of _ (by decide +kernel)) ggX8_sell_X8_needBale
set_option maxRecDepth 20000 in
theorem ggX8_sell_X8_reportsRefusal : GoodIn wsX8_sell wsX8_reportsRefusal := goodIn_ca (goodIn_r _ [24, 25, 12, 26, 27, 28, 29, 30, 31, 32, 33, 34, 35, 36, 16, 37, 38, 39, 40, 41, 42, 43, 44, 45, 46, 47, 48, 49, 50, 51, 52, 53, 54, 55, 56, 57, 58, 59, 60, 61, 62, 63, 64, 65, 66, 67, 68, 69, 70, 71, 72, 73, 74, 75, 76, 77, 78, 79, 80, 81, 82, 83, 84, 85, 86, 87, 88, 89, 90, 91, 92, 93, 94, 95, 96, 97, 98, 99, 100, 101, 102, 162, 163, 164, 165, 166, 167, 168, 169, 170, 171, 172, 173, 174, 175, 176, 177, 178, 179, 180, 181, 182, 183, 184, 185, 186] (by decide +kernel) (by decide +kernel)) (goodIn_sub (fun _ h => List.mem_cons_of_mem _ (List.mem_append_right _ h)) (by decide +kernel))
set_option maxRecDepth 20000 in
theorem gX8_sell_X8_reportsRefusal : GoodIn wsX8_sell (wsV RX8 240 RX8 yX8_reportsRefusal wsX8_reportsRefusal) := goodIn_app (goodIn_of _ (by decide +kernel)) ggX8_sell_X8_reportsRefusal
set_option maxRecDepth 20000 in
theorem ggX8_sell_X3_keep : GoodIn wsX8_sell wsX3_keep := goodIn_r _ [107, 108, 109, 110, 111, 86, 112, 113, 114, 115, 106, 116, 117, 118, 119, 120, 29, 121, 122, 123, 124, 32, 31, 125, 126, 127, 128, 129, 130, 42, 131, 45, 132, 133, 134, 135, 136, 137, 138, 139, 16, 140, 38, 18, 141, 142, 143, 144, 49, 145, 52, 51, 146, 187, 188, 189, 169, 170, 171, 172, 173, 174, 175, 176, 177, 181, 182, 178, 179, 180, 183, 184] (by decide +kernel) (by decide +kernel)
set_option maxRecDepth 20000 in
theorem gX8_sell_X3_keep : GoodIn wsX8_sell (wsV RX8 67 RX3 yX3_keep wsX3_keep) := goodIn_app (goodIn_of _ (by decide +kernel)) ggX8_sell_X3_keep
set_option maxRecDepth 20000 in
theorem ggX8_sell_X4_handOver : GoodIn wsX8_sell wsX4_handOver := goodIn_ca (goodIn_r _ [150, 31, 32, 33, 63, 64, 65, 29, 66, 58, 59, 60, 16, 61, 38, 39, 40, 41, 42, 43, 44, 45, 62, 34, 35, 36, 37, 67, 68, 69, 49, 70, 51, 52, 54, 55, 56, 57, 53, 71, 72, 73, 74, 151, 152, 153, 154, 155, 156, 157, 158, 159, 160, 100, 101, 102, 161, 169, 170, 171, 172, 173, 174, 175, 176, 177, 178, 179, 180, 181, 182, 183, 184] (by decide +kernel) (by decide +kernel)) (goodIn_sub (fun _ h => List.mem_cons_of_mem _ (List.mem_append_right _ h)) (by decide +kernel))
set_option maxRecDepth 20000 in
theorem gX8_sell_X4_handOver : GoodIn wsX8_sell (wsV RX8 249 RX4 yX4_handOver wsX4_handOver) := goodIn_app (goodIn_of _ (by decide +kernel)) ggX8_sell_X4_handOver
theorem dX8_sell_0 : decode cX8_sell 0 = .ok (.aload_n 0, 1) := by decide +kernel
theorem dX8_sell_1 : decode cX8_sell 1 = .ok (.iload_n 1, 1) := by decide +kernel
theorem dX8_sell_2 : decode cX8_sell 2 = .ok (.invokevirtual 191, 3) := by decide +kernel
theorem dX8_sell_5 : decode cX8_sell 5 = .ok (.aload_n 0, 1) := by decide +kernel
theorem dX8_sell_6 : decode cX8_sell 6 = .ok (.aload_n 0, 1) := by decide +kernel
theorem dX8_sell_7 : decode cX8_sell 7 = .ok (.getfield 12, 3) := by decide +kernel
theorem dX8_sell_10 : decode cX8_sell 10 = .ok (.iconst (-1), 1) := by decide +kernel
theorem dX8_sell_11 : decode cX8_sell 11 = .ok (.iload_n 1, 1) := by decide +kernel
theorem dX8_sell_12 : decode cX8_sell 12 = .ok (.invokevirtual 240, 3) := by decide +kernel
theorem dX8_sell_15 : decode cX8_sell 15 = .ok (.ifCond .eq 13, 3) := by decide +kernel
theorem dX8_sell_18 : decode cX8_sell 18 = .ok (.new 244, 3) := by decide +kernel
theorem dX8_sell_21 : decode cX8_sell 21 = .ok (.dup, 1) := by decide +kernel
theorem dX8_sell_22 : decode cX8_sell 22 = .ok (.ldc 246, 2) := by decide +kernel
theorem dX8_sell_24 : decode cX8_sell 24 = .ok (.invokespecial 248, 3) := by decide +kernel
theorem dX8_sell_27 : decode cX8_sell 27 = .ok (.athrow, 1) := by decide +kernel
theorem dX8_sell_28 : decode cX8_sell 28 = .ok (.aload_n 0, 1) := by decide +kernel
theorem dX8_sell_29 : decode cX8_sell 29 = .ok (.getfield 25, 3) := by decide +kernel
theorem dX8_sell_32 : decode cX8_sell 32 = .ok (.aload_n 0, 1) := by decide +kernel
theorem dX8_sell_33 : decode cX8_sell 33 = .ok (.getfield 12, 3) := by decide +kernel
theorem dX8_sell_36 : decode cX8_sell 36 = .ok (.invokevirtual 67, 3) := by decide +kernel
theorem dX8_sell_39 : decode cX8_sell 39 = .ok (.aload_n 0, 1) := by decide +kernel
theorem dX8_sell_40 : decode cX8_sell 40 = .ok (.getfield 12, 3) := by decide +kernel
theorem dX8_sell_43 : decode cX8_sell 43 = .ok (.iload_n 1, 1) := by decide +kernel
theorem dX8_sell_44 : decode cX8_sell 44 = .ok (.invokevirtual 249, 3) := by decide +kernel
theorem dX8_sell_47 : decode cX8_sell 47 = .ok (.ireturn, 1) := by decide +kernel
set_option maxRecDepth 20000 in
theorem ggX8_sellAll_X3_keep : GoodIn wsX8_sellAll wsX3_keep := goodIn_r _ [7, 8, 9, 10, 11, 12, 13, 14, 15, 16, 6, 17, 18, 19, 20, 21, 22, 23, 24, 25, 26, 27, 28, 29, 30, 31, 32, 33, 34, 35, 36, 37, 38, 39, 40, 41, 42, 43, 44, 45, 46, 47, 48, 49, 50, 51, 52, 53, 54, 55, 56, 57, 58, 140, 141, 142, 143, 144, 145, 146, 147, 148, 149, 150, 151, 152, 153, 154, 155, 156, 157, 158] (by decide +kernel) (by decide +kernel)
set_option maxRecDepth 20000 in
theorem gX8_sellAll_X3_keep : GoodIn wsX8_sellAll (wsV RX8 67 RX3 yX3_keep wsX3_keep) := goodIn_app (goodIn_of _ (by decide +kernel)) ggX8_sellAll_X3_keep
set_option maxRecDepth 20000 in
theorem ggX8_sellAll_X4_handOverAll : GoodIn wsX8_sellAll wsX4_handOverAll := goodIn_ca (goodIn_r _ [62, 27, 63, 64, 65, 46, 66, 49, 67, 68, 69, 70, 48, 71, 72, 73, 35, 74, 75, 37, 76, 77, 78, 79, 80, 81, 82, 83, 84, 85, 86, 87, 88, 89, 90, 91, 92, 93, 94, 95, 96, 22, 97, 98, 28, 99, 100, 101, 102, 103, 104, 105, 106, 107, 54, 108, 57, 56, 109, 110, 111, 112, 113, 114, 115, 116, 117, 118, 119, 120, 121, 122, 123, 124, 125, 126, 127, 128, 129, 130, 131, 132, 143, 144, 145, 146, 147, 148, 149, 150, 151, 154, 155, 156, 152, 153, 157, 158] (by decide +kernel) (by decide +kernel)) (goodIn_sub (fun _ h => List.mem_cons_of_mem _ (List.mem_append_right _ h)) (by decide +kernel))
set_option maxRecDepth 20000 in
theorem gX8_sellAll_X4_handOverAll : GoodIn wsX8_sellAll (wsV RX8 252 RX4 yX4_handOverAll wsX4_handOverAll) := goodIn_app (goodIn_of _ (by decide +kernel)) ggX8_sellAll_X4_handOverAll
theorem dX8_sellAll_0 : decode cX8_sellAll 0 = .ok (.aload_n 0, 1) := by decide +kernel
theorem dX8_sellAll_1 : decode cX8_sellAll 1 = .ok (.getfield 25, 3) := by decide +kernel
theorem dX8_sellAll_4 : decode cX8_sellAll 4 = .ok (.aload_n 0, 1) := by decide +kernel
theorem dX8_sellAll_5 : decode cX8_sellAll 5 = .ok (.getfield 12, 3) := by decide +kernel
theorem dX8_sellAll_8 : decode cX8_sellAll 8 = .ok (.invokevirtual 67, 3) := by decide +kernel
theorem dX8_sellAll_11 : decode cX8_sellAll 11 = .ok (.aload_n 0, 1) := by decide +kernel
theorem dX8_sellAll_12 : decode cX8_sellAll 12 = .ok (.getfield 12, 3) := by decide +kernel
theorem dX8_sellAll_15 : decode cX8_sellAll 15 = .ok (.invokevirtual 252, 3) := by decide +kernel
theorem dX8_sellAll_18 : decode cX8_sellAll 18 = .ok (.ireturn, 1) := by decide +kernel
set_option maxRecDepth 20000 in
theorem ggX8_wouldSell_X8_needBale : GoodIn wsX8_wouldSell wsX8_needBale := goodIn_ca (goodIn_r _ [8, 9, 10, 3, 11, 12, 13, 14, 15, 16, 17, 18, 7, 19, 61, 62, 63, 64, 65, 66, 67, 68, 69, 70, 71, 72, 73, 74, 75, 76, 77, 78, 79] (by decide +kernel) (by decide +kernel)) (goodIn_sub (fun _ h => List.mem_cons_of_mem _ (List.mem_append_left _ (List.mem_append_right _ h))) (by decide +kernel))
set_option maxRecDepth 20000 in
theorem gX8_wouldSell_X8_needBale : GoodIn wsX8_wouldSell (wsV RX8 191 RX8 yX8_needBale wsX8_needBale) := goodIn_app (goodIn_of _ (by decide +kernel)) ggX8_wouldSell_X8_needBale
set_option maxRecDepth 20000 in
theorem ggX8_wouldSell_X4_buyerOf : GoodIn wsX8_wouldSell wsX4_buyerOf := goodIn_ca (goodIn_r _ [24, 25, 26, 27, 28, 29, 30, 15, 31, 32, 33, 34, 35, 36, 37, 38, 39, 40, 41, 42, 43, 44, 45, 46, 47, 48, 49, 50, 51, 52, 53, 54, 55, 56, 57, 58, 59, 60, 68, 69, 70, 71, 72, 73, 74, 75, 76, 77, 78, 79, 80, 81, 82, 83] (by decide +kernel) (by decide +kernel)) (goodIn_sub (fun _ h => List.mem_cons_of_mem _ (List.mem_append_right _ h)) (by decide +kernel))
set_option maxRecDepth 20000 in
theorem gX8_wouldSell_X4_buyerOf : GoodIn wsX8_wouldSell (wsV RX8 255 RX4 yX4_buyerOf wsX4_buyerOf) := goodIn_app (goodIn_of _ (by decide +kernel)) ggX8_wouldSell_X4_buyerOf
theorem dX8_wouldSell_0 : decode cX8_wouldSell 0 = .ok (.aload_n 0, 1) := by decide +kernel
theorem dX8_wouldSell_1 : decode cX8_wouldSell 1 = .ok (.iload_n 1, 1) := by decide +kernel
theorem dX8_wouldSell_2 : decode cX8_wouldSell 2 = .ok (.invokevirtual 191, 3) := by decide +kernel
theorem dX8_wouldSell_5 : decode cX8_wouldSell 5 = .ok (.aload_n 0, 1) := by decide +kernel
theorem dX8_wouldSell_6 : decode cX8_wouldSell 6 = .ok (.getfield 12, 3) := by decide +kernel
theorem dX8_wouldSell_9 : decode cX8_wouldSell 9 = .ok (.iload_n 1, 1) := by decide +kernel
theorem dX8_wouldSell_10 : decode cX8_wouldSell 10 = .ok (.invokevirtual 255, 3) := by decide +kernel
theorem dX8_wouldSell_13 : decode cX8_wouldSell 13 = .ok (.istore_n 2, 1) := by decide +kernel
theorem dX8_wouldSell_14 : decode cX8_wouldSell 14 = .ok (.iload_n 2, 1) := by decide +kernel
theorem dX8_wouldSell_15 : decode cX8_wouldSell 15 = .ok (.iconst (-1), 1) := by decide +kernel
theorem dX8_wouldSell_16 : decode cX8_wouldSell 16 = .ok (.if_icmp .ne 14, 3) := by decide +kernel
theorem dX8_wouldSell_19 : decode cX8_wouldSell 19 = .ok (.new 75, 3) := by decide +kernel
theorem dX8_wouldSell_22 : decode cX8_wouldSell 22 = .ok (.dup, 1) := by decide +kernel
theorem dX8_wouldSell_23 : decode cX8_wouldSell 23 = .ok (.ldc_w 258, 3) := by decide +kernel
theorem dX8_wouldSell_26 : decode cX8_wouldSell 26 = .ok (.invokespecial 79, 3) := by decide +kernel
theorem dX8_wouldSell_29 : decode cX8_wouldSell 29 = .ok (.athrow, 1) := by decide +kernel
theorem dX8_wouldSell_30 : decode cX8_wouldSell 30 = .ok (.iload_n 2, 1) := by decide +kernel
theorem dX8_wouldSell_31 : decode cX8_wouldSell 31 = .ok (.ireturn, 1) := by decide +kernel
set_option maxRecDepth 20000 in
theorem ggX8_report_X8_isWithin : GoodIn wsX8_report wsX8_isWithin := goodIn_r _ [8] (by decide +kernel) (by decide +kernel)
set_option maxRecDepth 20000 in
theorem gX8_report_X8_isWithin : GoodIn wsX8_report (va_wsS RX8 116 yX8_isWithin wsX8_isWithin) := goodIn_app (goodIn_of _ (by decide +kernel)) ggX8_report_X8_isWithin
set_option maxRecDepth 20000 in
theorem ggX8_report_X5_part : GoodIn wsX8_report wsX5_part := goodIn_ca (goodIn_r _ [13, 14, 15, 16, 17, 18, 19, 20, 21, 29, 30, 31, 32] (by decide +kernel) (by decide +kernel)) (goodIn_sub (fun _ h => List.mem_cons_of_mem _ (List.mem_append_right _ h)) (by decide +kernel))
set_option maxRecDepth 20000 in
theorem gX8_report_X5_part : GoodIn wsX8_report (wsV RX8 265 RX5 yX5_part wsX5_part) := goodIn_app (goodIn_of _ (by decide +kernel)) ggX8_report_X5_part
theorem dX8_report_0 : decode cX8_report 0 = .ok (.iload_n 1, 1) := by decide +kernel
theorem dX8_report_1 : decode cX8_report 1 = .ok (.iconst 0, 1) := by decide +kernel
theorem dX8_report_2 : decode cX8_report 2 = .ok (.aload_n 0, 1) := by decide +kernel
theorem dX8_report_3 : decode cX8_report 3 = .ok (.getfield 32, 3) := by decide +kernel
theorem dX8_report_6 : decode cX8_report 6 = .ok (.getfield 260, 3) := by decide +kernel
theorem dX8_report_9 : decode cX8_report 9 = .ok (.iconst 1, 1) := by decide +kernel
theorem dX8_report_10 : decode cX8_report 10 = .ok (.isub, 1) := by decide +kernel
theorem dX8_report_11 : decode cX8_report 11 = .ok (.invokestatic 116, 3) := by decide +kernel
theorem dX8_report_14 : decode cX8_report 14 = .ok (.ifCond .ne 14, 3) := by decide +kernel
theorem dX8_report_17 : decode cX8_report 17 = .ok (.new 75, 3) := by decide +kernel
theorem dX8_report_20 : decode cX8_report 20 = .ok (.dup, 1) := by decide +kernel
theorem dX8_report_21 : decode cX8_report 21 = .ok (.ldc_w 263, 3) := by decide +kernel
theorem dX8_report_24 : decode cX8_report 24 = .ok (.invokespecial 79, 3) := by decide +kernel
theorem dX8_report_27 : decode cX8_report 27 = .ok (.athrow, 1) := by decide +kernel
theorem dX8_report_28 : decode cX8_report 28 = .ok (.aload_n 0, 1) := by decide +kernel
theorem dX8_report_29 : decode cX8_report 29 = .ok (.getfield 32, 3) := by decide +kernel
theorem dX8_report_32 : decode cX8_report 32 = .ok (.iload_n 1, 1) := by decide +kernel
theorem dX8_report_33 : decode cX8_report 33 = .ok (.iload_n 2, 1) := by decide +kernel
theorem dX8_report_34 : decode cX8_report 34 = .ok (.invokevirtual 265, 3) := by decide +kernel
theorem dX8_report_37 : decode cX8_report 37 = .ok (.ireturn, 1) := by decide +kernel
set_option maxRecDepth 20000 in
theorem ggX8_account_X8_isWithin : GoodIn wsX8_account wsX8_isWithin := goodIn_r _ [7] (by decide +kernel) (by decide +kernel)
set_option maxRecDepth 20000 in
theorem gX8_account_X8_isWithin : GoodIn wsX8_account (va_wsS RX8 116 yX8_isWithin wsX8_isWithin) := goodIn_app (goodIn_of _ (by decide +kernel)) ggX8_account_X8_isWithin
set_option maxRecDepth 20000 in
theorem ggX8_account_X4_accountOf : GoodIn wsX8_account wsX4_accountOf := goodIn_ca (goodIn_r _ [12, 13, 14, 15, 16, 17, 18, 19, 20, 21, 22, 23, 24, 25, 26, 27, 28, 29, 30, 31, 32, 33, 34, 11, 35, 36, 37, 38, 39, 40, 41, 42, 43, 44, 45, 46, 47, 48, 49, 50, 58, 59, 60, 61, 62, 63, 64, 65, 66, 67, 68, 69, 70, 71, 72, 73] (by decide +kernel) (by decide +kernel)) (goodIn_sub (fun _ h => List.mem_cons_of_mem _ (List.mem_append_right _ h)) (by decide +kernel))
set_option maxRecDepth 20000 in
theorem gX8_account_X4_accountOf : GoodIn wsX8_account (wsV RX8 271 RX4 yX4_accountOf wsX4_accountOf) := goodIn_app (goodIn_of _ (by decide +kernel)) ggX8_account_X4_accountOf
theorem dX8_account_0 : decode cX8_account 0 = .ok (.iload_n 1, 1) := by decide +kernel
theorem dX8_account_1 : decode cX8_account 1 = .ok (.iconst 0, 1) := by decide +kernel
theorem dX8_account_2 : decode cX8_account 2 = .ok (.bipush 15, 2) := by decide +kernel
theorem dX8_account_4 : decode cX8_account 4 = .ok (.invokestatic 116, 3) := by decide +kernel
theorem dX8_account_7 : decode cX8_account 7 = .ok (.ifCond .ne 14, 3) := by decide +kernel
theorem dX8_account_10 : decode cX8_account 10 = .ok (.new 51, 3) := by decide +kernel
theorem dX8_account_13 : decode cX8_account 13 = .ok (.dup, 1) := by decide +kernel
theorem dX8_account_14 : decode cX8_account 14 = .ok (.ldc_w 269, 3) := by decide +kernel
theorem dX8_account_17 : decode cX8_account 17 = .ok (.invokespecial 55, 3) := by decide +kernel
theorem dX8_account_20 : decode cX8_account 20 = .ok (.athrow, 1) := by decide +kernel
theorem dX8_account_21 : decode cX8_account 21 = .ok (.aload_n 0, 1) := by decide +kernel
theorem dX8_account_22 : decode cX8_account 22 = .ok (.getfield 12, 3) := by decide +kernel
theorem dX8_account_25 : decode cX8_account 25 = .ok (.iload_n 1, 1) := by decide +kernel
theorem dX8_account_26 : decode cX8_account 26 = .ok (.invokevirtual 271, 3) := by decide +kernel
theorem dX8_account_29 : decode cX8_account 29 = .ok (.lreturn, 1) := by decide +kernel
set_option maxRecDepth 20000 in
theorem ggX8_purity_X0_unloopedKilos : GoodIn wsX8_purity wsX0_unloopedKilos := goodIn_ca (goodIn_r _ [9, 10, 11, 12, 13, 14, 15, 16, 17, 18, 19, 20, 21, 8, 22, 39, 40, 41, 42, 43] (by decide +kernel) (by decide +kernel)) (goodIn_sub (fun _ h => List.mem_cons_of_mem _ (List.mem_append_right _ h)) (by decide +kernel))
set_option maxRecDepth 20000 in
theorem gX8_purity_X0_unloopedKilos : GoodIn wsX8_purity (wsV RX8 275 RX0 yX0_unloopedKilos wsX0_unloopedKilos) := goodIn_app (goodIn_of _ (by decide +kernel)) ggX8_purity_X0_unloopedKilos
theorem dX8_purity_0 : decode cX8_purity 0 = .ok (.aload_n 0, 1) := by decide +kernel
theorem dX8_purity_1 : decode cX8_purity 1 = .ok (.getfield 12, 3) := by decide +kernel
theorem dX8_purity_4 : decode cX8_purity 4 = .ok (.getfield 196, 3) := by decide +kernel
theorem dX8_purity_7 : decode cX8_purity 7 = .ok (.iconst 1, 1) := by decide +kernel
theorem dX8_purity_8 : decode cX8_purity 8 = .ok (.invokevirtual 275, 3) := by decide +kernel
theorem dX8_purity_11 : decode cX8_purity 11 = .ok (.i2d, 1) := by decide +kernel
theorem dX8_purity_12 : decode cX8_purity 12 = .ok (.dstore_n 1, 1) := by decide +kernel
theorem dX8_purity_13 : decode cX8_purity 13 = .ok (.aload_n 0, 1) := by decide +kernel
theorem dX8_purity_14 : decode cX8_purity 14 = .ok (.getfield 12, 3) := by decide +kernel
theorem dX8_purity_17 : decode cX8_purity 17 = .ok (.getfield 196, 3) := by decide +kernel
theorem dX8_purity_20 : decode cX8_purity 20 = .ok (.iconst 0, 1) := by decide +kernel
theorem dX8_purity_21 : decode cX8_purity 21 = .ok (.invokevirtual 275, 3) := by decide +kernel
theorem dX8_purity_24 : decode cX8_purity 24 = .ok (.i2d, 1) := by decide +kernel
theorem dX8_purity_25 : decode cX8_purity 25 = .ok (.dstore_n 3, 1) := by decide +kernel
theorem dX8_purity_26 : decode cX8_purity 26 = .ok (.dload_n 3, 1) := by decide +kernel
theorem dX8_purity_27 : decode cX8_purity 27 = .ok (.dconst 0, 1) := by decide +kernel
theorem dX8_purity_28 : decode cX8_purity 28 = .ok (.dcmp .g, 1) := by decide +kernel
theorem dX8_purity_29 : decode cX8_purity 29 = .ok (.ifCond .gt 14, 3) := by decide +kernel
theorem dX8_purity_32 : decode cX8_purity 32 = .ok (.new 279, 3) := by decide +kernel
theorem dX8_purity_35 : decode cX8_purity 35 = .ok (.dup, 1) := by decide +kernel
theorem dX8_purity_36 : decode cX8_purity 36 = .ok (.ldc_w 281, 3) := by decide +kernel
theorem dX8_purity_39 : decode cX8_purity 39 = .ok (.invokespecial 283, 3) := by decide +kernel
theorem dX8_purity_42 : decode cX8_purity 42 = .ok (.athrow, 1) := by decide +kernel
theorem dX8_purity_43 : decode cX8_purity 43 = .ok (.dload_n 1, 1) := by decide +kernel
theorem dX8_purity_44 : decode cX8_purity 44 = .ok (.dload_n 3, 1) := by decide +kernel
theorem dX8_purity_45 : decode cX8_purity 45 = .ok (.ddiv, 1) := by decide +kernel
theorem dX8_purity_46 : decode cX8_purity 46 = .ok (.dreturn, 1) := by decide +kernel
set_option maxRecDepth 20000 in
theorem ggX8_wasted_X8_needMaterial : GoodIn wsX8_wasted wsX8_needMaterial := goodIn_ca (goodIn_r _ [8, 9, 10, 11, 12, 7, 13, 14, 15, 16] (by decide +kernel) (by decide +kernel)) (goodIn_sub (fun _ h => List.mem_cons_of_mem _ (List.mem_append_left _ (List.mem_append_right _ h))) (by decide +kernel))
set_option maxRecDepth 20000 in
theorem gX8_wasted_X8_needMaterial : GoodIn wsX8_wasted (va_wsS RX8 43 yX8_needMaterial wsX8_needMaterial) := goodIn_app (goodIn_of _ (by decide +kernel)) ggX8_wasted_X8_needMaterial
set_option maxRecDepth 20000 in
theorem ggX8_wasted_X6_get : GoodIn wsX8_wasted wsX6_get := goodIn_ca (goodIn_r _ [21, 22, 23, 40, 41] (by decide +kernel) (by decide +kernel)) (goodIn_sub (fun _ h => List.mem_cons_of_mem _ (List.mem_append_right _ h)) (by decide +kernel))
set_option maxRecDepth 20000 in
theorem gX8_wasted_X6_get : GoodIn wsX8_wasted (wsV RX8 108 RX6 yX6_get wsX6_get) := goodIn_app (goodIn_of _ (by decide +kernel)) ggX8_wasted_X6_get
theorem dX8_wasted_0 : decode cX8_wasted 0 = .ok (.iload_n 1, 1) := by decide +kernel
theorem dX8_wasted_1 : decode cX8_wasted 1 = .ok (.invokestatic 43, 3) := by decide +kernel
theorem dX8_wasted_4 : decode cX8_wasted 4 = .ok (.aload_n 0, 1) := by decide +kernel
theorem dX8_wasted_5 : decode cX8_wasted 5 = .ok (.getfield 12, 3) := by decide +kernel
theorem dX8_wasted_8 : decode cX8_wasted 8 = .ok (.getfield 97, 3) := by decide +kernel
theorem dX8_wasted_11 : decode cX8_wasted 11 = .ok (.bipush 7, 2) := by decide +kernel
theorem dX8_wasted_13 : decode cX8_wasted 13 = .ok (.iload_n 1, 1) := by decide +kernel
theorem dX8_wasted_14 : decode cX8_wasted 14 = .ok (.invokevirtual 108, 3) := by decide +kernel
theorem dX8_wasted_17 : decode cX8_wasted 17 = .ok (.i2f, 1) := by decide +kernel
theorem dX8_wasted_18 : decode cX8_wasted 18 = .ok (.fstore_n 2, 1) := by decide +kernel
theorem dX8_wasted_19 : decode cX8_wasted 19 = .ok (.aload_n 0, 1) := by decide +kernel
theorem dX8_wasted_20 : decode cX8_wasted 20 = .ok (.getfield 12, 3) := by decide +kernel
theorem dX8_wasted_23 : decode cX8_wasted 23 = .ok (.getfield 97, 3) := by decide +kernel
theorem dX8_wasted_26 : decode cX8_wasted 26 = .ok (.bipush 8, 2) := by decide +kernel
theorem dX8_wasted_28 : decode cX8_wasted 28 = .ok (.iload_n 1, 1) := by decide +kernel
theorem dX8_wasted_29 : decode cX8_wasted 29 = .ok (.invokevirtual 108, 3) := by decide +kernel
theorem dX8_wasted_32 : decode cX8_wasted 32 = .ok (.i2f, 1) := by decide +kernel
theorem dX8_wasted_33 : decode cX8_wasted 33 = .ok (.fstore_n 3, 1) := by decide +kernel
theorem dX8_wasted_34 : decode cX8_wasted 34 = .ok (.fload_n 3, 1) := by decide +kernel
theorem dX8_wasted_35 : decode cX8_wasted 35 = .ok (.fconst 0, 1) := by decide +kernel
theorem dX8_wasted_36 : decode cX8_wasted 36 = .ok (.fcmp .g, 1) := by decide +kernel
theorem dX8_wasted_37 : decode cX8_wasted 37 = .ok (.ifCond .gt 14, 3) := by decide +kernel
theorem dX8_wasted_40 : decode cX8_wasted 40 = .ok (.new 279, 3) := by decide +kernel
theorem dX8_wasted_43 : decode cX8_wasted 43 = .ok (.dup, 1) := by decide +kernel
theorem dX8_wasted_44 : decode cX8_wasted 44 = .ok (.ldc_w 284, 3) := by decide +kernel
theorem dX8_wasted_47 : decode cX8_wasted 47 = .ok (.invokespecial 283, 3) := by decide +kernel
theorem dX8_wasted_50 : decode cX8_wasted 50 = .ok (.athrow, 1) := by decide +kernel
theorem dX8_wasted_51 : decode cX8_wasted 51 = .ok (.fload_n 2, 1) := by decide +kernel
theorem dX8_wasted_52 : decode cX8_wasted 52 = .ok (.fload_n 3, 1) := by decide +kernel
theorem dX8_wasted_53 : decode cX8_wasted 53 = .ok (.fdiv, 1) := by decide +kernel
theorem dX8_wasted_54 : decode cX8_wasted 54 = .ok (.freturn, 1) := by decide +kernel
set_option maxRecDepth 20000 in
theorem ggX8_append_X7_isFull : GoodIn wsX8_append wsX7_isFull := goodIn_r _ [8, 9, 22, 23, 24, 25, 26] (by decide +kernel) (by decide +kernel)
set_option maxRecDepth 20000 in
theorem gX8_append_X7_isFull : GoodIn wsX8_append (wsV RX8 286 RX7 yX7_isFull wsX7_isFull) := goodIn_app (goodIn_of _ (by decide +kernel)) ggX8_append_X7_isFull
set_option maxRecDepth 20000 in
theorem ggX8_append_X7_add : GoodIn wsX8_append wsX7_add := goodIn_ca (goodIn_r _ [13, 9, 14, 22, 23, 24, 25, 26] (by decide +kernel) (by decide +kernel)) (goodIn_sub (fun _ h => List.mem_cons_of_mem _ (List.mem_append_right _ h)) (by decide +kernel))
set_option maxRecDepth 20000 in
theorem gX8_append_X7_add : GoodIn wsX8_append (wsV RX8 291 RX7 yX7_add wsX7_add) := goodIn_app (goodIn_of _ (by decide +kernel)) ggX8_append_X7_add
theorem dX8_append_0 : decode cX8_append 0 = .ok (.aload_n 0, 1) := by decide +kernel
theorem dX8_append_1 : decode cX8_append 1 = .ok (.getfield 39, 3) := by decide +kernel
theorem dX8_append_4 : decode cX8_append 4 = .ok (.invokevirtual 286, 3) := by decide +kernel
theorem dX8_append_7 : decode cX8_append 7 = .ok (.ifCond .eq 14, 3) := by decide +kernel
theorem dX8_append_10 : decode cX8_append 10 = .ok (.new 62, 3) := by decide +kernel
theorem dX8_append_13 : decode cX8_append 13 = .ok (.dup, 1) := by decide +kernel
theorem dX8_append_14 : decode cX8_append 14 = .ok (.ldc_w 289, 3) := by decide +kernel
theorem dX8_append_17 : decode cX8_append 17 = .ok (.invokespecial 66, 3) := by decide +kernel
theorem dX8_append_20 : decode cX8_append 20 = .ok (.athrow, 1) := by decide +kernel
theorem dX8_append_21 : decode cX8_append 21 = .ok (.aload_n 0, 1) := by decide +kernel
theorem dX8_append_22 : decode cX8_append 22 = .ok (.getfield 39, 3) := by decide +kernel
theorem dX8_append_25 : decode cX8_append 25 = .ok (.iload_n 1, 1) := by decide +kernel
theorem dX8_append_26 : decode cX8_append 26 = .ok (.invokevirtual 291, 3) := by decide +kernel
theorem dX8_append_29 : decode cX8_append 29 = .ok (.ireturn, 1) := by decide +kernel
set_option maxRecDepth 20000 in
theorem ggX8_perform_X7_parse : GoodIn wsX8_perform wsX7_parse := goodIn_ca (goodIn_r _ [13, 14, 15, 16, 17, 18, 19, 12, 20, 21, 22, 23, 24, 25, 26, 27, 28, 29, 30, 31, 32, 33, 34, 35, 36, 37, 38, 39, 40, 41, 42, 43, 44, 45, 46, 47, 48, 49, 50, 51, 52, 53, 54, 55, 56, 57, 58, 59, 60, 61, 62, 63, 64, 65, 66, 67, 68, 69, 70, 71, 72, 73, 74, 75, 76, 77, 78, 79, 80, 81, 82, 83, 84, 85, 86, 87, 88, 89, 90, 91, 92, 93, 94, 95, 96, 97, 98, 99, 100, 101, 102, 103, 104, 362, 363, 364, 365, 366, 367, 368, 369, 370] (by decide +kernel) (by decide +kernel)) (goodIn_sub (fun _ h => List.mem_cons_of_mem _ (List.mem_append_left _ (List.mem_append_right _ h))) (by decide +kernel))
set_option maxRecDepth 20000 in
theorem gX8_perform_X7_parse : GoodIn wsX8_perform (wsV RX8 294 RX7 yX7_parse wsX7_parse) := goodIn_app (goodIn_of _ (by decide +kernel)) ggX8_perform_X7_parse
set_option maxRecDepth 20000 in
theorem ggX8_perform_X7_empty : GoodIn wsX8_perform wsX7_empty := goodIn_r _ [108, 16, 362, 363, 364, 365, 366] (by decide +kernel) (by decide +kernel)
set_option maxRecDepth 20000 in
theorem gX8_perform_X7_empty : GoodIn wsX8_perform (wsV RX8 297 RX7 yX7_empty wsX7_empty) := goodIn_app (goodIn_of _ (by decide +kernel)) ggX8_perform_X7_empty
set_option maxRecDepth 20000 in
theorem ggX8_perform_X4_copyFrom : GoodIn wsX8_perform wsX4_copyFrom := goodIn_r _ [113, 114, 115, 116, 117, 118, 119, 120, 121, 122, 123, 124, 43, 125, 46, 126, 127, 100, 128, 129, 130, 131, 132, 133, 134, 135, 136, 137, 138, 139, 140, 141, 142, 143, 144, 145, 146, 147, 148, 371, 372, 373, 374, 375, 376, 377, 378, 379, 369, 370, 380, 381, 382, 383, 384] (by decide +kernel) (by decide +kernel)
set_option maxRecDepth 20000 in
theorem gX8_perform_X4_copyFrom : GoodIn wsX8_perform (wsV RX8 177 RX4 yX4_copyFrom wsX4_copyFrom) := goodIn_app (goodIn_of _ (by decide +kernel)) ggX8_perform_X4_copyFrom
set_option maxRecDepth 20000 in
theorem ggX8_perform_X8_isRefused : GoodIn wsX8_perform wsX8_isRefused := goodIn_ca (goodIn_r _ [152, 3, 5, 153, 154, 155, 156, 157, 158, 12, 159, 30, 160, 161, 162, 43, 163, 45, 46, 164, 165, 166, 112, 167, 168, 169, 116, 170, 171, 172, 103, 173, 174, 102, 104, 175, 176, 177, 178, 179, 180, 181, 182, 183, 119, 184, 185, 186, 144, 187, 188, 189, 147, 190, 191, 192, 193, 194, 136, 195, 139, 196, 197, 198, 199, 200, 201, 202, 203, 204, 118, 117, 205, 206, 207, 208, 209, 138, 210, 211, 212, 213, 214, 146, 215, 216, 217, 218, 219, 220, 221, 222, 223, 224, 225, 226, 227, 228, 229, 230, 231, 232, 233, 234, 235, 236, 237, 238, 239, 240, 241, 242, 243, 244, 245, 246, 99, 100, 101, 247, 248, 249, 250, 251, 252, 253, 254, 255, 256, 257, 258, 41, 42, 44, 355, 356, 357, 358, 359, 360, 361, 371, 372, 373, 374, 375, 376, 377, 378, 379, 362, 363, 364, 365, 366, 369, 370, 383, 384, 380, 381, 382, 385, 386] (by decide +kernel) (by decide +kernel)) (goodIn_sub (fun _ h => List.mem_cons_of_mem _ (List.mem_append_left _ (List.mem_append_right _ h))) (by decide +kernel))
set_option maxRecDepth 20000 in
theorem gX8_perform_X8_isRefused : GoodIn wsX8_perform (wsV RX8 304 RX8 yX8_isRefused wsX8_isRefused) := goodIn_app (goodIn_of _ (by decide +kernel)) ggX8_perform_X8_isRefused
set_option maxRecDepth 20000 in
theorem ggX8_perform_X8_carryOut : GoodIn wsX8_perform wsX8_carryOut := goodIn_ca (goodIn_ca (goodIn_r _ [262, 3, 5, 154, 156, 157, 158, 12, 159, 30, 160, 161, 162, 43, 163, 45, 46, 263, 264, 265, 112, 266, 116, 267, 268, 269, 270, 179, 271, 41, 42, 44, 224, 272, 273, 274, 275, 121, 175, 176, 177, 178, 276, 277, 278, 279, 117, 280, 281, 127, 100, 128, 119, 282, 283, 284, 285, 114, 286, 287, 288, 289, 290, 291, 292, 293, 294, 295, 296, 297, 298, 299, 115, 300, 301, 302, 303, 304, 99, 101, 305, 306, 307, 308, 309, 310, 311, 312, 313, 314, 315, 316, 317, 205, 318, 319, 320, 321, 120, 322, 102, 103, 104, 323, 324, 325, 326, 327, 328, 329, 144, 330, 147, 146, 331, 332, 333, 334, 335, 118, 225, 226, 227, 228, 220, 221, 222, 136, 223, 138, 210, 206, 207, 208, 209, 229, 230, 231, 232, 216, 217, 218, 219, 215, 233, 234, 235, 236, 336, 337, 338, 339, 340, 355, 356, 357, 358, 359, 360, 361, 371, 372, 373, 374, 375, 376, 377, 378, 379, 362, 363, 364, 365, 366, 369, 370, 380, 381, 382, 383, 384] (by decide +kernel) (by decide +kernel)) (goodIn_sub (fun _ h => List.mem_cons_of_mem _ (List.mem_append_left _ (List.mem_append_right _ h))) (by decide +kernel))) (goodIn_sub (fun _ h => List.mem_cons_of_mem _ (List.mem_append_right _ h)) (by decide +kernel))
set_option maxRecDepth 20000 in
theorem gX8_perform_X8_carryOut : GoodIn wsX8_perform (wsV RX8 310 RX8 yX8_carryOut wsX8_carryOut) := goodIn_app (goodIn_of _ (by decide +kernel)) ggX8_perform_X8_carryOut
set_option maxRecDepth 20000 in
theorem ggX8_perform_X3_keep : GoodIn wsX8_perform wsX3_keep := goodIn_r _ [345, 346, 347, 348, 127, 100, 128, 349, 350, 351, 344, 352, 353, 354, 110, 111, 112, 113, 114, 115, 116, 117, 118, 119, 120, 121, 122, 123, 124, 43, 125, 46, 126, 129, 130, 131, 132, 133, 134, 135, 136, 137, 138, 139, 140, 141, 142, 143, 144, 145, 146, 147, 148, 387, 388, 389, 371, 372, 373, 374, 375, 376, 377, 378, 379, 369, 370, 380, 381, 382, 383, 384] (by decide +kernel) (by decide +kernel)
set_option maxRecDepth 20000 in
theorem gX8_perform_X3_keep : GoodIn wsX8_perform (wsV RX8 67 RX3 yX3_keep wsX3_keep) := goodIn_app (goodIn_of _ (by decide +kernel)) ggX8_perform_X3_keep
theorem dX8_perform_0 : decode cX8_perform 0 = .ok (.aload_n 0, 1) := by decide +kernel
theorem dX8_perform_1 : decode cX8_perform 1 = .ok (.getfield 39, 3) := by decide +kernel
theorem dX8_perform_4 : decode cX8_perform 4 = .ok (.invokevirtual 294, 3) := by decide +kernel
theorem dX8_perform_7 : decode cX8_perform 7 = .ok (.istore_n 1, 1) := by decide +kernel
theorem dX8_perform_8 : decode cX8_perform 8 = .ok (.aload_n 0, 1) := by decide +kernel
theorem dX8_perform_9 : decode cX8_perform 9 = .ok (.getfield 39, 3) := by decide +kernel
theorem dX8_perform_12 : decode cX8_perform 12 = .ok (.invokevirtual 297, 3) := by decide +kernel
theorem dX8_perform_15 : decode cX8_perform 15 = .ok (.iload_n 1, 1) := by decide +kernel
theorem dX8_perform_16 : decode cX8_perform 16 = .ok (.ifCond .ne 14, 3) := by decide +kernel
theorem dX8_perform_19 : decode cX8_perform 19 = .ok (.bipush (-100), 2) := by decide +kernel
theorem dX8_perform_21 : decode cX8_perform 21 = .ok (.aload_n 0, 1) := by decide +kernel
theorem dX8_perform_22 : decode cX8_perform 22 = .ok (.getfield 39, 3) := by decide +kernel
theorem dX8_perform_25 : decode cX8_perform 25 = .ok (.getfield 300, 3) := by decide +kernel
theorem dX8_perform_28 : decode cX8_perform 28 = .ok (.isub, 1) := by decide +kernel
theorem dX8_perform_29 : decode cX8_perform 29 = .ok (.ireturn, 1) := by decide +kernel
theorem dX8_perform_30 : decode cX8_perform 30 = .ok (.aload_n 0, 1) := by decide +kernel
theorem dX8_perform_31 : decode cX8_perform 31 = .ok (.getfield 16, 3) := by decide +kernel
theorem dX8_perform_34 : decode cX8_perform 34 = .ok (.aload_n 0, 1) := by decide +kernel
theorem dX8_perform_35 : decode cX8_perform 35 = .ok (.getfield 12, 3) := by decide +kernel
theorem dX8_perform_38 : decode cX8_perform 38 = .ok (.invokevirtual 177, 3) := by decide +kernel
theorem dX8_perform_41 : decode cX8_perform 41 = .ok (.iconst 0, 1) := by decide +kernel
theorem dX8_perform_42 : decode cX8_perform 42 = .ok (.istore_n 2, 1) := by decide +kernel
theorem dX8_perform_43 : decode cX8_perform 43 = .ok (.iload_n 2, 1) := by decide +kernel
theorem dX8_perform_44 : decode cX8_perform 44 = .ok (.aload_n 0, 1) := by decide +kernel
theorem dX8_perform_45 : decode cX8_perform 45 = .ok (.getfield 39, 3) := by decide +kernel
theorem dX8_perform_48 : decode cX8_perform 48 = .ok (.getfield 303, 3) := by decide +kernel
theorem dX8_perform_51 : decode cX8_perform 51 = .ok (.if_icmp .ge 33, 3) := by decide +kernel
theorem dX8_perform_54 : decode cX8_perform 54 = .ok (.aload_n 0, 1) := by decide +kernel
theorem dX8_perform_55 : decode cX8_perform 55 = .ok (.iload_n 2, 1) := by decide +kernel
theorem dX8_perform_56 : decode cX8_perform 56 = .ok (.invokevirtual 304, 3) := by decide +kernel
theorem dX8_perform_59 : decode cX8_perform 59 = .ok (.ifCond .eq 14, 3) := by decide +kernel
theorem dX8_perform_62 : decode cX8_perform 62 = .ok (.new 244, 3) := by decide +kernel
theorem dX8_perform_65 : decode cX8_perform 65 = .ok (.dup, 1) := by decide +kernel
theorem dX8_perform_66 : decode cX8_perform 66 = .ok (.ldc_w 308, 3) := by decide +kernel
theorem dX8_perform_69 : decode cX8_perform 69 = .ok (.invokespecial 248, 3) := by decide +kernel
theorem dX8_perform_72 : decode cX8_perform 72 = .ok (.athrow, 1) := by decide +kernel
theorem dX8_perform_73 : decode cX8_perform 73 = .ok (.aload_n 0, 1) := by decide +kernel
theorem dX8_perform_74 : decode cX8_perform 74 = .ok (.iload_n 2, 1) := by decide +kernel
theorem dX8_perform_75 : decode cX8_perform 75 = .ok (.invokevirtual 310, 3) := by decide +kernel
theorem dX8_perform_78 : decode cX8_perform 78 = .ok (.iinc 2 1, 3) := by decide +kernel
theorem dX8_perform_81 : decode cX8_perform 81 = .ok (.goto (-38), 3) := by decide +kernel
theorem dX8_perform_84 : decode cX8_perform 84 = .ok (.aload_n 0, 1) := by decide +kernel
theorem dX8_perform_85 : decode cX8_perform 85 = .ok (.getfield 25, 3) := by decide +kernel
theorem dX8_perform_88 : decode cX8_perform 88 = .ok (.aload_n 0, 1) := by decide +kernel
theorem dX8_perform_89 : decode cX8_perform 89 = .ok (.getfield 12, 3) := by decide +kernel
theorem dX8_perform_92 : decode cX8_perform 92 = .ok (.invokevirtual 67, 3) := by decide +kernel
theorem dX8_perform_95 : decode cX8_perform 95 = .ok (.aload_n 0, 1) := by decide +kernel
theorem dX8_perform_96 : decode cX8_perform 96 = .ok (.getfield 12, 3) := by decide +kernel
theorem dX8_perform_99 : decode cX8_perform 99 = .ok (.aload_n 0, 1) := by decide +kernel
theorem dX8_perform_100 : decode cX8_perform 100 = .ok (.getfield 16, 3) := by decide +kernel
theorem dX8_perform_103 : decode cX8_perform 103 = .ok (.invokevirtual 177, 3) := by decide +kernel
theorem dX8_perform_106 : decode cX8_perform 106 = .ok (.aload_n 0, 1) := by decide +kernel
theorem dX8_perform_107 : decode cX8_perform 107 = .ok (.getfield 39, 3) := by decide +kernel
theorem dX8_perform_110 : decode cX8_perform 110 = .ok (.getfield 303, 3) := by decide +kernel
theorem dX8_perform_113 : decode cX8_perform 113 = .ok (.ireturn, 1) := by decide +kernel
set_option maxRecDepth 20000 in
theorem ggX8_undo_X3_takeBack : GoodIn wsX8_undo wsX3_takeBack := goodIn_r _ [10, 11, 12, 13, 14, 15, 9, 16, 17, 18, 19, 20, 21, 22, 23, 24, 25, 26, 27, 28, 29, 30, 31, 32, 33, 34, 35, 36, 37, 38, 39, 40, 41, 42, 43, 44, 45, 46, 47, 48, 49, 50, 51, 52, 53, 54, 55, 56, 57, 58, 59, 60, 68, 69, 70, 71, 72, 73, 74, 75, 76, 77, 78, 79, 80, 81, 82, 83, 84, 85, 86] (by decide +kernel) (by decide +kernel)
set_option maxRecDepth 20000 in
theorem gX8_undo_X3_takeBack : GoodIn wsX8_undo (wsV RX8 316 RX3 yX3_takeBack wsX3_takeBack) := goodIn_app (goodIn_of _ (by decide +kernel)) ggX8_undo_X3_takeBack
theorem dX8_undo_0 : decode cX8_undo 0 = .ok (.aload_n 0, 1) := by decide +kernel
theorem dX8_undo_1 : decode cX8_undo 1 = .ok (.getfield 25, 3) := by decide +kernel
theorem dX8_undo_4 : decode cX8_undo 4 = .ok (.getfield 313, 3) := by decide +kernel
theorem dX8_undo_7 : decode cX8_undo 7 = .ok (.ifCond .gt 14, 3) := by decide +kernel
theorem dX8_undo_10 : decode cX8_undo 10 = .ok (.new 62, 3) := by decide +kernel
theorem dX8_undo_13 : decode cX8_undo 13 = .ok (.dup, 1) := by decide +kernel
theorem dX8_undo_14 : decode cX8_undo 14 = .ok (.ldc_w 314, 3) := by decide +kernel
theorem dX8_undo_17 : decode cX8_undo 17 = .ok (.invokespecial 66, 3) := by decide +kernel
theorem dX8_undo_20 : decode cX8_undo 20 = .ok (.athrow, 1) := by decide +kernel
theorem dX8_undo_21 : decode cX8_undo 21 = .ok (.aload_n 0, 1) := by decide +kernel
theorem dX8_undo_22 : decode cX8_undo 22 = .ok (.getfield 25, 3) := by decide +kernel
theorem dX8_undo_25 : decode cX8_undo 25 = .ok (.aload_n 0, 1) := by decide +kernel
theorem dX8_undo_26 : decode cX8_undo 26 = .ok (.getfield 12, 3) := by decide +kernel
theorem dX8_undo_29 : decode cX8_undo 29 = .ok (.invokevirtual 316, 3) := by decide +kernel
theorem dX8_undo_32 : decode cX8_undo 32 = .ok (.aload_n 0, 1) := by decide +kernel
theorem dX8_undo_33 : decode cX8_undo 33 = .ok (.getfield 25, 3) := by decide +kernel
theorem dX8_undo_36 : decode cX8_undo 36 = .ok (.getfield 313, 3) := by decide +kernel
theorem dX8_undo_39 : decode cX8_undo 39 = .ok (.ireturn, 1) := by decide +kernel
set_option maxRecDepth 20000 in
theorem ggX8_save_X4_copyFrom : GoodIn wsX8_save wsX4_copyFrom := goodIn_r _ [10, 11, 12, 13, 14, 15, 16, 17, 18, 19, 20, 21, 22, 23, 24, 25, 26, 27, 28, 29, 30, 31, 32, 33, 34, 35, 36, 37, 38, 39, 40, 41, 42, 43, 44, 45, 46, 47, 48, 56, 57, 58, 59, 60, 61, 62, 63, 64, 68, 69, 65, 66, 67, 70, 71] (by decide +kernel) (by decide +kernel)
set_option maxRecDepth 20000 in
theorem gX8_save_X4_copyFrom : GoodIn wsX8_save (wsV RX8 177 RX4 yX4_copyFrom wsX4_copyFrom) := goodIn_app (goodIn_of _ (by decide +kernel)) ggX8_save_X4_copyFrom
theorem dX8_save_0 : decode cX8_save 0 = .ok (.aload_n 0, 1) := by decide +kernel
theorem dX8_save_1 : decode cX8_save 1 = .ok (.getfield 19, 3) := by decide +kernel
theorem dX8_save_4 : decode cX8_save 4 = .ok (.aload_n 0, 1) := by decide +kernel
theorem dX8_save_5 : decode cX8_save 5 = .ok (.getfield 12, 3) := by decide +kernel
theorem dX8_save_8 : decode cX8_save 8 = .ok (.invokevirtual 177, 3) := by decide +kernel
theorem dX8_save_11 : decode cX8_save 11 = .ok (.aload_n 0, 1) := by decide +kernel
theorem dX8_save_12 : decode cX8_save 12 = .ok (.iconst 1, 1) := by decide +kernel
theorem dX8_save_13 : decode cX8_save 13 = .ok (.putfield 319, 3) := by decide +kernel
theorem dX8_save_16 : decode cX8_save 16 = .ok (.aload_n 0, 1) := by decide +kernel
theorem dX8_save_17 : decode cX8_save 17 = .ok (.getfield 12, 3) := by decide +kernel
theorem dX8_save_20 : decode cX8_save 20 = .ok (.getfield 196, 3) := by decide +kernel
theorem dX8_save_23 : decode cX8_save 23 = .ok (.getfield 323, 3) := by decide +kernel
theorem dX8_save_26 : decode cX8_save 26 = .ok (.ireturn, 1) := by decide +kernel
set_option maxRecDepth 20000 in
theorem ggX8_restore_X4_copyFrom : GoodIn wsX8_restore wsX4_copyFrom := goodIn_r _ [13, 14, 15, 16, 17, 18, 19, 20, 21, 22, 23, 24, 25, 26, 27, 28, 29, 30, 31, 32, 33, 34, 35, 36, 37, 38, 39, 40, 41, 42, 43, 44, 45, 46, 47, 48, 49, 50, 51, 65, 66, 67, 68, 69, 70, 71, 72, 73, 77, 78, 74, 75, 76, 79, 80] (by decide +kernel) (by decide +kernel)
set_option maxRecDepth 20000 in
theorem gX8_restore_X4_copyFrom : GoodIn wsX8_restore (wsV RX8 177 RX4 yX4_copyFrom wsX4_copyFrom) := goodIn_app (goodIn_of _ (by decide +kernel)) ggX8_restore_X4_copyFrom
set_option maxRecDepth 20000 in
theorem ggX8_restore_X3_forget : GoodIn wsX8_restore wsX3_forget := goodIn_r _ [56, 57, 81, 82, 83] (by decide +kernel) (by decide +kernel)
set_option maxRecDepth 20000 in
theorem gX8_restore_X3_forget : GoodIn wsX8_restore (wsV RX8 326 RX3 yX3_forget wsX3_forget) := goodIn_app (goodIn_of _ (by decide +kernel)) ggX8_restore_X3_forget
theorem dX8_restore_0 : decode cX8_restore 0 = .ok (.aload_n 0, 1) := by decide +kernel
theorem dX8_restore_1 : decode cX8_restore 1 = .ok (.getfield 319, 3) := by decide +kernel
theorem dX8_restore_4 : decode cX8_restore 4 = .ok (.ifCond .ne 14, 3) := by decide +kernel
theorem dX8_restore_7 : decode cX8_restore 7 = .ok (.new 62, 3) := by decide +kernel
theorem dX8_restore_10 : decode cX8_restore 10 = .ok (.dup, 1) := by decide +kernel
theorem dX8_restore_11 : decode cX8_restore 11 = .ok (.ldc_w 324, 3) := by decide +kernel
theorem dX8_restore_14 : decode cX8_restore 14 = .ok (.invokespecial 66, 3) := by decide +kernel
theorem dX8_restore_17 : decode cX8_restore 17 = .ok (.athrow, 1) := by decide +kernel
theorem dX8_restore_18 : decode cX8_restore 18 = .ok (.aload_n 0, 1) := by decide +kernel
theorem dX8_restore_19 : decode cX8_restore 19 = .ok (.getfield 12, 3) := by decide +kernel
theorem dX8_restore_22 : decode cX8_restore 22 = .ok (.aload_n 0, 1) := by decide +kernel
theorem dX8_restore_23 : decode cX8_restore 23 = .ok (.getfield 19, 3) := by decide +kernel
theorem dX8_restore_26 : decode cX8_restore 26 = .ok (.invokevirtual 177, 3) := by decide +kernel
theorem dX8_restore_29 : decode cX8_restore 29 = .ok (.aload_n 0, 1) := by decide +kernel
theorem dX8_restore_30 : decode cX8_restore 30 = .ok (.getfield 25, 3) := by decide +kernel
theorem dX8_restore_33 : decode cX8_restore 33 = .ok (.invokevirtual 326, 3) := by decide +kernel
theorem dX8_restore_36 : decode cX8_restore 36 = .ok (.aload_n 0, 1) := by decide +kernel
theorem dX8_restore_37 : decode cX8_restore 37 = .ok (.getfield 12, 3) := by decide +kernel
theorem dX8_restore_40 : decode cX8_restore 40 = .ok (.getfield 196, 3) := by decide +kernel
theorem dX8_restore_43 : decode cX8_restore 43 = .ok (.getfield 323, 3) := by decide +kernel
theorem dX8_restore_46 : decode cX8_restore 46 = .ok (.ireturn, 1) := by decide +kernel
theorem dX8_isWithin_0 : decode cX8_isWithin 0 = .ok (.iload_n 0, 1) := by decide +kernel
theorem dX8_isWithin_1 : decode cX8_isWithin 1 = .ok (.iload_n 1, 1) := by decide +kernel
theorem dX8_isWithin_2 : decode cX8_isWithin 2 = .ok (.if_icmp .lt 12, 3) := by decide +kernel
theorem dX8_isWithin_5 : decode cX8_isWithin 5 = .ok (.iload_n 0, 1) := by decide +kernel
theorem dX8_isWithin_6 : decode cX8_isWithin 6 = .ok (.iload_n 2, 1) := by decide +kernel
theorem dX8_isWithin_7 : decode cX8_isWithin 7 = .ok (.if_icmp .gt 7, 3) := by decide +kernel
theorem dX8_isWithin_10 : decode cX8_isWithin 10 = .ok (.iconst 1, 1) := by decide +kernel
theorem dX8_isWithin_11 : decode cX8_isWithin 11 = .ok (.goto 4, 3) := by decide +kernel
theorem dX8_isWithin_14 : decode cX8_isWithin 14 = .ok (.iconst 0, 1) := by decide +kernel
theorem dX8_isWithin_15 : decode cX8_isWithin 15 = .ok (.ireturn, 1) := by decide +kernel
set_option maxRecDepth 20000 in
theorem ggX8_isFitting_X8_isWithin : GoodIn wsX8_isFitting wsX8_isWithin := goodIn_r _ [4] (by decide +kernel) (by decide +kernel)
set_option maxRecDepth 20000 in
theorem gX8_isFitting_X8_isWithin : GoodIn wsX8_isFitting (va_wsS RX8 116 yX8_isWithin wsX8_isWithin) := goodIn_app (goodIn_of _ (by decide +kernel)) ggX8_isFitting_X8_isWithin
theorem dX8_isFitting_0 : decode cX8_isFitting 0 = .ok (.iload_n 0, 1) := by decide +kernel
theorem dX8_isFitting_1 : decode cX8_isFitting 1 = .ok (.ifCond .lt 19, 3) := by decide +kernel
theorem dX8_isFitting_4 : decode cX8_isFitting 4 = .ok (.iload_n 0, 1) := by decide +kernel
theorem dX8_isFitting_5 : decode cX8_isFitting 5 = .ok (.aload_n 2, 1) := by decide +kernel
theorem dX8_isFitting_6 : decode cX8_isFitting 6 = .ok (.arraylength, 1) := by decide +kernel
theorem dX8_isFitting_7 : decode cX8_isFitting 7 = .ok (.if_icmp .ge 13, 3) := by decide +kernel
theorem dX8_isFitting_10 : decode cX8_isFitting 10 = .ok (.iload_n 0, 1) := by decide +kernel
theorem dX8_isFitting_11 : decode cX8_isFitting 11 = .ok (.aload_n 3, 1) := by decide +kernel
theorem dX8_isFitting_12 : decode cX8_isFitting 12 = .ok (.arraylength, 1) := by decide +kernel
theorem dX8_isFitting_13 : decode cX8_isFitting 13 = .ok (.if_icmp .ge 7, 3) := by decide +kernel
theorem dX8_isFitting_16 : decode cX8_isFitting 16 = .ok (.iconst 1, 1) := by decide +kernel
theorem dX8_isFitting_17 : decode cX8_isFitting 17 = .ok (.goto 4, 3) := by decide +kernel
theorem dX8_isFitting_20 : decode cX8_isFitting 20 = .ok (.iconst 0, 1) := by decide +kernel
theorem dX8_isFitting_21 : decode cX8_isFitting 21 = .ok (.istore 4, 2) := by decide +kernel
theorem dX8_isFitting_23 : decode cX8_isFitting 23 = .ok (.iload 4, 2) := by decide +kernel
theorem dX8_isFitting_25 : decode cX8_isFitting 25 = .ok (.ifCond .eq 20, 3) := by decide +kernel
theorem dX8_isFitting_28 : decode cX8_isFitting 28 = .ok (.iload_n 1, 1) := by decide +kernel
theorem dX8_isFitting_29 : decode cX8_isFitting 29 = .ok (.aload_n 2, 1) := by decide +kernel
theorem dX8_isFitting_30 : decode cX8_isFitting 30 = .ok (.iload_n 0, 1) := by decide +kernel
theorem dX8_isFitting_31 : decode cX8_isFitting 31 = .ok (.iaload, 1) := by decide +kernel
theorem dX8_isFitting_32 : decode cX8_isFitting 32 = .ok (.aload_n 3, 1) := by decide +kernel
theorem dX8_isFitting_33 : decode cX8_isFitting 33 = .ok (.iload_n 0, 1) := by decide +kernel
theorem dX8_isFitting_34 : decode cX8_isFitting 34 = .ok (.iaload, 1) := by decide +kernel
theorem dX8_isFitting_35 : decode cX8_isFitting 35 = .ok (.invokestatic 116, 3) := by decide +kernel
theorem dX8_isFitting_38 : decode cX8_isFitting 38 = .ok (.ifCond .eq 7, 3) := by decide +kernel
theorem dX8_isFitting_41 : decode cX8_isFitting 41 = .ok (.iconst 1, 1) := by decide +kernel
theorem dX8_isFitting_42 : decode cX8_isFitting 42 = .ok (.goto 4, 3) := by decide +kernel
theorem dX8_isFitting_45 : decode cX8_isFitting 45 = .ok (.iconst 0, 1) := by decide +kernel
theorem dX8_isFitting_46 : decode cX8_isFitting 46 = .ok (.ireturn, 1) := by decide +kernel
set_option maxRecDepth 20000 in
theorem ggX8_isOfMachine_X8_isFitting : GoodIn wsX8_isOfMachine wsX8_isFitting := goodIn_ca (goodIn_r _ [6, 7, 8, 5, 9] (by decide +kernel) (by decide +kernel)) (goodIn_sub (fun _ h => List.mem_cons_of_mem _ (List.mem_append_right _ h)) (by decide +kernel))
set_option maxRecDepth 20000 in
theorem gX8_isOfMachine_X8_isFitting : GoodIn wsX8_isOfMachine (va_wsS RX8 141 yX8_isFitting wsX8_isFitting) := goodIn_app (goodIn_of _ (by decide +kernel)) ggX8_isOfMachine_X8_isFitting
theorem dX8_isOfMachine_0 : decode cX8_isOfMachine 0 = .ok (.iload_n 0, 1) := by decide +kernel
theorem dX8_isOfMachine_1 : decode cX8_isOfMachine 1 = .ok (.iload_n 1, 1) := by decide +kernel
theorem dX8_isOfMachine_2 : decode cX8_isOfMachine 2 = .ok (.getstatic 329, 3) := by decide +kernel
theorem dX8_isOfMachine_5 : decode cX8_isOfMachine 5 = .ok (.getstatic 332, 3) := by decide +kernel
theorem dX8_isOfMachine_8 : decode cX8_isOfMachine 8 = .ok (.invokestatic 141, 3) := by decide +kernel
theorem dX8_isOfMachine_11 : decode cX8_isOfMachine 11 = .ok (.ireturn, 1) := by decide +kernel
set_option maxRecDepth 20000 in
theorem ggX8_isMaterial_X8_isWithin : GoodIn wsX8_isMaterial wsX8_isWithin := goodIn_r _ [4] (by decide +kernel) (by decide +kernel)
set_option maxRecDepth 20000 in
theorem gX8_isMaterial_X8_isWithin : GoodIn wsX8_isMaterial (va_wsS RX8 116 yX8_isWithin wsX8_isWithin) := goodIn_app (goodIn_of _ (by decide +kernel)) ggX8_isMaterial_X8_isWithin
theorem dX8_isMaterial_0 : decode cX8_isMaterial 0 = .ok (.iload_n 0, 1) := by decide +kernel
theorem dX8_isMaterial_1 : decode cX8_isMaterial 1 = .ok (.iconst 0, 1) := by decide +kernel
theorem dX8_isMaterial_2 : decode cX8_isMaterial 2 = .ok (.iconst 4, 1) := by decide +kernel
theorem dX8_isMaterial_3 : decode cX8_isMaterial 3 = .ok (.invokestatic 116, 3) := by decide +kernel
theorem dX8_isMaterial_6 : decode cX8_isMaterial 6 = .ok (.ireturn, 1) := by decide +kernel
theorem dX8_perThousand_0 : decode cX8_perThousand 0 = .ok (.iload_n 1, 1) := by decide +kernel
theorem dX8_perThousand_1 : decode cX8_perThousand 1 = .ok (.ifCond .le 13, 3) := by decide +kernel
theorem dX8_perThousand_4 : decode cX8_perThousand 4 = .ok (.iload_n 0, 1) := by decide +kernel
theorem dX8_perThousand_5 : decode cX8_perThousand 5 = .ok (.sipush 1000, 3) := by decide +kernel
theorem dX8_perThousand_8 : decode cX8_perThousand 8 = .ok (.imul, 1) := by decide +kernel
theorem dX8_perThousand_9 : decode cX8_perThousand 9 = .ok (.iload_n 1, 1) := by decide +kernel
theorem dX8_perThousand_10 : decode cX8_perThousand 10 = .ok (.idiv, 1) := by decide +kernel
theorem dX8_perThousand_11 : decode cX8_perThousand 11 = .ok (.goto 4, 3) := by decide +kernel
theorem dX8_perThousand_14 : decode cX8_perThousand 14 = .ok (.iconst 0, 1) := by decide +kernel
theorem dX8_perThousand_15 : decode cX8_perThousand 15 = .ok (.ireturn, 1) := by decide +kernel
theorem dX8_gradeOf_0 : decode cX8_gradeOf 0 = .ok (.iload_n 0, 1) := by decide +kernel
theorem dX8_gradeOf_1 : decode cX8_gradeOf 1 = .ok (.sipush 950, 3) := by decide +kernel
theorem dX8_gradeOf_4 : decode cX8_gradeOf 4 = .ok (.if_icmp .lt 5, 3) := by decide +kernel
theorem dX8_gradeOf_7 : decode cX8_gradeOf 7 = .ok (.iconst 0, 1) := by decide +kernel
theorem dX8_gradeOf_8 : decode cX8_gradeOf 8 = .ok (.ireturn, 1) := by decide +kernel
theorem dX8_gradeOf_9 : decode cX8_gradeOf 9 = .ok (.iload_n 0, 1) := by decide +kernel
theorem dX8_gradeOf_10 : decode cX8_gradeOf 10 = .ok (.sipush 850, 3) := by decide +kernel
theorem dX8_gradeOf_13 : decode cX8_gradeOf 13 = .ok (.if_icmp .lt 5, 3) := by decide +kernel
theorem dX8_gradeOf_16 : decode cX8_gradeOf 16 = .ok (.iconst 1, 1) := by decide +kernel
theorem dX8_gradeOf_17 : decode cX8_gradeOf 17 = .ok (.ireturn, 1) := by decide +kernel
theorem dX8_gradeOf_18 : decode cX8_gradeOf 18 = .ok (.iload_n 0, 1) := by decide +kernel
theorem dX8_gradeOf_19 : decode cX8_gradeOf 19 = .ok (.sipush 700, 3) := by decide +kernel
theorem dX8_gradeOf_22 : decode cX8_gradeOf 22 = .ok (.if_icmp .lt 7, 3) := by decide +kernel
theorem dX8_gradeOf_25 : decode cX8_gradeOf 25 = .ok (.iconst 2, 1) := by decide +kernel
theorem dX8_gradeOf_26 : decode cX8_gradeOf 26 = .ok (.goto 4, 3) := by decide +kernel
theorem dX8_gradeOf_29 : decode cX8_gradeOf 29 = .ok (.iconst 3, 1) := by decide +kernel
theorem dX8_gradeOf_30 : decode cX8_gradeOf 30 = .ok (.ireturn, 1) := by decide +kernel
set_option maxRecDepth 20000 in
theorem ggX8_needMaterial_X8_isMaterial : GoodIn wsX8_needMaterial wsX8_isMaterial := goodIn_r _ [6, 7, 8, 5, 9] (by decide +kernel) (by decide +kernel)
set_option maxRecDepth 20000 in
theorem gX8_needMaterial_X8_isMaterial : GoodIn wsX8_needMaterial (va_wsS RX8 335 yX8_isMaterial wsX8_isMaterial) := goodIn_app (goodIn_of _ (by decide +kernel)) ggX8_needMaterial_X8_isMaterial
theorem dX8_needMaterial_0 : decode cX8_needMaterial 0 = .ok (.iload_n 0, 1) := by decide +kernel
theorem dX8_needMaterial_1 : decode cX8_needMaterial 1 = .ok (.invokestatic 335, 3) := by decide +kernel
theorem dX8_needMaterial_4 : decode cX8_needMaterial 4 = .ok (.ifCond .ne 14, 3) := by decide +kernel
theorem dX8_needMaterial_7 : decode cX8_needMaterial 7 = .ok (.new 129, 3) := by decide +kernel
theorem dX8_needMaterial_10 : decode cX8_needMaterial 10 = .ok (.dup, 1) := by decide +kernel
theorem dX8_needMaterial_11 : decode cX8_needMaterial 11 = .ok (.ldc_w 338, 3) := by decide +kernel
theorem dX8_needMaterial_14 : decode cX8_needMaterial 14 = .ok (.invokespecial 133, 3) := by decide +kernel
theorem dX8_needMaterial_17 : decode cX8_needMaterial 17 = .ok (.athrow, 1) := by decide +kernel
theorem dX8_needMaterial_18 : decode cX8_needMaterial 18 = .ok (.return_, 1) := by decide +kernel
theorem dX8_refuse_0 : decode cX8_refuse 0 = .ok (.aload_n 0, 1) := by decide +kernel
theorem dX8_refuse_1 : decode cX8_refuse 1 = .ok (.getstatic 340, 3) := by decide +kernel
theorem dX8_refuse_4 : decode cX8_refuse 4 = .ok (.if_acmp .ne 14, 3) := by decide +kernel
theorem dX8_refuse_7 : decode cX8_refuse 7 = .ok (.new 129, 3) := by decide +kernel
theorem dX8_refuse_10 : decode cX8_refuse 10 = .ok (.dup, 1) := by decide +kernel
theorem dX8_refuse_11 : decode cX8_refuse 11 = .ok (.ldc_w 338, 3) := by decide +kernel
theorem dX8_refuse_14 : decode cX8_refuse 14 = .ok (.invokespecial 133, 3) := by decide +kernel
theorem dX8_refuse_17 : decode cX8_refuse 17 = .ok (.athrow, 1) := by decide +kernel
theorem dX8_refuse_18 : decode cX8_refuse 18 = .ok (.aload_n 0, 1) := by decide +kernel
theorem dX8_refuse_19 : decode cX8_refuse 19 = .ok (.getstatic 346, 3) := by decide +kernel
theorem dX8_refuse_22 : decode cX8_refuse 22 = .ok (.if_acmp .ne 14, 3) := by decide +kernel
theorem dX8_refuse_25 : decode cX8_refuse 25 = .ok (.new 51, 3) := by decide +kernel
theorem dX8_refuse_28 : decode cX8_refuse 28 = .ok (.dup, 1) := by decide +kernel
theorem dX8_refuse_29 : decode cX8_refuse 29 = .ok (.ldc_w 349, 3) := by decide +kernel
theorem dX8_refuse_32 : decode cX8_refuse 32 = .ok (.invokespecial 55, 3) := by decide +kernel
theorem dX8_refuse_35 : decode cX8_refuse 35 = .ok (.athrow, 1) := by decide +kernel
theorem dX8_refuse_36 : decode cX8_refuse 36 = .ok (.aload_n 0, 1) := by decide +kernel
theorem dX8_refuse_37 : decode cX8_refuse 37 = .ok (.getstatic 351, 3) := by decide +kernel
theorem dX8_refuse_40 : decode cX8_refuse 40 = .ok (.if_acmp .ne 14, 3) := by decide +kernel
theorem dX8_refuse_43 : decode cX8_refuse 43 = .ok (.new 62, 3) := by decide +kernel
theorem dX8_refuse_46 : decode cX8_refuse 46 = .ok (.dup, 1) := by decide +kernel
theorem dX8_refuse_47 : decode cX8_refuse 47 = .ok (.ldc_w 354, 3) := by decide +kernel
theorem dX8_refuse_50 : decode cX8_refuse 50 = .ok (.invokespecial 66, 3) := by decide +kernel
theorem dX8_refuse_53 : decode cX8_refuse 53 = .ok (.athrow, 1) := by decide +kernel
theorem dX8_refuse_54 : decode cX8_refuse 54 = .ok (.return_, 1) := by decide +kernel
set_option maxRecDepth 20000 in
theorem ggX8_needMachine_X8_isWithin : GoodIn wsX8_needMachine wsX8_isWithin := goodIn_r _ [8] (by decide +kernel) (by decide +kernel)
set_option maxRecDepth 20000 in
theorem gX8_needMachine_X8_isWithin : GoodIn wsX8_needMachine (va_wsS RX8 116 yX8_isWithin wsX8_isWithin) := goodIn_app (goodIn_of _ (by decide +kernel)) ggX8_needMachine_X8_isWithin
theorem dX8_needMachine_0 : decode cX8_needMachine 0 = .ok (.iload_n 1, 1) := by decide +kernel
theorem dX8_needMachine_1 : decode cX8_needMachine 1 = .ok (.iconst 0, 1) := by decide +kernel
theorem dX8_needMachine_2 : decode cX8_needMachine 2 = .ok (.aload_n 0, 1) := by decide +kernel
theorem dX8_needMachine_3 : decode cX8_needMachine 3 = .ok (.getfield 12, 3) := by decide +kernel
theorem dX8_needMachine_6 : decode cX8_needMachine 6 = .ok (.getfield 58, 3) := by decide +kernel
theorem dX8_needMachine_9 : decode cX8_needMachine 9 = .ok (.iconst 1, 1) := by decide +kernel
theorem dX8_needMachine_10 : decode cX8_needMachine 10 = .ok (.isub, 1) := by decide +kernel
theorem dX8_needMachine_11 : decode cX8_needMachine 11 = .ok (.invokestatic 116, 3) := by decide +kernel
theorem dX8_needMachine_14 : decode cX8_needMachine 14 = .ok (.ifCond .ne 14, 3) := by decide +kernel
theorem dX8_needMachine_17 : decode cX8_needMachine 17 = .ok (.new 129, 3) := by decide +kernel
theorem dX8_needMachine_20 : decode cX8_needMachine 20 = .ok (.dup, 1) := by decide +kernel
theorem dX8_needMachine_21 : decode cX8_needMachine 21 = .ok (.ldc_w 356, 3) := by decide +kernel
theorem dX8_needMachine_24 : decode cX8_needMachine 24 = .ok (.invokespecial 133, 3) := by decide +kernel
theorem dX8_needMachine_27 : decode cX8_needMachine 27 = .ok (.athrow, 1) := by decide +kernel
theorem dX8_needMachine_28 : decode cX8_needMachine 28 = .ok (.return_, 1) := by decide +kernel
theorem dX8_needAnyMachine_0 : decode cX8_needAnyMachine 0 = .ok (.aload_n 0, 1) := by decide +kernel
theorem dX8_needAnyMachine_1 : decode cX8_needAnyMachine 1 = .ok (.getfield 12, 3) := by decide +kernel
theorem dX8_needAnyMachine_4 : decode cX8_needAnyMachine 4 = .ok (.getfield 58, 3) := by decide +kernel
theorem dX8_needAnyMachine_7 : decode cX8_needAnyMachine 7 = .ok (.ifCond .gt 13, 3) := by decide +kernel
theorem dX8_needAnyMachine_10 : decode cX8_needAnyMachine 10 = .ok (.new 62, 3) := by decide +kernel
theorem dX8_needAnyMachine_13 : decode cX8_needAnyMachine 13 = .ok (.dup, 1) := by decide +kernel
theorem dX8_needAnyMachine_14 : decode cX8_needAnyMachine 14 = .ok (.ldc 77, 2) := by decide +kernel
theorem dX8_needAnyMachine_16 : decode cX8_needAnyMachine 16 = .ok (.invokespecial 66, 3) := by decide +kernel
theorem dX8_needAnyMachine_19 : decode cX8_needAnyMachine 19 = .ok (.athrow, 1) := by decide +kernel
theorem dX8_needAnyMachine_20 : decode cX8_needAnyMachine 20 = .ok (.return_, 1) := by decide +kernel
set_option maxRecDepth 20000 in
theorem ggX8_needBale_X0_isThere : GoodIn wsX8_needBale wsX0_isThere := goodIn_r _ [9, 10, 11, 12, 13, 30, 31, 32] (by decide +kernel) (by decide +kernel)
set_option maxRecDepth 20000 in
theorem gX8_needBale_X0_isThere : GoodIn wsX8_needBale (wsV RX8 358 RX0 yX0_isThere wsX0_isThere) := goodIn_app (goodIn_of _ (by decide +kernel)) ggX8_needBale_X0_isThere
theorem dX8_needBale_0 : decode cX8_needBale 0 = .ok (.aload_n 0, 1) := by decide +kernel
theorem dX8_needBale_1 : decode cX8_needBale 1 = .ok (.getfield 12, 3) := by decide +kernel
theorem dX8_needBale_4 : decode cX8_needBale 4 = .ok (.getfield 196, 3) := by decide +kernel
theorem dX8_needBale_7 : decode cX8_needBale 7 = .ok (.iload_n 1, 1) := by decide +kernel
theorem dX8_needBale_8 : decode cX8_needBale 8 = .ok (.invokevirtual 358, 3) := by decide +kernel
theorem dX8_needBale_11 : decode cX8_needBale 11 = .ok (.ifCond .ne 14, 3) := by decide +kernel
theorem dX8_needBale_14 : decode cX8_needBale 14 = .ok (.new 129, 3) := by decide +kernel
theorem dX8_needBale_17 : decode cX8_needBale 17 = .ok (.dup, 1) := by decide +kernel
theorem dX8_needBale_18 : decode cX8_needBale 18 = .ok (.ldc_w 361, 3) := by decide +kernel
theorem dX8_needBale_21 : decode cX8_needBale 21 = .ok (.invokespecial 133, 3) := by decide +kernel
theorem dX8_needBale_24 : decode cX8_needBale 24 = .ok (.athrow, 1) := by decide +kernel
theorem dX8_needBale_25 : decode cX8_needBale 25 = .ok (.return_, 1) := by decide +kernel
set_option maxRecDepth 20000 in
theorem ggX8_rowOf_X8_isWithin : GoodIn wsX8_rowOf wsX8_isWithin := goodIn_r _ [6] (by decide +kernel) (by decide +kernel)
set_option maxRecDepth 20000 in
theorem gX8_rowOf_X8_isWithin : GoodIn wsX8_rowOf (va_wsS RX8 116 yX8_isWithin wsX8_isWithin) := goodIn_app (goodIn_of _ (by decide +kernel)) ggX8_rowOf_X8_isWithin
theorem dX8_rowOf_0 : decode cX8_rowOf 0 = .ok (.iload_n 1, 1) := by decide +kernel
theorem dX8_rowOf_1 : decode cX8_rowOf 1 = .ok (.bipush 10, 2) := by decide +kernel
theorem dX8_rowOf_3 : decode cX8_rowOf 3 = .ok (.if_icmp .ne 6, 3) := by decide +kernel
theorem dX8_rowOf_6 : decode cX8_rowOf 6 = .ok (.bipush 6, 2) := by decide +kernel
theorem dX8_rowOf_8 : decode cX8_rowOf 8 = .ok (.ireturn, 1) := by decide +kernel
theorem dX8_rowOf_9 : decode cX8_rowOf 9 = .ok (.iload_n 1, 1) := by decide +kernel
theorem dX8_rowOf_10 : decode cX8_rowOf 10 = .ok (.bipush 11, 2) := by decide +kernel
theorem dX8_rowOf_12 : decode cX8_rowOf 12 = .ok (.if_icmp .ne 6, 3) := by decide +kernel
theorem dX8_rowOf_15 : decode cX8_rowOf 15 = .ok (.bipush 7, 2) := by decide +kernel
theorem dX8_rowOf_17 : decode cX8_rowOf 17 = .ok (.ireturn, 1) := by decide +kernel
theorem dX8_rowOf_18 : decode cX8_rowOf 18 = .ok (.iload_n 1, 1) := by decide +kernel
theorem dX8_rowOf_19 : decode cX8_rowOf 19 = .ok (.iconst 0, 1) := by decide +kernel
theorem dX8_rowOf_20 : decode cX8_rowOf 20 = .ok (.aload_n 0, 1) := by decide +kernel
theorem dX8_rowOf_21 : decode cX8_rowOf 21 = .ok (.getfield 12, 3) := by decide +kernel
theorem dX8_rowOf_24 : decode cX8_rowOf 24 = .ok (.getfield 58, 3) := by decide +kernel
theorem dX8_rowOf_27 : decode cX8_rowOf 27 = .ok (.iconst 1, 1) := by decide +kernel
theorem dX8_rowOf_28 : decode cX8_rowOf 28 = .ok (.isub, 1) := by decide +kernel
theorem dX8_rowOf_29 : decode cX8_rowOf 29 = .ok (.invokestatic 116, 3) := by decide +kernel
theorem dX8_rowOf_32 : decode cX8_rowOf 32 = .ok (.ifCond .eq 7, 3) := by decide +kernel
theorem dX8_rowOf_35 : decode cX8_rowOf 35 = .ok (.iload_n 1, 1) := by decide +kernel
theorem dX8_rowOf_36 : decode cX8_rowOf 36 = .ok (.goto 4, 3) := by decide +kernel
theorem dX8_rowOf_39 : decode cX8_rowOf 39 = .ok (.iconst (-1), 1) := by decide +kernel
theorem dX8_rowOf_40 : decode cX8_rowOf 40 = .ok (.ireturn, 1) := by decide +kernel
set_option maxRecDepth 20000 in
theorem ggX8_reportsRefusal_X4_refusalOf : GoodIn wsX8_reportsRefusal wsX4_refusalOf := goodIn_ca (goodIn_r _ [7, 8, 9, 10, 11, 12, 13, 14, 15, 16, 17, 18, 19, 20, 21, 22, 23, 24, 25, 26, 27, 28, 29, 30, 31, 32, 33, 34, 35, 36, 37, 38, 39, 40, 41, 42, 43, 6, 44, 45, 46, 47, 48, 49, 50, 51, 52, 88, 89, 90, 91, 92, 93, 94, 95, 96, 97, 98, 99, 100, 101, 102, 103] (by decide +kernel) (by decide +kernel)) (goodIn_sub (fun _ h => List.mem_cons_of_mem _ (List.mem_append_right _ h)) (by decide +kernel))
set_option maxRecDepth 20000 in
theorem gX8_reportsRefusal_X4_refusalOf : GoodIn wsX8_reportsRefusal (wsV RX8 363 RX4 yX4_refusalOf wsX4_refusalOf) := goodIn_app (goodIn_of _ (by decide +kernel)) ggX8_reportsRefusal_X4_refusalOf
set_option maxRecDepth 20000 in
theorem ggX8_reportsRefusal_X0_materialOf : GoodIn wsX8_reportsRefusal wsX0_materialOf := goodIn_ca (goodIn_r _ [15, 16, 17, 18, 19, 20, 21, 22, 23, 97, 98, 99, 100, 101] (by decide +kernel) (by decide +kernel)) (goodIn_sub (fun _ h => List.mem_cons_of_mem _ (List.mem_append_right _ h)) (by decide +kernel))
set_option maxRecDepth 20000 in
theorem gX8_reportsRefusal_X0_materialOf : GoodIn wsX8_reportsRefusal (wsV RX8 366 RX0 yX0_materialOf wsX0_materialOf) := goodIn_app (goodIn_of _ (by decide +kernel)) ggX8_reportsRefusal_X0_materialOf
set_option maxRecDepth 20000 in
theorem ggX8_reportsRefusal_X4_detailOf : GoodIn wsX8_reportsRefusal wsX4_detailOf := goodIn_ca (goodIn_r _ [57, 9, 10, 8, 11, 12, 13, 14, 15, 16, 17, 18, 19, 20, 21, 22, 23, 40, 24, 25, 26, 27, 28, 29, 30, 31, 32, 33, 34, 35, 58, 59, 60, 61, 62, 63, 64, 65, 88, 89, 90, 91, 92, 93, 94, 95, 96, 97, 98, 99, 100, 101, 102, 103] (by decide +kernel) (by decide +kernel)) (goodIn_sub (fun _ h => List.mem_cons_of_mem _ (List.mem_append_right _ h)) (by decide +kernel))
set_option maxRecDepth 20000 in
theorem gX8_reportsRefusal_X4_detailOf : GoodIn wsX8_reportsRefusal (wsV RX8 369 RX4 yX4_detailOf wsX4_detailOf) := goodIn_app (goodIn_of _ (by decide +kernel)) ggX8_reportsRefusal_X4_detailOf
set_option maxRecDepth 20000 in
theorem ggX8_reportsRefusal_X5_replace : GoodIn wsX8_reportsRefusal wsX5_replace := goodIn_ca (goodIn_r _ [70, 71, 72, 73, 74, 69, 75, 76, 77, 78, 79, 20, 80, 22, 23, 104, 105, 100, 101] (by decide +kernel) (by decide +kernel)) (goodIn_sub (fun _ h => List.mem_cons_of_mem _ (List.mem_append_right _ h)) (by decide +kernel))
set_option maxRecDepth 20000 in
theorem gX8_reportsRefusal_X5_replace : GoodIn wsX8_reportsRefusal (wsV RX8 372 RX5 yX5_replace wsX5_replace) := goodIn_app (goodIn_of _ (by decide +kernel)) ggX8_reportsRefusal_X5_replace
theorem dX8_reportsRefusal_0 : decode cX8_reportsRefusal 0 = .ok (.aload_n 1, 1) := by decide +kernel
theorem dX8_reportsRefusal_1 : decode cX8_reportsRefusal 1 = .ok (.iload_n 3, 1) := by decide +kernel
theorem dX8_reportsRefusal_2 : decode cX8_reportsRefusal 2 = .ok (.invokevirtual 363, 3) := by decide +kernel
theorem dX8_reportsRefusal_5 : decode cX8_reportsRefusal 5 = .ok (.istore 4, 2) := by decide +kernel
theorem dX8_reportsRefusal_7 : decode cX8_reportsRefusal 7 = .ok (.iload 4, 2) := by decide +kernel
theorem dX8_reportsRefusal_9 : decode cX8_reportsRefusal 9 = .ok (.ifCond .ne 5, 3) := by decide +kernel
theorem dX8_reportsRefusal_12 : decode cX8_reportsRefusal 12 = .ok (.iconst 0, 1) := by decide +kernel
theorem dX8_reportsRefusal_13 : decode cX8_reportsRefusal 13 = .ok (.ireturn, 1) := by decide +kernel
theorem dX8_reportsRefusal_14 : decode cX8_reportsRefusal 14 = .ok (.aload_n 0, 1) := by decide +kernel
theorem dX8_reportsRefusal_15 : decode cX8_reportsRefusal 15 = .ok (.getfield 32, 3) := by decide +kernel
theorem dX8_reportsRefusal_18 : decode cX8_reportsRefusal 18 = .ok (.iload_n 2, 1) := by decide +kernel
theorem dX8_reportsRefusal_19 : decode cX8_reportsRefusal 19 = .ok (.iload_n 3, 1) := by decide +kernel
theorem dX8_reportsRefusal_20 : decode cX8_reportsRefusal 20 = .ok (.aload_n 1, 1) := by decide +kernel
theorem dX8_reportsRefusal_21 : decode cX8_reportsRefusal 21 = .ok (.getfield 196, 3) := by decide +kernel
theorem dX8_reportsRefusal_24 : decode cX8_reportsRefusal 24 = .ok (.iload_n 3, 1) := by decide +kernel
theorem dX8_reportsRefusal_25 : decode cX8_reportsRefusal 25 = .ok (.invokevirtual 366, 3) := by decide +kernel
theorem dX8_reportsRefusal_28 : decode cX8_reportsRefusal 28 = .ok (.iload 4, 2) := by decide +kernel
theorem dX8_reportsRefusal_30 : decode cX8_reportsRefusal 30 = .ok (.aload_n 1, 1) := by decide +kernel
theorem dX8_reportsRefusal_31 : decode cX8_reportsRefusal 31 = .ok (.iload_n 3, 1) := by decide +kernel
theorem dX8_reportsRefusal_32 : decode cX8_reportsRefusal 32 = .ok (.iload 4, 2) := by decide +kernel
theorem dX8_reportsRefusal_34 : decode cX8_reportsRefusal 34 = .ok (.invokevirtual 369, 3) := by decide +kernel
theorem dX8_reportsRefusal_37 : decode cX8_reportsRefusal 37 = .ok (.invokevirtual 372, 3) := by decide +kernel
theorem dX8_reportsRefusal_40 : decode cX8_reportsRefusal 40 = .ok (.iconst 1, 1) := by decide +kernel
theorem dX8_reportsRefusal_41 : decode cX8_reportsRefusal 41 = .ok (.ireturn, 1) := by decide +kernel
set_option maxRecDepth 20000 in
theorem ggX8_isRefused_X7_number : GoodIn wsX8_isRefused wsX7_number := goodIn_ca (goodIn_r _ [10, 11, 12, 13, 14, 15, 16, 17, 18, 150, 151, 152, 153, 154, 155, 156] (by decide +kernel) (by decide +kernel)) (goodIn_sub (fun _ h => List.mem_cons_of_mem _ (List.mem_append_right _ h)) (by decide +kernel))
set_option maxRecDepth 20000 in
theorem gX8_isRefused_X7_number : GoodIn wsX8_isRefused (wsV RX8 376 RX7 yX7_number wsX7_number) := goodIn_app (goodIn_of _ (by decide +kernel)) ggX8_isRefused_X7_number
set_option maxRecDepth 20000 in
theorem ggX8_isRefused_X4_faultOfFeed : GoodIn wsX8_isRefused wsX4_faultOfFeed := goodIn_ca (goodIn_r _ [23, 24, 25, 26, 27, 28, 29, 30, 31, 32, 33, 34, 35, 36, 37, 15, 38, 17, 39, 13, 14, 16, 18, 141, 142, 143, 144, 145, 146, 147, 148, 149, 155, 156] (by decide +kernel) (by decide +kernel)) (goodIn_sub (fun _ h => List.mem_cons_of_mem _ (List.mem_append_right _ h)) (by decide +kernel))
set_option maxRecDepth 20000 in
theorem gX8_isRefused_X4_faultOfFeed : GoodIn wsX8_isRefused (wsV RX8 156 RX4 yX4_faultOfFeed wsX4_faultOfFeed) := goodIn_app (goodIn_of _ (by decide +kernel)) ggX8_isRefused_X4_faultOfFeed
set_option maxRecDepth 20000 in
theorem ggX8_isRefused_X4_faultOfPasses : GoodIn wsX8_isRefused wsX4_faultOfPasses := goodIn_r _ [43, 25, 44, 27, 28, 33, 30, 34, 141, 142, 143, 144, 145, 146, 147, 148, 149] (by decide +kernel) (by decide +kernel)
set_option maxRecDepth 20000 in
theorem gX8_isRefused_X4_faultOfPasses : GoodIn wsX8_isRefused (wsV RX8 167 RX4 yX4_faultOfPasses wsX4_faultOfPasses) := goodIn_app (goodIn_of _ (by decide +kernel)) ggX8_isRefused_X4_faultOfPasses
set_option maxRecDepth 20000 in
theorem ggX8_isRefused_X1_faultOfNew : GoodIn wsX8_isRefused wsX1_faultOfNew := goodIn_r _ [49, 50, 51, 52, 53, 54, 29, 30, 31, 32, 33, 34, 157, 158] (by decide +kernel) (by decide +kernel)
set_option maxRecDepth 20000 in
theorem gX8_isRefused_X1_faultOfNew : GoodIn wsX8_isRefused (wsV RX8 222 RX1 yX1_faultOfNew wsX1_faultOfNew) := goodIn_app (goodIn_of _ (by decide +kernel)) ggX8_isRefused_X1_faultOfNew
set_option maxRecDepth 20000 in
theorem ggX8_isRefused_X0_isThere : GoodIn wsX8_isRefused wsX0_isThere := goodIn_r _ [59, 60, 33, 30, 34, 159, 160, 161] (by decide +kernel) (by decide +kernel)
set_option maxRecDepth 20000 in
theorem gX8_isRefused_X0_isThere : GoodIn wsX8_isRefused (wsV RX8 358 RX0 yX0_isThere wsX0_isThere) := goodIn_app (goodIn_of _ (by decide +kernel)) ggX8_isRefused_X0_isThere
set_option maxRecDepth 20000 in
theorem ggX8_isRefused_X8_reportsRefusal : GoodIn wsX8_isRefused wsX8_reportsRefusal := goodIn_ca (goodIn_r _ [64, 65, 5, 66, 67, 68, 22, 69, 70, 71, 72, 73, 74, 75, 58, 76, 77, 78, 13, 14, 15, 16, 17, 18, 79, 80, 81, 48, 82, 52, 83, 84, 85, 86, 87, 88, 89, 90, 91, 92, 93, 94, 95, 96, 97, 98, 99, 100, 101, 102, 103, 104, 105, 106, 107, 108, 109, 110, 111, 112, 113, 114, 115, 116, 117, 118, 119, 120, 121, 122, 123, 124, 125, 126, 127, 128, 129, 130, 131, 132, 133, 134, 135, 136, 137, 138, 139, 140, 141, 142, 143, 144, 145, 146, 147, 148, 149, 159, 160, 161, 155, 156, 157, 158, 162, 163] (by decide +kernel) (by decide +kernel)) (goodIn_sub (fun _ h => List.mem_cons_of_mem _ (List.mem_append_right _ h)) (by decide +kernel))
set_option maxRecDepth 20000 in
theorem gX8_isRefused_X8_reportsRefusal : GoodIn wsX8_isRefused (wsV RX8 240 RX8 yX8_reportsRefusal wsX8_reportsRefusal) := goodIn_app (goodIn_of _ (by decide +kernel)) ggX8_isRefused_X8_reportsRefusal
theorem dX8_isRefused_0 : decode cX8_isRefused 0 = .ok (.aload_n 0, 1) := by decide +kernel
theorem dX8_isRefused_1 : decode cX8_isRefused 1 = .ok (.getfield 39, 3) := by decide +kernel
theorem dX8_isRefused_4 : decode cX8_isRefused 4 = .ok (.iload_n 1, 1) := by decide +kernel
theorem dX8_isRefused_5 : decode cX8_isRefused 5 = .ok (.iconst 1, 1) := by decide +kernel
theorem dX8_isRefused_6 : decode cX8_isRefused 6 = .ok (.invokevirtual 376, 3) := by decide +kernel
theorem dX8_isRefused_9 : decode cX8_isRefused 9 = .ok (.istore_n 2, 1) := by decide +kernel
theorem dX8_isRefused_10 : decode cX8_isRefused 10 = .ok (.aload_n 0, 1) := by decide +kernel
theorem dX8_isRefused_11 : decode cX8_isRefused 11 = .ok (.getfield 39, 3) := by decide +kernel
theorem dX8_isRefused_14 : decode cX8_isRefused 14 = .ok (.iload_n 1, 1) := by decide +kernel
theorem dX8_isRefused_15 : decode cX8_isRefused 15 = .ok (.iconst 2, 1) := by decide +kernel
theorem dX8_isRefused_16 : decode cX8_isRefused 16 = .ok (.invokevirtual 376, 3) := by decide +kernel
theorem dX8_isRefused_19 : decode cX8_isRefused 19 = .ok (.istore_n 3, 1) := by decide +kernel
theorem dX8_isRefused_20 : decode cX8_isRefused 20 = .ok (.aload_n 0, 1) := by decide +kernel
theorem dX8_isRefused_21 : decode cX8_isRefused 21 = .ok (.getfield 39, 3) := by decide +kernel
theorem dX8_isRefused_24 : decode cX8_isRefused 24 = .ok (.iload_n 1, 1) := by decide +kernel
theorem dX8_isRefused_25 : decode cX8_isRefused 25 = .ok (.iconst 0, 1) := by decide +kernel
theorem dX8_isRefused_26 : decode cX8_isRefused 26 = .ok (.invokevirtual 376, 3) := by decide +kernel
theorem dX8_isRefused_29 : decode cX8_isRefused 29 = .ok (.lookupswitch 126 #[(99, 76), (102, 35), (114, 56)], 35) := by decide +kernel
theorem dX8_isRefused_64 : decode cX8_isRefused 64 = .ok (.aload_n 0, 1) := by decide +kernel
theorem dX8_isRefused_65 : decode cX8_isRefused 65 = .ok (.getfield 16, 3) := by decide +kernel
theorem dX8_isRefused_68 : decode cX8_isRefused 68 = .ok (.iload_n 2, 1) := by decide +kernel
theorem dX8_isRefused_69 : decode cX8_isRefused 69 = .ok (.iload_n 3, 1) := by decide +kernel
theorem dX8_isRefused_70 : decode cX8_isRefused 70 = .ok (.invokevirtual 156, 3) := by decide +kernel
theorem dX8_isRefused_73 : decode cX8_isRefused 73 = .ok (.getstatic 379, 3) := by decide +kernel
theorem dX8_isRefused_76 : decode cX8_isRefused 76 = .ok (.if_acmp .eq 7, 3) := by decide +kernel
theorem dX8_isRefused_79 : decode cX8_isRefused 79 = .ok (.iconst 1, 1) := by decide +kernel
theorem dX8_isRefused_80 : decode cX8_isRefused 80 = .ok (.goto 4, 3) := by decide +kernel
theorem dX8_isRefused_83 : decode cX8_isRefused 83 = .ok (.iconst 0, 1) := by decide +kernel
theorem dX8_isRefused_84 : decode cX8_isRefused 84 = .ok (.ireturn, 1) := by decide +kernel
theorem dX8_isRefused_85 : decode cX8_isRefused 85 = .ok (.aload_n 0, 1) := by decide +kernel
theorem dX8_isRefused_86 : decode cX8_isRefused 86 = .ok (.getfield 16, 3) := by decide +kernel
theorem dX8_isRefused_89 : decode cX8_isRefused 89 = .ok (.iload_n 2, 1) := by decide +kernel
theorem dX8_isRefused_90 : decode cX8_isRefused 90 = .ok (.invokevirtual 167, 3) := by decide +kernel
theorem dX8_isRefused_93 : decode cX8_isRefused 93 = .ok (.getstatic 379, 3) := by decide +kernel
theorem dX8_isRefused_96 : decode cX8_isRefused 96 = .ok (.if_acmp .eq 7, 3) := by decide +kernel
theorem dX8_isRefused_99 : decode cX8_isRefused 99 = .ok (.iconst 1, 1) := by decide +kernel
theorem dX8_isRefused_100 : decode cX8_isRefused 100 = .ok (.goto 4, 3) := by decide +kernel
theorem dX8_isRefused_103 : decode cX8_isRefused 103 = .ok (.iconst 0, 1) := by decide +kernel
theorem dX8_isRefused_104 : decode cX8_isRefused 104 = .ok (.ireturn, 1) := by decide +kernel
theorem dX8_isRefused_105 : decode cX8_isRefused 105 = .ok (.aload_n 0, 1) := by decide +kernel
theorem dX8_isRefused_106 : decode cX8_isRefused 106 = .ok (.getfield 39, 3) := by decide +kernel
theorem dX8_isRefused_109 : decode cX8_isRefused 109 = .ok (.iload_n 1, 1) := by decide +kernel
theorem dX8_isRefused_110 : decode cX8_isRefused 110 = .ok (.iconst 3, 1) := by decide +kernel
theorem dX8_isRefused_111 : decode cX8_isRefused 111 = .ok (.invokevirtual 376, 3) := by decide +kernel
theorem dX8_isRefused_114 : decode cX8_isRefused 114 = .ok (.istore 4, 2) := by decide +kernel
theorem dX8_isRefused_116 : decode cX8_isRefused 116 = .ok (.aload_n 0, 1) := by decide +kernel
theorem dX8_isRefused_117 : decode cX8_isRefused 117 = .ok (.getfield 39, 3) := by decide +kernel
theorem dX8_isRefused_120 : decode cX8_isRefused 120 = .ok (.iload_n 1, 1) := by decide +kernel
theorem dX8_isRefused_121 : decode cX8_isRefused 121 = .ok (.iconst 4, 1) := by decide +kernel
theorem dX8_isRefused_122 : decode cX8_isRefused 122 = .ok (.invokevirtual 376, 3) := by decide +kernel
theorem dX8_isRefused_125 : decode cX8_isRefused 125 = .ok (.istore 5, 2) := by decide +kernel
theorem dX8_isRefused_127 : decode cX8_isRefused 127 = .ok (.aload_n 0, 1) := by decide +kernel
theorem dX8_isRefused_128 : decode cX8_isRefused 128 = .ok (.getfield 16, 3) := by decide +kernel
theorem dX8_isRefused_131 : decode cX8_isRefused 131 = .ok (.getfield 218, 3) := by decide +kernel
theorem dX8_isRefused_134 : decode cX8_isRefused 134 = .ok (.iload_n 2, 1) := by decide +kernel
theorem dX8_isRefused_135 : decode cX8_isRefused 135 = .ok (.iload_n 3, 1) := by decide +kernel
theorem dX8_isRefused_136 : decode cX8_isRefused 136 = .ok (.iload 4, 2) := by decide +kernel
theorem dX8_isRefused_138 : decode cX8_isRefused 138 = .ok (.iload 5, 2) := by decide +kernel
theorem dX8_isRefused_140 : decode cX8_isRefused 140 = .ok (.invokevirtual 222, 3) := by decide +kernel
theorem dX8_isRefused_143 : decode cX8_isRefused 143 = .ok (.getstatic 379, 3) := by decide +kernel
theorem dX8_isRefused_146 : decode cX8_isRefused 146 = .ok (.if_acmp .eq 7, 3) := by decide +kernel
theorem dX8_isRefused_149 : decode cX8_isRefused 149 = .ok (.iconst 1, 1) := by decide +kernel
theorem dX8_isRefused_150 : decode cX8_isRefused 150 = .ok (.goto 4, 3) := by decide +kernel
theorem dX8_isRefused_153 : decode cX8_isRefused 153 = .ok (.iconst 0, 1) := by decide +kernel
theorem dX8_isRefused_154 : decode cX8_isRefused 154 = .ok (.ireturn, 1) := by decide +kernel
theorem dX8_isRefused_155 : decode cX8_isRefused 155 = .ok (.aload_n 0, 1) := by decide +kernel
theorem dX8_isRefused_156 : decode cX8_isRefused 156 = .ok (.getfield 16, 3) := by decide +kernel
theorem dX8_isRefused_159 : decode cX8_isRefused 159 = .ok (.getfield 196, 3) := by decide +kernel
theorem dX8_isRefused_162 : decode cX8_isRefused 162 = .ok (.iload_n 2, 1) := by decide +kernel
theorem dX8_isRefused_163 : decode cX8_isRefused 163 = .ok (.invokevirtual 358, 3) := by decide +kernel
theorem dX8_isRefused_166 : decode cX8_isRefused 166 = .ok (.ifCond .eq 16, 3) := by decide +kernel
theorem dX8_isRefused_169 : decode cX8_isRefused 169 = .ok (.aload_n 0, 1) := by decide +kernel
theorem dX8_isRefused_170 : decode cX8_isRefused 170 = .ok (.aload_n 0, 1) := by decide +kernel
theorem dX8_isRefused_171 : decode cX8_isRefused 171 = .ok (.getfield 16, 3) := by decide +kernel
theorem dX8_isRefused_174 : decode cX8_isRefused 174 = .ok (.iload_n 1, 1) := by decide +kernel
theorem dX8_isRefused_175 : decode cX8_isRefused 175 = .ok (.iload_n 2, 1) := by decide +kernel
theorem dX8_isRefused_176 : decode cX8_isRefused 176 = .ok (.invokevirtual 240, 3) := by decide +kernel
theorem dX8_isRefused_179 : decode cX8_isRefused 179 = .ok (.ifCond .eq 7, 3) := by decide +kernel
theorem dX8_isRefused_182 : decode cX8_isRefused 182 = .ok (.iconst 1, 1) := by decide +kernel
theorem dX8_isRefused_183 : decode cX8_isRefused 183 = .ok (.goto 4, 3) := by decide +kernel
theorem dX8_isRefused_186 : decode cX8_isRefused 186 = .ok (.iconst 0, 1) := by decide +kernel
theorem dX8_isRefused_187 : decode cX8_isRefused 187 = .ok (.ireturn, 1) := by decide +kernel
set_option maxRecDepth 20000 in
theorem ggX8_carryOut_X7_number : GoodIn wsX8_carryOut wsX7_number := goodIn_ca (goodIn_r _ [8, 9, 10, 11, 12, 13, 14, 15, 16, 169, 170, 171, 172, 173, 174, 175] (by decide +kernel) (by decide +kernel)) (goodIn_sub (fun _ h => List.mem_cons_of_mem _ (List.mem_append_left _ (List.mem_append_right _ h))) (by decide +kernel))
set_option maxRecDepth 20000 in
theorem gX8_carryOut_X7_number : GoodIn wsX8_carryOut (wsV RX8 376 RX7 yX7_number wsX7_number) := goodIn_app (goodIn_of _ (by decide +kernel)) ggX8_carryOut_X7_number
set_option maxRecDepth 20000 in
theorem ggX8_carryOut_X4_fill : GoodIn wsX8_carryOut wsX4_fill := goodIn_ca (goodIn_r _ [21, 22, 23, 24, 25, 13, 26, 27, 11, 12, 14, 15, 16, 28, 29, 30, 31, 32, 160, 161, 162, 163, 164, 165, 166, 167, 168, 174, 175] (by decide +kernel) (by decide +kernel)) (goodIn_sub (fun _ h => List.mem_cons_of_mem _ (List.mem_append_left _ (List.mem_append_right _ h))) (by decide +kernel))
set_option maxRecDepth 20000 in
theorem gX8_carryOut_X4_fill : GoodIn wsX8_carryOut (wsV RX8 164 RX4 yX4_fill wsX4_fill) := goodIn_app (goodIn_of _ (by decide +kernel)) ggX8_carryOut_X4_fill
set_option maxRecDepth 20000 in
theorem ggX8_carryOut_X4_makePasses : GoodIn wsX8_carryOut wsX4_makePasses := goodIn_ca (goodIn_ca (goodIn_r _ [36, 22, 37, 38, 39, 40, 13, 41, 15, 27, 11, 12, 14, 16, 42, 43, 44, 20, 45, 46, 47, 48, 49, 50, 51, 52, 53, 54, 55, 56, 57, 32, 58, 59, 60, 61, 62, 63, 29, 30, 31, 64, 65, 66, 67, 23, 24, 25, 26, 28, 68, 69, 70, 71, 72, 73, 74, 75, 76, 77, 78, 79, 80, 81, 82, 83, 84, 85, 86, 87, 88, 89, 90, 91, 92, 93, 94, 95, 96, 97, 98, 99, 100, 101, 102, 103, 104, 105, 106, 160, 161, 162, 163, 164, 165, 166, 167, 168, 174, 175, 176, 177, 178] (by decide +kernel) (by decide +kernel)) (goodIn_sub (fun _ h => List.mem_cons_of_mem _ (List.mem_append_left _ (List.mem_append_right _ h))) (by decide +kernel))) (goodIn_sub (fun _ h => List.mem_cons_of_mem _ (List.mem_append_right _ h)) (by decide +kernel))
set_option maxRecDepth 20000 in
theorem gX8_carryOut_X4_makePasses : GoodIn wsX8_carryOut (wsV RX8 171 RX4 yX4_makePasses wsX4_makePasses) := goodIn_app (goodIn_of _ (by decide +kernel)) ggX8_carryOut_X4_makePasses
set_option maxRecDepth 20000 in
theorem ggX8_carryOut_X1_add : GoodIn wsX8_carryOut wsX1_add := goodIn_ca (goodIn_r _ [111, 112, 113, 114, 29, 30, 13, 31, 15, 16, 179, 180, 174, 175] (by decide +kernel) (by decide +kernel)) (goodIn_sub (fun _ h => List.mem_cons_of_mem _ (List.mem_append_left _ (List.mem_append_right _ h))) (by decide +kernel))
set_option maxRecDepth 20000 in
theorem gX8_carryOut_X1_add : GoodIn wsX8_carryOut (wsV RX8 228 RX1 yX1_add wsX1_add) := goodIn_app (goodIn_of _ (by decide +kernel)) ggX8_carryOut_X1_add
set_option maxRecDepth 20000 in
theorem ggX8_carryOut_X4_handOver : GoodIn wsX8_carryOut wsX4_handOver := goodIn_ca (goodIn_r _ [118, 119, 46, 93, 120, 121, 122, 20, 123, 124, 125, 126, 127, 128, 129, 130, 11, 12, 13, 14, 15, 16, 32, 131, 132, 133, 134, 135, 136, 137, 110, 138, 112, 113, 139, 140, 141, 142, 143, 144, 145, 146, 147, 148, 149, 150, 151, 152, 24, 25, 26, 27, 28, 29, 30, 31, 63, 160, 161, 162, 163, 164, 165, 166, 167, 168, 176, 177, 178, 174, 175, 179, 180] (by decide +kernel) (by decide +kernel)) (goodIn_sub (fun _ h => List.mem_cons_of_mem _ (List.mem_append_left _ (List.mem_append_right _ h))) (by decide +kernel))
set_option maxRecDepth 20000 in
theorem gX8_carryOut_X4_handOver : GoodIn wsX8_carryOut (wsV RX8 249 RX4 yX4_handOver wsX4_handOver) := goodIn_app (goodIn_of _ (by decide +kernel)) ggX8_carryOut_X4_handOver
theorem dX8_carryOut_0 : decode cX8_carryOut 0 = .ok (.aload_n 0, 1) := by decide +kernel
theorem dX8_carryOut_1 : decode cX8_carryOut 1 = .ok (.getfield 39, 3) := by decide +kernel
theorem dX8_carryOut_4 : decode cX8_carryOut 4 = .ok (.iload_n 1, 1) := by decide +kernel
theorem dX8_carryOut_5 : decode cX8_carryOut 5 = .ok (.iconst 1, 1) := by decide +kernel
theorem dX8_carryOut_6 : decode cX8_carryOut 6 = .ok (.invokevirtual 376, 3) := by decide +kernel
theorem dX8_carryOut_9 : decode cX8_carryOut 9 = .ok (.istore_n 2, 1) := by decide +kernel
theorem dX8_carryOut_10 : decode cX8_carryOut 10 = .ok (.aload_n 0, 1) := by decide +kernel
theorem dX8_carryOut_11 : decode cX8_carryOut 11 = .ok (.getfield 39, 3) := by decide +kernel
theorem dX8_carryOut_14 : decode cX8_carryOut 14 = .ok (.iload_n 1, 1) := by decide +kernel
theorem dX8_carryOut_15 : decode cX8_carryOut 15 = .ok (.iconst 2, 1) := by decide +kernel
theorem dX8_carryOut_16 : decode cX8_carryOut 16 = .ok (.invokevirtual 376, 3) := by decide +kernel
theorem dX8_carryOut_19 : decode cX8_carryOut 19 = .ok (.istore_n 3, 1) := by decide +kernel
theorem dX8_carryOut_20 : decode cX8_carryOut 20 = .ok (.aload_n 0, 1) := by decide +kernel
theorem dX8_carryOut_21 : decode cX8_carryOut 21 = .ok (.getfield 39, 3) := by decide +kernel
theorem dX8_carryOut_24 : decode cX8_carryOut 24 = .ok (.iload_n 1, 1) := by decide +kernel
theorem dX8_carryOut_25 : decode cX8_carryOut 25 = .ok (.iconst 0, 1) := by decide +kernel
theorem dX8_carryOut_26 : decode cX8_carryOut 26 = .ok (.invokevirtual 376, 3) := by decide +kernel
theorem dX8_carryOut_29 : decode cX8_carryOut 29 = .ok (.lookupswitch 94 #[(99, 60), (102, 35), (114, 48)], 35) := by decide +kernel
theorem dX8_carryOut_64 : decode cX8_carryOut 64 = .ok (.aload_n 0, 1) := by decide +kernel
theorem dX8_carryOut_65 : decode cX8_carryOut 65 = .ok (.getfield 16, 3) := by decide +kernel
theorem dX8_carryOut_68 : decode cX8_carryOut 68 = .ok (.iload_n 2, 1) := by decide +kernel
theorem dX8_carryOut_69 : decode cX8_carryOut 69 = .ok (.iload_n 3, 1) := by decide +kernel
theorem dX8_carryOut_70 : decode cX8_carryOut 70 = .ok (.invokevirtual 164, 3) := by decide +kernel
theorem dX8_carryOut_73 : decode cX8_carryOut 73 = .ok (.pop, 1) := by decide +kernel
theorem dX8_carryOut_74 : decode cX8_carryOut 74 = .ok (.goto 58, 3) := by decide +kernel
theorem dX8_carryOut_77 : decode cX8_carryOut 77 = .ok (.aload_n 0, 1) := by decide +kernel
theorem dX8_carryOut_78 : decode cX8_carryOut 78 = .ok (.getfield 16, 3) := by decide +kernel
theorem dX8_carryOut_81 : decode cX8_carryOut 81 = .ok (.iload_n 2, 1) := by decide +kernel
theorem dX8_carryOut_82 : decode cX8_carryOut 82 = .ok (.invokevirtual 171, 3) := by decide +kernel
theorem dX8_carryOut_85 : decode cX8_carryOut 85 = .ok (.pop, 1) := by decide +kernel
theorem dX8_carryOut_86 : decode cX8_carryOut 86 = .ok (.goto 46, 3) := by decide +kernel
theorem dX8_carryOut_89 : decode cX8_carryOut 89 = .ok (.aload_n 0, 1) := by decide +kernel
theorem dX8_carryOut_90 : decode cX8_carryOut 90 = .ok (.getfield 16, 3) := by decide +kernel
