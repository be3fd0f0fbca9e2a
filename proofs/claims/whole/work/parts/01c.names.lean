set_option maxRecDepth 20000 in
theorem ggX0_init_X6_init : GoodIn wsX0_init wsX6_init := goodIn_r _ [11, 12, 2, 3, 13, 14, 15, 16, 17, 18, 19, 20, 21] (by decide +kernel) (by decide +kernel)
set_option maxRecDepth 20000 in
theorem gX0_init_X6_init : GoodIn wsX0_init (wsX6_init) := ggX0_init_X6_init
theorem dX0_init_0 : decode cX0_init 0 = .ok (.aload_n 0, 1) := by decide +kernel
theorem dX0_init_1 : decode cX0_init 1 = .ok (.invokespecial 3, 3) := by decide +kernel
theorem dX0_init_4 : decode cX0_init 4 = .ok (.aload_n 0, 1) := by decide +kernel
theorem dX0_init_5 : decode cX0_init 5 = .ok (.new 9, 3) := by decide +kernel
theorem dX0_init_8 : decode cX0_init 8 = .ok (.dup, 1) := by decide +kernel
theorem dX0_init_9 : decode cX0_init 9 = .ok (.bipush 60, 2) := by decide +kernel
theorem dX0_init_11 : decode cX0_init 11 = .ok (.bipush 12, 2) := by decide +kernel
theorem dX0_init_13 : decode cX0_init 13 = .ok (.invokespecial 11, 3) := by decide +kernel
theorem dX0_init_16 : decode cX0_init 16 = .ok (.putfield 14, 3) := by decide +kernel
theorem dX0_init_19 : decode cX0_init 19 = .ok (.aload_n 0, 1) := by decide +kernel
theorem dX0_init_20 : decode cX0_init 20 = .ok (.new 9, 3) := by decide +kernel
theorem dX0_init_23 : decode cX0_init 23 = .ok (.dup, 1) := by decide +kernel
theorem dX0_init_24 : decode cX0_init 24 = .ok (.iconst 1, 1) := by decide +kernel
theorem dX0_init_25 : decode cX0_init 25 = .ok (.bipush 60, 2) := by decide +kernel
theorem dX0_init_27 : decode cX0_init 27 = .ok (.invokespecial 11, 3) := by decide +kernel
theorem dX0_init_30 : decode cX0_init 30 = .ok (.putfield 20, 3) := by decide +kernel
theorem dX0_init_33 : decode cX0_init 33 = .ok (.return_, 1) := by decide +kernel
set_option maxRecDepth 20000 in
theorem ggX0_copyFrom_X6_copyFrom : GoodIn wsX0_copyFrom wsX6_copyFrom := goodIn_r _ [7, 8, 9, 10, 11, 12, 13, 14, 15, 16, 20, 21] (by decide +kernel) (by decide +kernel)
set_option maxRecDepth 20000 in
theorem gX0_copyFrom_X6_copyFrom : GoodIn wsX0_copyFrom (wsV RX0 23 RX6 yX6_copyFrom wsX6_copyFrom) := goodIn_app (goodIn_of _ (by decide +kernel)) ggX0_copyFrom_X6_copyFrom
theorem dX0_copyFrom_0 : decode cX0_copyFrom 0 = .ok (.aload_n 0, 1) := by decide +kernel
theorem dX0_copyFrom_1 : decode cX0_copyFrom 1 = .ok (.getfield 14, 3) := by decide +kernel
theorem dX0_copyFrom_4 : decode cX0_copyFrom 4 = .ok (.aload_n 1, 1) := by decide +kernel
theorem dX0_copyFrom_5 : decode cX0_copyFrom 5 = .ok (.getfield 14, 3) := by decide +kernel
theorem dX0_copyFrom_8 : decode cX0_copyFrom 8 = .ok (.invokevirtual 23, 3) := by decide +kernel
theorem dX0_copyFrom_11 : decode cX0_copyFrom 11 = .ok (.aload_n 0, 1) := by decide +kernel
theorem dX0_copyFrom_12 : decode cX0_copyFrom 12 = .ok (.aload_n 1, 1) := by decide +kernel
theorem dX0_copyFrom_13 : decode cX0_copyFrom 13 = .ok (.getfield 27, 3) := by decide +kernel
theorem dX0_copyFrom_16 : decode cX0_copyFrom 16 = .ok (.putfield 27, 3) := by decide +kernel
theorem dX0_copyFrom_19 : decode cX0_copyFrom 19 = .ok (.return_, 1) := by decide +kernel
set_option maxRecDepth 20000 in
theorem ggX0_isThere_X8_isWithin : GoodIn wsX0_isThere wsX8_isWithin := goodIn_r _ [4] (by decide +kernel) (by decide +kernel)
set_option maxRecDepth 20000 in
theorem gX0_isThere_X8_isWithin_n31 : GoodIn wsX0_isThere (wsX8_isWithin) := ggX0_isThere_X8_isWithin
theorem dX0_isThere_0 : decode cX0_isThere 0 = .ok (.iload_n 1, 1) := by decide +kernel
theorem dX0_isThere_1 : decode cX0_isThere 1 = .ok (.iconst 0, 1) := by decide +kernel
theorem dX0_isThere_2 : decode cX0_isThere 2 = .ok (.aload_n 0, 1) := by decide +kernel
theorem dX0_isThere_3 : decode cX0_isThere 3 = .ok (.getfield 27, 3) := by decide +kernel
theorem dX0_isThere_6 : decode cX0_isThere 6 = .ok (.iconst 1, 1) := by decide +kernel
theorem dX0_isThere_7 : decode cX0_isThere 7 = .ok (.isub, 1) := by decide +kernel
theorem dX0_isThere_8 : decode cX0_isThere 8 = .ok (.invokestatic 31, 3) := by decide +kernel
theorem dX0_isThere_11 : decode cX0_isThere 11 = .ok (.ireturn, 1) := by decide +kernel
set_option maxRecDepth 20000 in
theorem ggX0_materialOf_X6_get : GoodIn wsX0_materialOf wsX6_get := goodIn_ca (goodIn_r _ [6, 7, 8, 12, 13] (by decide +kernel) (by decide +kernel)) (goodIn_sub (fun _ h => List.mem_cons_of_mem _ (List.mem_append_right _ h)) (by decide +kernel))
set_option maxRecDepth 20000 in
theorem gX0_materialOf_X6_get : GoodIn wsX0_materialOf (wsV RX0 35 RX6 yX6_get wsX6_get) := goodIn_app (goodIn_of _ (by decide +kernel)) ggX0_materialOf_X6_get
theorem dX0_materialOf_0 : decode cX0_materialOf 0 = .ok (.aload_n 0, 1) := by decide +kernel
theorem dX0_materialOf_1 : decode cX0_materialOf 1 = .ok (.getfield 14, 3) := by decide +kernel
theorem dX0_materialOf_4 : decode cX0_materialOf 4 = .ok (.iload_n 1, 1) := by decide +kernel
theorem dX0_materialOf_5 : decode cX0_materialOf 5 = .ok (.iconst 5, 1) := by decide +kernel
theorem dX0_materialOf_6 : decode cX0_materialOf 6 = .ok (.invokevirtual 35, 3) := by decide +kernel
theorem dX0_materialOf_9 : decode cX0_materialOf 9 = .ok (.ireturn, 1) := by decide +kernel
set_option maxRecDepth 20000 in
theorem ggX0_isInStock_X6_get : GoodIn wsX0_isInStock wsX6_get := goodIn_ca (goodIn_r _ [6, 7, 8, 12, 13] (by decide +kernel) (by decide +kernel)) (goodIn_sub (fun _ h => List.mem_cons_of_mem _ (List.mem_append_right _ h)) (by decide +kernel))
set_option maxRecDepth 20000 in
theorem gX0_isInStock_X6_get : GoodIn wsX0_isInStock (wsV RX0 35 RX6 yX6_get wsX6_get) := goodIn_app (goodIn_of _ (by decide +kernel)) ggX0_isInStock_X6_get
theorem dX0_isInStock_0 : decode cX0_isInStock 0 = .ok (.aload_n 0, 1) := by decide +kernel
theorem dX0_isInStock_1 : decode cX0_isInStock 1 = .ok (.getfield 14, 3) := by decide +kernel
theorem dX0_isInStock_4 : decode cX0_isInStock 4 = .ok (.iload_n 1, 1) := by decide +kernel
theorem dX0_isInStock_5 : decode cX0_isInStock 5 = .ok (.bipush 10, 2) := by decide +kernel
theorem dX0_isInStock_7 : decode cX0_isInStock 7 = .ok (.invokevirtual 35, 3) := by decide +kernel
theorem dX0_isInStock_10 : decode cX0_isInStock 10 = .ok (.ifCond .ne 7, 3) := by decide +kernel
theorem dX0_isInStock_13 : decode cX0_isInStock 13 = .ok (.iconst 1, 1) := by decide +kernel
theorem dX0_isInStock_14 : decode cX0_isInStock 14 = .ok (.goto 4, 3) := by decide +kernel
theorem dX0_isInStock_17 : decode cX0_isInStock 17 = .ok (.iconst 0, 1) := by decide +kernel
theorem dX0_isInStock_18 : decode cX0_isInStock 18 = .ok (.ireturn, 1) := by decide +kernel
set_option maxRecDepth 20000 in
theorem ggX0_kilosIn_X6_get : GoodIn wsX0_kilosIn wsX6_get := goodIn_ca (goodIn_r _ [7, 8, 9, 13, 14] (by decide +kernel) (by decide +kernel)) (goodIn_sub (fun _ h => List.mem_cons_of_mem _ (List.mem_append_right _ h)) (by decide +kernel))
set_option maxRecDepth 20000 in
theorem gX0_kilosIn_X6_get : GoodIn wsX0_kilosIn (wsV RX0 35 RX6 yX6_get wsX6_get) := goodIn_app (goodIn_of _ (by decide +kernel)) ggX0_kilosIn_X6_get
theorem dX0_kilosIn_0 : decode cX0_kilosIn 0 = .ok (.iconst 0, 1) := by decide +kernel
theorem dX0_kilosIn_1 : decode cX0_kilosIn 1 = .ok (.istore_n 2, 1) := by decide +kernel
theorem dX0_kilosIn_2 : decode cX0_kilosIn 2 = .ok (.iconst 0, 1) := by decide +kernel
theorem dX0_kilosIn_3 : decode cX0_kilosIn 3 = .ok (.istore_n 3, 1) := by decide +kernel
theorem dX0_kilosIn_4 : decode cX0_kilosIn 4 = .ok (.iload_n 3, 1) := by decide +kernel
theorem dX0_kilosIn_5 : decode cX0_kilosIn 5 = .ok (.aload_n 0, 1) := by decide +kernel
theorem dX0_kilosIn_6 : decode cX0_kilosIn 6 = .ok (.getfield 27, 3) := by decide +kernel
theorem dX0_kilosIn_9 : decode cX0_kilosIn 9 = .ok (.if_icmp .ge 40, 3) := by decide +kernel
theorem dX0_kilosIn_12 : decode cX0_kilosIn 12 = .ok (.iload_n 2, 1) := by decide +kernel
theorem dX0_kilosIn_13 : decode cX0_kilosIn 13 = .ok (.aload_n 0, 1) := by decide +kernel
theorem dX0_kilosIn_14 : decode cX0_kilosIn 14 = .ok (.getfield 14, 3) := by decide +kernel
theorem dX0_kilosIn_17 : decode cX0_kilosIn 17 = .ok (.iload_n 3, 1) := by decide +kernel
theorem dX0_kilosIn_18 : decode cX0_kilosIn 18 = .ok (.bipush 10, 2) := by decide +kernel
theorem dX0_kilosIn_20 : decode cX0_kilosIn 20 = .ok (.invokevirtual 35, 3) := by decide +kernel
theorem dX0_kilosIn_23 : decode cX0_kilosIn 23 = .ok (.iload_n 1, 1) := by decide +kernel
theorem dX0_kilosIn_24 : decode cX0_kilosIn 24 = .ok (.if_icmp .ne 16, 3) := by decide +kernel
theorem dX0_kilosIn_27 : decode cX0_kilosIn 27 = .ok (.aload_n 0, 1) := by decide +kernel
theorem dX0_kilosIn_28 : decode cX0_kilosIn 28 = .ok (.getfield 14, 3) := by decide +kernel
theorem dX0_kilosIn_31 : decode cX0_kilosIn 31 = .ok (.iload_n 3, 1) := by decide +kernel
theorem dX0_kilosIn_32 : decode cX0_kilosIn 32 = .ok (.bipush 6, 2) := by decide +kernel
theorem dX0_kilosIn_34 : decode cX0_kilosIn 34 = .ok (.invokevirtual 35, 3) := by decide +kernel
theorem dX0_kilosIn_37 : decode cX0_kilosIn 37 = .ok (.goto 4, 3) := by decide +kernel
theorem dX0_kilosIn_40 : decode cX0_kilosIn 40 = .ok (.iconst 0, 1) := by decide +kernel
theorem dX0_kilosIn_41 : decode cX0_kilosIn 41 = .ok (.iadd, 1) := by decide +kernel
theorem dX0_kilosIn_42 : decode cX0_kilosIn 42 = .ok (.istore_n 2, 1) := by decide +kernel
theorem dX0_kilosIn_43 : decode cX0_kilosIn 43 = .ok (.iinc 3 1, 3) := by decide +kernel
theorem dX0_kilosIn_46 : decode cX0_kilosIn 46 = .ok (.goto (-42), 3) := by decide +kernel
theorem dX0_kilosIn_49 : decode cX0_kilosIn 49 = .ok (.iload_n 2, 1) := by decide +kernel
theorem dX0_kilosIn_50 : decode cX0_kilosIn 50 = .ok (.ireturn, 1) := by decide +kernel
set_option maxRecDepth 20000 in
theorem ggX0_stockOf_X0_isInStock : GoodIn wsX0_stockOf wsX0_isInStock := goodIn_ca (goodIn_r _ [7, 2, 8, 9, 10, 11, 12, 13, 14, 19, 20, 21, 22, 23] (by decide +kernel) (by decide +kernel)) (goodIn_sub (fun _ h => List.mem_cons_of_mem _ (List.mem_append_right _ h)) (by decide +kernel))
set_option maxRecDepth 20000 in
theorem gX0_stockOf_X0_isInStock : GoodIn wsX0_stockOf (wsV RX0 39 RX0 yX0_isInStock wsX0_isInStock) := goodIn_app (goodIn_of _ (by decide +kernel)) ggX0_stockOf_X0_isInStock
set_option maxRecDepth 20000 in
theorem ggX0_stockOf_X0_materialOf : GoodIn wsX0_stockOf wsX0_materialOf := goodIn_ca (goodIn_r _ [18, 2, 8, 9, 10, 11, 12, 13, 14, 19, 20, 21, 22, 23] (by decide +kernel) (by decide +kernel)) (goodIn_sub (fun _ h => List.mem_cons_of_mem _ (List.mem_append_right _ h)) (by decide +kernel))
set_option maxRecDepth 20000 in
theorem gX0_stockOf_X0_materialOf : GoodIn wsX0_stockOf (wsV RX0 43 RX0 yX0_materialOf wsX0_materialOf) := goodIn_app (goodIn_of _ (by decide +kernel)) ggX0_stockOf_X0_materialOf
set_option maxRecDepth 20000 in
theorem ggX0_stockOf_X6_get : GoodIn wsX0_stockOf wsX6_get := goodIn_ca (goodIn_r _ [12, 13, 14, 22, 23] (by decide +kernel) (by decide +kernel)) (goodIn_sub (fun _ h => List.mem_cons_of_mem _ (List.mem_append_right _ h)) (by decide +kernel))
set_option maxRecDepth 20000 in
theorem gX0_stockOf_X6_get : GoodIn wsX0_stockOf (wsV RX0 35 RX6 yX6_get wsX6_get) := goodIn_app (goodIn_of _ (by decide +kernel)) ggX0_stockOf_X6_get
theorem dX0_stockOf_0 : decode cX0_stockOf 0 = .ok (.iconst 0, 1) := by decide +kernel
theorem dX0_stockOf_1 : decode cX0_stockOf 1 = .ok (.istore_n 3, 1) := by decide +kernel
theorem dX0_stockOf_2 : decode cX0_stockOf 2 = .ok (.iconst 0, 1) := by decide +kernel
theorem dX0_stockOf_3 : decode cX0_stockOf 3 = .ok (.istore 4, 2) := by decide +kernel
theorem dX0_stockOf_5 : decode cX0_stockOf 5 = .ok (.iload 4, 2) := by decide +kernel
theorem dX0_stockOf_7 : decode cX0_stockOf 7 = .ok (.aload_n 0, 1) := by decide +kernel
theorem dX0_stockOf_8 : decode cX0_stockOf 8 = .ok (.getfield 27, 3) := by decide +kernel
theorem dX0_stockOf_11 : decode cX0_stockOf 11 = .ok (.if_icmp .ge 73, 3) := by decide +kernel
theorem dX0_stockOf_14 : decode cX0_stockOf 14 = .ok (.aload_n 0, 1) := by decide +kernel
theorem dX0_stockOf_15 : decode cX0_stockOf 15 = .ok (.iload 4, 2) := by decide +kernel
theorem dX0_stockOf_17 : decode cX0_stockOf 17 = .ok (.invokevirtual 39, 3) := by decide +kernel
theorem dX0_stockOf_20 : decode cX0_stockOf 20 = .ok (.ifCond .eq 32, 3) := by decide +kernel
theorem dX0_stockOf_23 : decode cX0_stockOf 23 = .ok (.aload_n 0, 1) := by decide +kernel
theorem dX0_stockOf_24 : decode cX0_stockOf 24 = .ok (.iload 4, 2) := by decide +kernel
theorem dX0_stockOf_26 : decode cX0_stockOf 26 = .ok (.invokevirtual 43, 3) := by decide +kernel
theorem dX0_stockOf_29 : decode cX0_stockOf 29 = .ok (.iload_n 1, 1) := by decide +kernel
theorem dX0_stockOf_30 : decode cX0_stockOf 30 = .ok (.if_icmp .ne 22, 3) := by decide +kernel
theorem dX0_stockOf_33 : decode cX0_stockOf 33 = .ok (.aload_n 0, 1) := by decide +kernel
theorem dX0_stockOf_34 : decode cX0_stockOf 34 = .ok (.getfield 14, 3) := by decide +kernel
theorem dX0_stockOf_37 : decode cX0_stockOf 37 = .ok (.iload 4, 2) := by decide +kernel
theorem dX0_stockOf_39 : decode cX0_stockOf 39 = .ok (.bipush 9, 2) := by decide +kernel
theorem dX0_stockOf_41 : decode cX0_stockOf 41 = .ok (.invokevirtual 35, 3) := by decide +kernel
theorem dX0_stockOf_44 : decode cX0_stockOf 44 = .ok (.iload_n 2, 1) := by decide +kernel
theorem dX0_stockOf_45 : decode cX0_stockOf 45 = .ok (.if_icmp .gt 7, 3) := by decide +kernel
theorem dX0_stockOf_48 : decode cX0_stockOf 48 = .ok (.iconst 1, 1) := by decide +kernel
theorem dX0_stockOf_49 : decode cX0_stockOf 49 = .ok (.goto 4, 3) := by decide +kernel
theorem dX0_stockOf_52 : decode cX0_stockOf 52 = .ok (.iconst 0, 1) := by decide +kernel
theorem dX0_stockOf_53 : decode cX0_stockOf 53 = .ok (.istore 5, 2) := by decide +kernel
theorem dX0_stockOf_55 : decode cX0_stockOf 55 = .ok (.iload_n 3, 1) := by decide +kernel
theorem dX0_stockOf_56 : decode cX0_stockOf 56 = .ok (.iload 5, 2) := by decide +kernel
theorem dX0_stockOf_58 : decode cX0_stockOf 58 = .ok (.ifCond .eq 17, 3) := by decide +kernel
theorem dX0_stockOf_61 : decode cX0_stockOf 61 = .ok (.aload_n 0, 1) := by decide +kernel
theorem dX0_stockOf_62 : decode cX0_stockOf 62 = .ok (.getfield 14, 3) := by decide +kernel
theorem dX0_stockOf_65 : decode cX0_stockOf 65 = .ok (.iload 4, 2) := by decide +kernel
theorem dX0_stockOf_67 : decode cX0_stockOf 67 = .ok (.bipush 6, 2) := by decide +kernel
theorem dX0_stockOf_69 : decode cX0_stockOf 69 = .ok (.invokevirtual 35, 3) := by decide +kernel
theorem dX0_stockOf_72 : decode cX0_stockOf 72 = .ok (.goto 4, 3) := by decide +kernel
theorem dX0_stockOf_75 : decode cX0_stockOf 75 = .ok (.iconst 0, 1) := by decide +kernel
theorem dX0_stockOf_76 : decode cX0_stockOf 76 = .ok (.iadd, 1) := by decide +kernel
theorem dX0_stockOf_77 : decode cX0_stockOf 77 = .ok (.istore_n 3, 1) := by decide +kernel
theorem dX0_stockOf_78 : decode cX0_stockOf 78 = .ok (.iinc 4 1, 3) := by decide +kernel
theorem dX0_stockOf_81 : decode cX0_stockOf 81 = .ok (.goto (-76), 3) := by decide +kernel
theorem dX0_stockOf_84 : decode cX0_stockOf 84 = .ok (.iload_n 3, 1) := by decide +kernel
theorem dX0_stockOf_85 : decode cX0_stockOf 85 = .ok (.ireturn, 1) := by decide +kernel
set_option maxRecDepth 20000 in
theorem ggX0_unloopedKilos_X6_get : GoodIn wsX0_unloopedKilos wsX6_get := goodIn_ca (goodIn_r _ [7, 8, 9, 18, 19] (by decide +kernel) (by decide +kernel)) (goodIn_sub (fun _ h => List.mem_cons_of_mem _ (List.mem_append_right _ h)) (by decide +kernel))
set_option maxRecDepth 20000 in
theorem gX0_unloopedKilos_X6_get : GoodIn wsX0_unloopedKilos (wsV RX0 35 RX6 yX6_get wsX6_get) := goodIn_app (goodIn_of _ (by decide +kernel)) ggX0_unloopedKilos_X6_get
set_option maxRecDepth 20000 in
theorem ggX0_unloopedKilos_X0_materialOf : GoodIn wsX0_unloopedKilos wsX0_materialOf := goodIn_ca (goodIn_r _ [14, 2, 3, 4, 5, 6, 7, 8, 9, 15, 16, 17, 18, 19] (by decide +kernel) (by decide +kernel)) (goodIn_sub (fun _ h => List.mem_cons_of_mem _ (List.mem_append_right _ h)) (by decide +kernel))
set_option maxRecDepth 20000 in
theorem gX0_unloopedKilos_X0_materialOf : GoodIn wsX0_unloopedKilos (wsV RX0 43 RX0 yX0_materialOf wsX0_materialOf) := goodIn_app (goodIn_of _ (by decide +kernel)) ggX0_unloopedKilos_X0_materialOf
theorem dX0_unloopedKilos_0 : decode cX0_unloopedKilos 0 = .ok (.iconst 0, 1) := by decide +kernel
theorem dX0_unloopedKilos_1 : decode cX0_unloopedKilos 1 = .ok (.istore_n 2, 1) := by decide +kernel
theorem dX0_unloopedKilos_2 : decode cX0_unloopedKilos 2 = .ok (.iconst 0, 1) := by decide +kernel
theorem dX0_unloopedKilos_3 : decode cX0_unloopedKilos 3 = .ok (.istore_n 3, 1) := by decide +kernel
theorem dX0_unloopedKilos_4 : decode cX0_unloopedKilos 4 = .ok (.iload_n 3, 1) := by decide +kernel
theorem dX0_unloopedKilos_5 : decode cX0_unloopedKilos 5 = .ok (.aload_n 0, 1) := by decide +kernel
theorem dX0_unloopedKilos_6 : decode cX0_unloopedKilos 6 = .ok (.getfield 27, 3) := by decide +kernel
theorem dX0_unloopedKilos_9 : decode cX0_unloopedKilos 9 = .ok (.if_icmp .ge 48, 3) := by decide +kernel
theorem dX0_unloopedKilos_12 : decode cX0_unloopedKilos 12 = .ok (.aload_n 0, 1) := by decide +kernel
theorem dX0_unloopedKilos_13 : decode cX0_unloopedKilos 13 = .ok (.getfield 14, 3) := by decide +kernel
theorem dX0_unloopedKilos_16 : decode cX0_unloopedKilos 16 = .ok (.iload_n 3, 1) := by decide +kernel
theorem dX0_unloopedKilos_17 : decode cX0_unloopedKilos 17 = .ok (.bipush 10, 2) := by decide +kernel
theorem dX0_unloopedKilos_19 : decode cX0_unloopedKilos 19 = .ok (.invokevirtual 35, 3) := by decide +kernel
theorem dX0_unloopedKilos_22 : decode cX0_unloopedKilos 22 = .ok (.iconst 2, 1) := by decide +kernel
theorem dX0_unloopedKilos_23 : decode cX0_unloopedKilos 23 = .ok (.if_icmp .eq 28, 3) := by decide +kernel
theorem dX0_unloopedKilos_26 : decode cX0_unloopedKilos 26 = .ok (.iload_n 2, 1) := by decide +kernel
theorem dX0_unloopedKilos_27 : decode cX0_unloopedKilos 27 = .ok (.aload_n 0, 1) := by decide +kernel
theorem dX0_unloopedKilos_28 : decode cX0_unloopedKilos 28 = .ok (.getfield 14, 3) := by decide +kernel
theorem dX0_unloopedKilos_31 : decode cX0_unloopedKilos 31 = .ok (.iload_n 3, 1) := by decide +kernel
theorem dX0_unloopedKilos_32 : decode cX0_unloopedKilos 32 = .ok (.iload_n 1, 1) := by decide +kernel
theorem dX0_unloopedKilos_33 : decode cX0_unloopedKilos 33 = .ok (.ifCond .eq 11, 3) := by decide +kernel
theorem dX0_unloopedKilos_36 : decode cX0_unloopedKilos 36 = .ok (.aload_n 0, 1) := by decide +kernel
theorem dX0_unloopedKilos_37 : decode cX0_unloopedKilos 37 = .ok (.iload_n 3, 1) := by decide +kernel
theorem dX0_unloopedKilos_38 : decode cX0_unloopedKilos 38 = .ok (.invokevirtual 43, 3) := by decide +kernel
theorem dX0_unloopedKilos_41 : decode cX0_unloopedKilos 41 = .ok (.goto 5, 3) := by decide +kernel
theorem dX0_unloopedKilos_44 : decode cX0_unloopedKilos 44 = .ok (.bipush 6, 2) := by decide +kernel
theorem dX0_unloopedKilos_46 : decode cX0_unloopedKilos 46 = .ok (.invokevirtual 35, 3) := by decide +kernel
theorem dX0_unloopedKilos_49 : decode cX0_unloopedKilos 49 = .ok (.iadd, 1) := by decide +kernel
theorem dX0_unloopedKilos_50 : decode cX0_unloopedKilos 50 = .ok (.istore_n 2, 1) := by decide +kernel
theorem dX0_unloopedKilos_51 : decode cX0_unloopedKilos 51 = .ok (.iinc 3 1, 3) := by decide +kernel
theorem dX0_unloopedKilos_54 : decode cX0_unloopedKilos 54 = .ok (.goto (-50), 3) := by decide +kernel
theorem dX0_unloopedKilos_57 : decode cX0_unloopedKilos 57 = .ok (.iload_n 2, 1) := by decide +kernel
theorem dX0_unloopedKilos_58 : decode cX0_unloopedKilos 58 = .ok (.ireturn, 1) := by decide +kernel
set_option maxRecDepth 20000 in
theorem ggX0_putInOrder_X0_isInStock : GoodIn wsX0_putInOrder wsX0_isInStock := goodIn_ca (goodIn_r _ [6, 7, 8, 9, 10, 11, 12, 13, 14, 32, 33, 34, 35, 36] (by decide +kernel) (by decide +kernel)) (goodIn_sub (fun _ h => List.mem_cons_of_mem _ (List.mem_append_right _ h)) (by decide +kernel))
set_option maxRecDepth 20000 in
theorem gX0_putInOrder_X0_isInStock : GoodIn wsX0_putInOrder (wsV RX0 39 RX0 yX0_isInStock wsX0_isInStock) := goodIn_app (goodIn_of _ (by decide +kernel)) ggX0_putInOrder_X0_isInStock
set_option maxRecDepth 20000 in
theorem ggX0_putInOrder_X0_insert : GoodIn wsX0_putInOrder wsX0_insert := goodIn_ca (goodIn_r _ [18, 19, 20, 21, 22, 5, 23, 8, 9, 10, 11, 12, 13, 14, 24, 25, 26, 27, 7, 28, 29, 30, 31, 32, 33, 34, 35, 36] (by decide +kernel) (by decide +kernel)) (goodIn_sub (fun _ h => List.mem_cons_of_mem _ (List.mem_append_right _ h)) (by decide +kernel))
set_option maxRecDepth 20000 in
theorem gX0_putInOrder_X0_insert : GoodIn wsX0_putInOrder (wsV RX0 47 RX0 yX0_insert wsX0_insert) := goodIn_app (goodIn_of _ (by decide +kernel)) ggX0_putInOrder_X0_insert
theorem dX0_putInOrder_0 : decode cX0_putInOrder 0 = .ok (.iconst 0, 1) := by decide +kernel
theorem dX0_putInOrder_1 : decode cX0_putInOrder 1 = .ok (.istore_n 1, 1) := by decide +kernel
theorem dX0_putInOrder_2 : decode cX0_putInOrder 2 = .ok (.iconst 0, 1) := by decide +kernel
theorem dX0_putInOrder_3 : decode cX0_putInOrder 3 = .ok (.istore_n 2, 1) := by decide +kernel
theorem dX0_putInOrder_4 : decode cX0_putInOrder 4 = .ok (.iload_n 2, 1) := by decide +kernel
theorem dX0_putInOrder_5 : decode cX0_putInOrder 5 = .ok (.aload_n 0, 1) := by decide +kernel
theorem dX0_putInOrder_6 : decode cX0_putInOrder 6 = .ok (.getfield 27, 3) := by decide +kernel
theorem dX0_putInOrder_9 : decode cX0_putInOrder 9 = .ok (.if_icmp .ge 26, 3) := by decide +kernel
theorem dX0_putInOrder_12 : decode cX0_putInOrder 12 = .ok (.aload_n 0, 1) := by decide +kernel
theorem dX0_putInOrder_13 : decode cX0_putInOrder 13 = .ok (.iload_n 2, 1) := by decide +kernel
theorem dX0_putInOrder_14 : decode cX0_putInOrder 14 = .ok (.invokevirtual 39, 3) := by decide +kernel
theorem dX0_putInOrder_17 : decode cX0_putInOrder 17 = .ok (.ifCond .eq 12, 3) := by decide +kernel
theorem dX0_putInOrder_20 : decode cX0_putInOrder 20 = .ok (.aload_n 0, 1) := by decide +kernel
theorem dX0_putInOrder_21 : decode cX0_putInOrder 21 = .ok (.iload_n 2, 1) := by decide +kernel
theorem dX0_putInOrder_22 : decode cX0_putInOrder 22 = .ok (.iload_n 1, 1) := by decide +kernel
theorem dX0_putInOrder_23 : decode cX0_putInOrder 23 = .ok (.invokevirtual 47, 3) := by decide +kernel
theorem dX0_putInOrder_26 : decode cX0_putInOrder 26 = .ok (.iinc 1 1, 3) := by decide +kernel
theorem dX0_putInOrder_29 : decode cX0_putInOrder 29 = .ok (.iinc 2 1, 3) := by decide +kernel
theorem dX0_putInOrder_32 : decode cX0_putInOrder 32 = .ok (.goto (-28), 3) := by decide +kernel
theorem dX0_putInOrder_35 : decode cX0_putInOrder 35 = .ok (.iload_n 1, 1) := by decide +kernel
theorem dX0_putInOrder_36 : decode cX0_putInOrder 36 = .ok (.ireturn, 1) := by decide +kernel
set_option maxRecDepth 20000 in
theorem ggX0_atPlace_X6_get : GoodIn wsX0_atPlace wsX6_get := goodIn_ca (goodIn_r _ [6, 7, 8, 12, 13] (by decide +kernel) (by decide +kernel)) (goodIn_sub (fun _ h => List.mem_cons_of_mem _ (List.mem_append_right _ h)) (by decide +kernel))
set_option maxRecDepth 20000 in
theorem gX0_atPlace_X6_get : GoodIn wsX0_atPlace (wsV RX0 35 RX6 yX6_get wsX6_get) := goodIn_app (goodIn_of _ (by decide +kernel)) ggX0_atPlace_X6_get
theorem dX0_atPlace_0 : decode cX0_atPlace 0 = .ok (.aload_n 0, 1) := by decide +kernel
theorem dX0_atPlace_1 : decode cX0_atPlace 1 = .ok (.getfield 20, 3) := by decide +kernel
theorem dX0_atPlace_4 : decode cX0_atPlace 4 = .ok (.iconst 0, 1) := by decide +kernel
theorem dX0_atPlace_5 : decode cX0_atPlace 5 = .ok (.iload_n 1, 1) := by decide +kernel
theorem dX0_atPlace_6 : decode cX0_atPlace 6 = .ok (.invokevirtual 35, 3) := by decide +kernel
theorem dX0_atPlace_9 : decode cX0_atPlace 9 = .ok (.ireturn, 1) := by decide +kernel
set_option maxRecDepth 20000 in
theorem ggX0_insert_X0_atPlace : GoodIn wsX0_insert wsX0_atPlace := goodIn_ca (goodIn_r _ [6, 1, 7, 8, 9, 10, 11, 12, 13, 23, 24, 25, 26, 27] (by decide +kernel) (by decide +kernel)) (goodIn_sub (fun _ h => List.mem_cons_of_mem _ (List.mem_append_right _ h)) (by decide +kernel))
set_option maxRecDepth 20000 in
theorem gX0_insert_X0_atPlace : GoodIn wsX0_insert (wsV RX0 50 RX0 yX0_atPlace wsX0_atPlace) := goodIn_app (goodIn_of _ (by decide +kernel)) ggX0_insert_X0_atPlace
set_option maxRecDepth 20000 in
theorem ggX0_insert_X0_isAhead : GoodIn wsX0_insert wsX0_isAhead := goodIn_ca (goodIn_r _ [17, 18, 7, 8, 9, 10, 11, 12, 13, 23, 24, 25, 26, 27] (by decide +kernel) (by decide +kernel)) (goodIn_sub (fun _ h => List.mem_cons_of_mem _ (List.mem_append_right _ h)) (by decide +kernel))
set_option maxRecDepth 20000 in
theorem gX0_insert_X0_isAhead : GoodIn wsX0_insert (wsV RX0 53 RX0 yX0_isAhead wsX0_isAhead) := goodIn_app (goodIn_of _ (by decide +kernel)) ggX0_insert_X0_isAhead
set_option maxRecDepth 20000 in
theorem ggX0_insert_X6_put : GoodIn wsX0_insert wsX6_put := goodIn_ca (goodIn_r _ [22, 12, 13, 26, 27] (by decide +kernel) (by decide +kernel)) (goodIn_sub (fun _ h => List.mem_cons_of_mem _ (List.mem_append_right _ h)) (by decide +kernel))
set_option maxRecDepth 20000 in
theorem gX0_insert_X6_put : GoodIn wsX0_insert (wsV RX0 57 RX6 yX6_put wsX6_put) := goodIn_app (goodIn_of _ (by decide +kernel)) ggX0_insert_X6_put
theorem dX0_insert_0 : decode cX0_insert 0 = .ok (.iload_n 2, 1) := by decide +kernel
theorem dX0_insert_1 : decode cX0_insert 1 = .ok (.istore_n 3, 1) := by decide +kernel
theorem dX0_insert_2 : decode cX0_insert 2 = .ok (.iload_n 3, 1) := by decide +kernel
theorem dX0_insert_3 : decode cX0_insert 3 = .ok (.ifCond .le 40, 3) := by decide +kernel
theorem dX0_insert_6 : decode cX0_insert 6 = .ok (.aload_n 0, 1) := by decide +kernel
theorem dX0_insert_7 : decode cX0_insert 7 = .ok (.iload_n 1, 1) := by decide +kernel
theorem dX0_insert_8 : decode cX0_insert 8 = .ok (.aload_n 0, 1) := by decide +kernel
theorem dX0_insert_9 : decode cX0_insert 9 = .ok (.iload_n 3, 1) := by decide +kernel
theorem dX0_insert_10 : decode cX0_insert 10 = .ok (.iconst 1, 1) := by decide +kernel
theorem dX0_insert_11 : decode cX0_insert 11 = .ok (.isub, 1) := by decide +kernel
theorem dX0_insert_12 : decode cX0_insert 12 = .ok (.invokevirtual 50, 3) := by decide +kernel
theorem dX0_insert_15 : decode cX0_insert 15 = .ok (.invokevirtual 53, 3) := by decide +kernel
theorem dX0_insert_18 : decode cX0_insert 18 = .ok (.ifCond .eq 25, 3) := by decide +kernel
theorem dX0_insert_21 : decode cX0_insert 21 = .ok (.aload_n 0, 1) := by decide +kernel
theorem dX0_insert_22 : decode cX0_insert 22 = .ok (.getfield 20, 3) := by decide +kernel
theorem dX0_insert_25 : decode cX0_insert 25 = .ok (.iconst 0, 1) := by decide +kernel
theorem dX0_insert_26 : decode cX0_insert 26 = .ok (.iload_n 3, 1) := by decide +kernel
theorem dX0_insert_27 : decode cX0_insert 27 = .ok (.aload_n 0, 1) := by decide +kernel
theorem dX0_insert_28 : decode cX0_insert 28 = .ok (.iload_n 3, 1) := by decide +kernel
theorem dX0_insert_29 : decode cX0_insert 29 = .ok (.iconst 1, 1) := by decide +kernel
theorem dX0_insert_30 : decode cX0_insert 30 = .ok (.isub, 1) := by decide +kernel
theorem dX0_insert_31 : decode cX0_insert 31 = .ok (.invokevirtual 50, 3) := by decide +kernel
theorem dX0_insert_34 : decode cX0_insert 34 = .ok (.invokevirtual 57, 3) := by decide +kernel
theorem dX0_insert_37 : decode cX0_insert 37 = .ok (.iinc 3 (-1), 3) := by decide +kernel
theorem dX0_insert_40 : decode cX0_insert 40 = .ok (.goto (-38), 3) := by decide +kernel
theorem dX0_insert_43 : decode cX0_insert 43 = .ok (.aload_n 0, 1) := by decide +kernel
theorem dX0_insert_44 : decode cX0_insert 44 = .ok (.getfield 20, 3) := by decide +kernel
theorem dX0_insert_47 : decode cX0_insert 47 = .ok (.iconst 0, 1) := by decide +kernel
theorem dX0_insert_48 : decode cX0_insert 48 = .ok (.iload_n 3, 1) := by decide +kernel
theorem dX0_insert_49 : decode cX0_insert 49 = .ok (.iload_n 1, 1) := by decide +kernel
theorem dX0_insert_50 : decode cX0_insert 50 = .ok (.invokevirtual 57, 3) := by decide +kernel
theorem dX0_insert_53 : decode cX0_insert 53 = .ok (.return_, 1) := by decide +kernel
set_option maxRecDepth 20000 in
theorem ggX0_isAhead_X6_get : GoodIn wsX0_isAhead wsX6_get := goodIn_ca (goodIn_r _ [6, 7, 8, 12, 13] (by decide +kernel) (by decide +kernel)) (goodIn_sub (fun _ h => List.mem_cons_of_mem _ (List.mem_append_right _ h)) (by decide +kernel))
set_option maxRecDepth 20000 in
theorem gX0_isAhead_X6_get : GoodIn wsX0_isAhead (wsV RX0 35 RX6 yX6_get wsX6_get) := goodIn_app (goodIn_of _ (by decide +kernel)) ggX0_isAhead_X6_get
theorem dX0_isAhead_0 : decode cX0_isAhead 0 = .ok (.aload_n 0, 1) := by decide +kernel
theorem dX0_isAhead_1 : decode cX0_isAhead 1 = .ok (.getfield 14, 3) := by decide +kernel
theorem dX0_isAhead_4 : decode cX0_isAhead 4 = .ok (.iload_n 1, 1) := by decide +kernel
theorem dX0_isAhead_5 : decode cX0_isAhead 5 = .ok (.bipush 9, 2) := by decide +kernel
theorem dX0_isAhead_7 : decode cX0_isAhead 7 = .ok (.invokevirtual 35, 3) := by decide +kernel
theorem dX0_isAhead_10 : decode cX0_isAhead 10 = .ok (.aload_n 0, 1) := by decide +kernel
theorem dX0_isAhead_11 : decode cX0_isAhead 11 = .ok (.getfield 14, 3) := by decide +kernel
theorem dX0_isAhead_14 : decode cX0_isAhead 14 = .ok (.iload_n 2, 1) := by decide +kernel
theorem dX0_isAhead_15 : decode cX0_isAhead 15 = .ok (.bipush 9, 2) := by decide +kernel
theorem dX0_isAhead_17 : decode cX0_isAhead 17 = .ok (.invokevirtual 35, 3) := by decide +kernel
theorem dX0_isAhead_20 : decode cX0_isAhead 20 = .ok (.isub, 1) := by decide +kernel
theorem dX0_isAhead_21 : decode cX0_isAhead 21 = .ok (.istore_n 3, 1) := by decide +kernel
theorem dX0_isAhead_22 : decode cX0_isAhead 22 = .ok (.aload_n 0, 1) := by decide +kernel
theorem dX0_isAhead_23 : decode cX0_isAhead 23 = .ok (.getfield 14, 3) := by decide +kernel
theorem dX0_isAhead_26 : decode cX0_isAhead 26 = .ok (.iload_n 1, 1) := by decide +kernel
theorem dX0_isAhead_27 : decode cX0_isAhead 27 = .ok (.bipush 8, 2) := by decide +kernel
theorem dX0_isAhead_29 : decode cX0_isAhead 29 = .ok (.invokevirtual 35, 3) := by decide +kernel
theorem dX0_isAhead_32 : decode cX0_isAhead 32 = .ok (.aload_n 0, 1) := by decide +kernel
theorem dX0_isAhead_33 : decode cX0_isAhead 33 = .ok (.getfield 14, 3) := by decide +kernel
theorem dX0_isAhead_36 : decode cX0_isAhead 36 = .ok (.iload_n 2, 1) := by decide +kernel
theorem dX0_isAhead_37 : decode cX0_isAhead 37 = .ok (.bipush 8, 2) := by decide +kernel
theorem dX0_isAhead_39 : decode cX0_isAhead 39 = .ok (.invokevirtual 35, 3) := by decide +kernel
theorem dX0_isAhead_42 : decode cX0_isAhead 42 = .ok (.isub, 1) := by decide +kernel
theorem dX0_isAhead_43 : decode cX0_isAhead 43 = .ok (.istore 4, 2) := by decide +kernel
theorem dX0_isAhead_45 : decode cX0_isAhead 45 = .ok (.iload_n 3, 1) := by decide +kernel
theorem dX0_isAhead_46 : decode cX0_isAhead 46 = .ok (.ifCond .eq 13, 3) := by decide +kernel
theorem dX0_isAhead_49 : decode cX0_isAhead 49 = .ok (.iload_n 3, 1) := by decide +kernel
theorem dX0_isAhead_50 : decode cX0_isAhead 50 = .ok (.ifCond .ge 7, 3) := by decide +kernel
theorem dX0_isAhead_53 : decode cX0_isAhead 53 = .ok (.iconst 1, 1) := by decide +kernel
theorem dX0_isAhead_54 : decode cX0_isAhead 54 = .ok (.goto 4, 3) := by decide +kernel
theorem dX0_isAhead_57 : decode cX0_isAhead 57 = .ok (.iconst 0, 1) := by decide +kernel
theorem dX0_isAhead_58 : decode cX0_isAhead 58 = .ok (.ireturn, 1) := by decide +kernel
theorem dX0_isAhead_59 : decode cX0_isAhead 59 = .ok (.iload 4, 2) := by decide +kernel
theorem dX0_isAhead_61 : decode cX0_isAhead 61 = .ok (.ifCond .eq 16, 3) := by decide +kernel
theorem dX0_isAhead_64 : decode cX0_isAhead 64 = .ok (.iload 4, 2) := by decide +kernel
theorem dX0_isAhead_66 : decode cX0_isAhead 66 = .ok (.ifCond .le 7, 3) := by decide +kernel
theorem dX0_isAhead_69 : decode cX0_isAhead 69 = .ok (.iconst 1, 1) := by decide +kernel
theorem dX0_isAhead_70 : decode cX0_isAhead 70 = .ok (.goto 17, 3) := by decide +kernel
theorem dX0_isAhead_73 : decode cX0_isAhead 73 = .ok (.iconst 0, 1) := by decide +kernel
theorem dX0_isAhead_74 : decode cX0_isAhead 74 = .ok (.goto 13, 3) := by decide +kernel
theorem dX0_isAhead_77 : decode cX0_isAhead 77 = .ok (.iload_n 1, 1) := by decide +kernel
theorem dX0_isAhead_78 : decode cX0_isAhead 78 = .ok (.iload_n 2, 1) := by decide +kernel
theorem dX0_isAhead_79 : decode cX0_isAhead 79 = .ok (.if_icmp .ge 7, 3) := by decide +kernel
theorem dX0_isAhead_82 : decode cX0_isAhead 82 = .ok (.iconst 1, 1) := by decide +kernel
theorem dX0_isAhead_83 : decode cX0_isAhead 83 = .ok (.goto 4, 3) := by decide +kernel
theorem dX0_isAhead_86 : decode cX0_isAhead 86 = .ok (.iconst 0, 1) := by decide +kernel
theorem dX0_isAhead_87 : decode cX0_isAhead 87 = .ok (.ireturn, 1) := by decide +kernel
set_option maxRecDepth 20000 in
theorem ggX1_init_X6_init : GoodIn wsX1_init wsX6_init := goodIn_r _ [10, 11, 2, 3, 12, 13, 14, 15, 16, 17, 18, 19, 20] (by decide +kernel) (by decide +kernel)
set_option maxRecDepth 20000 in
theorem gX1_init_X6_init : GoodIn wsX1_init (wsX6_init) := ggX1_init_X6_init
theorem dX1_init_0 : decode cX1_init 0 = .ok (.aload_n 0, 1) := by decide +kernel
theorem dX1_init_1 : decode cX1_init 1 = .ok (.invokespecial 3, 3) := by decide +kernel
theorem dX1_init_4 : decode cX1_init 4 = .ok (.aload_n 0, 1) := by decide +kernel
theorem dX1_init_5 : decode cX1_init 5 = .ok (.new 9, 3) := by decide +kernel
theorem dX1_init_8 : decode cX1_init 8 = .ok (.dup, 1) := by decide +kernel
theorem dX1_init_9 : decode cX1_init 9 = .ok (.bipush 8, 2) := by decide +kernel
theorem dX1_init_11 : decode cX1_init 11 = .ok (.iconst 5, 1) := by decide +kernel
theorem dX1_init_12 : decode cX1_init 12 = .ok (.invokespecial 11, 3) := by decide +kernel
theorem dX1_init_15 : decode cX1_init 15 = .ok (.putfield 14, 3) := by decide +kernel
theorem dX1_init_18 : decode cX1_init 18 = .ok (.return_, 1) := by decide +kernel
set_option maxRecDepth 20000 in
theorem ggX1_copyFrom_X6_copyFrom : GoodIn wsX1_copyFrom wsX6_copyFrom := goodIn_r _ [7, 8, 9, 10, 11, 12, 13, 14, 15, 16, 19, 20] (by decide +kernel) (by decide +kernel)
set_option maxRecDepth 20000 in
theorem gX1_copyFrom_X6_copyFrom : GoodIn wsX1_copyFrom (wsV RX1 20 RX6 yX6_copyFrom wsX6_copyFrom) := goodIn_app (goodIn_of _ (by decide +kernel)) ggX1_copyFrom_X6_copyFrom
theorem dX1_copyFrom_0 : decode cX1_copyFrom 0 = .ok (.aload_n 0, 1) := by decide +kernel
theorem dX1_copyFrom_1 : decode cX1_copyFrom 1 = .ok (.getfield 14, 3) := by decide +kernel
theorem dX1_copyFrom_4 : decode cX1_copyFrom 4 = .ok (.aload_n 1, 1) := by decide +kernel
theorem dX1_copyFrom_5 : decode cX1_copyFrom 5 = .ok (.getfield 14, 3) := by decide +kernel
theorem dX1_copyFrom_8 : decode cX1_copyFrom 8 = .ok (.invokevirtual 20, 3) := by decide +kernel
theorem dX1_copyFrom_11 : decode cX1_copyFrom 11 = .ok (.aload_n 0, 1) := by decide +kernel
theorem dX1_copyFrom_12 : decode cX1_copyFrom 12 = .ok (.aload_n 1, 1) := by decide +kernel
theorem dX1_copyFrom_13 : decode cX1_copyFrom 13 = .ok (.getfield 24, 3) := by decide +kernel
theorem dX1_copyFrom_16 : decode cX1_copyFrom 16 = .ok (.putfield 24, 3) := by decide +kernel
theorem dX1_copyFrom_19 : decode cX1_copyFrom 19 = .ok (.return_, 1) := by decide +kernel
set_option maxRecDepth 20000 in
theorem ggX1_faultOfNew_X8_isMaterial : GoodIn wsX1_faultOfNew wsX8_isMaterial := goodIn_r _ [8, 9, 10, 7, 11] (by decide +kernel) (by decide +kernel)
set_option maxRecDepth 20000 in
theorem gX1_faultOfNew_X8_isMaterial_n28 : GoodIn wsX1_faultOfNew (wsX8_isMaterial) := ggX1_faultOfNew_X8_isMaterial
set_option maxRecDepth 20000 in
theorem ggX1_faultOfNew_X8_isWithin : GoodIn wsX1_faultOfNew wsX8_isWithin := goodIn_r _ [11] (by decide +kernel) (by decide +kernel)
set_option maxRecDepth 20000 in
theorem gX1_faultOfNew_X8_isWithin_n38 : GoodIn wsX1_faultOfNew (wsX8_isWithin) := ggX1_faultOfNew_X8_isWithin
theorem dX1_faultOfNew_0 : decode cX1_faultOfNew 0 = .ok (.iload_n 1, 1) := by decide +kernel
theorem dX1_faultOfNew_1 : decode cX1_faultOfNew 1 = .ok (.invokestatic 28, 3) := by decide +kernel
theorem dX1_faultOfNew_4 : decode cX1_faultOfNew 4 = .ok (.ifCond .ne 7, 3) := by decide +kernel
theorem dX1_faultOfNew_7 : decode cX1_faultOfNew 7 = .ok (.getstatic 32, 3) := by decide +kernel
theorem dX1_faultOfNew_10 : decode cX1_faultOfNew 10 = .ok (.areturn, 1) := by decide +kernel
theorem dX1_faultOfNew_11 : decode cX1_faultOfNew 11 = .ok (.iload_n 2, 1) := by decide +kernel
theorem dX1_faultOfNew_12 : decode cX1_faultOfNew 12 = .ok (.iconst 0, 1) := by decide +kernel
theorem dX1_faultOfNew_13 : decode cX1_faultOfNew 13 = .ok (.sipush 1000, 3) := by decide +kernel
theorem dX1_faultOfNew_16 : decode cX1_faultOfNew 16 = .ok (.invokestatic 38, 3) := by decide +kernel
theorem dX1_faultOfNew_19 : decode cX1_faultOfNew 19 = .ok (.ifCond .eq 29, 3) := by decide +kernel
theorem dX1_faultOfNew_22 : decode cX1_faultOfNew 22 = .ok (.iload_n 3, 1) := by decide +kernel
theorem dX1_faultOfNew_23 : decode cX1_faultOfNew 23 = .ok (.iconst 1, 1) := by decide +kernel
theorem dX1_faultOfNew_24 : decode cX1_faultOfNew 24 = .ok (.sipush 9999, 3) := by decide +kernel
theorem dX1_faultOfNew_27 : decode cX1_faultOfNew 27 = .ok (.invokestatic 38, 3) := by decide +kernel
theorem dX1_faultOfNew_30 : decode cX1_faultOfNew 30 = .ok (.ifCond .eq 18, 3) := by decide +kernel
theorem dX1_faultOfNew_33 : decode cX1_faultOfNew 33 = .ok (.iload 4, 2) := by decide +kernel
theorem dX1_faultOfNew_35 : decode cX1_faultOfNew 35 = .ok (.iconst 1, 1) := by decide +kernel
theorem dX1_faultOfNew_36 : decode cX1_faultOfNew 36 = .ok (.bipush 99, 2) := by decide +kernel
theorem dX1_faultOfNew_38 : decode cX1_faultOfNew 38 = .ok (.invokestatic 38, 3) := by decide +kernel
theorem dX1_faultOfNew_41 : decode cX1_faultOfNew 41 = .ok (.ifCond .eq 7, 3) := by decide +kernel
theorem dX1_faultOfNew_44 : decode cX1_faultOfNew 44 = .ok (.iconst 1, 1) := by decide +kernel
theorem dX1_faultOfNew_45 : decode cX1_faultOfNew 45 = .ok (.goto 4, 3) := by decide +kernel
theorem dX1_faultOfNew_48 : decode cX1_faultOfNew 48 = .ok (.iconst 0, 1) := by decide +kernel
theorem dX1_faultOfNew_49 : decode cX1_faultOfNew 49 = .ok (.istore 5, 2) := by decide +kernel
theorem dX1_faultOfNew_51 : decode cX1_faultOfNew 51 = .ok (.iload 5, 2) := by decide +kernel
theorem dX1_faultOfNew_53 : decode cX1_faultOfNew 53 = .ok (.ifCond .ne 7, 3) := by decide +kernel
theorem dX1_faultOfNew_56 : decode cX1_faultOfNew 56 = .ok (.getstatic 42, 3) := by decide +kernel
theorem dX1_faultOfNew_59 : decode cX1_faultOfNew 59 = .ok (.areturn, 1) := by decide +kernel
theorem dX1_faultOfNew_60 : decode cX1_faultOfNew 60 = .ok (.aload_n 0, 1) := by decide +kernel
theorem dX1_faultOfNew_61 : decode cX1_faultOfNew 61 = .ok (.getfield 24, 3) := by decide +kernel
theorem dX1_faultOfNew_64 : decode cX1_faultOfNew 64 = .ok (.bipush 8, 2) := by decide +kernel
theorem dX1_faultOfNew_66 : decode cX1_faultOfNew 66 = .ok (.if_icmp .lt 9, 3) := by decide +kernel
theorem dX1_faultOfNew_69 : decode cX1_faultOfNew 69 = .ok (.getstatic 45, 3) := by decide +kernel
theorem dX1_faultOfNew_72 : decode cX1_faultOfNew 72 = .ok (.goto 6, 3) := by decide +kernel
theorem dX1_faultOfNew_75 : decode cX1_faultOfNew 75 = .ok (.getstatic 48, 3) := by decide +kernel
theorem dX1_faultOfNew_78 : decode cX1_faultOfNew 78 = .ok (.areturn, 1) := by decide +kernel
set_option maxRecDepth 20000 in
theorem ggX1_add_X6_put : GoodIn wsX1_add wsX6_put := goodIn_ca (goodIn_r _ [7, 8, 9, 12, 13] (by decide +kernel) (by decide +kernel)) (goodIn_sub (fun _ h => List.mem_cons_of_mem _ (List.mem_append_right _ h)) (by decide +kernel))
set_option maxRecDepth 20000 in
theorem gX1_add_X6_put : GoodIn wsX1_add (wsV RX1 51 RX6 yX6_put wsX6_put) := goodIn_app (goodIn_of _ (by decide +kernel)) ggX1_add_X6_put
theorem dX1_add_0 : decode cX1_add 0 = .ok (.aload_n 0, 1) := by decide +kernel
theorem dX1_add_1 : decode cX1_add 1 = .ok (.getfield 24, 3) := by decide +kernel
theorem dX1_add_4 : decode cX1_add 4 = .ok (.istore 5, 2) := by decide +kernel
theorem dX1_add_6 : decode cX1_add 6 = .ok (.aload_n 0, 1) := by decide +kernel
theorem dX1_add_7 : decode cX1_add 7 = .ok (.getfield 14, 3) := by decide +kernel
theorem dX1_add_10 : decode cX1_add 10 = .ok (.iload 5, 2) := by decide +kernel
theorem dX1_add_12 : decode cX1_add 12 = .ok (.iconst 0, 1) := by decide +kernel
theorem dX1_add_13 : decode cX1_add 13 = .ok (.iload_n 1, 1) := by decide +kernel
theorem dX1_add_14 : decode cX1_add 14 = .ok (.invokevirtual 51, 3) := by decide +kernel
theorem dX1_add_17 : decode cX1_add 17 = .ok (.aload_n 0, 1) := by decide +kernel
theorem dX1_add_18 : decode cX1_add 18 = .ok (.getfield 14, 3) := by decide +kernel
theorem dX1_add_21 : decode cX1_add 21 = .ok (.iload 5, 2) := by decide +kernel
theorem dX1_add_23 : decode cX1_add 23 = .ok (.iconst 1, 1) := by decide +kernel
theorem dX1_add_24 : decode cX1_add 24 = .ok (.iload_n 2, 1) := by decide +kernel
theorem dX1_add_25 : decode cX1_add 25 = .ok (.invokevirtual 51, 3) := by decide +kernel
theorem dX1_add_28 : decode cX1_add 28 = .ok (.aload_n 0, 1) := by decide +kernel
theorem dX1_add_29 : decode cX1_add 29 = .ok (.getfield 14, 3) := by decide +kernel
theorem dX1_add_32 : decode cX1_add 32 = .ok (.iload 5, 2) := by decide +kernel
theorem dX1_add_34 : decode cX1_add 34 = .ok (.iconst 2, 1) := by decide +kernel
theorem dX1_add_35 : decode cX1_add 35 = .ok (.iload_n 3, 1) := by decide +kernel
theorem dX1_add_36 : decode cX1_add 36 = .ok (.invokevirtual 51, 3) := by decide +kernel
theorem dX1_add_39 : decode cX1_add 39 = .ok (.aload_n 0, 1) := by decide +kernel
theorem dX1_add_40 : decode cX1_add 40 = .ok (.getfield 14, 3) := by decide +kernel
theorem dX1_add_43 : decode cX1_add 43 = .ok (.iload 5, 2) := by decide +kernel
theorem dX1_add_45 : decode cX1_add 45 = .ok (.iconst 3, 1) := by decide +kernel
theorem dX1_add_46 : decode cX1_add 46 = .ok (.iload 4, 2) := by decide +kernel
theorem dX1_add_48 : decode cX1_add 48 = .ok (.invokevirtual 51, 3) := by decide +kernel
theorem dX1_add_51 : decode cX1_add 51 = .ok (.aload_n 0, 1) := by decide +kernel
theorem dX1_add_52 : decode cX1_add 52 = .ok (.getfield 14, 3) := by decide +kernel
theorem dX1_add_55 : decode cX1_add 55 = .ok (.iload 5, 2) := by decide +kernel
theorem dX1_add_57 : decode cX1_add 57 = .ok (.iconst 4, 1) := by decide +kernel
theorem dX1_add_58 : decode cX1_add 58 = .ok (.iconst 0, 1) := by decide +kernel
theorem dX1_add_59 : decode cX1_add 59 = .ok (.invokevirtual 51, 3) := by decide +kernel
theorem dX1_add_62 : decode cX1_add 62 = .ok (.aload_n 0, 1) := by decide +kernel
theorem dX1_add_63 : decode cX1_add 63 = .ok (.dup, 1) := by decide +kernel
theorem dX1_add_64 : decode cX1_add 64 = .ok (.getfield 24, 3) := by decide +kernel
theorem dX1_add_67 : decode cX1_add 67 = .ok (.iconst 1, 1) := by decide +kernel
theorem dX1_add_68 : decode cX1_add 68 = .ok (.iadd, 1) := by decide +kernel
theorem dX1_add_69 : decode cX1_add 69 = .ok (.putfield 24, 3) := by decide +kernel
theorem dX1_add_72 : decode cX1_add 72 = .ok (.iload 5, 2) := by decide +kernel
theorem dX1_add_74 : decode cX1_add 74 = .ok (.ireturn, 1) := by decide +kernel
set_option maxRecDepth 20000 in
theorem ggX1_take_X6_add : GoodIn wsX1_take wsX6_add := goodIn_ca (goodIn_r _ [6, 7, 8, 9, 5, 10, 11, 12, 13, 14, 15, 16, 19, 20] (by decide +kernel) (by decide +kernel)) (goodIn_sub (fun _ h => List.mem_cons_of_mem _ (List.mem_append_right _ h)) (by decide +kernel))
set_option maxRecDepth 20000 in
theorem gX1_take_X6_add : GoodIn wsX1_take (wsV RX1 55 RX6 yX6_add wsX6_add) := goodIn_app (goodIn_of _ (by decide +kernel)) ggX1_take_X6_add
theorem dX1_take_0 : decode cX1_take 0 = .ok (.aload_n 0, 1) := by decide +kernel
theorem dX1_take_1 : decode cX1_take 1 = .ok (.getfield 14, 3) := by decide +kernel
theorem dX1_take_4 : decode cX1_take 4 = .ok (.iload_n 1, 1) := by decide +kernel
theorem dX1_take_5 : decode cX1_take 5 = .ok (.iconst 2, 1) := by decide +kernel
theorem dX1_take_6 : decode cX1_take 6 = .ok (.iload_n 2, 1) := by decide +kernel
theorem dX1_take_7 : decode cX1_take 7 = .ok (.ineg, 1) := by decide +kernel
theorem dX1_take_8 : decode cX1_take 8 = .ok (.invokevirtual 55, 3) := by decide +kernel
theorem dX1_take_11 : decode cX1_take 11 = .ok (.aload_n 0, 1) := by decide +kernel
theorem dX1_take_12 : decode cX1_take 12 = .ok (.getfield 14, 3) := by decide +kernel
theorem dX1_take_15 : decode cX1_take 15 = .ok (.iload_n 1, 1) := by decide +kernel
theorem dX1_take_16 : decode cX1_take 16 = .ok (.iconst 4, 1) := by decide +kernel
theorem dX1_take_17 : decode cX1_take 17 = .ok (.iconst 1, 1) := by decide +kernel
theorem dX1_take_18 : decode cX1_take 18 = .ok (.invokevirtual 55, 3) := by decide +kernel
theorem dX1_take_21 : decode cX1_take 21 = .ok (.return_, 1) := by decide +kernel
set_option maxRecDepth 20000 in
theorem ggX1_bestFor_X1_isFor : GoodIn wsX1_bestFor wsX1_isFor := goodIn_ca (goodIn_r _ [7, 2, 8, 9, 10, 11, 12, 13, 14, 19, 20, 21, 22] (by decide +kernel) (by decide +kernel)) (goodIn_sub (fun _ h => List.mem_cons_of_mem _ (List.mem_append_right _ h)) (by decide +kernel))
set_option maxRecDepth 20000 in
theorem gX1_bestFor_X1_isFor : GoodIn wsX1_bestFor (wsV RX1 58 RX1 yX1_isFor wsX1_isFor) := goodIn_app (goodIn_of _ (by decide +kernel)) ggX1_bestFor_X1_isFor
set_option maxRecDepth 20000 in
theorem ggX1_bestFor_X6_get : GoodIn wsX1_bestFor wsX6_get := goodIn_ca (goodIn_r _ [12, 13, 14, 21, 22] (by decide +kernel) (by decide +kernel)) (goodIn_sub (fun _ h => List.mem_cons_of_mem _ (List.mem_append_right _ h)) (by decide +kernel))
set_option maxRecDepth 20000 in
theorem gX1_bestFor_X6_get : GoodIn wsX1_bestFor (wsV RX1 62 RX6 yX6_get wsX6_get) := goodIn_app (goodIn_of _ (by decide +kernel)) ggX1_bestFor_X6_get
set_option maxRecDepth 20000 in
theorem ggX1_bestFor_X1_isBetter : GoodIn wsX1_bestFor wsX1_isBetter := goodIn_ca (goodIn_r _ [18, 2, 8, 9, 10, 11, 12, 13, 14, 19, 20, 21, 22] (by decide +kernel) (by decide +kernel)) (goodIn_sub (fun _ h => List.mem_cons_of_mem _ (List.mem_append_right _ h)) (by decide +kernel))
set_option maxRecDepth 20000 in
theorem gX1_bestFor_X1_isBetter : GoodIn wsX1_bestFor (wsV RX1 66 RX1 yX1_isBetter wsX1_isBetter) := goodIn_app (goodIn_of _ (by decide +kernel)) ggX1_bestFor_X1_isBetter
theorem dX1_bestFor_0 : decode cX1_bestFor 0 = .ok (.iconst (-1), 1) := by decide +kernel
theorem dX1_bestFor_1 : decode cX1_bestFor 1 = .ok (.istore 4, 2) := by decide +kernel
theorem dX1_bestFor_3 : decode cX1_bestFor 3 = .ok (.iconst 0, 1) := by decide +kernel
theorem dX1_bestFor_4 : decode cX1_bestFor 4 = .ok (.istore 5, 2) := by decide +kernel
theorem dX1_bestFor_6 : decode cX1_bestFor 6 = .ok (.iload 5, 2) := by decide +kernel
theorem dX1_bestFor_8 : decode cX1_bestFor 8 = .ok (.aload_n 0, 1) := by decide +kernel
theorem dX1_bestFor_9 : decode cX1_bestFor 9 = .ok (.getfield 24, 3) := by decide +kernel
theorem dX1_bestFor_12 : decode cX1_bestFor 12 = .ok (.if_icmp .ge 80, 3) := by decide +kernel
theorem dX1_bestFor_15 : decode cX1_bestFor 15 = .ok (.aload_n 0, 1) := by decide +kernel
theorem dX1_bestFor_16 : decode cX1_bestFor 16 = .ok (.iload 5, 2) := by decide +kernel
theorem dX1_bestFor_18 : decode cX1_bestFor 18 = .ok (.iload_n 1, 1) := by decide +kernel
theorem dX1_bestFor_19 : decode cX1_bestFor 19 = .ok (.invokevirtual 58, 3) := by decide +kernel
theorem dX1_bestFor_22 : decode cX1_bestFor 22 = .ok (.ifCond .eq 35, 3) := by decide +kernel
theorem dX1_bestFor_25 : decode cX1_bestFor 25 = .ok (.iload_n 2, 1) := by decide +kernel
theorem dX1_bestFor_26 : decode cX1_bestFor 26 = .ok (.aload_n 0, 1) := by decide +kernel
theorem dX1_bestFor_27 : decode cX1_bestFor 27 = .ok (.getfield 14, 3) := by decide +kernel
theorem dX1_bestFor_30 : decode cX1_bestFor 30 = .ok (.iload 5, 2) := by decide +kernel
theorem dX1_bestFor_32 : decode cX1_bestFor 32 = .ok (.iconst 1, 1) := by decide +kernel
theorem dX1_bestFor_33 : decode cX1_bestFor 33 = .ok (.invokevirtual 62, 3) := by decide +kernel
theorem dX1_bestFor_36 : decode cX1_bestFor 36 = .ok (.if_icmp .lt 21, 3) := by decide +kernel
theorem dX1_bestFor_39 : decode cX1_bestFor 39 = .ok (.iload_n 3, 1) := by decide +kernel
theorem dX1_bestFor_40 : decode cX1_bestFor 40 = .ok (.aload_n 0, 1) := by decide +kernel
theorem dX1_bestFor_41 : decode cX1_bestFor 41 = .ok (.getfield 14, 3) := by decide +kernel
theorem dX1_bestFor_44 : decode cX1_bestFor 44 = .ok (.iload 5, 2) := by decide +kernel
theorem dX1_bestFor_46 : decode cX1_bestFor 46 = .ok (.iconst 2, 1) := by decide +kernel
theorem dX1_bestFor_47 : decode cX1_bestFor 47 = .ok (.invokevirtual 62, 3) := by decide +kernel
theorem dX1_bestFor_50 : decode cX1_bestFor 50 = .ok (.if_icmp .gt 7, 3) := by decide +kernel
theorem dX1_bestFor_53 : decode cX1_bestFor 53 = .ok (.iconst 1, 1) := by decide +kernel
theorem dX1_bestFor_54 : decode cX1_bestFor 54 = .ok (.goto 4, 3) := by decide +kernel
theorem dX1_bestFor_57 : decode cX1_bestFor 57 = .ok (.iconst 0, 1) := by decide +kernel
theorem dX1_bestFor_58 : decode cX1_bestFor 58 = .ok (.istore 6, 2) := by decide +kernel
theorem dX1_bestFor_60 : decode cX1_bestFor 60 = .ok (.iload 6, 2) := by decide +kernel
theorem dX1_bestFor_62 : decode cX1_bestFor 62 = .ok (.ifCond .eq 24, 3) := by decide +kernel
theorem dX1_bestFor_65 : decode cX1_bestFor 65 = .ok (.iload 4, 2) := by decide +kernel
theorem dX1_bestFor_67 : decode cX1_bestFor 67 = .ok (.iconst (-1), 1) := by decide +kernel
theorem dX1_bestFor_68 : decode cX1_bestFor 68 = .ok (.if_icmp .eq 14, 3) := by decide +kernel
theorem dX1_bestFor_71 : decode cX1_bestFor 71 = .ok (.aload_n 0, 1) := by decide +kernel
theorem dX1_bestFor_72 : decode cX1_bestFor 72 = .ok (.iload 5, 2) := by decide +kernel
theorem dX1_bestFor_74 : decode cX1_bestFor 74 = .ok (.iload 4, 2) := by decide +kernel
theorem dX1_bestFor_76 : decode cX1_bestFor 76 = .ok (.invokevirtual 66, 3) := by decide +kernel
theorem dX1_bestFor_79 : decode cX1_bestFor 79 = .ok (.ifCond .eq 7, 3) := by decide +kernel
theorem dX1_bestFor_82 : decode cX1_bestFor 82 = .ok (.iload 5, 2) := by decide +kernel
theorem dX1_bestFor_84 : decode cX1_bestFor 84 = .ok (.istore 4, 2) := by decide +kernel
theorem dX1_bestFor_86 : decode cX1_bestFor 86 = .ok (.iinc 5 1, 3) := by decide +kernel
theorem dX1_bestFor_89 : decode cX1_bestFor 89 = .ok (.goto (-83), 3) := by decide +kernel
theorem dX1_bestFor_92 : decode cX1_bestFor 92 = .ok (.iload 4, 2) := by decide +kernel
theorem dX1_bestFor_94 : decode cX1_bestFor 94 = .ok (.ireturn, 1) := by decide +kernel
set_option maxRecDepth 20000 in
theorem ggX1_leastFloor_X6_get : GoodIn wsX1_leastFloor wsX6_get := goodIn_ca (goodIn_r _ [7, 8, 9, 17, 18] (by decide +kernel) (by decide +kernel)) (goodIn_sub (fun _ h => List.mem_cons_of_mem _ (List.mem_append_right _ h)) (by decide +kernel))
set_option maxRecDepth 20000 in
theorem gX1_leastFloor_X6_get : GoodIn wsX1_leastFloor (wsV RX1 62 RX6 yX6_get wsX6_get) := goodIn_app (goodIn_of _ (by decide +kernel)) ggX1_leastFloor_X6_get
set_option maxRecDepth 20000 in
theorem ggX1_leastFloor_X1_isFor : GoodIn wsX1_leastFloor wsX1_isFor := goodIn_ca (goodIn_r _ [14, 2, 3, 4, 5, 6, 7, 8, 9, 15, 16, 17, 18] (by decide +kernel) (by decide +kernel)) (goodIn_sub (fun _ h => List.mem_cons_of_mem _ (List.mem_append_right _ h)) (by decide +kernel))
set_option maxRecDepth 20000 in
theorem gX1_leastFloor_X1_isFor : GoodIn wsX1_leastFloor (wsV RX1 58 RX1 yX1_isFor wsX1_isFor) := goodIn_app (goodIn_of _ (by decide +kernel)) ggX1_leastFloor_X1_isFor
theorem dX1_leastFloor_0 : decode cX1_leastFloor 0 = .ok (.iconst (-1), 1) := by decide +kernel
theorem dX1_leastFloor_1 : decode cX1_leastFloor 1 = .ok (.istore_n 2, 1) := by decide +kernel
theorem dX1_leastFloor_2 : decode cX1_leastFloor 2 = .ok (.iconst 0, 1) := by decide +kernel
theorem dX1_leastFloor_3 : decode cX1_leastFloor 3 = .ok (.istore_n 3, 1) := by decide +kernel
theorem dX1_leastFloor_4 : decode cX1_leastFloor 4 = .ok (.iload_n 3, 1) := by decide +kernel
theorem dX1_leastFloor_5 : decode cX1_leastFloor 5 = .ok (.aload_n 0, 1) := by decide +kernel
theorem dX1_leastFloor_6 : decode cX1_leastFloor 6 = .ok (.getfield 24, 3) := by decide +kernel
theorem dX1_leastFloor_9 : decode cX1_leastFloor 9 = .ok (.if_icmp .ge 43, 3) := by decide +kernel
theorem dX1_leastFloor_12 : decode cX1_leastFloor 12 = .ok (.aload_n 0, 1) := by decide +kernel
theorem dX1_leastFloor_13 : decode cX1_leastFloor 13 = .ok (.getfield 14, 3) := by decide +kernel
theorem dX1_leastFloor_16 : decode cX1_leastFloor 16 = .ok (.iload_n 3, 1) := by decide +kernel
theorem dX1_leastFloor_17 : decode cX1_leastFloor 17 = .ok (.iconst 1, 1) := by decide +kernel
theorem dX1_leastFloor_18 : decode cX1_leastFloor 18 = .ok (.invokevirtual 62, 3) := by decide +kernel
theorem dX1_leastFloor_21 : decode cX1_leastFloor 21 = .ok (.istore 4, 2) := by decide +kernel
theorem dX1_leastFloor_23 : decode cX1_leastFloor 23 = .ok (.aload_n 0, 1) := by decide +kernel
theorem dX1_leastFloor_24 : decode cX1_leastFloor 24 = .ok (.iload_n 3, 1) := by decide +kernel
theorem dX1_leastFloor_25 : decode cX1_leastFloor 25 = .ok (.iload_n 1, 1) := by decide +kernel
theorem dX1_leastFloor_26 : decode cX1_leastFloor 26 = .ok (.invokevirtual 58, 3) := by decide +kernel
theorem dX1_leastFloor_29 : decode cX1_leastFloor 29 = .ok (.ifCond .eq 17, 3) := by decide +kernel
theorem dX1_leastFloor_32 : decode cX1_leastFloor 32 = .ok (.iload_n 2, 1) := by decide +kernel
theorem dX1_leastFloor_33 : decode cX1_leastFloor 33 = .ok (.iconst (-1), 1) := by decide +kernel
theorem dX1_leastFloor_34 : decode cX1_leastFloor 34 = .ok (.if_icmp .eq 9, 3) := by decide +kernel
theorem dX1_leastFloor_37 : decode cX1_leastFloor 37 = .ok (.iload 4, 2) := by decide +kernel
theorem dX1_leastFloor_39 : decode cX1_leastFloor 39 = .ok (.iload_n 2, 1) := by decide +kernel
theorem dX1_leastFloor_40 : decode cX1_leastFloor 40 = .ok (.if_icmp .ge 6, 3) := by decide +kernel
theorem dX1_leastFloor_43 : decode cX1_leastFloor 43 = .ok (.iload 4, 2) := by decide +kernel
theorem dX1_leastFloor_45 : decode cX1_leastFloor 45 = .ok (.istore_n 2, 1) := by decide +kernel
theorem dX1_leastFloor_46 : decode cX1_leastFloor 46 = .ok (.iinc 3 1, 3) := by decide +kernel
theorem dX1_leastFloor_49 : decode cX1_leastFloor 49 = .ok (.goto (-45), 3) := by decide +kernel
theorem dX1_leastFloor_52 : decode cX1_leastFloor 52 = .ok (.iload_n 2, 1) := by decide +kernel
theorem dX1_leastFloor_53 : decode cX1_leastFloor 53 = .ok (.ireturn, 1) := by decide +kernel
set_option maxRecDepth 20000 in
theorem ggX1_mostWanted_X1_isFor : GoodIn wsX1_mostWanted wsX1_isFor := goodIn_ca (goodIn_r _ [11, 2, 12, 13, 14, 15, 16, 17, 18, 19, 20, 21, 22] (by decide +kernel) (by decide +kernel)) (goodIn_sub (fun _ h => List.mem_cons_of_mem _ (List.mem_append_right _ h)) (by decide +kernel))
set_option maxRecDepth 20000 in
theorem gX1_mostWanted_X1_isFor : GoodIn wsX1_mostWanted (wsV RX1 58 RX1 yX1_isFor wsX1_isFor) := goodIn_app (goodIn_of _ (by decide +kernel)) ggX1_mostWanted_X1_isFor
set_option maxRecDepth 20000 in
theorem ggX1_mostWanted_X6_get : GoodIn wsX1_mostWanted wsX6_get := goodIn_ca (goodIn_r _ [16, 17, 18, 21, 22] (by decide +kernel) (by decide +kernel)) (goodIn_sub (fun _ h => List.mem_cons_of_mem _ (List.mem_append_right _ h)) (by decide +kernel))
set_option maxRecDepth 20000 in
theorem gX1_mostWanted_X6_get : GoodIn wsX1_mostWanted (wsV RX1 62 RX6 yX6_get wsX6_get) := goodIn_app (goodIn_of _ (by decide +kernel)) ggX1_mostWanted_X6_get
theorem dX1_mostWanted_0 : decode cX1_mostWanted 0 = .ok (.iconst 0, 1) := by decide +kernel
theorem dX1_mostWanted_1 : decode cX1_mostWanted 1 = .ok (.istore_n 3, 1) := by decide +kernel
theorem dX1_mostWanted_2 : decode cX1_mostWanted 2 = .ok (.iconst 0, 1) := by decide +kernel
theorem dX1_mostWanted_3 : decode cX1_mostWanted 3 = .ok (.istore 4, 2) := by decide +kernel
theorem dX1_mostWanted_5 : decode cX1_mostWanted 5 = .ok (.iload 4, 2) := by decide +kernel
theorem dX1_mostWanted_7 : decode cX1_mostWanted 7 = .ok (.aload_n 0, 1) := by decide +kernel
theorem dX1_mostWanted_8 : decode cX1_mostWanted 8 = .ok (.getfield 24, 3) := by decide +kernel
theorem dX1_mostWanted_11 : decode cX1_mostWanted 11 = .ok (.if_icmp .ge 48, 3) := by decide +kernel
theorem dX1_mostWanted_14 : decode cX1_mostWanted 14 = .ok (.aload_n 0, 1) := by decide +kernel
theorem dX1_mostWanted_15 : decode cX1_mostWanted 15 = .ok (.iload 4, 2) := by decide +kernel
theorem dX1_mostWanted_17 : decode cX1_mostWanted 17 = .ok (.iload_n 1, 1) := by decide +kernel
theorem dX1_mostWanted_18 : decode cX1_mostWanted 18 = .ok (.invokevirtual 58, 3) := by decide +kernel
theorem dX1_mostWanted_21 : decode cX1_mostWanted 21 = .ok (.ifCond .eq 32, 3) := by decide +kernel
theorem dX1_mostWanted_24 : decode cX1_mostWanted 24 = .ok (.iload_n 2, 1) := by decide +kernel
theorem dX1_mostWanted_25 : decode cX1_mostWanted 25 = .ok (.aload_n 0, 1) := by decide +kernel
theorem dX1_mostWanted_26 : decode cX1_mostWanted 26 = .ok (.getfield 14, 3) := by decide +kernel
theorem dX1_mostWanted_29 : decode cX1_mostWanted 29 = .ok (.iload 4, 2) := by decide +kernel
theorem dX1_mostWanted_31 : decode cX1_mostWanted 31 = .ok (.iconst 1, 1) := by decide +kernel
theorem dX1_mostWanted_32 : decode cX1_mostWanted 32 = .ok (.invokevirtual 62, 3) := by decide +kernel
theorem dX1_mostWanted_35 : decode cX1_mostWanted 35 = .ok (.if_icmp .lt 18, 3) := by decide +kernel
theorem dX1_mostWanted_38 : decode cX1_mostWanted 38 = .ok (.iload_n 3, 1) := by decide +kernel
theorem dX1_mostWanted_39 : decode cX1_mostWanted 39 = .ok (.aload_n 0, 1) := by decide +kernel
theorem dX1_mostWanted_40 : decode cX1_mostWanted 40 = .ok (.getfield 14, 3) := by decide +kernel
theorem dX1_mostWanted_43 : decode cX1_mostWanted 43 = .ok (.iload 4, 2) := by decide +kernel
theorem dX1_mostWanted_45 : decode cX1_mostWanted 45 = .ok (.iconst 2, 1) := by decide +kernel
theorem dX1_mostWanted_46 : decode cX1_mostWanted 46 = .ok (.invokevirtual 62, 3) := by decide +kernel
theorem dX1_mostWanted_49 : decode cX1_mostWanted 49 = .ok (.invokestatic 69, 3) := by decide +kernel
theorem dX1_mostWanted_52 : decode cX1_mostWanted 52 = .ok (.istore_n 3, 1) := by decide +kernel
theorem dX1_mostWanted_53 : decode cX1_mostWanted 53 = .ok (.iinc 4 1, 3) := by decide +kernel
theorem dX1_mostWanted_56 : decode cX1_mostWanted 56 = .ok (.goto (-51), 3) := by decide +kernel
theorem dX1_mostWanted_59 : decode cX1_mostWanted 59 = .ok (.iload_n 3, 1) := by decide +kernel
theorem dX1_mostWanted_60 : decode cX1_mostWanted 60 = .ok (.ireturn, 1) := by decide +kernel
set_option maxRecDepth 20000 in
theorem ggX1_isFor_X6_get : GoodIn wsX1_isFor wsX6_get := goodIn_ca (goodIn_r _ [6, 7, 8, 11, 12] (by decide +kernel) (by decide +kernel)) (goodIn_sub (fun _ h => List.mem_cons_of_mem _ (List.mem_append_right _ h)) (by decide +kernel))
set_option maxRecDepth 20000 in
theorem gX1_isFor_X6_get : GoodIn wsX1_isFor (wsV RX1 62 RX6 yX6_get wsX6_get) := goodIn_app (goodIn_of _ (by decide +kernel)) ggX1_isFor_X6_get
theorem dX1_isFor_0 : decode cX1_isFor 0 = .ok (.aload_n 0, 1) := by decide +kernel
theorem dX1_isFor_1 : decode cX1_isFor 1 = .ok (.getfield 14, 3) := by decide +kernel
theorem dX1_isFor_4 : decode cX1_isFor 4 = .ok (.iload_n 1, 1) := by decide +kernel
theorem dX1_isFor_5 : decode cX1_isFor 5 = .ok (.iconst 0, 1) := by decide +kernel
theorem dX1_isFor_6 : decode cX1_isFor 6 = .ok (.invokevirtual 62, 3) := by decide +kernel
theorem dX1_isFor_9 : decode cX1_isFor 9 = .ok (.iload_n 2, 1) := by decide +kernel
theorem dX1_isFor_10 : decode cX1_isFor 10 = .ok (.if_icmp .ne 7, 3) := by decide +kernel
theorem dX1_isFor_13 : decode cX1_isFor 13 = .ok (.iconst 1, 1) := by decide +kernel
theorem dX1_isFor_14 : decode cX1_isFor 14 = .ok (.goto 4, 3) := by decide +kernel
theorem dX1_isFor_17 : decode cX1_isFor 17 = .ok (.iconst 0, 1) := by decide +kernel
theorem dX1_isFor_18 : decode cX1_isFor 18 = .ok (.ireturn, 1) := by decide +kernel
set_option maxRecDepth 20000 in
theorem ggX1_isBetter_X6_get : GoodIn wsX1_isBetter wsX6_get := goodIn_ca (goodIn_r _ [6, 7, 8, 11, 12] (by decide +kernel) (by decide +kernel)) (goodIn_sub (fun _ h => List.mem_cons_of_mem _ (List.mem_append_right _ h)) (by decide +kernel))
set_option maxRecDepth 20000 in
theorem gX1_isBetter_X6_get : GoodIn wsX1_isBetter (wsV RX1 62 RX6 yX6_get wsX6_get) := goodIn_app (goodIn_of _ (by decide +kernel)) ggX1_isBetter_X6_get
theorem dX1_isBetter_0 : decode cX1_isBetter 0 = .ok (.aload_n 0, 1) := by decide +kernel
theorem dX1_isBetter_1 : decode cX1_isBetter 1 = .ok (.getfield 14, 3) := by decide +kernel
theorem dX1_isBetter_4 : decode cX1_isBetter 4 = .ok (.iload_n 1, 1) := by decide +kernel
theorem dX1_isBetter_5 : decode cX1_isBetter 5 = .ok (.iconst 3, 1) := by decide +kernel
theorem dX1_isBetter_6 : decode cX1_isBetter 6 = .ok (.invokevirtual 62, 3) := by decide +kernel
theorem dX1_isBetter_9 : decode cX1_isBetter 9 = .ok (.aload_n 0, 1) := by decide +kernel
theorem dX1_isBetter_10 : decode cX1_isBetter 10 = .ok (.getfield 14, 3) := by decide +kernel
theorem dX1_isBetter_13 : decode cX1_isBetter 13 = .ok (.iload_n 2, 1) := by decide +kernel
theorem dX1_isBetter_14 : decode cX1_isBetter 14 = .ok (.iconst 3, 1) := by decide +kernel
theorem dX1_isBetter_15 : decode cX1_isBetter 15 = .ok (.invokevirtual 62, 3) := by decide +kernel
theorem dX1_isBetter_18 : decode cX1_isBetter 18 = .ok (.isub, 1) := by decide +kernel
theorem dX1_isBetter_19 : decode cX1_isBetter 19 = .ok (.istore_n 3, 1) := by decide +kernel
theorem dX1_isBetter_20 : decode cX1_isBetter 20 = .ok (.iload_n 3, 1) := by decide +kernel
theorem dX1_isBetter_21 : decode cX1_isBetter 21 = .ok (.ifCond .eq 15, 3) := by decide +kernel
theorem dX1_isBetter_24 : decode cX1_isBetter 24 = .ok (.iload_n 3, 1) := by decide +kernel
theorem dX1_isBetter_25 : decode cX1_isBetter 25 = .ok (.ifCond .le 7, 3) := by decide +kernel
theorem dX1_isBetter_28 : decode cX1_isBetter 28 = .ok (.iconst 1, 1) := by decide +kernel
theorem dX1_isBetter_29 : decode cX1_isBetter 29 = .ok (.goto 33, 3) := by decide +kernel
theorem dX1_isBetter_32 : decode cX1_isBetter 32 = .ok (.iconst 0, 1) := by decide +kernel
theorem dX1_isBetter_33 : decode cX1_isBetter 33 = .ok (.goto 29, 3) := by decide +kernel
theorem dX1_isBetter_36 : decode cX1_isBetter 36 = .ok (.aload_n 0, 1) := by decide +kernel
theorem dX1_isBetter_37 : decode cX1_isBetter 37 = .ok (.getfield 14, 3) := by decide +kernel
theorem dX1_isBetter_40 : decode cX1_isBetter 40 = .ok (.iload_n 1, 1) := by decide +kernel
theorem dX1_isBetter_41 : decode cX1_isBetter 41 = .ok (.iconst 1, 1) := by decide +kernel
theorem dX1_isBetter_42 : decode cX1_isBetter 42 = .ok (.invokevirtual 62, 3) := by decide +kernel
theorem dX1_isBetter_45 : decode cX1_isBetter 45 = .ok (.aload_n 0, 1) := by decide +kernel
theorem dX1_isBetter_46 : decode cX1_isBetter 46 = .ok (.getfield 14, 3) := by decide +kernel
theorem dX1_isBetter_49 : decode cX1_isBetter 49 = .ok (.iload_n 2, 1) := by decide +kernel
theorem dX1_isBetter_50 : decode cX1_isBetter 50 = .ok (.iconst 1, 1) := by decide +kernel
theorem dX1_isBetter_51 : decode cX1_isBetter 51 = .ok (.invokevirtual 62, 3) := by decide +kernel
theorem dX1_isBetter_54 : decode cX1_isBetter 54 = .ok (.if_icmp .le 7, 3) := by decide +kernel
theorem dX1_isBetter_57 : decode cX1_isBetter 57 = .ok (.iconst 1, 1) := by decide +kernel
theorem dX1_isBetter_58 : decode cX1_isBetter 58 = .ok (.goto 4, 3) := by decide +kernel
theorem dX1_isBetter_61 : decode cX1_isBetter 61 = .ok (.iconst 0, 1) := by decide +kernel
theorem dX1_isBetter_62 : decode cX1_isBetter 62 = .ok (.ireturn, 1) := by decide +kernel
set_option maxRecDepth 20000 in
theorem ggX3_init_X4_init : GoodIn wsX3_init wsX4_init := goodIn_ca (goodIn_r _ [10, 11, 2, 3, 12, 13, 14, 15, 16, 17, 18, 19, 20, 21, 22, 23, 24, 25, 26, 27, 28, 29, 30, 31, 32, 33, 34, 35, 36, 37, 38, 39, 40, 41, 42, 43, 44, 45, 46, 47, 48, 49, 50, 51, 52, 53, 54, 55, 68, 69, 59, 60, 61, 62, 63, 64, 65, 66, 67, 70, 71, 72, 73, 74] (by decide +kernel) (by decide +kernel)) (goodIn_sub (fun _ h => List.mem_cons_of_mem _ (List.mem_append_right _ h)) (by decide +kernel))
set_option maxRecDepth 20000 in
theorem gX3_init_X4_init : GoodIn wsX3_init (wsX4_init) := ggX3_init_X4_init
theorem dX3_init_0 : decode cX3_init 0 = .ok (.aload_n 0, 1) := by decide +kernel
theorem dX3_init_1 : decode cX3_init 1 = .ok (.invokespecial 1, 3) := by decide +kernel
theorem dX3_init_4 : decode cX3_init 4 = .ok (.aload_n 0, 1) := by decide +kernel
theorem dX3_init_5 : decode cX3_init 5 = .ok (.bipush 8, 2) := by decide +kernel
theorem dX3_init_7 : decode cX3_init 7 = .ok (.anewarray 9, 3) := by decide +kernel
theorem dX3_init_10 : decode cX3_init 10 = .ok (.putfield 11, 3) := by decide +kernel
theorem dX3_init_13 : decode cX3_init 13 = .ok (.iconst 0, 1) := by decide +kernel
theorem dX3_init_14 : decode cX3_init 14 = .ok (.istore_n 1, 1) := by decide +kernel
theorem dX3_init_15 : decode cX3_init 15 = .ok (.iload_n 1, 1) := by decide +kernel
theorem dX3_init_16 : decode cX3_init 16 = .ok (.aload_n 0, 1) := by decide +kernel
theorem dX3_init_17 : decode cX3_init 17 = .ok (.getfield 11, 3) := by decide +kernel
theorem dX3_init_20 : decode cX3_init 20 = .ok (.arraylength, 1) := by decide +kernel
theorem dX3_init_21 : decode cX3_init 21 = .ok (.if_icmp .ge 22, 3) := by decide +kernel
theorem dX3_init_24 : decode cX3_init 24 = .ok (.aload_n 0, 1) := by decide +kernel
theorem dX3_init_25 : decode cX3_init 25 = .ok (.getfield 11, 3) := by decide +kernel
theorem dX3_init_28 : decode cX3_init 28 = .ok (.iload_n 1, 1) := by decide +kernel
theorem dX3_init_29 : decode cX3_init 29 = .ok (.new 9, 3) := by decide +kernel
theorem dX3_init_32 : decode cX3_init 32 = .ok (.dup, 1) := by decide +kernel
theorem dX3_init_33 : decode cX3_init 33 = .ok (.invokespecial 15, 3) := by decide +kernel
theorem dX3_init_36 : decode cX3_init 36 = .ok (.aastore, 1) := by decide +kernel
theorem dX3_init_37 : decode cX3_init 37 = .ok (.iinc 1 1, 3) := by decide +kernel
theorem dX3_init_40 : decode cX3_init 40 = .ok (.goto (-25), 3) := by decide +kernel
theorem dX3_init_43 : decode cX3_init 43 = .ok (.return_, 1) := by decide +kernel
set_option maxRecDepth 20000 in
theorem ggX3_keep_X3_newestKept : GoodIn wsX3_keep wsX3_newestKept := goodIn_r _ [11, 1, 12, 53, 54, 55] (by decide +kernel) (by decide +kernel)
set_option maxRecDepth 20000 in
theorem gX3_keep_X3_newestKept : GoodIn wsX3_keep (wsV RX3 29 RX3 yX3_newestKept wsX3_newestKept) := goodIn_app (goodIn_of _ (by decide +kernel)) ggX3_keep_X3_newestKept
set_option maxRecDepth 20000 in
theorem ggX3_keep_X4_copyFrom : GoodIn wsX3_keep wsX4_copyFrom := goodIn_r _ [17, 18, 19, 20, 21, 22, 23, 24, 25, 26, 27, 28, 29, 30, 31, 32, 4, 5, 6, 33, 34, 35, 36, 37, 38, 39, 40, 41, 42, 43, 44, 45, 46, 47, 48, 49, 50, 51, 52, 56, 57, 58, 59, 60, 61, 62, 63, 64, 65, 66, 67, 68, 69, 70, 71] (by decide +kernel) (by decide +kernel)
set_option maxRecDepth 20000 in
theorem gX3_keep_X4_copyFrom : GoodIn wsX3_keep (wsV RX3 33 RX4 yX4_copyFrom wsX4_copyFrom) := goodIn_app (goodIn_of _ (by decide +kernel)) ggX3_keep_X4_copyFrom
theorem dX3_keep_0 : decode cX3_keep 0 = .ok (.aload_n 0, 1) := by decide +kernel
theorem dX3_keep_1 : decode cX3_keep 1 = .ok (.aload_n 0, 1) := by decide +kernel
theorem dX3_keep_2 : decode cX3_keep 2 = .ok (.getfield 16, 3) := by decide +kernel
theorem dX3_keep_5 : decode cX3_keep 5 = .ok (.iconst 1, 1) := by decide +kernel
theorem dX3_keep_6 : decode cX3_keep 6 = .ok (.iadd, 1) := by decide +kernel
theorem dX3_keep_7 : decode cX3_keep 7 = .ok (.bipush 8, 2) := by decide +kernel
theorem dX3_keep_9 : decode cX3_keep 9 = .ok (.irem, 1) := by decide +kernel
theorem dX3_keep_10 : decode cX3_keep 10 = .ok (.putfield 16, 3) := by decide +kernel
theorem dX3_keep_13 : decode cX3_keep 13 = .ok (.aload_n 0, 1) := by decide +kernel
theorem dX3_keep_14 : decode cX3_keep 14 = .ok (.aload_n 0, 1) := by decide +kernel
theorem dX3_keep_15 : decode cX3_keep 15 = .ok (.getfield 20, 3) := by decide +kernel
theorem dX3_keep_18 : decode cX3_keep 18 = .ok (.iconst 1, 1) := by decide +kernel
theorem dX3_keep_19 : decode cX3_keep 19 = .ok (.iadd, 1) := by decide +kernel
theorem dX3_keep_20 : decode cX3_keep 20 = .ok (.bipush 8, 2) := by decide +kernel
theorem dX3_keep_22 : decode cX3_keep 22 = .ok (.invokestatic 23, 3) := by decide +kernel
theorem dX3_keep_25 : decode cX3_keep 25 = .ok (.putfield 20, 3) := by decide +kernel
theorem dX3_keep_28 : decode cX3_keep 28 = .ok (.aload_n 0, 1) := by decide +kernel
theorem dX3_keep_29 : decode cX3_keep 29 = .ok (.invokevirtual 29, 3) := by decide +kernel
theorem dX3_keep_32 : decode cX3_keep 32 = .ok (.astore_n 2, 1) := by decide +kernel
theorem dX3_keep_33 : decode cX3_keep 33 = .ok (.aload_n 2, 1) := by decide +kernel
theorem dX3_keep_34 : decode cX3_keep 34 = .ok (.ifnull 8, 3) := by decide +kernel
theorem dX3_keep_37 : decode cX3_keep 37 = .ok (.aload_n 2, 1) := by decide +kernel
theorem dX3_keep_38 : decode cX3_keep 38 = .ok (.aload_n 1, 1) := by decide +kernel
theorem dX3_keep_39 : decode cX3_keep 39 = .ok (.invokevirtual 33, 3) := by decide +kernel
theorem dX3_keep_42 : decode cX3_keep 42 = .ok (.return_, 1) := by decide +kernel
set_option maxRecDepth 20000 in
theorem ggX3_takeBack_X3_newestKept : GoodIn wsX3_takeBack wsX3_newestKept := goodIn_r _ [7, 1, 8, 52, 53, 54] (by decide +kernel) (by decide +kernel)
set_option maxRecDepth 20000 in
theorem gX3_takeBack_X3_newestKept : GoodIn wsX3_takeBack (wsV RX3 29 RX3 yX3_newestKept wsX3_newestKept) := goodIn_app (goodIn_of _ (by decide +kernel)) ggX3_takeBack_X3_newestKept
set_option maxRecDepth 20000 in
theorem ggX3_takeBack_X4_copyFrom : GoodIn wsX3_takeBack wsX4_copyFrom := goodIn_r _ [13, 14, 15, 16, 17, 18, 19, 20, 21, 22, 23, 24, 25, 26, 27, 28, 29, 30, 31, 32, 33, 34, 35, 36, 37, 38, 39, 40, 41, 42, 43, 44, 45, 46, 47, 48, 49, 50, 51, 55, 56, 57, 58, 59, 60, 61, 62, 63, 64, 65, 66, 67, 68, 69, 70] (by decide +kernel) (by decide +kernel)
set_option maxRecDepth 20000 in
theorem gX3_takeBack_X4_copyFrom : GoodIn wsX3_takeBack (wsV RX3 33 RX4 yX4_copyFrom wsX4_copyFrom) := goodIn_app (goodIn_of _ (by decide +kernel)) ggX3_takeBack_X4_copyFrom
theorem dX3_takeBack_0 : decode cX3_takeBack 0 = .ok (.aload_n 0, 1) := by decide +kernel
theorem dX3_takeBack_1 : decode cX3_takeBack 1 = .ok (.invokevirtual 29, 3) := by decide +kernel
theorem dX3_takeBack_4 : decode cX3_takeBack 4 = .ok (.astore_n 2, 1) := by decide +kernel
theorem dX3_takeBack_5 : decode cX3_takeBack 5 = .ok (.aload_n 2, 1) := by decide +kernel
theorem dX3_takeBack_6 : decode cX3_takeBack 6 = .ok (.ifnull 8, 3) := by decide +kernel
theorem dX3_takeBack_9 : decode cX3_takeBack 9 = .ok (.aload_n 1, 1) := by decide +kernel
theorem dX3_takeBack_10 : decode cX3_takeBack 10 = .ok (.aload_n 2, 1) := by decide +kernel
theorem dX3_takeBack_11 : decode cX3_takeBack 11 = .ok (.invokevirtual 33, 3) := by decide +kernel
theorem dX3_takeBack_14 : decode cX3_takeBack 14 = .ok (.aload_n 0, 1) := by decide +kernel
theorem dX3_takeBack_15 : decode cX3_takeBack 15 = .ok (.aload_n 0, 1) := by decide +kernel
theorem dX3_takeBack_16 : decode cX3_takeBack 16 = .ok (.getfield 16, 3) := by decide +kernel
theorem dX3_takeBack_19 : decode cX3_takeBack 19 = .ok (.bipush 8, 2) := by decide +kernel
theorem dX3_takeBack_21 : decode cX3_takeBack 21 = .ok (.iadd, 1) := by decide +kernel
theorem dX3_takeBack_22 : decode cX3_takeBack 22 = .ok (.iconst 1, 1) := by decide +kernel
theorem dX3_takeBack_23 : decode cX3_takeBack 23 = .ok (.isub, 1) := by decide +kernel
theorem dX3_takeBack_24 : decode cX3_takeBack 24 = .ok (.bipush 8, 2) := by decide +kernel
theorem dX3_takeBack_26 : decode cX3_takeBack 26 = .ok (.irem, 1) := by decide +kernel
theorem dX3_takeBack_27 : decode cX3_takeBack 27 = .ok (.putfield 16, 3) := by decide +kernel
theorem dX3_takeBack_30 : decode cX3_takeBack 30 = .ok (.aload_n 0, 1) := by decide +kernel
theorem dX3_takeBack_31 : decode cX3_takeBack 31 = .ok (.dup, 1) := by decide +kernel
theorem dX3_takeBack_32 : decode cX3_takeBack 32 = .ok (.getfield 20, 3) := by decide +kernel
theorem dX3_takeBack_35 : decode cX3_takeBack 35 = .ok (.iconst 1, 1) := by decide +kernel
theorem dX3_takeBack_36 : decode cX3_takeBack 36 = .ok (.isub, 1) := by decide +kernel
theorem dX3_takeBack_37 : decode cX3_takeBack 37 = .ok (.putfield 20, 3) := by decide +kernel
theorem dX3_takeBack_40 : decode cX3_takeBack 40 = .ok (.return_, 1) := by decide +kernel
theorem dX3_forget_0 : decode cX3_forget 0 = .ok (.aload_n 0, 1) := by decide +kernel
theorem dX3_forget_1 : decode cX3_forget 1 = .ok (.iconst 0, 1) := by decide +kernel
theorem dX3_forget_2 : decode cX3_forget 2 = .ok (.putfield 20, 3) := by decide +kernel
theorem dX3_forget_5 : decode cX3_forget 5 = .ok (.return_, 1) := by decide +kernel
theorem dX3_newestKept_0 : decode cX3_newestKept 0 = .ok (.aload_n 0, 1) := by decide +kernel
theorem dX3_newestKept_1 : decode cX3_newestKept 1 = .ok (.getfield 16, 3) := by decide +kernel
theorem dX3_newestKept_4 : decode cX3_newestKept 4 = .ok (.ifCond .lt 27, 3) := by decide +kernel
theorem dX3_newestKept_7 : decode cX3_newestKept 7 = .ok (.aload_n 0, 1) := by decide +kernel
theorem dX3_newestKept_8 : decode cX3_newestKept 8 = .ok (.getfield 16, 3) := by decide +kernel
theorem dX3_newestKept_11 : decode cX3_newestKept 11 = .ok (.aload_n 0, 1) := by decide +kernel
theorem dX3_newestKept_12 : decode cX3_newestKept 12 = .ok (.getfield 11, 3) := by decide +kernel
theorem dX3_newestKept_15 : decode cX3_newestKept 15 = .ok (.arraylength, 1) := by decide +kernel
theorem dX3_newestKept_16 : decode cX3_newestKept 16 = .ok (.if_icmp .ge 15, 3) := by decide +kernel
theorem dX3_newestKept_19 : decode cX3_newestKept 19 = .ok (.aload_n 0, 1) := by decide +kernel
theorem dX3_newestKept_20 : decode cX3_newestKept 20 = .ok (.getfield 11, 3) := by decide +kernel
theorem dX3_newestKept_23 : decode cX3_newestKept 23 = .ok (.aload_n 0, 1) := by decide +kernel
theorem dX3_newestKept_24 : decode cX3_newestKept 24 = .ok (.getfield 16, 3) := by decide +kernel
theorem dX3_newestKept_27 : decode cX3_newestKept 27 = .ok (.aaload, 1) := by decide +kernel
theorem dX3_newestKept_28 : decode cX3_newestKept 28 = .ok (.goto 4, 3) := by decide +kernel
theorem dX3_newestKept_31 : decode cX3_newestKept 31 = .ok (.aconst_null, 1) := by decide +kernel
theorem dX3_newestKept_32 : decode cX3_newestKept 32 = .ok (.areturn, 1) := by decide +kernel
set_option maxRecDepth 20000 in
theorem ggX4_init_X6_init : GoodIn wsX4_init wsX6_init := goodIn_r _ [22, 23, 2, 3, 24, 25, 26, 27, 28, 29, 30, 48, 49] (by decide +kernel) (by decide +kernel)
set_option maxRecDepth 20000 in
theorem gX4_init_X6_init : GoodIn wsX4_init (wsX6_init) := ggX4_init_X6_init
set_option maxRecDepth 20000 in
theorem ggX4_init_X0_init : GoodIn wsX4_init wsX0_init := goodIn_r _ [32, 33, 2, 3, 34, 5, 6, 35, 36, 37, 21, 22, 23, 24, 25, 26, 27, 28, 29, 30, 48, 49, 59, 60, 61] (by decide +kernel) (by decide +kernel)
set_option maxRecDepth 20000 in
theorem gX4_init_X0_init_n28 : GoodIn wsX4_init (wsX0_init) := ggX4_init_X0_init
set_option maxRecDepth 20000 in
theorem ggX4_init_X1_init : GoodIn wsX4_init wsX1_init := goodIn_r _ [39, 40, 2, 3, 41, 5, 6, 42, 43, 21, 22, 23, 24, 25, 26, 27, 28, 29, 30, 48, 49, 62, 63] (by decide +kernel) (by decide +kernel)
set_option maxRecDepth 20000 in
theorem gX4_init_X1_init_n35 : GoodIn wsX4_init (wsX1_init) := ggX4_init_X1_init
set_option maxRecDepth 20000 in
theorem ggX4_init_X6_put : GoodIn wsX4_init wsX6_put := goodIn_ca (goodIn_r _ [47, 24, 30, 48, 49] (by decide +kernel) (by decide +kernel)) (goodIn_sub (fun _ h => List.mem_cons_of_mem _ (List.mem_append_right _ h)) (by decide +kernel))
set_option maxRecDepth 20000 in
theorem gX4_init_X6_put : GoodIn wsX4_init (wsV RX4 47 RX6 yX6_put wsX6_put) := goodIn_app (goodIn_of _ (by decide +kernel)) ggX4_init_X6_put
theorem dX4_init_0 : decode cX4_init 0 = .ok (.aload_n 0, 1) := by decide +kernel
theorem dX4_init_1 : decode cX4_init 1 = .ok (.invokespecial 3, 3) := by decide +kernel
theorem dX4_init_4 : decode cX4_init 4 = .ok (.aload_n 0, 1) := by decide +kernel
theorem dX4_init_5 : decode cX4_init 5 = .ok (.new 9, 3) := by decide +kernel
theorem dX4_init_8 : decode cX4_init 8 = .ok (.dup, 1) := by decide +kernel
theorem dX4_init_9 : decode cX4_init 9 = .ok (.iconst 1, 1) := by decide +kernel
theorem dX4_init_10 : decode cX4_init 10 = .ok (.iconst 5, 1) := by decide +kernel
theorem dX4_init_11 : decode cX4_init 11 = .ok (.invokespecial 11, 3) := by decide +kernel
theorem dX4_init_14 : decode cX4_init 14 = .ok (.putfield 14, 3) := by decide +kernel
theorem dX4_init_17 : decode cX4_init 17 = .ok (.aload_n 0, 1) := by decide +kernel
theorem dX4_init_18 : decode cX4_init 18 = .ok (.new 9, 3) := by decide +kernel
theorem dX4_init_21 : decode cX4_init 21 = .ok (.dup, 1) := by decide +kernel
theorem dX4_init_22 : decode cX4_init 22 = .ok (.bipush 6, 2) := by decide +kernel
theorem dX4_init_24 : decode cX4_init 24 = .ok (.bipush 7, 2) := by decide +kernel
theorem dX4_init_26 : decode cX4_init 26 = .ok (.invokespecial 11, 3) := by decide +kernel
theorem dX4_init_29 : decode cX4_init 29 = .ok (.putfield 20, 3) := by decide +kernel
theorem dX4_init_32 : decode cX4_init 32 = .ok (.aload_n 0, 1) := by decide +kernel
theorem dX4_init_33 : decode cX4_init 33 = .ok (.new 9, 3) := by decide +kernel
theorem dX4_init_36 : decode cX4_init 36 = .ok (.dup, 1) := by decide +kernel
theorem dX4_init_37 : decode cX4_init 37 = .ok (.bipush 10, 2) := by decide +kernel
theorem dX4_init_39 : decode cX4_init 39 = .ok (.iconst 5, 1) := by decide +kernel
theorem dX4_init_40 : decode cX4_init 40 = .ok (.invokespecial 11, 3) := by decide +kernel
theorem dX4_init_43 : decode cX4_init 43 = .ok (.putfield 23, 3) := by decide +kernel
theorem dX4_init_46 : decode cX4_init 46 = .ok (.aload_n 0, 1) := by decide +kernel
theorem dX4_init_47 : decode cX4_init 47 = .ok (.new 26, 3) := by decide +kernel
theorem dX4_init_50 : decode cX4_init 50 = .ok (.dup, 1) := by decide +kernel
theorem dX4_init_51 : decode cX4_init 51 = .ok (.invokespecial 28, 3) := by decide +kernel
theorem dX4_init_54 : decode cX4_init 54 = .ok (.putfield 29, 3) := by decide +kernel
theorem dX4_init_57 : decode cX4_init 57 = .ok (.aload_n 0, 1) := by decide +kernel
theorem dX4_init_58 : decode cX4_init 58 = .ok (.new 33, 3) := by decide +kernel
theorem dX4_init_61 : decode cX4_init 61 = .ok (.dup, 1) := by decide +kernel
theorem dX4_init_62 : decode cX4_init 62 = .ok (.invokespecial 35, 3) := by decide +kernel
theorem dX4_init_65 : decode cX4_init 65 = .ok (.putfield 36, 3) := by decide +kernel
theorem dX4_init_68 : decode cX4_init 68 = .ok (.aload_n 0, 1) := by decide +kernel
theorem dX4_init_69 : decode cX4_init 69 = .ok (.new 9, 3) := by decide +kernel
theorem dX4_init_72 : decode cX4_init 72 = .ok (.dup, 1) := by decide +kernel
theorem dX4_init_73 : decode cX4_init 73 = .ok (.iconst 1, 1) := by decide +kernel
theorem dX4_init_74 : decode cX4_init 74 = .ok (.iconst 5, 1) := by decide +kernel
theorem dX4_init_75 : decode cX4_init 75 = .ok (.invokespecial 11, 3) := by decide +kernel
theorem dX4_init_78 : decode cX4_init 78 = .ok (.putfield 40, 3) := by decide +kernel
theorem dX4_init_81 : decode cX4_init 81 = .ok (.aload_n 0, 1) := by decide +kernel
theorem dX4_init_82 : decode cX4_init 82 = .ok (.iconst 1, 1) := by decide +kernel
theorem dX4_init_83 : decode cX4_init 83 = .ok (.putfield 43, 3) := by decide +kernel
theorem dX4_init_86 : decode cX4_init 86 = .ok (.aload_n 0, 1) := by decide +kernel
theorem dX4_init_87 : decode cX4_init 87 = .ok (.getfield 14, 3) := by decide +kernel
theorem dX4_init_90 : decode cX4_init 90 = .ok (.iconst 0, 1) := by decide +kernel
theorem dX4_init_91 : decode cX4_init 91 = .ok (.iconst 0, 1) := by decide +kernel
theorem dX4_init_92 : decode cX4_init 92 = .ok (.bipush 100, 2) := by decide +kernel
theorem dX4_init_94 : decode cX4_init 94 = .ok (.invokevirtual 47, 3) := by decide +kernel
theorem dX4_init_97 : decode cX4_init 97 = .ok (.aload_n 0, 1) := by decide +kernel
theorem dX4_init_98 : decode cX4_init 98 = .ok (.getfield 14, 3) := by decide +kernel
theorem dX4_init_101 : decode cX4_init 101 = .ok (.iconst 0, 1) := by decide +kernel
theorem dX4_init_102 : decode cX4_init 102 = .ok (.iconst 1, 1) := by decide +kernel
theorem dX4_init_103 : decode cX4_init 103 = .ok (.bipush 50, 2) := by decide +kernel
theorem dX4_init_105 : decode cX4_init 105 = .ok (.invokevirtual 47, 3) := by decide +kernel
theorem dX4_init_108 : decode cX4_init 108 = .ok (.aload_n 0, 1) := by decide +kernel
theorem dX4_init_109 : decode cX4_init 109 = .ok (.getfield 14, 3) := by decide +kernel
theorem dX4_init_112 : decode cX4_init 112 = .ok (.iconst 0, 1) := by decide +kernel
theorem dX4_init_113 : decode cX4_init 113 = .ok (.iconst 2, 1) := by decide +kernel
theorem dX4_init_114 : decode cX4_init 114 = .ok (.bipush 50, 2) := by decide +kernel
theorem dX4_init_116 : decode cX4_init 116 = .ok (.invokevirtual 47, 3) := by decide +kernel
theorem dX4_init_119 : decode cX4_init 119 = .ok (.aload_n 0, 1) := by decide +kernel
theorem dX4_init_120 : decode cX4_init 120 = .ok (.getfield 14, 3) := by decide +kernel
theorem dX4_init_123 : decode cX4_init 123 = .ok (.iconst 0, 1) := by decide +kernel
theorem dX4_init_124 : decode cX4_init 124 = .ok (.iconst 3, 1) := by decide +kernel
theorem dX4_init_125 : decode cX4_init 125 = .ok (.bipush 10, 2) := by decide +kernel
theorem dX4_init_127 : decode cX4_init 127 = .ok (.invokevirtual 47, 3) := by decide +kernel
theorem dX4_init_130 : decode cX4_init 130 = .ok (.return_, 1) := by decide +kernel
set_option maxRecDepth 20000 in
theorem ggX4_copyFrom_X6_copyFrom : GoodIn wsX4_copyFrom wsX6_copyFrom := goodIn_r _ [13, 14, 15, 16, 17, 18, 19, 20, 21, 22, 48, 49] (by decide +kernel) (by decide +kernel)
set_option maxRecDepth 20000 in
theorem gX4_copyFrom_X6_copyFrom : GoodIn wsX4_copyFrom (wsV RX4 51 RX6 yX6_copyFrom wsX6_copyFrom) := goodIn_app (goodIn_of _ (by decide +kernel)) ggX4_copyFrom_X6_copyFrom
set_option maxRecDepth 20000 in
theorem ggX4_copyFrom_X0_copyFrom : GoodIn wsX4_copyFrom wsX0_copyFrom := goodIn_r _ [27, 28, 29, 30, 10, 11, 12, 13, 14, 15, 16, 17, 18, 19, 20, 21, 22, 50, 51, 52, 48, 49] (by decide +kernel) (by decide +kernel)
set_option maxRecDepth 20000 in
theorem gX4_copyFrom_X0_copyFrom : GoodIn wsX4_copyFrom (wsV RX4 55 RX0 yX0_copyFrom wsX0_copyFrom) := goodIn_app (goodIn_of _ (by decide +kernel)) ggX4_copyFrom_X0_copyFrom
set_option maxRecDepth 20000 in
theorem ggX4_copyFrom_X1_copyFrom : GoodIn wsX4_copyFrom wsX1_copyFrom := goodIn_r _ [35, 36, 37, 38, 10, 11, 12, 13, 14, 15, 16, 17, 18, 19, 20, 21, 22, 53, 54, 48, 49] (by decide +kernel) (by decide +kernel)
set_option maxRecDepth 20000 in
theorem gX4_copyFrom_X1_copyFrom : GoodIn wsX4_copyFrom (wsV RX4 58 RX1 yX1_copyFrom wsX1_copyFrom) := goodIn_app (goodIn_of _ (by decide +kernel)) ggX4_copyFrom_X1_copyFrom
theorem dX4_copyFrom_0 : decode cX4_copyFrom 0 = .ok (.aload_n 0, 1) := by decide +kernel
theorem dX4_copyFrom_1 : decode cX4_copyFrom 1 = .ok (.getfield 14, 3) := by decide +kernel
theorem dX4_copyFrom_4 : decode cX4_copyFrom 4 = .ok (.aload_n 1, 1) := by decide +kernel
theorem dX4_copyFrom_5 : decode cX4_copyFrom 5 = .ok (.getfield 14, 3) := by decide +kernel
theorem dX4_copyFrom_8 : decode cX4_copyFrom 8 = .ok (.invokevirtual 51, 3) := by decide +kernel
theorem dX4_copyFrom_11 : decode cX4_copyFrom 11 = .ok (.aload_n 0, 1) := by decide +kernel
theorem dX4_copyFrom_12 : decode cX4_copyFrom 12 = .ok (.getfield 20, 3) := by decide +kernel
theorem dX4_copyFrom_15 : decode cX4_copyFrom 15 = .ok (.aload_n 1, 1) := by decide +kernel
theorem dX4_copyFrom_16 : decode cX4_copyFrom 16 = .ok (.getfield 20, 3) := by decide +kernel
theorem dX4_copyFrom_19 : decode cX4_copyFrom 19 = .ok (.invokevirtual 51, 3) := by decide +kernel
theorem dX4_copyFrom_22 : decode cX4_copyFrom 22 = .ok (.aload_n 0, 1) := by decide +kernel
theorem dX4_copyFrom_23 : decode cX4_copyFrom 23 = .ok (.getfield 23, 3) := by decide +kernel
theorem dX4_copyFrom_26 : decode cX4_copyFrom 26 = .ok (.aload_n 1, 1) := by decide +kernel
theorem dX4_copyFrom_27 : decode cX4_copyFrom 27 = .ok (.getfield 23, 3) := by decide +kernel
theorem dX4_copyFrom_30 : decode cX4_copyFrom 30 = .ok (.invokevirtual 51, 3) := by decide +kernel
theorem dX4_copyFrom_33 : decode cX4_copyFrom 33 = .ok (.aload_n 0, 1) := by decide +kernel
theorem dX4_copyFrom_34 : decode cX4_copyFrom 34 = .ok (.getfield 29, 3) := by decide +kernel
theorem dX4_copyFrom_37 : decode cX4_copyFrom 37 = .ok (.aload_n 1, 1) := by decide +kernel
theorem dX4_copyFrom_38 : decode cX4_copyFrom 38 = .ok (.getfield 29, 3) := by decide +kernel
theorem dX4_copyFrom_41 : decode cX4_copyFrom 41 = .ok (.invokevirtual 55, 3) := by decide +kernel
theorem dX4_copyFrom_44 : decode cX4_copyFrom 44 = .ok (.aload_n 0, 1) := by decide +kernel
theorem dX4_copyFrom_45 : decode cX4_copyFrom 45 = .ok (.getfield 36, 3) := by decide +kernel
theorem dX4_copyFrom_48 : decode cX4_copyFrom 48 = .ok (.aload_n 1, 1) := by decide +kernel
theorem dX4_copyFrom_49 : decode cX4_copyFrom 49 = .ok (.getfield 36, 3) := by decide +kernel
theorem dX4_copyFrom_52 : decode cX4_copyFrom 52 = .ok (.invokevirtual 58, 3) := by decide +kernel
theorem dX4_copyFrom_55 : decode cX4_copyFrom 55 = .ok (.aload_n 0, 1) := by decide +kernel
theorem dX4_copyFrom_56 : decode cX4_copyFrom 56 = .ok (.aload_n 1, 1) := by decide +kernel
theorem dX4_copyFrom_57 : decode cX4_copyFrom 57 = .ok (.getfield 61, 3) := by decide +kernel
theorem dX4_copyFrom_60 : decode cX4_copyFrom 60 = .ok (.putfield 61, 3) := by decide +kernel
theorem dX4_copyFrom_63 : decode cX4_copyFrom 63 = .ok (.aload_n 0, 1) := by decide +kernel
theorem dX4_copyFrom_64 : decode cX4_copyFrom 64 = .ok (.aload_n 1, 1) := by decide +kernel
theorem dX4_copyFrom_65 : decode cX4_copyFrom 65 = .ok (.getfield 43, 3) := by decide +kernel
theorem dX4_copyFrom_68 : decode cX4_copyFrom 68 = .ok (.putfield 43, 3) := by decide +kernel
theorem dX4_copyFrom_71 : decode cX4_copyFrom 71 = .ok (.aload_n 0, 1) := by decide +kernel
theorem dX4_copyFrom_72 : decode cX4_copyFrom 72 = .ok (.aload_n 1, 1) := by decide +kernel
theorem dX4_copyFrom_73 : decode cX4_copyFrom 73 = .ok (.getfield 64, 3) := by decide +kernel
theorem dX4_copyFrom_76 : decode cX4_copyFrom 76 = .ok (.putfield 64, 3) := by decide +kernel
theorem dX4_copyFrom_79 : decode cX4_copyFrom 79 = .ok (.return_, 1) := by decide +kernel
set_option maxRecDepth 20000 in
theorem ggX4_setting_X6_get : GoodIn wsX4_setting wsX6_get := goodIn_ca (goodIn_r _ [6, 7, 8, 18, 19] (by decide +kernel) (by decide +kernel)) (goodIn_sub (fun _ h => List.mem_cons_of_mem _ (List.mem_append_right _ h)) (by decide +kernel))
set_option maxRecDepth 20000 in
theorem gX4_setting_X6_get : GoodIn wsX4_setting (wsV RX4 67 RX6 yX6_get wsX6_get) := goodIn_app (goodIn_of _ (by decide +kernel)) ggX4_setting_X6_get
theorem dX4_setting_0 : decode cX4_setting 0 = .ok (.aload_n 0, 1) := by decide +kernel
theorem dX4_setting_1 : decode cX4_setting 1 = .ok (.getfield 14, 3) := by decide +kernel
theorem dX4_setting_4 : decode cX4_setting 4 = .ok (.iconst 0, 1) := by decide +kernel
theorem dX4_setting_5 : decode cX4_setting 5 = .ok (.iload_n 1, 1) := by decide +kernel
theorem dX4_setting_6 : decode cX4_setting 6 = .ok (.invokevirtual 67, 3) := by decide +kernel
theorem dX4_setting_9 : decode cX4_setting 9 = .ok (.ireturn, 1) := by decide +kernel
set_option maxRecDepth 20000 in
theorem ggX4_addLast_X6_put : GoodIn wsX4_addLast wsX6_put := goodIn_ca (goodIn_r _ [7, 8, 9, 19, 20] (by decide +kernel) (by decide +kernel)) (goodIn_sub (fun _ h => List.mem_cons_of_mem _ (List.mem_append_right _ h)) (by decide +kernel))
set_option maxRecDepth 20000 in
theorem gX4_addLast_X6_put : GoodIn wsX4_addLast (wsV RX4 47 RX6 yX6_put wsX6_put) := goodIn_app (goodIn_of _ (by decide +kernel)) ggX4_addLast_X6_put
theorem dX4_addLast_0 : decode cX4_addLast 0 = .ok (.aload_n 0, 1) := by decide +kernel
theorem dX4_addLast_1 : decode cX4_addLast 1 = .ok (.getfield 61, 3) := by decide +kernel
theorem dX4_addLast_4 : decode cX4_addLast 4 = .ok (.istore 6, 2) := by decide +kernel
theorem dX4_addLast_6 : decode cX4_addLast 6 = .ok (.aload_n 0, 1) := by decide +kernel
theorem dX4_addLast_7 : decode cX4_addLast 7 = .ok (.getfield 20, 3) := by decide +kernel
theorem dX4_addLast_10 : decode cX4_addLast 10 = .ok (.iload 6, 2) := by decide +kernel
theorem dX4_addLast_12 : decode cX4_addLast 12 = .ok (.iconst 0, 1) := by decide +kernel
theorem dX4_addLast_13 : decode cX4_addLast 13 = .ok (.iload_n 1, 1) := by decide +kernel
theorem dX4_addLast_14 : decode cX4_addLast 14 = .ok (.invokevirtual 47, 3) := by decide +kernel
theorem dX4_addLast_17 : decode cX4_addLast 17 = .ok (.aload_n 0, 1) := by decide +kernel
theorem dX4_addLast_18 : decode cX4_addLast 18 = .ok (.getfield 20, 3) := by decide +kernel
theorem dX4_addLast_21 : decode cX4_addLast 21 = .ok (.iload 6, 2) := by decide +kernel
theorem dX4_addLast_23 : decode cX4_addLast 23 = .ok (.iconst 1, 1) := by decide +kernel
theorem dX4_addLast_24 : decode cX4_addLast 24 = .ok (.iload_n 2, 1) := by decide +kernel
theorem dX4_addLast_25 : decode cX4_addLast 25 = .ok (.invokevirtual 47, 3) := by decide +kernel
theorem dX4_addLast_28 : decode cX4_addLast 28 = .ok (.aload_n 0, 1) := by decide +kernel
theorem dX4_addLast_29 : decode cX4_addLast 29 = .ok (.getfield 20, 3) := by decide +kernel
theorem dX4_addLast_32 : decode cX4_addLast 32 = .ok (.iload 6, 2) := by decide +kernel
theorem dX4_addLast_34 : decode cX4_addLast 34 = .ok (.iconst 2, 1) := by decide +kernel
theorem dX4_addLast_35 : decode cX4_addLast 35 = .ok (.iload_n 3, 1) := by decide +kernel
theorem dX4_addLast_36 : decode cX4_addLast 36 = .ok (.invokevirtual 47, 3) := by decide +kernel
theorem dX4_addLast_39 : decode cX4_addLast 39 = .ok (.aload_n 0, 1) := by decide +kernel
theorem dX4_addLast_40 : decode cX4_addLast 40 = .ok (.getfield 20, 3) := by decide +kernel
theorem dX4_addLast_43 : decode cX4_addLast 43 = .ok (.iload 6, 2) := by decide +kernel
theorem dX4_addLast_45 : decode cX4_addLast 45 = .ok (.iconst 3, 1) := by decide +kernel
theorem dX4_addLast_46 : decode cX4_addLast 46 = .ok (.iload 4, 2) := by decide +kernel
theorem dX4_addLast_48 : decode cX4_addLast 48 = .ok (.invokevirtual 47, 3) := by decide +kernel
theorem dX4_addLast_51 : decode cX4_addLast 51 = .ok (.aload_n 0, 1) := by decide +kernel
theorem dX4_addLast_52 : decode cX4_addLast 52 = .ok (.getfield 20, 3) := by decide +kernel
theorem dX4_addLast_55 : decode cX4_addLast 55 = .ok (.iload 6, 2) := by decide +kernel
theorem dX4_addLast_57 : decode cX4_addLast 57 = .ok (.iconst 4, 1) := by decide +kernel
theorem dX4_addLast_58 : decode cX4_addLast 58 = .ok (.iload 5, 2) := by decide +kernel
theorem dX4_addLast_60 : decode cX4_addLast 60 = .ok (.invokevirtual 47, 3) := by decide +kernel
theorem dX4_addLast_63 : decode cX4_addLast 63 = .ok (.aload_n 0, 1) := by decide +kernel
theorem dX4_addLast_64 : decode cX4_addLast 64 = .ok (.getfield 20, 3) := by decide +kernel
theorem dX4_addLast_67 : decode cX4_addLast 67 = .ok (.iload 6, 2) := by decide +kernel
theorem dX4_addLast_69 : decode cX4_addLast 69 = .ok (.bipush 6, 2) := by decide +kernel
theorem dX4_addLast_71 : decode cX4_addLast 71 = .ok (.iconst 0, 1) := by decide +kernel
theorem dX4_addLast_72 : decode cX4_addLast 72 = .ok (.invokevirtual 47, 3) := by decide +kernel
theorem dX4_addLast_75 : decode cX4_addLast 75 = .ok (.aload_n 0, 1) := by decide +kernel
theorem dX4_addLast_76 : decode cX4_addLast 76 = .ok (.dup, 1) := by decide +kernel
theorem dX4_addLast_77 : decode cX4_addLast 77 = .ok (.getfield 61, 3) := by decide +kernel
theorem dX4_addLast_80 : decode cX4_addLast 80 = .ok (.iconst 1, 1) := by decide +kernel
theorem dX4_addLast_81 : decode cX4_addLast 81 = .ok (.iadd, 1) := by decide +kernel
theorem dX4_addLast_82 : decode cX4_addLast 82 = .ok (.putfield 61, 3) := by decide +kernel
theorem dX4_addLast_85 : decode cX4_addLast 85 = .ok (.iload 6, 2) := by decide +kernel
theorem dX4_addLast_87 : decode cX4_addLast 87 = .ok (.ireturn, 1) := by decide +kernel
set_option maxRecDepth 20000 in
theorem ggX4_removeLast_X6_sum : GoodIn wsX4_removeLast wsX6_sum := goodIn_ca (goodIn_r _ [7, 8, 9, 10, 11, 6, 12, 13, 36, 37] (by decide +kernel) (by decide +kernel)) (goodIn_sub (fun _ h => List.mem_cons_of_mem _ (List.mem_append_right _ h)) (by decide +kernel))
set_option maxRecDepth 20000 in
theorem gX4_removeLast_X6_sum : GoodIn wsX4_removeLast (wsV RX4 71 RX6 yX6_sum wsX6_sum) := goodIn_app (goodIn_of _ (by decide +kernel)) ggX4_removeLast_X6_sum
set_option maxRecDepth 20000 in
theorem ggX4_removeLast_X6_get : GoodIn wsX4_removeLast wsX6_get := goodIn_ca (goodIn_r _ [12, 8, 13, 36, 37] (by decide +kernel) (by decide +kernel)) (goodIn_sub (fun _ h => List.mem_cons_of_mem _ (List.mem_append_right _ h)) (by decide +kernel))
set_option maxRecDepth 20000 in
theorem gX4_removeLast_X6_get : GoodIn wsX4_removeLast (wsV RX4 67 RX6 yX6_get wsX6_get) := goodIn_app (goodIn_of _ (by decide +kernel)) ggX4_removeLast_X6_get
set_option maxRecDepth 20000 in
theorem ggX4_removeLast_X6_move : GoodIn wsX4_removeLast wsX6_move := goodIn_ca (goodIn_r _ [18, 19, 20, 21, 6, 22, 9, 10, 11, 12, 8, 13, 23, 24, 25, 26, 36, 37] (by decide +kernel) (by decide +kernel)) (goodIn_sub (fun _ h => List.mem_cons_of_mem _ (List.mem_append_right _ h)) (by decide +kernel))
set_option maxRecDepth 20000 in
theorem gX4_removeLast_X6_move : GoodIn wsX4_removeLast (wsV RX4 75 RX6 yX6_move wsX6_move) := goodIn_app (goodIn_of _ (by decide +kernel)) ggX4_removeLast_X6_move
theorem dX4_removeLast_0 : decode cX4_removeLast 0 = .ok (.aload_n 0, 1) := by decide +kernel
theorem dX4_removeLast_1 : decode cX4_removeLast 1 = .ok (.dup, 1) := by decide +kernel
theorem dX4_removeLast_2 : decode cX4_removeLast 2 = .ok (.getfield 61, 3) := by decide +kernel
theorem dX4_removeLast_5 : decode cX4_removeLast 5 = .ok (.iconst 1, 1) := by decide +kernel
theorem dX4_removeLast_6 : decode cX4_removeLast 6 = .ok (.isub, 1) := by decide +kernel
theorem dX4_removeLast_7 : decode cX4_removeLast 7 = .ok (.putfield 61, 3) := by decide +kernel
theorem dX4_removeLast_10 : decode cX4_removeLast 10 = .ok (.aload_n 0, 1) := by decide +kernel
theorem dX4_removeLast_11 : decode cX4_removeLast 11 = .ok (.getfield 23, 3) := by decide +kernel
theorem dX4_removeLast_14 : decode cX4_removeLast 14 = .ok (.aload_n 0, 1) := by decide +kernel
theorem dX4_removeLast_15 : decode cX4_removeLast 15 = .ok (.getfield 61, 3) := by decide +kernel
theorem dX4_removeLast_18 : decode cX4_removeLast 18 = .ok (.invokevirtual 71, 3) := by decide +kernel
theorem dX4_removeLast_21 : decode cX4_removeLast 21 = .ok (.istore_n 1, 1) := by decide +kernel
theorem dX4_removeLast_22 : decode cX4_removeLast 22 = .ok (.iconst 0, 1) := by decide +kernel
theorem dX4_removeLast_23 : decode cX4_removeLast 23 = .ok (.istore_n 2, 1) := by decide +kernel
theorem dX4_removeLast_24 : decode cX4_removeLast 24 = .ok (.iload_n 2, 1) := by decide +kernel
theorem dX4_removeLast_25 : decode cX4_removeLast 25 = .ok (.iconst 5, 1) := by decide +kernel
theorem dX4_removeLast_26 : decode cX4_removeLast 26 = .ok (.if_icmp .ge 35, 3) := by decide +kernel
theorem dX4_removeLast_29 : decode cX4_removeLast 29 = .ok (.aload_n 0, 1) := by decide +kernel
theorem dX4_removeLast_30 : decode cX4_removeLast 30 = .ok (.getfield 23, 3) := by decide +kernel
theorem dX4_removeLast_33 : decode cX4_removeLast 33 = .ok (.aload_n 0, 1) := by decide +kernel
theorem dX4_removeLast_34 : decode cX4_removeLast 34 = .ok (.getfield 61, 3) := by decide +kernel
theorem dX4_removeLast_37 : decode cX4_removeLast 37 = .ok (.bipush 6, 2) := by decide +kernel
theorem dX4_removeLast_39 : decode cX4_removeLast 39 = .ok (.iload_n 2, 1) := by decide +kernel
theorem dX4_removeLast_40 : decode cX4_removeLast 40 = .ok (.aload_n 0, 1) := by decide +kernel
theorem dX4_removeLast_41 : decode cX4_removeLast 41 = .ok (.getfield 23, 3) := by decide +kernel
theorem dX4_removeLast_44 : decode cX4_removeLast 44 = .ok (.aload_n 0, 1) := by decide +kernel
theorem dX4_removeLast_45 : decode cX4_removeLast 45 = .ok (.getfield 61, 3) := by decide +kernel
theorem dX4_removeLast_48 : decode cX4_removeLast 48 = .ok (.iload_n 2, 1) := by decide +kernel
theorem dX4_removeLast_49 : decode cX4_removeLast 49 = .ok (.invokevirtual 67, 3) := by decide +kernel
theorem dX4_removeLast_52 : decode cX4_removeLast 52 = .ok (.invokevirtual 75, 3) := by decide +kernel
theorem dX4_removeLast_55 : decode cX4_removeLast 55 = .ok (.iinc 2 1, 3) := by decide +kernel
theorem dX4_removeLast_58 : decode cX4_removeLast 58 = .ok (.goto (-34), 3) := by decide +kernel
theorem dX4_removeLast_61 : decode cX4_removeLast 61 = .ok (.iload_n 1, 1) := by decide +kernel
theorem dX4_removeLast_62 : decode cX4_removeLast 62 = .ok (.ireturn, 1) := by decide +kernel
set_option maxRecDepth 20000 in
theorem ggX4_rateOf_X6_get : GoodIn wsX4_rateOf wsX6_get := goodIn_ca (goodIn_r _ [13, 14, 15, 25, 26] (by decide +kernel) (by decide +kernel)) (goodIn_sub (fun _ h => List.mem_cons_of_mem _ (List.mem_append_right _ h)) (by decide +kernel))
set_option maxRecDepth 20000 in
theorem gX4_rateOf_X6_get : GoodIn wsX4_rateOf (wsV RX4 67 RX6 yX6_get wsX6_get) := goodIn_app (goodIn_of _ (by decide +kernel)) ggX4_rateOf_X6_get
theorem dX4_rateOf_0 : decode cX4_rateOf 0 = .ok (.iconst 0, 1) := by decide +kernel
theorem dX4_rateOf_1 : decode cX4_rateOf 1 = .ok (.iload_n 2, 1) := by decide +kernel
theorem dX4_rateOf_2 : decode cX4_rateOf 2 = .ok (.aload_n 0, 1) := by decide +kernel
theorem dX4_rateOf_3 : decode cX4_rateOf 3 = .ok (.getfield 20, 3) := by decide +kernel
theorem dX4_rateOf_6 : decode cX4_rateOf 6 = .ok (.iload_n 1, 1) := by decide +kernel
theorem dX4_rateOf_7 : decode cX4_rateOf 7 = .ok (.iconst 3, 1) := by decide +kernel
theorem dX4_rateOf_8 : decode cX4_rateOf 8 = .ok (.invokevirtual 67, 3) := by decide +kernel
theorem dX4_rateOf_11 : decode cX4_rateOf 11 = .ok (.isub, 1) := by decide +kernel
theorem dX4_rateOf_12 : decode cX4_rateOf 12 = .ok (.invokestatic 79, 3) := by decide +kernel
theorem dX4_rateOf_15 : decode cX4_rateOf 15 = .ok (.bipush 10, 2) := by decide +kernel
theorem dX4_rateOf_17 : decode cX4_rateOf 17 = .ok (.idiv, 1) := by decide +kernel
theorem dX4_rateOf_18 : decode cX4_rateOf 18 = .ok (.istore 4, 2) := by decide +kernel
theorem dX4_rateOf_20 : decode cX4_rateOf 20 = .ok (.iload_n 3, 1) := by decide +kernel
theorem dX4_rateOf_21 : decode cX4_rateOf 21 = .ok (.ifCond .eq 21, 3) := by decide +kernel
theorem dX4_rateOf_24 : decode cX4_rateOf 24 = .ok (.bipush 90, 2) := by decide +kernel
theorem dX4_rateOf_26 : decode cX4_rateOf 26 = .ok (.aload_n 0, 1) := by decide +kernel
theorem dX4_rateOf_27 : decode cX4_rateOf 27 = .ok (.getfield 20, 3) := by decide +kernel
theorem dX4_rateOf_30 : decode cX4_rateOf 30 = .ok (.iload_n 1, 1) := by decide +kernel
theorem dX4_rateOf_31 : decode cX4_rateOf 31 = .ok (.iconst 2, 1) := by decide +kernel
theorem dX4_rateOf_32 : decode cX4_rateOf 32 = .ok (.invokevirtual 67, 3) := by decide +kernel
theorem dX4_rateOf_35 : decode cX4_rateOf 35 = .ok (.iload 4, 2) := by decide +kernel
theorem dX4_rateOf_37 : decode cX4_rateOf 37 = .ok (.iadd, 1) := by decide +kernel
theorem dX4_rateOf_38 : decode cX4_rateOf 38 = .ok (.invokestatic 84, 3) := by decide +kernel
theorem dX4_rateOf_41 : decode cX4_rateOf 41 = .ok (.ireturn, 1) := by decide +kernel
theorem dX4_rateOf_42 : decode cX4_rateOf 42 = .ok (.aload_n 0, 1) := by decide +kernel
theorem dX4_rateOf_43 : decode cX4_rateOf 43 = .ok (.getfield 20, 3) := by decide +kernel
theorem dX4_rateOf_46 : decode cX4_rateOf 46 = .ok (.iload_n 1, 1) := by decide +kernel
theorem dX4_rateOf_47 : decode cX4_rateOf 47 = .ok (.iconst 4, 1) := by decide +kernel
theorem dX4_rateOf_48 : decode cX4_rateOf 48 = .ok (.invokevirtual 67, 3) := by decide +kernel
theorem dX4_rateOf_51 : decode cX4_rateOf 51 = .ok (.iload 4, 2) := by decide +kernel
theorem dX4_rateOf_53 : decode cX4_rateOf 53 = .ok (.imul, 1) := by decide +kernel
theorem dX4_rateOf_54 : decode cX4_rateOf 54 = .ok (.istore 5, 2) := by decide +kernel
theorem dX4_rateOf_56 : decode cX4_rateOf 56 = .ok (.bipush 10, 2) := by decide +kernel
theorem dX4_rateOf_58 : decode cX4_rateOf 58 = .ok (.aload_n 0, 1) := by decide +kernel
theorem dX4_rateOf_59 : decode cX4_rateOf 59 = .ok (.getfield 20, 3) := by decide +kernel
theorem dX4_rateOf_62 : decode cX4_rateOf 62 = .ok (.iload_n 1, 1) := by decide +kernel
theorem dX4_rateOf_63 : decode cX4_rateOf 63 = .ok (.iconst 1, 1) := by decide +kernel
theorem dX4_rateOf_64 : decode cX4_rateOf 64 = .ok (.invokevirtual 67, 3) := by decide +kernel
theorem dX4_rateOf_67 : decode cX4_rateOf 67 = .ok (.iload 5, 2) := by decide +kernel
theorem dX4_rateOf_69 : decode cX4_rateOf 69 = .ok (.isub, 1) := by decide +kernel
theorem dX4_rateOf_70 : decode cX4_rateOf 70 = .ok (.invokestatic 79, 3) := by decide +kernel
theorem dX4_rateOf_73 : decode cX4_rateOf 73 = .ok (.ireturn, 1) := by decide +kernel
set_option maxRecDepth 20000 in
theorem ggX4_faultOfFeed_X8_isMaterial : GoodIn wsX4_faultOfFeed wsX8_isMaterial := goodIn_r _ [8, 9, 10, 7, 11] (by decide +kernel) (by decide +kernel)
set_option maxRecDepth 20000 in
theorem gX4_faultOfFeed_X8_isMaterial_n87 : GoodIn wsX4_faultOfFeed (wsX8_isMaterial) := ggX4_faultOfFeed_X8_isMaterial
set_option maxRecDepth 20000 in
theorem ggX4_faultOfFeed_X8_isWithin : GoodIn wsX4_faultOfFeed wsX8_isWithin := goodIn_r _ [11] (by decide +kernel) (by decide +kernel)
set_option maxRecDepth 20000 in
theorem gX4_faultOfFeed_X8_isWithin_n97 : GoodIn wsX4_faultOfFeed (wsX8_isWithin) := ggX4_faultOfFeed_X8_isWithin
set_option maxRecDepth 20000 in
theorem ggX4_faultOfFeed_X6_sum : GoodIn wsX4_faultOfFeed wsX6_sum := goodIn_ca (goodIn_r _ [16, 17, 18, 19, 20, 15, 21, 22, 32, 33] (by decide +kernel) (by decide +kernel)) (goodIn_sub (fun _ h => List.mem_cons_of_mem _ (List.mem_append_right _ h)) (by decide +kernel))
set_option maxRecDepth 20000 in
theorem gX4_faultOfFeed_X6_sum : GoodIn wsX4_faultOfFeed (wsV RX4 71 RX6 yX6_sum wsX6_sum) := goodIn_app (goodIn_of _ (by decide +kernel)) ggX4_faultOfFeed_X6_sum
theorem dX4_faultOfFeed_0 : decode cX4_faultOfFeed 0 = .ok (.iload_n 1, 1) := by decide +kernel
theorem dX4_faultOfFeed_1 : decode cX4_faultOfFeed 1 = .ok (.invokestatic 87, 3) := by decide +kernel
theorem dX4_faultOfFeed_4 : decode cX4_faultOfFeed 4 = .ok (.ifCond .ne 7, 3) := by decide +kernel
theorem dX4_faultOfFeed_7 : decode cX4_faultOfFeed 7 = .ok (.getstatic 91, 3) := by decide +kernel
theorem dX4_faultOfFeed_10 : decode cX4_faultOfFeed 10 = .ok (.areturn, 1) := by decide +kernel
theorem dX4_faultOfFeed_11 : decode cX4_faultOfFeed 11 = .ok (.iload_n 2, 1) := by decide +kernel
theorem dX4_faultOfFeed_12 : decode cX4_faultOfFeed 12 = .ok (.iconst 1, 1) := by decide +kernel
theorem dX4_faultOfFeed_13 : decode cX4_faultOfFeed 13 = .ok (.sipush 999, 3) := by decide +kernel
theorem dX4_faultOfFeed_16 : decode cX4_faultOfFeed 16 = .ok (.invokestatic 97, 3) := by decide +kernel
theorem dX4_faultOfFeed_19 : decode cX4_faultOfFeed 19 = .ok (.ifCond .ne 7, 3) := by decide +kernel
theorem dX4_faultOfFeed_22 : decode cX4_faultOfFeed 22 = .ok (.getstatic 101, 3) := by decide +kernel
theorem dX4_faultOfFeed_25 : decode cX4_faultOfFeed 25 = .ok (.areturn, 1) := by decide +kernel
theorem dX4_faultOfFeed_26 : decode cX4_faultOfFeed 26 = .ok (.aload_n 0, 1) := by decide +kernel
theorem dX4_faultOfFeed_27 : decode cX4_faultOfFeed 27 = .ok (.getfield 23, 3) := by decide +kernel
theorem dX4_faultOfFeed_30 : decode cX4_faultOfFeed 30 = .ok (.bipush 6, 2) := by decide +kernel
theorem dX4_faultOfFeed_32 : decode cX4_faultOfFeed 32 = .ok (.invokevirtual 71, 3) := by decide +kernel
theorem dX4_faultOfFeed_35 : decode cX4_faultOfFeed 35 = .ok (.iload_n 2, 1) := by decide +kernel
theorem dX4_faultOfFeed_36 : decode cX4_faultOfFeed 36 = .ok (.iadd, 1) := by decide +kernel
theorem dX4_faultOfFeed_37 : decode cX4_faultOfFeed 37 = .ok (.sipush 9999, 3) := by decide +kernel
theorem dX4_faultOfFeed_40 : decode cX4_faultOfFeed 40 = .ok (.if_icmp .le 9, 3) := by decide +kernel
theorem dX4_faultOfFeed_43 : decode cX4_faultOfFeed 43 = .ok (.getstatic 104, 3) := by decide +kernel
theorem dX4_faultOfFeed_46 : decode cX4_faultOfFeed 46 = .ok (.goto 6, 3) := by decide +kernel
theorem dX4_faultOfFeed_49 : decode cX4_faultOfFeed 49 = .ok (.getstatic 107, 3) := by decide +kernel
theorem dX4_faultOfFeed_52 : decode cX4_faultOfFeed 52 = .ok (.areturn, 1) := by decide +kernel
set_option maxRecDepth 20000 in
theorem ggX4_fill_X6_add : GoodIn wsX4_fill wsX6_add := goodIn_ca (goodIn_r _ [6, 7, 8, 9, 5, 10, 11, 12, 13, 14, 15, 16, 27, 28] (by decide +kernel) (by decide +kernel)) (goodIn_sub (fun _ h => List.mem_cons_of_mem _ (List.mem_append_right _ h)) (by decide +kernel))
set_option maxRecDepth 20000 in
theorem gX4_fill_X6_add : GoodIn wsX4_fill (wsV RX4 110 RX6 yX6_add wsX6_add) := goodIn_app (goodIn_of _ (by decide +kernel)) ggX4_fill_X6_add
set_option maxRecDepth 20000 in
theorem ggX4_fill_X6_get : GoodIn wsX4_fill wsX6_get := goodIn_ca (goodIn_r _ [10, 11, 12, 27, 28] (by decide +kernel) (by decide +kernel)) (goodIn_sub (fun _ h => List.mem_cons_of_mem _ (List.mem_append_right _ h)) (by decide +kernel))
set_option maxRecDepth 20000 in
theorem gX4_fill_X6_get : GoodIn wsX4_fill (wsV RX4 67 RX6 yX6_get wsX6_get) := goodIn_app (goodIn_of _ (by decide +kernel)) ggX4_fill_X6_get
theorem dX4_fill_0 : decode cX4_fill 0 = .ok (.aload_n 0, 1) := by decide +kernel
theorem dX4_fill_1 : decode cX4_fill 1 = .ok (.getfield 23, 3) := by decide +kernel
theorem dX4_fill_4 : decode cX4_fill 4 = .ok (.bipush 6, 2) := by decide +kernel
theorem dX4_fill_6 : decode cX4_fill 6 = .ok (.iload_n 1, 1) := by decide +kernel
theorem dX4_fill_7 : decode cX4_fill 7 = .ok (.iload_n 2, 1) := by decide +kernel
theorem dX4_fill_8 : decode cX4_fill 8 = .ok (.invokevirtual 110, 3) := by decide +kernel
theorem dX4_fill_11 : decode cX4_fill 11 = .ok (.aload_n 0, 1) := by decide +kernel
theorem dX4_fill_12 : decode cX4_fill 12 = .ok (.getfield 23, 3) := by decide +kernel
theorem dX4_fill_15 : decode cX4_fill 15 = .ok (.bipush 8, 2) := by decide +kernel
theorem dX4_fill_17 : decode cX4_fill 17 = .ok (.iload_n 1, 1) := by decide +kernel
theorem dX4_fill_18 : decode cX4_fill 18 = .ok (.iload_n 2, 1) := by decide +kernel
theorem dX4_fill_19 : decode cX4_fill 19 = .ok (.invokevirtual 110, 3) := by decide +kernel
theorem dX4_fill_22 : decode cX4_fill 22 = .ok (.aload_n 0, 1) := by decide +kernel
theorem dX4_fill_23 : decode cX4_fill 23 = .ok (.getfield 23, 3) := by decide +kernel
theorem dX4_fill_26 : decode cX4_fill 26 = .ok (.bipush 6, 2) := by decide +kernel
theorem dX4_fill_28 : decode cX4_fill 28 = .ok (.iload_n 1, 1) := by decide +kernel
theorem dX4_fill_29 : decode cX4_fill 29 = .ok (.invokevirtual 67, 3) := by decide +kernel
theorem dX4_fill_32 : decode cX4_fill 32 = .ok (.ireturn, 1) := by decide +kernel
set_option maxRecDepth 20000 in
theorem ggX4_faultOfPasses_X8_isWithin : GoodIn wsX4_faultOfPasses wsX8_isWithin := goodIn_r _ [7] (by decide +kernel) (by decide +kernel)
set_option maxRecDepth 20000 in
theorem gX4_faultOfPasses_X8_isWithin_n97 : GoodIn wsX4_faultOfPasses (wsX8_isWithin) := ggX4_faultOfPasses_X8_isWithin
theorem dX4_faultOfPasses_0 : decode cX4_faultOfPasses 0 = .ok (.iload_n 1, 1) := by decide +kernel
theorem dX4_faultOfPasses_1 : decode cX4_faultOfPasses 1 = .ok (.iconst 1, 1) := by decide +kernel
theorem dX4_faultOfPasses_2 : decode cX4_faultOfPasses 2 = .ok (.sipush 200, 3) := by decide +kernel
theorem dX4_faultOfPasses_5 : decode cX4_faultOfPasses 5 = .ok (.invokestatic 97, 3) := by decide +kernel
theorem dX4_faultOfPasses_8 : decode cX4_faultOfPasses 8 = .ok (.ifCond .ne 7, 3) := by decide +kernel
theorem dX4_faultOfPasses_11 : decode cX4_faultOfPasses 11 = .ok (.getstatic 101, 3) := by decide +kernel
theorem dX4_faultOfPasses_14 : decode cX4_faultOfPasses 14 = .ok (.areturn, 1) := by decide +kernel
theorem dX4_faultOfPasses_15 : decode cX4_faultOfPasses 15 = .ok (.aload_n 0, 1) := by decide +kernel
theorem dX4_faultOfPasses_16 : decode cX4_faultOfPasses 16 = .ok (.getfield 61, 3) := by decide +kernel
theorem dX4_faultOfPasses_19 : decode cX4_faultOfPasses 19 = .ok (.ifCond .gt 9, 3) := by decide +kernel
theorem dX4_faultOfPasses_22 : decode cX4_faultOfPasses 22 = .ok (.getstatic 104, 3) := by decide +kernel
theorem dX4_faultOfPasses_25 : decode cX4_faultOfPasses 25 = .ok (.goto 6, 3) := by decide +kernel
theorem dX4_faultOfPasses_28 : decode cX4_faultOfPasses 28 = .ok (.getstatic 107, 3) := by decide +kernel
theorem dX4_faultOfPasses_31 : decode cX4_faultOfPasses 31 = .ok (.areturn, 1) := by decide +kernel
set_option maxRecDepth 20000 in
theorem ggX4_makePasses_X6_sum : GoodIn wsX4_makePasses wsX6_sum := goodIn_ca (goodIn_r _ [7, 8, 9, 10, 11, 6, 12, 13, 98, 99] (by decide +kernel) (by decide +kernel)) (goodIn_sub (fun _ h => List.mem_cons_of_mem _ (List.mem_append_left _ (List.mem_append_right _ h))) (by decide +kernel))
set_option maxRecDepth 20000 in
theorem gX4_makePasses_X6_sum : GoodIn wsX4_makePasses (wsV RX4 71 RX6 yX6_sum wsX6_sum) := goodIn_app (goodIn_of _ (by decide +kernel)) ggX4_makePasses_X6_sum
set_option maxRecDepth 20000 in
theorem ggX4_makePasses_X4_makePass : GoodIn wsX4_makePasses wsX4_makePass := goodIn_ca (goodIn_ca (goodIn_r _ [18, 19, 20, 1, 21, 22, 23, 24, 25, 26, 27, 28, 17, 29, 30, 31, 10, 11, 6, 12, 8, 13, 3, 4, 5, 7, 9, 32, 33, 34, 35, 36, 37, 38, 39, 40, 41, 42, 43, 44, 45, 46, 47, 48, 49, 50, 51, 52, 53, 54, 55, 56, 57, 58, 59, 60, 61, 62, 63, 64, 65, 66, 67, 68, 69, 70, 71, 72, 73, 74, 75, 76, 77, 78, 79, 80, 81, 82, 83, 84, 85, 86, 87, 88, 89, 90, 91, 92, 93, 94, 95, 96, 97, 100, 101, 102, 98, 99] (by decide +kernel) (by decide +kernel)) (goodIn_sub (fun _ h => List.mem_cons_of_mem _ (List.mem_append_left _ (List.mem_append_right _ h))) (by decide +kernel))) (goodIn_sub (fun _ h => List.mem_cons_of_mem _ (List.mem_append_right _ h)) (by decide +kernel))
set_option maxRecDepth 20000 in
theorem gX4_makePasses_X4_makePass : GoodIn wsX4_makePasses (wsV RX4 113 RX4 yX4_makePass wsX4_makePass) := goodIn_app (goodIn_of _ (by decide +kernel)) ggX4_makePasses_X4_makePass
theorem dX4_makePasses_0 : decode cX4_makePasses 0 = .ok (.iconst 0, 1) := by decide +kernel
theorem dX4_makePasses_1 : decode cX4_makePasses 1 = .ok (.istore_n 2, 1) := by decide +kernel
theorem dX4_makePasses_2 : decode cX4_makePasses 2 = .ok (.iload_n 2, 1) := by decide +kernel
theorem dX4_makePasses_3 : decode cX4_makePasses 3 = .ok (.iload_n 1, 1) := by decide +kernel
theorem dX4_makePasses_4 : decode cX4_makePasses 4 = .ok (.if_icmp .ge 28, 3) := by decide +kernel
theorem dX4_makePasses_7 : decode cX4_makePasses 7 = .ok (.aload_n 0, 1) := by decide +kernel
theorem dX4_makePasses_8 : decode cX4_makePasses 8 = .ok (.getfield 23, 3) := by decide +kernel
theorem dX4_makePasses_11 : decode cX4_makePasses 11 = .ok (.bipush 6, 2) := by decide +kernel
theorem dX4_makePasses_13 : decode cX4_makePasses 13 = .ok (.invokevirtual 71, 3) := by decide +kernel
theorem dX4_makePasses_16 : decode cX4_makePasses 16 = .ok (.ifCond .le 16, 3) := by decide +kernel
theorem dX4_makePasses_19 : decode cX4_makePasses 19 = .ok (.aload_n 0, 1) := by decide +kernel
theorem dX4_makePasses_20 : decode cX4_makePasses 20 = .ok (.invokevirtual 113, 3) := by decide +kernel
theorem dX4_makePasses_23 : decode cX4_makePasses 23 = .ok (.ifCond .eq 9, 3) := by decide +kernel
theorem dX4_makePasses_26 : decode cX4_makePasses 26 = .ok (.iinc 2 1, 3) := by decide +kernel
theorem dX4_makePasses_29 : decode cX4_makePasses 29 = .ok (.goto (-27), 3) := by decide +kernel
theorem dX4_makePasses_32 : decode cX4_makePasses 32 = .ok (.aload_n 0, 1) := by decide +kernel
theorem dX4_makePasses_33 : decode cX4_makePasses 33 = .ok (.dup, 1) := by decide +kernel
theorem dX4_makePasses_34 : decode cX4_makePasses 34 = .ok (.getfield 64, 3) := by decide +kernel
theorem dX4_makePasses_37 : decode cX4_makePasses 37 = .ok (.iload_n 2, 1) := by decide +kernel
theorem dX4_makePasses_38 : decode cX4_makePasses 38 = .ok (.iadd, 1) := by decide +kernel
theorem dX4_makePasses_39 : decode cX4_makePasses 39 = .ok (.putfield 64, 3) := by decide +kernel
theorem dX4_makePasses_42 : decode cX4_makePasses 42 = .ok (.iload_n 2, 1) := by decide +kernel
theorem dX4_makePasses_43 : decode cX4_makePasses 43 = .ok (.ireturn, 1) := by decide +kernel
set_option maxRecDepth 20000 in
theorem ggX4_makePass_X4_setting : GoodIn wsX4_makePass wsX4_setting := goodIn_ca (goodIn_r _ [13, 14, 15, 16, 17, 18, 19, 20, 21, 84, 85, 86, 87, 88, 89, 90, 91, 92, 96, 97] (by decide +kernel) (by decide +kernel)) (goodIn_sub (fun _ h => List.mem_cons_of_mem _ (List.mem_append_left _ (List.mem_append_right _ h))) (by decide +kernel))
set_option maxRecDepth 20000 in
theorem gX4_makePass_X4_setting : GoodIn wsX4_makePass (wsV RX4 120 RX4 yX4_setting wsX4_setting) := goodIn_app (goodIn_of _ (by decide +kernel)) ggX4_makePass_X4_setting
set_option maxRecDepth 20000 in
theorem ggX4_makePass_X6_sum : GoodIn wsX4_makePass wsX6_sum := goodIn_ca (goodIn_r _ [25, 20, 26, 16, 17, 18, 19, 21, 96, 97] (by decide +kernel) (by decide +kernel)) (goodIn_sub (fun _ h => List.mem_cons_of_mem _ (List.mem_append_left _ (List.mem_append_right _ h))) (by decide +kernel))
set_option maxRecDepth 20000 in
theorem gX4_makePass_X6_sum : GoodIn wsX4_makePass (wsV RX4 71 RX6 yX6_sum wsX6_sum) := goodIn_app (goodIn_of _ (by decide +kernel)) ggX4_makePass_X6_sum
set_option maxRecDepth 20000 in
theorem ggX4_makePass_X4_takeShare : GoodIn wsX4_makePass wsX4_takeShare := goodIn_ca (goodIn_ca (goodIn_r _ [30, 3, 31, 22, 23, 24, 18, 25, 20, 26, 16, 17, 19, 21, 15, 32, 33, 34, 35, 36, 37, 38, 39, 40, 41, 42, 43, 44, 84, 85, 86, 87, 88, 89, 90, 91, 92, 96, 97] (by decide +kernel) (by decide +kernel)) (goodIn_sub (fun _ h => List.mem_cons_of_mem _ (List.mem_append_right _ h)) (by decide +kernel))) (goodIn_sub (fun _ h => List.mem_cons_of_mem _ (List.mem_append_left _ (List.mem_append_right _ h))) (by decide +kernel))
set_option maxRecDepth 20000 in
theorem gX4_makePass_X4_takeShare : GoodIn wsX4_makePass (wsV RX4 123 RX4 yX4_takeShare wsX4_takeShare) := goodIn_app (goodIn_of _ (by decide +kernel)) ggX4_makePass_X4_takeShare
set_option maxRecDepth 20000 in
theorem ggX4_makePass_X4_sortOut : GoodIn wsX4_makePass wsX4_sortOut := goodIn_ca (goodIn_r _ [48, 3, 49, 22, 23, 24, 18, 25, 20, 26, 16, 17, 19, 21, 15, 50, 51, 52, 12, 53, 54, 55, 6, 56, 4, 5, 7, 57, 58, 59, 60, 61, 41, 42, 43, 44, 33, 34, 35, 84, 85, 86, 87, 88, 89, 90, 91, 92, 96, 97] (by decide +kernel) (by decide +kernel)) (goodIn_sub (fun _ h => List.mem_cons_of_mem _ (List.mem_append_left _ (List.mem_append_right _ h))) (by decide +kernel))
set_option maxRecDepth 20000 in
theorem gX4_makePass_X4_sortOut : GoodIn wsX4_makePass (wsV RX4 127 RX4 yX4_sortOut wsX4_sortOut) := goodIn_app (goodIn_of _ (by decide +kernel)) ggX4_makePass_X4_sortOut
set_option maxRecDepth 20000 in
theorem ggX4_makePass_X4_clearBelt : GoodIn wsX4_makePass wsX4_clearBelt := goodIn_ca (goodIn_r _ [65, 3, 15, 16, 17, 18, 19, 20, 21, 9, 10, 11, 12, 13, 14, 57, 58, 59, 60, 61, 41, 42, 43, 26, 44, 33, 34, 35, 84, 85, 86, 87, 88, 89, 90, 91, 92, 96, 97] (by decide +kernel) (by decide +kernel)) (goodIn_sub (fun _ h => List.mem_cons_of_mem _ (List.mem_append_left _ (List.mem_append_right _ h))) (by decide +kernel))
set_option maxRecDepth 20000 in
theorem gX4_makePass_X4_clearBelt : GoodIn wsX4_makePass (wsV RX4 130 RX4 yX4_clearBelt wsX4_clearBelt) := goodIn_app (goodIn_of _ (by decide +kernel)) ggX4_makePass_X4_clearBelt
set_option maxRecDepth 20000 in
theorem ggX4_makePass_X4_makeBale : GoodIn wsX4_makePass wsX4_makeBale := goodIn_ca (goodIn_ca (goodIn_r _ [69, 1, 70, 49, 2, 3, 15, 16, 17, 18, 19, 20, 21, 27, 28, 29, 12, 30, 31, 22, 23, 24, 25, 26, 32, 33, 34, 35, 36, 37, 38, 39, 40, 41, 42, 43, 44, 71, 72, 73, 74, 75, 76, 9, 10, 11, 13, 14, 77, 78, 79, 80, 81, 82, 83, 84, 85, 86, 87, 88, 89, 90, 91, 92, 93, 94, 95, 96, 97] (by decide +kernel) (by decide +kernel)) (goodIn_sub (fun _ h => List.mem_cons_of_mem _ (List.mem_append_left _ (List.mem_append_right _ h))) (by decide +kernel))) (goodIn_sub (fun _ h => List.mem_cons_of_mem _ (List.mem_append_right _ h)) (by decide +kernel))
set_option maxRecDepth 20000 in
theorem gX4_makePass_X4_makeBale : GoodIn wsX4_makePass (wsV RX4 134 RX4 yX4_makeBale wsX4_makeBale) := goodIn_app (goodIn_of _ (by decide +kernel)) ggX4_makePass_X4_makeBale
theorem dX4_makePass_0 : decode cX4_makePass 0 = .ok (.aload_n 0, 1) := by decide +kernel
theorem dX4_makePass_1 : decode cX4_makePass 1 = .ok (.getfield 29, 3) := by decide +kernel
theorem dX4_makePass_4 : decode cX4_makePass 4 = .ok (.getfield 117, 3) := by decide +kernel
theorem dX4_makePass_7 : decode cX4_makePass 7 = .ok (.istore_n 1, 1) := by decide +kernel
theorem dX4_makePass_8 : decode cX4_makePass 8 = .ok (.aload_n 0, 1) := by decide +kernel
theorem dX4_makePass_9 : decode cX4_makePass 9 = .ok (.bipush 6, 2) := by decide +kernel
theorem dX4_makePass_11 : decode cX4_makePass 11 = .ok (.aload_n 0, 1) := by decide +kernel
theorem dX4_makePass_12 : decode cX4_makePass 12 = .ok (.iconst 0, 1) := by decide +kernel
theorem dX4_makePass_13 : decode cX4_makePass 13 = .ok (.invokevirtual 120, 3) := by decide +kernel
theorem dX4_makePass_16 : decode cX4_makePass 16 = .ok (.aload_n 0, 1) := by decide +kernel
theorem dX4_makePass_17 : decode cX4_makePass 17 = .ok (.getfield 23, 3) := by decide +kernel
theorem dX4_makePass_20 : decode cX4_makePass 20 = .ok (.bipush 6, 2) := by decide +kernel
theorem dX4_makePass_22 : decode cX4_makePass 22 = .ok (.invokevirtual 71, 3) := by decide +kernel
theorem dX4_makePass_25 : decode cX4_makePass 25 = .ok (.invokestatic 84, 3) := by decide +kernel
theorem dX4_makePass_28 : decode cX4_makePass 28 = .ok (.aload_n 0, 1) := by decide +kernel
theorem dX4_makePass_29 : decode cX4_makePass 29 = .ok (.getfield 23, 3) := by decide +kernel
theorem dX4_makePass_32 : decode cX4_makePass 32 = .ok (.bipush 9, 2) := by decide +kernel
theorem dX4_makePass_34 : decode cX4_makePass 34 = .ok (.invokevirtual 123, 3) := by decide +kernel
theorem dX4_makePass_37 : decode cX4_makePass 37 = .ok (.iconst 0, 1) := by decide +kernel
theorem dX4_makePass_38 : decode cX4_makePass 38 = .ok (.istore_n 2, 1) := by decide +kernel
theorem dX4_makePass_39 : decode cX4_makePass 39 = .ok (.iconst 0, 1) := by decide +kernel
theorem dX4_makePass_40 : decode cX4_makePass 40 = .ok (.istore_n 3, 1) := by decide +kernel
theorem dX4_makePass_41 : decode cX4_makePass 41 = .ok (.iload_n 3, 1) := by decide +kernel
theorem dX4_makePass_42 : decode cX4_makePass 42 = .ok (.aload_n 0, 1) := by decide +kernel
theorem dX4_makePass_43 : decode cX4_makePass 43 = .ok (.getfield 61, 3) := by decide +kernel
theorem dX4_makePass_46 : decode cX4_makePass 46 = .ok (.if_icmp .ge 17, 3) := by decide +kernel
theorem dX4_makePass_49 : decode cX4_makePass 49 = .ok (.iload_n 2, 1) := by decide +kernel
theorem dX4_makePass_50 : decode cX4_makePass 50 = .ok (.aload_n 0, 1) := by decide +kernel
theorem dX4_makePass_51 : decode cX4_makePass 51 = .ok (.iload_n 3, 1) := by decide +kernel
theorem dX4_makePass_52 : decode cX4_makePass 52 = .ok (.invokevirtual 127, 3) := by decide +kernel
theorem dX4_makePass_55 : decode cX4_makePass 55 = .ok (.iadd, 1) := by decide +kernel
theorem dX4_makePass_56 : decode cX4_makePass 56 = .ok (.istore_n 2, 1) := by decide +kernel
theorem dX4_makePass_57 : decode cX4_makePass 57 = .ok (.iinc 3 1, 3) := by decide +kernel
theorem dX4_makePass_60 : decode cX4_makePass 60 = .ok (.goto (-19), 3) := by decide +kernel
theorem dX4_makePass_63 : decode cX4_makePass 63 = .ok (.iload_n 2, 1) := by decide +kernel
theorem dX4_makePass_64 : decode cX4_makePass 64 = .ok (.aload_n 0, 1) := by decide +kernel
theorem dX4_makePass_65 : decode cX4_makePass 65 = .ok (.invokevirtual 130, 3) := by decide +kernel
theorem dX4_makePass_68 : decode cX4_makePass 68 = .ok (.iadd, 1) := by decide +kernel
theorem dX4_makePass_69 : decode cX4_makePass 69 = .ok (.istore_n 2, 1) := by decide +kernel
theorem dX4_makePass_70 : decode cX4_makePass 70 = .ok (.iconst 0, 1) := by decide +kernel
theorem dX4_makePass_71 : decode cX4_makePass 71 = .ok (.istore_n 3, 1) := by decide +kernel
theorem dX4_makePass_72 : decode cX4_makePass 72 = .ok (.iload_n 3, 1) := by decide +kernel
theorem dX4_makePass_73 : decode cX4_makePass 73 = .ok (.aload_n 0, 1) := by decide +kernel
theorem dX4_makePass_74 : decode cX4_makePass 74 = .ok (.getfield 61, 3) := by decide +kernel
theorem dX4_makePass_77 : decode cX4_makePass 77 = .ok (.if_icmp .ge 60, 3) := by decide +kernel
theorem dX4_makePass_80 : decode cX4_makePass 80 = .ok (.aload_n 0, 1) := by decide +kernel
theorem dX4_makePass_81 : decode cX4_makePass 81 = .ok (.iconst 2, 1) := by decide +kernel
theorem dX4_makePass_82 : decode cX4_makePass 82 = .ok (.invokevirtual 120, 3) := by decide +kernel
theorem dX4_makePass_85 : decode cX4_makePass 85 = .ok (.istore 4, 2) := by decide +kernel
theorem dX4_makePass_87 : decode cX4_makePass 87 = .ok (.aload_n 0, 1) := by decide +kernel
theorem dX4_makePass_88 : decode cX4_makePass 88 = .ok (.getfield 29, 3) := by decide +kernel
theorem dX4_makePass_91 : decode cX4_makePass 91 = .ok (.getfield 117, 3) := by decide +kernel
theorem dX4_makePass_94 : decode cX4_makePass 94 = .ok (.istore 5, 2) := by decide +kernel
theorem dX4_makePass_96 : decode cX4_makePass 96 = .ok (.iload 5, 2) := by decide +kernel
theorem dX4_makePass_98 : decode cX4_makePass 98 = .ok (.bipush 60, 2) := by decide +kernel
theorem dX4_makePass_100 : decode cX4_makePass 100 = .ok (.if_icmp .ge 31, 3) := by decide +kernel
theorem dX4_makePass_103 : decode cX4_makePass 103 = .ok (.aload_n 0, 1) := by decide +kernel
theorem dX4_makePass_104 : decode cX4_makePass 104 = .ok (.getfield 23, 3) := by decide +kernel
theorem dX4_makePass_107 : decode cX4_makePass 107 = .ok (.iload_n 3, 1) := by decide +kernel
theorem dX4_makePass_108 : decode cX4_makePass 108 = .ok (.invokevirtual 71, 3) := by decide +kernel
theorem dX4_makePass_111 : decode cX4_makePass 111 = .ok (.iload 4, 2) := by decide +kernel
theorem dX4_makePass_113 : decode cX4_makePass 113 = .ok (.if_icmp .lt 18, 3) := by decide +kernel
theorem dX4_makePass_116 : decode cX4_makePass 116 = .ok (.aload_n 0, 1) := by decide +kernel
theorem dX4_makePass_117 : decode cX4_makePass 117 = .ok (.iload 5, 2) := by decide +kernel
theorem dX4_makePass_119 : decode cX4_makePass 119 = .ok (.iload_n 3, 1) := by decide +kernel
theorem dX4_makePass_120 : decode cX4_makePass 120 = .ok (.iload 4, 2) := by decide +kernel
theorem dX4_makePass_122 : decode cX4_makePass 122 = .ok (.invokevirtual 134, 3) := by decide +kernel
theorem dX4_makePass_125 : decode cX4_makePass 125 = .ok (.iinc 5 1, 3) := by decide +kernel
theorem dX4_makePass_128 : decode cX4_makePass 128 = .ok (.goto (-32), 3) := by decide +kernel
theorem dX4_makePass_131 : decode cX4_makePass 131 = .ok (.iinc 3 1, 3) := by decide +kernel
theorem dX4_makePass_134 : decode cX4_makePass 134 = .ok (.goto (-62), 3) := by decide +kernel
theorem dX4_makePass_137 : decode cX4_makePass 137 = .ok (.iload_n 2, 1) := by decide +kernel
theorem dX4_makePass_138 : decode cX4_makePass 138 = .ok (.ifCond .gt 14, 3) := by decide +kernel
theorem dX4_makePass_141 : decode cX4_makePass 141 = .ok (.aload_n 0, 1) := by decide +kernel
theorem dX4_makePass_142 : decode cX4_makePass 142 = .ok (.getfield 29, 3) := by decide +kernel
theorem dX4_makePass_145 : decode cX4_makePass 145 = .ok (.getfield 117, 3) := by decide +kernel
theorem dX4_makePass_148 : decode cX4_makePass 148 = .ok (.iload_n 1, 1) := by decide +kernel
theorem dX4_makePass_149 : decode cX4_makePass 149 = .ok (.if_icmp .le 7, 3) := by decide +kernel
theorem dX4_makePass_152 : decode cX4_makePass 152 = .ok (.iconst 1, 1) := by decide +kernel
theorem dX4_makePass_153 : decode cX4_makePass 153 = .ok (.goto 4, 3) := by decide +kernel
theorem dX4_makePass_156 : decode cX4_makePass 156 = .ok (.iconst 0, 1) := by decide +kernel
theorem dX4_makePass_157 : decode cX4_makePass 157 = .ok (.ireturn, 1) := by decide +kernel
set_option maxRecDepth 20000 in
theorem ggX4_sortOut_X6_sum : GoodIn wsX4_sortOut wsX6_sum := goodIn_ca (goodIn_r _ [7, 8, 9, 10, 11, 6, 12, 13, 48, 49] (by decide +kernel) (by decide +kernel)) (goodIn_sub (fun _ h => List.mem_cons_of_mem _ (List.mem_append_right _ h)) (by decide +kernel))
set_option maxRecDepth 20000 in
theorem gX4_sortOut_X6_sum : GoodIn wsX4_sortOut (wsV RX4 71 RX6 yX6_sum wsX6_sum) := goodIn_app (goodIn_of _ (by decide +kernel)) ggX4_sortOut_X6_sum
set_option maxRecDepth 20000 in
theorem ggX4_sortOut_X6_get : GoodIn wsX4_sortOut wsX6_get := goodIn_ca (goodIn_r _ [12, 8, 13, 48, 49] (by decide +kernel) (by decide +kernel)) (goodIn_sub (fun _ h => List.mem_cons_of_mem _ (List.mem_append_right _ h)) (by decide +kernel))
set_option maxRecDepth 20000 in
theorem gX4_sortOut_X6_get : GoodIn wsX4_sortOut (wsV RX4 67 RX6 yX6_get wsX6_get) := goodIn_app (goodIn_of _ (by decide +kernel)) ggX4_sortOut_X6_get
set_option maxRecDepth 20000 in
theorem ggX4_sortOut_X4_rateOf : GoodIn wsX4_sortOut wsX4_rateOf := goodIn_ca (goodIn_r _ [19, 2, 20, 21, 22, 23, 24, 25, 26, 14, 10, 11, 6, 12, 8, 13, 39, 40, 41, 42, 43, 44, 45, 46, 47, 48, 49] (by decide +kernel) (by decide +kernel)) (goodIn_sub (fun _ h => List.mem_cons_of_mem _ (List.mem_append_right _ h)) (by decide +kernel))
set_option maxRecDepth 20000 in
theorem gX4_sortOut_X4_rateOf : GoodIn wsX4_sortOut (wsV RX4 137 RX4 yX4_rateOf wsX4_rateOf) := goodIn_app (goodIn_of _ (by decide +kernel)) ggX4_sortOut_X4_rateOf
set_option maxRecDepth 20000 in
theorem ggX4_sortOut_X6_move : GoodIn wsX4_sortOut wsX6_move := goodIn_ca (goodIn_r _ [30, 31, 32, 33, 6, 34, 9, 10, 11, 12, 8, 13, 35, 36, 37, 38, 48, 49] (by decide +kernel) (by decide +kernel)) (goodIn_sub (fun _ h => List.mem_cons_of_mem _ (List.mem_append_right _ h)) (by decide +kernel))
set_option maxRecDepth 20000 in
theorem gX4_sortOut_X6_move : GoodIn wsX4_sortOut (wsV RX4 75 RX6 yX6_move wsX6_move) := goodIn_app (goodIn_of _ (by decide +kernel)) ggX4_sortOut_X6_move
theorem dX4_sortOut_0 : decode cX4_sortOut 0 = .ok (.aload_n 0, 1) := by decide +kernel
theorem dX4_sortOut_1 : decode cX4_sortOut 1 = .ok (.getfield 23, 3) := by decide +kernel
theorem dX4_sortOut_4 : decode cX4_sortOut 4 = .ok (.bipush 9, 2) := by decide +kernel
theorem dX4_sortOut_6 : decode cX4_sortOut 6 = .ok (.invokevirtual 71, 3) := by decide +kernel
theorem dX4_sortOut_9 : decode cX4_sortOut 9 = .ok (.istore_n 2, 1) := by decide +kernel
theorem dX4_sortOut_10 : decode cX4_sortOut 10 = .ok (.aload_n 0, 1) := by decide +kernel
theorem dX4_sortOut_11 : decode cX4_sortOut 11 = .ok (.getfield 20, 3) := by decide +kernel
theorem dX4_sortOut_14 : decode cX4_sortOut 14 = .ok (.iload_n 1, 1) := by decide +kernel
theorem dX4_sortOut_15 : decode cX4_sortOut 15 = .ok (.iconst 0, 1) := by decide +kernel
theorem dX4_sortOut_16 : decode cX4_sortOut 16 = .ok (.invokevirtual 67, 3) := by decide +kernel
theorem dX4_sortOut_19 : decode cX4_sortOut 19 = .ok (.istore_n 3, 1) := by decide +kernel
theorem dX4_sortOut_20 : decode cX4_sortOut 20 = .ok (.iconst 0, 1) := by decide +kernel
theorem dX4_sortOut_21 : decode cX4_sortOut 21 = .ok (.istore 4, 2) := by decide +kernel
theorem dX4_sortOut_23 : decode cX4_sortOut 23 = .ok (.iconst 0, 1) := by decide +kernel
theorem dX4_sortOut_24 : decode cX4_sortOut 24 = .ok (.istore 5, 2) := by decide +kernel
theorem dX4_sortOut_26 : decode cX4_sortOut 26 = .ok (.iload 5, 2) := by decide +kernel
theorem dX4_sortOut_28 : decode cX4_sortOut 28 = .ok (.iconst 5, 1) := by decide +kernel
theorem dX4_sortOut_29 : decode cX4_sortOut 29 = .ok (.if_icmp .ge 68, 3) := by decide +kernel
theorem dX4_sortOut_32 : decode cX4_sortOut 32 = .ok (.aload_n 0, 1) := by decide +kernel
theorem dX4_sortOut_33 : decode cX4_sortOut 33 = .ok (.iload_n 1, 1) := by decide +kernel
theorem dX4_sortOut_34 : decode cX4_sortOut 34 = .ok (.iload_n 2, 1) := by decide +kernel
theorem dX4_sortOut_35 : decode cX4_sortOut 35 = .ok (.iload 5, 2) := by decide +kernel
theorem dX4_sortOut_37 : decode cX4_sortOut 37 = .ok (.iload_n 3, 1) := by decide +kernel
theorem dX4_sortOut_38 : decode cX4_sortOut 38 = .ok (.if_icmp .eq 7, 3) := by decide +kernel
theorem dX4_sortOut_41 : decode cX4_sortOut 41 = .ok (.iconst 1, 1) := by decide +kernel
theorem dX4_sortOut_42 : decode cX4_sortOut 42 = .ok (.goto 4, 3) := by decide +kernel
theorem dX4_sortOut_45 : decode cX4_sortOut 45 = .ok (.iconst 0, 1) := by decide +kernel
theorem dX4_sortOut_46 : decode cX4_sortOut 46 = .ok (.invokevirtual 137, 3) := by decide +kernel
theorem dX4_sortOut_49 : decode cX4_sortOut 49 = .ok (.istore 6, 2) := by decide +kernel
theorem dX4_sortOut_51 : decode cX4_sortOut 51 = .ok (.aload_n 0, 1) := by decide +kernel
theorem dX4_sortOut_52 : decode cX4_sortOut 52 = .ok (.getfield 23, 3) := by decide +kernel
theorem dX4_sortOut_55 : decode cX4_sortOut 55 = .ok (.bipush 9, 2) := by decide +kernel
theorem dX4_sortOut_57 : decode cX4_sortOut 57 = .ok (.iload 5, 2) := by decide +kernel
theorem dX4_sortOut_59 : decode cX4_sortOut 59 = .ok (.invokevirtual 67, 3) := by decide +kernel
theorem dX4_sortOut_62 : decode cX4_sortOut 62 = .ok (.iload 6, 2) := by decide +kernel
theorem dX4_sortOut_64 : decode cX4_sortOut 64 = .ok (.imul, 1) := by decide +kernel
theorem dX4_sortOut_65 : decode cX4_sortOut 65 = .ok (.bipush 100, 2) := by decide +kernel
theorem dX4_sortOut_67 : decode cX4_sortOut 67 = .ok (.idiv, 1) := by decide +kernel
theorem dX4_sortOut_68 : decode cX4_sortOut 68 = .ok (.istore 7, 2) := by decide +kernel
theorem dX4_sortOut_70 : decode cX4_sortOut 70 = .ok (.aload_n 0, 1) := by decide +kernel
theorem dX4_sortOut_71 : decode cX4_sortOut 71 = .ok (.getfield 23, 3) := by decide +kernel
theorem dX4_sortOut_74 : decode cX4_sortOut 74 = .ok (.bipush 9, 2) := by decide +kernel
theorem dX4_sortOut_76 : decode cX4_sortOut 76 = .ok (.iload_n 1, 1) := by decide +kernel
theorem dX4_sortOut_77 : decode cX4_sortOut 77 = .ok (.iload 5, 2) := by decide +kernel
theorem dX4_sortOut_79 : decode cX4_sortOut 79 = .ok (.iload 7, 2) := by decide +kernel
theorem dX4_sortOut_81 : decode cX4_sortOut 81 = .ok (.invokevirtual 75, 3) := by decide +kernel
theorem dX4_sortOut_84 : decode cX4_sortOut 84 = .ok (.iload 4, 2) := by decide +kernel
theorem dX4_sortOut_86 : decode cX4_sortOut 86 = .ok (.iload 7, 2) := by decide +kernel
theorem dX4_sortOut_88 : decode cX4_sortOut 88 = .ok (.iadd, 1) := by decide +kernel
theorem dX4_sortOut_89 : decode cX4_sortOut 89 = .ok (.istore 4, 2) := by decide +kernel
theorem dX4_sortOut_91 : decode cX4_sortOut 91 = .ok (.iinc 5 1, 3) := by decide +kernel
theorem dX4_sortOut_94 : decode cX4_sortOut 94 = .ok (.goto (-68), 3) := by decide +kernel
theorem dX4_sortOut_97 : decode cX4_sortOut 97 = .ok (.iload 4, 2) := by decide +kernel
theorem dX4_sortOut_99 : decode cX4_sortOut 99 = .ok (.ireturn, 1) := by decide +kernel
set_option maxRecDepth 20000 in
theorem ggX4_clearBelt_X6_get : GoodIn wsX4_clearBelt wsX6_get := goodIn_ca (goodIn_r _ [6, 7, 8, 37, 38] (by decide +kernel) (by decide +kernel)) (goodIn_sub (fun _ h => List.mem_cons_of_mem _ (List.mem_append_right _ h)) (by decide +kernel))
set_option maxRecDepth 20000 in
theorem gX4_clearBelt_X6_get : GoodIn wsX4_clearBelt (wsV RX4 67 RX6 yX6_get wsX6_get) := goodIn_app (goodIn_of _ (by decide +kernel)) ggX4_clearBelt_X6_get
set_option maxRecDepth 20000 in
theorem ggX4_clearBelt_X4_setting : GoodIn wsX4_clearBelt wsX4_setting := goodIn_ca (goodIn_r _ [13, 14, 2, 3, 4, 5, 6, 7, 8, 28, 29, 30, 31, 32, 33, 34, 35, 36, 37, 38] (by decide +kernel) (by decide +kernel)) (goodIn_sub (fun _ h => List.mem_cons_of_mem _ (List.mem_append_right _ h)) (by decide +kernel))
set_option maxRecDepth 20000 in
theorem gX4_clearBelt_X4_setting : GoodIn wsX4_clearBelt (wsV RX4 120 RX4 yX4_setting wsX4_setting) := goodIn_app (goodIn_of _ (by decide +kernel)) ggX4_clearBelt_X4_setting
set_option maxRecDepth 20000 in
theorem ggX4_clearBelt_X6_move : GoodIn wsX4_clearBelt wsX6_move := goodIn_ca (goodIn_r _ [18, 19, 20, 21, 5, 22, 23, 3, 4, 6, 7, 8, 24, 25, 26, 27, 37, 38] (by decide +kernel) (by decide +kernel)) (goodIn_sub (fun _ h => List.mem_cons_of_mem _ (List.mem_append_right _ h)) (by decide +kernel))
set_option maxRecDepth 20000 in
theorem gX4_clearBelt_X6_move : GoodIn wsX4_clearBelt (wsV RX4 75 RX6 yX6_move wsX6_move) := goodIn_app (goodIn_of _ (by decide +kernel)) ggX4_clearBelt_X6_move
theorem dX4_clearBelt_0 : decode cX4_clearBelt 0 = .ok (.iconst 0, 1) := by decide +kernel
theorem dX4_clearBelt_1 : decode cX4_clearBelt 1 = .ok (.istore_n 1, 1) := by decide +kernel
theorem dX4_clearBelt_2 : decode cX4_clearBelt 2 = .ok (.iconst 0, 1) := by decide +kernel
theorem dX4_clearBelt_3 : decode cX4_clearBelt 3 = .ok (.istore_n 2, 1) := by decide +kernel
theorem dX4_clearBelt_4 : decode cX4_clearBelt 4 = .ok (.iload_n 2, 1) := by decide +kernel
theorem dX4_clearBelt_5 : decode cX4_clearBelt 5 = .ok (.iconst 5, 1) := by decide +kernel
theorem dX4_clearBelt_6 : decode cX4_clearBelt 6 = .ok (.if_icmp .ge 69, 3) := by decide +kernel
theorem dX4_clearBelt_9 : decode cX4_clearBelt 9 = .ok (.aload_n 0, 1) := by decide +kernel
theorem dX4_clearBelt_10 : decode cX4_clearBelt 10 = .ok (.getfield 23, 3) := by decide +kernel
theorem dX4_clearBelt_13 : decode cX4_clearBelt 13 = .ok (.bipush 9, 2) := by decide +kernel
theorem dX4_clearBelt_15 : decode cX4_clearBelt 15 = .ok (.iload_n 2, 1) := by decide +kernel
theorem dX4_clearBelt_16 : decode cX4_clearBelt 16 = .ok (.invokevirtual 67, 3) := by decide +kernel
theorem dX4_clearBelt_19 : decode cX4_clearBelt 19 = .ok (.istore_n 3, 1) := by decide +kernel
theorem dX4_clearBelt_20 : decode cX4_clearBelt 20 = .ok (.iload_n 3, 1) := by decide +kernel
theorem dX4_clearBelt_21 : decode cX4_clearBelt 21 = .ok (.aload_n 0, 1) := by decide +kernel
theorem dX4_clearBelt_22 : decode cX4_clearBelt 22 = .ok (.iconst 1, 1) := by decide +kernel
theorem dX4_clearBelt_23 : decode cX4_clearBelt 23 = .ok (.invokevirtual 120, 3) := by decide +kernel
theorem dX4_clearBelt_26 : decode cX4_clearBelt 26 = .ok (.imul, 1) := by decide +kernel
theorem dX4_clearBelt_27 : decode cX4_clearBelt 27 = .ok (.bipush 100, 2) := by decide +kernel
theorem dX4_clearBelt_29 : decode cX4_clearBelt 29 = .ok (.idiv, 1) := by decide +kernel
theorem dX4_clearBelt_30 : decode cX4_clearBelt 30 = .ok (.istore 4, 2) := by decide +kernel
theorem dX4_clearBelt_32 : decode cX4_clearBelt 32 = .ok (.aload_n 0, 1) := by decide +kernel
theorem dX4_clearBelt_33 : decode cX4_clearBelt 33 = .ok (.getfield 23, 3) := by decide +kernel
theorem dX4_clearBelt_36 : decode cX4_clearBelt 36 = .ok (.bipush 9, 2) := by decide +kernel
theorem dX4_clearBelt_38 : decode cX4_clearBelt 38 = .ok (.bipush 6, 2) := by decide +kernel
theorem dX4_clearBelt_40 : decode cX4_clearBelt 40 = .ok (.iload_n 2, 1) := by decide +kernel
theorem dX4_clearBelt_41 : decode cX4_clearBelt 41 = .ok (.iload 4, 2) := by decide +kernel
theorem dX4_clearBelt_43 : decode cX4_clearBelt 43 = .ok (.invokevirtual 75, 3) := by decide +kernel
theorem dX4_clearBelt_46 : decode cX4_clearBelt 46 = .ok (.aload_n 0, 1) := by decide +kernel
theorem dX4_clearBelt_47 : decode cX4_clearBelt 47 = .ok (.getfield 23, 3) := by decide +kernel
theorem dX4_clearBelt_50 : decode cX4_clearBelt 50 = .ok (.bipush 9, 2) := by decide +kernel
theorem dX4_clearBelt_52 : decode cX4_clearBelt 52 = .ok (.bipush 7, 2) := by decide +kernel
theorem dX4_clearBelt_54 : decode cX4_clearBelt 54 = .ok (.iload_n 2, 1) := by decide +kernel
theorem dX4_clearBelt_55 : decode cX4_clearBelt 55 = .ok (.iload_n 3, 1) := by decide +kernel
theorem dX4_clearBelt_56 : decode cX4_clearBelt 56 = .ok (.iload 4, 2) := by decide +kernel
theorem dX4_clearBelt_58 : decode cX4_clearBelt 58 = .ok (.isub, 1) := by decide +kernel
theorem dX4_clearBelt_59 : decode cX4_clearBelt 59 = .ok (.invokevirtual 75, 3) := by decide +kernel
theorem dX4_clearBelt_62 : decode cX4_clearBelt 62 = .ok (.iload_n 1, 1) := by decide +kernel
theorem dX4_clearBelt_63 : decode cX4_clearBelt 63 = .ok (.iload_n 3, 1) := by decide +kernel
theorem dX4_clearBelt_64 : decode cX4_clearBelt 64 = .ok (.iload 4, 2) := by decide +kernel
theorem dX4_clearBelt_66 : decode cX4_clearBelt 66 = .ok (.isub, 1) := by decide +kernel
theorem dX4_clearBelt_67 : decode cX4_clearBelt 67 = .ok (.iadd, 1) := by decide +kernel
theorem dX4_clearBelt_68 : decode cX4_clearBelt 68 = .ok (.istore_n 1, 1) := by decide +kernel
theorem dX4_clearBelt_69 : decode cX4_clearBelt 69 = .ok (.iinc 2 1, 3) := by decide +kernel
theorem dX4_clearBelt_72 : decode cX4_clearBelt 72 = .ok (.goto (-68), 3) := by decide +kernel
theorem dX4_clearBelt_75 : decode cX4_clearBelt 75 = .ok (.iload_n 1, 1) := by decide +kernel
theorem dX4_clearBelt_76 : decode cX4_clearBelt 76 = .ok (.ireturn, 1) := by decide +kernel
set_option maxRecDepth 20000 in
theorem ggX4_makeBale_X6_get : GoodIn wsX4_makeBale wsX6_get := goodIn_ca (goodIn_r _ [10, 11, 12, 67, 68] (by decide +kernel) (by decide +kernel)) (goodIn_sub (fun _ h => List.mem_cons_of_mem _ (List.mem_append_left _ (List.mem_append_right _ h))) (by decide +kernel))
set_option maxRecDepth 20000 in
theorem gX4_makeBale_X6_get : GoodIn wsX4_makeBale (wsV RX4 67 RX6 yX6_get wsX6_get) := goodIn_app (goodIn_of _ (by decide +kernel)) ggX4_makeBale_X6_get
set_option maxRecDepth 20000 in
theorem ggX4_makeBale_X4_takeShare : GoodIn wsX4_makeBale wsX4_takeShare := goodIn_ca (goodIn_ca (goodIn_r _ [17, 5, 18, 19, 20, 21, 9, 22, 11, 23, 7, 8, 10, 12, 6, 24, 25, 26, 27, 28, 29, 30, 31, 32, 33, 34, 35, 36, 55, 56, 57, 58, 59, 60, 61, 62, 63, 67, 68] (by decide +kernel) (by decide +kernel)) (goodIn_sub (fun _ h => List.mem_cons_of_mem _ (List.mem_append_right _ h)) (by decide +kernel))) (goodIn_sub (fun _ h => List.mem_cons_of_mem _ (List.mem_append_left _ (List.mem_append_right _ h))) (by decide +kernel))
set_option maxRecDepth 20000 in
theorem gX4_makeBale_X4_takeShare : GoodIn wsX4_makeBale (wsV RX4 123 RX4 yX4_takeShare wsX4_takeShare) := goodIn_app (goodIn_of _ (by decide +kernel)) ggX4_makeBale_X4_takeShare
set_option maxRecDepth 20000 in
theorem ggX4_makeBale_X4_sampledPurity : GoodIn wsX4_makeBale wsX4_sampledPurity := goodIn_ca (goodIn_ca (goodIn_r _ [40, 1, 2, 41, 42, 6, 7, 8, 9, 10, 11, 12, 43, 44, 45, 16, 46, 47, 48, 49, 50, 51, 52, 55, 56, 57, 58, 59, 60, 61, 62, 63, 64, 65, 66, 67, 68] (by decide +kernel) (by decide +kernel)) (goodIn_sub (fun _ h => List.mem_cons_of_mem _ (List.mem_append_right _ h)) (by decide +kernel))) (goodIn_sub (fun _ h => List.mem_cons_of_mem _ (List.mem_append_left _ (List.mem_append_right _ h))) (by decide +kernel))
set_option maxRecDepth 20000 in
theorem gX4_makeBale_X4_sampledPurity : GoodIn wsX4_makeBale (wsV RX4 144 RX4 yX4_sampledPurity wsX4_sampledPurity) := goodIn_app (goodIn_of _ (by decide +kernel)) ggX4_makeBale_X4_sampledPurity
set_option maxRecDepth 20000 in
theorem ggX4_makeBale_X8_gradeOf : GoodIn wsX4_makeBale wsX8_gradeOf := goodIn_r _ [54] (by decide +kernel) (by decide +kernel)
set_option maxRecDepth 20000 in
theorem gX4_makeBale_X8_gradeOf_n148 : GoodIn wsX4_makeBale (wsX8_gradeOf) := ggX4_makeBale_X8_gradeOf
set_option maxRecDepth 20000 in
theorem ggX4_makeBale_X4_setting : GoodIn wsX4_makeBale wsX4_setting := goodIn_ca (goodIn_r _ [46, 47, 6, 7, 8, 9, 10, 11, 12, 55, 56, 57, 58, 59, 60, 61, 62, 63, 67, 68] (by decide +kernel) (by decide +kernel)) (goodIn_sub (fun _ h => List.mem_cons_of_mem _ (List.mem_append_left _ (List.mem_append_right _ h))) (by decide +kernel))
set_option maxRecDepth 20000 in
theorem gX4_makeBale_X4_setting : GoodIn wsX4_makeBale (wsV RX4 120 RX4 yX4_setting wsX4_setting) := goodIn_app (goodIn_of _ (by decide +kernel)) ggX4_makeBale_X4_setting
set_option maxRecDepth 20000 in
theorem ggX4_makeBale_X6_put : GoodIn wsX4_makeBale wsX6_put := goodIn_ca (goodIn_r _ [27, 11, 12, 67, 68] (by decide +kernel) (by decide +kernel)) (goodIn_sub (fun _ h => List.mem_cons_of_mem _ (List.mem_append_left _ (List.mem_append_right _ h))) (by decide +kernel))
set_option maxRecDepth 20000 in
theorem gX4_makeBale_X6_put : GoodIn wsX4_makeBale (wsV RX4 47 RX6 yX6_put wsX6_put) := goodIn_app (goodIn_of _ (by decide +kernel)) ggX4_makeBale_X6_put
set_option maxRecDepth 20000 in
theorem ggX4_makeBale_X8_perThousand : GoodIn wsX4_makeBale wsX8_perThousand := goodIn_ca (goodIn_r _ [52] (by decide +kernel) (by decide +kernel)) (goodIn_sub (fun _ h => List.mem_cons_of_mem _ (List.mem_append_right _ h)) (by decide +kernel))
set_option maxRecDepth 20000 in
theorem gX4_makeBale_X8_perThousand_n151 : GoodIn wsX4_makeBale (wsX8_perThousand) := ggX4_makeBale_X8_perThousand
set_option maxRecDepth 20000 in
theorem ggX4_makeBale_X6_add : GoodIn wsX4_makeBale wsX6_add := goodIn_ca (goodIn_r _ [35, 23, 7, 8, 9, 10, 11, 12, 36, 25, 26, 27, 67, 68] (by decide +kernel) (by decide +kernel)) (goodIn_sub (fun _ h => List.mem_cons_of_mem _ (List.mem_append_left _ (List.mem_append_right _ h))) (by decide +kernel))
set_option maxRecDepth 20000 in
theorem gX4_makeBale_X6_add : GoodIn wsX4_makeBale (wsV RX4 110 RX6 yX6_add wsX6_add) := goodIn_app (goodIn_of _ (by decide +kernel)) ggX4_makeBale_X6_add
theorem dX4_makeBale_0 : decode cX4_makeBale 0 = .ok (.aload_n 0, 1) := by decide +kernel
theorem dX4_makeBale_1 : decode cX4_makeBale 1 = .ok (.getfield 29, 3) := by decide +kernel
theorem dX4_makeBale_4 : decode cX4_makeBale 4 = .ok (.getfield 141, 3) := by decide +kernel
theorem dX4_makeBale_7 : decode cX4_makeBale 7 = .ok (.astore 4, 2) := by decide +kernel
theorem dX4_makeBale_9 : decode cX4_makeBale 9 = .ok (.aload_n 0, 1) := by decide +kernel
theorem dX4_makeBale_10 : decode cX4_makeBale 10 = .ok (.getfield 20, 3) := by decide +kernel
theorem dX4_makeBale_13 : decode cX4_makeBale 13 = .ok (.iload_n 2, 1) := by decide +kernel
theorem dX4_makeBale_14 : decode cX4_makeBale 14 = .ok (.iconst 0, 1) := by decide +kernel
theorem dX4_makeBale_15 : decode cX4_makeBale 15 = .ok (.invokevirtual 67, 3) := by decide +kernel
theorem dX4_makeBale_18 : decode cX4_makeBale 18 = .ok (.istore 5, 2) := by decide +kernel
theorem dX4_makeBale_20 : decode cX4_makeBale 20 = .ok (.aload_n 0, 1) := by decide +kernel
theorem dX4_makeBale_21 : decode cX4_makeBale 21 = .ok (.iload_n 2, 1) := by decide +kernel
theorem dX4_makeBale_22 : decode cX4_makeBale 22 = .ok (.iload_n 3, 1) := by decide +kernel
theorem dX4_makeBale_23 : decode cX4_makeBale 23 = .ok (.aload 4, 2) := by decide +kernel
theorem dX4_makeBale_25 : decode cX4_makeBale 25 = .ok (.iload_n 1, 1) := by decide +kernel
theorem dX4_makeBale_26 : decode cX4_makeBale 26 = .ok (.invokevirtual 123, 3) := by decide +kernel
theorem dX4_makeBale_29 : decode cX4_makeBale 29 = .ok (.aload_n 0, 1) := by decide +kernel
theorem dX4_makeBale_30 : decode cX4_makeBale 30 = .ok (.iload_n 1, 1) := by decide +kernel
theorem dX4_makeBale_31 : decode cX4_makeBale 31 = .ok (.iload 5, 2) := by decide +kernel
theorem dX4_makeBale_33 : decode cX4_makeBale 33 = .ok (.iload_n 3, 1) := by decide +kernel
theorem dX4_makeBale_34 : decode cX4_makeBale 34 = .ok (.invokevirtual 144, 3) := by decide +kernel
theorem dX4_makeBale_37 : decode cX4_makeBale 37 = .ok (.istore 6, 2) := by decide +kernel
theorem dX4_makeBale_39 : decode cX4_makeBale 39 = .ok (.iload 6, 2) := by decide +kernel
theorem dX4_makeBale_41 : decode cX4_makeBale 41 = .ok (.invokestatic 148, 3) := by decide +kernel
theorem dX4_makeBale_44 : decode cX4_makeBale 44 = .ok (.istore 7, 2) := by decide +kernel
theorem dX4_makeBale_46 : decode cX4_makeBale 46 = .ok (.iload 7, 2) := by decide +kernel
theorem dX4_makeBale_48 : decode cX4_makeBale 48 = .ok (.iconst 3, 1) := by decide +kernel
theorem dX4_makeBale_49 : decode cX4_makeBale 49 = .ok (.if_icmp .ne 15, 3) := by decide +kernel
theorem dX4_makeBale_52 : decode cX4_makeBale 52 = .ok (.aload_n 0, 1) := by decide +kernel
theorem dX4_makeBale_53 : decode cX4_makeBale 53 = .ok (.iconst 4, 1) := by decide +kernel
theorem dX4_makeBale_54 : decode cX4_makeBale 54 = .ok (.invokevirtual 120, 3) := by decide +kernel
theorem dX4_makeBale_57 : decode cX4_makeBale 57 = .ok (.ifCond .le 7, 3) := by decide +kernel
theorem dX4_makeBale_60 : decode cX4_makeBale 60 = .ok (.iconst 1, 1) := by decide +kernel
theorem dX4_makeBale_61 : decode cX4_makeBale 61 = .ok (.goto 4, 3) := by decide +kernel
theorem dX4_makeBale_64 : decode cX4_makeBale 64 = .ok (.iconst 0, 1) := by decide +kernel
theorem dX4_makeBale_65 : decode cX4_makeBale 65 = .ok (.istore 8, 2) := by decide +kernel
theorem dX4_makeBale_67 : decode cX4_makeBale 67 = .ok (.aload 4, 2) := by decide +kernel
theorem dX4_makeBale_69 : decode cX4_makeBale 69 = .ok (.iload_n 1, 1) := by decide +kernel
theorem dX4_makeBale_70 : decode cX4_makeBale 70 = .ok (.iconst 5, 1) := by decide +kernel
theorem dX4_makeBale_71 : decode cX4_makeBale 71 = .ok (.iload 5, 2) := by decide +kernel
theorem dX4_makeBale_73 : decode cX4_makeBale 73 = .ok (.invokevirtual 47, 3) := by decide +kernel
theorem dX4_makeBale_76 : decode cX4_makeBale 76 = .ok (.aload 4, 2) := by decide +kernel
theorem dX4_makeBale_78 : decode cX4_makeBale 78 = .ok (.iload_n 1, 1) := by decide +kernel
theorem dX4_makeBale_79 : decode cX4_makeBale 79 = .ok (.bipush 6, 2) := by decide +kernel
theorem dX4_makeBale_81 : decode cX4_makeBale 81 = .ok (.iload_n 3, 1) := by decide +kernel
theorem dX4_makeBale_82 : decode cX4_makeBale 82 = .ok (.invokevirtual 47, 3) := by decide +kernel
theorem dX4_makeBale_85 : decode cX4_makeBale 85 = .ok (.aload 4, 2) := by decide +kernel
theorem dX4_makeBale_87 : decode cX4_makeBale 87 = .ok (.iload_n 1, 1) := by decide +kernel
theorem dX4_makeBale_88 : decode cX4_makeBale 88 = .ok (.bipush 7, 2) := by decide +kernel
theorem dX4_makeBale_90 : decode cX4_makeBale 90 = .ok (.aload 4, 2) := by decide +kernel
theorem dX4_makeBale_92 : decode cX4_makeBale 92 = .ok (.iload_n 1, 1) := by decide +kernel
theorem dX4_makeBale_93 : decode cX4_makeBale 93 = .ok (.iload 5, 2) := by decide +kernel
theorem dX4_makeBale_95 : decode cX4_makeBale 95 = .ok (.invokevirtual 67, 3) := by decide +kernel
theorem dX4_makeBale_98 : decode cX4_makeBale 98 = .ok (.iload_n 3, 1) := by decide +kernel
theorem dX4_makeBale_99 : decode cX4_makeBale 99 = .ok (.invokestatic 151, 3) := by decide +kernel
theorem dX4_makeBale_102 : decode cX4_makeBale 102 = .ok (.invokevirtual 47, 3) := by decide +kernel
theorem dX4_makeBale_105 : decode cX4_makeBale 105 = .ok (.aload 4, 2) := by decide +kernel
theorem dX4_makeBale_107 : decode cX4_makeBale 107 = .ok (.iload_n 1, 1) := by decide +kernel
theorem dX4_makeBale_108 : decode cX4_makeBale 108 = .ok (.bipush 8, 2) := by decide +kernel
theorem dX4_makeBale_110 : decode cX4_makeBale 110 = .ok (.iload 6, 2) := by decide +kernel
theorem dX4_makeBale_112 : decode cX4_makeBale 112 = .ok (.invokevirtual 47, 3) := by decide +kernel
theorem dX4_makeBale_115 : decode cX4_makeBale 115 = .ok (.aload 4, 2) := by decide +kernel
theorem dX4_makeBale_117 : decode cX4_makeBale 117 = .ok (.iload_n 1, 1) := by decide +kernel
theorem dX4_makeBale_118 : decode cX4_makeBale 118 = .ok (.bipush 9, 2) := by decide +kernel
theorem dX4_makeBale_120 : decode cX4_makeBale 120 = .ok (.iload 7, 2) := by decide +kernel
theorem dX4_makeBale_122 : decode cX4_makeBale 122 = .ok (.invokevirtual 47, 3) := by decide +kernel
theorem dX4_makeBale_125 : decode cX4_makeBale 125 = .ok (.aload 4, 2) := by decide +kernel
theorem dX4_makeBale_127 : decode cX4_makeBale 127 = .ok (.iload_n 1, 1) := by decide +kernel
theorem dX4_makeBale_128 : decode cX4_makeBale 128 = .ok (.bipush 10, 2) := by decide +kernel
theorem dX4_makeBale_130 : decode cX4_makeBale 130 = .ok (.iload 8, 2) := by decide +kernel
theorem dX4_makeBale_132 : decode cX4_makeBale 132 = .ok (.ifCond .eq 7, 3) := by decide +kernel
theorem dX4_makeBale_135 : decode cX4_makeBale 135 = .ok (.iconst 2, 1) := by decide +kernel
theorem dX4_makeBale_136 : decode cX4_makeBale 136 = .ok (.goto 4, 3) := by decide +kernel
theorem dX4_makeBale_139 : decode cX4_makeBale 139 = .ok (.iconst 0, 1) := by decide +kernel
theorem dX4_makeBale_140 : decode cX4_makeBale 140 = .ok (.invokevirtual 47, 3) := by decide +kernel
theorem dX4_makeBale_143 : decode cX4_makeBale 143 = .ok (.aload 4, 2) := by decide +kernel
theorem dX4_makeBale_145 : decode cX4_makeBale 145 = .ok (.iload_n 1, 1) := by decide +kernel
theorem dX4_makeBale_146 : decode cX4_makeBale 146 = .ok (.bipush 11, 2) := by decide +kernel
theorem dX4_makeBale_148 : decode cX4_makeBale 148 = .ok (.iconst (-1), 1) := by decide +kernel
theorem dX4_makeBale_149 : decode cX4_makeBale 149 = .ok (.invokevirtual 47, 3) := by decide +kernel
theorem dX4_makeBale_152 : decode cX4_makeBale 152 = .ok (.aload_n 0, 1) := by decide +kernel
theorem dX4_makeBale_153 : decode cX4_makeBale 153 = .ok (.getfield 29, 3) := by decide +kernel
theorem dX4_makeBale_156 : decode cX4_makeBale 156 = .ok (.iload_n 1, 1) := by decide +kernel
theorem dX4_makeBale_157 : decode cX4_makeBale 157 = .ok (.iconst 1, 1) := by decide +kernel
theorem dX4_makeBale_158 : decode cX4_makeBale 158 = .ok (.iadd, 1) := by decide +kernel
theorem dX4_makeBale_159 : decode cX4_makeBale 159 = .ok (.putfield 117, 3) := by decide +kernel
theorem dX4_makeBale_162 : decode cX4_makeBale 162 = .ok (.aload_n 0, 1) := by decide +kernel
theorem dX4_makeBale_163 : decode cX4_makeBale 163 = .ok (.getfield 20, 3) := by decide +kernel
theorem dX4_makeBale_166 : decode cX4_makeBale 166 = .ok (.iload_n 2, 1) := by decide +kernel
theorem dX4_makeBale_167 : decode cX4_makeBale 167 = .ok (.bipush 6, 2) := by decide +kernel
theorem dX4_makeBale_169 : decode cX4_makeBale 169 = .ok (.iconst 1, 1) := by decide +kernel
theorem dX4_makeBale_170 : decode cX4_makeBale 170 = .ok (.invokevirtual 110, 3) := by decide +kernel
theorem dX4_makeBale_173 : decode cX4_makeBale 173 = .ok (.iconst 0, 1) := by decide +kernel
theorem dX4_makeBale_174 : decode cX4_makeBale 174 = .ok (.istore 9, 2) := by decide +kernel
theorem dX4_makeBale_176 : decode cX4_makeBale 176 = .ok (.iload 9, 2) := by decide +kernel
theorem dX4_makeBale_178 : decode cX4_makeBale 178 = .ok (.iconst 5, 1) := by decide +kernel
theorem dX4_makeBale_179 : decode cX4_makeBale 179 = .ok (.if_icmp .ge 33, 3) := by decide +kernel
theorem dX4_makeBale_182 : decode cX4_makeBale 182 = .ok (.iload 8, 2) := by decide +kernel
theorem dX4_makeBale_184 : decode cX4_makeBale 184 = .ok (.ifCond .eq 28, 3) := by decide +kernel
theorem dX4_makeBale_187 : decode cX4_makeBale 187 = .ok (.aload_n 0, 1) := by decide +kernel
theorem dX4_makeBale_188 : decode cX4_makeBale 188 = .ok (.getfield 23, 3) := by decide +kernel
theorem dX4_makeBale_191 : decode cX4_makeBale 191 = .ok (.bipush 6, 2) := by decide +kernel
theorem dX4_makeBale_193 : decode cX4_makeBale 193 = .ok (.iload 9, 2) := by decide +kernel
theorem dX4_makeBale_195 : decode cX4_makeBale 195 = .ok (.aload 4, 2) := by decide +kernel
theorem dX4_makeBale_197 : decode cX4_makeBale 197 = .ok (.iload_n 1, 1) := by decide +kernel
theorem dX4_makeBale_198 : decode cX4_makeBale 198 = .ok (.iload 9, 2) := by decide +kernel
theorem dX4_makeBale_200 : decode cX4_makeBale 200 = .ok (.invokevirtual 67, 3) := by decide +kernel
theorem dX4_makeBale_203 : decode cX4_makeBale 203 = .ok (.invokevirtual 110, 3) := by decide +kernel
theorem dX4_makeBale_206 : decode cX4_makeBale 206 = .ok (.iinc 9 1, 3) := by decide +kernel
theorem dX4_makeBale_209 : decode cX4_makeBale 209 = .ok (.goto (-33), 3) := by decide +kernel
theorem dX4_makeBale_212 : decode cX4_makeBale 212 = .ok (.return_, 1) := by decide +kernel
set_option maxRecDepth 20000 in
theorem ggX4_takeShare_X6_sum : GoodIn wsX4_takeShare wsX6_sum := goodIn_ca (goodIn_r _ [7, 8, 9, 10, 11, 6, 12, 13, 37, 38] (by decide +kernel) (by decide +kernel)) (goodIn_sub (fun _ h => List.mem_cons_of_mem _ (List.mem_append_right _ h)) (by decide +kernel))
set_option maxRecDepth 20000 in
theorem gX4_takeShare_X6_sum : GoodIn wsX4_takeShare (wsV RX4 71 RX6 yX6_sum wsX6_sum) := goodIn_app (goodIn_of _ (by decide +kernel)) ggX4_takeShare_X6_sum
set_option maxRecDepth 20000 in
theorem ggX4_takeShare_X6_get : GoodIn wsX4_takeShare wsX6_get := goodIn_ca (goodIn_r _ [12, 8, 13, 37, 38] (by decide +kernel) (by decide +kernel)) (goodIn_sub (fun _ h => List.mem_cons_of_mem _ (List.mem_append_right _ h)) (by decide +kernel))
set_option maxRecDepth 20000 in
theorem gX4_takeShare_X6_get : GoodIn wsX4_takeShare (wsV RX4 67 RX6 yX6_get wsX6_get) := goodIn_app (goodIn_of _ (by decide +kernel)) ggX4_takeShare_X6_get
set_option maxRecDepth 20000 in
theorem ggX4_takeShare_X6_put : GoodIn wsX4_takeShare wsX6_put := goodIn_ca (goodIn_r _ [18, 8, 13, 37, 38] (by decide +kernel) (by decide +kernel)) (goodIn_sub (fun _ h => List.mem_cons_of_mem _ (List.mem_append_right _ h)) (by decide +kernel))
set_option maxRecDepth 20000 in
theorem gX4_takeShare_X6_put : GoodIn wsX4_takeShare (wsV RX4 47 RX6 yX6_put wsX6_put) := goodIn_app (goodIn_of _ (by decide +kernel)) ggX4_takeShare_X6_put
set_option maxRecDepth 20000 in
theorem ggX4_takeShare_X6_columnOfGreatest : GoodIn wsX4_takeShare wsX6_columnOfGreatest := goodIn_ca (goodIn_r _ [22, 8, 9, 10, 11, 6, 12, 13, 37, 38] (by decide +kernel) (by decide +kernel)) (goodIn_sub (fun _ h => List.mem_cons_of_mem _ (List.mem_append_right _ h)) (by decide +kernel))
set_option maxRecDepth 20000 in
theorem gX4_takeShare_X6_columnOfGreatest : GoodIn wsX4_takeShare (wsV RX4 154 RX6 yX6_columnOfGreatest wsX6_columnOfGreatest) := goodIn_app (goodIn_of _ (by decide +kernel)) ggX4_takeShare_X6_columnOfGreatest
set_option maxRecDepth 20000 in
theorem ggX4_takeShare_X6_add : GoodIn wsX4_takeShare wsX6_add := goodIn_ca (goodIn_r _ [26, 9, 10, 11, 6, 12, 8, 13, 27, 16, 17, 18, 37, 38] (by decide +kernel) (by decide +kernel)) (goodIn_sub (fun _ h => List.mem_cons_of_mem _ (List.mem_append_right _ h)) (by decide +kernel))
set_option maxRecDepth 20000 in
theorem gX4_takeShare_X6_add : GoodIn wsX4_takeShare (wsV RX4 110 RX6 yX6_add wsX6_add) := goodIn_app (goodIn_of _ (by decide +kernel)) ggX4_takeShare_X6_add
theorem dX4_takeShare_0 : decode cX4_takeShare 0 = .ok (.aload_n 0, 1) := by decide +kernel
theorem dX4_takeShare_1 : decode cX4_takeShare 1 = .ok (.getfield 23, 3) := by decide +kernel
theorem dX4_takeShare_4 : decode cX4_takeShare 4 = .ok (.iload_n 1, 1) := by decide +kernel
theorem dX4_takeShare_5 : decode cX4_takeShare 5 = .ok (.invokevirtual 71, 3) := by decide +kernel
theorem dX4_takeShare_8 : decode cX4_takeShare 8 = .ok (.istore 5, 2) := by decide +kernel
theorem dX4_takeShare_10 : decode cX4_takeShare 10 = .ok (.iload_n 2, 1) := by decide +kernel
theorem dX4_takeShare_11 : decode cX4_takeShare 11 = .ok (.istore 6, 2) := by decide +kernel
theorem dX4_takeShare_13 : decode cX4_takeShare 13 = .ok (.iconst 0, 1) := by decide +kernel
theorem dX4_takeShare_14 : decode cX4_takeShare 14 = .ok (.istore 7, 2) := by decide +kernel
theorem dX4_takeShare_16 : decode cX4_takeShare 16 = .ok (.iload 7, 2) := by decide +kernel
theorem dX4_takeShare_18 : decode cX4_takeShare 18 = .ok (.iconst 5, 1) := by decide +kernel
theorem dX4_takeShare_19 : decode cX4_takeShare 19 = .ok (.if_icmp .ge 86, 3) := by decide +kernel
theorem dX4_takeShare_22 : decode cX4_takeShare 22 = .ok (.aload_n 0, 1) := by decide +kernel
theorem dX4_takeShare_23 : decode cX4_takeShare 23 = .ok (.getfield 23, 3) := by decide +kernel
theorem dX4_takeShare_26 : decode cX4_takeShare 26 = .ok (.iload_n 1, 1) := by decide +kernel
theorem dX4_takeShare_27 : decode cX4_takeShare 27 = .ok (.iload 7, 2) := by decide +kernel
theorem dX4_takeShare_29 : decode cX4_takeShare 29 = .ok (.invokevirtual 67, 3) := by decide +kernel
theorem dX4_takeShare_32 : decode cX4_takeShare 32 = .ok (.i2l, 1) := by decide +kernel
theorem dX4_takeShare_33 : decode cX4_takeShare 33 = .ok (.iload_n 2, 1) := by decide +kernel
theorem dX4_takeShare_34 : decode cX4_takeShare 34 = .ok (.i2l, 1) := by decide +kernel
theorem dX4_takeShare_35 : decode cX4_takeShare 35 = .ok (.lmul, 1) := by decide +kernel
theorem dX4_takeShare_36 : decode cX4_takeShare 36 = .ok (.lstore 8, 2) := by decide +kernel
theorem dX4_takeShare_38 : decode cX4_takeShare 38 = .ok (.iload 5, 2) := by decide +kernel
theorem dX4_takeShare_40 : decode cX4_takeShare 40 = .ok (.ifCond .le 13, 3) := by decide +kernel
theorem dX4_takeShare_43 : decode cX4_takeShare 43 = .ok (.lload 8, 2) := by decide +kernel
theorem dX4_takeShare_45 : decode cX4_takeShare 45 = .ok (.iload 5, 2) := by decide +kernel
theorem dX4_takeShare_47 : decode cX4_takeShare 47 = .ok (.i2l, 1) := by decide +kernel
theorem dX4_takeShare_48 : decode cX4_takeShare 48 = .ok (.ldiv, 1) := by decide +kernel
theorem dX4_takeShare_49 : decode cX4_takeShare 49 = .ok (.l2i, 1) := by decide +kernel
theorem dX4_takeShare_50 : decode cX4_takeShare 50 = .ok (.goto 4, 3) := by decide +kernel
theorem dX4_takeShare_53 : decode cX4_takeShare 53 = .ok (.iconst 0, 1) := by decide +kernel
theorem dX4_takeShare_54 : decode cX4_takeShare 54 = .ok (.istore 10, 2) := by decide +kernel
theorem dX4_takeShare_56 : decode cX4_takeShare 56 = .ok (.aload_n 0, 1) := by decide +kernel
theorem dX4_takeShare_57 : decode cX4_takeShare 57 = .ok (.getfield 40, 3) := by decide +kernel
theorem dX4_takeShare_60 : decode cX4_takeShare 60 = .ok (.iconst 0, 1) := by decide +kernel
theorem dX4_takeShare_61 : decode cX4_takeShare 61 = .ok (.iload 7, 2) := by decide +kernel
theorem dX4_takeShare_63 : decode cX4_takeShare 63 = .ok (.iload 5, 2) := by decide +kernel
theorem dX4_takeShare_65 : decode cX4_takeShare 65 = .ok (.ifCond .le 13, 3) := by decide +kernel
theorem dX4_takeShare_68 : decode cX4_takeShare 68 = .ok (.lload 8, 2) := by decide +kernel
theorem dX4_takeShare_70 : decode cX4_takeShare 70 = .ok (.iload 5, 2) := by decide +kernel
theorem dX4_takeShare_72 : decode cX4_takeShare 72 = .ok (.i2l, 1) := by decide +kernel
theorem dX4_takeShare_73 : decode cX4_takeShare 73 = .ok (.lrem, 1) := by decide +kernel
theorem dX4_takeShare_74 : decode cX4_takeShare 74 = .ok (.l2i, 1) := by decide +kernel
theorem dX4_takeShare_75 : decode cX4_takeShare 75 = .ok (.goto 4, 3) := by decide +kernel
theorem dX4_takeShare_78 : decode cX4_takeShare 78 = .ok (.iconst 0, 1) := by decide +kernel
theorem dX4_takeShare_79 : decode cX4_takeShare 79 = .ok (.invokevirtual 47, 3) := by decide +kernel
theorem dX4_takeShare_82 : decode cX4_takeShare 82 = .ok (.aload_n 3, 1) := by decide +kernel
theorem dX4_takeShare_83 : decode cX4_takeShare 83 = .ok (.iload 4, 2) := by decide +kernel
theorem dX4_takeShare_85 : decode cX4_takeShare 85 = .ok (.iload 7, 2) := by decide +kernel
theorem dX4_takeShare_87 : decode cX4_takeShare 87 = .ok (.iload 10, 2) := by decide +kernel
theorem dX4_takeShare_89 : decode cX4_takeShare 89 = .ok (.invokevirtual 47, 3) := by decide +kernel
theorem dX4_takeShare_92 : decode cX4_takeShare 92 = .ok (.iload 6, 2) := by decide +kernel
theorem dX4_takeShare_94 : decode cX4_takeShare 94 = .ok (.iload 10, 2) := by decide +kernel
theorem dX4_takeShare_96 : decode cX4_takeShare 96 = .ok (.isub, 1) := by decide +kernel
theorem dX4_takeShare_97 : decode cX4_takeShare 97 = .ok (.istore 6, 2) := by decide +kernel
theorem dX4_takeShare_99 : decode cX4_takeShare 99 = .ok (.iinc 7 1, 3) := by decide +kernel
theorem dX4_takeShare_102 : decode cX4_takeShare 102 = .ok (.goto (-86), 3) := by decide +kernel
theorem dX4_takeShare_105 : decode cX4_takeShare 105 = .ok (.iconst 0, 1) := by decide +kernel
theorem dX4_takeShare_106 : decode cX4_takeShare 106 = .ok (.istore 7, 2) := by decide +kernel
theorem dX4_takeShare_108 : decode cX4_takeShare 108 = .ok (.iload 7, 2) := by decide +kernel
theorem dX4_takeShare_110 : decode cX4_takeShare 110 = .ok (.iload 6, 2) := by decide +kernel
theorem dX4_takeShare_112 : decode cX4_takeShare 112 = .ok (.if_icmp .ge 39, 3) := by decide +kernel
theorem dX4_takeShare_115 : decode cX4_takeShare 115 = .ok (.aload_n 0, 1) := by decide +kernel
theorem dX4_takeShare_116 : decode cX4_takeShare 116 = .ok (.getfield 40, 3) := by decide +kernel
theorem dX4_takeShare_119 : decode cX4_takeShare 119 = .ok (.iconst 0, 1) := by decide +kernel
theorem dX4_takeShare_120 : decode cX4_takeShare 120 = .ok (.invokevirtual 154, 3) := by decide +kernel
theorem dX4_takeShare_123 : decode cX4_takeShare 123 = .ok (.istore 8, 2) := by decide +kernel
theorem dX4_takeShare_125 : decode cX4_takeShare 125 = .ok (.aload_n 3, 1) := by decide +kernel
theorem dX4_takeShare_126 : decode cX4_takeShare 126 = .ok (.iload 4, 2) := by decide +kernel
theorem dX4_takeShare_128 : decode cX4_takeShare 128 = .ok (.iload 8, 2) := by decide +kernel
theorem dX4_takeShare_130 : decode cX4_takeShare 130 = .ok (.iconst 1, 1) := by decide +kernel
theorem dX4_takeShare_131 : decode cX4_takeShare 131 = .ok (.invokevirtual 110, 3) := by decide +kernel
theorem dX4_takeShare_134 : decode cX4_takeShare 134 = .ok (.aload_n 0, 1) := by decide +kernel
theorem dX4_takeShare_135 : decode cX4_takeShare 135 = .ok (.getfield 40, 3) := by decide +kernel
theorem dX4_takeShare_138 : decode cX4_takeShare 138 = .ok (.iconst 0, 1) := by decide +kernel
theorem dX4_takeShare_139 : decode cX4_takeShare 139 = .ok (.iload 8, 2) := by decide +kernel
theorem dX4_takeShare_141 : decode cX4_takeShare 141 = .ok (.iconst (-1), 1) := by decide +kernel
theorem dX4_takeShare_142 : decode cX4_takeShare 142 = .ok (.invokevirtual 47, 3) := by decide +kernel
theorem dX4_takeShare_145 : decode cX4_takeShare 145 = .ok (.iinc 7 1, 3) := by decide +kernel
theorem dX4_takeShare_148 : decode cX4_takeShare 148 = .ok (.goto (-40), 3) := by decide +kernel
theorem dX4_takeShare_151 : decode cX4_takeShare 151 = .ok (.iconst 0, 1) := by decide +kernel
theorem dX4_takeShare_152 : decode cX4_takeShare 152 = .ok (.istore 7, 2) := by decide +kernel
theorem dX4_takeShare_154 : decode cX4_takeShare 154 = .ok (.iload 7, 2) := by decide +kernel
theorem dX4_takeShare_156 : decode cX4_takeShare 156 = .ok (.iconst 5, 1) := by decide +kernel
theorem dX4_takeShare_157 : decode cX4_takeShare 157 = .ok (.if_icmp .ge 28, 3) := by decide +kernel
theorem dX4_takeShare_160 : decode cX4_takeShare 160 = .ok (.aload_n 0, 1) := by decide +kernel
theorem dX4_takeShare_161 : decode cX4_takeShare 161 = .ok (.getfield 23, 3) := by decide +kernel
theorem dX4_takeShare_164 : decode cX4_takeShare 164 = .ok (.iload_n 1, 1) := by decide +kernel
theorem dX4_takeShare_165 : decode cX4_takeShare 165 = .ok (.iload 7, 2) := by decide +kernel
theorem dX4_takeShare_167 : decode cX4_takeShare 167 = .ok (.aload_n 3, 1) := by decide +kernel
theorem dX4_takeShare_168 : decode cX4_takeShare 168 = .ok (.iload 4, 2) := by decide +kernel
theorem dX4_takeShare_170 : decode cX4_takeShare 170 = .ok (.iload 7, 2) := by decide +kernel
theorem dX4_takeShare_172 : decode cX4_takeShare 172 = .ok (.invokevirtual 67, 3) := by decide +kernel
theorem dX4_takeShare_175 : decode cX4_takeShare 175 = .ok (.ineg, 1) := by decide +kernel
theorem dX4_takeShare_176 : decode cX4_takeShare 176 = .ok (.invokevirtual 110, 3) := by decide +kernel
theorem dX4_takeShare_179 : decode cX4_takeShare 179 = .ok (.iinc 7 1, 3) := by decide +kernel
theorem dX4_takeShare_182 : decode cX4_takeShare 182 = .ok (.goto (-28), 3) := by decide +kernel
theorem dX4_takeShare_185 : decode cX4_takeShare 185 = .ok (.return_, 1) := by decide +kernel
set_option maxRecDepth 20000 in
theorem ggX4_sampledPurity_X6_get : GoodIn wsX4_sampledPurity wsX6_get := goodIn_ca (goodIn_r _ [9, 10, 11, 35, 36] (by decide +kernel) (by decide +kernel)) (goodIn_sub (fun _ h => List.mem_cons_of_mem _ (List.mem_append_right _ h)) (by decide +kernel))
set_option maxRecDepth 20000 in
theorem gX4_sampledPurity_X6_get : GoodIn wsX4_sampledPurity (wsV RX4 67 RX6 yX6_get wsX6_get) := goodIn_app (goodIn_of _ (by decide +kernel)) ggX4_sampledPurity_X6_get
set_option maxRecDepth 20000 in
theorem ggX4_sampledPurity_X4_setting : GoodIn wsX4_sampledPurity wsX4_setting := goodIn_ca (goodIn_r _ [16, 17, 5, 6, 7, 8, 9, 10, 11, 23, 24, 25, 26, 27, 28, 29, 30, 31, 35, 36] (by decide +kernel) (by decide +kernel)) (goodIn_sub (fun _ h => List.mem_cons_of_mem _ (List.mem_append_right _ h)) (by decide +kernel))
set_option maxRecDepth 20000 in
theorem gX4_sampledPurity_X4_setting : GoodIn wsX4_sampledPurity (wsV RX4 120 RX4 yX4_setting wsX4_setting) := goodIn_app (goodIn_of _ (by decide +kernel)) ggX4_sampledPurity_X4_setting
set_option maxRecDepth 20000 in
theorem ggX4_sampledPurity_X8_isWithin : GoodIn wsX4_sampledPurity wsX8_isWithin := goodIn_r _ [20] (by decide +kernel) (by decide +kernel)
set_option maxRecDepth 20000 in
theorem gX4_sampledPurity_X8_isWithin_n97 : GoodIn wsX4_sampledPurity (wsX8_isWithin) := ggX4_sampledPurity_X8_isWithin
set_option maxRecDepth 20000 in
theorem ggX4_sampledPurity_X8_perThousand : GoodIn wsX4_sampledPurity wsX8_perThousand := goodIn_ca (goodIn_r _ [22] (by decide +kernel) (by decide +kernel)) (goodIn_sub (fun _ h => List.mem_cons_of_mem _ (List.mem_append_left _ (List.mem_append_right _ h))) (by decide +kernel))
set_option maxRecDepth 20000 in
theorem gX4_sampledPurity_X8_perThousand_n151 : GoodIn wsX4_sampledPurity (wsX8_perThousand) := ggX4_sampledPurity_X8_perThousand
theorem dX4_sampledPurity_0 : decode cX4_sampledPurity 0 = .ok (.iconst 0, 1) := by decide +kernel
theorem dX4_sampledPurity_1 : decode cX4_sampledPurity 1 = .ok (.istore 4, 2) := by decide +kernel
theorem dX4_sampledPurity_3 : decode cX4_sampledPurity 3 = .ok (.iconst 0, 1) := by decide +kernel
theorem dX4_sampledPurity_4 : decode cX4_sampledPurity 4 = .ok (.istore 5, 2) := by decide +kernel
theorem dX4_sampledPurity_6 : decode cX4_sampledPurity 6 = .ok (.iload 5, 2) := by decide +kernel
theorem dX4_sampledPurity_8 : decode cX4_sampledPurity 8 = .ok (.iload_n 2, 1) := by decide +kernel
theorem dX4_sampledPurity_9 : decode cX4_sampledPurity 9 = .ok (.if_icmp .ge 27, 3) := by decide +kernel
theorem dX4_sampledPurity_12 : decode cX4_sampledPurity 12 = .ok (.iload 4, 2) := by decide +kernel
theorem dX4_sampledPurity_14 : decode cX4_sampledPurity 14 = .ok (.aload_n 0, 1) := by decide +kernel
theorem dX4_sampledPurity_15 : decode cX4_sampledPurity 15 = .ok (.getfield 29, 3) := by decide +kernel
theorem dX4_sampledPurity_18 : decode cX4_sampledPurity 18 = .ok (.getfield 141, 3) := by decide +kernel
theorem dX4_sampledPurity_21 : decode cX4_sampledPurity 21 = .ok (.iload_n 1, 1) := by decide +kernel
theorem dX4_sampledPurity_22 : decode cX4_sampledPurity 22 = .ok (.iload 5, 2) := by decide +kernel
theorem dX4_sampledPurity_24 : decode cX4_sampledPurity 24 = .ok (.invokevirtual 67, 3) := by decide +kernel
theorem dX4_sampledPurity_27 : decode cX4_sampledPurity 27 = .ok (.iadd, 1) := by decide +kernel
theorem dX4_sampledPurity_28 : decode cX4_sampledPurity 28 = .ok (.istore 4, 2) := by decide +kernel
theorem dX4_sampledPurity_30 : decode cX4_sampledPurity 30 = .ok (.iinc 5 1, 3) := by decide +kernel
theorem dX4_sampledPurity_33 : decode cX4_sampledPurity 33 = .ok (.goto (-27), 3) := by decide +kernel
theorem dX4_sampledPurity_36 : decode cX4_sampledPurity 36 = .ok (.iload 4, 2) := by decide +kernel
theorem dX4_sampledPurity_38 : decode cX4_sampledPurity 38 = .ok (.aload_n 0, 1) := by decide +kernel
theorem dX4_sampledPurity_39 : decode cX4_sampledPurity 39 = .ok (.getfield 29, 3) := by decide +kernel
theorem dX4_sampledPurity_42 : decode cX4_sampledPurity 42 = .ok (.getfield 141, 3) := by decide +kernel
theorem dX4_sampledPurity_45 : decode cX4_sampledPurity 45 = .ok (.iload_n 1, 1) := by decide +kernel
theorem dX4_sampledPurity_46 : decode cX4_sampledPurity 46 = .ok (.iload_n 2, 1) := by decide +kernel
theorem dX4_sampledPurity_47 : decode cX4_sampledPurity 47 = .ok (.invokevirtual 67, 3) := by decide +kernel
theorem dX4_sampledPurity_50 : decode cX4_sampledPurity 50 = .ok (.iadd, 1) := by decide +kernel
theorem dX4_sampledPurity_51 : decode cX4_sampledPurity 51 = .ok (.istore 5, 2) := by decide +kernel
theorem dX4_sampledPurity_53 : decode cX4_sampledPurity 53 = .ok (.aload_n 0, 1) := by decide +kernel
theorem dX4_sampledPurity_54 : decode cX4_sampledPurity 54 = .ok (.iconst 3, 1) := by decide +kernel
theorem dX4_sampledPurity_55 : decode cX4_sampledPurity 55 = .ok (.invokevirtual 120, 3) := by decide +kernel
theorem dX4_sampledPurity_58 : decode cX4_sampledPurity 58 = .ok (.istore 6, 2) := by decide +kernel
theorem dX4_sampledPurity_60 : decode cX4_sampledPurity 60 = .ok (.iconst 0, 1) := by decide +kernel
theorem dX4_sampledPurity_61 : decode cX4_sampledPurity 61 = .ok (.istore 7, 2) := by decide +kernel
theorem dX4_sampledPurity_63 : decode cX4_sampledPurity 63 = .ok (.iconst 0, 1) := by decide +kernel
theorem dX4_sampledPurity_64 : decode cX4_sampledPurity 64 = .ok (.istore 8, 2) := by decide +kernel
theorem dX4_sampledPurity_66 : decode cX4_sampledPurity 66 = .ok (.iload 8, 2) := by decide +kernel
theorem dX4_sampledPurity_68 : decode cX4_sampledPurity 68 = .ok (.iload 6, 2) := by decide +kernel
theorem dX4_sampledPurity_70 : decode cX4_sampledPurity 70 = .ok (.if_icmp .ge 67, 3) := by decide +kernel
theorem dX4_sampledPurity_73 : decode cX4_sampledPurity 73 = .ok (.aload_n 0, 1) := by decide +kernel
theorem dX4_sampledPurity_74 : decode cX4_sampledPurity 74 = .ok (.aload_n 0, 1) := by decide +kernel
theorem dX4_sampledPurity_75 : decode cX4_sampledPurity 75 = .ok (.getfield 43, 3) := by decide +kernel
theorem dX4_sampledPurity_78 : decode cX4_sampledPurity 78 = .ok (.ldc 157, 2) := by decide +kernel
theorem dX4_sampledPurity_80 : decode cX4_sampledPurity 80 = .ok (.imul, 1) := by decide +kernel
theorem dX4_sampledPurity_81 : decode cX4_sampledPurity 81 = .ok (.sipush 12345, 3) := by decide +kernel
theorem dX4_sampledPurity_84 : decode cX4_sampledPurity 84 = .ok (.iadd, 1) := by decide +kernel
theorem dX4_sampledPurity_85 : decode cX4_sampledPurity 85 = .ok (.putfield 43, 3) := by decide +kernel
theorem dX4_sampledPurity_88 : decode cX4_sampledPurity 88 = .ok (.iload_n 3, 1) := by decide +kernel
theorem dX4_sampledPurity_89 : decode cX4_sampledPurity 89 = .ok (.ifCond .le 15, 3) := by decide +kernel
theorem dX4_sampledPurity_92 : decode cX4_sampledPurity 92 = .ok (.aload_n 0, 1) := by decide +kernel
theorem dX4_sampledPurity_93 : decode cX4_sampledPurity 93 = .ok (.getfield 43, 3) := by decide +kernel
theorem dX4_sampledPurity_96 : decode cX4_sampledPurity 96 = .ok (.bipush 16, 2) := by decide +kernel
theorem dX4_sampledPurity_98 : decode cX4_sampledPurity 98 = .ok (.iushr, 1) := by decide +kernel
theorem dX4_sampledPurity_99 : decode cX4_sampledPurity 99 = .ok (.iload_n 3, 1) := by decide +kernel
theorem dX4_sampledPurity_100 : decode cX4_sampledPurity 100 = .ok (.irem, 1) := by decide +kernel
theorem dX4_sampledPurity_101 : decode cX4_sampledPurity 101 = .ok (.goto 4, 3) := by decide +kernel
theorem dX4_sampledPurity_104 : decode cX4_sampledPurity 104 = .ok (.iconst 0, 1) := by decide +kernel
theorem dX4_sampledPurity_105 : decode cX4_sampledPurity 105 = .ok (.istore 9, 2) := by decide +kernel
theorem dX4_sampledPurity_107 : decode cX4_sampledPurity 107 = .ok (.iload 7, 2) := by decide +kernel
theorem dX4_sampledPurity_109 : decode cX4_sampledPurity 109 = .ok (.iload 9, 2) := by decide +kernel
theorem dX4_sampledPurity_111 : decode cX4_sampledPurity 111 = .ok (.iload 4, 2) := by decide +kernel
theorem dX4_sampledPurity_113 : decode cX4_sampledPurity 113 = .ok (.iload 5, 2) := by decide +kernel
theorem dX4_sampledPurity_115 : decode cX4_sampledPurity 115 = .ok (.iconst 1, 1) := by decide +kernel
theorem dX4_sampledPurity_116 : decode cX4_sampledPurity 116 = .ok (.isub, 1) := by decide +kernel
theorem dX4_sampledPurity_117 : decode cX4_sampledPurity 117 = .ok (.invokestatic 97, 3) := by decide +kernel
theorem dX4_sampledPurity_120 : decode cX4_sampledPurity 120 = .ok (.ifCond .eq 7, 3) := by decide +kernel
theorem dX4_sampledPurity_123 : decode cX4_sampledPurity 123 = .ok (.iconst 1, 1) := by decide +kernel
theorem dX4_sampledPurity_124 : decode cX4_sampledPurity 124 = .ok (.goto 4, 3) := by decide +kernel
theorem dX4_sampledPurity_127 : decode cX4_sampledPurity 127 = .ok (.iconst 0, 1) := by decide +kernel
theorem dX4_sampledPurity_128 : decode cX4_sampledPurity 128 = .ok (.iadd, 1) := by decide +kernel
theorem dX4_sampledPurity_129 : decode cX4_sampledPurity 129 = .ok (.istore 7, 2) := by decide +kernel
theorem dX4_sampledPurity_131 : decode cX4_sampledPurity 131 = .ok (.iinc 8 1, 3) := by decide +kernel
theorem dX4_sampledPurity_134 : decode cX4_sampledPurity 134 = .ok (.goto (-68), 3) := by decide +kernel
theorem dX4_sampledPurity_137 : decode cX4_sampledPurity 137 = .ok (.iload 7, 2) := by decide +kernel
theorem dX4_sampledPurity_139 : decode cX4_sampledPurity 139 = .ok (.iload 6, 2) := by decide +kernel
theorem dX4_sampledPurity_141 : decode cX4_sampledPurity 141 = .ok (.invokestatic 151, 3) := by decide +kernel
theorem dX4_sampledPurity_144 : decode cX4_sampledPurity 144 = .ok (.ireturn, 1) := by decide +kernel
set_option maxRecDepth 20000 in
theorem ggX4_buyerOf_X0_isInStock : GoodIn wsX4_buyerOf wsX0_isInStock := goodIn_ca (goodIn_r _ [8, 9, 10, 11, 12, 13, 14, 15, 16, 47, 48, 49, 50, 51] (by decide +kernel) (by decide +kernel)) (goodIn_sub (fun _ h => List.mem_cons_of_mem _ (List.mem_append_right _ h)) (by decide +kernel))
set_option maxRecDepth 20000 in
theorem gX4_buyerOf_X0_isInStock : GoodIn wsX4_buyerOf (wsV RX4 158 RX0 yX0_isInStock wsX0_isInStock) := goodIn_app (goodIn_of _ (by decide +kernel)) ggX4_buyerOf_X0_isInStock
set_option maxRecDepth 20000 in
theorem ggX4_buyerOf_X6_get : GoodIn wsX4_buyerOf wsX6_get := goodIn_ca (goodIn_r _ [14, 15, 16, 50, 51] (by decide +kernel) (by decide +kernel)) (goodIn_sub (fun _ h => List.mem_cons_of_mem _ (List.mem_append_right _ h)) (by decide +kernel))
set_option maxRecDepth 20000 in
theorem gX4_buyerOf_X6_get : GoodIn wsX4_buyerOf (wsV RX4 67 RX6 yX6_get wsX6_get) := goodIn_app (goodIn_of _ (by decide +kernel)) ggX4_buyerOf_X6_get
set_option maxRecDepth 20000 in
theorem ggX4_buyerOf_X0_materialOf : GoodIn wsX4_buyerOf wsX0_materialOf := goodIn_ca (goodIn_r _ [21, 9, 10, 11, 12, 13, 14, 15, 16, 47, 48, 49, 50, 51] (by decide +kernel) (by decide +kernel)) (goodIn_sub (fun _ h => List.mem_cons_of_mem _ (List.mem_append_right _ h)) (by decide +kernel))
set_option maxRecDepth 20000 in
theorem gX4_buyerOf_X0_materialOf : GoodIn wsX4_buyerOf (wsV RX4 161 RX0 yX0_materialOf wsX0_materialOf) := goodIn_app (goodIn_of _ (by decide +kernel)) ggX4_buyerOf_X0_materialOf
set_option maxRecDepth 20000 in
theorem ggX4_buyerOf_X1_bestFor : GoodIn wsX4_buyerOf wsX1_bestFor := goodIn_ca (goodIn_r _ [26, 27, 28, 29, 30, 31, 25, 32, 33, 11, 12, 13, 14, 15, 16, 34, 35, 36, 37, 52, 53, 50, 51] (by decide +kernel) (by decide +kernel)) (goodIn_sub (fun _ h => List.mem_cons_of_mem _ (List.mem_append_right _ h)) (by decide +kernel))
set_option maxRecDepth 20000 in
theorem gX4_buyerOf_X1_bestFor : GoodIn wsX4_buyerOf (wsV RX4 164 RX1 yX1_bestFor wsX1_bestFor) := goodIn_app (goodIn_of _ (by decide +kernel)) ggX4_buyerOf_X1_bestFor
theorem dX4_buyerOf_0 : decode cX4_buyerOf 0 = .ok (.aload_n 0, 1) := by decide +kernel
theorem dX4_buyerOf_1 : decode cX4_buyerOf 1 = .ok (.getfield 29, 3) := by decide +kernel
theorem dX4_buyerOf_4 : decode cX4_buyerOf 4 = .ok (.iload_n 1, 1) := by decide +kernel
theorem dX4_buyerOf_5 : decode cX4_buyerOf 5 = .ok (.invokevirtual 158, 3) := by decide +kernel
theorem dX4_buyerOf_8 : decode cX4_buyerOf 8 = .ok (.ifCond .ne 5, 3) := by decide +kernel
theorem dX4_buyerOf_11 : decode cX4_buyerOf 11 = .ok (.iconst (-1), 1) := by decide +kernel
theorem dX4_buyerOf_12 : decode cX4_buyerOf 12 = .ok (.ireturn, 1) := by decide +kernel
theorem dX4_buyerOf_13 : decode cX4_buyerOf 13 = .ok (.aload_n 0, 1) := by decide +kernel
theorem dX4_buyerOf_14 : decode cX4_buyerOf 14 = .ok (.getfield 29, 3) := by decide +kernel
theorem dX4_buyerOf_17 : decode cX4_buyerOf 17 = .ok (.getfield 141, 3) := by decide +kernel
theorem dX4_buyerOf_20 : decode cX4_buyerOf 20 = .ok (.iload_n 1, 1) := by decide +kernel
theorem dX4_buyerOf_21 : decode cX4_buyerOf 21 = .ok (.bipush 8, 2) := by decide +kernel
theorem dX4_buyerOf_23 : decode cX4_buyerOf 23 = .ok (.invokevirtual 67, 3) := by decide +kernel
theorem dX4_buyerOf_26 : decode cX4_buyerOf 26 = .ok (.istore_n 2, 1) := by decide +kernel
theorem dX4_buyerOf_27 : decode cX4_buyerOf 27 = .ok (.aload_n 0, 1) := by decide +kernel
theorem dX4_buyerOf_28 : decode cX4_buyerOf 28 = .ok (.getfield 36, 3) := by decide +kernel
theorem dX4_buyerOf_31 : decode cX4_buyerOf 31 = .ok (.aload_n 0, 1) := by decide +kernel
theorem dX4_buyerOf_32 : decode cX4_buyerOf 32 = .ok (.getfield 29, 3) := by decide +kernel
theorem dX4_buyerOf_35 : decode cX4_buyerOf 35 = .ok (.iload_n 1, 1) := by decide +kernel
theorem dX4_buyerOf_36 : decode cX4_buyerOf 36 = .ok (.invokevirtual 161, 3) := by decide +kernel
theorem dX4_buyerOf_39 : decode cX4_buyerOf 39 = .ok (.iload_n 2, 1) := by decide +kernel
theorem dX4_buyerOf_40 : decode cX4_buyerOf 40 = .ok (.aload_n 0, 1) := by decide +kernel
theorem dX4_buyerOf_41 : decode cX4_buyerOf 41 = .ok (.getfield 29, 3) := by decide +kernel
theorem dX4_buyerOf_44 : decode cX4_buyerOf 44 = .ok (.getfield 141, 3) := by decide +kernel
theorem dX4_buyerOf_47 : decode cX4_buyerOf 47 = .ok (.iload_n 1, 1) := by decide +kernel
theorem dX4_buyerOf_48 : decode cX4_buyerOf 48 = .ok (.bipush 6, 2) := by decide +kernel
theorem dX4_buyerOf_50 : decode cX4_buyerOf 50 = .ok (.invokevirtual 67, 3) := by decide +kernel
theorem dX4_buyerOf_53 : decode cX4_buyerOf 53 = .ok (.invokevirtual 164, 3) := by decide +kernel
theorem dX4_buyerOf_56 : decode cX4_buyerOf 56 = .ok (.ireturn, 1) := by decide +kernel
set_option maxRecDepth 20000 in
theorem ggX4_refusalOf_X0_materialOf : GoodIn wsX4_refusalOf wsX0_materialOf := goodIn_ca (goodIn_r _ [8, 9, 10, 11, 12, 13, 14, 15, 16, 56, 57, 58, 59, 60] (by decide +kernel) (by decide +kernel)) (goodIn_sub (fun _ h => List.mem_cons_of_mem _ (List.mem_append_right _ h)) (by decide +kernel))
set_option maxRecDepth 20000 in
theorem gX4_refusalOf_X0_materialOf : GoodIn wsX4_refusalOf (wsV RX4 161 RX0 yX0_materialOf wsX0_materialOf) := goodIn_app (goodIn_of _ (by decide +kernel)) ggX4_refusalOf_X0_materialOf
set_option maxRecDepth 20000 in
theorem ggX4_refusalOf_X1_leastFloor : GoodIn wsX4_refusalOf wsX1_leastFloor := goodIn_ca (goodIn_r _ [21, 22, 23, 24, 11, 12, 13, 14, 15, 16, 25, 26, 27, 20, 28, 61, 62, 59, 60] (by decide +kernel) (by decide +kernel)) (goodIn_sub (fun _ h => List.mem_cons_of_mem _ (List.mem_append_right _ h)) (by decide +kernel))
set_option maxRecDepth 20000 in
theorem gX4_refusalOf_X1_leastFloor : GoodIn wsX4_refusalOf (wsV RX4 167 RX1 yX1_leastFloor wsX1_leastFloor) := goodIn_app (goodIn_of _ (by decide +kernel)) ggX4_refusalOf_X1_leastFloor
set_option maxRecDepth 20000 in
theorem ggX4_refusalOf_X0_isInStock : GoodIn wsX4_refusalOf wsX0_isInStock := goodIn_ca (goodIn_r _ [32, 9, 10, 11, 12, 13, 14, 15, 16, 56, 57, 58, 59, 60] (by decide +kernel) (by decide +kernel)) (goodIn_sub (fun _ h => List.mem_cons_of_mem _ (List.mem_append_right _ h)) (by decide +kernel))
set_option maxRecDepth 20000 in
theorem gX4_refusalOf_X0_isInStock : GoodIn wsX4_refusalOf (wsV RX4 158 RX0 yX0_isInStock wsX0_isInStock) := goodIn_app (goodIn_of _ (by decide +kernel)) ggX4_refusalOf_X0_isInStock
set_option maxRecDepth 20000 in
theorem ggX4_refusalOf_X6_get : GoodIn wsX4_refusalOf wsX6_get := goodIn_ca (goodIn_r _ [14, 15, 16, 59, 60] (by decide +kernel) (by decide +kernel)) (goodIn_sub (fun _ h => List.mem_cons_of_mem _ (List.mem_append_right _ h)) (by decide +kernel))
set_option maxRecDepth 20000 in
theorem gX4_refusalOf_X6_get : GoodIn wsX4_refusalOf (wsV RX4 67 RX6 yX6_get wsX6_get) := goodIn_app (goodIn_of _ (by decide +kernel)) ggX4_refusalOf_X6_get
set_option maxRecDepth 20000 in
theorem ggX4_refusalOf_X4_buyerOf : GoodIn wsX4_refusalOf wsX4_buyerOf := goodIn_ca (goodIn_r _ [38, 2, 3, 1, 29, 30, 31, 7, 32, 9, 10, 11, 12, 13, 14, 15, 16, 33, 4, 5, 6, 8, 39, 40, 41, 20, 42, 22, 23, 25, 26, 27, 28, 24, 43, 44, 45, 46, 47, 48, 49, 50, 51, 52, 53, 54, 55, 56, 57, 58, 59, 60, 61, 62] (by decide +kernel) (by decide +kernel)) (goodIn_sub (fun _ h => List.mem_cons_of_mem _ (List.mem_append_right _ h)) (by decide +kernel))
set_option maxRecDepth 20000 in
theorem gX4_refusalOf_X4_buyerOf : GoodIn wsX4_refusalOf (wsV RX4 170 RX4 yX4_buyerOf wsX4_buyerOf) := goodIn_app (goodIn_of _ (by decide +kernel)) ggX4_refusalOf_X4_buyerOf
theorem dX4_refusalOf_0 : decode cX4_refusalOf 0 = .ok (.aload_n 0, 1) := by decide +kernel
theorem dX4_refusalOf_1 : decode cX4_refusalOf 1 = .ok (.getfield 36, 3) := by decide +kernel
theorem dX4_refusalOf_4 : decode cX4_refusalOf 4 = .ok (.aload_n 0, 1) := by decide +kernel
theorem dX4_refusalOf_5 : decode cX4_refusalOf 5 = .ok (.getfield 29, 3) := by decide +kernel
theorem dX4_refusalOf_8 : decode cX4_refusalOf 8 = .ok (.iload_n 1, 1) := by decide +kernel
theorem dX4_refusalOf_9 : decode cX4_refusalOf 9 = .ok (.invokevirtual 161, 3) := by decide +kernel
theorem dX4_refusalOf_12 : decode cX4_refusalOf 12 = .ok (.invokevirtual 167, 3) := by decide +kernel
theorem dX4_refusalOf_15 : decode cX4_refusalOf 15 = .ok (.istore_n 2, 1) := by decide +kernel
theorem dX4_refusalOf_16 : decode cX4_refusalOf 16 = .ok (.aload_n 0, 1) := by decide +kernel
theorem dX4_refusalOf_17 : decode cX4_refusalOf 17 = .ok (.getfield 29, 3) := by decide +kernel
theorem dX4_refusalOf_20 : decode cX4_refusalOf 20 = .ok (.iload_n 1, 1) := by decide +kernel
theorem dX4_refusalOf_21 : decode cX4_refusalOf 21 = .ok (.invokevirtual 158, 3) := by decide +kernel
theorem dX4_refusalOf_24 : decode cX4_refusalOf 24 = .ok (.ifCond .ne 5, 3) := by decide +kernel
theorem dX4_refusalOf_27 : decode cX4_refusalOf 27 = .ok (.iconst 1, 1) := by decide +kernel
theorem dX4_refusalOf_28 : decode cX4_refusalOf 28 = .ok (.ireturn, 1) := by decide +kernel
theorem dX4_refusalOf_29 : decode cX4_refusalOf 29 = .ok (.iload_n 2, 1) := by decide +kernel
theorem dX4_refusalOf_30 : decode cX4_refusalOf 30 = .ok (.iconst (-1), 1) := by decide +kernel
theorem dX4_refusalOf_31 : decode cX4_refusalOf 31 = .ok (.if_icmp .ne 5, 3) := by decide +kernel
theorem dX4_refusalOf_34 : decode cX4_refusalOf 34 = .ok (.iconst 2, 1) := by decide +kernel
theorem dX4_refusalOf_35 : decode cX4_refusalOf 35 = .ok (.ireturn, 1) := by decide +kernel
theorem dX4_refusalOf_36 : decode cX4_refusalOf 36 = .ok (.aload_n 0, 1) := by decide +kernel
theorem dX4_refusalOf_37 : decode cX4_refusalOf 37 = .ok (.getfield 29, 3) := by decide +kernel
theorem dX4_refusalOf_40 : decode cX4_refusalOf 40 = .ok (.getfield 141, 3) := by decide +kernel
theorem dX4_refusalOf_43 : decode cX4_refusalOf 43 = .ok (.iload_n 1, 1) := by decide +kernel
theorem dX4_refusalOf_44 : decode cX4_refusalOf 44 = .ok (.bipush 8, 2) := by decide +kernel
theorem dX4_refusalOf_46 : decode cX4_refusalOf 46 = .ok (.invokevirtual 67, 3) := by decide +kernel
theorem dX4_refusalOf_49 : decode cX4_refusalOf 49 = .ok (.iload_n 2, 1) := by decide +kernel
theorem dX4_refusalOf_50 : decode cX4_refusalOf 50 = .ok (.if_icmp .ge 5, 3) := by decide +kernel
theorem dX4_refusalOf_53 : decode cX4_refusalOf 53 = .ok (.iconst 3, 1) := by decide +kernel
theorem dX4_refusalOf_54 : decode cX4_refusalOf 54 = .ok (.ireturn, 1) := by decide +kernel
theorem dX4_refusalOf_55 : decode cX4_refusalOf 55 = .ok (.aload_n 0, 1) := by decide +kernel
theorem dX4_refusalOf_56 : decode cX4_refusalOf 56 = .ok (.iload_n 1, 1) := by decide +kernel
theorem dX4_refusalOf_57 : decode cX4_refusalOf 57 = .ok (.invokevirtual 170, 3) := by decide +kernel
theorem dX4_refusalOf_60 : decode cX4_refusalOf 60 = .ok (.iconst (-1), 1) := by decide +kernel
theorem dX4_refusalOf_61 : decode cX4_refusalOf 61 = .ok (.if_icmp .ne 7, 3) := by decide +kernel
theorem dX4_refusalOf_64 : decode cX4_refusalOf 64 = .ok (.iconst 4, 1) := by decide +kernel
theorem dX4_refusalOf_65 : decode cX4_refusalOf 65 = .ok (.goto 4, 3) := by decide +kernel
theorem dX4_refusalOf_68 : decode cX4_refusalOf 68 = .ok (.iconst 0, 1) := by decide +kernel
theorem dX4_refusalOf_69 : decode cX4_refusalOf 69 = .ok (.ireturn, 1) := by decide +kernel
set_option maxRecDepth 20000 in
theorem ggX4_detailOf_X0_materialOf : GoodIn wsX4_detailOf wsX0_materialOf := goodIn_ca (goodIn_r _ [8, 9, 10, 11, 12, 13, 14, 15, 16, 47, 48, 49, 50, 51] (by decide +kernel) (by decide +kernel)) (goodIn_sub (fun _ h => List.mem_cons_of_mem _ (List.mem_append_right _ h)) (by decide +kernel))
set_option maxRecDepth 20000 in
theorem gX4_detailOf_X0_materialOf : GoodIn wsX4_detailOf (wsV RX4 161 RX0 yX0_materialOf wsX0_materialOf) := goodIn_app (goodIn_of _ (by decide +kernel)) ggX4_detailOf_X0_materialOf
set_option maxRecDepth 20000 in
theorem ggX4_detailOf_X6_get : GoodIn wsX4_detailOf wsX6_get := goodIn_ca (goodIn_r _ [14, 15, 16, 50, 51] (by decide +kernel) (by decide +kernel)) (goodIn_sub (fun _ h => List.mem_cons_of_mem _ (List.mem_append_right _ h)) (by decide +kernel))
set_option maxRecDepth 20000 in
theorem gX4_detailOf_X6_get : GoodIn wsX4_detailOf (wsV RX4 67 RX6 yX6_get wsX6_get) := goodIn_app (goodIn_of _ (by decide +kernel)) ggX4_detailOf_X6_get
set_option maxRecDepth 20000 in
theorem ggX4_detailOf_X1_leastFloor : GoodIn wsX4_detailOf wsX1_leastFloor := goodIn_ca (goodIn_r _ [22, 23, 24, 25, 11, 12, 13, 14, 15, 16, 26, 27, 28, 21, 29, 52, 53, 50, 51] (by decide +kernel) (by decide +kernel)) (goodIn_sub (fun _ h => List.mem_cons_of_mem _ (List.mem_append_right _ h)) (by decide +kernel))
set_option maxRecDepth 20000 in
theorem gX4_detailOf_X1_leastFloor : GoodIn wsX4_detailOf (wsV RX4 167 RX1 yX1_leastFloor wsX1_leastFloor) := goodIn_app (goodIn_of _ (by decide +kernel)) ggX4_detailOf_X1_leastFloor
set_option maxRecDepth 20000 in
theorem ggX4_detailOf_X1_mostWanted : GoodIn wsX4_detailOf wsX1_mostWanted := goodIn_ca (goodIn_r _ [33, 23, 24, 34, 35, 36, 37, 26, 27, 28, 21, 29, 25, 11, 12, 13, 14, 15, 16, 52, 53, 50, 51] (by decide +kernel) (by decide +kernel)) (goodIn_sub (fun _ h => List.mem_cons_of_mem _ (List.mem_append_right _ h)) (by decide +kernel))
set_option maxRecDepth 20000 in
theorem gX4_detailOf_X1_mostWanted : GoodIn wsX4_detailOf (wsV RX4 173 RX1 yX1_mostWanted wsX1_mostWanted) := goodIn_app (goodIn_of _ (by decide +kernel)) ggX4_detailOf_X1_mostWanted
theorem dX4_detailOf_0 : decode cX4_detailOf 0 = .ok (.aload_n 0, 1) := by decide +kernel
theorem dX4_detailOf_1 : decode cX4_detailOf 1 = .ok (.getfield 29, 3) := by decide +kernel
theorem dX4_detailOf_4 : decode cX4_detailOf 4 = .ok (.iload_n 1, 1) := by decide +kernel
theorem dX4_detailOf_5 : decode cX4_detailOf 5 = .ok (.invokevirtual 161, 3) := by decide +kernel
theorem dX4_detailOf_8 : decode cX4_detailOf 8 = .ok (.istore_n 3, 1) := by decide +kernel
theorem dX4_detailOf_9 : decode cX4_detailOf 9 = .ok (.iload_n 2, 1) := by decide +kernel
theorem dX4_detailOf_10 : decode cX4_detailOf 10 = .ok (.tableswitch 51 1 3 #[26, 40, 42], 26) := by decide +kernel
theorem dX4_detailOf_36 : decode cX4_detailOf 36 = .ok (.aload_n 0, 1) := by decide +kernel
theorem dX4_detailOf_37 : decode cX4_detailOf 37 = .ok (.getfield 29, 3) := by decide +kernel
theorem dX4_detailOf_40 : decode cX4_detailOf 40 = .ok (.getfield 141, 3) := by decide +kernel
theorem dX4_detailOf_43 : decode cX4_detailOf 43 = .ok (.iload_n 1, 1) := by decide +kernel
theorem dX4_detailOf_44 : decode cX4_detailOf 44 = .ok (.bipush 10, 2) := by decide +kernel
theorem dX4_detailOf_46 : decode cX4_detailOf 46 = .ok (.invokevirtual 67, 3) := by decide +kernel
theorem dX4_detailOf_49 : decode cX4_detailOf 49 = .ok (.ireturn, 1) := by decide +kernel
theorem dX4_detailOf_50 : decode cX4_detailOf 50 = .ok (.iload_n 3, 1) := by decide +kernel
theorem dX4_detailOf_51 : decode cX4_detailOf 51 = .ok (.ireturn, 1) := by decide +kernel
theorem dX4_detailOf_52 : decode cX4_detailOf 52 = .ok (.aload_n 0, 1) := by decide +kernel
theorem dX4_detailOf_53 : decode cX4_detailOf 53 = .ok (.getfield 36, 3) := by decide +kernel
theorem dX4_detailOf_56 : decode cX4_detailOf 56 = .ok (.iload_n 3, 1) := by decide +kernel
theorem dX4_detailOf_57 : decode cX4_detailOf 57 = .ok (.invokevirtual 167, 3) := by decide +kernel
theorem dX4_detailOf_60 : decode cX4_detailOf 60 = .ok (.ireturn, 1) := by decide +kernel
theorem dX4_detailOf_61 : decode cX4_detailOf 61 = .ok (.aload_n 0, 1) := by decide +kernel
theorem dX4_detailOf_62 : decode cX4_detailOf 62 = .ok (.getfield 36, 3) := by decide +kernel
theorem dX4_detailOf_65 : decode cX4_detailOf 65 = .ok (.iload_n 3, 1) := by decide +kernel
theorem dX4_detailOf_66 : decode cX4_detailOf 66 = .ok (.aload_n 0, 1) := by decide +kernel
theorem dX4_detailOf_67 : decode cX4_detailOf 67 = .ok (.getfield 29, 3) := by decide +kernel
theorem dX4_detailOf_70 : decode cX4_detailOf 70 = .ok (.getfield 141, 3) := by decide +kernel
theorem dX4_detailOf_73 : decode cX4_detailOf 73 = .ok (.iload_n 1, 1) := by decide +kernel
theorem dX4_detailOf_74 : decode cX4_detailOf 74 = .ok (.bipush 8, 2) := by decide +kernel
theorem dX4_detailOf_76 : decode cX4_detailOf 76 = .ok (.invokevirtual 67, 3) := by decide +kernel
theorem dX4_detailOf_79 : decode cX4_detailOf 79 = .ok (.invokevirtual 173, 3) := by decide +kernel
theorem dX4_detailOf_82 : decode cX4_detailOf 82 = .ok (.ireturn, 1) := by decide +kernel
set_option maxRecDepth 20000 in
theorem ggX4_handOver_X4_buyerOf : GoodIn wsX4_handOver wsX4_buyerOf := goodIn_ca (goodIn_r _ [8, 2, 3, 1, 9, 10, 11, 12, 13, 14, 15, 16, 17, 18, 19, 20, 21, 22, 23, 24, 25, 26, 27, 28, 29, 30, 31, 32, 33, 34, 35, 36, 37, 38, 39, 40, 41, 42, 57, 58, 59, 60, 61, 62, 63, 64, 65, 66, 67, 68, 69, 70, 71, 72] (by decide +kernel) (by decide +kernel)) (goodIn_sub (fun _ h => List.mem_cons_of_mem _ (List.mem_append_right _ h)) (by decide +kernel))
set_option maxRecDepth 20000 in
theorem gX4_handOver_X4_buyerOf : GoodIn wsX4_handOver (wsV RX4 170 RX4 yX4_buyerOf wsX4_buyerOf) := goodIn_app (goodIn_of _ (by decide +kernel)) ggX4_handOver_X4_buyerOf
set_option maxRecDepth 20000 in
theorem ggX4_handOver_X6_get : GoodIn wsX4_handOver wsX6_get := goodIn_ca (goodIn_r _ [19, 20, 21, 69, 70] (by decide +kernel) (by decide +kernel)) (goodIn_sub (fun _ h => List.mem_cons_of_mem _ (List.mem_append_right _ h)) (by decide +kernel))
set_option maxRecDepth 20000 in
theorem gX4_handOver_X6_get : GoodIn wsX4_handOver (wsV RX4 67 RX6 yX6_get wsX6_get) := goodIn_app (goodIn_of _ (by decide +kernel)) ggX4_handOver_X6_get
set_option maxRecDepth 20000 in
theorem ggX4_handOver_X1_take : GoodIn wsX4_handOver wsX1_take := goodIn_ca (goodIn_r _ [46, 33, 47, 48, 49, 18, 50, 51, 16, 17, 19, 20, 21, 52, 53, 54, 55, 71, 72, 69, 70] (by decide +kernel) (by decide +kernel)) (goodIn_sub (fun _ h => List.mem_cons_of_mem _ (List.mem_append_right _ h)) (by decide +kernel))
set_option maxRecDepth 20000 in
theorem gX4_handOver_X1_take : GoodIn wsX4_handOver (wsV RX4 176 RX1 yX1_take wsX1_take) := goodIn_app (goodIn_of _ (by decide +kernel)) ggX4_handOver_X1_take
set_option maxRecDepth 20000 in
theorem ggX4_handOver_X6_put : GoodIn wsX4_handOver wsX6_put := goodIn_ca (goodIn_r _ [55, 20, 21, 69, 70] (by decide +kernel) (by decide +kernel)) (goodIn_sub (fun _ h => List.mem_cons_of_mem _ (List.mem_append_right _ h)) (by decide +kernel))
set_option maxRecDepth 20000 in
theorem gX4_handOver_X6_put : GoodIn wsX4_handOver (wsV RX4 47 RX6 yX6_put wsX6_put) := goodIn_app (goodIn_of _ (by decide +kernel)) ggX4_handOver_X6_put
theorem dX4_handOver_0 : decode cX4_handOver 0 = .ok (.aload_n 0, 1) := by decide +kernel
theorem dX4_handOver_1 : decode cX4_handOver 1 = .ok (.iload_n 1, 1) := by decide +kernel
theorem dX4_handOver_2 : decode cX4_handOver 2 = .ok (.invokevirtual 170, 3) := by decide +kernel
theorem dX4_handOver_5 : decode cX4_handOver 5 = .ok (.istore_n 2, 1) := by decide +kernel
theorem dX4_handOver_6 : decode cX4_handOver 6 = .ok (.aload_n 0, 1) := by decide +kernel
theorem dX4_handOver_7 : decode cX4_handOver 7 = .ok (.getfield 36, 3) := by decide +kernel
theorem dX4_handOver_10 : decode cX4_handOver 10 = .ok (.iload_n 2, 1) := by decide +kernel
theorem dX4_handOver_11 : decode cX4_handOver 11 = .ok (.aload_n 0, 1) := by decide +kernel
theorem dX4_handOver_12 : decode cX4_handOver 12 = .ok (.getfield 29, 3) := by decide +kernel
theorem dX4_handOver_15 : decode cX4_handOver 15 = .ok (.getfield 141, 3) := by decide +kernel
theorem dX4_handOver_18 : decode cX4_handOver 18 = .ok (.iload_n 1, 1) := by decide +kernel
theorem dX4_handOver_19 : decode cX4_handOver 19 = .ok (.bipush 6, 2) := by decide +kernel
theorem dX4_handOver_21 : decode cX4_handOver 21 = .ok (.invokevirtual 67, 3) := by decide +kernel
theorem dX4_handOver_24 : decode cX4_handOver 24 = .ok (.invokevirtual 176, 3) := by decide +kernel
theorem dX4_handOver_27 : decode cX4_handOver 27 = .ok (.aload_n 0, 1) := by decide +kernel
theorem dX4_handOver_28 : decode cX4_handOver 28 = .ok (.getfield 29, 3) := by decide +kernel
theorem dX4_handOver_31 : decode cX4_handOver 31 = .ok (.getfield 141, 3) := by decide +kernel
theorem dX4_handOver_34 : decode cX4_handOver 34 = .ok (.iload_n 1, 1) := by decide +kernel
theorem dX4_handOver_35 : decode cX4_handOver 35 = .ok (.bipush 10, 2) := by decide +kernel
theorem dX4_handOver_37 : decode cX4_handOver 37 = .ok (.iconst 1, 1) := by decide +kernel
theorem dX4_handOver_38 : decode cX4_handOver 38 = .ok (.invokevirtual 47, 3) := by decide +kernel
theorem dX4_handOver_41 : decode cX4_handOver 41 = .ok (.aload_n 0, 1) := by decide +kernel
theorem dX4_handOver_42 : decode cX4_handOver 42 = .ok (.getfield 29, 3) := by decide +kernel
theorem dX4_handOver_45 : decode cX4_handOver 45 = .ok (.getfield 141, 3) := by decide +kernel
theorem dX4_handOver_48 : decode cX4_handOver 48 = .ok (.iload_n 1, 1) := by decide +kernel
theorem dX4_handOver_49 : decode cX4_handOver 49 = .ok (.bipush 11, 2) := by decide +kernel
theorem dX4_handOver_51 : decode cX4_handOver 51 = .ok (.iload_n 2, 1) := by decide +kernel
theorem dX4_handOver_52 : decode cX4_handOver 52 = .ok (.invokevirtual 47, 3) := by decide +kernel
theorem dX4_handOver_55 : decode cX4_handOver 55 = .ok (.iload_n 2, 1) := by decide +kernel
theorem dX4_handOver_56 : decode cX4_handOver 56 = .ok (.ireturn, 1) := by decide +kernel
set_option maxRecDepth 20000 in
theorem ggX4_handOverAll_X0_putInOrder : GoodIn wsX4_handOverAll wsX0_putInOrder := goodIn_ca (goodIn_r _ [6, 7, 8, 9, 10, 5, 11, 12, 13, 14, 15, 16, 17, 18, 19, 20, 21, 22, 23, 24, 25, 26, 27, 28, 29, 30, 31, 32, 33, 34, 35, 36, 91, 92, 93, 94, 95] (by decide +kernel) (by decide +kernel)) (goodIn_sub (fun _ h => List.mem_cons_of_mem _ (List.mem_append_right _ h)) (by decide +kernel))
set_option maxRecDepth 20000 in
theorem gX4_handOverAll_X0_putInOrder : GoodIn wsX4_handOverAll (wsV RX4 179 RX0 yX0_putInOrder wsX0_putInOrder) := goodIn_app (goodIn_of _ (by decide +kernel)) ggX4_handOverAll_X0_putInOrder
set_option maxRecDepth 20000 in
theorem ggX4_handOverAll_X0_atPlace : GoodIn wsX4_handOverAll wsX0_atPlace := goodIn_ca (goodIn_r _ [28, 24, 13, 14, 15, 16, 17, 18, 19, 91, 92, 93, 94, 95] (by decide +kernel) (by decide +kernel)) (goodIn_sub (fun _ h => List.mem_cons_of_mem _ (List.mem_append_right _ h)) (by decide +kernel))
set_option maxRecDepth 20000 in
theorem gX4_handOverAll_X0_atPlace : GoodIn wsX4_handOverAll (wsV RX4 182 RX0 yX0_atPlace wsX0_atPlace) := goodIn_app (goodIn_of _ (by decide +kernel)) ggX4_handOverAll_X0_atPlace
set_option maxRecDepth 20000 in
theorem ggX4_handOverAll_X4_buyerOf : GoodIn wsX4_handOverAll wsX4_buyerOf := goodIn_ca (goodIn_r _ [42, 1, 43, 44, 45, 9, 10, 5, 11, 12, 13, 14, 15, 16, 17, 18, 19, 46, 47, 48, 49, 50, 51, 52, 53, 54, 55, 56, 57, 58, 59, 60, 61, 62, 63, 64, 65, 66, 82, 83, 84, 85, 86, 87, 88, 89, 90, 91, 92, 93, 94, 95, 96, 97] (by decide +kernel) (by decide +kernel)) (goodIn_sub (fun _ h => List.mem_cons_of_mem _ (List.mem_append_right _ h)) (by decide +kernel))
set_option maxRecDepth 20000 in
theorem gX4_handOverAll_X4_buyerOf : GoodIn wsX4_handOverAll (wsV RX4 170 RX4 yX4_buyerOf wsX4_buyerOf) := goodIn_app (goodIn_of _ (by decide +kernel)) ggX4_handOverAll_X4_buyerOf
set_option maxRecDepth 20000 in
theorem ggX4_handOverAll_X4_handOver : GoodIn wsX4_handOverAll wsX4_handOver := goodIn_ca (goodIn_r _ [70, 44, 1, 43, 38, 39, 40, 41, 42, 45, 9, 10, 5, 11, 12, 13, 14, 15, 16, 17, 18, 19, 46, 47, 48, 49, 50, 51, 52, 53, 54, 55, 56, 57, 58, 59, 60, 61, 62, 63, 64, 65, 66, 71, 72, 73, 74, 75, 76, 77, 78, 79, 80, 34, 35, 36, 81, 82, 83, 84, 85, 86, 87, 88, 89, 90, 91, 92, 93, 94, 95, 96, 97] (by decide +kernel) (by decide +kernel)) (goodIn_sub (fun _ h => List.mem_cons_of_mem _ (List.mem_append_right _ h)) (by decide +kernel))
set_option maxRecDepth 20000 in
theorem gX4_handOverAll_X4_handOver : GoodIn wsX4_handOverAll (wsV RX4 185 RX4 yX4_handOver wsX4_handOver) := goodIn_app (goodIn_of _ (by decide +kernel)) ggX4_handOverAll_X4_handOver
theorem dX4_handOverAll_0 : decode cX4_handOverAll 0 = .ok (.aload_n 0, 1) := by decide +kernel
theorem dX4_handOverAll_1 : decode cX4_handOverAll 1 = .ok (.getfield 29, 3) := by decide +kernel
theorem dX4_handOverAll_4 : decode cX4_handOverAll 4 = .ok (.invokevirtual 179, 3) := by decide +kernel
theorem dX4_handOverAll_7 : decode cX4_handOverAll 7 = .ok (.istore_n 1, 1) := by decide +kernel
theorem dX4_handOverAll_8 : decode cX4_handOverAll 8 = .ok (.iconst 0, 1) := by decide +kernel
theorem dX4_handOverAll_9 : decode cX4_handOverAll 9 = .ok (.istore_n 2, 1) := by decide +kernel
theorem dX4_handOverAll_10 : decode cX4_handOverAll 10 = .ok (.iconst 0, 1) := by decide +kernel
theorem dX4_handOverAll_11 : decode cX4_handOverAll 11 = .ok (.istore_n 3, 1) := by decide +kernel
theorem dX4_handOverAll_12 : decode cX4_handOverAll 12 = .ok (.iload_n 3, 1) := by decide +kernel
theorem dX4_handOverAll_13 : decode cX4_handOverAll 13 = .ok (.iload_n 1, 1) := by decide +kernel
theorem dX4_handOverAll_14 : decode cX4_handOverAll 14 = .ok (.if_icmp .ge 39, 3) := by decide +kernel
theorem dX4_handOverAll_17 : decode cX4_handOverAll 17 = .ok (.aload_n 0, 1) := by decide +kernel
theorem dX4_handOverAll_18 : decode cX4_handOverAll 18 = .ok (.getfield 29, 3) := by decide +kernel
theorem dX4_handOverAll_21 : decode cX4_handOverAll 21 = .ok (.iload_n 3, 1) := by decide +kernel
theorem dX4_handOverAll_22 : decode cX4_handOverAll 22 = .ok (.invokevirtual 182, 3) := by decide +kernel
theorem dX4_handOverAll_25 : decode cX4_handOverAll 25 = .ok (.istore 4, 2) := by decide +kernel
theorem dX4_handOverAll_27 : decode cX4_handOverAll 27 = .ok (.aload_n 0, 1) := by decide +kernel
theorem dX4_handOverAll_28 : decode cX4_handOverAll 28 = .ok (.iload 4, 2) := by decide +kernel
theorem dX4_handOverAll_30 : decode cX4_handOverAll 30 = .ok (.invokevirtual 170, 3) := by decide +kernel
theorem dX4_handOverAll_33 : decode cX4_handOverAll 33 = .ok (.iconst (-1), 1) := by decide +kernel
theorem dX4_handOverAll_34 : decode cX4_handOverAll 34 = .ok (.if_icmp .eq 13, 3) := by decide +kernel
theorem dX4_handOverAll_37 : decode cX4_handOverAll 37 = .ok (.aload_n 0, 1) := by decide +kernel
theorem dX4_handOverAll_38 : decode cX4_handOverAll 38 = .ok (.iload 4, 2) := by decide +kernel
theorem dX4_handOverAll_40 : decode cX4_handOverAll 40 = .ok (.invokevirtual 185, 3) := by decide +kernel
theorem dX4_handOverAll_43 : decode cX4_handOverAll 43 = .ok (.pop, 1) := by decide +kernel
theorem dX4_handOverAll_44 : decode cX4_handOverAll 44 = .ok (.iinc 2 1, 3) := by decide +kernel
theorem dX4_handOverAll_47 : decode cX4_handOverAll 47 = .ok (.iinc 3 1, 3) := by decide +kernel
theorem dX4_handOverAll_50 : decode cX4_handOverAll 50 = .ok (.goto (-38), 3) := by decide +kernel
theorem dX4_handOverAll_53 : decode cX4_handOverAll 53 = .ok (.iload_n 2, 1) := by decide +kernel
theorem dX4_handOverAll_54 : decode cX4_handOverAll 54 = .ok (.ireturn, 1) := by decide +kernel
set_option maxRecDepth 20000 in
theorem ggX4_accountOf_X6_sum : GoodIn wsX4_accountOf wsX6_sum := goodIn_ca (goodIn_r _ [13, 14, 15, 16, 17, 12, 18, 19, 54, 55] (by decide +kernel) (by decide +kernel)) (goodIn_sub (fun _ h => List.mem_cons_of_mem _ (List.mem_append_right _ h)) (by decide +kernel))
set_option maxRecDepth 20000 in
theorem gX4_accountOf_X6_sum : GoodIn wsX4_accountOf (wsV RX4 71 RX6 yX6_sum wsX6_sum) := goodIn_app (goodIn_of _ (by decide +kernel)) ggX4_accountOf_X6_sum
set_option maxRecDepth 20000 in
theorem ggX4_accountOf_X4_kilosInBunkers : GoodIn wsX4_accountOf wsX4_kilosInBunkers := goodIn_ca (goodIn_r _ [24, 7, 1, 9, 10, 11, 12, 13, 14, 15, 16, 17, 18, 19, 40, 41, 42, 43, 44, 45, 46, 47, 48, 54, 55] (by decide +kernel) (by decide +kernel)) (goodIn_sub (fun _ h => List.mem_cons_of_mem _ (List.mem_append_right _ h)) (by decide +kernel))
set_option maxRecDepth 20000 in
theorem gX4_accountOf_X4_kilosInBunkers : GoodIn wsX4_accountOf (wsV RX4 188 RX4 yX4_kilosInBunkers wsX4_kilosInBunkers) := goodIn_app (goodIn_of _ (by decide +kernel)) ggX4_accountOf_X4_kilosInBunkers
set_option maxRecDepth 20000 in
theorem ggX4_accountOf_X0_kilosIn : GoodIn wsX4_accountOf wsX0_kilosIn := goodIn_ca (goodIn_r _ [29, 30, 31, 32, 16, 17, 12, 18, 14, 19, 49, 50, 51, 54, 55] (by decide +kernel) (by decide +kernel)) (goodIn_sub (fun _ h => List.mem_cons_of_mem _ (List.mem_append_right _ h)) (by decide +kernel))
set_option maxRecDepth 20000 in
theorem gX4_accountOf_X0_kilosIn : GoodIn wsX4_accountOf (wsV RX4 191 RX0 yX0_kilosIn wsX0_kilosIn) := goodIn_app (goodIn_of _ (by decide +kernel)) ggX4_accountOf_X0_kilosIn
set_option maxRecDepth 20000 in
theorem ggX4_accountOf_X4_paid : GoodIn wsX4_accountOf wsX4_paid := goodIn_ca (goodIn_r _ [36, 2, 3, 37, 4, 38, 39, 16, 17, 12, 18, 14, 19, 40, 41, 42, 43, 44, 45, 46, 47, 48, 49, 50, 51, 52, 53, 54, 55] (by decide +kernel) (by decide +kernel)) (goodIn_sub (fun _ h => List.mem_cons_of_mem _ (List.mem_append_right _ h)) (by decide +kernel))
set_option maxRecDepth 20000 in
theorem gX4_accountOf_X4_paid : GoodIn wsX4_accountOf (wsV RX4 195 RX4 yX4_paid wsX4_paid) := goodIn_app (goodIn_of _ (by decide +kernel)) ggX4_accountOf_X4_paid
set_option maxRecDepth 20000 in
theorem ggX4_accountOf_X6_get : GoodIn wsX4_accountOf wsX6_get := goodIn_ca (goodIn_r _ [18, 14, 19, 54, 55] (by decide +kernel) (by decide +kernel)) (goodIn_sub (fun _ h => List.mem_cons_of_mem _ (List.mem_append_right _ h)) (by decide +kernel))
set_option maxRecDepth 20000 in
theorem gX4_accountOf_X6_get : GoodIn wsX4_accountOf (wsV RX4 67 RX6 yX6_get wsX6_get) := goodIn_app (goodIn_of _ (by decide +kernel)) ggX4_accountOf_X6_get
theorem dX4_accountOf_0 : decode cX4_accountOf 0 = .ok (.iload_n 1, 1) := by decide +kernel
theorem dX4_accountOf_1 : decode cX4_accountOf 1 = .ok (.tableswitch 148 5 15 #[59, 70, 76, 86, 96, 107, 116, 125, 131, 136, 142], 59) := by decide +kernel
theorem dX4_accountOf_60 : decode cX4_accountOf 60 = .ok (.aload_n 0, 1) := by decide +kernel
theorem dX4_accountOf_61 : decode cX4_accountOf 61 = .ok (.getfield 23, 3) := by decide +kernel
theorem dX4_accountOf_64 : decode cX4_accountOf 64 = .ok (.bipush 6, 2) := by decide +kernel
theorem dX4_accountOf_66 : decode cX4_accountOf 66 = .ok (.invokevirtual 71, 3) := by decide +kernel
theorem dX4_accountOf_69 : decode cX4_accountOf 69 = .ok (.i2l, 1) := by decide +kernel
theorem dX4_accountOf_70 : decode cX4_accountOf 70 = .ok (.lreturn, 1) := by decide +kernel
theorem dX4_accountOf_71 : decode cX4_accountOf 71 = .ok (.aload_n 0, 1) := by decide +kernel
theorem dX4_accountOf_72 : decode cX4_accountOf 72 = .ok (.invokevirtual 188, 3) := by decide +kernel
theorem dX4_accountOf_75 : decode cX4_accountOf 75 = .ok (.i2l, 1) := by decide +kernel
theorem dX4_accountOf_76 : decode cX4_accountOf 76 = .ok (.lreturn, 1) := by decide +kernel
theorem dX4_accountOf_77 : decode cX4_accountOf 77 = .ok (.aload_n 0, 1) := by decide +kernel
theorem dX4_accountOf_78 : decode cX4_accountOf 78 = .ok (.getfield 29, 3) := by decide +kernel
theorem dX4_accountOf_81 : decode cX4_accountOf 81 = .ok (.iconst 0, 1) := by decide +kernel
theorem dX4_accountOf_82 : decode cX4_accountOf 82 = .ok (.invokevirtual 191, 3) := by decide +kernel
theorem dX4_accountOf_85 : decode cX4_accountOf 85 = .ok (.i2l, 1) := by decide +kernel
theorem dX4_accountOf_86 : decode cX4_accountOf 86 = .ok (.lreturn, 1) := by decide +kernel
theorem dX4_accountOf_87 : decode cX4_accountOf 87 = .ok (.aload_n 0, 1) := by decide +kernel
theorem dX4_accountOf_88 : decode cX4_accountOf 88 = .ok (.getfield 29, 3) := by decide +kernel
theorem dX4_accountOf_91 : decode cX4_accountOf 91 = .ok (.iconst 1, 1) := by decide +kernel
theorem dX4_accountOf_92 : decode cX4_accountOf 92 = .ok (.invokevirtual 191, 3) := by decide +kernel
theorem dX4_accountOf_95 : decode cX4_accountOf 95 = .ok (.i2l, 1) := by decide +kernel
theorem dX4_accountOf_96 : decode cX4_accountOf 96 = .ok (.lreturn, 1) := by decide +kernel
theorem dX4_accountOf_97 : decode cX4_accountOf 97 = .ok (.aload_n 0, 1) := by decide +kernel
theorem dX4_accountOf_98 : decode cX4_accountOf 98 = .ok (.getfield 23, 3) := by decide +kernel
theorem dX4_accountOf_101 : decode cX4_accountOf 101 = .ok (.bipush 7, 2) := by decide +kernel
theorem dX4_accountOf_103 : decode cX4_accountOf 103 = .ok (.invokevirtual 71, 3) := by decide +kernel
theorem dX4_accountOf_106 : decode cX4_accountOf 106 = .ok (.i2l, 1) := by decide +kernel
theorem dX4_accountOf_107 : decode cX4_accountOf 107 = .ok (.lreturn, 1) := by decide +kernel
theorem dX4_accountOf_108 : decode cX4_accountOf 108 = .ok (.aload_n 0, 1) := by decide +kernel
theorem dX4_accountOf_109 : decode cX4_accountOf 109 = .ok (.getfield 29, 3) := by decide +kernel
theorem dX4_accountOf_112 : decode cX4_accountOf 112 = .ok (.getfield 117, 3) := by decide +kernel
theorem dX4_accountOf_115 : decode cX4_accountOf 115 = .ok (.i2l, 1) := by decide +kernel
theorem dX4_accountOf_116 : decode cX4_accountOf 116 = .ok (.lreturn, 1) := by decide +kernel
theorem dX4_accountOf_117 : decode cX4_accountOf 117 = .ok (.aload_n 0, 1) := by decide +kernel
theorem dX4_accountOf_118 : decode cX4_accountOf 118 = .ok (.getfield 36, 3) := by decide +kernel
theorem dX4_accountOf_121 : decode cX4_accountOf 121 = .ok (.getfield 194, 3) := by decide +kernel
theorem dX4_accountOf_124 : decode cX4_accountOf 124 = .ok (.i2l, 1) := by decide +kernel
theorem dX4_accountOf_125 : decode cX4_accountOf 125 = .ok (.lreturn, 1) := by decide +kernel
theorem dX4_accountOf_126 : decode cX4_accountOf 126 = .ok (.aload_n 0, 1) := by decide +kernel
theorem dX4_accountOf_127 : decode cX4_accountOf 127 = .ok (.getfield 64, 3) := by decide +kernel
theorem dX4_accountOf_130 : decode cX4_accountOf 130 = .ok (.i2l, 1) := by decide +kernel
theorem dX4_accountOf_131 : decode cX4_accountOf 131 = .ok (.lreturn, 1) := by decide +kernel
theorem dX4_accountOf_132 : decode cX4_accountOf 132 = .ok (.aload_n 0, 1) := by decide +kernel
theorem dX4_accountOf_133 : decode cX4_accountOf 133 = .ok (.invokevirtual 195, 3) := by decide +kernel
theorem dX4_accountOf_136 : decode cX4_accountOf 136 = .ok (.lreturn, 1) := by decide +kernel
theorem dX4_accountOf_137 : decode cX4_accountOf 137 = .ok (.aload_n 0, 1) := by decide +kernel
theorem dX4_accountOf_138 : decode cX4_accountOf 138 = .ok (.getfield 61, 3) := by decide +kernel
theorem dX4_accountOf_141 : decode cX4_accountOf 141 = .ok (.i2l, 1) := by decide +kernel
theorem dX4_accountOf_142 : decode cX4_accountOf 142 = .ok (.lreturn, 1) := by decide +kernel
theorem dX4_accountOf_143 : decode cX4_accountOf 143 = .ok (.aload_n 0, 1) := by decide +kernel
theorem dX4_accountOf_144 : decode cX4_accountOf 144 = .ok (.getfield 43, 3) := by decide +kernel
theorem dX4_accountOf_147 : decode cX4_accountOf 147 = .ok (.i2l, 1) := by decide +kernel
theorem dX4_accountOf_148 : decode cX4_accountOf 148 = .ok (.lreturn, 1) := by decide +kernel
theorem dX4_accountOf_149 : decode cX4_accountOf 149 = .ok (.aload_n 0, 1) := by decide +kernel
theorem dX4_accountOf_150 : decode cX4_accountOf 150 = .ok (.getfield 23, 3) := by decide +kernel
theorem dX4_accountOf_153 : decode cX4_accountOf 153 = .ok (.bipush 8, 2) := by decide +kernel
theorem dX4_accountOf_155 : decode cX4_accountOf 155 = .ok (.iload_n 1, 1) := by decide +kernel
theorem dX4_accountOf_156 : decode cX4_accountOf 156 = .ok (.invokevirtual 67, 3) := by decide +kernel
theorem dX4_accountOf_159 : decode cX4_accountOf 159 = .ok (.i2l, 1) := by decide +kernel
theorem dX4_accountOf_160 : decode cX4_accountOf 160 = .ok (.lreturn, 1) := by decide +kernel
set_option maxRecDepth 20000 in
theorem ggX4_kilosInBunkers_X6_sum : GoodIn wsX4_kilosInBunkers wsX6_sum := goodIn_ca (goodIn_r _ [7, 8, 9, 10, 11, 6, 12, 13, 23, 24] (by decide +kernel) (by decide +kernel)) (goodIn_sub (fun _ h => List.mem_cons_of_mem _ (List.mem_append_right _ h)) (by decide +kernel))
set_option maxRecDepth 20000 in
theorem gX4_kilosInBunkers_X6_sum : GoodIn wsX4_kilosInBunkers (wsV RX4 71 RX6 yX6_sum wsX6_sum) := goodIn_app (goodIn_of _ (by decide +kernel)) ggX4_kilosInBunkers_X6_sum
theorem dX4_kilosInBunkers_0 : decode cX4_kilosInBunkers 0 = .ok (.iconst 0, 1) := by decide +kernel
theorem dX4_kilosInBunkers_1 : decode cX4_kilosInBunkers 1 = .ok (.istore_n 1, 1) := by decide +kernel
theorem dX4_kilosInBunkers_2 : decode cX4_kilosInBunkers 2 = .ok (.iconst 0, 1) := by decide +kernel
theorem dX4_kilosInBunkers_3 : decode cX4_kilosInBunkers 3 = .ok (.istore_n 2, 1) := by decide +kernel
theorem dX4_kilosInBunkers_4 : decode cX4_kilosInBunkers 4 = .ok (.iload_n 2, 1) := by decide +kernel
theorem dX4_kilosInBunkers_5 : decode cX4_kilosInBunkers 5 = .ok (.aload_n 0, 1) := by decide +kernel
theorem dX4_kilosInBunkers_6 : decode cX4_kilosInBunkers 6 = .ok (.getfield 61, 3) := by decide +kernel
theorem dX4_kilosInBunkers_9 : decode cX4_kilosInBunkers 9 = .ok (.if_icmp .ge 20, 3) := by decide +kernel
theorem dX4_kilosInBunkers_12 : decode cX4_kilosInBunkers 12 = .ok (.iload_n 1, 1) := by decide +kernel
theorem dX4_kilosInBunkers_13 : decode cX4_kilosInBunkers 13 = .ok (.aload_n 0, 1) := by decide +kernel
theorem dX4_kilosInBunkers_14 : decode cX4_kilosInBunkers 14 = .ok (.getfield 23, 3) := by decide +kernel
theorem dX4_kilosInBunkers_17 : decode cX4_kilosInBunkers 17 = .ok (.iload_n 2, 1) := by decide +kernel
theorem dX4_kilosInBunkers_18 : decode cX4_kilosInBunkers 18 = .ok (.invokevirtual 71, 3) := by decide +kernel
theorem dX4_kilosInBunkers_21 : decode cX4_kilosInBunkers 21 = .ok (.iadd, 1) := by decide +kernel
theorem dX4_kilosInBunkers_22 : decode cX4_kilosInBunkers 22 = .ok (.istore_n 1, 1) := by decide +kernel
theorem dX4_kilosInBunkers_23 : decode cX4_kilosInBunkers 23 = .ok (.iinc 2 1, 3) := by decide +kernel
theorem dX4_kilosInBunkers_26 : decode cX4_kilosInBunkers 26 = .ok (.goto (-22), 3) := by decide +kernel
theorem dX4_kilosInBunkers_29 : decode cX4_kilosInBunkers 29 = .ok (.iload_n 1, 1) := by decide +kernel
theorem dX4_kilosInBunkers_30 : decode cX4_kilosInBunkers 30 = .ok (.ireturn, 1) := by decide +kernel
set_option maxRecDepth 20000 in
theorem ggX4_paid_X6_get : GoodIn wsX4_paid wsX6_get := goodIn_ca (goodIn_r _ [10, 11, 12, 27, 28] (by decide +kernel) (by decide +kernel)) (goodIn_sub (fun _ h => List.mem_cons_of_mem _ (List.mem_append_right _ h)) (by decide +kernel))
set_option maxRecDepth 20000 in
theorem gX4_paid_X6_get : GoodIn wsX4_paid (wsV RX4 67 RX6 yX6_get wsX6_get) := goodIn_app (goodIn_of _ (by decide +kernel)) ggX4_paid_X6_get
theorem dX4_paid_0 : decode cX4_paid 0 = .ok (.lconst 0, 1) := by decide +kernel
theorem dX4_paid_1 : decode cX4_paid 1 = .ok (.lstore_n 1, 1) := by decide +kernel
theorem dX4_paid_2 : decode cX4_paid 2 = .ok (.iconst 0, 1) := by decide +kernel
theorem dX4_paid_3 : decode cX4_paid 3 = .ok (.istore_n 3, 1) := by decide +kernel
theorem dX4_paid_4 : decode cX4_paid 4 = .ok (.iload_n 3, 1) := by decide +kernel
theorem dX4_paid_5 : decode cX4_paid 5 = .ok (.aload_n 0, 1) := by decide +kernel
theorem dX4_paid_6 : decode cX4_paid 6 = .ok (.getfield 29, 3) := by decide +kernel
theorem dX4_paid_9 : decode cX4_paid 9 = .ok (.getfield 117, 3) := by decide +kernel
theorem dX4_paid_12 : decode cX4_paid 12 = .ok (.if_icmp .ge 73, 3) := by decide +kernel
theorem dX4_paid_15 : decode cX4_paid 15 = .ok (.aload_n 0, 1) := by decide +kernel
theorem dX4_paid_16 : decode cX4_paid 16 = .ok (.getfield 29, 3) := by decide +kernel
theorem dX4_paid_19 : decode cX4_paid 19 = .ok (.getfield 141, 3) := by decide +kernel
theorem dX4_paid_22 : decode cX4_paid 22 = .ok (.iload_n 3, 1) := by decide +kernel
theorem dX4_paid_23 : decode cX4_paid 23 = .ok (.bipush 10, 2) := by decide +kernel
theorem dX4_paid_25 : decode cX4_paid 25 = .ok (.invokevirtual 67, 3) := by decide +kernel
theorem dX4_paid_28 : decode cX4_paid 28 = .ok (.iconst 1, 1) := by decide +kernel
theorem dX4_paid_29 : decode cX4_paid 29 = .ok (.if_icmp .ne 50, 3) := by decide +kernel
theorem dX4_paid_32 : decode cX4_paid 32 = .ok (.aload_n 0, 1) := by decide +kernel
theorem dX4_paid_33 : decode cX4_paid 33 = .ok (.getfield 36, 3) := by decide +kernel
theorem dX4_paid_36 : decode cX4_paid 36 = .ok (.getfield 199, 3) := by decide +kernel
theorem dX4_paid_39 : decode cX4_paid 39 = .ok (.aload_n 0, 1) := by decide +kernel
theorem dX4_paid_40 : decode cX4_paid 40 = .ok (.getfield 29, 3) := by decide +kernel
theorem dX4_paid_43 : decode cX4_paid 43 = .ok (.getfield 141, 3) := by decide +kernel
theorem dX4_paid_46 : decode cX4_paid 46 = .ok (.iload_n 3, 1) := by decide +kernel
theorem dX4_paid_47 : decode cX4_paid 47 = .ok (.bipush 11, 2) := by decide +kernel
theorem dX4_paid_49 : decode cX4_paid 49 = .ok (.invokevirtual 67, 3) := by decide +kernel
theorem dX4_paid_52 : decode cX4_paid 52 = .ok (.iconst 3, 1) := by decide +kernel
theorem dX4_paid_53 : decode cX4_paid 53 = .ok (.invokevirtual 67, 3) := by decide +kernel
theorem dX4_paid_56 : decode cX4_paid 56 = .ok (.istore 4, 2) := by decide +kernel
theorem dX4_paid_58 : decode cX4_paid 58 = .ok (.lload_n 1, 1) := by decide +kernel
theorem dX4_paid_59 : decode cX4_paid 59 = .ok (.aload_n 0, 1) := by decide +kernel
theorem dX4_paid_60 : decode cX4_paid 60 = .ok (.getfield 29, 3) := by decide +kernel
theorem dX4_paid_63 : decode cX4_paid 63 = .ok (.getfield 141, 3) := by decide +kernel
theorem dX4_paid_66 : decode cX4_paid 66 = .ok (.iload_n 3, 1) := by decide +kernel
theorem dX4_paid_67 : decode cX4_paid 67 = .ok (.bipush 6, 2) := by decide +kernel
theorem dX4_paid_69 : decode cX4_paid 69 = .ok (.invokevirtual 67, 3) := by decide +kernel
theorem dX4_paid_72 : decode cX4_paid 72 = .ok (.i2l, 1) := by decide +kernel
theorem dX4_paid_73 : decode cX4_paid 73 = .ok (.iload 4, 2) := by decide +kernel
theorem dX4_paid_75 : decode cX4_paid 75 = .ok (.i2l, 1) := by decide +kernel
theorem dX4_paid_76 : decode cX4_paid 76 = .ok (.lmul, 1) := by decide +kernel
theorem dX4_paid_77 : decode cX4_paid 77 = .ok (.ladd, 1) := by decide +kernel
theorem dX4_paid_78 : decode cX4_paid 78 = .ok (.lstore_n 1, 1) := by decide +kernel
theorem dX4_paid_79 : decode cX4_paid 79 = .ok (.iinc 3 1, 3) := by decide +kernel
theorem dX4_paid_82 : decode cX4_paid 82 = .ok (.goto (-78), 3) := by decide +kernel
theorem dX4_paid_85 : decode cX4_paid 85 = .ok (.lload_n 1, 1) := by decide +kernel
theorem dX4_paid_86 : decode cX4_paid 86 = .ok (.lreturn, 1) := by decide +kernel
set_option maxRecDepth 20000 in
theorem ggX5_init_X6_init : GoodIn wsX5_init wsX6_init := goodIn_r _ [10, 11, 2, 3, 12, 13, 14, 15, 16, 17, 18, 19, 20] (by decide +kernel) (by decide +kernel)
set_option maxRecDepth 20000 in
theorem gX5_init_X6_init : GoodIn wsX5_init (wsX6_init) := ggX5_init_X6_init
theorem dX5_init_0 : decode cX5_init 0 = .ok (.aload_n 0, 1) := by decide +kernel
theorem dX5_init_1 : decode cX5_init 1 = .ok (.invokespecial 3, 3) := by decide +kernel
theorem dX5_init_4 : decode cX5_init 4 = .ok (.aload_n 0, 1) := by decide +kernel
theorem dX5_init_5 : decode cX5_init 5 = .ok (.new 9, 3) := by decide +kernel
theorem dX5_init_8 : decode cX5_init 8 = .ok (.dup, 1) := by decide +kernel
theorem dX5_init_9 : decode cX5_init 9 = .ok (.iconst 3, 1) := by decide +kernel
theorem dX5_init_10 : decode cX5_init 10 = .ok (.iconst 2, 1) := by decide +kernel
theorem dX5_init_11 : decode cX5_init 11 = .ok (.invokespecial 13, 3) := by decide +kernel
theorem dX5_init_14 : decode cX5_init 14 = .ok (.putfield 16, 3) := by decide +kernel
theorem dX5_init_17 : decode cX5_init 17 = .ok (.return_, 1) := by decide +kernel
set_option maxRecDepth 20000 in
theorem ggX5_replace_X5_fill : GoodIn wsX5_replace wsX5_fill := goodIn_ca (goodIn_r _ [6, 7, 8, 9, 10, 11, 12, 13, 14, 15, 16, 17, 18] (by decide +kernel) (by decide +kernel)) (goodIn_sub (fun _ h => List.mem_cons_of_mem _ (List.mem_append_right _ h)) (by decide +kernel))
set_option maxRecDepth 20000 in
theorem gX5_replace_X5_fill : GoodIn wsX5_replace (wsV RX5 20 RX5 yX5_fill wsX5_fill) := goodIn_app (goodIn_of _ (by decide +kernel)) ggX5_replace_X5_fill
theorem dX5_replace_0 : decode cX5_replace 0 = .ok (.iconst 0, 1) := by decide +kernel
theorem dX5_replace_1 : decode cX5_replace 1 = .ok (.istore 6, 2) := by decide +kernel
theorem dX5_replace_3 : decode cX5_replace 3 = .ok (.iload_n 1, 1) := by decide +kernel
theorem dX5_replace_4 : decode cX5_replace 4 = .ok (.iconst (-1), 1) := by decide +kernel
theorem dX5_replace_5 : decode cX5_replace 5 = .ok (.if_icmp .eq 15, 3) := by decide +kernel
theorem dX5_replace_8 : decode cX5_replace 8 = .ok (.aload_n 0, 1) := by decide +kernel
theorem dX5_replace_9 : decode cX5_replace 9 = .ok (.iload 6, 2) := by decide +kernel
theorem dX5_replace_11 : decode cX5_replace 11 = .ok (.bipush 9, 2) := by decide +kernel
