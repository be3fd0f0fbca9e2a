theorem dX8_carryOut_93 : decode cX8_carryOut 93 = .ok (.getfield 218, 3) := by decide +kernel
theorem dX8_carryOut_96 : decode cX8_carryOut 96 = .ok (.iload_n 2, 1) := by decide +kernel
theorem dX8_carryOut_97 : decode cX8_carryOut 97 = .ok (.iload_n 3, 1) := by decide +kernel
theorem dX8_carryOut_98 : decode cX8_carryOut 98 = .ok (.aload_n 0, 1) := by decide +kernel
theorem dX8_carryOut_99 : decode cX8_carryOut 99 = .ok (.getfield 39, 3) := by decide +kernel
theorem dX8_carryOut_102 : decode cX8_carryOut 102 = .ok (.iload_n 1, 1) := by decide +kernel
theorem dX8_carryOut_103 : decode cX8_carryOut 103 = .ok (.iconst 3, 1) := by decide +kernel
theorem dX8_carryOut_104 : decode cX8_carryOut 104 = .ok (.invokevirtual 376, 3) := by decide +kernel
theorem dX8_carryOut_107 : decode cX8_carryOut 107 = .ok (.aload_n 0, 1) := by decide +kernel
theorem dX8_carryOut_108 : decode cX8_carryOut 108 = .ok (.getfield 39, 3) := by decide +kernel
theorem dX8_carryOut_111 : decode cX8_carryOut 111 = .ok (.iload_n 1, 1) := by decide +kernel
theorem dX8_carryOut_112 : decode cX8_carryOut 112 = .ok (.iconst 4, 1) := by decide +kernel
theorem dX8_carryOut_113 : decode cX8_carryOut 113 = .ok (.invokevirtual 376, 3) := by decide +kernel
theorem dX8_carryOut_116 : decode cX8_carryOut 116 = .ok (.invokevirtual 228, 3) := by decide +kernel
theorem dX8_carryOut_119 : decode cX8_carryOut 119 = .ok (.pop, 1) := by decide +kernel
theorem dX8_carryOut_120 : decode cX8_carryOut 120 = .ok (.goto 12, 3) := by decide +kernel
theorem dX8_carryOut_123 : decode cX8_carryOut 123 = .ok (.aload_n 0, 1) := by decide +kernel
theorem dX8_carryOut_124 : decode cX8_carryOut 124 = .ok (.getfield 16, 3) := by decide +kernel
theorem dX8_carryOut_127 : decode cX8_carryOut 127 = .ok (.iload_n 2, 1) := by decide +kernel
theorem dX8_carryOut_128 : decode cX8_carryOut 128 = .ok (.invokevirtual 249, 3) := by decide +kernel
theorem dX8_carryOut_131 : decode cX8_carryOut 131 = .ok (.pop, 1) := by decide +kernel
theorem dX8_carryOut_132 : decode cX8_carryOut 132 = .ok (.return_, 1) := by decide +kernel
theorem dX9_init_0 : decode cX9_init 0 = .ok (.aload_n 0, 1) := by decide +kernel
theorem dX9_init_1 : decode cX9_init 1 = .ok (.invokespecial 1, 3) := by decide +kernel
theorem dX9_init_4 : decode cX9_init 4 = .ok (.aload_n 0, 1) := by decide +kernel
theorem dX9_init_5 : decode cX9_init 5 = .ok (.sipush 672, 3) := by decide +kernel
theorem dX9_init_8 : decode cX9_init 8 = .ok (.newarray .int, 2) := by decide +kernel
theorem dX9_init_10 : decode cX9_init 10 = .ok (.putfield 7, 3) := by decide +kernel
theorem dX9_init_13 : decode cX9_init 13 = .ok (.aload_n 0, 1) := by decide +kernel
theorem dX9_init_14 : decode cX9_init 14 = .ok (.sipush 672, 3) := by decide +kernel
theorem dX9_init_17 : decode cX9_init 17 = .ok (.newarray .int, 2) := by decide +kernel
theorem dX9_init_19 : decode cX9_init 19 = .ok (.putfield 13, 3) := by decide +kernel
theorem dX9_init_22 : decode cX9_init 22 = .ok (.aload_n 0, 1) := by decide +kernel
theorem dX9_init_23 : decode cX9_init 23 = .ok (.sipush 672, 3) := by decide +kernel
theorem dX9_init_26 : decode cX9_init 26 = .ok (.newarray .int, 2) := by decide +kernel
theorem dX9_init_28 : decode cX9_init 28 = .ok (.putfield 16, 3) := by decide +kernel
theorem dX9_init_31 : decode cX9_init 31 = .ok (.aload_n 0, 1) := by decide +kernel
theorem dX9_init_32 : decode cX9_init 32 = .ok (.sipush 672, 3) := by decide +kernel
theorem dX9_init_35 : decode cX9_init 35 = .ok (.newarray .int, 2) := by decide +kernel
theorem dX9_init_37 : decode cX9_init 37 = .ok (.putfield 19, 3) := by decide +kernel
theorem dX9_init_40 : decode cX9_init 40 = .ok (.aload_n 0, 1) := by decide +kernel
theorem dX9_init_41 : decode cX9_init 41 = .ok (.sipush 5376, 3) := by decide +kernel
theorem dX9_init_44 : decode cX9_init 44 = .ok (.newarray .int, 2) := by decide +kernel
theorem dX9_init_46 : decode cX9_init 46 = .ok (.putfield 22, 3) := by decide +kernel
theorem dX9_init_49 : decode cX9_init 49 = .ok (.aload_n 0, 1) := by decide +kernel
theorem dX9_init_50 : decode cX9_init 50 = .ok (.bipush 6, 2) := by decide +kernel
theorem dX9_init_52 : decode cX9_init 52 = .ok (.newarray .int, 2) := by decide +kernel
theorem dX9_init_54 : decode cX9_init 54 = .ok (.putfield 25, 3) := by decide +kernel
theorem dX9_init_57 : decode cX9_init 57 = .ok (.aload_n 0, 1) := by decide +kernel
theorem dX9_init_58 : decode cX9_init 58 = .ok (.iconst 5, 1) := by decide +kernel
theorem dX9_init_59 : decode cX9_init 59 = .ok (.newarray .int, 2) := by decide +kernel
theorem dX9_init_61 : decode cX9_init 61 = .ok (.putfield 28, 3) := by decide +kernel
theorem dX9_init_64 : decode cX9_init 64 = .ok (.aload_n 0, 1) := by decide +kernel
theorem dX9_init_65 : decode cX9_init 65 = .ok (.iconst 5, 1) := by decide +kernel
theorem dX9_init_66 : decode cX9_init 66 = .ok (.newarray .int, 2) := by decide +kernel
theorem dX9_init_68 : decode cX9_init 68 = .ok (.putfield 31, 3) := by decide +kernel
theorem dX9_init_71 : decode cX9_init 71 = .ok (.aload_n 0, 1) := by decide +kernel
theorem dX9_init_72 : decode cX9_init 72 = .ok (.bipush 60, 2) := by decide +kernel
theorem dX9_init_74 : decode cX9_init 74 = .ok (.newarray .int, 2) := by decide +kernel
theorem dX9_init_76 : decode cX9_init 76 = .ok (.putfield 34, 3) := by decide +kernel
theorem dX9_init_79 : decode cX9_init 79 = .ok (.aload_n 0, 1) := by decide +kernel
theorem dX9_init_80 : decode cX9_init 80 = .ok (.bipush 80, 2) := by decide +kernel
theorem dX9_init_82 : decode cX9_init 82 = .ok (.newarray .int, 2) := by decide +kernel
theorem dX9_init_84 : decode cX9_init 84 = .ok (.putfield 37, 3) := by decide +kernel
theorem dX9_init_87 : decode cX9_init 87 = .ok (.aload_n 0, 1) := by decide +kernel
theorem dX9_init_88 : decode cX9_init 88 = .ok (.sipush 200, 3) := by decide +kernel
theorem dX9_init_91 : decode cX9_init 91 = .ok (.newarray .int, 2) := by decide +kernel
theorem dX9_init_93 : decode cX9_init 93 = .ok (.putfield 40, 3) := by decide +kernel
theorem dX9_init_96 : decode cX9_init 96 = .ok (.aload_n 0, 1) := by decide +kernel
theorem dX9_init_97 : decode cX9_init 97 = .ok (.sipush 672, 3) := by decide +kernel
theorem dX9_init_100 : decode cX9_init 100 = .ok (.newarray .int, 2) := by decide +kernel
theorem dX9_init_102 : decode cX9_init 102 = .ok (.putfield 43, 3) := by decide +kernel
theorem dX9_init_105 : decode cX9_init 105 = .ok (.aload_n 0, 1) := by decide +kernel
theorem dX9_init_106 : decode cX9_init 106 = .ok (.getfield 7, 3) := by decide +kernel
theorem dX9_init_109 : decode cX9_init 109 = .ok (.iconst 1, 1) := by decide +kernel
theorem dX9_init_110 : decode cX9_init 110 = .ok (.iconst 1, 1) := by decide +kernel
theorem dX9_init_111 : decode cX9_init 111 = .ok (.iastore, 1) := by decide +kernel
theorem dX9_init_112 : decode cX9_init 112 = .ok (.aload_n 0, 1) := by decide +kernel
theorem dX9_init_113 : decode cX9_init 113 = .ok (.getfield 7, 3) := by decide +kernel
theorem dX9_init_116 : decode cX9_init 116 = .ok (.bipush 6, 2) := by decide +kernel
theorem dX9_init_118 : decode cX9_init 118 = .ok (.bipush 100, 2) := by decide +kernel
theorem dX9_init_120 : decode cX9_init 120 = .ok (.iastore, 1) := by decide +kernel
theorem dX9_init_121 : decode cX9_init 121 = .ok (.aload_n 0, 1) := by decide +kernel
theorem dX9_init_122 : decode cX9_init 122 = .ok (.getfield 7, 3) := by decide +kernel
theorem dX9_init_125 : decode cX9_init 125 = .ok (.bipush 7, 2) := by decide +kernel
theorem dX9_init_127 : decode cX9_init 127 = .ok (.bipush 50, 2) := by decide +kernel
theorem dX9_init_129 : decode cX9_init 129 = .ok (.iastore, 1) := by decide +kernel
theorem dX9_init_130 : decode cX9_init 130 = .ok (.aload_n 0, 1) := by decide +kernel
theorem dX9_init_131 : decode cX9_init 131 = .ok (.getfield 7, 3) := by decide +kernel
theorem dX9_init_134 : decode cX9_init 134 = .ok (.bipush 8, 2) := by decide +kernel
theorem dX9_init_136 : decode cX9_init 136 = .ok (.bipush 50, 2) := by decide +kernel
theorem dX9_init_138 : decode cX9_init 138 = .ok (.iastore, 1) := by decide +kernel
theorem dX9_init_139 : decode cX9_init 139 = .ok (.aload_n 0, 1) := by decide +kernel
theorem dX9_init_140 : decode cX9_init 140 = .ok (.getfield 7, 3) := by decide +kernel
theorem dX9_init_143 : decode cX9_init 143 = .ok (.bipush 9, 2) := by decide +kernel
theorem dX9_init_145 : decode cX9_init 145 = .ok (.bipush 10, 2) := by decide +kernel
theorem dX9_init_147 : decode cX9_init 147 = .ok (.iastore, 1) := by decide +kernel
theorem dX9_init_148 : decode cX9_init 148 = .ok (.return_, 1) := by decide +kernel
theorem dX9_thrown_0 : decode cX9_thrown 0 = .ok (.aload_n 0, 1) := by decide +kernel
theorem dX9_thrown_1 : decode cX9_thrown 1 = .ok (.getfield 46, 3) := by decide +kernel
theorem dX9_thrown_4 : decode cX9_thrown 4 = .ok (.ireturn, 1) := by decide +kernel
theorem dX9_fails_0 : decode cX9_fails 0 = .ok (.aload_n 0, 1) := by decide +kernel
theorem dX9_fails_1 : decode cX9_fails 1 = .ok (.iload_n 1, 1) := by decide +kernel
theorem dX9_fails_2 : decode cX9_fails 2 = .ok (.putfield 46, 3) := by decide +kernel
theorem dX9_fails_5 : decode cX9_fails 5 = .ok (.iconst 0, 1) := by decide +kernel
theorem dX9_fails_6 : decode cX9_fails 6 = .ok (.ireturn, 1) := by decide +kernel
theorem dX9_in_0 : decode cX9_in 0 = .ok (.iload_n 0, 1) := by decide +kernel
theorem dX9_in_1 : decode cX9_in 1 = .ok (.iload_n 1, 1) := by decide +kernel
theorem dX9_in_2 : decode cX9_in 2 = .ok (.if_icmp .lt 12, 3) := by decide +kernel
theorem dX9_in_5 : decode cX9_in 5 = .ok (.iload_n 0, 1) := by decide +kernel
theorem dX9_in_6 : decode cX9_in 6 = .ok (.iload_n 2, 1) := by decide +kernel
theorem dX9_in_7 : decode cX9_in 7 = .ok (.if_icmp .gt 7, 3) := by decide +kernel
theorem dX9_in_10 : decode cX9_in 10 = .ok (.iconst 1, 1) := by decide +kernel
theorem dX9_in_11 : decode cX9_in 11 = .ok (.goto 4, 3) := by decide +kernel
theorem dX9_in_14 : decode cX9_in 14 = .ok (.iconst 0, 1) := by decide +kernel
theorem dX9_in_15 : decode cX9_in 15 = .ok (.ireturn, 1) := by decide +kernel
set_option maxRecDepth 20000 in
theorem ggX9_isMaterial_X9_in : GoodIn wsX9_isMaterial wsX9_in := goodIn_r _ [4] (by decide +kernel) (by decide +kernel)
set_option maxRecDepth 20000 in
theorem gX9_isMaterial_X9_in : GoodIn wsX9_isMaterial (va_wsS RX9 50 yX9_in wsX9_in) := goodIn_app (goodIn_of _ (by decide +kernel)) ggX9_isMaterial_X9_in
theorem dX9_isMaterial_0 : decode cX9_isMaterial 0 = .ok (.iload_n 0, 1) := by decide +kernel
theorem dX9_isMaterial_1 : decode cX9_isMaterial 1 = .ok (.iconst 0, 1) := by decide +kernel
theorem dX9_isMaterial_2 : decode cX9_isMaterial 2 = .ok (.iconst 4, 1) := by decide +kernel
theorem dX9_isMaterial_3 : decode cX9_isMaterial 3 = .ok (.invokestatic 50, 3) := by decide +kernel
theorem dX9_isMaterial_6 : decode cX9_isMaterial 6 = .ok (.ireturn, 1) := by decide +kernel
set_option maxRecDepth 20000 in
theorem ggX9_isMachine_X9_in : GoodIn wsX9_isMachine wsX9_in := goodIn_r _ [5] (by decide +kernel) (by decide +kernel)
set_option maxRecDepth 20000 in
theorem gX9_isMachine_X9_in : GoodIn wsX9_isMachine (va_wsS RX9 50 yX9_in wsX9_in) := goodIn_app (goodIn_of _ (by decide +kernel)) ggX9_isMachine_X9_in
theorem dX9_isMachine_0 : decode cX9_isMachine 0 = .ok (.iload_n 1, 1) := by decide +kernel
theorem dX9_isMachine_1 : decode cX9_isMachine 1 = .ok (.iconst 0, 1) := by decide +kernel
theorem dX9_isMachine_2 : decode cX9_isMachine 2 = .ok (.aload_n 0, 1) := by decide +kernel
theorem dX9_isMachine_3 : decode cX9_isMachine 3 = .ok (.getfield 7, 3) := by decide +kernel
theorem dX9_isMachine_6 : decode cX9_isMachine 6 = .ok (.iconst 0, 1) := by decide +kernel
theorem dX9_isMachine_7 : decode cX9_isMachine 7 = .ok (.iaload, 1) := by decide +kernel
theorem dX9_isMachine_8 : decode cX9_isMachine 8 = .ok (.iconst 1, 1) := by decide +kernel
theorem dX9_isMachine_9 : decode cX9_isMachine 9 = .ok (.isub, 1) := by decide +kernel
theorem dX9_isMachine_10 : decode cX9_isMachine 10 = .ok (.invokestatic 50, 3) := by decide +kernel
theorem dX9_isMachine_13 : decode cX9_isMachine 13 = .ok (.ireturn, 1) := by decide +kernel
theorem dX9_machineAt_0 : decode cX9_machineAt 0 = .ok (.bipush 26, 2) := by decide +kernel
theorem dX9_machineAt_2 : decode cX9_machineAt 2 = .ok (.bipush 11, 2) := by decide +kernel
theorem dX9_machineAt_4 : decode cX9_machineAt 4 = .ok (.iload_n 0, 1) := by decide +kernel
theorem dX9_machineAt_5 : decode cX9_machineAt 5 = .ok (.imul, 1) := by decide +kernel
theorem dX9_machineAt_6 : decode cX9_machineAt 6 = .ok (.iadd, 1) := by decide +kernel
theorem dX9_machineAt_7 : decode cX9_machineAt 7 = .ok (.iload_n 1, 1) := by decide +kernel
theorem dX9_machineAt_8 : decode cX9_machineAt 8 = .ok (.iadd, 1) := by decide +kernel
theorem dX9_machineAt_9 : decode cX9_machineAt 9 = .ok (.ireturn, 1) := by decide +kernel
theorem dX9_contractAt_0 : decode cX9_contractAt 0 = .ok (.bipush 92, 2) := by decide +kernel
theorem dX9_contractAt_2 : decode cX9_contractAt 2 = .ok (.iconst 5, 1) := by decide +kernel
theorem dX9_contractAt_3 : decode cX9_contractAt 3 = .ok (.iload_n 0, 1) := by decide +kernel
theorem dX9_contractAt_4 : decode cX9_contractAt 4 = .ok (.imul, 1) := by decide +kernel
theorem dX9_contractAt_5 : decode cX9_contractAt 5 = .ok (.iadd, 1) := by decide +kernel
theorem dX9_contractAt_6 : decode cX9_contractAt 6 = .ok (.iload_n 1, 1) := by decide +kernel
theorem dX9_contractAt_7 : decode cX9_contractAt 7 = .ok (.iadd, 1) := by decide +kernel
theorem dX9_contractAt_8 : decode cX9_contractAt 8 = .ok (.ireturn, 1) := by decide +kernel
theorem dX9_baleAt_0 : decode cX9_baleAt 0 = .ok (.sipush 132, 3) := by decide +kernel
theorem dX9_baleAt_3 : decode cX9_baleAt 3 = .ok (.bipush 9, 2) := by decide +kernel
theorem dX9_baleAt_5 : decode cX9_baleAt 5 = .ok (.iload_n 0, 1) := by decide +kernel
theorem dX9_baleAt_6 : decode cX9_baleAt 6 = .ok (.imul, 1) := by decide +kernel
theorem dX9_baleAt_7 : decode cX9_baleAt 7 = .ok (.iadd, 1) := by decide +kernel
theorem dX9_baleAt_8 : decode cX9_baleAt 8 = .ok (.iload_n 1, 1) := by decide +kernel
theorem dX9_baleAt_9 : decode cX9_baleAt 9 = .ok (.iadd, 1) := by decide +kernel
theorem dX9_baleAt_10 : decode cX9_baleAt 10 = .ok (.ireturn, 1) := by decide +kernel
theorem dX9_copies_0 : decode cX9_copies 0 = .ok (.iconst 0, 1) := by decide +kernel
theorem dX9_copies_1 : decode cX9_copies 1 = .ok (.istore 4, 2) := by decide +kernel
theorem dX9_copies_3 : decode cX9_copies 3 = .ok (.iload 4, 2) := by decide +kernel
theorem dX9_copies_5 : decode cX9_copies 5 = .ok (.sipush 672, 3) := by decide +kernel
theorem dX9_copies_8 : decode cX9_copies 8 = .ok (.if_icmp .ge 21, 3) := by decide +kernel
theorem dX9_copies_11 : decode cX9_copies 11 = .ok (.aload_n 2, 1) := by decide +kernel
theorem dX9_copies_12 : decode cX9_copies 12 = .ok (.iload_n 3, 1) := by decide +kernel
theorem dX9_copies_13 : decode cX9_copies 13 = .ok (.iload 4, 2) := by decide +kernel
theorem dX9_copies_15 : decode cX9_copies 15 = .ok (.iadd, 1) := by decide +kernel
theorem dX9_copies_16 : decode cX9_copies 16 = .ok (.aload_n 0, 1) := by decide +kernel
theorem dX9_copies_17 : decode cX9_copies 17 = .ok (.iload_n 1, 1) := by decide +kernel
theorem dX9_copies_18 : decode cX9_copies 18 = .ok (.iload 4, 2) := by decide +kernel
theorem dX9_copies_20 : decode cX9_copies 20 = .ok (.iadd, 1) := by decide +kernel
theorem dX9_copies_21 : decode cX9_copies 21 = .ok (.iaload, 1) := by decide +kernel
theorem dX9_copies_22 : decode cX9_copies 22 = .ok (.iastore, 1) := by decide +kernel
theorem dX9_copies_23 : decode cX9_copies 23 = .ok (.iinc 4 1, 3) := by decide +kernel
theorem dX9_copies_26 : decode cX9_copies 26 = .ok (.goto (-23), 3) := by decide +kernel
theorem dX9_copies_29 : decode cX9_copies 29 = .ok (.return_, 1) := by decide +kernel
theorem dX9_sum_0 : decode cX9_sum 0 = .ok (.iconst 0, 1) := by decide +kernel
theorem dX9_sum_1 : decode cX9_sum 1 = .ok (.istore_n 2, 1) := by decide +kernel
theorem dX9_sum_2 : decode cX9_sum 2 = .ok (.iconst 0, 1) := by decide +kernel
theorem dX9_sum_3 : decode cX9_sum 3 = .ok (.istore_n 3, 1) := by decide +kernel
theorem dX9_sum_4 : decode cX9_sum 4 = .ok (.iload_n 3, 1) := by decide +kernel
theorem dX9_sum_5 : decode cX9_sum 5 = .ok (.iconst 5, 1) := by decide +kernel
theorem dX9_sum_6 : decode cX9_sum 6 = .ok (.if_icmp .ge 20, 3) := by decide +kernel
theorem dX9_sum_9 : decode cX9_sum 9 = .ok (.iload_n 2, 1) := by decide +kernel
theorem dX9_sum_10 : decode cX9_sum 10 = .ok (.aload_n 0, 1) := by decide +kernel
theorem dX9_sum_11 : decode cX9_sum 11 = .ok (.getfield 7, 3) := by decide +kernel
theorem dX9_sum_14 : decode cX9_sum 14 = .ok (.iload_n 1, 1) := by decide +kernel
theorem dX9_sum_15 : decode cX9_sum 15 = .ok (.iload_n 3, 1) := by decide +kernel
theorem dX9_sum_16 : decode cX9_sum 16 = .ok (.iadd, 1) := by decide +kernel
theorem dX9_sum_17 : decode cX9_sum 17 = .ok (.iaload, 1) := by decide +kernel
theorem dX9_sum_18 : decode cX9_sum 18 = .ok (.iadd, 1) := by decide +kernel
theorem dX9_sum_19 : decode cX9_sum 19 = .ok (.istore_n 2, 1) := by decide +kernel
theorem dX9_sum_20 : decode cX9_sum 20 = .ok (.iinc 3 1, 3) := by decide +kernel
theorem dX9_sum_23 : decode cX9_sum 23 = .ok (.goto (-19), 3) := by decide +kernel
theorem dX9_sum_26 : decode cX9_sum 26 = .ok (.iload_n 2, 1) := by decide +kernel
theorem dX9_sum_27 : decode cX9_sum 27 = .ok (.ireturn, 1) := by decide +kernel
set_option maxRecDepth 20000 in
theorem ggX9_changes_X9_copies : GoodIn wsX9_changes wsX9_copies := goodIn_ca (goodIn_r _ [6] (by decide +kernel) (by decide +kernel)) (goodIn_sub (fun _ h => List.mem_cons_of_mem _ (List.mem_append_right _ h)) (by decide +kernel))
set_option maxRecDepth 20000 in
theorem gX9_changes_X9_copies : GoodIn wsX9_changes (va_wsS RX9 57 yX9_copies wsX9_copies) := goodIn_app (goodIn_of _ (by decide +kernel)) ggX9_changes_X9_copies
theorem dX9_changes_0 : decode cX9_changes 0 = .ok (.aload_n 0, 1) := by decide +kernel
theorem dX9_changes_1 : decode cX9_changes 1 = .ok (.getfield 54, 3) := by decide +kernel
theorem dX9_changes_4 : decode cX9_changes 4 = .ok (.bipush 8, 2) := by decide +kernel
theorem dX9_changes_6 : decode cX9_changes 6 = .ok (.if_icmp .ne 44, 3) := by decide +kernel
theorem dX9_changes_9 : decode cX9_changes 9 = .ok (.iconst 0, 1) := by decide +kernel
theorem dX9_changes_10 : decode cX9_changes 10 = .ok (.istore_n 2, 1) := by decide +kernel
theorem dX9_changes_11 : decode cX9_changes 11 = .ok (.iload_n 2, 1) := by decide +kernel
theorem dX9_changes_12 : decode cX9_changes 12 = .ok (.sipush 4704, 3) := by decide +kernel
theorem dX9_changes_15 : decode cX9_changes 15 = .ok (.if_icmp .ge 25, 3) := by decide +kernel
theorem dX9_changes_18 : decode cX9_changes 18 = .ok (.aload_n 0, 1) := by decide +kernel
theorem dX9_changes_19 : decode cX9_changes 19 = .ok (.getfield 22, 3) := by decide +kernel
theorem dX9_changes_22 : decode cX9_changes 22 = .ok (.iload_n 2, 1) := by decide +kernel
theorem dX9_changes_23 : decode cX9_changes 23 = .ok (.aload_n 0, 1) := by decide +kernel
theorem dX9_changes_24 : decode cX9_changes 24 = .ok (.getfield 22, 3) := by decide +kernel
theorem dX9_changes_27 : decode cX9_changes 27 = .ok (.iload_n 2, 1) := by decide +kernel
theorem dX9_changes_28 : decode cX9_changes 28 = .ok (.sipush 672, 3) := by decide +kernel
theorem dX9_changes_31 : decode cX9_changes 31 = .ok (.iadd, 1) := by decide +kernel
theorem dX9_changes_32 : decode cX9_changes 32 = .ok (.iaload, 1) := by decide +kernel
theorem dX9_changes_33 : decode cX9_changes 33 = .ok (.iastore, 1) := by decide +kernel
theorem dX9_changes_34 : decode cX9_changes 34 = .ok (.iinc 2 1, 3) := by decide +kernel
theorem dX9_changes_37 : decode cX9_changes 37 = .ok (.goto (-26), 3) := by decide +kernel
theorem dX9_changes_40 : decode cX9_changes 40 = .ok (.aload_n 0, 1) := by decide +kernel
theorem dX9_changes_41 : decode cX9_changes 41 = .ok (.dup, 1) := by decide +kernel
theorem dX9_changes_42 : decode cX9_changes 42 = .ok (.getfield 54, 3) := by decide +kernel
theorem dX9_changes_45 : decode cX9_changes 45 = .ok (.iconst 1, 1) := by decide +kernel
theorem dX9_changes_46 : decode cX9_changes 46 = .ok (.isub, 1) := by decide +kernel
theorem dX9_changes_47 : decode cX9_changes 47 = .ok (.putfield 54, 3) := by decide +kernel
theorem dX9_changes_50 : decode cX9_changes 50 = .ok (.aload_n 1, 1) := by decide +kernel
theorem dX9_changes_51 : decode cX9_changes 51 = .ok (.iconst 0, 1) := by decide +kernel
theorem dX9_changes_52 : decode cX9_changes 52 = .ok (.aload_n 0, 1) := by decide +kernel
theorem dX9_changes_53 : decode cX9_changes 53 = .ok (.getfield 22, 3) := by decide +kernel
theorem dX9_changes_56 : decode cX9_changes 56 = .ok (.sipush 672, 3) := by decide +kernel
theorem dX9_changes_59 : decode cX9_changes 59 = .ok (.aload_n 0, 1) := by decide +kernel
theorem dX9_changes_60 : decode cX9_changes 60 = .ok (.getfield 54, 3) := by decide +kernel
theorem dX9_changes_63 : decode cX9_changes 63 = .ok (.imul, 1) := by decide +kernel
theorem dX9_changes_64 : decode cX9_changes 64 = .ok (.invokestatic 57, 3) := by decide +kernel
theorem dX9_changes_67 : decode cX9_changes 67 = .ok (.aload_n 0, 1) := by decide +kernel
theorem dX9_changes_68 : decode cX9_changes 68 = .ok (.dup, 1) := by decide +kernel
theorem dX9_changes_69 : decode cX9_changes 69 = .ok (.getfield 54, 3) := by decide +kernel
theorem dX9_changes_72 : decode cX9_changes 72 = .ok (.iconst 1, 1) := by decide +kernel
theorem dX9_changes_73 : decode cX9_changes 73 = .ok (.iadd, 1) := by decide +kernel
theorem dX9_changes_74 : decode cX9_changes 74 = .ok (.putfield 54, 3) := by decide +kernel
theorem dX9_changes_77 : decode cX9_changes 77 = .ok (.return_, 1) := by decide +kernel
set_option maxRecDepth 20000 in
theorem ggX9_undo_X9_copies : GoodIn wsX9_undo wsX9_copies := goodIn_ca (goodIn_r _ [8] (by decide +kernel) (by decide +kernel)) (goodIn_sub (fun _ h => List.mem_cons_of_mem _ (List.mem_append_right _ h)) (by decide +kernel))
set_option maxRecDepth 20000 in
theorem gX9_undo_X9_copies : GoodIn wsX9_undo (va_wsS RX9 57 yX9_copies wsX9_copies) := goodIn_app (goodIn_of _ (by decide +kernel)) ggX9_undo_X9_copies
theorem dX9_undo_0 : decode cX9_undo 0 = .ok (.aload_n 0, 1) := by decide +kernel
theorem dX9_undo_1 : decode cX9_undo 1 = .ok (.aload_n 0, 1) := by decide +kernel
theorem dX9_undo_2 : decode cX9_undo 2 = .ok (.getfield 54, 3) := by decide +kernel
theorem dX9_undo_5 : decode cX9_undo 5 = .ok (.ifCond .ne 7, 3) := by decide +kernel
theorem dX9_undo_8 : decode cX9_undo 8 = .ok (.iconst 1, 1) := by decide +kernel
theorem dX9_undo_9 : decode cX9_undo 9 = .ok (.goto 4, 3) := by decide +kernel
theorem dX9_undo_12 : decode cX9_undo 12 = .ok (.iconst 0, 1) := by decide +kernel
theorem dX9_undo_13 : decode cX9_undo 13 = .ok (.putfield 46, 3) := by decide +kernel
theorem dX9_undo_16 : decode cX9_undo 16 = .ok (.aload_n 0, 1) := by decide +kernel
theorem dX9_undo_17 : decode cX9_undo 17 = .ok (.getfield 46, 3) := by decide +kernel
theorem dX9_undo_20 : decode cX9_undo 20 = .ok (.ifCond .le 5, 3) := by decide +kernel
theorem dX9_undo_23 : decode cX9_undo 23 = .ok (.iconst 0, 1) := by decide +kernel
theorem dX9_undo_24 : decode cX9_undo 24 = .ok (.ireturn, 1) := by decide +kernel
theorem dX9_undo_25 : decode cX9_undo 25 = .ok (.aload_n 0, 1) := by decide +kernel
theorem dX9_undo_26 : decode cX9_undo 26 = .ok (.dup, 1) := by decide +kernel
theorem dX9_undo_27 : decode cX9_undo 27 = .ok (.getfield 54, 3) := by decide +kernel
theorem dX9_undo_30 : decode cX9_undo 30 = .ok (.iconst 1, 1) := by decide +kernel
theorem dX9_undo_31 : decode cX9_undo 31 = .ok (.isub, 1) := by decide +kernel
theorem dX9_undo_32 : decode cX9_undo 32 = .ok (.putfield 54, 3) := by decide +kernel
theorem dX9_undo_35 : decode cX9_undo 35 = .ok (.aload_n 0, 1) := by decide +kernel
theorem dX9_undo_36 : decode cX9_undo 36 = .ok (.getfield 22, 3) := by decide +kernel
theorem dX9_undo_39 : decode cX9_undo 39 = .ok (.sipush 672, 3) := by decide +kernel
theorem dX9_undo_42 : decode cX9_undo 42 = .ok (.aload_n 0, 1) := by decide +kernel
theorem dX9_undo_43 : decode cX9_undo 43 = .ok (.getfield 54, 3) := by decide +kernel
theorem dX9_undo_46 : decode cX9_undo 46 = .ok (.imul, 1) := by decide +kernel
theorem dX9_undo_47 : decode cX9_undo 47 = .ok (.aload_n 0, 1) := by decide +kernel
theorem dX9_undo_48 : decode cX9_undo 48 = .ok (.getfield 7, 3) := by decide +kernel
theorem dX9_undo_51 : decode cX9_undo 51 = .ok (.iconst 0, 1) := by decide +kernel
theorem dX9_undo_52 : decode cX9_undo 52 = .ok (.invokestatic 57, 3) := by decide +kernel
theorem dX9_undo_55 : decode cX9_undo 55 = .ok (.aload_n 0, 1) := by decide +kernel
theorem dX9_undo_56 : decode cX9_undo 56 = .ok (.getfield 54, 3) := by decide +kernel
theorem dX9_undo_59 : decode cX9_undo 59 = .ok (.ireturn, 1) := by decide +kernel
set_option maxRecDepth 20000 in
theorem ggX9_save_X9_copies : GoodIn wsX9_save wsX9_copies := goodIn_ca (goodIn_r _ [8] (by decide +kernel) (by decide +kernel)) (goodIn_sub (fun _ h => List.mem_cons_of_mem _ (List.mem_append_right _ h)) (by decide +kernel))
set_option maxRecDepth 20000 in
theorem gX9_save_X9_copies : GoodIn wsX9_save (va_wsS RX9 57 yX9_copies wsX9_copies) := goodIn_app (goodIn_of _ (by decide +kernel)) ggX9_save_X9_copies
theorem dX9_save_0 : decode cX9_save 0 = .ok (.aload_n 0, 1) := by decide +kernel
theorem dX9_save_1 : decode cX9_save 1 = .ok (.iconst 0, 1) := by decide +kernel
theorem dX9_save_2 : decode cX9_save 2 = .ok (.putfield 46, 3) := by decide +kernel
theorem dX9_save_5 : decode cX9_save 5 = .ok (.aload_n 0, 1) := by decide +kernel
theorem dX9_save_6 : decode cX9_save 6 = .ok (.iconst 1, 1) := by decide +kernel
theorem dX9_save_7 : decode cX9_save 7 = .ok (.putfield 61, 3) := by decide +kernel
theorem dX9_save_10 : decode cX9_save 10 = .ok (.aload_n 0, 1) := by decide +kernel
theorem dX9_save_11 : decode cX9_save 11 = .ok (.getfield 7, 3) := by decide +kernel
theorem dX9_save_14 : decode cX9_save 14 = .ok (.iconst 0, 1) := by decide +kernel
theorem dX9_save_15 : decode cX9_save 15 = .ok (.aload_n 0, 1) := by decide +kernel
theorem dX9_save_16 : decode cX9_save 16 = .ok (.getfield 13, 3) := by decide +kernel
theorem dX9_save_19 : decode cX9_save 19 = .ok (.iconst 0, 1) := by decide +kernel
theorem dX9_save_20 : decode cX9_save 20 = .ok (.invokestatic 57, 3) := by decide +kernel
theorem dX9_save_23 : decode cX9_save 23 = .ok (.aload_n 0, 1) := by decide +kernel
theorem dX9_save_24 : decode cX9_save 24 = .ok (.getfield 7, 3) := by decide +kernel
theorem dX9_save_27 : decode cX9_save 27 = .ok (.iconst 2, 1) := by decide +kernel
theorem dX9_save_28 : decode cX9_save 28 = .ok (.iaload, 1) := by decide +kernel
theorem dX9_save_29 : decode cX9_save 29 = .ok (.ireturn, 1) := by decide +kernel
set_option maxRecDepth 20000 in
theorem ggX9_restore_X9_copies : GoodIn wsX9_restore wsX9_copies := goodIn_ca (goodIn_r _ [9] (by decide +kernel) (by decide +kernel)) (goodIn_sub (fun _ h => List.mem_cons_of_mem _ (List.mem_append_right _ h)) (by decide +kernel))
set_option maxRecDepth 20000 in
theorem gX9_restore_X9_copies : GoodIn wsX9_restore (va_wsS RX9 57 yX9_copies wsX9_copies) := goodIn_app (goodIn_of _ (by decide +kernel)) ggX9_restore_X9_copies
theorem dX9_restore_0 : decode cX9_restore 0 = .ok (.aload_n 0, 1) := by decide +kernel
theorem dX9_restore_1 : decode cX9_restore 1 = .ok (.aload_n 0, 1) := by decide +kernel
theorem dX9_restore_2 : decode cX9_restore 2 = .ok (.getfield 61, 3) := by decide +kernel
theorem dX9_restore_5 : decode cX9_restore 5 = .ok (.ifCond .eq 7, 3) := by decide +kernel
theorem dX9_restore_8 : decode cX9_restore 8 = .ok (.iconst 0, 1) := by decide +kernel
theorem dX9_restore_9 : decode cX9_restore 9 = .ok (.goto 4, 3) := by decide +kernel
theorem dX9_restore_12 : decode cX9_restore 12 = .ok (.iconst 1, 1) := by decide +kernel
theorem dX9_restore_13 : decode cX9_restore 13 = .ok (.putfield 46, 3) := by decide +kernel
theorem dX9_restore_16 : decode cX9_restore 16 = .ok (.aload_n 0, 1) := by decide +kernel
theorem dX9_restore_17 : decode cX9_restore 17 = .ok (.getfield 61, 3) := by decide +kernel
theorem dX9_restore_20 : decode cX9_restore 20 = .ok (.ifCond .ne 5, 3) := by decide +kernel
theorem dX9_restore_23 : decode cX9_restore 23 = .ok (.iconst 0, 1) := by decide +kernel
theorem dX9_restore_24 : decode cX9_restore 24 = .ok (.ireturn, 1) := by decide +kernel
theorem dX9_restore_25 : decode cX9_restore 25 = .ok (.aload_n 0, 1) := by decide +kernel
theorem dX9_restore_26 : decode cX9_restore 26 = .ok (.getfield 13, 3) := by decide +kernel
theorem dX9_restore_29 : decode cX9_restore 29 = .ok (.iconst 0, 1) := by decide +kernel
theorem dX9_restore_30 : decode cX9_restore 30 = .ok (.aload_n 0, 1) := by decide +kernel
theorem dX9_restore_31 : decode cX9_restore 31 = .ok (.getfield 7, 3) := by decide +kernel
theorem dX9_restore_34 : decode cX9_restore 34 = .ok (.iconst 0, 1) := by decide +kernel
theorem dX9_restore_35 : decode cX9_restore 35 = .ok (.invokestatic 57, 3) := by decide +kernel
theorem dX9_restore_38 : decode cX9_restore 38 = .ok (.aload_n 0, 1) := by decide +kernel
theorem dX9_restore_39 : decode cX9_restore 39 = .ok (.iconst 0, 1) := by decide +kernel
theorem dX9_restore_40 : decode cX9_restore 40 = .ok (.putfield 54, 3) := by decide +kernel
theorem dX9_restore_43 : decode cX9_restore 43 = .ok (.aload_n 0, 1) := by decide +kernel
theorem dX9_restore_44 : decode cX9_restore 44 = .ok (.getfield 7, 3) := by decide +kernel
theorem dX9_restore_47 : decode cX9_restore 47 = .ok (.iconst 2, 1) := by decide +kernel
theorem dX9_restore_48 : decode cX9_restore 48 = .ok (.iaload, 1) := by decide +kernel
theorem dX9_restore_49 : decode cX9_restore 49 = .ok (.ireturn, 1) := by decide +kernel
set_option maxRecDepth 20000 in
theorem ggX9_mayBe_X9_isMaterial : GoodIn wsX9_mayBe wsX9_isMaterial := goodIn_r _ [4, 5, 6, 3, 7] (by decide +kernel) (by decide +kernel)
set_option maxRecDepth 20000 in
theorem gX9_mayBe_X9_isMaterial : GoodIn wsX9_mayBe (va_wsS RX9 65 yX9_isMaterial wsX9_isMaterial) := goodIn_app (goodIn_of _ (by decide +kernel)) ggX9_mayBe_X9_isMaterial
set_option maxRecDepth 20000 in
theorem ggX9_mayBe_X9_in : GoodIn wsX9_mayBe wsX9_in := goodIn_r _ [7] (by decide +kernel) (by decide +kernel)
set_option maxRecDepth 20000 in
theorem gX9_mayBe_X9_in : GoodIn wsX9_mayBe (va_wsS RX9 50 yX9_in wsX9_in) := goodIn_app (goodIn_of _ (by decide +kernel)) ggX9_mayBe_X9_in
theorem dX9_mayBe_0 : decode cX9_mayBe 0 = .ok (.iload_n 0, 1) := by decide +kernel
theorem dX9_mayBe_1 : decode cX9_mayBe 1 = .ok (.ifCond .ne 10, 3) := by decide +kernel
theorem dX9_mayBe_4 : decode cX9_mayBe 4 = .ok (.iload_n 1, 1) := by decide +kernel
theorem dX9_mayBe_5 : decode cX9_mayBe 5 = .ok (.invokestatic 65, 3) := by decide +kernel
theorem dX9_mayBe_8 : decode cX9_mayBe 8 = .ok (.goto 70, 3) := by decide +kernel
theorem dX9_mayBe_11 : decode cX9_mayBe 11 = .ok (.iload_n 0, 1) := by decide +kernel
theorem dX9_mayBe_12 : decode cX9_mayBe 12 = .ok (.iconst 1, 1) := by decide +kernel
theorem dX9_mayBe_13 : decode cX9_mayBe 13 = .ok (.if_icmp .ne 14, 3) := by decide +kernel
theorem dX9_mayBe_16 : decode cX9_mayBe 16 = .ok (.iload_n 1, 1) := by decide +kernel
theorem dX9_mayBe_17 : decode cX9_mayBe 17 = .ok (.bipush 10, 2) := by decide +kernel
theorem dX9_mayBe_19 : decode cX9_mayBe 19 = .ok (.bipush 100, 2) := by decide +kernel
theorem dX9_mayBe_21 : decode cX9_mayBe 21 = .ok (.invokestatic 50, 3) := by decide +kernel
theorem dX9_mayBe_24 : decode cX9_mayBe 24 = .ok (.goto 54, 3) := by decide +kernel
theorem dX9_mayBe_27 : decode cX9_mayBe 27 = .ok (.iload_n 0, 1) := by decide +kernel
theorem dX9_mayBe_28 : decode cX9_mayBe 28 = .ok (.iconst 2, 1) := by decide +kernel
theorem dX9_mayBe_29 : decode cX9_mayBe 29 = .ok (.if_icmp .ne 13, 3) := by decide +kernel
theorem dX9_mayBe_32 : decode cX9_mayBe 32 = .ok (.iload_n 1, 1) := by decide +kernel
theorem dX9_mayBe_33 : decode cX9_mayBe 33 = .ok (.iconst 0, 1) := by decide +kernel
theorem dX9_mayBe_34 : decode cX9_mayBe 34 = .ok (.bipush 90, 2) := by decide +kernel
theorem dX9_mayBe_36 : decode cX9_mayBe 36 = .ok (.invokestatic 50, 3) := by decide +kernel
theorem dX9_mayBe_39 : decode cX9_mayBe 39 = .ok (.goto 39, 3) := by decide +kernel
theorem dX9_mayBe_42 : decode cX9_mayBe 42 = .ok (.iload_n 0, 1) := by decide +kernel
theorem dX9_mayBe_43 : decode cX9_mayBe 43 = .ok (.iconst 3, 1) := by decide +kernel
theorem dX9_mayBe_44 : decode cX9_mayBe 44 = .ok (.if_icmp .ne 14, 3) := by decide +kernel
theorem dX9_mayBe_47 : decode cX9_mayBe 47 = .ok (.iload_n 1, 1) := by decide +kernel
theorem dX9_mayBe_48 : decode cX9_mayBe 48 = .ok (.iconst 1, 1) := by decide +kernel
theorem dX9_mayBe_49 : decode cX9_mayBe 49 = .ok (.sipush 500, 3) := by decide +kernel
theorem dX9_mayBe_52 : decode cX9_mayBe 52 = .ok (.invokestatic 50, 3) := by decide +kernel
theorem dX9_mayBe_55 : decode cX9_mayBe 55 = .ok (.goto 23, 3) := by decide +kernel
theorem dX9_mayBe_58 : decode cX9_mayBe 58 = .ok (.iload_n 0, 1) := by decide +kernel
theorem dX9_mayBe_59 : decode cX9_mayBe 59 = .ok (.iconst 4, 1) := by decide +kernel
theorem dX9_mayBe_60 : decode cX9_mayBe 60 = .ok (.if_icmp .ne 17, 3) := by decide +kernel
theorem dX9_mayBe_63 : decode cX9_mayBe 63 = .ok (.iload_n 1, 1) := by decide +kernel
theorem dX9_mayBe_64 : decode cX9_mayBe 64 = .ok (.iconst 0, 1) := by decide +kernel
theorem dX9_mayBe_65 : decode cX9_mayBe 65 = .ok (.bipush 9, 2) := by decide +kernel
theorem dX9_mayBe_67 : decode cX9_mayBe 67 = .ok (.invokestatic 50, 3) := by decide +kernel
theorem dX9_mayBe_70 : decode cX9_mayBe 70 = .ok (.ifCond .eq 7, 3) := by decide +kernel
theorem dX9_mayBe_73 : decode cX9_mayBe 73 = .ok (.iconst 1, 1) := by decide +kernel
theorem dX9_mayBe_74 : decode cX9_mayBe 74 = .ok (.goto 4, 3) := by decide +kernel
theorem dX9_mayBe_77 : decode cX9_mayBe 77 = .ok (.iconst 0, 1) := by decide +kernel
theorem dX9_mayBe_78 : decode cX9_mayBe 78 = .ok (.ireturn, 1) := by decide +kernel
set_option maxRecDepth 20000 in
theorem ggX9_addMachine_X9_isMaterial : GoodIn wsX9_addMachine wsX9_isMaterial := goodIn_r _ [6, 7, 8, 5, 9] (by decide +kernel) (by decide +kernel)
set_option maxRecDepth 20000 in
theorem gX9_addMachine_X9_isMaterial : GoodIn wsX9_addMachine (va_wsS RX9 65 yX9_isMaterial wsX9_isMaterial) := goodIn_app (goodIn_of _ (by decide +kernel)) ggX9_addMachine_X9_isMaterial
set_option maxRecDepth 20000 in
theorem ggX9_addMachine_X9_mayBe : GoodIn wsX9_addMachine wsX9_mayBe := goodIn_r _ [12, 3, 4, 5, 6, 7, 8, 9] (by decide +kernel) (by decide +kernel)
set_option maxRecDepth 20000 in
theorem gX9_addMachine_X9_mayBe : GoodIn wsX9_addMachine (va_wsS RX9 69 yX9_mayBe wsX9_mayBe) := goodIn_app (goodIn_of _ (by decide +kernel)) ggX9_addMachine_X9_mayBe
set_option maxRecDepth 20000 in
theorem ggX9_addMachine_X9_changes : GoodIn wsX9_addMachine wsX9_changes := goodIn_ca (goodIn_r _ [16, 17, 18, 19, 20, 5, 21, 25, 26, 27, 28, 29, 30, 31, 32, 33, 34, 35, 36, 37, 38, 39, 40, 41, 42, 43, 44, 45, 46] (by decide +kernel) (by decide +kernel)) (goodIn_sub (fun _ h => List.mem_cons_of_mem _ (List.mem_append_right _ h)) (by decide +kernel))
set_option maxRecDepth 20000 in
theorem gX9_addMachine_X9_changes : GoodIn wsX9_addMachine (wsV RX9 73 RX9 yX9_changes wsX9_changes) := goodIn_app (goodIn_of _ (by decide +kernel)) ggX9_addMachine_X9_changes
set_option maxRecDepth 20000 in
theorem ggX9_addMachine_X9_machineAt : GoodIn wsX9_addMachine wsX9_machineAt := goodIn_r _ [24] (by decide +kernel) (by decide +kernel)
set_option maxRecDepth 20000 in
theorem gX9_addMachine_X9_machineAt : GoodIn wsX9_addMachine (va_wsS RX9 77 yX9_machineAt wsX9_machineAt) := goodIn_app (goodIn_of _ (by decide +kernel)) ggX9_addMachine_X9_machineAt
theorem dX9_addMachine_0 : decode cX9_addMachine 0 = .ok (.aload_n 0, 1) := by decide +kernel
theorem dX9_addMachine_1 : decode cX9_addMachine 1 = .ok (.iload_n 1, 1) := by decide +kernel
theorem dX9_addMachine_2 : decode cX9_addMachine 2 = .ok (.invokestatic 65, 3) := by decide +kernel
theorem dX9_addMachine_5 : decode cX9_addMachine 5 = .ok (.ifCond .ne 7, 3) := by decide +kernel
theorem dX9_addMachine_8 : decode cX9_addMachine 8 = .ok (.iconst 1, 1) := by decide +kernel
theorem dX9_addMachine_9 : decode cX9_addMachine 9 = .ok (.goto 57, 3) := by decide +kernel
theorem dX9_addMachine_12 : decode cX9_addMachine 12 = .ok (.iconst 1, 1) := by decide +kernel
theorem dX9_addMachine_13 : decode cX9_addMachine 13 = .ok (.iload_n 2, 1) := by decide +kernel
theorem dX9_addMachine_14 : decode cX9_addMachine 14 = .ok (.invokestatic 69, 3) := by decide +kernel
theorem dX9_addMachine_17 : decode cX9_addMachine 17 = .ok (.ifCond .eq 29, 3) := by decide +kernel
theorem dX9_addMachine_20 : decode cX9_addMachine 20 = .ok (.iconst 2, 1) := by decide +kernel
theorem dX9_addMachine_21 : decode cX9_addMachine 21 = .ok (.iload_n 3, 1) := by decide +kernel
theorem dX9_addMachine_22 : decode cX9_addMachine 22 = .ok (.invokestatic 69, 3) := by decide +kernel
theorem dX9_addMachine_25 : decode cX9_addMachine 25 = .ok (.ifCond .eq 21, 3) := by decide +kernel
theorem dX9_addMachine_28 : decode cX9_addMachine 28 = .ok (.iconst 3, 1) := by decide +kernel
theorem dX9_addMachine_29 : decode cX9_addMachine 29 = .ok (.iload 4, 2) := by decide +kernel
theorem dX9_addMachine_31 : decode cX9_addMachine 31 = .ok (.invokestatic 69, 3) := by decide +kernel
theorem dX9_addMachine_34 : decode cX9_addMachine 34 = .ok (.ifCond .eq 12, 3) := by decide +kernel
theorem dX9_addMachine_37 : decode cX9_addMachine 37 = .ok (.iconst 4, 1) := by decide +kernel
theorem dX9_addMachine_38 : decode cX9_addMachine 38 = .ok (.iload 5, 2) := by decide +kernel
theorem dX9_addMachine_40 : decode cX9_addMachine 40 = .ok (.invokestatic 69, 3) := by decide +kernel
theorem dX9_addMachine_43 : decode cX9_addMachine 43 = .ok (.ifCond .ne 7, 3) := by decide +kernel
theorem dX9_addMachine_46 : decode cX9_addMachine 46 = .ok (.iconst 2, 1) := by decide +kernel
theorem dX9_addMachine_47 : decode cX9_addMachine 47 = .ok (.goto 19, 3) := by decide +kernel
theorem dX9_addMachine_50 : decode cX9_addMachine 50 = .ok (.aload_n 0, 1) := by decide +kernel
theorem dX9_addMachine_51 : decode cX9_addMachine 51 = .ok (.getfield 7, 3) := by decide +kernel
theorem dX9_addMachine_54 : decode cX9_addMachine 54 = .ok (.iconst 0, 1) := by decide +kernel
theorem dX9_addMachine_55 : decode cX9_addMachine 55 = .ok (.iaload, 1) := by decide +kernel
theorem dX9_addMachine_56 : decode cX9_addMachine 56 = .ok (.bipush 6, 2) := by decide +kernel
theorem dX9_addMachine_58 : decode cX9_addMachine 58 = .ok (.if_icmp .ne 7, 3) := by decide +kernel
theorem dX9_addMachine_61 : decode cX9_addMachine 61 = .ok (.iconst 3, 1) := by decide +kernel
theorem dX9_addMachine_62 : decode cX9_addMachine 62 = .ok (.goto 4, 3) := by decide +kernel
theorem dX9_addMachine_65 : decode cX9_addMachine 65 = .ok (.iconst 0, 1) := by decide +kernel
theorem dX9_addMachine_66 : decode cX9_addMachine 66 = .ok (.putfield 46, 3) := by decide +kernel
theorem dX9_addMachine_69 : decode cX9_addMachine 69 = .ok (.aload_n 0, 1) := by decide +kernel
theorem dX9_addMachine_70 : decode cX9_addMachine 70 = .ok (.getfield 46, 3) := by decide +kernel
theorem dX9_addMachine_73 : decode cX9_addMachine 73 = .ok (.ifCond .le 5, 3) := by decide +kernel
theorem dX9_addMachine_76 : decode cX9_addMachine 76 = .ok (.iconst 0, 1) := by decide +kernel
theorem dX9_addMachine_77 : decode cX9_addMachine 77 = .ok (.ireturn, 1) := by decide +kernel
theorem dX9_addMachine_78 : decode cX9_addMachine 78 = .ok (.aload_n 0, 1) := by decide +kernel
theorem dX9_addMachine_79 : decode cX9_addMachine 79 = .ok (.aload_n 0, 1) := by decide +kernel
theorem dX9_addMachine_80 : decode cX9_addMachine 80 = .ok (.getfield 7, 3) := by decide +kernel
theorem dX9_addMachine_83 : decode cX9_addMachine 83 = .ok (.invokevirtual 73, 3) := by decide +kernel
theorem dX9_addMachine_86 : decode cX9_addMachine 86 = .ok (.aload_n 0, 1) := by decide +kernel
theorem dX9_addMachine_87 : decode cX9_addMachine 87 = .ok (.getfield 7, 3) := by decide +kernel
theorem dX9_addMachine_90 : decode cX9_addMachine 90 = .ok (.iconst 0, 1) := by decide +kernel
theorem dX9_addMachine_91 : decode cX9_addMachine 91 = .ok (.iaload, 1) := by decide +kernel
theorem dX9_addMachine_92 : decode cX9_addMachine 92 = .ok (.istore 6, 2) := by decide +kernel
theorem dX9_addMachine_94 : decode cX9_addMachine 94 = .ok (.aload_n 0, 1) := by decide +kernel
theorem dX9_addMachine_95 : decode cX9_addMachine 95 = .ok (.getfield 7, 3) := by decide +kernel
theorem dX9_addMachine_98 : decode cX9_addMachine 98 = .ok (.iconst 0, 1) := by decide +kernel
theorem dX9_addMachine_99 : decode cX9_addMachine 99 = .ok (.dup2, 1) := by decide +kernel
theorem dX9_addMachine_100 : decode cX9_addMachine 100 = .ok (.iaload, 1) := by decide +kernel
theorem dX9_addMachine_101 : decode cX9_addMachine 101 = .ok (.iconst 1, 1) := by decide +kernel
theorem dX9_addMachine_102 : decode cX9_addMachine 102 = .ok (.iadd, 1) := by decide +kernel
theorem dX9_addMachine_103 : decode cX9_addMachine 103 = .ok (.iastore, 1) := by decide +kernel
theorem dX9_addMachine_104 : decode cX9_addMachine 104 = .ok (.iconst 5, 1) := by decide +kernel
theorem dX9_addMachine_105 : decode cX9_addMachine 105 = .ok (.istore 7, 2) := by decide +kernel
theorem dX9_addMachine_107 : decode cX9_addMachine 107 = .ok (.iload 7, 2) := by decide +kernel
theorem dX9_addMachine_109 : decode cX9_addMachine 109 = .ok (.bipush 11, 2) := by decide +kernel
theorem dX9_addMachine_111 : decode cX9_addMachine 111 = .ok (.if_icmp .ge 22, 3) := by decide +kernel
theorem dX9_addMachine_114 : decode cX9_addMachine 114 = .ok (.aload_n 0, 1) := by decide +kernel
theorem dX9_addMachine_115 : decode cX9_addMachine 115 = .ok (.getfield 7, 3) := by decide +kernel
theorem dX9_addMachine_118 : decode cX9_addMachine 118 = .ok (.iload 6, 2) := by decide +kernel
theorem dX9_addMachine_120 : decode cX9_addMachine 120 = .ok (.iload 7, 2) := by decide +kernel
theorem dX9_addMachine_122 : decode cX9_addMachine 122 = .ok (.invokestatic 77, 3) := by decide +kernel
theorem dX9_addMachine_125 : decode cX9_addMachine 125 = .ok (.iconst 0, 1) := by decide +kernel
theorem dX9_addMachine_126 : decode cX9_addMachine 126 = .ok (.iastore, 1) := by decide +kernel
theorem dX9_addMachine_127 : decode cX9_addMachine 127 = .ok (.iinc 7 1, 3) := by decide +kernel
theorem dX9_addMachine_130 : decode cX9_addMachine 130 = .ok (.goto (-23), 3) := by decide +kernel
theorem dX9_addMachine_133 : decode cX9_addMachine 133 = .ok (.aload_n 0, 1) := by decide +kernel
theorem dX9_addMachine_134 : decode cX9_addMachine 134 = .ok (.getfield 7, 3) := by decide +kernel
theorem dX9_addMachine_137 : decode cX9_addMachine 137 = .ok (.iload 6, 2) := by decide +kernel
theorem dX9_addMachine_139 : decode cX9_addMachine 139 = .ok (.iconst 0, 1) := by decide +kernel
theorem dX9_addMachine_140 : decode cX9_addMachine 140 = .ok (.invokestatic 77, 3) := by decide +kernel
theorem dX9_addMachine_143 : decode cX9_addMachine 143 = .ok (.iload_n 1, 1) := by decide +kernel
theorem dX9_addMachine_144 : decode cX9_addMachine 144 = .ok (.iastore, 1) := by decide +kernel
theorem dX9_addMachine_145 : decode cX9_addMachine 145 = .ok (.aload_n 0, 1) := by decide +kernel
theorem dX9_addMachine_146 : decode cX9_addMachine 146 = .ok (.getfield 7, 3) := by decide +kernel
theorem dX9_addMachine_149 : decode cX9_addMachine 149 = .ok (.iload 6, 2) := by decide +kernel
theorem dX9_addMachine_151 : decode cX9_addMachine 151 = .ok (.iconst 1, 1) := by decide +kernel
theorem dX9_addMachine_152 : decode cX9_addMachine 152 = .ok (.invokestatic 77, 3) := by decide +kernel
theorem dX9_addMachine_155 : decode cX9_addMachine 155 = .ok (.iload_n 2, 1) := by decide +kernel
theorem dX9_addMachine_156 : decode cX9_addMachine 156 = .ok (.iastore, 1) := by decide +kernel
theorem dX9_addMachine_157 : decode cX9_addMachine 157 = .ok (.aload_n 0, 1) := by decide +kernel
theorem dX9_addMachine_158 : decode cX9_addMachine 158 = .ok (.getfield 7, 3) := by decide +kernel
theorem dX9_addMachine_161 : decode cX9_addMachine 161 = .ok (.iload 6, 2) := by decide +kernel
theorem dX9_addMachine_163 : decode cX9_addMachine 163 = .ok (.iconst 2, 1) := by decide +kernel
theorem dX9_addMachine_164 : decode cX9_addMachine 164 = .ok (.invokestatic 77, 3) := by decide +kernel
theorem dX9_addMachine_167 : decode cX9_addMachine 167 = .ok (.iload_n 3, 1) := by decide +kernel
theorem dX9_addMachine_168 : decode cX9_addMachine 168 = .ok (.iastore, 1) := by decide +kernel
theorem dX9_addMachine_169 : decode cX9_addMachine 169 = .ok (.aload_n 0, 1) := by decide +kernel
theorem dX9_addMachine_170 : decode cX9_addMachine 170 = .ok (.getfield 7, 3) := by decide +kernel
theorem dX9_addMachine_173 : decode cX9_addMachine 173 = .ok (.iload 6, 2) := by decide +kernel
theorem dX9_addMachine_175 : decode cX9_addMachine 175 = .ok (.iconst 3, 1) := by decide +kernel
theorem dX9_addMachine_176 : decode cX9_addMachine 176 = .ok (.invokestatic 77, 3) := by decide +kernel
theorem dX9_addMachine_179 : decode cX9_addMachine 179 = .ok (.iload 4, 2) := by decide +kernel
theorem dX9_addMachine_181 : decode cX9_addMachine 181 = .ok (.iastore, 1) := by decide +kernel
theorem dX9_addMachine_182 : decode cX9_addMachine 182 = .ok (.aload_n 0, 1) := by decide +kernel
theorem dX9_addMachine_183 : decode cX9_addMachine 183 = .ok (.getfield 7, 3) := by decide +kernel
theorem dX9_addMachine_186 : decode cX9_addMachine 186 = .ok (.iload 6, 2) := by decide +kernel
theorem dX9_addMachine_188 : decode cX9_addMachine 188 = .ok (.iconst 4, 1) := by decide +kernel
theorem dX9_addMachine_189 : decode cX9_addMachine 189 = .ok (.invokestatic 77, 3) := by decide +kernel
theorem dX9_addMachine_192 : decode cX9_addMachine 192 = .ok (.iload 5, 2) := by decide +kernel
theorem dX9_addMachine_194 : decode cX9_addMachine 194 = .ok (.iastore, 1) := by decide +kernel
theorem dX9_addMachine_195 : decode cX9_addMachine 195 = .ok (.iload 6, 2) := by decide +kernel
theorem dX9_addMachine_197 : decode cX9_addMachine 197 = .ok (.ireturn, 1) := by decide +kernel
set_option maxRecDepth 20000 in
theorem ggX9_removeMachine_X9_changes : GoodIn wsX9_removeMachine wsX9_changes := goodIn_ca (goodIn_r _ [7, 8, 9, 10, 11, 6, 12, 20, 21, 22, 23, 24, 25, 26, 27, 28, 29, 30, 31, 32, 33, 34, 35, 36, 37, 38, 39, 40, 41] (by decide +kernel) (by decide +kernel)) (goodIn_sub (fun _ h => List.mem_cons_of_mem _ (List.mem_append_right _ h)) (by decide +kernel))
set_option maxRecDepth 20000 in
theorem gX9_removeMachine_X9_changes : GoodIn wsX9_removeMachine (wsV RX9 73 RX9 yX9_changes wsX9_changes) := goodIn_app (goodIn_of _ (by decide +kernel)) ggX9_removeMachine_X9_changes
set_option maxRecDepth 20000 in
theorem ggX9_removeMachine_X9_machineAt : GoodIn wsX9_removeMachine wsX9_machineAt := goodIn_r _ [15] (by decide +kernel) (by decide +kernel)
set_option maxRecDepth 20000 in
theorem gX9_removeMachine_X9_machineAt : GoodIn wsX9_removeMachine (va_wsS RX9 77 yX9_machineAt wsX9_machineAt) := goodIn_app (goodIn_of _ (by decide +kernel)) ggX9_removeMachine_X9_machineAt
set_option maxRecDepth 20000 in
theorem ggX9_removeMachine_X9_sum : GoodIn wsX9_removeMachine wsX9_sum := goodIn_ca (goodIn_r _ [19, 1, 20, 21, 22, 23, 24, 25, 26, 27, 28, 29, 30, 31, 32, 33, 34, 35, 36, 37, 38, 39, 40, 41] (by decide +kernel) (by decide +kernel)) (goodIn_sub (fun _ h => List.mem_cons_of_mem _ (List.mem_append_right _ h)) (by decide +kernel))
set_option maxRecDepth 20000 in
theorem gX9_removeMachine_X9_sum : GoodIn wsX9_removeMachine (wsV RX9 81 RX9 yX9_sum wsX9_sum) := goodIn_app (goodIn_of _ (by decide +kernel)) ggX9_removeMachine_X9_sum
theorem dX9_removeMachine_0 : decode cX9_removeMachine 0 = .ok (.aload_n 0, 1) := by decide +kernel
theorem dX9_removeMachine_1 : decode cX9_removeMachine 1 = .ok (.aload_n 0, 1) := by decide +kernel
theorem dX9_removeMachine_2 : decode cX9_removeMachine 2 = .ok (.getfield 7, 3) := by decide +kernel
theorem dX9_removeMachine_5 : decode cX9_removeMachine 5 = .ok (.iconst 0, 1) := by decide +kernel
theorem dX9_removeMachine_6 : decode cX9_removeMachine 6 = .ok (.iaload, 1) := by decide +kernel
theorem dX9_removeMachine_7 : decode cX9_removeMachine 7 = .ok (.ifCond .ne 7, 3) := by decide +kernel
theorem dX9_removeMachine_10 : decode cX9_removeMachine 10 = .ok (.iconst 1, 1) := by decide +kernel
theorem dX9_removeMachine_11 : decode cX9_removeMachine 11 = .ok (.goto 4, 3) := by decide +kernel
theorem dX9_removeMachine_14 : decode cX9_removeMachine 14 = .ok (.iconst 0, 1) := by decide +kernel
theorem dX9_removeMachine_15 : decode cX9_removeMachine 15 = .ok (.putfield 46, 3) := by decide +kernel
theorem dX9_removeMachine_18 : decode cX9_removeMachine 18 = .ok (.aload_n 0, 1) := by decide +kernel
theorem dX9_removeMachine_19 : decode cX9_removeMachine 19 = .ok (.getfield 46, 3) := by decide +kernel
theorem dX9_removeMachine_22 : decode cX9_removeMachine 22 = .ok (.ifCond .le 5, 3) := by decide +kernel
theorem dX9_removeMachine_25 : decode cX9_removeMachine 25 = .ok (.iconst 0, 1) := by decide +kernel
theorem dX9_removeMachine_26 : decode cX9_removeMachine 26 = .ok (.ireturn, 1) := by decide +kernel
theorem dX9_removeMachine_27 : decode cX9_removeMachine 27 = .ok (.aload_n 0, 1) := by decide +kernel
theorem dX9_removeMachine_28 : decode cX9_removeMachine 28 = .ok (.aload_n 0, 1) := by decide +kernel
theorem dX9_removeMachine_29 : decode cX9_removeMachine 29 = .ok (.getfield 7, 3) := by decide +kernel
theorem dX9_removeMachine_32 : decode cX9_removeMachine 32 = .ok (.invokevirtual 73, 3) := by decide +kernel
theorem dX9_removeMachine_35 : decode cX9_removeMachine 35 = .ok (.aload_n 0, 1) := by decide +kernel
theorem dX9_removeMachine_36 : decode cX9_removeMachine 36 = .ok (.getfield 7, 3) := by decide +kernel
theorem dX9_removeMachine_39 : decode cX9_removeMachine 39 = .ok (.iconst 0, 1) := by decide +kernel
theorem dX9_removeMachine_40 : decode cX9_removeMachine 40 = .ok (.dup2, 1) := by decide +kernel
theorem dX9_removeMachine_41 : decode cX9_removeMachine 41 = .ok (.iaload, 1) := by decide +kernel
theorem dX9_removeMachine_42 : decode cX9_removeMachine 42 = .ok (.iconst 1, 1) := by decide +kernel
theorem dX9_removeMachine_43 : decode cX9_removeMachine 43 = .ok (.isub, 1) := by decide +kernel
theorem dX9_removeMachine_44 : decode cX9_removeMachine 44 = .ok (.iastore, 1) := by decide +kernel
theorem dX9_removeMachine_45 : decode cX9_removeMachine 45 = .ok (.aload_n 0, 1) := by decide +kernel
theorem dX9_removeMachine_46 : decode cX9_removeMachine 46 = .ok (.getfield 7, 3) := by decide +kernel
theorem dX9_removeMachine_49 : decode cX9_removeMachine 49 = .ok (.iconst 0, 1) := by decide +kernel
theorem dX9_removeMachine_50 : decode cX9_removeMachine 50 = .ok (.iaload, 1) := by decide +kernel
theorem dX9_removeMachine_51 : decode cX9_removeMachine 51 = .ok (.iconst 5, 1) := by decide +kernel
theorem dX9_removeMachine_52 : decode cX9_removeMachine 52 = .ok (.invokestatic 77, 3) := by decide +kernel
theorem dX9_removeMachine_55 : decode cX9_removeMachine 55 = .ok (.istore_n 1, 1) := by decide +kernel
theorem dX9_removeMachine_56 : decode cX9_removeMachine 56 = .ok (.iconst 0, 1) := by decide +kernel
theorem dX9_removeMachine_57 : decode cX9_removeMachine 57 = .ok (.istore_n 2, 1) := by decide +kernel
theorem dX9_removeMachine_58 : decode cX9_removeMachine 58 = .ok (.iload_n 2, 1) := by decide +kernel
theorem dX9_removeMachine_59 : decode cX9_removeMachine 59 = .ok (.iconst 5, 1) := by decide +kernel
theorem dX9_removeMachine_60 : decode cX9_removeMachine 60 = .ok (.if_icmp .ge 29, 3) := by decide +kernel
theorem dX9_removeMachine_63 : decode cX9_removeMachine 63 = .ok (.aload_n 0, 1) := by decide +kernel
theorem dX9_removeMachine_64 : decode cX9_removeMachine 64 = .ok (.getfield 7, 3) := by decide +kernel
theorem dX9_removeMachine_67 : decode cX9_removeMachine 67 = .ok (.bipush 11, 2) := by decide +kernel
theorem dX9_removeMachine_69 : decode cX9_removeMachine 69 = .ok (.iload_n 2, 1) := by decide +kernel
theorem dX9_removeMachine_70 : decode cX9_removeMachine 70 = .ok (.iadd, 1) := by decide +kernel
theorem dX9_removeMachine_71 : decode cX9_removeMachine 71 = .ok (.dup2, 1) := by decide +kernel
theorem dX9_removeMachine_72 : decode cX9_removeMachine 72 = .ok (.iaload, 1) := by decide +kernel
theorem dX9_removeMachine_73 : decode cX9_removeMachine 73 = .ok (.aload_n 0, 1) := by decide +kernel
theorem dX9_removeMachine_74 : decode cX9_removeMachine 74 = .ok (.getfield 7, 3) := by decide +kernel
theorem dX9_removeMachine_77 : decode cX9_removeMachine 77 = .ok (.iload_n 1, 1) := by decide +kernel
theorem dX9_removeMachine_78 : decode cX9_removeMachine 78 = .ok (.iload_n 2, 1) := by decide +kernel
theorem dX9_removeMachine_79 : decode cX9_removeMachine 79 = .ok (.iadd, 1) := by decide +kernel
theorem dX9_removeMachine_80 : decode cX9_removeMachine 80 = .ok (.iaload, 1) := by decide +kernel
theorem dX9_removeMachine_81 : decode cX9_removeMachine 81 = .ok (.iadd, 1) := by decide +kernel
theorem dX9_removeMachine_82 : decode cX9_removeMachine 82 = .ok (.iastore, 1) := by decide +kernel
theorem dX9_removeMachine_83 : decode cX9_removeMachine 83 = .ok (.iinc 2 1, 3) := by decide +kernel
theorem dX9_removeMachine_86 : decode cX9_removeMachine 86 = .ok (.goto (-28), 3) := by decide +kernel
theorem dX9_removeMachine_89 : decode cX9_removeMachine 89 = .ok (.aload_n 0, 1) := by decide +kernel
theorem dX9_removeMachine_90 : decode cX9_removeMachine 90 = .ok (.iload_n 1, 1) := by decide +kernel
theorem dX9_removeMachine_91 : decode cX9_removeMachine 91 = .ok (.invokevirtual 81, 3) := by decide +kernel
theorem dX9_removeMachine_94 : decode cX9_removeMachine 94 = .ok (.ireturn, 1) := by decide +kernel
set_option maxRecDepth 20000 in
theorem ggX9_exchange_X9_isMachine : GoodIn wsX9_exchange wsX9_isMachine := goodIn_ca (goodIn_r _ [7, 2, 8, 9, 6, 10, 23, 24, 25, 26, 27, 28, 29, 30, 31, 32, 33, 34, 35, 36, 37, 38, 39, 40, 41, 42, 43, 44] (by decide +kernel) (by decide +kernel)) (goodIn_sub (fun _ h => List.mem_cons_of_mem _ (List.mem_append_right _ h)) (by decide +kernel))
set_option maxRecDepth 20000 in
theorem gX9_exchange_X9_isMachine : GoodIn wsX9_exchange (wsV RX9 85 RX9 yX9_isMachine wsX9_isMachine) := goodIn_app (goodIn_of _ (by decide +kernel)) ggX9_exchange_X9_isMachine
set_option maxRecDepth 20000 in
theorem ggX9_exchange_X9_changes : GoodIn wsX9_exchange wsX9_changes := goodIn_ca (goodIn_r _ [14, 15, 16, 17, 18, 6, 19, 23, 24, 25, 26, 27, 28, 29, 30, 31, 32, 33, 34, 35, 36, 37, 38, 39, 40, 41, 42, 43, 44] (by decide +kernel) (by decide +kernel)) (goodIn_sub (fun _ h => List.mem_cons_of_mem _ (List.mem_append_right _ h)) (by decide +kernel))
set_option maxRecDepth 20000 in
theorem gX9_exchange_X9_changes : GoodIn wsX9_exchange (wsV RX9 73 RX9 yX9_changes wsX9_changes) := goodIn_app (goodIn_of _ (by decide +kernel)) ggX9_exchange_X9_changes
set_option maxRecDepth 20000 in
theorem ggX9_exchange_X9_machineAt : GoodIn wsX9_exchange wsX9_machineAt := goodIn_r _ [22] (by decide +kernel) (by decide +kernel)
set_option maxRecDepth 20000 in
theorem gX9_exchange_X9_machineAt : GoodIn wsX9_exchange (va_wsS RX9 77 yX9_machineAt wsX9_machineAt) := goodIn_app (goodIn_of _ (by decide +kernel)) ggX9_exchange_X9_machineAt
theorem dX9_exchange_0 : decode cX9_exchange 0 = .ok (.aload_n 0, 1) := by decide +kernel
theorem dX9_exchange_1 : decode cX9_exchange 1 = .ok (.aload_n 0, 1) := by decide +kernel
theorem dX9_exchange_2 : decode cX9_exchange 2 = .ok (.iload_n 1, 1) := by decide +kernel
theorem dX9_exchange_3 : decode cX9_exchange 3 = .ok (.invokevirtual 85, 3) := by decide +kernel
theorem dX9_exchange_6 : decode cX9_exchange 6 = .ok (.ifCond .eq 15, 3) := by decide +kernel
theorem dX9_exchange_9 : decode cX9_exchange 9 = .ok (.aload_n 0, 1) := by decide +kernel
theorem dX9_exchange_10 : decode cX9_exchange 10 = .ok (.iload_n 2, 1) := by decide +kernel
theorem dX9_exchange_11 : decode cX9_exchange 11 = .ok (.invokevirtual 85, 3) := by decide +kernel
theorem dX9_exchange_14 : decode cX9_exchange 14 = .ok (.ifCond .eq 7, 3) := by decide +kernel
theorem dX9_exchange_17 : decode cX9_exchange 17 = .ok (.iconst 0, 1) := by decide +kernel
theorem dX9_exchange_18 : decode cX9_exchange 18 = .ok (.goto 4, 3) := by decide +kernel
theorem dX9_exchange_21 : decode cX9_exchange 21 = .ok (.iconst 1, 1) := by decide +kernel
theorem dX9_exchange_22 : decode cX9_exchange 22 = .ok (.putfield 46, 3) := by decide +kernel
theorem dX9_exchange_25 : decode cX9_exchange 25 = .ok (.aload_n 0, 1) := by decide +kernel
theorem dX9_exchange_26 : decode cX9_exchange 26 = .ok (.getfield 46, 3) := by decide +kernel
theorem dX9_exchange_29 : decode cX9_exchange 29 = .ok (.ifCond .le 5, 3) := by decide +kernel
theorem dX9_exchange_32 : decode cX9_exchange 32 = .ok (.iconst 0, 1) := by decide +kernel
theorem dX9_exchange_33 : decode cX9_exchange 33 = .ok (.ireturn, 1) := by decide +kernel
theorem dX9_exchange_34 : decode cX9_exchange 34 = .ok (.aload_n 0, 1) := by decide +kernel
theorem dX9_exchange_35 : decode cX9_exchange 35 = .ok (.aload_n 0, 1) := by decide +kernel
theorem dX9_exchange_36 : decode cX9_exchange 36 = .ok (.getfield 7, 3) := by decide +kernel
theorem dX9_exchange_39 : decode cX9_exchange 39 = .ok (.invokevirtual 73, 3) := by decide +kernel
theorem dX9_exchange_42 : decode cX9_exchange 42 = .ok (.iconst 0, 1) := by decide +kernel
theorem dX9_exchange_43 : decode cX9_exchange 43 = .ok (.istore_n 3, 1) := by decide +kernel
theorem dX9_exchange_44 : decode cX9_exchange 44 = .ok (.iload_n 3, 1) := by decide +kernel
theorem dX9_exchange_45 : decode cX9_exchange 45 = .ok (.bipush 11, 2) := by decide +kernel
theorem dX9_exchange_47 : decode cX9_exchange 47 = .ok (.if_icmp .ge 53, 3) := by decide +kernel
theorem dX9_exchange_50 : decode cX9_exchange 50 = .ok (.aload_n 0, 1) := by decide +kernel
theorem dX9_exchange_51 : decode cX9_exchange 51 = .ok (.getfield 7, 3) := by decide +kernel
theorem dX9_exchange_54 : decode cX9_exchange 54 = .ok (.iload_n 1, 1) := by decide +kernel
theorem dX9_exchange_55 : decode cX9_exchange 55 = .ok (.iload_n 3, 1) := by decide +kernel
theorem dX9_exchange_56 : decode cX9_exchange 56 = .ok (.invokestatic 77, 3) := by decide +kernel
theorem dX9_exchange_59 : decode cX9_exchange 59 = .ok (.iaload, 1) := by decide +kernel
theorem dX9_exchange_60 : decode cX9_exchange 60 = .ok (.istore 4, 2) := by decide +kernel
theorem dX9_exchange_62 : decode cX9_exchange 62 = .ok (.aload_n 0, 1) := by decide +kernel
theorem dX9_exchange_63 : decode cX9_exchange 63 = .ok (.getfield 7, 3) := by decide +kernel
theorem dX9_exchange_66 : decode cX9_exchange 66 = .ok (.iload_n 1, 1) := by decide +kernel
theorem dX9_exchange_67 : decode cX9_exchange 67 = .ok (.iload_n 3, 1) := by decide +kernel
theorem dX9_exchange_68 : decode cX9_exchange 68 = .ok (.invokestatic 77, 3) := by decide +kernel
theorem dX9_exchange_71 : decode cX9_exchange 71 = .ok (.aload_n 0, 1) := by decide +kernel
theorem dX9_exchange_72 : decode cX9_exchange 72 = .ok (.getfield 7, 3) := by decide +kernel
theorem dX9_exchange_75 : decode cX9_exchange 75 = .ok (.iload_n 2, 1) := by decide +kernel
theorem dX9_exchange_76 : decode cX9_exchange 76 = .ok (.iload_n 3, 1) := by decide +kernel
theorem dX9_exchange_77 : decode cX9_exchange 77 = .ok (.invokestatic 77, 3) := by decide +kernel
theorem dX9_exchange_80 : decode cX9_exchange 80 = .ok (.iaload, 1) := by decide +kernel
theorem dX9_exchange_81 : decode cX9_exchange 81 = .ok (.iastore, 1) := by decide +kernel
theorem dX9_exchange_82 : decode cX9_exchange 82 = .ok (.aload_n 0, 1) := by decide +kernel
theorem dX9_exchange_83 : decode cX9_exchange 83 = .ok (.getfield 7, 3) := by decide +kernel
theorem dX9_exchange_86 : decode cX9_exchange 86 = .ok (.iload_n 2, 1) := by decide +kernel
theorem dX9_exchange_87 : decode cX9_exchange 87 = .ok (.iload_n 3, 1) := by decide +kernel
theorem dX9_exchange_88 : decode cX9_exchange 88 = .ok (.invokestatic 77, 3) := by decide +kernel
theorem dX9_exchange_91 : decode cX9_exchange 91 = .ok (.iload 4, 2) := by decide +kernel
theorem dX9_exchange_93 : decode cX9_exchange 93 = .ok (.iastore, 1) := by decide +kernel
theorem dX9_exchange_94 : decode cX9_exchange 94 = .ok (.iinc 3 1, 3) := by decide +kernel
theorem dX9_exchange_97 : decode cX9_exchange 97 = .ok (.goto (-53), 3) := by decide +kernel
theorem dX9_exchange_100 : decode cX9_exchange 100 = .ok (.iload_n 1, 1) := by decide +kernel
theorem dX9_exchange_101 : decode cX9_exchange 101 = .ok (.iload_n 2, 1) := by decide +kernel
theorem dX9_exchange_102 : decode cX9_exchange 102 = .ok (.if_icmp .ne 7, 3) := by decide +kernel
theorem dX9_exchange_105 : decode cX9_exchange 105 = .ok (.iconst 0, 1) := by decide +kernel
theorem dX9_exchange_106 : decode cX9_exchange 106 = .ok (.goto 21, 3) := by decide +kernel
theorem dX9_exchange_109 : decode cX9_exchange 109 = .ok (.iload_n 1, 1) := by decide +kernel
theorem dX9_exchange_110 : decode cX9_exchange 110 = .ok (.iload_n 2, 1) := by decide +kernel
theorem dX9_exchange_111 : decode cX9_exchange 111 = .ok (.if_icmp .ge 11, 3) := by decide +kernel
theorem dX9_exchange_114 : decode cX9_exchange 114 = .ok (.iload_n 2, 1) := by decide +kernel
theorem dX9_exchange_115 : decode cX9_exchange 115 = .ok (.iload_n 1, 1) := by decide +kernel
theorem dX9_exchange_116 : decode cX9_exchange 116 = .ok (.isub, 1) := by decide +kernel
theorem dX9_exchange_117 : decode cX9_exchange 117 = .ok (.iconst 1, 1) := by decide +kernel
theorem dX9_exchange_118 : decode cX9_exchange 118 = .ok (.isub, 1) := by decide +kernel
theorem dX9_exchange_119 : decode cX9_exchange 119 = .ok (.goto 8, 3) := by decide +kernel
theorem dX9_exchange_122 : decode cX9_exchange 122 = .ok (.iload_n 1, 1) := by decide +kernel
theorem dX9_exchange_123 : decode cX9_exchange 123 = .ok (.iload_n 2, 1) := by decide +kernel
theorem dX9_exchange_124 : decode cX9_exchange 124 = .ok (.isub, 1) := by decide +kernel
theorem dX9_exchange_125 : decode cX9_exchange 125 = .ok (.iconst 1, 1) := by decide +kernel
theorem dX9_exchange_126 : decode cX9_exchange 126 = .ok (.isub, 1) := by decide +kernel
theorem dX9_exchange_127 : decode cX9_exchange 127 = .ok (.ireturn, 1) := by decide +kernel
set_option maxRecDepth 20000 in
theorem ggX9_setMachine_X9_isMachine : GoodIn wsX9_setMachine wsX9_isMachine := goodIn_ca (goodIn_r _ [7, 2, 8, 9, 6, 10, 29, 30, 31, 32, 33, 34, 35, 36, 37, 38, 39, 40, 41, 42, 43, 44, 45, 46, 47, 48, 49, 50] (by decide +kernel) (by decide +kernel)) (goodIn_sub (fun _ h => List.mem_cons_of_mem _ (List.mem_append_right _ h)) (by decide +kernel))
set_option maxRecDepth 20000 in
theorem gX9_setMachine_X9_isMachine : GoodIn wsX9_setMachine (wsV RX9 85 RX9 yX9_isMachine wsX9_isMachine) := goodIn_app (goodIn_of _ (by decide +kernel)) ggX9_setMachine_X9_isMachine
set_option maxRecDepth 20000 in
theorem ggX9_setMachine_X9_mayBe : GoodIn wsX9_setMachine wsX9_mayBe := goodIn_r _ [13, 14, 15, 6, 16, 8, 9, 10] (by decide +kernel) (by decide +kernel)
set_option maxRecDepth 20000 in
theorem gX9_setMachine_X9_mayBe : GoodIn wsX9_setMachine (va_wsS RX9 69 yX9_mayBe wsX9_mayBe) := goodIn_app (goodIn_of _ (by decide +kernel)) ggX9_setMachine_X9_mayBe
set_option maxRecDepth 20000 in
theorem ggX9_setMachine_X9_changes : GoodIn wsX9_setMachine wsX9_changes := goodIn_ca (goodIn_r _ [20, 21, 22, 23, 24, 6, 25, 29, 30, 31, 32, 33, 34, 35, 36, 37, 38, 39, 40, 41, 42, 43, 44, 45, 46, 47, 48, 49, 50] (by decide +kernel) (by decide +kernel)) (goodIn_sub (fun _ h => List.mem_cons_of_mem _ (List.mem_append_right _ h)) (by decide +kernel))
set_option maxRecDepth 20000 in
theorem gX9_setMachine_X9_changes : GoodIn wsX9_setMachine (wsV RX9 73 RX9 yX9_changes wsX9_changes) := goodIn_app (goodIn_of _ (by decide +kernel)) ggX9_setMachine_X9_changes
set_option maxRecDepth 20000 in
theorem ggX9_setMachine_X9_machineAt : GoodIn wsX9_setMachine wsX9_machineAt := goodIn_r _ [28] (by decide +kernel) (by decide +kernel)
set_option maxRecDepth 20000 in
theorem gX9_setMachine_X9_machineAt : GoodIn wsX9_setMachine (va_wsS RX9 77 yX9_machineAt wsX9_machineAt) := goodIn_app (goodIn_of _ (by decide +kernel)) ggX9_setMachine_X9_machineAt
theorem dX9_setMachine_0 : decode cX9_setMachine 0 = .ok (.aload_n 0, 1) := by decide +kernel
theorem dX9_setMachine_1 : decode cX9_setMachine 1 = .ok (.aload_n 0, 1) := by decide +kernel
theorem dX9_setMachine_2 : decode cX9_setMachine 2 = .ok (.iload_n 1, 1) := by decide +kernel
theorem dX9_setMachine_3 : decode cX9_setMachine 3 = .ok (.invokevirtual 85, 3) := by decide +kernel
theorem dX9_setMachine_6 : decode cX9_setMachine 6 = .ok (.ifCond .eq 19, 3) := by decide +kernel
theorem dX9_setMachine_9 : decode cX9_setMachine 9 = .ok (.iload_n 2, 1) := by decide +kernel
theorem dX9_setMachine_10 : decode cX9_setMachine 10 = .ok (.iload_n 3, 1) := by decide +kernel
theorem dX9_setMachine_11 : decode cX9_setMachine 11 = .ok (.invokestatic 69, 3) := by decide +kernel
theorem dX9_setMachine_14 : decode cX9_setMachine 14 = .ok (.ifCond .eq 7, 3) := by decide +kernel
theorem dX9_setMachine_17 : decode cX9_setMachine 17 = .ok (.iconst 0, 1) := by decide +kernel
theorem dX9_setMachine_18 : decode cX9_setMachine 18 = .ok (.goto 8, 3) := by decide +kernel
theorem dX9_setMachine_21 : decode cX9_setMachine 21 = .ok (.iconst 2, 1) := by decide +kernel
theorem dX9_setMachine_22 : decode cX9_setMachine 22 = .ok (.goto 4, 3) := by decide +kernel
theorem dX9_setMachine_25 : decode cX9_setMachine 25 = .ok (.iconst 1, 1) := by decide +kernel
theorem dX9_setMachine_26 : decode cX9_setMachine 26 = .ok (.putfield 46, 3) := by decide +kernel
theorem dX9_setMachine_29 : decode cX9_setMachine 29 = .ok (.aload_n 0, 1) := by decide +kernel
theorem dX9_setMachine_30 : decode cX9_setMachine 30 = .ok (.getfield 46, 3) := by decide +kernel
theorem dX9_setMachine_33 : decode cX9_setMachine 33 = .ok (.ifCond .le 5, 3) := by decide +kernel
theorem dX9_setMachine_36 : decode cX9_setMachine 36 = .ok (.iconst 0, 1) := by decide +kernel
theorem dX9_setMachine_37 : decode cX9_setMachine 37 = .ok (.ireturn, 1) := by decide +kernel
theorem dX9_setMachine_38 : decode cX9_setMachine 38 = .ok (.aload_n 0, 1) := by decide +kernel
theorem dX9_setMachine_39 : decode cX9_setMachine 39 = .ok (.aload_n 0, 1) := by decide +kernel
theorem dX9_setMachine_40 : decode cX9_setMachine 40 = .ok (.getfield 7, 3) := by decide +kernel
theorem dX9_setMachine_43 : decode cX9_setMachine 43 = .ok (.invokevirtual 73, 3) := by decide +kernel
theorem dX9_setMachine_46 : decode cX9_setMachine 46 = .ok (.aload_n 0, 1) := by decide +kernel
theorem dX9_setMachine_47 : decode cX9_setMachine 47 = .ok (.getfield 7, 3) := by decide +kernel
theorem dX9_setMachine_50 : decode cX9_setMachine 50 = .ok (.iload_n 1, 1) := by decide +kernel
theorem dX9_setMachine_51 : decode cX9_setMachine 51 = .ok (.iload_n 2, 1) := by decide +kernel
theorem dX9_setMachine_52 : decode cX9_setMachine 52 = .ok (.invokestatic 77, 3) := by decide +kernel
theorem dX9_setMachine_55 : decode cX9_setMachine 55 = .ok (.iaload, 1) := by decide +kernel
theorem dX9_setMachine_56 : decode cX9_setMachine 56 = .ok (.istore 4, 2) := by decide +kernel
theorem dX9_setMachine_58 : decode cX9_setMachine 58 = .ok (.aload_n 0, 1) := by decide +kernel
theorem dX9_setMachine_59 : decode cX9_setMachine 59 = .ok (.getfield 7, 3) := by decide +kernel
theorem dX9_setMachine_62 : decode cX9_setMachine 62 = .ok (.iload_n 1, 1) := by decide +kernel
theorem dX9_setMachine_63 : decode cX9_setMachine 63 = .ok (.iload_n 2, 1) := by decide +kernel
theorem dX9_setMachine_64 : decode cX9_setMachine 64 = .ok (.invokestatic 77, 3) := by decide +kernel
theorem dX9_setMachine_67 : decode cX9_setMachine 67 = .ok (.iload_n 3, 1) := by decide +kernel
theorem dX9_setMachine_68 : decode cX9_setMachine 68 = .ok (.iastore, 1) := by decide +kernel
theorem dX9_setMachine_69 : decode cX9_setMachine 69 = .ok (.iload 4, 2) := by decide +kernel
theorem dX9_setMachine_71 : decode cX9_setMachine 71 = .ok (.ireturn, 1) := by decide +kernel
set_option maxRecDepth 20000 in
theorem ggX9_machine_X9_isMachine : GoodIn wsX9_machine wsX9_isMachine := goodIn_ca (goodIn_r _ [7, 2, 8, 9, 6, 10, 18, 19, 20, 21, 22, 23, 24, 25, 26, 27, 28, 29, 30, 31, 32, 33, 34, 35, 36, 37, 38, 39] (by decide +kernel) (by decide +kernel)) (goodIn_sub (fun _ h => List.mem_cons_of_mem _ (List.mem_append_right _ h)) (by decide +kernel))
set_option maxRecDepth 20000 in
theorem gX9_machine_X9_isMachine : GoodIn wsX9_machine (wsV RX9 85 RX9 yX9_isMachine wsX9_isMachine) := goodIn_app (goodIn_of _ (by decide +kernel)) ggX9_machine_X9_isMachine
set_option maxRecDepth 20000 in
theorem ggX9_machine_X9_in : GoodIn wsX9_machine wsX9_in := goodIn_r _ [10] (by decide +kernel) (by decide +kernel)
set_option maxRecDepth 20000 in
theorem gX9_machine_X9_in : GoodIn wsX9_machine (va_wsS RX9 50 yX9_in wsX9_in) := goodIn_app (goodIn_of _ (by decide +kernel)) ggX9_machine_X9_in
set_option maxRecDepth 20000 in
theorem ggX9_machine_X9_machineAt : GoodIn wsX9_machine wsX9_machineAt := goodIn_r _ [13] (by decide +kernel) (by decide +kernel)
set_option maxRecDepth 20000 in
theorem gX9_machine_X9_machineAt : GoodIn wsX9_machine (va_wsS RX9 77 yX9_machineAt wsX9_machineAt) := goodIn_app (goodIn_of _ (by decide +kernel)) ggX9_machine_X9_machineAt
set_option maxRecDepth 20000 in
theorem ggX9_machine_X9_sum : GoodIn wsX9_machine wsX9_sum := goodIn_ca (goodIn_r _ [17, 2, 18, 19, 20, 21, 22, 23, 24, 25, 26, 27, 28, 29, 30, 31, 32, 33, 34, 35, 36, 37, 38, 39] (by decide +kernel) (by decide +kernel)) (goodIn_sub (fun _ h => List.mem_cons_of_mem _ (List.mem_append_right _ h)) (by decide +kernel))
set_option maxRecDepth 20000 in
theorem gX9_machine_X9_sum : GoodIn wsX9_machine (wsV RX9 81 RX9 yX9_sum wsX9_sum) := goodIn_app (goodIn_of _ (by decide +kernel)) ggX9_machine_X9_sum
theorem dX9_machine_0 : decode cX9_machine 0 = .ok (.aload_n 0, 1) := by decide +kernel
theorem dX9_machine_1 : decode cX9_machine 1 = .ok (.aload_n 0, 1) := by decide +kernel
theorem dX9_machine_2 : decode cX9_machine 2 = .ok (.iload_n 1, 1) := by decide +kernel
theorem dX9_machine_3 : decode cX9_machine 3 = .ok (.invokevirtual 85, 3) := by decide +kernel
theorem dX9_machine_6 : decode cX9_machine 6 = .ok (.ifCond .eq 21, 3) := by decide +kernel
theorem dX9_machine_9 : decode cX9_machine 9 = .ok (.iload_n 2, 1) := by decide +kernel
theorem dX9_machine_10 : decode cX9_machine 10 = .ok (.iconst 0, 1) := by decide +kernel
theorem dX9_machine_11 : decode cX9_machine 11 = .ok (.bipush 6, 2) := by decide +kernel
theorem dX9_machine_13 : decode cX9_machine 13 = .ok (.invokestatic 50, 3) := by decide +kernel
theorem dX9_machine_16 : decode cX9_machine 16 = .ok (.ifCond .eq 7, 3) := by decide +kernel
theorem dX9_machine_19 : decode cX9_machine 19 = .ok (.iconst 0, 1) := by decide +kernel
theorem dX9_machine_20 : decode cX9_machine 20 = .ok (.goto 8, 3) := by decide +kernel
theorem dX9_machine_23 : decode cX9_machine 23 = .ok (.iconst 2, 1) := by decide +kernel
theorem dX9_machine_24 : decode cX9_machine 24 = .ok (.goto 4, 3) := by decide +kernel
theorem dX9_machine_27 : decode cX9_machine 27 = .ok (.iconst 1, 1) := by decide +kernel
theorem dX9_machine_28 : decode cX9_machine 28 = .ok (.putfield 46, 3) := by decide +kernel
theorem dX9_machine_31 : decode cX9_machine 31 = .ok (.aload_n 0, 1) := by decide +kernel
theorem dX9_machine_32 : decode cX9_machine 32 = .ok (.getfield 46, 3) := by decide +kernel
theorem dX9_machine_35 : decode cX9_machine 35 = .ok (.ifCond .le 5, 3) := by decide +kernel
theorem dX9_machine_38 : decode cX9_machine 38 = .ok (.iconst 0, 1) := by decide +kernel
theorem dX9_machine_39 : decode cX9_machine 39 = .ok (.ireturn, 1) := by decide +kernel
theorem dX9_machine_40 : decode cX9_machine 40 = .ok (.iload_n 2, 1) := by decide +kernel
theorem dX9_machine_41 : decode cX9_machine 41 = .ok (.iconst 5, 1) := by decide +kernel
theorem dX9_machine_42 : decode cX9_machine 42 = .ok (.if_icmp .ne 15, 3) := by decide +kernel
theorem dX9_machine_45 : decode cX9_machine 45 = .ok (.aload_n 0, 1) := by decide +kernel
theorem dX9_machine_46 : decode cX9_machine 46 = .ok (.iload_n 1, 1) := by decide +kernel
theorem dX9_machine_47 : decode cX9_machine 47 = .ok (.iconst 5, 1) := by decide +kernel
theorem dX9_machine_48 : decode cX9_machine 48 = .ok (.invokestatic 77, 3) := by decide +kernel
theorem dX9_machine_51 : decode cX9_machine 51 = .ok (.invokevirtual 81, 3) := by decide +kernel
theorem dX9_machine_54 : decode cX9_machine 54 = .ok (.goto 24, 3) := by decide +kernel
theorem dX9_machine_57 : decode cX9_machine 57 = .ok (.aload_n 0, 1) := by decide +kernel
theorem dX9_machine_58 : decode cX9_machine 58 = .ok (.getfield 7, 3) := by decide +kernel
theorem dX9_machine_61 : decode cX9_machine 61 = .ok (.iload_n 1, 1) := by decide +kernel
theorem dX9_machine_62 : decode cX9_machine 62 = .ok (.iload_n 2, 1) := by decide +kernel
theorem dX9_machine_63 : decode cX9_machine 63 = .ok (.bipush 6, 2) := by decide +kernel
theorem dX9_machine_65 : decode cX9_machine 65 = .ok (.if_icmp .ne 8, 3) := by decide +kernel
theorem dX9_machine_68 : decode cX9_machine 68 = .ok (.bipush 10, 2) := by decide +kernel
theorem dX9_machine_70 : decode cX9_machine 70 = .ok (.goto 4, 3) := by decide +kernel
theorem dX9_machine_73 : decode cX9_machine 73 = .ok (.iload_n 2, 1) := by decide +kernel
theorem dX9_machine_74 : decode cX9_machine 74 = .ok (.invokestatic 77, 3) := by decide +kernel
theorem dX9_machine_77 : decode cX9_machine 77 = .ok (.iaload, 1) := by decide +kernel
theorem dX9_machine_78 : decode cX9_machine 78 = .ok (.ireturn, 1) := by decide +kernel
set_option maxRecDepth 20000 in
theorem ggX9_excess_X9_machineAt : GoodIn wsX9_excess wsX9_machineAt := goodIn_r _ [5] (by decide +kernel) (by decide +kernel)
set_option maxRecDepth 20000 in
theorem gX9_excess_X9_machineAt : GoodIn wsX9_excess (va_wsS RX9 77 yX9_machineAt wsX9_machineAt) := goodIn_app (goodIn_of _ (by decide +kernel)) ggX9_excess_X9_machineAt
theorem dX9_excess_0 : decode cX9_excess 0 = .ok (.iload_n 2, 1) := by decide +kernel
theorem dX9_excess_1 : decode cX9_excess 1 = .ok (.aload_n 0, 1) := by decide +kernel
theorem dX9_excess_2 : decode cX9_excess 2 = .ok (.getfield 7, 3) := by decide +kernel
theorem dX9_excess_5 : decode cX9_excess 5 = .ok (.iload_n 1, 1) := by decide +kernel
theorem dX9_excess_6 : decode cX9_excess 6 = .ok (.iconst 3, 1) := by decide +kernel
theorem dX9_excess_7 : decode cX9_excess 7 = .ok (.invokestatic 77, 3) := by decide +kernel
theorem dX9_excess_10 : decode cX9_excess 10 = .ok (.iaload, 1) := by decide +kernel
theorem dX9_excess_11 : decode cX9_excess 11 = .ok (.if_icmp .le 21, 3) := by decide +kernel
theorem dX9_excess_14 : decode cX9_excess 14 = .ok (.iload_n 2, 1) := by decide +kernel
theorem dX9_excess_15 : decode cX9_excess 15 = .ok (.aload_n 0, 1) := by decide +kernel
theorem dX9_excess_16 : decode cX9_excess 16 = .ok (.getfield 7, 3) := by decide +kernel
theorem dX9_excess_19 : decode cX9_excess 19 = .ok (.iload_n 1, 1) := by decide +kernel
theorem dX9_excess_20 : decode cX9_excess 20 = .ok (.iconst 3, 1) := by decide +kernel
theorem dX9_excess_21 : decode cX9_excess 21 = .ok (.invokestatic 77, 3) := by decide +kernel
theorem dX9_excess_24 : decode cX9_excess 24 = .ok (.iaload, 1) := by decide +kernel
theorem dX9_excess_25 : decode cX9_excess 25 = .ok (.isub, 1) := by decide +kernel
theorem dX9_excess_26 : decode cX9_excess 26 = .ok (.bipush 10, 2) := by decide +kernel
theorem dX9_excess_28 : decode cX9_excess 28 = .ok (.idiv, 1) := by decide +kernel
theorem dX9_excess_29 : decode cX9_excess 29 = .ok (.goto 4, 3) := by decide +kernel
theorem dX9_excess_32 : decode cX9_excess 32 = .ok (.iconst 0, 1) := by decide +kernel
theorem dX9_excess_33 : decode cX9_excess 33 = .ok (.ireturn, 1) := by decide +kernel
set_option maxRecDepth 20000 in
theorem ggX9_catches_X9_machineAt : GoodIn wsX9_catches wsX9_machineAt := goodIn_r _ [5] (by decide +kernel) (by decide +kernel)
set_option maxRecDepth 20000 in
theorem gX9_catches_X9_machineAt : GoodIn wsX9_catches (va_wsS RX9 77 yX9_machineAt wsX9_machineAt) := goodIn_app (goodIn_of _ (by decide +kernel)) ggX9_catches_X9_machineAt
set_option maxRecDepth 20000 in
theorem ggX9_catches_X9_excess : GoodIn wsX9_catches wsX9_excess := goodIn_ca (goodIn_r _ [9, 1, 2, 3, 4, 5, 10, 11, 12, 13, 14, 15, 16, 17, 18, 19, 20, 21, 22, 23, 24, 25, 26, 27, 28, 29, 30, 31] (by decide +kernel) (by decide +kernel)) (goodIn_sub (fun _ h => List.mem_cons_of_mem _ (List.mem_append_right _ h)) (by decide +kernel))
set_option maxRecDepth 20000 in
theorem gX9_catches_X9_excess : GoodIn wsX9_catches (wsV RX9 88 RX9 yX9_excess wsX9_excess) := goodIn_app (goodIn_of _ (by decide +kernel)) ggX9_catches_X9_excess
theorem dX9_catches_0 : decode cX9_catches 0 = .ok (.aload_n 0, 1) := by decide +kernel
theorem dX9_catches_1 : decode cX9_catches 1 = .ok (.getfield 7, 3) := by decide +kernel
theorem dX9_catches_4 : decode cX9_catches 4 = .ok (.iload_n 1, 1) := by decide +kernel
theorem dX9_catches_5 : decode cX9_catches 5 = .ok (.iconst 1, 1) := by decide +kernel
theorem dX9_catches_6 : decode cX9_catches 6 = .ok (.invokestatic 77, 3) := by decide +kernel
theorem dX9_catches_9 : decode cX9_catches 9 = .ok (.iaload, 1) := by decide +kernel
theorem dX9_catches_10 : decode cX9_catches 10 = .ok (.aload_n 0, 1) := by decide +kernel
theorem dX9_catches_11 : decode cX9_catches 11 = .ok (.getfield 7, 3) := by decide +kernel
theorem dX9_catches_14 : decode cX9_catches 14 = .ok (.iload_n 1, 1) := by decide +kernel
theorem dX9_catches_15 : decode cX9_catches 15 = .ok (.iconst 4, 1) := by decide +kernel
theorem dX9_catches_16 : decode cX9_catches 16 = .ok (.invokestatic 77, 3) := by decide +kernel
theorem dX9_catches_19 : decode cX9_catches 19 = .ok (.iaload, 1) := by decide +kernel
theorem dX9_catches_20 : decode cX9_catches 20 = .ok (.aload_n 0, 1) := by decide +kernel
theorem dX9_catches_21 : decode cX9_catches 21 = .ok (.iload_n 1, 1) := by decide +kernel
theorem dX9_catches_22 : decode cX9_catches 22 = .ok (.iload_n 2, 1) := by decide +kernel
theorem dX9_catches_23 : decode cX9_catches 23 = .ok (.invokevirtual 88, 3) := by decide +kernel
theorem dX9_catches_26 : decode cX9_catches 26 = .ok (.imul, 1) := by decide +kernel
theorem dX9_catches_27 : decode cX9_catches 27 = .ok (.isub, 1) := by decide +kernel
theorem dX9_catches_28 : decode cX9_catches 28 = .ok (.istore_n 3, 1) := by decide +kernel
theorem dX9_catches_29 : decode cX9_catches 29 = .ok (.iload_n 3, 1) := by decide +kernel
theorem dX9_catches_30 : decode cX9_catches 30 = .ok (.bipush 10, 2) := by decide +kernel
theorem dX9_catches_32 : decode cX9_catches 32 = .ok (.if_icmp .ge 8, 3) := by decide +kernel
theorem dX9_catches_35 : decode cX9_catches 35 = .ok (.bipush 10, 2) := by decide +kernel
theorem dX9_catches_37 : decode cX9_catches 37 = .ok (.goto 4, 3) := by decide +kernel
theorem dX9_catches_40 : decode cX9_catches 40 = .ok (.iload_n 3, 1) := by decide +kernel
theorem dX9_catches_41 : decode cX9_catches 41 = .ok (.ireturn, 1) := by decide +kernel
set_option maxRecDepth 20000 in
theorem ggX9_mistakes_X9_machineAt : GoodIn wsX9_mistakes wsX9_machineAt := goodIn_r _ [5] (by decide +kernel) (by decide +kernel)
set_option maxRecDepth 20000 in
theorem gX9_mistakes_X9_machineAt : GoodIn wsX9_mistakes (va_wsS RX9 77 yX9_machineAt wsX9_machineAt) := goodIn_app (goodIn_of _ (by decide +kernel)) ggX9_mistakes_X9_machineAt
set_option maxRecDepth 20000 in
theorem ggX9_mistakes_X9_excess : GoodIn wsX9_mistakes wsX9_excess := goodIn_ca (goodIn_r _ [9, 1, 2, 3, 4, 5, 10, 11, 12, 13, 14, 15, 16, 17, 18, 19, 20, 21, 22, 23, 24, 25, 26, 27, 28, 29, 30, 31] (by decide +kernel) (by decide +kernel)) (goodIn_sub (fun _ h => List.mem_cons_of_mem _ (List.mem_append_right _ h)) (by decide +kernel))
set_option maxRecDepth 20000 in
theorem gX9_mistakes_X9_excess : GoodIn wsX9_mistakes (wsV RX9 88 RX9 yX9_excess wsX9_excess) := goodIn_app (goodIn_of _ (by decide +kernel)) ggX9_mistakes_X9_excess
theorem dX9_mistakes_0 : decode cX9_mistakes 0 = .ok (.aload_n 0, 1) := by decide +kernel
theorem dX9_mistakes_1 : decode cX9_mistakes 1 = .ok (.getfield 7, 3) := by decide +kernel
theorem dX9_mistakes_4 : decode cX9_mistakes 4 = .ok (.iload_n 1, 1) := by decide +kernel
theorem dX9_mistakes_5 : decode cX9_mistakes 5 = .ok (.iconst 2, 1) := by decide +kernel
theorem dX9_mistakes_6 : decode cX9_mistakes 6 = .ok (.invokestatic 77, 3) := by decide +kernel
theorem dX9_mistakes_9 : decode cX9_mistakes 9 = .ok (.iaload, 1) := by decide +kernel
theorem dX9_mistakes_10 : decode cX9_mistakes 10 = .ok (.aload_n 0, 1) := by decide +kernel
theorem dX9_mistakes_11 : decode cX9_mistakes 11 = .ok (.iload_n 1, 1) := by decide +kernel
theorem dX9_mistakes_12 : decode cX9_mistakes 12 = .ok (.iload_n 2, 1) := by decide +kernel
theorem dX9_mistakes_13 : decode cX9_mistakes 13 = .ok (.invokevirtual 88, 3) := by decide +kernel
theorem dX9_mistakes_16 : decode cX9_mistakes 16 = .ok (.iadd, 1) := by decide +kernel
theorem dX9_mistakes_17 : decode cX9_mistakes 17 = .ok (.istore_n 3, 1) := by decide +kernel
theorem dX9_mistakes_18 : decode cX9_mistakes 18 = .ok (.iload_n 3, 1) := by decide +kernel
theorem dX9_mistakes_19 : decode cX9_mistakes 19 = .ok (.bipush 90, 2) := by decide +kernel
theorem dX9_mistakes_21 : decode cX9_mistakes 21 = .ok (.if_icmp .le 8, 3) := by decide +kernel
theorem dX9_mistakes_24 : decode cX9_mistakes 24 = .ok (.bipush 90, 2) := by decide +kernel
theorem dX9_mistakes_26 : decode cX9_mistakes 26 = .ok (.goto 4, 3) := by decide +kernel
theorem dX9_mistakes_29 : decode cX9_mistakes 29 = .ok (.iload_n 3, 1) := by decide +kernel
theorem dX9_mistakes_30 : decode cX9_mistakes 30 = .ok (.ireturn, 1) := by decide +kernel
set_option maxRecDepth 20000 in
theorem ggX9_rate_X9_isMachine : GoodIn wsX9_rate wsX9_isMachine := goodIn_ca (goodIn_r _ [6, 7, 8, 9, 5, 10, 26, 27, 28, 29, 30, 31, 32, 33, 34, 35, 36, 37, 38, 39, 40, 41, 42, 43, 44, 45, 46, 47] (by decide +kernel) (by decide +kernel)) (goodIn_sub (fun _ h => List.mem_cons_of_mem _ (List.mem_append_right _ h)) (by decide +kernel))
set_option maxRecDepth 20000 in
theorem gX9_rate_X9_isMachine : GoodIn wsX9_rate (wsV RX9 85 RX9 yX9_isMachine wsX9_isMachine) := goodIn_app (goodIn_of _ (by decide +kernel)) ggX9_rate_X9_isMachine
set_option maxRecDepth 20000 in
theorem ggX9_rate_X9_in : GoodIn wsX9_rate wsX9_in := goodIn_r _ [10] (by decide +kernel) (by decide +kernel)
set_option maxRecDepth 20000 in
theorem gX9_rate_X9_in : GoodIn wsX9_rate (va_wsS RX9 50 yX9_in wsX9_in) := goodIn_app (goodIn_of _ (by decide +kernel)) ggX9_rate_X9_in
set_option maxRecDepth 20000 in
theorem ggX9_rate_X9_mistakes : GoodIn wsX9_rate wsX9_mistakes := goodIn_ca (goodIn_r _ [14, 7, 15, 16, 5, 17, 18, 19, 20, 21, 26, 27, 28, 29, 30, 31, 32, 33, 34, 35, 36, 37, 38, 39, 40, 41, 42, 43, 44, 45, 46, 47] (by decide +kernel) (by decide +kernel)) (goodIn_sub (fun _ h => List.mem_cons_of_mem _ (List.mem_append_right _ h)) (by decide +kernel))
set_option maxRecDepth 20000 in
theorem gX9_rate_X9_mistakes : GoodIn wsX9_rate (wsV RX9 91 RX9 yX9_mistakes wsX9_mistakes) := goodIn_app (goodIn_of _ (by decide +kernel)) ggX9_rate_X9_mistakes
set_option maxRecDepth 20000 in
theorem ggX9_rate_X9_catches : GoodIn wsX9_rate wsX9_catches := goodIn_ca (goodIn_r _ [25, 7, 15, 16, 5, 17, 18, 19, 20, 21, 26, 27, 28, 29, 30, 31, 32, 33, 34, 35, 36, 37, 38, 39, 40, 41, 42, 43, 44, 45, 46, 47] (by decide +kernel) (by decide +kernel)) (goodIn_sub (fun _ h => List.mem_cons_of_mem _ (List.mem_append_right _ h)) (by decide +kernel))
set_option maxRecDepth 20000 in
theorem gX9_rate_X9_catches : GoodIn wsX9_rate (wsV RX9 94 RX9 yX9_catches wsX9_catches) := goodIn_app (goodIn_of _ (by decide +kernel)) ggX9_rate_X9_catches
theorem dX9_rate_0 : decode cX9_rate 0 = .ok (.aload_n 0, 1) := by decide +kernel
theorem dX9_rate_1 : decode cX9_rate 1 = .ok (.aload_n 0, 1) := by decide +kernel
theorem dX9_rate_2 : decode cX9_rate 2 = .ok (.iload_n 1, 1) := by decide +kernel
theorem dX9_rate_3 : decode cX9_rate 3 = .ok (.invokevirtual 85, 3) := by decide +kernel
theorem dX9_rate_6 : decode cX9_rate 6 = .ok (.ifCond .eq 22, 3) := by decide +kernel
theorem dX9_rate_9 : decode cX9_rate 9 = .ok (.iload_n 2, 1) := by decide +kernel
theorem dX9_rate_10 : decode cX9_rate 10 = .ok (.iconst 0, 1) := by decide +kernel
theorem dX9_rate_11 : decode cX9_rate 11 = .ok (.sipush 9999, 3) := by decide +kernel
theorem dX9_rate_14 : decode cX9_rate 14 = .ok (.invokestatic 50, 3) := by decide +kernel
theorem dX9_rate_17 : decode cX9_rate 17 = .ok (.ifCond .eq 7, 3) := by decide +kernel
theorem dX9_rate_20 : decode cX9_rate 20 = .ok (.iconst 0, 1) := by decide +kernel
theorem dX9_rate_21 : decode cX9_rate 21 = .ok (.goto 8, 3) := by decide +kernel
theorem dX9_rate_24 : decode cX9_rate 24 = .ok (.iconst 2, 1) := by decide +kernel
theorem dX9_rate_25 : decode cX9_rate 25 = .ok (.goto 4, 3) := by decide +kernel
theorem dX9_rate_28 : decode cX9_rate 28 = .ok (.iconst 1, 1) := by decide +kernel
theorem dX9_rate_29 : decode cX9_rate 29 = .ok (.putfield 46, 3) := by decide +kernel
theorem dX9_rate_32 : decode cX9_rate 32 = .ok (.aload_n 0, 1) := by decide +kernel
theorem dX9_rate_33 : decode cX9_rate 33 = .ok (.getfield 46, 3) := by decide +kernel
theorem dX9_rate_36 : decode cX9_rate 36 = .ok (.ifCond .le 7, 3) := by decide +kernel
theorem dX9_rate_39 : decode cX9_rate 39 = .ok (.iconst 0, 1) := by decide +kernel
theorem dX9_rate_40 : decode cX9_rate 40 = .ok (.goto 22, 3) := by decide +kernel
theorem dX9_rate_43 : decode cX9_rate 43 = .ok (.iload_n 3, 1) := by decide +kernel
theorem dX9_rate_44 : decode cX9_rate 44 = .ok (.ifCond .eq 12, 3) := by decide +kernel
theorem dX9_rate_47 : decode cX9_rate 47 = .ok (.aload_n 0, 1) := by decide +kernel
theorem dX9_rate_48 : decode cX9_rate 48 = .ok (.iload_n 1, 1) := by decide +kernel
theorem dX9_rate_49 : decode cX9_rate 49 = .ok (.iload_n 2, 1) := by decide +kernel
theorem dX9_rate_50 : decode cX9_rate 50 = .ok (.invokevirtual 91, 3) := by decide +kernel
theorem dX9_rate_53 : decode cX9_rate 53 = .ok (.goto 9, 3) := by decide +kernel
theorem dX9_rate_56 : decode cX9_rate 56 = .ok (.aload_n 0, 1) := by decide +kernel
theorem dX9_rate_57 : decode cX9_rate 57 = .ok (.iload_n 1, 1) := by decide +kernel
theorem dX9_rate_58 : decode cX9_rate 58 = .ok (.iload_n 2, 1) := by decide +kernel
theorem dX9_rate_59 : decode cX9_rate 59 = .ok (.invokevirtual 94, 3) := by decide +kernel
theorem dX9_rate_62 : decode cX9_rate 62 = .ok (.ireturn, 1) := by decide +kernel
set_option maxRecDepth 20000 in
theorem ggX9_maySet_X9_in : GoodIn wsX9_maySet wsX9_in := goodIn_r _ [4] (by decide +kernel) (by decide +kernel)
set_option maxRecDepth 20000 in
theorem gX9_maySet_X9_in : GoodIn wsX9_maySet (va_wsS RX9 50 yX9_in wsX9_in) := goodIn_app (goodIn_of _ (by decide +kernel)) ggX9_maySet_X9_in
theorem dX9_maySet_0 : decode cX9_maySet 0 = .ok (.iload_n 0, 1) := by decide +kernel
theorem dX9_maySet_1 : decode cX9_maySet 1 = .ok (.ifCond .ne 14, 3) := by decide +kernel
theorem dX9_maySet_4 : decode cX9_maySet 4 = .ok (.iload_n 1, 1) := by decide +kernel
theorem dX9_maySet_5 : decode cX9_maySet 5 = .ok (.iconst 1, 1) := by decide +kernel
theorem dX9_maySet_6 : decode cX9_maySet 6 = .ok (.sipush 500, 3) := by decide +kernel
theorem dX9_maySet_9 : decode cX9_maySet 9 = .ok (.invokestatic 50, 3) := by decide +kernel
theorem dX9_maySet_12 : decode cX9_maySet 12 = .ok (.goto 56, 3) := by decide +kernel
theorem dX9_maySet_15 : decode cX9_maySet 15 = .ok (.iload_n 0, 1) := by decide +kernel
theorem dX9_maySet_16 : decode cX9_maySet 16 = .ok (.iconst 1, 1) := by decide +kernel
theorem dX9_maySet_17 : decode cX9_maySet 17 = .ok (.if_icmp .ne 13, 3) := by decide +kernel
theorem dX9_maySet_20 : decode cX9_maySet 20 = .ok (.iload_n 1, 1) := by decide +kernel
theorem dX9_maySet_21 : decode cX9_maySet 21 = .ok (.iconst 0, 1) := by decide +kernel
theorem dX9_maySet_22 : decode cX9_maySet 22 = .ok (.bipush 100, 2) := by decide +kernel
theorem dX9_maySet_24 : decode cX9_maySet 24 = .ok (.invokestatic 50, 3) := by decide +kernel
theorem dX9_maySet_27 : decode cX9_maySet 27 = .ok (.goto 41, 3) := by decide +kernel
theorem dX9_maySet_30 : decode cX9_maySet 30 = .ok (.iload_n 0, 1) := by decide +kernel
theorem dX9_maySet_31 : decode cX9_maySet 31 = .ok (.iconst 2, 1) := by decide +kernel
theorem dX9_maySet_32 : decode cX9_maySet 32 = .ok (.if_icmp .ne 15, 3) := by decide +kernel
theorem dX9_maySet_35 : decode cX9_maySet 35 = .ok (.iload_n 1, 1) := by decide +kernel
theorem dX9_maySet_36 : decode cX9_maySet 36 = .ok (.bipush 10, 2) := by decide +kernel
theorem dX9_maySet_38 : decode cX9_maySet 38 = .ok (.sipush 200, 3) := by decide +kernel
theorem dX9_maySet_41 : decode cX9_maySet 41 = .ok (.invokestatic 50, 3) := by decide +kernel
theorem dX9_maySet_44 : decode cX9_maySet 44 = .ok (.goto 24, 3) := by decide +kernel
theorem dX9_maySet_47 : decode cX9_maySet 47 = .ok (.iload_n 0, 1) := by decide +kernel
theorem dX9_maySet_48 : decode cX9_maySet 48 = .ok (.iconst 3, 1) := by decide +kernel
theorem dX9_maySet_49 : decode cX9_maySet 49 = .ok (.if_icmp .ne 13, 3) := by decide +kernel
theorem dX9_maySet_52 : decode cX9_maySet 52 = .ok (.iload_n 1, 1) := by decide +kernel
theorem dX9_maySet_53 : decode cX9_maySet 53 = .ok (.iconst 1, 1) := by decide +kernel
theorem dX9_maySet_54 : decode cX9_maySet 54 = .ok (.bipush 50, 2) := by decide +kernel
theorem dX9_maySet_56 : decode cX9_maySet 56 = .ok (.invokestatic 50, 3) := by decide +kernel
theorem dX9_maySet_59 : decode cX9_maySet 59 = .ok (.goto 9, 3) := by decide +kernel
theorem dX9_maySet_62 : decode cX9_maySet 62 = .ok (.iload_n 1, 1) := by decide +kernel
theorem dX9_maySet_63 : decode cX9_maySet 63 = .ok (.iconst 0, 1) := by decide +kernel
theorem dX9_maySet_64 : decode cX9_maySet 64 = .ok (.iconst 1, 1) := by decide +kernel
theorem dX9_maySet_65 : decode cX9_maySet 65 = .ok (.invokestatic 50, 3) := by decide +kernel
theorem dX9_maySet_68 : decode cX9_maySet 68 = .ok (.ireturn, 1) := by decide +kernel
set_option maxRecDepth 20000 in
theorem ggX9_set_X9_in : GoodIn wsX9_set wsX9_in := goodIn_r _ [6] (by decide +kernel) (by decide +kernel)
set_option maxRecDepth 20000 in
theorem gX9_set_X9_in : GoodIn wsX9_set (va_wsS RX9 50 yX9_in wsX9_in) := goodIn_app (goodIn_of _ (by decide +kernel)) ggX9_set_X9_in
set_option maxRecDepth 20000 in
theorem ggX9_set_X9_maySet : GoodIn wsX9_set wsX9_maySet := goodIn_r _ [9, 3, 4, 5, 6] (by decide +kernel) (by decide +kernel)
set_option maxRecDepth 20000 in
theorem gX9_set_X9_maySet : GoodIn wsX9_set (va_wsS RX9 97 yX9_maySet wsX9_maySet) := goodIn_app (goodIn_of _ (by decide +kernel)) ggX9_set_X9_maySet
set_option maxRecDepth 20000 in
theorem ggX9_set_X9_changes : GoodIn wsX9_set wsX9_changes := goodIn_ca (goodIn_r _ [13, 14, 15, 16, 17, 5, 18, 19, 20, 21, 22, 23, 24, 25, 26, 27, 28, 29, 30, 31, 32, 33, 34, 35, 36, 37, 38, 39, 40] (by decide +kernel) (by decide +kernel)) (goodIn_sub (fun _ h => List.mem_cons_of_mem _ (List.mem_append_right _ h)) (by decide +kernel))
set_option maxRecDepth 20000 in
theorem gX9_set_X9_changes : GoodIn wsX9_set (wsV RX9 73 RX9 yX9_changes wsX9_changes) := goodIn_app (goodIn_of _ (by decide +kernel)) ggX9_set_X9_changes
theorem dX9_set_0 : decode cX9_set 0 = .ok (.aload_n 0, 1) := by decide +kernel
theorem dX9_set_1 : decode cX9_set 1 = .ok (.iload_n 1, 1) := by decide +kernel
theorem dX9_set_2 : decode cX9_set 2 = .ok (.iconst 0, 1) := by decide +kernel
theorem dX9_set_3 : decode cX9_set 3 = .ok (.iconst 4, 1) := by decide +kernel
theorem dX9_set_4 : decode cX9_set 4 = .ok (.invokestatic 50, 3) := by decide +kernel
theorem dX9_set_7 : decode cX9_set 7 = .ok (.ifCond .eq 19, 3) := by decide +kernel
theorem dX9_set_10 : decode cX9_set 10 = .ok (.iload_n 1, 1) := by decide +kernel
theorem dX9_set_11 : decode cX9_set 11 = .ok (.iload_n 2, 1) := by decide +kernel
theorem dX9_set_12 : decode cX9_set 12 = .ok (.invokestatic 97, 3) := by decide +kernel
theorem dX9_set_15 : decode cX9_set 15 = .ok (.ifCond .eq 7, 3) := by decide +kernel
theorem dX9_set_18 : decode cX9_set 18 = .ok (.iconst 0, 1) := by decide +kernel
theorem dX9_set_19 : decode cX9_set 19 = .ok (.goto 8, 3) := by decide +kernel
theorem dX9_set_22 : decode cX9_set 22 = .ok (.iconst 2, 1) := by decide +kernel
theorem dX9_set_23 : decode cX9_set 23 = .ok (.goto 4, 3) := by decide +kernel
theorem dX9_set_26 : decode cX9_set 26 = .ok (.iconst 1, 1) := by decide +kernel
theorem dX9_set_27 : decode cX9_set 27 = .ok (.putfield 46, 3) := by decide +kernel
theorem dX9_set_30 : decode cX9_set 30 = .ok (.aload_n 0, 1) := by decide +kernel
theorem dX9_set_31 : decode cX9_set 31 = .ok (.getfield 46, 3) := by decide +kernel
theorem dX9_set_34 : decode cX9_set 34 = .ok (.ifCond .le 5, 3) := by decide +kernel
theorem dX9_set_37 : decode cX9_set 37 = .ok (.iconst 0, 1) := by decide +kernel
theorem dX9_set_38 : decode cX9_set 38 = .ok (.ireturn, 1) := by decide +kernel
theorem dX9_set_39 : decode cX9_set 39 = .ok (.aload_n 0, 1) := by decide +kernel
theorem dX9_set_40 : decode cX9_set 40 = .ok (.aload_n 0, 1) := by decide +kernel
theorem dX9_set_41 : decode cX9_set 41 = .ok (.getfield 7, 3) := by decide +kernel
theorem dX9_set_44 : decode cX9_set 44 = .ok (.invokevirtual 73, 3) := by decide +kernel
theorem dX9_set_47 : decode cX9_set 47 = .ok (.aload_n 0, 1) := by decide +kernel
theorem dX9_set_48 : decode cX9_set 48 = .ok (.getfield 7, 3) := by decide +kernel
theorem dX9_set_51 : decode cX9_set 51 = .ok (.bipush 6, 2) := by decide +kernel
theorem dX9_set_53 : decode cX9_set 53 = .ok (.iload_n 1, 1) := by decide +kernel
theorem dX9_set_54 : decode cX9_set 54 = .ok (.iadd, 1) := by decide +kernel
theorem dX9_set_55 : decode cX9_set 55 = .ok (.iaload, 1) := by decide +kernel
theorem dX9_set_56 : decode cX9_set 56 = .ok (.istore_n 3, 1) := by decide +kernel
theorem dX9_set_57 : decode cX9_set 57 = .ok (.aload_n 0, 1) := by decide +kernel
theorem dX9_set_58 : decode cX9_set 58 = .ok (.getfield 7, 3) := by decide +kernel
theorem dX9_set_61 : decode cX9_set 61 = .ok (.bipush 6, 2) := by decide +kernel
theorem dX9_set_63 : decode cX9_set 63 = .ok (.iload_n 1, 1) := by decide +kernel
theorem dX9_set_64 : decode cX9_set 64 = .ok (.iadd, 1) := by decide +kernel
theorem dX9_set_65 : decode cX9_set 65 = .ok (.iload_n 2, 1) := by decide +kernel
theorem dX9_set_66 : decode cX9_set 66 = .ok (.iastore, 1) := by decide +kernel
theorem dX9_set_67 : decode cX9_set 67 = .ok (.iload_n 3, 1) := by decide +kernel
theorem dX9_set_68 : decode cX9_set 68 = .ok (.ireturn, 1) := by decide +kernel
set_option maxRecDepth 20000 in
theorem ggX9_seed_X9_changes : GoodIn wsX9_seed wsX9_changes := goodIn_ca (goodIn_r _ [7, 8, 9, 10, 11, 6, 12, 13, 14, 15, 16, 17, 18, 19, 20, 21, 22, 23, 24, 25, 26, 27, 28, 29, 30, 31, 32, 33, 34] (by decide +kernel) (by decide +kernel)) (goodIn_sub (fun _ h => List.mem_cons_of_mem _ (List.mem_append_right _ h)) (by decide +kernel))
set_option maxRecDepth 20000 in
theorem gX9_seed_X9_changes : GoodIn wsX9_seed (wsV RX9 73 RX9 yX9_changes wsX9_changes) := goodIn_app (goodIn_of _ (by decide +kernel)) ggX9_seed_X9_changes
theorem dX9_seed_0 : decode cX9_seed 0 = .ok (.aload_n 0, 1) := by decide +kernel
theorem dX9_seed_1 : decode cX9_seed 1 = .ok (.iconst 0, 1) := by decide +kernel
theorem dX9_seed_2 : decode cX9_seed 2 = .ok (.putfield 46, 3) := by decide +kernel
theorem dX9_seed_5 : decode cX9_seed 5 = .ok (.aload_n 0, 1) := by decide +kernel
theorem dX9_seed_6 : decode cX9_seed 6 = .ok (.aload_n 0, 1) := by decide +kernel
theorem dX9_seed_7 : decode cX9_seed 7 = .ok (.getfield 7, 3) := by decide +kernel
theorem dX9_seed_10 : decode cX9_seed 10 = .ok (.invokevirtual 73, 3) := by decide +kernel
theorem dX9_seed_13 : decode cX9_seed 13 = .ok (.aload_n 0, 1) := by decide +kernel
theorem dX9_seed_14 : decode cX9_seed 14 = .ok (.getfield 7, 3) := by decide +kernel
theorem dX9_seed_17 : decode cX9_seed 17 = .ok (.iconst 1, 1) := by decide +kernel
theorem dX9_seed_18 : decode cX9_seed 18 = .ok (.iaload, 1) := by decide +kernel
theorem dX9_seed_19 : decode cX9_seed 19 = .ok (.istore_n 2, 1) := by decide +kernel
theorem dX9_seed_20 : decode cX9_seed 20 = .ok (.aload_n 0, 1) := by decide +kernel
theorem dX9_seed_21 : decode cX9_seed 21 = .ok (.getfield 7, 3) := by decide +kernel
theorem dX9_seed_24 : decode cX9_seed 24 = .ok (.iconst 1, 1) := by decide +kernel
theorem dX9_seed_25 : decode cX9_seed 25 = .ok (.iload_n 1, 1) := by decide +kernel
theorem dX9_seed_26 : decode cX9_seed 26 = .ok (.iastore, 1) := by decide +kernel
theorem dX9_seed_27 : decode cX9_seed 27 = .ok (.iload_n 2, 1) := by decide +kernel
theorem dX9_seed_28 : decode cX9_seed 28 = .ok (.ireturn, 1) := by decide +kernel
set_option maxRecDepth 20000 in
theorem ggX9_againstFeed_X9_isMaterial : GoodIn wsX9_againstFeed wsX9_isMaterial := goodIn_r _ [4, 5, 6, 3, 7] (by decide +kernel) (by decide +kernel)
set_option maxRecDepth 20000 in
theorem gX9_againstFeed_X9_isMaterial : GoodIn wsX9_againstFeed (va_wsS RX9 65 yX9_isMaterial wsX9_isMaterial) := goodIn_app (goodIn_of _ (by decide +kernel)) ggX9_againstFeed_X9_isMaterial
set_option maxRecDepth 20000 in
theorem ggX9_againstFeed_X9_in : GoodIn wsX9_againstFeed wsX9_in := goodIn_r _ [7] (by decide +kernel) (by decide +kernel)
set_option maxRecDepth 20000 in
theorem gX9_againstFeed_X9_in : GoodIn wsX9_againstFeed (va_wsS RX9 50 yX9_in wsX9_in) := goodIn_app (goodIn_of _ (by decide +kernel)) ggX9_againstFeed_X9_in
set_option maxRecDepth 20000 in
theorem ggX9_againstFeed_X9_sum : GoodIn wsX9_againstFeed wsX9_sum := goodIn_ca (goodIn_r _ [11, 12, 13, 14, 15, 16, 17, 18, 19, 20, 21, 22, 23, 24, 25, 26, 27, 28, 29, 30, 31, 32, 33, 34] (by decide +kernel) (by decide +kernel)) (goodIn_sub (fun _ h => List.mem_cons_of_mem _ (List.mem_append_right _ h)) (by decide +kernel))
set_option maxRecDepth 20000 in
theorem gX9_againstFeed_X9_sum : GoodIn wsX9_againstFeed (wsV RX9 81 RX9 yX9_sum wsX9_sum) := goodIn_app (goodIn_of _ (by decide +kernel)) ggX9_againstFeed_X9_sum
theorem dX9_againstFeed_0 : decode cX9_againstFeed 0 = .ok (.iload_n 1, 1) := by decide +kernel
theorem dX9_againstFeed_1 : decode cX9_againstFeed 1 = .ok (.invokestatic 65, 3) := by decide +kernel
theorem dX9_againstFeed_4 : decode cX9_againstFeed 4 = .ok (.ifCond .ne 7, 3) := by decide +kernel
theorem dX9_againstFeed_7 : decode cX9_againstFeed 7 = .ok (.iconst 1, 1) := by decide +kernel
theorem dX9_againstFeed_8 : decode cX9_againstFeed 8 = .ok (.goto 37, 3) := by decide +kernel
theorem dX9_againstFeed_11 : decode cX9_againstFeed 11 = .ok (.iload_n 2, 1) := by decide +kernel
theorem dX9_againstFeed_12 : decode cX9_againstFeed 12 = .ok (.iconst 1, 1) := by decide +kernel
theorem dX9_againstFeed_13 : decode cX9_againstFeed 13 = .ok (.sipush 999, 3) := by decide +kernel
theorem dX9_againstFeed_16 : decode cX9_againstFeed 16 = .ok (.invokestatic 50, 3) := by decide +kernel
theorem dX9_againstFeed_19 : decode cX9_againstFeed 19 = .ok (.ifCond .ne 7, 3) := by decide +kernel
theorem dX9_againstFeed_22 : decode cX9_againstFeed 22 = .ok (.iconst 2, 1) := by decide +kernel
theorem dX9_againstFeed_23 : decode cX9_againstFeed 23 = .ok (.goto 22, 3) := by decide +kernel
theorem dX9_againstFeed_26 : decode cX9_againstFeed 26 = .ok (.aload_n 0, 1) := by decide +kernel
theorem dX9_againstFeed_27 : decode cX9_againstFeed 27 = .ok (.bipush 11, 2) := by decide +kernel
theorem dX9_againstFeed_29 : decode cX9_againstFeed 29 = .ok (.invokevirtual 81, 3) := by decide +kernel
theorem dX9_againstFeed_32 : decode cX9_againstFeed 32 = .ok (.iload_n 2, 1) := by decide +kernel
theorem dX9_againstFeed_33 : decode cX9_againstFeed 33 = .ok (.iadd, 1) := by decide +kernel
theorem dX9_againstFeed_34 : decode cX9_againstFeed 34 = .ok (.sipush 9999, 3) := by decide +kernel
theorem dX9_againstFeed_37 : decode cX9_againstFeed 37 = .ok (.if_icmp .le 7, 3) := by decide +kernel
theorem dX9_againstFeed_40 : decode cX9_againstFeed 40 = .ok (.iconst 3, 1) := by decide +kernel
theorem dX9_againstFeed_41 : decode cX9_againstFeed 41 = .ok (.goto 4, 3) := by decide +kernel
theorem dX9_againstFeed_44 : decode cX9_againstFeed 44 = .ok (.iconst 0, 1) := by decide +kernel
theorem dX9_againstFeed_45 : decode cX9_againstFeed 45 = .ok (.ireturn, 1) := by decide +kernel
theorem dX9_feeds_0 : decode cX9_feeds 0 = .ok (.aload_n 0, 1) := by decide +kernel
theorem dX9_feeds_1 : decode cX9_feeds 1 = .ok (.getfield 7, 3) := by decide +kernel
theorem dX9_feeds_4 : decode cX9_feeds 4 = .ok (.bipush 11, 2) := by decide +kernel
theorem dX9_feeds_6 : decode cX9_feeds 6 = .ok (.iload_n 1, 1) := by decide +kernel
theorem dX9_feeds_7 : decode cX9_feeds 7 = .ok (.iadd, 1) := by decide +kernel
theorem dX9_feeds_8 : decode cX9_feeds 8 = .ok (.dup2, 1) := by decide +kernel
theorem dX9_feeds_9 : decode cX9_feeds 9 = .ok (.iaload, 1) := by decide +kernel
theorem dX9_feeds_10 : decode cX9_feeds 10 = .ok (.iload_n 2, 1) := by decide +kernel
theorem dX9_feeds_11 : decode cX9_feeds 11 = .ok (.iadd, 1) := by decide +kernel
theorem dX9_feeds_12 : decode cX9_feeds 12 = .ok (.iastore, 1) := by decide +kernel
theorem dX9_feeds_13 : decode cX9_feeds 13 = .ok (.aload_n 0, 1) := by decide +kernel
theorem dX9_feeds_14 : decode cX9_feeds 14 = .ok (.getfield 7, 3) := by decide +kernel
theorem dX9_feeds_17 : decode cX9_feeds 17 = .ok (.bipush 21, 2) := by decide +kernel
theorem dX9_feeds_19 : decode cX9_feeds 19 = .ok (.iload_n 1, 1) := by decide +kernel
theorem dX9_feeds_20 : decode cX9_feeds 20 = .ok (.iadd, 1) := by decide +kernel
theorem dX9_feeds_21 : decode cX9_feeds 21 = .ok (.dup2, 1) := by decide +kernel
theorem dX9_feeds_22 : decode cX9_feeds 22 = .ok (.iaload, 1) := by decide +kernel
theorem dX9_feeds_23 : decode cX9_feeds 23 = .ok (.iload_n 2, 1) := by decide +kernel
theorem dX9_feeds_24 : decode cX9_feeds 24 = .ok (.iadd, 1) := by decide +kernel
theorem dX9_feeds_25 : decode cX9_feeds 25 = .ok (.iastore, 1) := by decide +kernel
theorem dX9_feeds_26 : decode cX9_feeds 26 = .ok (.aload_n 0, 1) := by decide +kernel
theorem dX9_feeds_27 : decode cX9_feeds 27 = .ok (.getfield 7, 3) := by decide +kernel
theorem dX9_feeds_30 : decode cX9_feeds 30 = .ok (.bipush 11, 2) := by decide +kernel
theorem dX9_feeds_32 : decode cX9_feeds 32 = .ok (.iload_n 1, 1) := by decide +kernel
theorem dX9_feeds_33 : decode cX9_feeds 33 = .ok (.iadd, 1) := by decide +kernel
theorem dX9_feeds_34 : decode cX9_feeds 34 = .ok (.iaload, 1) := by decide +kernel
theorem dX9_feeds_35 : decode cX9_feeds 35 = .ok (.ireturn, 1) := by decide +kernel
set_option maxRecDepth 20000 in
theorem ggX9_feed_X9_againstFeed : GoodIn wsX9_feed wsX9_againstFeed := goodIn_ca (goodIn_r _ [7, 8, 9, 6, 10, 11, 12, 13, 14, 15, 16, 17, 2, 31, 32, 33, 34, 35, 36, 37, 38, 39, 40, 41, 42, 43, 44, 45, 46, 47, 48, 49, 50, 51, 52] (by decide +kernel) (by decide +kernel)) (goodIn_sub (fun _ h => List.mem_cons_of_mem _ (List.mem_append_right _ h)) (by decide +kernel))
set_option maxRecDepth 20000 in
theorem gX9_feed_X9_againstFeed : GoodIn wsX9_feed (wsV RX9 100 RX9 yX9_againstFeed wsX9_againstFeed) := goodIn_app (goodIn_of _ (by decide +kernel)) ggX9_feed_X9_againstFeed
set_option maxRecDepth 20000 in
theorem ggX9_feed_X9_changes : GoodIn wsX9_feed wsX9_changes := goodIn_ca (goodIn_r _ [21, 22, 23, 24, 25, 6, 26, 31, 32, 33, 34, 35, 36, 37, 38, 39, 40, 41, 42, 43, 44, 45, 46, 47, 48, 49, 50, 51, 52] (by decide +kernel) (by decide +kernel)) (goodIn_sub (fun _ h => List.mem_cons_of_mem _ (List.mem_append_right _ h)) (by decide +kernel))
set_option maxRecDepth 20000 in
theorem gX9_feed_X9_changes : GoodIn wsX9_feed (wsV RX9 73 RX9 yX9_changes wsX9_changes) := goodIn_app (goodIn_of _ (by decide +kernel)) ggX9_feed_X9_changes
set_option maxRecDepth 20000 in
theorem ggX9_feed_X9_feeds : GoodIn wsX9_feed wsX9_feeds := goodIn_ca (goodIn_r _ [30, 2, 31, 32, 33, 34, 35, 36, 37, 38, 39, 40, 41, 42, 43, 44, 45, 46, 47, 48, 49, 50, 51, 52] (by decide +kernel) (by decide +kernel)) (goodIn_sub (fun _ h => List.mem_cons_of_mem _ (List.mem_append_right _ h)) (by decide +kernel))
set_option maxRecDepth 20000 in
theorem gX9_feed_X9_feeds : GoodIn wsX9_feed (wsV RX9 103 RX9 yX9_feeds wsX9_feeds) := goodIn_app (goodIn_of _ (by decide +kernel)) ggX9_feed_X9_feeds
theorem dX9_feed_0 : decode cX9_feed 0 = .ok (.aload_n 0, 1) := by decide +kernel
theorem dX9_feed_1 : decode cX9_feed 1 = .ok (.aload_n 0, 1) := by decide +kernel
theorem dX9_feed_2 : decode cX9_feed 2 = .ok (.iload_n 1, 1) := by decide +kernel
theorem dX9_feed_3 : decode cX9_feed 3 = .ok (.iload_n 2, 1) := by decide +kernel
theorem dX9_feed_4 : decode cX9_feed 4 = .ok (.invokevirtual 100, 3) := by decide +kernel
theorem dX9_feed_7 : decode cX9_feed 7 = .ok (.putfield 46, 3) := by decide +kernel
theorem dX9_feed_10 : decode cX9_feed 10 = .ok (.aload_n 0, 1) := by decide +kernel
theorem dX9_feed_11 : decode cX9_feed 11 = .ok (.getfield 46, 3) := by decide +kernel
theorem dX9_feed_14 : decode cX9_feed 14 = .ok (.ifCond .le 5, 3) := by decide +kernel
theorem dX9_feed_17 : decode cX9_feed 17 = .ok (.iconst 0, 1) := by decide +kernel
theorem dX9_feed_18 : decode cX9_feed 18 = .ok (.ireturn, 1) := by decide +kernel
theorem dX9_feed_19 : decode cX9_feed 19 = .ok (.aload_n 0, 1) := by decide +kernel
theorem dX9_feed_20 : decode cX9_feed 20 = .ok (.aload_n 0, 1) := by decide +kernel
theorem dX9_feed_21 : decode cX9_feed 21 = .ok (.getfield 7, 3) := by decide +kernel
theorem dX9_feed_24 : decode cX9_feed 24 = .ok (.invokevirtual 73, 3) := by decide +kernel
theorem dX9_feed_27 : decode cX9_feed 27 = .ok (.aload_n 0, 1) := by decide +kernel
theorem dX9_feed_28 : decode cX9_feed 28 = .ok (.iload_n 1, 1) := by decide +kernel
theorem dX9_feed_29 : decode cX9_feed 29 = .ok (.iload_n 2, 1) := by decide +kernel
theorem dX9_feed_30 : decode cX9_feed 30 = .ok (.invokevirtual 103, 3) := by decide +kernel
theorem dX9_feed_33 : decode cX9_feed 33 = .ok (.ireturn, 1) := by decide +kernel
theorem dX9_greatest_0 : decode cX9_greatest 0 = .ok (.iconst (-1), 1) := by decide +kernel
theorem dX9_greatest_1 : decode cX9_greatest 1 = .ok (.istore 5, 2) := by decide +kernel
theorem dX9_greatest_3 : decode cX9_greatest 3 = .ok (.iconst 0, 1) := by decide +kernel
theorem dX9_greatest_4 : decode cX9_greatest 4 = .ok (.istore 6, 2) := by decide +kernel
theorem dX9_greatest_6 : decode cX9_greatest 6 = .ok (.iload 6, 2) := by decide +kernel
theorem dX9_greatest_8 : decode cX9_greatest 8 = .ok (.iconst 5, 1) := by decide +kernel
theorem dX9_greatest_9 : decode cX9_greatest 9 = .ok (.if_icmp .ge 57, 3) := by decide +kernel
theorem dX9_greatest_12 : decode cX9_greatest 12 = .ok (.iload 4, 2) := by decide +kernel
theorem dX9_greatest_14 : decode cX9_greatest 14 = .ok (.iload 6, 2) := by decide +kernel
theorem dX9_greatest_16 : decode cX9_greatest 16 = .ok (.ishr, 1) := by decide +kernel
theorem dX9_greatest_17 : decode cX9_greatest 17 = .ok (.iconst 1, 1) := by decide +kernel
theorem dX9_greatest_18 : decode cX9_greatest 18 = .ok (.iand, 1) := by decide +kernel
theorem dX9_greatest_19 : decode cX9_greatest 19 = .ok (.ifCond .ne 41, 3) := by decide +kernel
theorem dX9_greatest_22 : decode cX9_greatest 22 = .ok (.iload 5, 2) := by decide +kernel
theorem dX9_greatest_24 : decode cX9_greatest 24 = .ok (.ifCond .lt 32, 3) := by decide +kernel
theorem dX9_greatest_27 : decode cX9_greatest 27 = .ok (.aload_n 0, 1) := by decide +kernel
theorem dX9_greatest_28 : decode cX9_greatest 28 = .ok (.getfield 7, 3) := by decide +kernel
theorem dX9_greatest_31 : decode cX9_greatest 31 = .ok (.iload_n 1, 1) := by decide +kernel
theorem dX9_greatest_32 : decode cX9_greatest 32 = .ok (.iload 6, 2) := by decide +kernel
theorem dX9_greatest_34 : decode cX9_greatest 34 = .ok (.iadd, 1) := by decide +kernel
theorem dX9_greatest_35 : decode cX9_greatest 35 = .ok (.iaload, 1) := by decide +kernel
theorem dX9_greatest_36 : decode cX9_greatest 36 = .ok (.iload_n 2, 1) := by decide +kernel
theorem dX9_greatest_37 : decode cX9_greatest 37 = .ok (.imul, 1) := by decide +kernel
theorem dX9_greatest_38 : decode cX9_greatest 38 = .ok (.iload_n 3, 1) := by decide +kernel
theorem dX9_greatest_39 : decode cX9_greatest 39 = .ok (.irem, 1) := by decide +kernel
theorem dX9_greatest_40 : decode cX9_greatest 40 = .ok (.aload_n 0, 1) := by decide +kernel
theorem dX9_greatest_41 : decode cX9_greatest 41 = .ok (.getfield 7, 3) := by decide +kernel
theorem dX9_greatest_44 : decode cX9_greatest 44 = .ok (.iload_n 1, 1) := by decide +kernel
theorem dX9_greatest_45 : decode cX9_greatest 45 = .ok (.iload 5, 2) := by decide +kernel
theorem dX9_greatest_47 : decode cX9_greatest 47 = .ok (.iadd, 1) := by decide +kernel
theorem dX9_greatest_48 : decode cX9_greatest 48 = .ok (.iaload, 1) := by decide +kernel
theorem dX9_greatest_49 : decode cX9_greatest 49 = .ok (.iload_n 2, 1) := by decide +kernel
theorem dX9_greatest_50 : decode cX9_greatest 50 = .ok (.imul, 1) := by decide +kernel
theorem dX9_greatest_51 : decode cX9_greatest 51 = .ok (.iload_n 3, 1) := by decide +kernel
theorem dX9_greatest_52 : decode cX9_greatest 52 = .ok (.irem, 1) := by decide +kernel
theorem dX9_greatest_53 : decode cX9_greatest 53 = .ok (.if_icmp .le 7, 3) := by decide +kernel
theorem dX9_greatest_56 : decode cX9_greatest 56 = .ok (.iload 6, 2) := by decide +kernel
theorem dX9_greatest_58 : decode cX9_greatest 58 = .ok (.istore 5, 2) := by decide +kernel
theorem dX9_greatest_60 : decode cX9_greatest 60 = .ok (.iinc 6 1, 3) := by decide +kernel
theorem dX9_greatest_63 : decode cX9_greatest 63 = .ok (.goto (-57), 3) := by decide +kernel
theorem dX9_greatest_66 : decode cX9_greatest 66 = .ok (.iload 5, 2) := by decide +kernel
theorem dX9_greatest_68 : decode cX9_greatest 68 = .ok (.ireturn, 1) := by decide +kernel
set_option maxRecDepth 20000 in
theorem ggX9_takes_X9_sum : GoodIn wsX9_takes wsX9_sum := goodIn_ca (goodIn_r _ [7, 2, 12, 13, 14, 15, 16, 17, 18, 19, 20, 21, 22, 23, 24, 25, 26, 27, 28, 29, 30, 31, 32, 33] (by decide +kernel) (by decide +kernel)) (goodIn_sub (fun _ h => List.mem_cons_of_mem _ (List.mem_append_left _ (List.mem_append_right _ h))) (by decide +kernel))
set_option maxRecDepth 20000 in
theorem gX9_takes_X9_sum : GoodIn wsX9_takes (wsV RX9 81 RX9 yX9_sum wsX9_sum) := goodIn_app (goodIn_of _ (by decide +kernel)) ggX9_takes_X9_sum
set_option maxRecDepth 20000 in
theorem ggX9_takes_X9_greatest : GoodIn wsX9_takes wsX9_greatest := goodIn_ca (goodIn_ca (goodIn_r _ [11, 2, 12, 13, 14, 15, 16, 17, 18, 19, 20, 21, 22, 23, 24, 25, 26, 27, 28, 29, 30, 31, 32, 33] (by decide +kernel) (by decide +kernel)) (goodIn_sub (fun _ h => List.mem_cons_of_mem _ (List.mem_append_left _ (List.mem_append_right _ h))) (by decide +kernel))) (goodIn_sub (fun _ h => List.mem_cons_of_mem _ (List.mem_append_right _ h)) (by decide +kernel))
set_option maxRecDepth 20000 in
theorem gX9_takes_X9_greatest : GoodIn wsX9_takes (wsV RX9 106 RX9 yX9_greatest wsX9_greatest) := goodIn_app (goodIn_of _ (by decide +kernel)) ggX9_takes_X9_greatest
theorem dX9_takes_0 : decode cX9_takes 0 = .ok (.aload_n 0, 1) := by decide +kernel
theorem dX9_takes_1 : decode cX9_takes 1 = .ok (.iload_n 1, 1) := by decide +kernel
theorem dX9_takes_2 : decode cX9_takes 2 = .ok (.invokevirtual 81, 3) := by decide +kernel
theorem dX9_takes_5 : decode cX9_takes 5 = .ok (.istore_n 3, 1) := by decide +kernel
theorem dX9_takes_6 : decode cX9_takes 6 = .ok (.iload_n 2, 1) := by decide +kernel
theorem dX9_takes_7 : decode cX9_takes 7 = .ok (.istore 4, 2) := by decide +kernel
theorem dX9_takes_9 : decode cX9_takes 9 = .ok (.iconst 0, 1) := by decide +kernel
theorem dX9_takes_10 : decode cX9_takes 10 = .ok (.istore 5, 2) := by decide +kernel
theorem dX9_takes_12 : decode cX9_takes 12 = .ok (.iload 5, 2) := by decide +kernel
theorem dX9_takes_14 : decode cX9_takes 14 = .ok (.iconst 5, 1) := by decide +kernel
theorem dX9_takes_15 : decode cX9_takes 15 = .ok (.if_icmp .ge 49, 3) := by decide +kernel
theorem dX9_takes_18 : decode cX9_takes 18 = .ok (.aload_n 0, 1) := by decide +kernel
theorem dX9_takes_19 : decode cX9_takes 19 = .ok (.getfield 28, 3) := by decide +kernel
theorem dX9_takes_22 : decode cX9_takes 22 = .ok (.iload 5, 2) := by decide +kernel
theorem dX9_takes_24 : decode cX9_takes 24 = .ok (.iload_n 3, 1) := by decide +kernel
theorem dX9_takes_25 : decode cX9_takes 25 = .ok (.ifCond .ne 7, 3) := by decide +kernel
theorem dX9_takes_28 : decode cX9_takes 28 = .ok (.iconst 0, 1) := by decide +kernel
theorem dX9_takes_29 : decode cX9_takes 29 = .ok (.goto 16, 3) := by decide +kernel
theorem dX9_takes_32 : decode cX9_takes 32 = .ok (.aload_n 0, 1) := by decide +kernel
theorem dX9_takes_33 : decode cX9_takes 33 = .ok (.getfield 7, 3) := by decide +kernel
theorem dX9_takes_36 : decode cX9_takes 36 = .ok (.iload_n 1, 1) := by decide +kernel
theorem dX9_takes_37 : decode cX9_takes 37 = .ok (.iload 5, 2) := by decide +kernel
theorem dX9_takes_39 : decode cX9_takes 39 = .ok (.iadd, 1) := by decide +kernel
theorem dX9_takes_40 : decode cX9_takes 40 = .ok (.iaload, 1) := by decide +kernel
theorem dX9_takes_41 : decode cX9_takes 41 = .ok (.iload_n 2, 1) := by decide +kernel
theorem dX9_takes_42 : decode cX9_takes 42 = .ok (.imul, 1) := by decide +kernel
theorem dX9_takes_43 : decode cX9_takes 43 = .ok (.iload_n 3, 1) := by decide +kernel
theorem dX9_takes_44 : decode cX9_takes 44 = .ok (.idiv, 1) := by decide +kernel
theorem dX9_takes_45 : decode cX9_takes 45 = .ok (.iastore, 1) := by decide +kernel
theorem dX9_takes_46 : decode cX9_takes 46 = .ok (.iload 4, 2) := by decide +kernel
theorem dX9_takes_48 : decode cX9_takes 48 = .ok (.aload_n 0, 1) := by decide +kernel
theorem dX9_takes_49 : decode cX9_takes 49 = .ok (.getfield 28, 3) := by decide +kernel
theorem dX9_takes_52 : decode cX9_takes 52 = .ok (.iload 5, 2) := by decide +kernel
theorem dX9_takes_54 : decode cX9_takes 54 = .ok (.iaload, 1) := by decide +kernel
theorem dX9_takes_55 : decode cX9_takes 55 = .ok (.isub, 1) := by decide +kernel
theorem dX9_takes_56 : decode cX9_takes 56 = .ok (.istore 4, 2) := by decide +kernel
theorem dX9_takes_58 : decode cX9_takes 58 = .ok (.iinc 5 1, 3) := by decide +kernel
theorem dX9_takes_61 : decode cX9_takes 61 = .ok (.goto (-49), 3) := by decide +kernel
theorem dX9_takes_64 : decode cX9_takes 64 = .ok (.iconst 0, 1) := by decide +kernel
theorem dX9_takes_65 : decode cX9_takes 65 = .ok (.istore 5, 2) := by decide +kernel
theorem dX9_takes_67 : decode cX9_takes 67 = .ok (.iload 4, 2) := by decide +kernel
theorem dX9_takes_69 : decode cX9_takes 69 = .ok (.ifCond .le 40, 3) := by decide +kernel
theorem dX9_takes_72 : decode cX9_takes 72 = .ok (.aload_n 0, 1) := by decide +kernel
theorem dX9_takes_73 : decode cX9_takes 73 = .ok (.iload_n 1, 1) := by decide +kernel
theorem dX9_takes_74 : decode cX9_takes 74 = .ok (.iload_n 2, 1) := by decide +kernel
theorem dX9_takes_75 : decode cX9_takes 75 = .ok (.iload_n 3, 1) := by decide +kernel
theorem dX9_takes_76 : decode cX9_takes 76 = .ok (.iload 5, 2) := by decide +kernel
theorem dX9_takes_78 : decode cX9_takes 78 = .ok (.invokevirtual 106, 3) := by decide +kernel
theorem dX9_takes_81 : decode cX9_takes 81 = .ok (.istore 6, 2) := by decide +kernel
theorem dX9_takes_83 : decode cX9_takes 83 = .ok (.iload 5, 2) := by decide +kernel
theorem dX9_takes_85 : decode cX9_takes 85 = .ok (.iconst 1, 1) := by decide +kernel
theorem dX9_takes_86 : decode cX9_takes 86 = .ok (.iload 6, 2) := by decide +kernel
theorem dX9_takes_88 : decode cX9_takes 88 = .ok (.ishl, 1) := by decide +kernel
theorem dX9_takes_89 : decode cX9_takes 89 = .ok (.ior, 1) := by decide +kernel
theorem dX9_takes_90 : decode cX9_takes 90 = .ok (.istore 5, 2) := by decide +kernel
theorem dX9_takes_92 : decode cX9_takes 92 = .ok (.aload_n 0, 1) := by decide +kernel
theorem dX9_takes_93 : decode cX9_takes 93 = .ok (.getfield 28, 3) := by decide +kernel
theorem dX9_takes_96 : decode cX9_takes 96 = .ok (.iload 6, 2) := by decide +kernel
theorem dX9_takes_98 : decode cX9_takes 98 = .ok (.dup2, 1) := by decide +kernel
theorem dX9_takes_99 : decode cX9_takes 99 = .ok (.iaload, 1) := by decide +kernel
theorem dX9_takes_100 : decode cX9_takes 100 = .ok (.iconst 1, 1) := by decide +kernel
theorem dX9_takes_101 : decode cX9_takes 101 = .ok (.iadd, 1) := by decide +kernel
theorem dX9_takes_102 : decode cX9_takes 102 = .ok (.iastore, 1) := by decide +kernel
theorem dX9_takes_103 : decode cX9_takes 103 = .ok (.iinc 4 (-1), 3) := by decide +kernel
theorem dX9_takes_106 : decode cX9_takes 106 = .ok (.goto (-39), 3) := by decide +kernel
theorem dX9_takes_109 : decode cX9_takes 109 = .ok (.iconst 0, 1) := by decide +kernel
theorem dX9_takes_110 : decode cX9_takes 110 = .ok (.istore 6, 2) := by decide +kernel
theorem dX9_takes_112 : decode cX9_takes 112 = .ok (.iload 6, 2) := by decide +kernel
theorem dX9_takes_114 : decode cX9_takes 114 = .ok (.iconst 5, 1) := by decide +kernel
theorem dX9_takes_115 : decode cX9_takes 115 = .ok (.if_icmp .ge 28, 3) := by decide +kernel
theorem dX9_takes_118 : decode cX9_takes 118 = .ok (.aload_n 0, 1) := by decide +kernel
theorem dX9_takes_119 : decode cX9_takes 119 = .ok (.getfield 7, 3) := by decide +kernel
theorem dX9_takes_122 : decode cX9_takes 122 = .ok (.iload_n 1, 1) := by decide +kernel
theorem dX9_takes_123 : decode cX9_takes 123 = .ok (.iload 6, 2) := by decide +kernel
theorem dX9_takes_125 : decode cX9_takes 125 = .ok (.iadd, 1) := by decide +kernel
theorem dX9_takes_126 : decode cX9_takes 126 = .ok (.dup2, 1) := by decide +kernel
theorem dX9_takes_127 : decode cX9_takes 127 = .ok (.iaload, 1) := by decide +kernel
theorem dX9_takes_128 : decode cX9_takes 128 = .ok (.aload_n 0, 1) := by decide +kernel
theorem dX9_takes_129 : decode cX9_takes 129 = .ok (.getfield 28, 3) := by decide +kernel
theorem dX9_takes_132 : decode cX9_takes 132 = .ok (.iload 6, 2) := by decide +kernel
theorem dX9_takes_134 : decode cX9_takes 134 = .ok (.iaload, 1) := by decide +kernel
theorem dX9_takes_135 : decode cX9_takes 135 = .ok (.isub, 1) := by decide +kernel
theorem dX9_takes_136 : decode cX9_takes 136 = .ok (.iastore, 1) := by decide +kernel
theorem dX9_takes_137 : decode cX9_takes 137 = .ok (.iinc 6 1, 3) := by decide +kernel
theorem dX9_takes_140 : decode cX9_takes 140 = .ok (.goto (-28), 3) := by decide +kernel
theorem dX9_takes_143 : decode cX9_takes 143 = .ok (.return_, 1) := by decide +kernel
set_option maxRecDepth 20000 in
theorem ggX9_samples_X9_baleAt : GoodIn wsX9_samples wsX9_baleAt := goodIn_r _ [6] (by decide +kernel) (by decide +kernel)
set_option maxRecDepth 20000 in
theorem gX9_samples_X9_baleAt : GoodIn wsX9_samples (va_wsS RX9 111 yX9_baleAt wsX9_baleAt) := goodIn_app (goodIn_of _ (by decide +kernel)) ggX9_samples_X9_baleAt
theorem dX9_samples_0 : decode cX9_samples 0 = .ok (.iconst 0, 1) := by decide +kernel
theorem dX9_samples_1 : decode cX9_samples 1 = .ok (.istore_n 3, 1) := by decide +kernel
theorem dX9_samples_2 : decode cX9_samples 2 = .ok (.iconst 0, 1) := by decide +kernel
theorem dX9_samples_3 : decode cX9_samples 3 = .ok (.istore 4, 2) := by decide +kernel
theorem dX9_samples_5 : decode cX9_samples 5 = .ok (.iload 4, 2) := by decide +kernel
theorem dX9_samples_7 : decode cX9_samples 7 = .ok (.aload_n 0, 1) := by decide +kernel
theorem dX9_samples_8 : decode cX9_samples 8 = .ok (.getfield 7, 3) := by decide +kernel
theorem dX9_samples_11 : decode cX9_samples 11 = .ok (.bipush 9, 2) := by decide +kernel
theorem dX9_samples_13 : decode cX9_samples 13 = .ok (.iaload, 1) := by decide +kernel
theorem dX9_samples_14 : decode cX9_samples 14 = .ok (.if_icmp .ge 105, 3) := by decide +kernel
theorem dX9_samples_17 : decode cX9_samples 17 = .ok (.aload_n 0, 1) := by decide +kernel
theorem dX9_samples_18 : decode cX9_samples 18 = .ok (.getfield 7, 3) := by decide +kernel
theorem dX9_samples_21 : decode cX9_samples 21 = .ok (.iconst 1, 1) := by decide +kernel
theorem dX9_samples_22 : decode cX9_samples 22 = .ok (.aload_n 0, 1) := by decide +kernel
theorem dX9_samples_23 : decode cX9_samples 23 = .ok (.getfield 7, 3) := by decide +kernel
theorem dX9_samples_26 : decode cX9_samples 26 = .ok (.iconst 1, 1) := by decide +kernel
theorem dX9_samples_27 : decode cX9_samples 27 = .ok (.iaload, 1) := by decide +kernel
theorem dX9_samples_28 : decode cX9_samples 28 = .ok (.ldc 110, 2) := by decide +kernel
theorem dX9_samples_30 : decode cX9_samples 30 = .ok (.imul, 1) := by decide +kernel
theorem dX9_samples_31 : decode cX9_samples 31 = .ok (.sipush 12345, 3) := by decide +kernel
theorem dX9_samples_34 : decode cX9_samples 34 = .ok (.iadd, 1) := by decide +kernel
theorem dX9_samples_35 : decode cX9_samples 35 = .ok (.iastore, 1) := by decide +kernel
theorem dX9_samples_36 : decode cX9_samples 36 = .ok (.aload_n 0, 1) := by decide +kernel
theorem dX9_samples_37 : decode cX9_samples 37 = .ok (.getfield 7, 3) := by decide +kernel
theorem dX9_samples_40 : decode cX9_samples 40 = .ok (.iconst 1, 1) := by decide +kernel
theorem dX9_samples_41 : decode cX9_samples 41 = .ok (.iaload, 1) := by decide +kernel
theorem dX9_samples_42 : decode cX9_samples 42 = .ok (.bipush 16, 2) := by decide +kernel
theorem dX9_samples_44 : decode cX9_samples 44 = .ok (.iushr, 1) := by decide +kernel
theorem dX9_samples_45 : decode cX9_samples 45 = .ok (.iload_n 2, 1) := by decide +kernel
theorem dX9_samples_46 : decode cX9_samples 46 = .ok (.irem, 1) := by decide +kernel
theorem dX9_samples_47 : decode cX9_samples 47 = .ok (.istore 5, 2) := by decide +kernel
theorem dX9_samples_49 : decode cX9_samples 49 = .ok (.iconst 0, 1) := by decide +kernel
theorem dX9_samples_50 : decode cX9_samples 50 = .ok (.istore 6, 2) := by decide +kernel
theorem dX9_samples_52 : decode cX9_samples 52 = .ok (.iload 5, 2) := by decide +kernel
theorem dX9_samples_54 : decode cX9_samples 54 = .ok (.aload_n 0, 1) := by decide +kernel
theorem dX9_samples_55 : decode cX9_samples 55 = .ok (.getfield 7, 3) := by decide +kernel
theorem dX9_samples_58 : decode cX9_samples 58 = .ok (.iload_n 1, 1) := by decide +kernel
theorem dX9_samples_59 : decode cX9_samples 59 = .ok (.iload 6, 2) := by decide +kernel
theorem dX9_samples_61 : decode cX9_samples 61 = .ok (.invokestatic 111, 3) := by decide +kernel
theorem dX9_samples_64 : decode cX9_samples 64 = .ok (.iaload, 1) := by decide +kernel
theorem dX9_samples_65 : decode cX9_samples 65 = .ok (.if_icmp .lt 25, 3) := by decide +kernel
theorem dX9_samples_68 : decode cX9_samples 68 = .ok (.iload 5, 2) := by decide +kernel
theorem dX9_samples_70 : decode cX9_samples 70 = .ok (.aload_n 0, 1) := by decide +kernel
theorem dX9_samples_71 : decode cX9_samples 71 = .ok (.getfield 7, 3) := by decide +kernel
theorem dX9_samples_74 : decode cX9_samples 74 = .ok (.iload_n 1, 1) := by decide +kernel
theorem dX9_samples_75 : decode cX9_samples 75 = .ok (.iload 6, 2) := by decide +kernel
theorem dX9_samples_77 : decode cX9_samples 77 = .ok (.invokestatic 111, 3) := by decide +kernel
theorem dX9_samples_80 : decode cX9_samples 80 = .ok (.iaload, 1) := by decide +kernel
theorem dX9_samples_81 : decode cX9_samples 81 = .ok (.isub, 1) := by decide +kernel
theorem dX9_samples_82 : decode cX9_samples 82 = .ok (.istore 5, 2) := by decide +kernel
theorem dX9_samples_84 : decode cX9_samples 84 = .ok (.iinc 6 1, 3) := by decide +kernel
theorem dX9_samples_87 : decode cX9_samples 87 = .ok (.goto (-35), 3) := by decide +kernel
theorem dX9_samples_90 : decode cX9_samples 90 = .ok (.iload_n 3, 1) := by decide +kernel
theorem dX9_samples_91 : decode cX9_samples 91 = .ok (.iload 6, 2) := by decide +kernel
theorem dX9_samples_93 : decode cX9_samples 93 = .ok (.aload_n 0, 1) := by decide +kernel
theorem dX9_samples_94 : decode cX9_samples 94 = .ok (.getfield 7, 3) := by decide +kernel
theorem dX9_samples_97 : decode cX9_samples 97 = .ok (.iload_n 1, 1) := by decide +kernel
theorem dX9_samples_98 : decode cX9_samples 98 = .ok (.iconst 5, 1) := by decide +kernel
theorem dX9_samples_99 : decode cX9_samples 99 = .ok (.invokestatic 111, 3) := by decide +kernel
theorem dX9_samples_102 : decode cX9_samples 102 = .ok (.iaload, 1) := by decide +kernel
theorem dX9_samples_103 : decode cX9_samples 103 = .ok (.if_icmp .ne 7, 3) := by decide +kernel
theorem dX9_samples_106 : decode cX9_samples 106 = .ok (.iconst 1, 1) := by decide +kernel
theorem dX9_samples_107 : decode cX9_samples 107 = .ok (.goto 4, 3) := by decide +kernel
theorem dX9_samples_110 : decode cX9_samples 110 = .ok (.iconst 0, 1) := by decide +kernel
theorem dX9_samples_111 : decode cX9_samples 111 = .ok (.iadd, 1) := by decide +kernel
theorem dX9_samples_112 : decode cX9_samples 112 = .ok (.istore_n 3, 1) := by decide +kernel
theorem dX9_samples_113 : decode cX9_samples 113 = .ok (.iinc 4 1, 3) := by decide +kernel
theorem dX9_samples_116 : decode cX9_samples 116 = .ok (.goto (-111), 3) := by decide +kernel
theorem dX9_samples_119 : decode cX9_samples 119 = .ok (.iload_n 3, 1) := by decide +kernel
theorem dX9_samples_120 : decode cX9_samples 120 = .ok (.sipush 1000, 3) := by decide +kernel
theorem dX9_samples_123 : decode cX9_samples 123 = .ok (.imul, 1) := by decide +kernel
theorem dX9_samples_124 : decode cX9_samples 124 = .ok (.aload_n 0, 1) := by decide +kernel
theorem dX9_samples_125 : decode cX9_samples 125 = .ok (.getfield 7, 3) := by decide +kernel
theorem dX9_samples_128 : decode cX9_samples 128 = .ok (.bipush 9, 2) := by decide +kernel
theorem dX9_samples_130 : decode cX9_samples 130 = .ok (.iaload, 1) := by decide +kernel
theorem dX9_samples_131 : decode cX9_samples 131 = .ok (.idiv, 1) := by decide +kernel
theorem dX9_samples_132 : decode cX9_samples 132 = .ok (.ireturn, 1) := by decide +kernel
theorem dX9_gradeBy_0 : decode cX9_gradeBy 0 = .ok (.iload_n 0, 1) := by decide +kernel
theorem dX9_gradeBy_1 : decode cX9_gradeBy 1 = .ok (.sipush 950, 3) := by decide +kernel
theorem dX9_gradeBy_4 : decode cX9_gradeBy 4 = .ok (.if_icmp .lt 7, 3) := by decide +kernel
theorem dX9_gradeBy_7 : decode cX9_gradeBy 7 = .ok (.iconst 0, 1) := by decide +kernel
theorem dX9_gradeBy_8 : decode cX9_gradeBy 8 = .ok (.goto 26, 3) := by decide +kernel
theorem dX9_gradeBy_11 : decode cX9_gradeBy 11 = .ok (.iload_n 0, 1) := by decide +kernel
theorem dX9_gradeBy_12 : decode cX9_gradeBy 12 = .ok (.sipush 850, 3) := by decide +kernel
theorem dX9_gradeBy_15 : decode cX9_gradeBy 15 = .ok (.if_icmp .lt 7, 3) := by decide +kernel
theorem dX9_gradeBy_18 : decode cX9_gradeBy 18 = .ok (.iconst 1, 1) := by decide +kernel
theorem dX9_gradeBy_19 : decode cX9_gradeBy 19 = .ok (.goto 15, 3) := by decide +kernel
theorem dX9_gradeBy_22 : decode cX9_gradeBy 22 = .ok (.iload_n 0, 1) := by decide +kernel
theorem dX9_gradeBy_23 : decode cX9_gradeBy 23 = .ok (.sipush 700, 3) := by decide +kernel
theorem dX9_gradeBy_26 : decode cX9_gradeBy 26 = .ok (.if_icmp .lt 7, 3) := by decide +kernel
theorem dX9_gradeBy_29 : decode cX9_gradeBy 29 = .ok (.iconst 2, 1) := by decide +kernel
theorem dX9_gradeBy_30 : decode cX9_gradeBy 30 = .ok (.goto 4, 3) := by decide +kernel
theorem dX9_gradeBy_33 : decode cX9_gradeBy 33 = .ok (.iconst 3, 1) := by decide +kernel
theorem dX9_gradeBy_34 : decode cX9_gradeBy 34 = .ok (.ireturn, 1) := by decide +kernel
set_option maxRecDepth 20000 in
theorem ggX9_grade_X9_baleAt : GoodIn wsX9_grade wsX9_baleAt := goodIn_r _ [5] (by decide +kernel) (by decide +kernel)
set_option maxRecDepth 20000 in
theorem gX9_grade_X9_baleAt : GoodIn wsX9_grade (va_wsS RX9 111 yX9_baleAt wsX9_baleAt) := goodIn_app (goodIn_of _ (by decide +kernel)) ggX9_grade_X9_baleAt
set_option maxRecDepth 20000 in
theorem ggX9_grade_X9_gradeBy : GoodIn wsX9_grade wsX9_gradeBy := goodIn_r _ [8] (by decide +kernel) (by decide +kernel)
set_option maxRecDepth 20000 in
theorem gX9_grade_X9_gradeBy : GoodIn wsX9_grade (va_wsS RX9 114 yX9_gradeBy wsX9_gradeBy) := goodIn_app (goodIn_of _ (by decide +kernel)) ggX9_grade_X9_gradeBy
theorem dX9_grade_0 : decode cX9_grade 0 = .ok (.aload_n 0, 1) := by decide +kernel
theorem dX9_grade_1 : decode cX9_grade 1 = .ok (.getfield 7, 3) := by decide +kernel
theorem dX9_grade_4 : decode cX9_grade 4 = .ok (.iload_n 1, 1) := by decide +kernel
theorem dX9_grade_5 : decode cX9_grade 5 = .ok (.bipush 6, 2) := by decide +kernel
theorem dX9_grade_7 : decode cX9_grade 7 = .ok (.invokestatic 111, 3) := by decide +kernel
theorem dX9_grade_10 : decode cX9_grade 10 = .ok (.iaload, 1) := by decide +kernel
theorem dX9_grade_11 : decode cX9_grade 11 = .ok (.invokestatic 114, 3) := by decide +kernel
theorem dX9_grade_14 : decode cX9_grade 14 = .ok (.ireturn, 1) := by decide +kernel
set_option maxRecDepth 20000 in
theorem ggX9_bales_X9_machineAt : GoodIn wsX9_bales wsX9_machineAt := goodIn_r _ [6] (by decide +kernel) (by decide +kernel)
set_option maxRecDepth 20000 in
theorem gX9_bales_X9_machineAt : GoodIn wsX9_bales (va_wsS RX9 77 yX9_machineAt wsX9_machineAt) := goodIn_app (goodIn_of _ (by decide +kernel)) ggX9_bales_X9_machineAt
set_option maxRecDepth 20000 in
theorem ggX9_bales_X9_takes : GoodIn wsX9_bales wsX9_takes := goodIn_ca (goodIn_ca (goodIn_r _ [10, 2, 1, 11, 12, 13, 5, 14, 15, 16, 17, 18, 34, 35, 36, 37, 38, 39, 40, 41, 42, 43, 44, 45, 46, 47, 48, 49, 50, 51, 52, 53, 54, 55] (by decide +kernel) (by decide +kernel)) (goodIn_sub (fun _ h => List.mem_cons_of_mem _ (List.mem_append_left _ (List.mem_append_right _ h))) (by decide +kernel))) (goodIn_sub (fun _ h => List.mem_cons_of_mem _ (List.mem_append_right _ h)) (by decide +kernel))
set_option maxRecDepth 20000 in
theorem gX9_bales_X9_takes : GoodIn wsX9_bales (wsV RX9 117 RX9 yX9_takes wsX9_takes) := goodIn_app (goodIn_of _ (by decide +kernel)) ggX9_bales_X9_takes
set_option maxRecDepth 20000 in
theorem ggX9_bales_X9_baleAt : GoodIn wsX9_bales wsX9_baleAt := goodIn_r _ [21] (by decide +kernel) (by decide +kernel)
set_option maxRecDepth 20000 in
theorem gX9_bales_X9_baleAt : GoodIn wsX9_bales (va_wsS RX9 111 yX9_baleAt wsX9_baleAt) := goodIn_app (goodIn_of _ (by decide +kernel)) ggX9_bales_X9_baleAt
set_option maxRecDepth 20000 in
theorem ggX9_bales_X9_samples : GoodIn wsX9_bales wsX9_samples := goodIn_ca (goodIn_ca (goodIn_r _ [25, 1, 26, 19, 20, 5, 21, 34, 35, 36, 37, 38, 39, 40, 41, 42, 43, 44, 45, 46, 47, 48, 49, 50, 51, 52, 53, 54, 55] (by decide +kernel) (by decide +kernel)) (goodIn_sub (fun _ h => List.mem_cons_of_mem _ (List.mem_append_left _ (List.mem_append_right _ h))) (by decide +kernel))) (goodIn_sub (fun _ h => List.mem_cons_of_mem _ (List.mem_append_right _ h)) (by decide +kernel))
set_option maxRecDepth 20000 in
theorem gX9_bales_X9_samples : GoodIn wsX9_bales (wsV RX9 121 RX9 yX9_samples wsX9_samples) := goodIn_app (goodIn_of _ (by decide +kernel)) ggX9_bales_X9_samples
set_option maxRecDepth 20000 in
theorem ggX9_bales_X9_grade : GoodIn wsX9_bales wsX9_grade := goodIn_ca (goodIn_r _ [30, 1, 19, 20, 5, 21, 31, 32, 33, 34, 35, 36, 37, 38, 39, 40, 41, 42, 43, 44, 45, 46, 47, 48, 49, 50, 51, 52, 53, 54, 55] (by decide +kernel) (by decide +kernel)) (goodIn_sub (fun _ h => List.mem_cons_of_mem _ (List.mem_append_left _ (List.mem_append_right _ h))) (by decide +kernel))
set_option maxRecDepth 20000 in
theorem gX9_bales_X9_grade : GoodIn wsX9_bales (wsV RX9 124 RX9 yX9_grade wsX9_grade) := goodIn_app (goodIn_of _ (by decide +kernel)) ggX9_bales_X9_grade
theorem dX9_bales_0 : decode cX9_bales 0 = .ok (.aload_n 0, 1) := by decide +kernel
theorem dX9_bales_1 : decode cX9_bales 1 = .ok (.iload_n 1, 1) := by decide +kernel
theorem dX9_bales_2 : decode cX9_bales 2 = .ok (.iconst 5, 1) := by decide +kernel
theorem dX9_bales_3 : decode cX9_bales 3 = .ok (.invokestatic 77, 3) := by decide +kernel
theorem dX9_bales_6 : decode cX9_bales 6 = .ok (.aload_n 0, 1) := by decide +kernel
theorem dX9_bales_7 : decode cX9_bales 7 = .ok (.getfield 7, 3) := by decide +kernel
theorem dX9_bales_10 : decode cX9_bales 10 = .ok (.bipush 8, 2) := by decide +kernel
theorem dX9_bales_12 : decode cX9_bales 12 = .ok (.iaload, 1) := by decide +kernel
theorem dX9_bales_13 : decode cX9_bales 13 = .ok (.invokevirtual 117, 3) := by decide +kernel
theorem dX9_bales_16 : decode cX9_bales 16 = .ok (.aload_n 0, 1) := by decide +kernel
theorem dX9_bales_17 : decode cX9_bales 17 = .ok (.getfield 7, 3) := by decide +kernel
theorem dX9_bales_20 : decode cX9_bales 20 = .ok (.iconst 2, 1) := by decide +kernel
theorem dX9_bales_21 : decode cX9_bales 21 = .ok (.iaload, 1) := by decide +kernel
theorem dX9_bales_22 : decode cX9_bales 22 = .ok (.istore_n 2, 1) := by decide +kernel
theorem dX9_bales_23 : decode cX9_bales 23 = .ok (.aload_n 0, 1) := by decide +kernel
theorem dX9_bales_24 : decode cX9_bales 24 = .ok (.getfield 7, 3) := by decide +kernel
theorem dX9_bales_27 : decode cX9_bales 27 = .ok (.iconst 2, 1) := by decide +kernel
theorem dX9_bales_28 : decode cX9_bales 28 = .ok (.dup2, 1) := by decide +kernel
theorem dX9_bales_29 : decode cX9_bales 29 = .ok (.iaload, 1) := by decide +kernel
theorem dX9_bales_30 : decode cX9_bales 30 = .ok (.iconst 1, 1) := by decide +kernel
theorem dX9_bales_31 : decode cX9_bales 31 = .ok (.iadd, 1) := by decide +kernel
theorem dX9_bales_32 : decode cX9_bales 32 = .ok (.iastore, 1) := by decide +kernel
theorem dX9_bales_33 : decode cX9_bales 33 = .ok (.aload_n 0, 1) := by decide +kernel
theorem dX9_bales_34 : decode cX9_bales 34 = .ok (.getfield 7, 3) := by decide +kernel
theorem dX9_bales_37 : decode cX9_bales 37 = .ok (.iload_n 1, 1) := by decide +kernel
theorem dX9_bales_38 : decode cX9_bales 38 = .ok (.bipush 10, 2) := by decide +kernel
theorem dX9_bales_40 : decode cX9_bales 40 = .ok (.invokestatic 77, 3) := by decide +kernel
theorem dX9_bales_43 : decode cX9_bales 43 = .ok (.dup2, 1) := by decide +kernel
theorem dX9_bales_44 : decode cX9_bales 44 = .ok (.iaload, 1) := by decide +kernel
theorem dX9_bales_45 : decode cX9_bales 45 = .ok (.iconst 1, 1) := by decide +kernel
theorem dX9_bales_46 : decode cX9_bales 46 = .ok (.iadd, 1) := by decide +kernel
theorem dX9_bales_47 : decode cX9_bales 47 = .ok (.iastore, 1) := by decide +kernel
theorem dX9_bales_48 : decode cX9_bales 48 = .ok (.iconst 0, 1) := by decide +kernel
theorem dX9_bales_49 : decode cX9_bales 49 = .ok (.istore_n 3, 1) := by decide +kernel
theorem dX9_bales_50 : decode cX9_bales 50 = .ok (.iload_n 3, 1) := by decide +kernel
theorem dX9_bales_51 : decode cX9_bales 51 = .ok (.iconst 5, 1) := by decide +kernel
theorem dX9_bales_52 : decode cX9_bales 52 = .ok (.if_icmp .ge 25, 3) := by decide +kernel
theorem dX9_bales_55 : decode cX9_bales 55 = .ok (.aload_n 0, 1) := by decide +kernel
theorem dX9_bales_56 : decode cX9_bales 56 = .ok (.getfield 7, 3) := by decide +kernel
theorem dX9_bales_59 : decode cX9_bales 59 = .ok (.iload_n 2, 1) := by decide +kernel
theorem dX9_bales_60 : decode cX9_bales 60 = .ok (.iload_n 3, 1) := by decide +kernel
theorem dX9_bales_61 : decode cX9_bales 61 = .ok (.invokestatic 111, 3) := by decide +kernel
theorem dX9_bales_64 : decode cX9_bales 64 = .ok (.aload_n 0, 1) := by decide +kernel
theorem dX9_bales_65 : decode cX9_bales 65 = .ok (.getfield 28, 3) := by decide +kernel
theorem dX9_bales_68 : decode cX9_bales 68 = .ok (.iload_n 3, 1) := by decide +kernel
theorem dX9_bales_69 : decode cX9_bales 69 = .ok (.iaload, 1) := by decide +kernel
theorem dX9_bales_70 : decode cX9_bales 70 = .ok (.iastore, 1) := by decide +kernel
theorem dX9_bales_71 : decode cX9_bales 71 = .ok (.iinc 3 1, 3) := by decide +kernel
theorem dX9_bales_74 : decode cX9_bales 74 = .ok (.goto (-24), 3) := by decide +kernel
theorem dX9_bales_77 : decode cX9_bales 77 = .ok (.aload_n 0, 1) := by decide +kernel
theorem dX9_bales_78 : decode cX9_bales 78 = .ok (.getfield 7, 3) := by decide +kernel
theorem dX9_bales_81 : decode cX9_bales 81 = .ok (.iload_n 2, 1) := by decide +kernel
theorem dX9_bales_82 : decode cX9_bales 82 = .ok (.iconst 5, 1) := by decide +kernel
theorem dX9_bales_83 : decode cX9_bales 83 = .ok (.invokestatic 111, 3) := by decide +kernel
theorem dX9_bales_86 : decode cX9_bales 86 = .ok (.aload_n 0, 1) := by decide +kernel
theorem dX9_bales_87 : decode cX9_bales 87 = .ok (.getfield 7, 3) := by decide +kernel
theorem dX9_bales_90 : decode cX9_bales 90 = .ok (.iload_n 1, 1) := by decide +kernel
theorem dX9_bales_91 : decode cX9_bales 91 = .ok (.iconst 0, 1) := by decide +kernel
theorem dX9_bales_92 : decode cX9_bales 92 = .ok (.invokestatic 77, 3) := by decide +kernel
theorem dX9_bales_95 : decode cX9_bales 95 = .ok (.iaload, 1) := by decide +kernel
theorem dX9_bales_96 : decode cX9_bales 96 = .ok (.iastore, 1) := by decide +kernel
theorem dX9_bales_97 : decode cX9_bales 97 = .ok (.aload_n 0, 1) := by decide +kernel
theorem dX9_bales_98 : decode cX9_bales 98 = .ok (.getfield 7, 3) := by decide +kernel
theorem dX9_bales_101 : decode cX9_bales 101 = .ok (.iload_n 2, 1) := by decide +kernel
theorem dX9_bales_102 : decode cX9_bales 102 = .ok (.bipush 6, 2) := by decide +kernel
theorem dX9_bales_104 : decode cX9_bales 104 = .ok (.invokestatic 111, 3) := by decide +kernel
theorem dX9_bales_107 : decode cX9_bales 107 = .ok (.aload_n 0, 1) := by decide +kernel
theorem dX9_bales_108 : decode cX9_bales 108 = .ok (.iload_n 2, 1) := by decide +kernel
theorem dX9_bales_109 : decode cX9_bales 109 = .ok (.aload_n 0, 1) := by decide +kernel
theorem dX9_bales_110 : decode cX9_bales 110 = .ok (.getfield 7, 3) := by decide +kernel
theorem dX9_bales_113 : decode cX9_bales 113 = .ok (.bipush 8, 2) := by decide +kernel
theorem dX9_bales_115 : decode cX9_bales 115 = .ok (.iaload, 1) := by decide +kernel
theorem dX9_bales_116 : decode cX9_bales 116 = .ok (.invokevirtual 121, 3) := by decide +kernel
theorem dX9_bales_119 : decode cX9_bales 119 = .ok (.iastore, 1) := by decide +kernel
theorem dX9_bales_120 : decode cX9_bales 120 = .ok (.aload_n 0, 1) := by decide +kernel
theorem dX9_bales_121 : decode cX9_bales 121 = .ok (.getfield 7, 3) := by decide +kernel
theorem dX9_bales_124 : decode cX9_bales 124 = .ok (.iload_n 2, 1) := by decide +kernel
theorem dX9_bales_125 : decode cX9_bales 125 = .ok (.bipush 7, 2) := by decide +kernel
theorem dX9_bales_127 : decode cX9_bales 127 = .ok (.invokestatic 111, 3) := by decide +kernel
theorem dX9_bales_130 : decode cX9_bales 130 = .ok (.iconst 0, 1) := by decide +kernel
theorem dX9_bales_131 : decode cX9_bales 131 = .ok (.iastore, 1) := by decide +kernel
theorem dX9_bales_132 : decode cX9_bales 132 = .ok (.aload_n 0, 1) := by decide +kernel
theorem dX9_bales_133 : decode cX9_bales 133 = .ok (.getfield 7, 3) := by decide +kernel
theorem dX9_bales_136 : decode cX9_bales 136 = .ok (.iload_n 2, 1) := by decide +kernel
theorem dX9_bales_137 : decode cX9_bales 137 = .ok (.bipush 8, 2) := by decide +kernel
theorem dX9_bales_139 : decode cX9_bales 139 = .ok (.invokestatic 111, 3) := by decide +kernel
theorem dX9_bales_142 : decode cX9_bales 142 = .ok (.iconst (-1), 1) := by decide +kernel
theorem dX9_bales_143 : decode cX9_bales 143 = .ok (.iastore, 1) := by decide +kernel
theorem dX9_bales_144 : decode cX9_bales 144 = .ok (.aload_n 0, 1) := by decide +kernel
theorem dX9_bales_145 : decode cX9_bales 145 = .ok (.getfield 7, 3) := by decide +kernel
theorem dX9_bales_148 : decode cX9_bales 148 = .ok (.bipush 10, 2) := by decide +kernel
theorem dX9_bales_150 : decode cX9_bales 150 = .ok (.iaload, 1) := by decide +kernel
theorem dX9_bales_151 : decode cX9_bales 151 = .ok (.iconst 1, 1) := by decide +kernel
theorem dX9_bales_152 : decode cX9_bales 152 = .ok (.if_icmp .ne 59, 3) := by decide +kernel
theorem dX9_bales_155 : decode cX9_bales 155 = .ok (.aload_n 0, 1) := by decide +kernel
theorem dX9_bales_156 : decode cX9_bales 156 = .ok (.iload_n 2, 1) := by decide +kernel
theorem dX9_bales_157 : decode cX9_bales 157 = .ok (.invokevirtual 124, 3) := by decide +kernel
theorem dX9_bales_160 : decode cX9_bales 160 = .ok (.iconst 3, 1) := by decide +kernel
theorem dX9_bales_161 : decode cX9_bales 161 = .ok (.if_icmp .ne 50, 3) := by decide +kernel
theorem dX9_bales_164 : decode cX9_bales 164 = .ok (.aload_n 0, 1) := by decide +kernel
theorem dX9_bales_165 : decode cX9_bales 165 = .ok (.getfield 7, 3) := by decide +kernel
theorem dX9_bales_168 : decode cX9_bales 168 = .ok (.iload_n 2, 1) := by decide +kernel
theorem dX9_bales_169 : decode cX9_bales 169 = .ok (.bipush 7, 2) := by decide +kernel
theorem dX9_bales_171 : decode cX9_bales 171 = .ok (.invokestatic 111, 3) := by decide +kernel
theorem dX9_bales_174 : decode cX9_bales 174 = .ok (.iconst 2, 1) := by decide +kernel
theorem dX9_bales_175 : decode cX9_bales 175 = .ok (.iastore, 1) := by decide +kernel
theorem dX9_bales_176 : decode cX9_bales 176 = .ok (.iconst 0, 1) := by decide +kernel
theorem dX9_bales_177 : decode cX9_bales 177 = .ok (.istore_n 3, 1) := by decide +kernel
theorem dX9_bales_178 : decode cX9_bales 178 = .ok (.iload_n 3, 1) := by decide +kernel
theorem dX9_bales_179 : decode cX9_bales 179 = .ok (.iconst 5, 1) := by decide +kernel
theorem dX9_bales_180 : decode cX9_bales 180 = .ok (.if_icmp .ge 31, 3) := by decide +kernel
theorem dX9_bales_183 : decode cX9_bales 183 = .ok (.aload_n 0, 1) := by decide +kernel
theorem dX9_bales_184 : decode cX9_bales 184 = .ok (.getfield 7, 3) := by decide +kernel
theorem dX9_bales_187 : decode cX9_bales 187 = .ok (.bipush 11, 2) := by decide +kernel
theorem dX9_bales_189 : decode cX9_bales 189 = .ok (.iload_n 3, 1) := by decide +kernel
theorem dX9_bales_190 : decode cX9_bales 190 = .ok (.iadd, 1) := by decide +kernel
theorem dX9_bales_191 : decode cX9_bales 191 = .ok (.dup2, 1) := by decide +kernel
theorem dX9_bales_192 : decode cX9_bales 192 = .ok (.iaload, 1) := by decide +kernel
theorem dX9_bales_193 : decode cX9_bales 193 = .ok (.aload_n 0, 1) := by decide +kernel
theorem dX9_bales_194 : decode cX9_bales 194 = .ok (.getfield 7, 3) := by decide +kernel
theorem dX9_bales_197 : decode cX9_bales 197 = .ok (.iload_n 2, 1) := by decide +kernel
theorem dX9_bales_198 : decode cX9_bales 198 = .ok (.iload_n 3, 1) := by decide +kernel
theorem dX9_bales_199 : decode cX9_bales 199 = .ok (.invokestatic 111, 3) := by decide +kernel
theorem dX9_bales_202 : decode cX9_bales 202 = .ok (.iaload, 1) := by decide +kernel
theorem dX9_bales_203 : decode cX9_bales 203 = .ok (.iadd, 1) := by decide +kernel
theorem dX9_bales_204 : decode cX9_bales 204 = .ok (.iastore, 1) := by decide +kernel
theorem dX9_bales_205 : decode cX9_bales 205 = .ok (.iinc 3 1, 3) := by decide +kernel
theorem dX9_bales_208 : decode cX9_bales 208 = .ok (.goto (-30), 3) := by decide +kernel
theorem dX9_bales_211 : decode cX9_bales 211 = .ok (.return_, 1) := by decide +kernel
set_option maxRecDepth 20000 in
theorem ggX9_passes_X9_sum : GoodIn wsX9_passes wsX9_sum := goodIn_ca (goodIn_r _ [8, 1, 51, 52, 53, 54, 55, 56, 57, 58, 59, 60, 61, 62, 63, 64, 65, 66, 67, 68, 69, 70, 71, 72] (by decide +kernel) (by decide +kernel)) (goodIn_sub (fun _ h => List.mem_cons_of_mem _ (List.mem_append_left _ (List.mem_append_right _ h))) (by decide +kernel))
set_option maxRecDepth 20000 in
theorem gX9_passes_X9_sum : GoodIn wsX9_passes (wsV RX9 81 RX9 yX9_sum wsX9_sum) := goodIn_app (goodIn_of _ (by decide +kernel)) ggX9_passes_X9_sum
set_option maxRecDepth 20000 in
theorem ggX9_passes_X9_takes : GoodIn wsX9_passes wsX9_takes := goodIn_ca (goodIn_ca (goodIn_r _ [12, 3, 1, 4, 5, 6, 7, 8, 13, 14, 15, 16, 51, 52, 53, 54, 55, 56, 57, 58, 59, 60, 61, 62, 63, 64, 65, 66, 67, 68, 69, 70, 71, 72] (by decide +kernel) (by decide +kernel)) (goodIn_sub (fun _ h => List.mem_cons_of_mem _ (List.mem_append_left _ (List.mem_append_right _ h))) (by decide +kernel))) (goodIn_sub (fun _ h => List.mem_cons_of_mem _ (List.mem_append_right _ h)) (by decide +kernel))
set_option maxRecDepth 20000 in
theorem gX9_passes_X9_takes : GoodIn wsX9_passes (wsV RX9 117 RX9 yX9_takes wsX9_takes) := goodIn_app (goodIn_of _ (by decide +kernel)) ggX9_passes_X9_takes
set_option maxRecDepth 20000 in
theorem ggX9_passes_X9_machineAt : GoodIn wsX9_passes wsX9_machineAt := goodIn_r _ [19] (by decide +kernel) (by decide +kernel)
set_option maxRecDepth 20000 in
theorem gX9_passes_X9_machineAt : GoodIn wsX9_passes (va_wsS RX9 77 yX9_machineAt wsX9_machineAt) := goodIn_app (goodIn_of _ (by decide +kernel)) ggX9_passes_X9_machineAt
set_option maxRecDepth 20000 in
theorem ggX9_passes_X9_catches : GoodIn wsX9_passes wsX9_catches := goodIn_ca (goodIn_r _ [23, 1, 17, 18, 7, 19, 24, 25, 26, 27, 51, 52, 53, 54, 55, 56, 57, 58, 59, 60, 61, 62, 63, 64, 65, 66, 67, 68, 69, 70, 71, 72] (by decide +kernel) (by decide +kernel)) (goodIn_sub (fun _ h => List.mem_cons_of_mem _ (List.mem_append_left _ (List.mem_append_right _ h))) (by decide +kernel))
set_option maxRecDepth 20000 in
theorem gX9_passes_X9_catches : GoodIn wsX9_passes (wsV RX9 94 RX9 yX9_catches wsX9_catches) := goodIn_app (goodIn_of _ (by decide +kernel)) ggX9_passes_X9_catches
set_option maxRecDepth 20000 in
theorem ggX9_passes_X9_mistakes : GoodIn wsX9_passes wsX9_mistakes := goodIn_ca (goodIn_r _ [31, 1, 17, 18, 7, 19, 24, 25, 26, 27, 51, 52, 53, 54, 55, 56, 57, 58, 59, 60, 61, 62, 63, 64, 65, 66, 67, 68, 69, 70, 71, 72] (by decide +kernel) (by decide +kernel)) (goodIn_sub (fun _ h => List.mem_cons_of_mem _ (List.mem_append_left _ (List.mem_append_right _ h))) (by decide +kernel))
set_option maxRecDepth 20000 in
theorem gX9_passes_X9_mistakes : GoodIn wsX9_passes (wsV RX9 91 RX9 yX9_mistakes wsX9_mistakes) := goodIn_app (goodIn_of _ (by decide +kernel)) ggX9_passes_X9_mistakes
set_option maxRecDepth 20000 in
theorem ggX9_passes_X9_bales : GoodIn wsX9_passes wsX9_bales := goodIn_ca (goodIn_ca (goodIn_r _ [35, 1, 3, 17, 18, 7, 19, 9, 10, 11, 12, 4, 5, 6, 8, 13, 14, 15, 16, 36, 37, 38, 39, 40, 41, 42, 43, 44, 45, 46, 47, 48, 49, 50, 51, 52, 53, 54, 55, 56, 57, 58, 59, 60, 61, 62, 63, 64, 65, 66, 67, 68, 69, 70, 71, 72] (by decide +kernel) (by decide +kernel)) (goodIn_sub (fun _ h => List.mem_cons_of_mem _ (List.mem_append_left _ (List.mem_append_right _ h))) (by decide +kernel))) (goodIn_sub (fun _ h => List.mem_cons_of_mem _ (List.mem_append_right _ h)) (by decide +kernel))
set_option maxRecDepth 20000 in
theorem gX9_passes_X9_bales : GoodIn wsX9_passes (wsV RX9 127 RX9 yX9_bales wsX9_bales) := goodIn_app (goodIn_of _ (by decide +kernel)) ggX9_passes_X9_bales
theorem dX9_passes_0 : decode cX9_passes 0 = .ok (.aload_n 0, 1) := by decide +kernel
theorem dX9_passes_1 : decode cX9_passes 1 = .ok (.bipush 11, 2) := by decide +kernel
theorem dX9_passes_3 : decode cX9_passes 3 = .ok (.invokevirtual 81, 3) := by decide +kernel
theorem dX9_passes_6 : decode cX9_passes 6 = .ok (.istore_n 1, 1) := by decide +kernel
theorem dX9_passes_7 : decode cX9_passes 7 = .ok (.aload_n 0, 1) := by decide +kernel
theorem dX9_passes_8 : decode cX9_passes 8 = .ok (.bipush 11, 2) := by decide +kernel
theorem dX9_passes_10 : decode cX9_passes 10 = .ok (.iload_n 1, 1) := by decide +kernel
theorem dX9_passes_11 : decode cX9_passes 11 = .ok (.aload_n 0, 1) := by decide +kernel
theorem dX9_passes_12 : decode cX9_passes 12 = .ok (.getfield 7, 3) := by decide +kernel
theorem dX9_passes_15 : decode cX9_passes 15 = .ok (.bipush 6, 2) := by decide +kernel
theorem dX9_passes_17 : decode cX9_passes 17 = .ok (.iaload, 1) := by decide +kernel
theorem dX9_passes_18 : decode cX9_passes 18 = .ok (.if_icmp .ge 7, 3) := by decide +kernel
theorem dX9_passes_21 : decode cX9_passes 21 = .ok (.iload_n 1, 1) := by decide +kernel
theorem dX9_passes_22 : decode cX9_passes 22 = .ok (.goto 10, 3) := by decide +kernel
theorem dX9_passes_25 : decode cX9_passes 25 = .ok (.aload_n 0, 1) := by decide +kernel
theorem dX9_passes_26 : decode cX9_passes 26 = .ok (.getfield 7, 3) := by decide +kernel
theorem dX9_passes_29 : decode cX9_passes 29 = .ok (.bipush 6, 2) := by decide +kernel
theorem dX9_passes_31 : decode cX9_passes 31 = .ok (.iaload, 1) := by decide +kernel
theorem dX9_passes_32 : decode cX9_passes 32 = .ok (.invokevirtual 117, 3) := by decide +kernel
theorem dX9_passes_35 : decode cX9_passes 35 = .ok (.iconst 0, 1) := by decide +kernel
theorem dX9_passes_36 : decode cX9_passes 36 = .ok (.istore_n 2, 1) := by decide +kernel
theorem dX9_passes_37 : decode cX9_passes 37 = .ok (.iload_n 2, 1) := by decide +kernel
theorem dX9_passes_38 : decode cX9_passes 38 = .ok (.iconst 5, 1) := by decide +kernel
theorem dX9_passes_39 : decode cX9_passes 39 = .ok (.if_icmp .ge 21, 3) := by decide +kernel
theorem dX9_passes_42 : decode cX9_passes 42 = .ok (.aload_n 0, 1) := by decide +kernel
theorem dX9_passes_43 : decode cX9_passes 43 = .ok (.getfield 31, 3) := by decide +kernel
theorem dX9_passes_46 : decode cX9_passes 46 = .ok (.iload_n 2, 1) := by decide +kernel
theorem dX9_passes_47 : decode cX9_passes 47 = .ok (.aload_n 0, 1) := by decide +kernel
theorem dX9_passes_48 : decode cX9_passes 48 = .ok (.getfield 28, 3) := by decide +kernel
theorem dX9_passes_51 : decode cX9_passes 51 = .ok (.iload_n 2, 1) := by decide +kernel
theorem dX9_passes_52 : decode cX9_passes 52 = .ok (.iaload, 1) := by decide +kernel
theorem dX9_passes_53 : decode cX9_passes 53 = .ok (.iastore, 1) := by decide +kernel
theorem dX9_passes_54 : decode cX9_passes 54 = .ok (.iinc 2 1, 3) := by decide +kernel
theorem dX9_passes_57 : decode cX9_passes 57 = .ok (.goto (-20), 3) := by decide +kernel
theorem dX9_passes_60 : decode cX9_passes 60 = .ok (.iconst 0, 1) := by decide +kernel
theorem dX9_passes_61 : decode cX9_passes 61 = .ok (.istore_n 2, 1) := by decide +kernel
theorem dX9_passes_62 : decode cX9_passes 62 = .ok (.iload_n 2, 1) := by decide +kernel
theorem dX9_passes_63 : decode cX9_passes 63 = .ok (.aload_n 0, 1) := by decide +kernel
theorem dX9_passes_64 : decode cX9_passes 64 = .ok (.getfield 7, 3) := by decide +kernel
theorem dX9_passes_67 : decode cX9_passes 67 = .ok (.iconst 0, 1) := by decide +kernel
theorem dX9_passes_68 : decode cX9_passes 68 = .ok (.iaload, 1) := by decide +kernel
theorem dX9_passes_69 : decode cX9_passes 69 = .ok (.if_icmp .ge 132, 3) := by decide +kernel
theorem dX9_passes_72 : decode cX9_passes 72 = .ok (.aload_n 0, 1) := by decide +kernel
theorem dX9_passes_73 : decode cX9_passes 73 = .ok (.getfield 31, 3) := by decide +kernel
theorem dX9_passes_76 : decode cX9_passes 76 = .ok (.iconst 0, 1) := by decide +kernel
theorem dX9_passes_77 : decode cX9_passes 77 = .ok (.iaload, 1) := by decide +kernel
theorem dX9_passes_78 : decode cX9_passes 78 = .ok (.aload_n 0, 1) := by decide +kernel
theorem dX9_passes_79 : decode cX9_passes 79 = .ok (.getfield 31, 3) := by decide +kernel
theorem dX9_passes_82 : decode cX9_passes 82 = .ok (.iconst 1, 1) := by decide +kernel
theorem dX9_passes_83 : decode cX9_passes 83 = .ok (.iaload, 1) := by decide +kernel
theorem dX9_passes_84 : decode cX9_passes 84 = .ok (.iadd, 1) := by decide +kernel
theorem dX9_passes_85 : decode cX9_passes 85 = .ok (.aload_n 0, 1) := by decide +kernel
theorem dX9_passes_86 : decode cX9_passes 86 = .ok (.getfield 31, 3) := by decide +kernel
theorem dX9_passes_89 : decode cX9_passes 89 = .ok (.iconst 2, 1) := by decide +kernel
theorem dX9_passes_90 : decode cX9_passes 90 = .ok (.iaload, 1) := by decide +kernel
theorem dX9_passes_91 : decode cX9_passes 91 = .ok (.iadd, 1) := by decide +kernel
theorem dX9_passes_92 : decode cX9_passes 92 = .ok (.aload_n 0, 1) := by decide +kernel
theorem dX9_passes_93 : decode cX9_passes 93 = .ok (.getfield 31, 3) := by decide +kernel
theorem dX9_passes_96 : decode cX9_passes 96 = .ok (.iconst 3, 1) := by decide +kernel
theorem dX9_passes_97 : decode cX9_passes 97 = .ok (.iaload, 1) := by decide +kernel
theorem dX9_passes_98 : decode cX9_passes 98 = .ok (.iadd, 1) := by decide +kernel
theorem dX9_passes_99 : decode cX9_passes 99 = .ok (.aload_n 0, 1) := by decide +kernel
theorem dX9_passes_100 : decode cX9_passes 100 = .ok (.getfield 31, 3) := by decide +kernel
theorem dX9_passes_103 : decode cX9_passes 103 = .ok (.iconst 4, 1) := by decide +kernel
theorem dX9_passes_104 : decode cX9_passes 104 = .ok (.iaload, 1) := by decide +kernel
theorem dX9_passes_105 : decode cX9_passes 105 = .ok (.iadd, 1) := by decide +kernel
theorem dX9_passes_106 : decode cX9_passes 106 = .ok (.istore_n 3, 1) := by decide +kernel
theorem dX9_passes_107 : decode cX9_passes 107 = .ok (.iconst 0, 1) := by decide +kernel
theorem dX9_passes_108 : decode cX9_passes 108 = .ok (.istore 4, 2) := by decide +kernel
theorem dX9_passes_110 : decode cX9_passes 110 = .ok (.iload 4, 2) := by decide +kernel
theorem dX9_passes_112 : decode cX9_passes 112 = .ok (.iconst 5, 1) := by decide +kernel
theorem dX9_passes_113 : decode cX9_passes 113 = .ok (.if_icmp .ge 82, 3) := by decide +kernel
theorem dX9_passes_116 : decode cX9_passes 116 = .ok (.aload_n 0, 1) := by decide +kernel
theorem dX9_passes_117 : decode cX9_passes 117 = .ok (.getfield 31, 3) := by decide +kernel
theorem dX9_passes_120 : decode cX9_passes 120 = .ok (.iload 4, 2) := by decide +kernel
theorem dX9_passes_122 : decode cX9_passes 122 = .ok (.iaload, 1) := by decide +kernel
theorem dX9_passes_123 : decode cX9_passes 123 = .ok (.iload 4, 2) := by decide +kernel
theorem dX9_passes_125 : decode cX9_passes 125 = .ok (.aload_n 0, 1) := by decide +kernel
theorem dX9_passes_126 : decode cX9_passes 126 = .ok (.getfield 7, 3) := by decide +kernel
theorem dX9_passes_129 : decode cX9_passes 129 = .ok (.iload_n 2, 1) := by decide +kernel
theorem dX9_passes_130 : decode cX9_passes 130 = .ok (.iconst 0, 1) := by decide +kernel
theorem dX9_passes_131 : decode cX9_passes 131 = .ok (.invokestatic 77, 3) := by decide +kernel
theorem dX9_passes_134 : decode cX9_passes 134 = .ok (.iaload, 1) := by decide +kernel
theorem dX9_passes_135 : decode cX9_passes 135 = .ok (.if_icmp .ne 12, 3) := by decide +kernel
theorem dX9_passes_138 : decode cX9_passes 138 = .ok (.aload_n 0, 1) := by decide +kernel
theorem dX9_passes_139 : decode cX9_passes 139 = .ok (.iload_n 2, 1) := by decide +kernel
theorem dX9_passes_140 : decode cX9_passes 140 = .ok (.iload_n 3, 1) := by decide +kernel
theorem dX9_passes_141 : decode cX9_passes 141 = .ok (.invokevirtual 94, 3) := by decide +kernel
theorem dX9_passes_144 : decode cX9_passes 144 = .ok (.goto 9, 3) := by decide +kernel
theorem dX9_passes_147 : decode cX9_passes 147 = .ok (.aload_n 0, 1) := by decide +kernel
theorem dX9_passes_148 : decode cX9_passes 148 = .ok (.iload_n 2, 1) := by decide +kernel
theorem dX9_passes_149 : decode cX9_passes 149 = .ok (.iload_n 3, 1) := by decide +kernel
theorem dX9_passes_150 : decode cX9_passes 150 = .ok (.invokevirtual 91, 3) := by decide +kernel
theorem dX9_passes_153 : decode cX9_passes 153 = .ok (.imul, 1) := by decide +kernel
theorem dX9_passes_154 : decode cX9_passes 154 = .ok (.bipush 100, 2) := by decide +kernel
theorem dX9_passes_156 : decode cX9_passes 156 = .ok (.idiv, 1) := by decide +kernel
theorem dX9_passes_157 : decode cX9_passes 157 = .ok (.istore 5, 2) := by decide +kernel
theorem dX9_passes_159 : decode cX9_passes 159 = .ok (.aload_n 0, 1) := by decide +kernel
theorem dX9_passes_160 : decode cX9_passes 160 = .ok (.getfield 7, 3) := by decide +kernel
theorem dX9_passes_163 : decode cX9_passes 163 = .ok (.iload_n 2, 1) := by decide +kernel
theorem dX9_passes_164 : decode cX9_passes 164 = .ok (.iconst 5, 1) := by decide +kernel
theorem dX9_passes_165 : decode cX9_passes 165 = .ok (.iload 4, 2) := by decide +kernel
theorem dX9_passes_167 : decode cX9_passes 167 = .ok (.iadd, 1) := by decide +kernel
theorem dX9_passes_168 : decode cX9_passes 168 = .ok (.invokestatic 77, 3) := by decide +kernel
theorem dX9_passes_171 : decode cX9_passes 171 = .ok (.dup2, 1) := by decide +kernel
theorem dX9_passes_172 : decode cX9_passes 172 = .ok (.iaload, 1) := by decide +kernel
theorem dX9_passes_173 : decode cX9_passes 173 = .ok (.iload 5, 2) := by decide +kernel
theorem dX9_passes_175 : decode cX9_passes 175 = .ok (.iadd, 1) := by decide +kernel
theorem dX9_passes_176 : decode cX9_passes 176 = .ok (.iastore, 1) := by decide +kernel
theorem dX9_passes_177 : decode cX9_passes 177 = .ok (.aload_n 0, 1) := by decide +kernel
theorem dX9_passes_178 : decode cX9_passes 178 = .ok (.getfield 31, 3) := by decide +kernel
theorem dX9_passes_181 : decode cX9_passes 181 = .ok (.iload 4, 2) := by decide +kernel
theorem dX9_passes_183 : decode cX9_passes 183 = .ok (.dup2, 1) := by decide +kernel
theorem dX9_passes_184 : decode cX9_passes 184 = .ok (.iaload, 1) := by decide +kernel
theorem dX9_passes_185 : decode cX9_passes 185 = .ok (.iload 5, 2) := by decide +kernel
theorem dX9_passes_187 : decode cX9_passes 187 = .ok (.isub, 1) := by decide +kernel
theorem dX9_passes_188 : decode cX9_passes 188 = .ok (.iastore, 1) := by decide +kernel
theorem dX9_passes_189 : decode cX9_passes 189 = .ok (.iinc 4 1, 3) := by decide +kernel
theorem dX9_passes_192 : decode cX9_passes 192 = .ok (.goto (-82), 3) := by decide +kernel
theorem dX9_passes_195 : decode cX9_passes 195 = .ok (.iinc 2 1, 3) := by decide +kernel
theorem dX9_passes_198 : decode cX9_passes 198 = .ok (.goto (-136), 3) := by decide +kernel
theorem dX9_passes_201 : decode cX9_passes 201 = .ok (.iconst 0, 1) := by decide +kernel
theorem dX9_passes_202 : decode cX9_passes 202 = .ok (.istore_n 2, 1) := by decide +kernel
theorem dX9_passes_203 : decode cX9_passes 203 = .ok (.iload_n 2, 1) := by decide +kernel
theorem dX9_passes_204 : decode cX9_passes 204 = .ok (.iconst 5, 1) := by decide +kernel
theorem dX9_passes_205 : decode cX9_passes 205 = .ok (.if_icmp .ge 60, 3) := by decide +kernel
theorem dX9_passes_208 : decode cX9_passes 208 = .ok (.aload_n 0, 1) := by decide +kernel
theorem dX9_passes_209 : decode cX9_passes 209 = .ok (.getfield 31, 3) := by decide +kernel
theorem dX9_passes_212 : decode cX9_passes 212 = .ok (.iload_n 2, 1) := by decide +kernel
theorem dX9_passes_213 : decode cX9_passes 213 = .ok (.iaload, 1) := by decide +kernel
theorem dX9_passes_214 : decode cX9_passes 214 = .ok (.aload_n 0, 1) := by decide +kernel
theorem dX9_passes_215 : decode cX9_passes 215 = .ok (.getfield 7, 3) := by decide +kernel
theorem dX9_passes_218 : decode cX9_passes 218 = .ok (.bipush 7, 2) := by decide +kernel
theorem dX9_passes_220 : decode cX9_passes 220 = .ok (.iaload, 1) := by decide +kernel
theorem dX9_passes_221 : decode cX9_passes 221 = .ok (.imul, 1) := by decide +kernel
theorem dX9_passes_222 : decode cX9_passes 222 = .ok (.bipush 100, 2) := by decide +kernel
theorem dX9_passes_224 : decode cX9_passes 224 = .ok (.idiv, 1) := by decide +kernel
theorem dX9_passes_225 : decode cX9_passes 225 = .ok (.istore_n 3, 1) := by decide +kernel
theorem dX9_passes_226 : decode cX9_passes 226 = .ok (.aload_n 0, 1) := by decide +kernel
theorem dX9_passes_227 : decode cX9_passes 227 = .ok (.getfield 7, 3) := by decide +kernel
theorem dX9_passes_230 : decode cX9_passes 230 = .ok (.bipush 11, 2) := by decide +kernel
theorem dX9_passes_232 : decode cX9_passes 232 = .ok (.iload_n 2, 1) := by decide +kernel
theorem dX9_passes_233 : decode cX9_passes 233 = .ok (.iadd, 1) := by decide +kernel
theorem dX9_passes_234 : decode cX9_passes 234 = .ok (.dup2, 1) := by decide +kernel
theorem dX9_passes_235 : decode cX9_passes 235 = .ok (.iaload, 1) := by decide +kernel
theorem dX9_passes_236 : decode cX9_passes 236 = .ok (.iload_n 3, 1) := by decide +kernel
theorem dX9_passes_237 : decode cX9_passes 237 = .ok (.iadd, 1) := by decide +kernel
theorem dX9_passes_238 : decode cX9_passes 238 = .ok (.iastore, 1) := by decide +kernel
theorem dX9_passes_239 : decode cX9_passes 239 = .ok (.aload_n 0, 1) := by decide +kernel
theorem dX9_passes_240 : decode cX9_passes 240 = .ok (.getfield 7, 3) := by decide +kernel
theorem dX9_passes_243 : decode cX9_passes 243 = .ok (.bipush 16, 2) := by decide +kernel
theorem dX9_passes_245 : decode cX9_passes 245 = .ok (.iload_n 2, 1) := by decide +kernel
theorem dX9_passes_246 : decode cX9_passes 246 = .ok (.iadd, 1) := by decide +kernel
theorem dX9_passes_247 : decode cX9_passes 247 = .ok (.dup2, 1) := by decide +kernel
theorem dX9_passes_248 : decode cX9_passes 248 = .ok (.iaload, 1) := by decide +kernel
theorem dX9_passes_249 : decode cX9_passes 249 = .ok (.aload_n 0, 1) := by decide +kernel
theorem dX9_passes_250 : decode cX9_passes 250 = .ok (.getfield 31, 3) := by decide +kernel
theorem dX9_passes_253 : decode cX9_passes 253 = .ok (.iload_n 2, 1) := by decide +kernel
theorem dX9_passes_254 : decode cX9_passes 254 = .ok (.iaload, 1) := by decide +kernel
theorem dX9_passes_255 : decode cX9_passes 255 = .ok (.iload_n 3, 1) := by decide +kernel
theorem dX9_passes_256 : decode cX9_passes 256 = .ok (.isub, 1) := by decide +kernel
theorem dX9_passes_257 : decode cX9_passes 257 = .ok (.iadd, 1) := by decide +kernel
theorem dX9_passes_258 : decode cX9_passes 258 = .ok (.iastore, 1) := by decide +kernel
theorem dX9_passes_259 : decode cX9_passes 259 = .ok (.iinc 2 1, 3) := by decide +kernel
theorem dX9_passes_262 : decode cX9_passes 262 = .ok (.goto (-59), 3) := by decide +kernel
theorem dX9_passes_265 : decode cX9_passes 265 = .ok (.iconst 0, 1) := by decide +kernel
theorem dX9_passes_266 : decode cX9_passes 266 = .ok (.istore_n 2, 1) := by decide +kernel
theorem dX9_passes_267 : decode cX9_passes 267 = .ok (.iload_n 2, 1) := by decide +kernel
theorem dX9_passes_268 : decode cX9_passes 268 = .ok (.aload_n 0, 1) := by decide +kernel
theorem dX9_passes_269 : decode cX9_passes 269 = .ok (.getfield 7, 3) := by decide +kernel
theorem dX9_passes_272 : decode cX9_passes 272 = .ok (.iconst 0, 1) := by decide +kernel
theorem dX9_passes_273 : decode cX9_passes 273 = .ok (.iaload, 1) := by decide +kernel
theorem dX9_passes_274 : decode cX9_passes 274 = .ok (.if_icmp .ge 47, 3) := by decide +kernel
theorem dX9_passes_277 : decode cX9_passes 277 = .ok (.aload_n 0, 1) := by decide +kernel
theorem dX9_passes_278 : decode cX9_passes 278 = .ok (.iload_n 2, 1) := by decide +kernel
theorem dX9_passes_279 : decode cX9_passes 279 = .ok (.iconst 5, 1) := by decide +kernel
theorem dX9_passes_280 : decode cX9_passes 280 = .ok (.invokestatic 77, 3) := by decide +kernel
theorem dX9_passes_283 : decode cX9_passes 283 = .ok (.invokevirtual 81, 3) := by decide +kernel
theorem dX9_passes_286 : decode cX9_passes 286 = .ok (.aload_n 0, 1) := by decide +kernel
theorem dX9_passes_287 : decode cX9_passes 287 = .ok (.getfield 7, 3) := by decide +kernel
theorem dX9_passes_290 : decode cX9_passes 290 = .ok (.bipush 8, 2) := by decide +kernel
theorem dX9_passes_292 : decode cX9_passes 292 = .ok (.iaload, 1) := by decide +kernel
theorem dX9_passes_293 : decode cX9_passes 293 = .ok (.if_icmp .lt 22, 3) := by decide +kernel
theorem dX9_passes_296 : decode cX9_passes 296 = .ok (.aload_n 0, 1) := by decide +kernel
theorem dX9_passes_297 : decode cX9_passes 297 = .ok (.getfield 7, 3) := by decide +kernel
theorem dX9_passes_300 : decode cX9_passes 300 = .ok (.iconst 2, 1) := by decide +kernel
theorem dX9_passes_301 : decode cX9_passes 301 = .ok (.iaload, 1) := by decide +kernel
theorem dX9_passes_302 : decode cX9_passes 302 = .ok (.bipush 60, 2) := by decide +kernel
theorem dX9_passes_304 : decode cX9_passes 304 = .ok (.if_icmp .ge 11, 3) := by decide +kernel
theorem dX9_passes_307 : decode cX9_passes 307 = .ok (.aload_n 0, 1) := by decide +kernel
theorem dX9_passes_308 : decode cX9_passes 308 = .ok (.iload_n 2, 1) := by decide +kernel
theorem dX9_passes_309 : decode cX9_passes 309 = .ok (.invokevirtual 127, 3) := by decide +kernel
theorem dX9_passes_312 : decode cX9_passes 312 = .ok (.goto (-35), 3) := by decide +kernel
theorem dX9_passes_315 : decode cX9_passes 315 = .ok (.iinc 2 1, 3) := by decide +kernel
theorem dX9_passes_318 : decode cX9_passes 318 = .ok (.goto (-51), 3) := by decide +kernel
theorem dX9_passes_321 : decode cX9_passes 321 = .ok (.aload_n 0, 1) := by decide +kernel
theorem dX9_passes_322 : decode cX9_passes 322 = .ok (.getfield 7, 3) := by decide +kernel
theorem dX9_passes_325 : decode cX9_passes 325 = .ok (.iconst 4, 1) := by decide +kernel
theorem dX9_passes_326 : decode cX9_passes 326 = .ok (.dup2, 1) := by decide +kernel
theorem dX9_passes_327 : decode cX9_passes 327 = .ok (.iaload, 1) := by decide +kernel
theorem dX9_passes_328 : decode cX9_passes 328 = .ok (.iconst 1, 1) := by decide +kernel
theorem dX9_passes_329 : decode cX9_passes 329 = .ok (.iadd, 1) := by decide +kernel
theorem dX9_passes_330 : decode cX9_passes 330 = .ok (.iastore, 1) := by decide +kernel
theorem dX9_passes_331 : decode cX9_passes 331 = .ok (.return_, 1) := by decide +kernel
set_option maxRecDepth 20000 in
theorem ggX9_goesOn_X9_copies : GoodIn wsX9_goesOn wsX9_copies := goodIn_ca (goodIn_r _ [6] (by decide +kernel) (by decide +kernel)) (goodIn_sub (fun _ h => List.mem_cons_of_mem _ (List.mem_append_left _ (List.mem_append_right _ h))) (by decide +kernel))
set_option maxRecDepth 20000 in
theorem gX9_goesOn_X9_copies : GoodIn wsX9_goesOn (va_wsS RX9 57 yX9_copies wsX9_copies) := goodIn_app (goodIn_of _ (by decide +kernel)) ggX9_goesOn_X9_copies
set_option maxRecDepth 20000 in
theorem ggX9_goesOn_X9_passes : GoodIn wsX9_goesOn wsX9_passes := goodIn_ca (goodIn_ca (goodIn_r _ [10, 1, 11, 12, 13, 14, 15, 5, 16, 17, 18, 19, 20, 21, 22, 23, 24, 25, 26, 27, 28, 29, 30, 31, 32, 33, 34, 35, 36, 37, 38, 39, 40, 41, 42, 43, 44, 45, 46, 47, 48, 49, 50, 51, 52, 53, 54, 55, 56, 57, 58, 59, 60, 61, 62, 63, 64, 65, 66, 67, 68, 69, 70, 71, 72, 73, 74, 75, 76, 77, 78, 79, 80] (by decide +kernel) (by decide +kernel)) (goodIn_sub (fun _ h => List.mem_cons_of_mem _ (List.mem_append_left _ (List.mem_append_right _ h))) (by decide +kernel))) (goodIn_sub (fun _ h => List.mem_cons_of_mem _ (List.mem_append_right _ h)) (by decide +kernel))
set_option maxRecDepth 20000 in
theorem gX9_goesOn_X9_passes : GoodIn wsX9_goesOn (wsV RX9 131 RX9 yX9_passes wsX9_passes) := goodIn_app (goodIn_of _ (by decide +kernel)) ggX9_goesOn_X9_passes
set_option maxRecDepth 20000 in
theorem ggX9_goesOn_X9_machineAt : GoodIn wsX9_goesOn wsX9_machineAt := goodIn_r _ [27] (by decide +kernel) (by decide +kernel)
set_option maxRecDepth 20000 in
theorem gX9_goesOn_X9_machineAt : GoodIn wsX9_goesOn (va_wsS RX9 77 yX9_machineAt wsX9_machineAt) := goodIn_app (goodIn_of _ (by decide +kernel)) ggX9_goesOn_X9_machineAt
theorem dX9_goesOn_0 : decode cX9_goesOn 0 = .ok (.aload_n 0, 1) := by decide +kernel
theorem dX9_goesOn_1 : decode cX9_goesOn 1 = .ok (.getfield 7, 3) := by decide +kernel
theorem dX9_goesOn_4 : decode cX9_goesOn 4 = .ok (.iconst 0, 1) := by decide +kernel
theorem dX9_goesOn_5 : decode cX9_goesOn 5 = .ok (.aload_n 0, 1) := by decide +kernel
theorem dX9_goesOn_6 : decode cX9_goesOn 6 = .ok (.getfield 19, 3) := by decide +kernel
theorem dX9_goesOn_9 : decode cX9_goesOn 9 = .ok (.iconst 0, 1) := by decide +kernel
theorem dX9_goesOn_10 : decode cX9_goesOn 10 = .ok (.invokestatic 57, 3) := by decide +kernel
theorem dX9_goesOn_13 : decode cX9_goesOn 13 = .ok (.aload_n 0, 1) := by decide +kernel
theorem dX9_goesOn_14 : decode cX9_goesOn 14 = .ok (.invokevirtual 131, 3) := by decide +kernel
theorem dX9_goesOn_17 : decode cX9_goesOn 17 = .ok (.aload_n 0, 1) := by decide +kernel
theorem dX9_goesOn_18 : decode cX9_goesOn 18 = .ok (.getfield 7, 3) := by decide +kernel
theorem dX9_goesOn_21 : decode cX9_goesOn 21 = .ok (.iconst 2, 1) := by decide +kernel
theorem dX9_goesOn_22 : decode cX9_goesOn 22 = .ok (.iaload, 1) := by decide +kernel
theorem dX9_goesOn_23 : decode cX9_goesOn 23 = .ok (.aload_n 0, 1) := by decide +kernel
theorem dX9_goesOn_24 : decode cX9_goesOn 24 = .ok (.getfield 19, 3) := by decide +kernel
theorem dX9_goesOn_27 : decode cX9_goesOn 27 = .ok (.iconst 2, 1) := by decide +kernel
theorem dX9_goesOn_28 : decode cX9_goesOn 28 = .ok (.iaload, 1) := by decide +kernel
theorem dX9_goesOn_29 : decode cX9_goesOn 29 = .ok (.if_icmp .eq 7, 3) := by decide +kernel
theorem dX9_goesOn_32 : decode cX9_goesOn 32 = .ok (.iconst 1, 1) := by decide +kernel
theorem dX9_goesOn_33 : decode cX9_goesOn 33 = .ok (.goto 4, 3) := by decide +kernel
theorem dX9_goesOn_36 : decode cX9_goesOn 36 = .ok (.iconst 0, 1) := by decide +kernel
theorem dX9_goesOn_37 : decode cX9_goesOn 37 = .ok (.istore_n 1, 1) := by decide +kernel
theorem dX9_goesOn_38 : decode cX9_goesOn 38 = .ok (.bipush 11, 2) := by decide +kernel
theorem dX9_goesOn_40 : decode cX9_goesOn 40 = .ok (.istore_n 2, 1) := by decide +kernel
theorem dX9_goesOn_41 : decode cX9_goesOn 41 = .ok (.iload_n 2, 1) := by decide +kernel
theorem dX9_goesOn_42 : decode cX9_goesOn 42 = .ok (.bipush 21, 2) := by decide +kernel
theorem dX9_goesOn_44 : decode cX9_goesOn 44 = .ok (.if_icmp .ge 34, 3) := by decide +kernel
theorem dX9_goesOn_47 : decode cX9_goesOn 47 = .ok (.iload_n 1, 1) := by decide +kernel
theorem dX9_goesOn_48 : decode cX9_goesOn 48 = .ok (.ifCond .ne 18, 3) := by decide +kernel
theorem dX9_goesOn_51 : decode cX9_goesOn 51 = .ok (.aload_n 0, 1) := by decide +kernel
theorem dX9_goesOn_52 : decode cX9_goesOn 52 = .ok (.getfield 7, 3) := by decide +kernel
theorem dX9_goesOn_55 : decode cX9_goesOn 55 = .ok (.iload_n 2, 1) := by decide +kernel
theorem dX9_goesOn_56 : decode cX9_goesOn 56 = .ok (.iaload, 1) := by decide +kernel
theorem dX9_goesOn_57 : decode cX9_goesOn 57 = .ok (.aload_n 0, 1) := by decide +kernel
theorem dX9_goesOn_58 : decode cX9_goesOn 58 = .ok (.getfield 19, 3) := by decide +kernel
theorem dX9_goesOn_61 : decode cX9_goesOn 61 = .ok (.iload_n 2, 1) := by decide +kernel
theorem dX9_goesOn_62 : decode cX9_goesOn 62 = .ok (.iaload, 1) := by decide +kernel
theorem dX9_goesOn_63 : decode cX9_goesOn 63 = .ok (.if_icmp .eq 7, 3) := by decide +kernel
theorem dX9_goesOn_66 : decode cX9_goesOn 66 = .ok (.iconst 1, 1) := by decide +kernel
theorem dX9_goesOn_67 : decode cX9_goesOn 67 = .ok (.goto 4, 3) := by decide +kernel
theorem dX9_goesOn_70 : decode cX9_goesOn 70 = .ok (.iconst 0, 1) := by decide +kernel
theorem dX9_goesOn_71 : decode cX9_goesOn 71 = .ok (.istore_n 1, 1) := by decide +kernel
theorem dX9_goesOn_72 : decode cX9_goesOn 72 = .ok (.iinc 2 1, 3) := by decide +kernel
theorem dX9_goesOn_75 : decode cX9_goesOn 75 = .ok (.goto (-34), 3) := by decide +kernel
theorem dX9_goesOn_78 : decode cX9_goesOn 78 = .ok (.iconst 0, 1) := by decide +kernel
theorem dX9_goesOn_79 : decode cX9_goesOn 79 = .ok (.istore_n 2, 1) := by decide +kernel
theorem dX9_goesOn_80 : decode cX9_goesOn 80 = .ok (.iload_n 2, 1) := by decide +kernel
theorem dX9_goesOn_81 : decode cX9_goesOn 81 = .ok (.aload_n 0, 1) := by decide +kernel
theorem dX9_goesOn_82 : decode cX9_goesOn 82 = .ok (.getfield 7, 3) := by decide +kernel
theorem dX9_goesOn_85 : decode cX9_goesOn 85 = .ok (.iconst 0, 1) := by decide +kernel
theorem dX9_goesOn_86 : decode cX9_goesOn 86 = .ok (.iaload, 1) := by decide +kernel
theorem dX9_goesOn_87 : decode cX9_goesOn 87 = .ok (.if_icmp .ge 59, 3) := by decide +kernel
theorem dX9_goesOn_90 : decode cX9_goesOn 90 = .ok (.iconst 0, 1) := by decide +kernel
theorem dX9_goesOn_91 : decode cX9_goesOn 91 = .ok (.istore_n 3, 1) := by decide +kernel
theorem dX9_goesOn_92 : decode cX9_goesOn 92 = .ok (.iload_n 3, 1) := by decide +kernel
theorem dX9_goesOn_93 : decode cX9_goesOn 93 = .ok (.iconst 5, 1) := by decide +kernel
theorem dX9_goesOn_94 : decode cX9_goesOn 94 = .ok (.if_icmp .ge 46, 3) := by decide +kernel
theorem dX9_goesOn_97 : decode cX9_goesOn 97 = .ok (.iload_n 1, 1) := by decide +kernel
theorem dX9_goesOn_98 : decode cX9_goesOn 98 = .ok (.ifCond .ne 30, 3) := by decide +kernel
theorem dX9_goesOn_101 : decode cX9_goesOn 101 = .ok (.aload_n 0, 1) := by decide +kernel
theorem dX9_goesOn_102 : decode cX9_goesOn 102 = .ok (.getfield 7, 3) := by decide +kernel
theorem dX9_goesOn_105 : decode cX9_goesOn 105 = .ok (.iload_n 2, 1) := by decide +kernel
theorem dX9_goesOn_106 : decode cX9_goesOn 106 = .ok (.iconst 5, 1) := by decide +kernel
theorem dX9_goesOn_107 : decode cX9_goesOn 107 = .ok (.iload_n 3, 1) := by decide +kernel
theorem dX9_goesOn_108 : decode cX9_goesOn 108 = .ok (.iadd, 1) := by decide +kernel
theorem dX9_goesOn_109 : decode cX9_goesOn 109 = .ok (.invokestatic 77, 3) := by decide +kernel
theorem dX9_goesOn_112 : decode cX9_goesOn 112 = .ok (.iaload, 1) := by decide +kernel
theorem dX9_goesOn_113 : decode cX9_goesOn 113 = .ok (.aload_n 0, 1) := by decide +kernel
theorem dX9_goesOn_114 : decode cX9_goesOn 114 = .ok (.getfield 19, 3) := by decide +kernel
theorem dX9_goesOn_117 : decode cX9_goesOn 117 = .ok (.iload_n 2, 1) := by decide +kernel
theorem dX9_goesOn_118 : decode cX9_goesOn 118 = .ok (.iconst 5, 1) := by decide +kernel
theorem dX9_goesOn_119 : decode cX9_goesOn 119 = .ok (.iload_n 3, 1) := by decide +kernel
theorem dX9_goesOn_120 : decode cX9_goesOn 120 = .ok (.iadd, 1) := by decide +kernel
theorem dX9_goesOn_121 : decode cX9_goesOn 121 = .ok (.invokestatic 77, 3) := by decide +kernel
theorem dX9_goesOn_124 : decode cX9_goesOn 124 = .ok (.iaload, 1) := by decide +kernel
theorem dX9_goesOn_125 : decode cX9_goesOn 125 = .ok (.if_icmp .eq 7, 3) := by decide +kernel
theorem dX9_goesOn_128 : decode cX9_goesOn 128 = .ok (.iconst 1, 1) := by decide +kernel
theorem dX9_goesOn_129 : decode cX9_goesOn 129 = .ok (.goto 4, 3) := by decide +kernel
theorem dX9_goesOn_132 : decode cX9_goesOn 132 = .ok (.iconst 0, 1) := by decide +kernel
theorem dX9_goesOn_133 : decode cX9_goesOn 133 = .ok (.istore_n 1, 1) := by decide +kernel
theorem dX9_goesOn_134 : decode cX9_goesOn 134 = .ok (.iinc 3 1, 3) := by decide +kernel
theorem dX9_goesOn_137 : decode cX9_goesOn 137 = .ok (.goto (-45), 3) := by decide +kernel
theorem dX9_goesOn_140 : decode cX9_goesOn 140 = .ok (.iinc 2 1, 3) := by decide +kernel
theorem dX9_goesOn_143 : decode cX9_goesOn 143 = .ok (.goto (-63), 3) := by decide +kernel
theorem dX9_goesOn_146 : decode cX9_goesOn 146 = .ok (.iload_n 1, 1) := by decide +kernel
theorem dX9_goesOn_147 : decode cX9_goesOn 147 = .ok (.ifCond .ne 16, 3) := by decide +kernel
theorem dX9_goesOn_150 : decode cX9_goesOn 150 = .ok (.aload_n 0, 1) := by decide +kernel
theorem dX9_goesOn_151 : decode cX9_goesOn 151 = .ok (.getfield 19, 3) := by decide +kernel
theorem dX9_goesOn_154 : decode cX9_goesOn 154 = .ok (.iconst 0, 1) := by decide +kernel
theorem dX9_goesOn_155 : decode cX9_goesOn 155 = .ok (.aload_n 0, 1) := by decide +kernel
theorem dX9_goesOn_156 : decode cX9_goesOn 156 = .ok (.getfield 7, 3) := by decide +kernel
theorem dX9_goesOn_159 : decode cX9_goesOn 159 = .ok (.iconst 0, 1) := by decide +kernel
theorem dX9_goesOn_160 : decode cX9_goesOn 160 = .ok (.invokestatic 57, 3) := by decide +kernel
theorem dX9_goesOn_163 : decode cX9_goesOn 163 = .ok (.iload_n 1, 1) := by decide +kernel
theorem dX9_goesOn_164 : decode cX9_goesOn 164 = .ok (.ireturn, 1) := by decide +kernel
set_option maxRecDepth 20000 in
theorem ggX9_againstRun_X9_in : GoodIn wsX9_againstRun wsX9_in := goodIn_r _ [5] (by decide +kernel) (by decide +kernel)
set_option maxRecDepth 20000 in
theorem gX9_againstRun_X9_in : GoodIn wsX9_againstRun (va_wsS RX9 50 yX9_in wsX9_in) := goodIn_app (goodIn_of _ (by decide +kernel)) ggX9_againstRun_X9_in
theorem dX9_againstRun_0 : decode cX9_againstRun 0 = .ok (.iload_n 1, 1) := by decide +kernel
theorem dX9_againstRun_1 : decode cX9_againstRun 1 = .ok (.iconst 1, 1) := by decide +kernel
theorem dX9_againstRun_2 : decode cX9_againstRun 2 = .ok (.sipush 200, 3) := by decide +kernel
theorem dX9_againstRun_5 : decode cX9_againstRun 5 = .ok (.invokestatic 50, 3) := by decide +kernel
theorem dX9_againstRun_8 : decode cX9_againstRun 8 = .ok (.ifCond .ne 7, 3) := by decide +kernel
theorem dX9_againstRun_11 : decode cX9_againstRun 11 = .ok (.iconst 1, 1) := by decide +kernel
theorem dX9_againstRun_12 : decode cX9_againstRun 12 = .ok (.goto 17, 3) := by decide +kernel
theorem dX9_againstRun_15 : decode cX9_againstRun 15 = .ok (.aload_n 0, 1) := by decide +kernel
theorem dX9_againstRun_16 : decode cX9_againstRun 16 = .ok (.getfield 7, 3) := by decide +kernel
theorem dX9_againstRun_19 : decode cX9_againstRun 19 = .ok (.iconst 0, 1) := by decide +kernel
theorem dX9_againstRun_20 : decode cX9_againstRun 20 = .ok (.iaload, 1) := by decide +kernel
theorem dX9_againstRun_21 : decode cX9_againstRun 21 = .ok (.ifCond .ne 7, 3) := by decide +kernel
theorem dX9_againstRun_24 : decode cX9_againstRun 24 = .ok (.iconst 2, 1) := by decide +kernel
theorem dX9_againstRun_25 : decode cX9_againstRun 25 = .ok (.goto 4, 3) := by decide +kernel
theorem dX9_againstRun_28 : decode cX9_againstRun 28 = .ok (.iconst 0, 1) := by decide +kernel
theorem dX9_againstRun_29 : decode cX9_againstRun 29 = .ok (.ireturn, 1) := by decide +kernel
set_option maxRecDepth 20000 in
theorem ggX9_runs_X9_sum : GoodIn wsX9_runs wsX9_sum := goodIn_ca (goodIn_r _ [5, 6, 63, 64, 65, 66, 67, 68, 69, 70, 71, 72, 73, 74, 75, 76, 77, 78, 79, 80, 81, 82, 83, 84] (by decide +kernel) (by decide +kernel)) (goodIn_sub (fun _ h => List.mem_cons_of_mem _ (List.mem_append_left _ (List.mem_append_right _ h))) (by decide +kernel))
set_option maxRecDepth 20000 in
theorem gX9_runs_X9_sum : GoodIn wsX9_runs (wsV RX9 81 RX9 yX9_sum wsX9_sum) := goodIn_app (goodIn_of _ (by decide +kernel)) ggX9_runs_X9_sum
set_option maxRecDepth 20000 in
theorem ggX9_runs_X9_goesOn : GoodIn wsX9_runs wsX9_goesOn := goodIn_ca (goodIn_ca (goodIn_r _ [10, 6, 11, 12, 13, 4, 14, 15, 16, 17, 18, 19, 20, 1, 2, 3, 5, 21, 22, 23, 24, 25, 26, 27, 28, 29, 30, 31, 32, 33, 34, 35, 36, 37, 38, 39, 40, 41, 42, 43, 44, 45, 46, 47, 48, 49, 50, 51, 52, 53, 54, 55, 56, 57, 58, 59, 60, 61, 62, 63, 64, 65, 66, 67, 68, 69, 70, 71, 72, 73, 74, 75, 76, 77, 78, 79, 80, 81, 82, 83, 84] (by decide +kernel) (by decide +kernel)) (goodIn_sub (fun _ h => List.mem_cons_of_mem _ (List.mem_append_left _ (List.mem_append_right _ h))) (by decide +kernel))) (goodIn_sub (fun _ h => List.mem_cons_of_mem _ (List.mem_append_right _ h)) (by decide +kernel))
set_option maxRecDepth 20000 in
theorem gX9_runs_X9_goesOn : GoodIn wsX9_runs (wsV RX9 134 RX9 yX9_goesOn wsX9_goesOn) := goodIn_app (goodIn_of _ (by decide +kernel)) ggX9_runs_X9_goesOn
theorem dX9_runs_0 : decode cX9_runs 0 = .ok (.iconst 0, 1) := by decide +kernel
theorem dX9_runs_1 : decode cX9_runs 1 = .ok (.istore_n 2, 1) := by decide +kernel
theorem dX9_runs_2 : decode cX9_runs 2 = .ok (.iload_n 2, 1) := by decide +kernel
theorem dX9_runs_3 : decode cX9_runs 3 = .ok (.iload_n 1, 1) := by decide +kernel
theorem dX9_runs_4 : decode cX9_runs 4 = .ok (.if_icmp .ge 25, 3) := by decide +kernel
theorem dX9_runs_7 : decode cX9_runs 7 = .ok (.aload_n 0, 1) := by decide +kernel
theorem dX9_runs_8 : decode cX9_runs 8 = .ok (.bipush 11, 2) := by decide +kernel
theorem dX9_runs_10 : decode cX9_runs 10 = .ok (.invokevirtual 81, 3) := by decide +kernel
theorem dX9_runs_13 : decode cX9_runs 13 = .ok (.ifCond .le 16, 3) := by decide +kernel
theorem dX9_runs_16 : decode cX9_runs 16 = .ok (.aload_n 0, 1) := by decide +kernel
theorem dX9_runs_17 : decode cX9_runs 17 = .ok (.invokevirtual 134, 3) := by decide +kernel
theorem dX9_runs_20 : decode cX9_runs 20 = .ok (.ifCond .eq 9, 3) := by decide +kernel
theorem dX9_runs_23 : decode cX9_runs 23 = .ok (.iinc 2 1, 3) := by decide +kernel
theorem dX9_runs_26 : decode cX9_runs 26 = .ok (.goto (-24), 3) := by decide +kernel
theorem dX9_runs_29 : decode cX9_runs 29 = .ok (.iload_n 2, 1) := by decide +kernel
theorem dX9_runs_30 : decode cX9_runs 30 = .ok (.ireturn, 1) := by decide +kernel
set_option maxRecDepth 20000 in
theorem ggX9_run_X9_againstRun : GoodIn wsX9_run wsX9_againstRun := goodIn_ca (goodIn_r _ [7, 2, 8, 9, 6, 10, 81, 82, 83, 84, 85, 86, 87, 88, 89, 90, 91, 92, 93, 94, 95, 96, 97, 98, 99, 100, 101, 102] (by decide +kernel) (by decide +kernel)) (goodIn_sub (fun _ h => List.mem_cons_of_mem _ (List.mem_append_left _ (List.mem_append_right _ h))) (by decide +kernel))
set_option maxRecDepth 20000 in
theorem gX9_run_X9_againstRun : GoodIn wsX9_run (wsV RX9 138 RX9 yX9_againstRun wsX9_againstRun) := goodIn_app (goodIn_of _ (by decide +kernel)) ggX9_run_X9_againstRun
set_option maxRecDepth 20000 in
theorem ggX9_run_X9_changes : GoodIn wsX9_run wsX9_changes := goodIn_ca (goodIn_r _ [14, 15, 16, 17, 18, 6, 19, 81, 82, 83, 84, 85, 86, 87, 88, 89, 90, 91, 92, 93, 94, 95, 96, 97, 98, 99, 100, 101, 102] (by decide +kernel) (by decide +kernel)) (goodIn_sub (fun _ h => List.mem_cons_of_mem _ (List.mem_append_left _ (List.mem_append_right _ h))) (by decide +kernel))
set_option maxRecDepth 20000 in
theorem gX9_run_X9_changes : GoodIn wsX9_run (wsV RX9 73 RX9 yX9_changes wsX9_changes) := goodIn_app (goodIn_of _ (by decide +kernel)) ggX9_run_X9_changes
set_option maxRecDepth 20000 in
theorem ggX9_run_X9_runs : GoodIn wsX9_run wsX9_runs := goodIn_ca (goodIn_ca (goodIn_r _ [23, 24, 25, 26, 6, 27, 2, 28, 29, 30, 31, 32, 17, 18, 19, 33, 34, 35, 36, 37, 38, 39, 40, 41, 42, 43, 44, 45, 46, 47, 48, 49, 50, 51, 52, 53, 54, 55, 56, 57, 58, 59, 60, 61, 62, 63, 64, 65, 66, 67, 68, 69, 70, 71, 72, 73, 74, 75, 76, 77, 78, 79, 80, 81, 82, 83, 84, 85, 86, 87, 88, 89, 90, 91, 92, 93, 94, 95, 96, 97, 98, 99, 100, 101, 102] (by decide +kernel) (by decide +kernel)) (goodIn_sub (fun _ h => List.mem_cons_of_mem _ (List.mem_append_left _ (List.mem_append_right _ h))) (by decide +kernel))) (goodIn_sub (fun _ h => List.mem_cons_of_mem _ (List.mem_append_right _ h)) (by decide +kernel))
set_option maxRecDepth 20000 in
theorem gX9_run_X9_runs : GoodIn wsX9_run (wsV RX9 141 RX9 yX9_runs wsX9_runs) := goodIn_app (goodIn_of _ (by decide +kernel)) ggX9_run_X9_runs
theorem dX9_run_0 : decode cX9_run 0 = .ok (.aload_n 0, 1) := by decide +kernel
theorem dX9_run_1 : decode cX9_run 1 = .ok (.aload_n 0, 1) := by decide +kernel
theorem dX9_run_2 : decode cX9_run 2 = .ok (.iload_n 1, 1) := by decide +kernel
theorem dX9_run_3 : decode cX9_run 3 = .ok (.invokevirtual 138, 3) := by decide +kernel
theorem dX9_run_6 : decode cX9_run 6 = .ok (.putfield 46, 3) := by decide +kernel
theorem dX9_run_9 : decode cX9_run 9 = .ok (.aload_n 0, 1) := by decide +kernel
theorem dX9_run_10 : decode cX9_run 10 = .ok (.getfield 46, 3) := by decide +kernel
theorem dX9_run_13 : decode cX9_run 13 = .ok (.ifCond .le 5, 3) := by decide +kernel
theorem dX9_run_16 : decode cX9_run 16 = .ok (.iconst 0, 1) := by decide +kernel
theorem dX9_run_17 : decode cX9_run 17 = .ok (.ireturn, 1) := by decide +kernel
theorem dX9_run_18 : decode cX9_run 18 = .ok (.aload_n 0, 1) := by decide +kernel
theorem dX9_run_19 : decode cX9_run 19 = .ok (.aload_n 0, 1) := by decide +kernel
theorem dX9_run_20 : decode cX9_run 20 = .ok (.getfield 7, 3) := by decide +kernel
theorem dX9_run_23 : decode cX9_run 23 = .ok (.invokevirtual 73, 3) := by decide +kernel
theorem dX9_run_26 : decode cX9_run 26 = .ok (.aload_n 0, 1) := by decide +kernel
theorem dX9_run_27 : decode cX9_run 27 = .ok (.iload_n 1, 1) := by decide +kernel
theorem dX9_run_28 : decode cX9_run 28 = .ok (.invokevirtual 141, 3) := by decide +kernel
theorem dX9_run_31 : decode cX9_run 31 = .ok (.ireturn, 1) := by decide +kernel
set_option maxRecDepth 20000 in
theorem ggX9_isSettled_X9_copies : GoodIn wsX9_isSettled wsX9_copies := goodIn_ca (goodIn_r _ [7] (by decide +kernel) (by decide +kernel)) (goodIn_sub (fun _ h => List.mem_cons_of_mem _ (List.mem_append_left _ (List.mem_append_right _ h))) (by decide +kernel))
set_option maxRecDepth 20000 in
theorem gX9_isSettled_X9_copies : GoodIn wsX9_isSettled (va_wsS RX9 57 yX9_copies wsX9_copies) := goodIn_app (goodIn_of _ (by decide +kernel)) ggX9_isSettled_X9_copies
set_option maxRecDepth 20000 in
theorem ggX9_isSettled_X9_goesOn : GoodIn wsX9_isSettled wsX9_goesOn := goodIn_ca (goodIn_ca (goodIn_r _ [11, 1, 12, 4, 5, 6, 7, 13, 14, 15, 16, 17, 18, 19, 20, 21, 22, 23, 24, 25, 26, 27, 28, 29, 30, 31, 32, 33, 34, 35, 36, 37, 38, 39, 40, 41, 42, 43, 44, 45, 46, 47, 48, 49, 50, 51, 52, 53, 54, 55, 56, 57, 58, 59, 60, 61, 62, 63, 64, 65, 66, 67, 68, 69, 70, 71, 72, 73, 74, 75, 76, 77, 78, 79, 80, 81, 82, 83, 84, 85, 86] (by decide +kernel) (by decide +kernel)) (goodIn_sub (fun _ h => List.mem_cons_of_mem _ (List.mem_append_left _ (List.mem_append_right _ h))) (by decide +kernel))) (goodIn_sub (fun _ h => List.mem_cons_of_mem _ (List.mem_append_right _ h)) (by decide +kernel))
set_option maxRecDepth 20000 in
theorem gX9_isSettled_X9_goesOn : GoodIn wsX9_isSettled (wsV RX9 134 RX9 yX9_goesOn wsX9_goesOn) := goodIn_app (goodIn_of _ (by decide +kernel)) ggX9_isSettled_X9_goesOn
theorem dX9_isSettled_0 : decode cX9_isSettled 0 = .ok (.aload_n 0, 1) := by decide +kernel
theorem dX9_isSettled_1 : decode cX9_isSettled 1 = .ok (.aload_n 0, 1) := by decide +kernel
theorem dX9_isSettled_2 : decode cX9_isSettled 2 = .ok (.getfield 7, 3) := by decide +kernel
theorem dX9_isSettled_5 : decode cX9_isSettled 5 = .ok (.iconst 0, 1) := by decide +kernel
theorem dX9_isSettled_6 : decode cX9_isSettled 6 = .ok (.iaload, 1) := by decide +kernel
theorem dX9_isSettled_7 : decode cX9_isSettled 7 = .ok (.ifCond .ne 7, 3) := by decide +kernel
theorem dX9_isSettled_10 : decode cX9_isSettled 10 = .ok (.iconst 1, 1) := by decide +kernel
theorem dX9_isSettled_11 : decode cX9_isSettled 11 = .ok (.goto 4, 3) := by decide +kernel
theorem dX9_isSettled_14 : decode cX9_isSettled 14 = .ok (.iconst 0, 1) := by decide +kernel
theorem dX9_isSettled_15 : decode cX9_isSettled 15 = .ok (.putfield 46, 3) := by decide +kernel
theorem dX9_isSettled_18 : decode cX9_isSettled 18 = .ok (.aload_n 0, 1) := by decide +kernel
theorem dX9_isSettled_19 : decode cX9_isSettled 19 = .ok (.getfield 46, 3) := by decide +kernel
theorem dX9_isSettled_22 : decode cX9_isSettled 22 = .ok (.ifCond .le 5, 3) := by decide +kernel
theorem dX9_isSettled_25 : decode cX9_isSettled 25 = .ok (.iconst 0, 1) := by decide +kernel
theorem dX9_isSettled_26 : decode cX9_isSettled 26 = .ok (.ireturn, 1) := by decide +kernel
theorem dX9_isSettled_27 : decode cX9_isSettled 27 = .ok (.aload_n 0, 1) := by decide +kernel
theorem dX9_isSettled_28 : decode cX9_isSettled 28 = .ok (.getfield 7, 3) := by decide +kernel
theorem dX9_isSettled_31 : decode cX9_isSettled 31 = .ok (.iconst 0, 1) := by decide +kernel
theorem dX9_isSettled_32 : decode cX9_isSettled 32 = .ok (.aload_n 0, 1) := by decide +kernel
theorem dX9_isSettled_33 : decode cX9_isSettled 33 = .ok (.getfield 16, 3) := by decide +kernel
theorem dX9_isSettled_36 : decode cX9_isSettled 36 = .ok (.iconst 0, 1) := by decide +kernel
theorem dX9_isSettled_37 : decode cX9_isSettled 37 = .ok (.invokestatic 57, 3) := by decide +kernel
theorem dX9_isSettled_40 : decode cX9_isSettled 40 = .ok (.aload_n 0, 1) := by decide +kernel
theorem dX9_isSettled_41 : decode cX9_isSettled 41 = .ok (.invokevirtual 134, 3) := by decide +kernel
theorem dX9_isSettled_44 : decode cX9_isSettled 44 = .ok (.ifCond .ne 7, 3) := by decide +kernel
theorem dX9_isSettled_47 : decode cX9_isSettled 47 = .ok (.iconst 1, 1) := by decide +kernel
theorem dX9_isSettled_48 : decode cX9_isSettled 48 = .ok (.goto 4, 3) := by decide +kernel
theorem dX9_isSettled_51 : decode cX9_isSettled 51 = .ok (.iconst 0, 1) := by decide +kernel
theorem dX9_isSettled_52 : decode cX9_isSettled 52 = .ok (.istore_n 1, 1) := by decide +kernel
theorem dX9_isSettled_53 : decode cX9_isSettled 53 = .ok (.aload_n 0, 1) := by decide +kernel
theorem dX9_isSettled_54 : decode cX9_isSettled 54 = .ok (.getfield 16, 3) := by decide +kernel
theorem dX9_isSettled_57 : decode cX9_isSettled 57 = .ok (.iconst 0, 1) := by decide +kernel
theorem dX9_isSettled_58 : decode cX9_isSettled 58 = .ok (.aload_n 0, 1) := by decide +kernel
theorem dX9_isSettled_59 : decode cX9_isSettled 59 = .ok (.getfield 7, 3) := by decide +kernel
theorem dX9_isSettled_62 : decode cX9_isSettled 62 = .ok (.iconst 0, 1) := by decide +kernel
theorem dX9_isSettled_63 : decode cX9_isSettled 63 = .ok (.invokestatic 57, 3) := by decide +kernel
theorem dX9_isSettled_66 : decode cX9_isSettled 66 = .ok (.iload_n 1, 1) := by decide +kernel
theorem dX9_isSettled_67 : decode cX9_isSettled 67 = .ok (.ireturn, 1) := by decide +kernel
set_option maxRecDepth 20000 in
theorem ggX9_settlesAfter_X9_copies : GoodIn wsX9_settlesAfter wsX9_copies := goodIn_ca (goodIn_r _ [7] (by decide +kernel) (by decide +kernel)) (goodIn_sub (fun _ h => List.mem_cons_of_mem _ (List.mem_append_left _ (List.mem_append_right _ h))) (by decide +kernel))
set_option maxRecDepth 20000 in
theorem gX9_settlesAfter_X9_copies : GoodIn wsX9_settlesAfter (va_wsS RX9 57 yX9_copies wsX9_copies) := goodIn_app (goodIn_of _ (by decide +kernel)) ggX9_settlesAfter_X9_copies
set_option maxRecDepth 20000 in
theorem ggX9_settlesAfter_X9_goesOn : GoodIn wsX9_settlesAfter wsX9_goesOn := goodIn_ca (goodIn_ca (goodIn_r _ [11, 1, 12, 4, 5, 6, 7, 13, 14, 15, 16, 17, 18, 19, 20, 21, 22, 23, 24, 25, 26, 27, 28, 29, 30, 31, 32, 33, 34, 35, 36, 37, 38, 39, 40, 41, 42, 43, 44, 45, 46, 47, 48, 49, 50, 51, 52, 53, 54, 55, 56, 57, 58, 59, 60, 61, 62, 63, 64, 69, 70, 71, 72, 73, 74, 75, 76, 77, 78, 79, 80, 81, 82, 83, 84, 85, 86, 87, 88, 89, 90] (by decide +kernel) (by decide +kernel)) (goodIn_sub (fun _ h => List.mem_cons_of_mem _ (List.mem_append_left _ (List.mem_append_right _ h))) (by decide +kernel))) (goodIn_sub (fun _ h => List.mem_cons_of_mem _ (List.mem_append_right _ h)) (by decide +kernel))
set_option maxRecDepth 20000 in
theorem gX9_settlesAfter_X9_goesOn : GoodIn wsX9_settlesAfter (wsV RX9 134 RX9 yX9_goesOn wsX9_goesOn) := goodIn_app (goodIn_of _ (by decide +kernel)) ggX9_settlesAfter_X9_goesOn
set_option maxRecDepth 20000 in
theorem ggX9_settlesAfter_X9_fails : GoodIn wsX9_settlesAfter wsX9_fails := goodIn_r _ [68, 2, 69, 70, 71, 72, 73, 74, 75, 76, 77, 78, 79, 80, 81, 82, 83, 84, 85, 86, 87, 88, 89, 90] (by decide +kernel) (by decide +kernel)
set_option maxRecDepth 20000 in
theorem gX9_settlesAfter_X9_fails : GoodIn wsX9_settlesAfter (wsV RX9 144 RX9 yX9_fails wsX9_fails) := goodIn_app (goodIn_of _ (by decide +kernel)) ggX9_settlesAfter_X9_fails
theorem dX9_settlesAfter_0 : decode cX9_settlesAfter 0 = .ok (.aload_n 0, 1) := by decide +kernel
theorem dX9_settlesAfter_1 : decode cX9_settlesAfter 1 = .ok (.aload_n 0, 1) := by decide +kernel
theorem dX9_settlesAfter_2 : decode cX9_settlesAfter 2 = .ok (.getfield 7, 3) := by decide +kernel
theorem dX9_settlesAfter_5 : decode cX9_settlesAfter 5 = .ok (.iconst 0, 1) := by decide +kernel
theorem dX9_settlesAfter_6 : decode cX9_settlesAfter 6 = .ok (.iaload, 1) := by decide +kernel
theorem dX9_settlesAfter_7 : decode cX9_settlesAfter 7 = .ok (.ifCond .ne 7, 3) := by decide +kernel
theorem dX9_settlesAfter_10 : decode cX9_settlesAfter 10 = .ok (.iconst 1, 1) := by decide +kernel
theorem dX9_settlesAfter_11 : decode cX9_settlesAfter 11 = .ok (.goto 4, 3) := by decide +kernel
theorem dX9_settlesAfter_14 : decode cX9_settlesAfter 14 = .ok (.iconst 0, 1) := by decide +kernel
theorem dX9_settlesAfter_15 : decode cX9_settlesAfter 15 = .ok (.putfield 46, 3) := by decide +kernel
theorem dX9_settlesAfter_18 : decode cX9_settlesAfter 18 = .ok (.aload_n 0, 1) := by decide +kernel
theorem dX9_settlesAfter_19 : decode cX9_settlesAfter 19 = .ok (.getfield 46, 3) := by decide +kernel
theorem dX9_settlesAfter_22 : decode cX9_settlesAfter 22 = .ok (.ifCond .le 5, 3) := by decide +kernel
theorem dX9_settlesAfter_25 : decode cX9_settlesAfter 25 = .ok (.iconst 0, 1) := by decide +kernel
theorem dX9_settlesAfter_26 : decode cX9_settlesAfter 26 = .ok (.ireturn, 1) := by decide +kernel
theorem dX9_settlesAfter_27 : decode cX9_settlesAfter 27 = .ok (.aload_n 0, 1) := by decide +kernel
theorem dX9_settlesAfter_28 : decode cX9_settlesAfter 28 = .ok (.getfield 7, 3) := by decide +kernel
theorem dX9_settlesAfter_31 : decode cX9_settlesAfter 31 = .ok (.iconst 0, 1) := by decide +kernel
theorem dX9_settlesAfter_32 : decode cX9_settlesAfter 32 = .ok (.aload_n 0, 1) := by decide +kernel
theorem dX9_settlesAfter_33 : decode cX9_settlesAfter 33 = .ok (.getfield 16, 3) := by decide +kernel
theorem dX9_settlesAfter_36 : decode cX9_settlesAfter 36 = .ok (.iconst 0, 1) := by decide +kernel
theorem dX9_settlesAfter_37 : decode cX9_settlesAfter 37 = .ok (.invokestatic 57, 3) := by decide +kernel
theorem dX9_settlesAfter_40 : decode cX9_settlesAfter 40 = .ok (.iconst 0, 1) := by decide +kernel
theorem dX9_settlesAfter_41 : decode cX9_settlesAfter 41 = .ok (.istore_n 1, 1) := by decide +kernel
theorem dX9_settlesAfter_42 : decode cX9_settlesAfter 42 = .ok (.iload_n 1, 1) := by decide +kernel
theorem dX9_settlesAfter_43 : decode cX9_settlesAfter 43 = .ok (.sipush 300, 3) := by decide +kernel
theorem dX9_settlesAfter_46 : decode cX9_settlesAfter 46 = .ok (.if_icmp .gt 16, 3) := by decide +kernel
theorem dX9_settlesAfter_49 : decode cX9_settlesAfter 49 = .ok (.aload_n 0, 1) := by decide +kernel
theorem dX9_settlesAfter_50 : decode cX9_settlesAfter 50 = .ok (.invokevirtual 134, 3) := by decide +kernel
theorem dX9_settlesAfter_53 : decode cX9_settlesAfter 53 = .ok (.ifCond .eq 9, 3) := by decide +kernel
theorem dX9_settlesAfter_56 : decode cX9_settlesAfter 56 = .ok (.iinc 1 1, 3) := by decide +kernel
theorem dX9_settlesAfter_59 : decode cX9_settlesAfter 59 = .ok (.goto (-17), 3) := by decide +kernel
theorem dX9_settlesAfter_62 : decode cX9_settlesAfter 62 = .ok (.aload_n 0, 1) := by decide +kernel
theorem dX9_settlesAfter_63 : decode cX9_settlesAfter 63 = .ok (.getfield 16, 3) := by decide +kernel
theorem dX9_settlesAfter_66 : decode cX9_settlesAfter 66 = .ok (.iconst 0, 1) := by decide +kernel
theorem dX9_settlesAfter_67 : decode cX9_settlesAfter 67 = .ok (.aload_n 0, 1) := by decide +kernel
theorem dX9_settlesAfter_68 : decode cX9_settlesAfter 68 = .ok (.getfield 7, 3) := by decide +kernel
theorem dX9_settlesAfter_71 : decode cX9_settlesAfter 71 = .ok (.iconst 0, 1) := by decide +kernel
theorem dX9_settlesAfter_72 : decode cX9_settlesAfter 72 = .ok (.invokestatic 57, 3) := by decide +kernel
theorem dX9_settlesAfter_75 : decode cX9_settlesAfter 75 = .ok (.iload_n 1, 1) := by decide +kernel
theorem dX9_settlesAfter_76 : decode cX9_settlesAfter 76 = .ok (.sipush 300, 3) := by decide +kernel
theorem dX9_settlesAfter_79 : decode cX9_settlesAfter 79 = .ok (.if_icmp .le 11, 3) := by decide +kernel
theorem dX9_settlesAfter_82 : decode cX9_settlesAfter 82 = .ok (.aload_n 0, 1) := by decide +kernel
theorem dX9_settlesAfter_83 : decode cX9_settlesAfter 83 = .ok (.iconst 2, 1) := by decide +kernel
theorem dX9_settlesAfter_84 : decode cX9_settlesAfter 84 = .ok (.invokevirtual 144, 3) := by decide +kernel
theorem dX9_settlesAfter_87 : decode cX9_settlesAfter 87 = .ok (.goto 4, 3) := by decide +kernel
theorem dX9_settlesAfter_90 : decode cX9_settlesAfter 90 = .ok (.iload_n 1, 1) := by decide +kernel
theorem dX9_settlesAfter_91 : decode cX9_settlesAfter 91 = .ok (.ireturn, 1) := by decide +kernel
set_option maxRecDepth 20000 in
theorem ggX9_kilos_X9_isMachine : GoodIn wsX9_kilos wsX9_isMachine := goodIn_ca (goodIn_r _ [7, 2, 8, 9, 6, 10, 18, 19, 20, 21, 22, 23, 24, 25, 26, 27, 28, 29, 30, 31, 32, 33, 34, 35, 36, 37, 38, 39] (by decide +kernel) (by decide +kernel)) (goodIn_sub (fun _ h => List.mem_cons_of_mem _ (List.mem_append_right _ h)) (by decide +kernel))
set_option maxRecDepth 20000 in
theorem gX9_kilos_X9_isMachine : GoodIn wsX9_kilos (wsV RX9 85 RX9 yX9_isMachine wsX9_isMachine) := goodIn_app (goodIn_of _ (by decide +kernel)) ggX9_kilos_X9_isMachine
set_option maxRecDepth 20000 in
theorem ggX9_kilos_X9_in : GoodIn wsX9_kilos wsX9_in := goodIn_r _ [10] (by decide +kernel) (by decide +kernel)
set_option maxRecDepth 20000 in
theorem gX9_kilos_X9_in : GoodIn wsX9_kilos (va_wsS RX9 50 yX9_in wsX9_in) := goodIn_app (goodIn_of _ (by decide +kernel)) ggX9_kilos_X9_in
set_option maxRecDepth 20000 in
theorem ggX9_kilos_X9_machineAt : GoodIn wsX9_kilos wsX9_machineAt := goodIn_r _ [13] (by decide +kernel) (by decide +kernel)
set_option maxRecDepth 20000 in
theorem gX9_kilos_X9_machineAt : GoodIn wsX9_kilos (va_wsS RX9 77 yX9_machineAt wsX9_machineAt) := goodIn_app (goodIn_of _ (by decide +kernel)) ggX9_kilos_X9_machineAt
set_option maxRecDepth 20000 in
theorem ggX9_kilos_X9_sum : GoodIn wsX9_kilos wsX9_sum := goodIn_ca (goodIn_r _ [17, 2, 18, 19, 20, 21, 22, 23, 24, 25, 26, 27, 28, 29, 30, 31, 32, 33, 34, 35, 36, 37, 38, 39] (by decide +kernel) (by decide +kernel)) (goodIn_sub (fun _ h => List.mem_cons_of_mem _ (List.mem_append_right _ h)) (by decide +kernel))
set_option maxRecDepth 20000 in
theorem gX9_kilos_X9_sum : GoodIn wsX9_kilos (wsV RX9 81 RX9 yX9_sum wsX9_sum) := goodIn_app (goodIn_of _ (by decide +kernel)) ggX9_kilos_X9_sum
theorem dX9_kilos_0 : decode cX9_kilos 0 = .ok (.aload_n 0, 1) := by decide +kernel
theorem dX9_kilos_1 : decode cX9_kilos 1 = .ok (.aload_n 0, 1) := by decide +kernel
theorem dX9_kilos_2 : decode cX9_kilos 2 = .ok (.iload_n 1, 1) := by decide +kernel
theorem dX9_kilos_3 : decode cX9_kilos 3 = .ok (.invokevirtual 85, 3) := by decide +kernel
theorem dX9_kilos_6 : decode cX9_kilos 6 = .ok (.ifCond .ne 18, 3) := by decide +kernel
theorem dX9_kilos_9 : decode cX9_kilos 9 = .ok (.iload_n 1, 1) := by decide +kernel
theorem dX9_kilos_10 : decode cX9_kilos 10 = .ok (.bipush 10, 2) := by decide +kernel
theorem dX9_kilos_12 : decode cX9_kilos 12 = .ok (.bipush 11, 2) := by decide +kernel
theorem dX9_kilos_14 : decode cX9_kilos 14 = .ok (.invokestatic 50, 3) := by decide +kernel
theorem dX9_kilos_17 : decode cX9_kilos 17 = .ok (.ifCond .ne 7, 3) := by decide +kernel
theorem dX9_kilos_20 : decode cX9_kilos 20 = .ok (.iconst 1, 1) := by decide +kernel
theorem dX9_kilos_21 : decode cX9_kilos 21 = .ok (.goto 17, 3) := by decide +kernel
theorem dX9_kilos_24 : decode cX9_kilos 24 = .ok (.iload_n 2, 1) := by decide +kernel
theorem dX9_kilos_25 : decode cX9_kilos 25 = .ok (.iconst (-1), 1) := by decide +kernel
theorem dX9_kilos_26 : decode cX9_kilos 26 = .ok (.iconst 4, 1) := by decide +kernel
theorem dX9_kilos_27 : decode cX9_kilos 27 = .ok (.invokestatic 50, 3) := by decide +kernel
theorem dX9_kilos_30 : decode cX9_kilos 30 = .ok (.ifCond .eq 7, 3) := by decide +kernel
theorem dX9_kilos_33 : decode cX9_kilos 33 = .ok (.iconst 0, 1) := by decide +kernel
theorem dX9_kilos_34 : decode cX9_kilos 34 = .ok (.goto 4, 3) := by decide +kernel
theorem dX9_kilos_37 : decode cX9_kilos 37 = .ok (.iconst 2, 1) := by decide +kernel
theorem dX9_kilos_38 : decode cX9_kilos 38 = .ok (.putfield 46, 3) := by decide +kernel
theorem dX9_kilos_41 : decode cX9_kilos 41 = .ok (.aload_n 0, 1) := by decide +kernel
theorem dX9_kilos_42 : decode cX9_kilos 42 = .ok (.getfield 46, 3) := by decide +kernel
theorem dX9_kilos_45 : decode cX9_kilos 45 = .ok (.ifCond .le 5, 3) := by decide +kernel
theorem dX9_kilos_48 : decode cX9_kilos 48 = .ok (.iconst 0, 1) := by decide +kernel
theorem dX9_kilos_49 : decode cX9_kilos 49 = .ok (.ireturn, 1) := by decide +kernel
theorem dX9_kilos_50 : decode cX9_kilos 50 = .ok (.iload_n 1, 1) := by decide +kernel
theorem dX9_kilos_51 : decode cX9_kilos 51 = .ok (.bipush 10, 2) := by decide +kernel
theorem dX9_kilos_53 : decode cX9_kilos 53 = .ok (.if_icmp .ne 8, 3) := by decide +kernel
theorem dX9_kilos_56 : decode cX9_kilos 56 = .ok (.bipush 11, 2) := by decide +kernel
theorem dX9_kilos_58 : decode cX9_kilos 58 = .ok (.goto 19, 3) := by decide +kernel
theorem dX9_kilos_61 : decode cX9_kilos 61 = .ok (.iload_n 1, 1) := by decide +kernel
theorem dX9_kilos_62 : decode cX9_kilos 62 = .ok (.bipush 11, 2) := by decide +kernel
theorem dX9_kilos_64 : decode cX9_kilos 64 = .ok (.if_icmp .ne 8, 3) := by decide +kernel
theorem dX9_kilos_67 : decode cX9_kilos 67 = .ok (.bipush 16, 2) := by decide +kernel
theorem dX9_kilos_69 : decode cX9_kilos 69 = .ok (.goto 8, 3) := by decide +kernel
theorem dX9_kilos_72 : decode cX9_kilos 72 = .ok (.iload_n 1, 1) := by decide +kernel
theorem dX9_kilos_73 : decode cX9_kilos 73 = .ok (.iconst 5, 1) := by decide +kernel
theorem dX9_kilos_74 : decode cX9_kilos 74 = .ok (.invokestatic 77, 3) := by decide +kernel
theorem dX9_kilos_77 : decode cX9_kilos 77 = .ok (.istore_n 3, 1) := by decide +kernel
theorem dX9_kilos_78 : decode cX9_kilos 78 = .ok (.iload_n 2, 1) := by decide +kernel
theorem dX9_kilos_79 : decode cX9_kilos 79 = .ok (.ifCond .ge 11, 3) := by decide +kernel
theorem dX9_kilos_82 : decode cX9_kilos 82 = .ok (.aload_n 0, 1) := by decide +kernel
theorem dX9_kilos_83 : decode cX9_kilos 83 = .ok (.iload_n 3, 1) := by decide +kernel
theorem dX9_kilos_84 : decode cX9_kilos 84 = .ok (.invokevirtual 81, 3) := by decide +kernel
theorem dX9_kilos_87 : decode cX9_kilos 87 = .ok (.goto 11, 3) := by decide +kernel
theorem dX9_kilos_90 : decode cX9_kilos 90 = .ok (.aload_n 0, 1) := by decide +kernel
theorem dX9_kilos_91 : decode cX9_kilos 91 = .ok (.getfield 7, 3) := by decide +kernel
theorem dX9_kilos_94 : decode cX9_kilos 94 = .ok (.iload_n 3, 1) := by decide +kernel
theorem dX9_kilos_95 : decode cX9_kilos 95 = .ok (.iload_n 2, 1) := by decide +kernel
theorem dX9_kilos_96 : decode cX9_kilos 96 = .ok (.iadd, 1) := by decide +kernel
theorem dX9_kilos_97 : decode cX9_kilos 97 = .ok (.iaload, 1) := by decide +kernel
theorem dX9_kilos_98 : decode cX9_kilos 98 = .ok (.ireturn, 1) := by decide +kernel
set_option maxRecDepth 20000 in
theorem ggX9_isBale_X9_in : GoodIn wsX9_isBale wsX9_in := goodIn_r _ [5] (by decide +kernel) (by decide +kernel)
set_option maxRecDepth 20000 in
theorem gX9_isBale_X9_in : GoodIn wsX9_isBale (va_wsS RX9 50 yX9_in wsX9_in) := goodIn_app (goodIn_of _ (by decide +kernel)) ggX9_isBale_X9_in
theorem dX9_isBale_0 : decode cX9_isBale 0 = .ok (.iload_n 1, 1) := by decide +kernel
theorem dX9_isBale_1 : decode cX9_isBale 1 = .ok (.iconst 0, 1) := by decide +kernel
theorem dX9_isBale_2 : decode cX9_isBale 2 = .ok (.aload_n 0, 1) := by decide +kernel
theorem dX9_isBale_3 : decode cX9_isBale 3 = .ok (.getfield 7, 3) := by decide +kernel
theorem dX9_isBale_6 : decode cX9_isBale 6 = .ok (.iconst 2, 1) := by decide +kernel
theorem dX9_isBale_7 : decode cX9_isBale 7 = .ok (.iaload, 1) := by decide +kernel
theorem dX9_isBale_8 : decode cX9_isBale 8 = .ok (.iconst 1, 1) := by decide +kernel
theorem dX9_isBale_9 : decode cX9_isBale 9 = .ok (.isub, 1) := by decide +kernel
theorem dX9_isBale_10 : decode cX9_isBale 10 = .ok (.invokestatic 50, 3) := by decide +kernel
theorem dX9_isBale_13 : decode cX9_isBale 13 = .ok (.ireturn, 1) := by decide +kernel
set_option maxRecDepth 20000 in
theorem ggX9_kilosOf_X9_baleAt : GoodIn wsX9_kilosOf wsX9_baleAt := goodIn_r _ [4] (by decide +kernel) (by decide +kernel)
set_option maxRecDepth 20000 in
theorem gX9_kilosOf_X9_baleAt : GoodIn wsX9_kilosOf (va_wsS RX9 111 yX9_baleAt wsX9_baleAt) := goodIn_app (goodIn_of _ (by decide +kernel)) ggX9_kilosOf_X9_baleAt
set_option maxRecDepth 20000 in
theorem ggX9_kilosOf_X9_sum : GoodIn wsX9_kilosOf wsX9_sum := goodIn_ca (goodIn_r _ [8, 9, 10, 11, 12, 13, 14, 15, 16, 17, 18, 19, 20, 21, 22, 23, 24, 25, 26, 27, 28, 29, 30, 31] (by decide +kernel) (by decide +kernel)) (goodIn_sub (fun _ h => List.mem_cons_of_mem _ (List.mem_append_right _ h)) (by decide +kernel))
set_option maxRecDepth 20000 in
theorem gX9_kilosOf_X9_sum : GoodIn wsX9_kilosOf (wsV RX9 81 RX9 yX9_sum wsX9_sum) := goodIn_app (goodIn_of _ (by decide +kernel)) ggX9_kilosOf_X9_sum
theorem dX9_kilosOf_0 : decode cX9_kilosOf 0 = .ok (.aload_n 0, 1) := by decide +kernel
theorem dX9_kilosOf_1 : decode cX9_kilosOf 1 = .ok (.iload_n 1, 1) := by decide +kernel
theorem dX9_kilosOf_2 : decode cX9_kilosOf 2 = .ok (.iconst 0, 1) := by decide +kernel
theorem dX9_kilosOf_3 : decode cX9_kilosOf 3 = .ok (.invokestatic 111, 3) := by decide +kernel
theorem dX9_kilosOf_6 : decode cX9_kilosOf 6 = .ok (.invokevirtual 81, 3) := by decide +kernel
theorem dX9_kilosOf_9 : decode cX9_kilosOf 9 = .ok (.ireturn, 1) := by decide +kernel
set_option maxRecDepth 20000 in
theorem ggX9_pure_X9_baleAt : GoodIn wsX9_pure wsX9_baleAt := goodIn_r _ [5] (by decide +kernel) (by decide +kernel)
set_option maxRecDepth 20000 in
theorem gX9_pure_X9_baleAt : GoodIn wsX9_pure (va_wsS RX9 111 yX9_baleAt wsX9_baleAt) := goodIn_app (goodIn_of _ (by decide +kernel)) ggX9_pure_X9_baleAt
theorem dX9_pure_0 : decode cX9_pure 0 = .ok (.aload_n 0, 1) := by decide +kernel
theorem dX9_pure_1 : decode cX9_pure 1 = .ok (.getfield 7, 3) := by decide +kernel
theorem dX9_pure_4 : decode cX9_pure 4 = .ok (.iload_n 1, 1) := by decide +kernel
theorem dX9_pure_5 : decode cX9_pure 5 = .ok (.aload_n 0, 1) := by decide +kernel
theorem dX9_pure_6 : decode cX9_pure 6 = .ok (.getfield 7, 3) := by decide +kernel
theorem dX9_pure_9 : decode cX9_pure 9 = .ok (.iload_n 1, 1) := by decide +kernel
theorem dX9_pure_10 : decode cX9_pure 10 = .ok (.iconst 5, 1) := by decide +kernel
theorem dX9_pure_11 : decode cX9_pure 11 = .ok (.invokestatic 111, 3) := by decide +kernel
theorem dX9_pure_14 : decode cX9_pure 14 = .ok (.iaload, 1) := by decide +kernel
theorem dX9_pure_15 : decode cX9_pure 15 = .ok (.invokestatic 111, 3) := by decide +kernel
theorem dX9_pure_18 : decode cX9_pure 18 = .ok (.iaload, 1) := by decide +kernel
theorem dX9_pure_19 : decode cX9_pure 19 = .ok (.ireturn, 1) := by decide +kernel
set_option maxRecDepth 20000 in
theorem ggX9_bale_X9_isBale : GoodIn wsX9_bale wsX9_isBale := goodIn_ca (goodIn_r _ [7, 2, 8, 9, 6, 10, 33, 34, 35, 36, 37, 38, 39, 40, 41, 42, 43, 44, 45, 46, 47, 48, 49, 50, 51, 52, 53, 54] (by decide +kernel) (by decide +kernel)) (goodIn_sub (fun _ h => List.mem_cons_of_mem _ (List.mem_append_right _ h)) (by decide +kernel))
set_option maxRecDepth 20000 in
theorem gX9_bale_X9_isBale : GoodIn wsX9_bale (wsV RX9 147 RX9 yX9_isBale wsX9_isBale) := goodIn_app (goodIn_of _ (by decide +kernel)) ggX9_bale_X9_isBale
set_option maxRecDepth 20000 in
theorem ggX9_bale_X9_in : GoodIn wsX9_bale wsX9_in := goodIn_r _ [10] (by decide +kernel) (by decide +kernel)
set_option maxRecDepth 20000 in
theorem gX9_bale_X9_in : GoodIn wsX9_bale (va_wsS RX9 50 yX9_in wsX9_in) := goodIn_app (goodIn_of _ (by decide +kernel)) ggX9_bale_X9_in
set_option maxRecDepth 20000 in
theorem ggX9_bale_X9_kilosOf : GoodIn wsX9_bale wsX9_kilosOf := goodIn_ca (goodIn_r _ [14, 15, 16, 6, 17, 18, 19, 20, 21, 2, 33, 34, 35, 36, 37, 38, 39, 40, 41, 42, 43, 44, 45, 46, 47, 48, 49, 50, 51, 52, 53, 54] (by decide +kernel) (by decide +kernel)) (goodIn_sub (fun _ h => List.mem_cons_of_mem _ (List.mem_append_right _ h)) (by decide +kernel))
set_option maxRecDepth 20000 in
theorem gX9_bale_X9_kilosOf : GoodIn wsX9_bale (wsV RX9 150 RX9 yX9_kilosOf wsX9_kilosOf) := goodIn_app (goodIn_of _ (by decide +kernel)) ggX9_bale_X9_kilosOf
set_option maxRecDepth 20000 in
theorem ggX9_bale_X9_pure : GoodIn wsX9_bale wsX9_pure := goodIn_ca (goodIn_r _ [25, 2, 15, 16, 6, 17, 33, 34, 35, 36, 37, 38, 39, 40, 41, 42, 43, 44, 45, 46, 47, 48, 49, 50, 51, 52, 53, 54] (by decide +kernel) (by decide +kernel)) (goodIn_sub (fun _ h => List.mem_cons_of_mem _ (List.mem_append_right _ h)) (by decide +kernel))
set_option maxRecDepth 20000 in
theorem gX9_bale_X9_pure : GoodIn wsX9_bale (wsV RX9 153 RX9 yX9_pure wsX9_pure) := goodIn_app (goodIn_of _ (by decide +kernel)) ggX9_bale_X9_pure
set_option maxRecDepth 20000 in
theorem ggX9_bale_X9_baleAt : GoodIn wsX9_bale wsX9_baleAt := goodIn_r _ [17] (by decide +kernel) (by decide +kernel)
set_option maxRecDepth 20000 in
theorem gX9_bale_X9_baleAt : GoodIn wsX9_bale (va_wsS RX9 111 yX9_baleAt wsX9_baleAt) := goodIn_app (goodIn_of _ (by decide +kernel)) ggX9_bale_X9_baleAt
set_option maxRecDepth 20000 in
theorem ggX9_bale_X9_grade : GoodIn wsX9_bale wsX9_grade := goodIn_ca (goodIn_r _ [29, 2, 15, 16, 6, 17, 30, 31, 32, 33, 34, 35, 36, 37, 38, 39, 40, 41, 42, 43, 44, 45, 46, 47, 48, 49, 50, 51, 52, 53, 54] (by decide +kernel) (by decide +kernel)) (goodIn_sub (fun _ h => List.mem_cons_of_mem _ (List.mem_append_right _ h)) (by decide +kernel))
set_option maxRecDepth 20000 in
theorem gX9_bale_X9_grade : GoodIn wsX9_bale (wsV RX9 124 RX9 yX9_grade wsX9_grade) := goodIn_app (goodIn_of _ (by decide +kernel)) ggX9_bale_X9_grade
theorem dX9_bale_0 : decode cX9_bale 0 = .ok (.aload_n 0, 1) := by decide +kernel
theorem dX9_bale_1 : decode cX9_bale 1 = .ok (.aload_n 0, 1) := by decide +kernel
theorem dX9_bale_2 : decode cX9_bale 2 = .ok (.iload_n 1, 1) := by decide +kernel
theorem dX9_bale_3 : decode cX9_bale 3 = .ok (.invokevirtual 147, 3) := by decide +kernel
theorem dX9_bale_6 : decode cX9_bale 6 = .ok (.ifCond .eq 21, 3) := by decide +kernel
theorem dX9_bale_9 : decode cX9_bale 9 = .ok (.iload_n 2, 1) := by decide +kernel
theorem dX9_bale_10 : decode cX9_bale 10 = .ok (.iconst 0, 1) := by decide +kernel
theorem dX9_bale_11 : decode cX9_bale 11 = .ok (.bipush 11, 2) := by decide +kernel
theorem dX9_bale_13 : decode cX9_bale 13 = .ok (.invokestatic 50, 3) := by decide +kernel
theorem dX9_bale_16 : decode cX9_bale 16 = .ok (.ifCond .eq 7, 3) := by decide +kernel
theorem dX9_bale_19 : decode cX9_bale 19 = .ok (.iconst 0, 1) := by decide +kernel
theorem dX9_bale_20 : decode cX9_bale 20 = .ok (.goto 8, 3) := by decide +kernel
theorem dX9_bale_23 : decode cX9_bale 23 = .ok (.iconst 2, 1) := by decide +kernel
theorem dX9_bale_24 : decode cX9_bale 24 = .ok (.goto 4, 3) := by decide +kernel
theorem dX9_bale_27 : decode cX9_bale 27 = .ok (.iconst 1, 1) := by decide +kernel
theorem dX9_bale_28 : decode cX9_bale 28 = .ok (.putfield 46, 3) := by decide +kernel
theorem dX9_bale_31 : decode cX9_bale 31 = .ok (.aload_n 0, 1) := by decide +kernel
theorem dX9_bale_32 : decode cX9_bale 32 = .ok (.getfield 46, 3) := by decide +kernel
theorem dX9_bale_35 : decode cX9_bale 35 = .ok (.ifCond .le 5, 3) := by decide +kernel
theorem dX9_bale_38 : decode cX9_bale 38 = .ok (.iconst 0, 1) := by decide +kernel
theorem dX9_bale_39 : decode cX9_bale 39 = .ok (.ireturn, 1) := by decide +kernel
theorem dX9_bale_40 : decode cX9_bale 40 = .ok (.iload_n 2, 1) := by decide +kernel
theorem dX9_bale_41 : decode cX9_bale 41 = .ok (.tableswitch 103 6 11 #[39, 45, 61, 73, 79, 91], 39) := by decide +kernel
theorem dX9_bale_80 : decode cX9_bale 80 = .ok (.aload_n 0, 1) := by decide +kernel
theorem dX9_bale_81 : decode cX9_bale 81 = .ok (.iload_n 1, 1) := by decide +kernel
theorem dX9_bale_82 : decode cX9_bale 82 = .ok (.invokevirtual 150, 3) := by decide +kernel
theorem dX9_bale_85 : decode cX9_bale 85 = .ok (.ireturn, 1) := by decide +kernel
theorem dX9_bale_86 : decode cX9_bale 86 = .ok (.aload_n 0, 1) := by decide +kernel
theorem dX9_bale_87 : decode cX9_bale 87 = .ok (.iload_n 1, 1) := by decide +kernel
theorem dX9_bale_88 : decode cX9_bale 88 = .ok (.invokevirtual 153, 3) := by decide +kernel
theorem dX9_bale_91 : decode cX9_bale 91 = .ok (.sipush 1000, 3) := by decide +kernel
theorem dX9_bale_94 : decode cX9_bale 94 = .ok (.imul, 1) := by decide +kernel
theorem dX9_bale_95 : decode cX9_bale 95 = .ok (.aload_n 0, 1) := by decide +kernel
theorem dX9_bale_96 : decode cX9_bale 96 = .ok (.iload_n 1, 1) := by decide +kernel
theorem dX9_bale_97 : decode cX9_bale 97 = .ok (.invokevirtual 150, 3) := by decide +kernel
theorem dX9_bale_100 : decode cX9_bale 100 = .ok (.idiv, 1) := by decide +kernel
theorem dX9_bale_101 : decode cX9_bale 101 = .ok (.ireturn, 1) := by decide +kernel
theorem dX9_bale_102 : decode cX9_bale 102 = .ok (.aload_n 0, 1) := by decide +kernel
theorem dX9_bale_103 : decode cX9_bale 103 = .ok (.getfield 7, 3) := by decide +kernel
theorem dX9_bale_106 : decode cX9_bale 106 = .ok (.iload_n 1, 1) := by decide +kernel
theorem dX9_bale_107 : decode cX9_bale 107 = .ok (.bipush 6, 2) := by decide +kernel
theorem dX9_bale_109 : decode cX9_bale 109 = .ok (.invokestatic 111, 3) := by decide +kernel
theorem dX9_bale_112 : decode cX9_bale 112 = .ok (.iaload, 1) := by decide +kernel
theorem dX9_bale_113 : decode cX9_bale 113 = .ok (.ireturn, 1) := by decide +kernel
theorem dX9_bale_114 : decode cX9_bale 114 = .ok (.aload_n 0, 1) := by decide +kernel
theorem dX9_bale_115 : decode cX9_bale 115 = .ok (.iload_n 1, 1) := by decide +kernel
theorem dX9_bale_116 : decode cX9_bale 116 = .ok (.invokevirtual 124, 3) := by decide +kernel
theorem dX9_bale_119 : decode cX9_bale 119 = .ok (.ireturn, 1) := by decide +kernel
theorem dX9_bale_120 : decode cX9_bale 120 = .ok (.aload_n 0, 1) := by decide +kernel
theorem dX9_bale_121 : decode cX9_bale 121 = .ok (.getfield 7, 3) := by decide +kernel
theorem dX9_bale_124 : decode cX9_bale 124 = .ok (.iload_n 1, 1) := by decide +kernel
theorem dX9_bale_125 : decode cX9_bale 125 = .ok (.bipush 7, 2) := by decide +kernel
theorem dX9_bale_127 : decode cX9_bale 127 = .ok (.invokestatic 111, 3) := by decide +kernel
theorem dX9_bale_130 : decode cX9_bale 130 = .ok (.iaload, 1) := by decide +kernel
theorem dX9_bale_131 : decode cX9_bale 131 = .ok (.ireturn, 1) := by decide +kernel
theorem dX9_bale_132 : decode cX9_bale 132 = .ok (.aload_n 0, 1) := by decide +kernel
theorem dX9_bale_133 : decode cX9_bale 133 = .ok (.getfield 7, 3) := by decide +kernel
theorem dX9_bale_136 : decode cX9_bale 136 = .ok (.iload_n 1, 1) := by decide +kernel
theorem dX9_bale_137 : decode cX9_bale 137 = .ok (.bipush 8, 2) := by decide +kernel
theorem dX9_bale_139 : decode cX9_bale 139 = .ok (.invokestatic 111, 3) := by decide +kernel
theorem dX9_bale_142 : decode cX9_bale 142 = .ok (.iaload, 1) := by decide +kernel
theorem dX9_bale_143 : decode cX9_bale 143 = .ok (.ireturn, 1) := by decide +kernel
theorem dX9_bale_144 : decode cX9_bale 144 = .ok (.aload_n 0, 1) := by decide +kernel
theorem dX9_bale_145 : decode cX9_bale 145 = .ok (.getfield 7, 3) := by decide +kernel
theorem dX9_bale_148 : decode cX9_bale 148 = .ok (.iload_n 1, 1) := by decide +kernel
theorem dX9_bale_149 : decode cX9_bale 149 = .ok (.iload_n 2, 1) := by decide +kernel
theorem dX9_bale_150 : decode cX9_bale 150 = .ok (.invokestatic 111, 3) := by decide +kernel
theorem dX9_bale_153 : decode cX9_bale 153 = .ok (.iaload, 1) := by decide +kernel
theorem dX9_bale_154 : decode cX9_bale 154 = .ok (.ireturn, 1) := by decide +kernel
set_option maxRecDepth 20000 in
theorem ggX9_isAhead_X9_baleAt : GoodIn wsX9_isAhead wsX9_baleAt := goodIn_r _ [5] (by decide +kernel) (by decide +kernel)
set_option maxRecDepth 20000 in
theorem gX9_isAhead_X9_baleAt : GoodIn wsX9_isAhead (va_wsS RX9 111 yX9_baleAt wsX9_baleAt) := goodIn_app (goodIn_of _ (by decide +kernel)) ggX9_isAhead_X9_baleAt
theorem dX9_isAhead_0 : decode cX9_isAhead 0 = .ok (.aload_n 0, 1) := by decide +kernel
theorem dX9_isAhead_1 : decode cX9_isAhead 1 = .ok (.getfield 7, 3) := by decide +kernel
theorem dX9_isAhead_4 : decode cX9_isAhead 4 = .ok (.iload_n 1, 1) := by decide +kernel
theorem dX9_isAhead_5 : decode cX9_isAhead 5 = .ok (.bipush 6, 2) := by decide +kernel
theorem dX9_isAhead_7 : decode cX9_isAhead 7 = .ok (.invokestatic 111, 3) := by decide +kernel
theorem dX9_isAhead_10 : decode cX9_isAhead 10 = .ok (.iaload, 1) := by decide +kernel
theorem dX9_isAhead_11 : decode cX9_isAhead 11 = .ok (.aload_n 0, 1) := by decide +kernel
theorem dX9_isAhead_12 : decode cX9_isAhead 12 = .ok (.getfield 7, 3) := by decide +kernel
theorem dX9_isAhead_15 : decode cX9_isAhead 15 = .ok (.iload_n 2, 1) := by decide +kernel
theorem dX9_isAhead_16 : decode cX9_isAhead 16 = .ok (.bipush 6, 2) := by decide +kernel
theorem dX9_isAhead_18 : decode cX9_isAhead 18 = .ok (.invokestatic 111, 3) := by decide +kernel
theorem dX9_isAhead_21 : decode cX9_isAhead 21 = .ok (.iaload, 1) := by decide +kernel
theorem dX9_isAhead_22 : decode cX9_isAhead 22 = .ok (.if_icmp .eq 36, 3) := by decide +kernel
theorem dX9_isAhead_25 : decode cX9_isAhead 25 = .ok (.aload_n 0, 1) := by decide +kernel
theorem dX9_isAhead_26 : decode cX9_isAhead 26 = .ok (.getfield 7, 3) := by decide +kernel
theorem dX9_isAhead_29 : decode cX9_isAhead 29 = .ok (.iload_n 1, 1) := by decide +kernel
theorem dX9_isAhead_30 : decode cX9_isAhead 30 = .ok (.bipush 6, 2) := by decide +kernel
theorem dX9_isAhead_32 : decode cX9_isAhead 32 = .ok (.invokestatic 111, 3) := by decide +kernel
theorem dX9_isAhead_35 : decode cX9_isAhead 35 = .ok (.iaload, 1) := by decide +kernel
theorem dX9_isAhead_36 : decode cX9_isAhead 36 = .ok (.aload_n 0, 1) := by decide +kernel
theorem dX9_isAhead_37 : decode cX9_isAhead 37 = .ok (.getfield 7, 3) := by decide +kernel
theorem dX9_isAhead_40 : decode cX9_isAhead 40 = .ok (.iload_n 2, 1) := by decide +kernel
theorem dX9_isAhead_41 : decode cX9_isAhead 41 = .ok (.bipush 6, 2) := by decide +kernel
theorem dX9_isAhead_43 : decode cX9_isAhead 43 = .ok (.invokestatic 111, 3) := by decide +kernel
theorem dX9_isAhead_46 : decode cX9_isAhead 46 = .ok (.iaload, 1) := by decide +kernel
theorem dX9_isAhead_47 : decode cX9_isAhead 47 = .ok (.if_icmp .le 7, 3) := by decide +kernel
theorem dX9_isAhead_50 : decode cX9_isAhead 50 = .ok (.iconst 1, 1) := by decide +kernel
theorem dX9_isAhead_51 : decode cX9_isAhead 51 = .ok (.goto 17, 3) := by decide +kernel
theorem dX9_isAhead_54 : decode cX9_isAhead 54 = .ok (.iconst 0, 1) := by decide +kernel
theorem dX9_isAhead_55 : decode cX9_isAhead 55 = .ok (.goto 13, 3) := by decide +kernel
theorem dX9_isAhead_58 : decode cX9_isAhead 58 = .ok (.iload_n 1, 1) := by decide +kernel
theorem dX9_isAhead_59 : decode cX9_isAhead 59 = .ok (.iload_n 2, 1) := by decide +kernel
theorem dX9_isAhead_60 : decode cX9_isAhead 60 = .ok (.if_icmp .ge 7, 3) := by decide +kernel
theorem dX9_isAhead_63 : decode cX9_isAhead 63 = .ok (.iconst 1, 1) := by decide +kernel
theorem dX9_isAhead_64 : decode cX9_isAhead 64 = .ok (.goto 4, 3) := by decide +kernel
theorem dX9_isAhead_67 : decode cX9_isAhead 67 = .ok (.iconst 0, 1) := by decide +kernel
theorem dX9_isAhead_68 : decode cX9_isAhead 68 = .ok (.ireturn, 1) := by decide +kernel
set_option maxRecDepth 20000 in
theorem ggX9_orders_X9_baleAt : GoodIn wsX9_orders wsX9_baleAt := goodIn_r _ [7] (by decide +kernel) (by decide +kernel)
set_option maxRecDepth 20000 in
theorem gX9_orders_X9_baleAt : GoodIn wsX9_orders (va_wsS RX9 111 yX9_baleAt wsX9_baleAt) := goodIn_app (goodIn_of _ (by decide +kernel)) ggX9_orders_X9_baleAt
set_option maxRecDepth 20000 in
theorem ggX9_orders_X9_isAhead : GoodIn wsX9_orders wsX9_isAhead := goodIn_ca (goodIn_r _ [11, 2, 4, 5, 6, 7, 12, 13, 14, 15, 16, 17, 18, 19, 20, 21, 22, 23, 24, 25, 26, 27, 28, 29, 30, 31, 32, 33] (by decide +kernel) (by decide +kernel)) (goodIn_sub (fun _ h => List.mem_cons_of_mem _ (List.mem_append_right _ h)) (by decide +kernel))
